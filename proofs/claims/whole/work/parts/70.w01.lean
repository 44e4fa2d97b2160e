/-! SealedTokens$Bytes.<init>(I)V -/
theorem dX0_init_0 : decode cX0_init 0 = .ok (.aload_n 0, 1) := by decide +kernel
theorem dX0_init_1 : decode cX0_init 1 = .ok (.invokespecial 3, 3) := by decide +kernel
theorem dX0_init_4 : decode cX0_init 4 = .ok (.aload_n 0, 1) := by decide +kernel
theorem dX0_init_5 : decode cX0_init 5 = .ok (.iload_n 1, 1) := by decide +kernel
theorem dX0_init_6 : decode cX0_init 6 = .ok (.iconst 0, 1) := by decide +kernel
theorem dX0_init_7 : decode cX0_init 7 = .ok (.invokestatic 9, 3) := by decide +kernel
theorem dX0_init_10 : decode cX0_init 10 = .ok (.newarray .int, 2) := by decide +kernel
theorem dX0_init_12 : decode cX0_init 12 = .ok (.putfield 15, 3) := by decide +kernel
theorem dX0_init_15 : decode cX0_init 15 = .ok (.return_, 1) := by decide +kernel
theorem mP_X0_init {G : mG} {F : Nat} {M0 : mM} {Z0 S0 : Nat} {l0 : Nat} {l1 : Int32} {M : mM} {sz : Nat} {sl : Nat} (h : P_X0_init G F l0 l1 M sz sl = some (M0, Z0, S0)) : sz ≤ Z0 ∧ sl ≤ S0 := by
  unfold P_X0_init at h
  obtain ⟨M10, e10, h⟩ := bO_some h
  obtain ⟨M12, e12, h⟩ := bO_some h
  have q := retA_v h
  omega
set_option maxHeartbeats 4000000 in
set_option maxRecDepth 100000 in
theorem wP_X0_init {G : mG} {F : Nat} {x : mXT} {z0 s0 : Nat} {M0 : mM} {Z0 S0 : Nat} (X : mCX G RX0 cX0_init 2 none "<init>" { frames := 1, cells := Z0 - z0, slots := S0 - s0, locals := 21 } x) (hQ : mQV x M0 (Z0, Z0 - z0, S0 - s0)) {l0 : Nat} {l1 : Int32} {M : mM} {sz : Nat} {sl : Nat} (hz0 : z0 ≤ sz) (hs0 : s0 ≤ sl) (h : P_X0_init G F l0 l1 M sz sl = some (M0, Z0, S0)) : WW x (sz, sz - z0, sl - s0) M 0 [(0, .ref l0), (1, .int l1)] [] := by
  unfold P_X0_init at h
  obtain ⟨M10, e10, h⟩ := bO_some h
  obtain ⟨M12, e12, h⟩ := bO_some h
  have q := retA_v h
  refine ww_aload_n 0 X dX0_init_0 0 rfl rfl ?_
  refine ww_objI 1 X (st := []) dX0_init_1 oL_X0_3 oI_i oI_c (Nat.le_of_ble_eq_true rfl) (Nat.le_of_ble_eq_true rfl) (Nat.le_of_ble_eq_true rfl) ?_
  refine ww_aload_n 4 X dX0_init_4 0 rfl rfl ?_
  refine ww_iload_n 5 X dX0_init_5 1 rfl rfl ?_
  refine ww_iconst 6 X (v := (0 : Int32)) dX0_init_6 (by decide) ?_
  refine ww_mmax 7 X (st := [.ref l0]) dX0_init_7 mL_X0_9 (Nat.le_of_ble_eq_true rfl) (Nat.le_of_ble_eq_true rfl) (Nat.le_of_ble_eq_true rfl) ⟨by show _ ≤ Z0 - z0; dsimp only; omega, by show _ ≤ S0 - s0; dsimp only; omega⟩ ?_
  refine ww_newA 10 X (sz := sz) (sl := sl) (z0 := z0) (s0 := s0) dX0_init_10 (k := 0) (by decide) rfl aC_0 e10 (by omega) (by omega) (by show _ ≤ Z0 - z0; omega) (by show _ ≤ S0 - s0; omega) ?_
  refine ww_putR 12 X dX0_init_12 (fP_X0_15 _ (Or.inr rfl)) e12 rfl rfl ?_
  exact ww_vretA 15 X hQ dX0_init_15 h
theorem c_X0_init {G : mG} {F : Nat} {M0 : mM} {Z0 S0 : Nat} (l : Launch) (D : mD) (A : Nat → Prop) {l0 : Nat} {l1 : Int32} {M : mM} {sz : Nat} {sl : Nat} (h : P_X0_init G F l0 l1 M sz sl = some (M0, Z0, S0)) : mMetV l D G A yX0_init cX0_init 2 none 1 21 (Z0 - sz) (S0 - sl) [.ref l0, .int l1] M sz M0 Z0 := mMetV_of l D G A (by decide) (Nat.le_of_ble_eq_true rfl) (fun x X hQ => by have K := wP_X0_init X hQ (Nat.le_refl sz) (Nat.le_refl sl) h; rw [Nat.sub_self, Nat.sub_self] at K; exact K)
/-! SealedTokens$Bytes.clear()V -/
theorem dX0_clear_0 : decode cX0_clear 0 = .ok (.aload_n 0, 1) := by decide +kernel
theorem dX0_clear_1 : decode cX0_clear 1 = .ok (.iconst 0, 1) := by decide +kernel
theorem dX0_clear_2 : decode cX0_clear 2 = .ok (.putfield 21, 3) := by decide +kernel
theorem dX0_clear_5 : decode cX0_clear 5 = .ok (.aload_n 0, 1) := by decide +kernel
theorem dX0_clear_6 : decode cX0_clear 6 = .ok (.iconst 0, 1) := by decide +kernel
theorem dX0_clear_7 : decode cX0_clear 7 = .ok (.putfield 25, 3) := by decide +kernel
theorem dX0_clear_10 : decode cX0_clear 10 = .ok (.return_, 1) := by decide +kernel
abbrev rmX0_clear : Room := { frames := 0, cells := 0, slots := 0, locals := 0 }
set_option maxHeartbeats 4000000 in
set_option maxRecDepth 100000 in
theorem wP_X0_clear {G : mG} {F : Nat} {x : mXT} {sz : Nat} {M0 : mM} (X : mCX G RX0 cX0_clear 1 none "clear" rmX0_clear x) (hQ : mQV x M0 (sz, 0, 0)) {l0 : Nat} {M : mM} (h : P_X0_clear G F l0 M = some M0) : WW x (sz, 0, 0) M 0 [(0, .ref l0)] [] := by
  unfold P_X0_clear at h
  refine ww_aload_n 0 X dX0_clear_0 0 rfl rfl ?_
  refine ww_iconst 1 X (v := (0 : Int32)) dX0_clear_1 (by decide) ?_
  obtain ⟨M2, e2, h⟩ := bO_some h
  refine ww_putI 2 X dX0_clear_2 (fP_X0_21 _) e2 ?_
  refine ww_aload_n 5 X dX0_clear_5 0 rfl rfl ?_
  refine ww_iconst 6 X (v := (0 : Int32)) dX0_clear_6 (by decide) ?_
  obtain ⟨M7, e7, h⟩ := bO_some h
  refine ww_putZ 7 X dX0_clear_7 (fP_X0_25 _) e7 ?_
  exact ww_vretE 10 X hQ dX0_clear_10 h
theorem c_X0_clear {G : mG} {F sz : Nat} {M0 : mM} (l : Launch) (D : mD) (A : Nat → Prop) {l0 : Nat} {M : mM} (h : P_X0_clear G F l0 M = some M0) : mMetV l D G A yX0_clear cX0_clear 1 none 0 0 0 0 [.ref l0] M sz M0 sz := mMetV_of l D G A (by decide) (Nat.le_of_ble_eq_true rfl) (fun x X hQ => wP_X0_clear X hQ h)
/-! SealedTokens$Bytes.cutTo(I)V -/
theorem dX0_cutTo_0 : decode cX0_cutTo 0 = .ok (.aload_n 0, 1) := by decide +kernel
theorem dX0_cutTo_1 : decode cX0_cutTo 1 = .ok (.iconst 0, 1) := by decide +kernel
theorem dX0_cutTo_2 : decode cX0_cutTo 2 = .ok (.iload_n 1, 1) := by decide +kernel
theorem dX0_cutTo_3 : decode cX0_cutTo 3 = .ok (.aload_n 0, 1) := by decide +kernel
theorem dX0_cutTo_4 : decode cX0_cutTo 4 = .ok (.getfield 21, 3) := by decide +kernel
theorem dX0_cutTo_7 : decode cX0_cutTo 7 = .ok (.invokestatic 29, 3) := by decide +kernel
theorem dX0_cutTo_10 : decode cX0_cutTo 10 = .ok (.invokestatic 9, 3) := by decide +kernel
theorem dX0_cutTo_13 : decode cX0_cutTo 13 = .ok (.putfield 21, 3) := by decide +kernel
theorem dX0_cutTo_16 : decode cX0_cutTo 16 = .ok (.return_, 1) := by decide +kernel
abbrev rmX0_cutTo : Room := { frames := 1, cells := 0, slots := 0, locals := 21 }
set_option maxHeartbeats 4000000 in
set_option maxRecDepth 100000 in
theorem wP_X0_cutTo {G : mG} {F : Nat} {x : mXT} {sz : Nat} {M0 : mM} (X : mCX G RX0 cX0_cutTo 2 none "cutTo" rmX0_cutTo x) (hQ : mQV x M0 (sz, 0, 0)) {l0 : Nat} {l1 : Int32} {M : mM} (h : P_X0_cutTo G F l0 l1 M = some M0) : WW x (sz, 0, 0) M 0 [(0, .ref l0), (1, .int l1)] [] := by
  unfold P_X0_cutTo at h
  refine ww_aload_n 0 X dX0_cutTo_0 0 rfl rfl ?_
  refine ww_iconst 1 X (v := (0 : Int32)) dX0_cutTo_1 (by decide) ?_
  refine ww_iload_n 2 X dX0_cutTo_2 1 rfl rfl ?_
  refine ww_aload_n 3 X dX0_cutTo_3 0 rfl rfl ?_
  obtain ⟨v4, e4, h⟩ := bO_some h
  refine ww_getI 4 X dX0_cutTo_4 fG_X0_21 e4 ?_
  refine ww_mmin 7 X (st := [.int (0 : Int32), .ref l0]) dX0_cutTo_7 mL_X0_29 (Nat.le_of_ble_eq_true rfl) (Nat.le_of_ble_eq_true rfl) (Nat.le_of_ble_eq_true rfl) ⟨Nat.zero_le _, Nat.zero_le _⟩ ?_
  refine ww_mmax 10 X (st := [.ref l0]) dX0_cutTo_10 mL_X0_9 (Nat.le_of_ble_eq_true rfl) (Nat.le_of_ble_eq_true rfl) (Nat.le_of_ble_eq_true rfl) ⟨Nat.zero_le _, Nat.zero_le _⟩ ?_
  obtain ⟨M13, e13, h⟩ := bO_some h
  refine ww_putI 13 X dX0_cutTo_13 (fP_X0_21 _) e13 ?_
  exact ww_vretE 16 X hQ dX0_cutTo_16 h
theorem c_X0_cutTo {G : mG} {F sz : Nat} {M0 : mM} (l : Launch) (D : mD) (A : Nat → Prop) {l0 : Nat} {l1 : Int32} {M : mM} (h : P_X0_cutTo G F l0 l1 M = some M0) : mMetV l D G A yX0_cutTo cX0_cutTo 2 none 1 21 0 0 [.ref l0, .int l1] M sz M0 sz := mMetV_of l D G A (by decide) (Nat.le_of_ble_eq_true rfl) (fun x X hQ => wP_X0_cutTo X hQ h)
/-! SealedTokens$Bytes.get(I)I -/
theorem dX0_get_0 : decode cX0_get 0 = .ok (.iload_n 1, 1) := by decide +kernel
theorem dX0_get_1 : decode cX0_get 1 = .ok (.ifCond .lt 20, 3) := by decide +kernel
theorem dX0_get_4 : decode cX0_get 4 = .ok (.iload_n 1, 1) := by decide +kernel
theorem dX0_get_5 : decode cX0_get 5 = .ok (.aload_n 0, 1) := by decide +kernel
theorem dX0_get_6 : decode cX0_get 6 = .ok (.getfield 21, 3) := by decide +kernel
theorem dX0_get_9 : decode cX0_get 9 = .ok (.if_icmp .ge 12, 3) := by decide +kernel
theorem dX0_get_12 : decode cX0_get 12 = .ok (.aload_n 0, 1) := by decide +kernel
theorem dX0_get_13 : decode cX0_get 13 = .ok (.getfield 15, 3) := by decide +kernel
theorem dX0_get_16 : decode cX0_get 16 = .ok (.iload_n 1, 1) := by decide +kernel
theorem dX0_get_17 : decode cX0_get 17 = .ok (.iaload, 1) := by decide +kernel
theorem dX0_get_18 : decode cX0_get 18 = .ok (.goto 4, 3) := by decide +kernel
theorem dX0_get_21 : decode cX0_get 21 = .ok (.iconst 0, 1) := by decide +kernel
theorem dX0_get_22 : decode cX0_get 22 = .ok (.ireturn, 1) := by decide +kernel
abbrev rmX0_get : Room := { frames := 0, cells := 0, slots := 0, locals := 0 }
set_option maxHeartbeats 4000000 in
set_option maxRecDepth 100000 in
theorem wP_X0_get {G : mG} {F : Nat} {x : mXT} {sz : Nat} {r0 : Int32} {M0 : mM} (X : mCX G RX0 cX0_get 2 (some .int) "get" rmX0_get x) (hQ : mQI x r0 M0 (sz, 0, 0)) {l0 : Nat} {l1 : Int32} {M : mM} (h : P_X0_get G F l0 l1 M = some (r0, M0)) : WW x (sz, 0, 0) M 0 [(0, .ref l0), (1, .int l1)] [] := by
  unfold P_X0_get at h
  refine ww_iload_n 0 X dX0_get_0 1 rfl rfl ?_
  refine ww_if_lt 1 21 X dX0_get_1 (by decide) (fun q => ?_) (fun q => ?_)
  · replace h := (if_pos q).symm.trans h
    refine ww_iconst 21 X (v := (0 : Int32)) dX0_get_21 (by decide) ?_
    exact ww_iretE 22 X hQ dX0_get_22 h
  · replace h := (if_neg q).symm.trans h
    refine ww_iload_n 4 X dX0_get_4 1 rfl rfl ?_
    refine ww_aload_n 5 X dX0_get_5 0 rfl rfl ?_
    obtain ⟨v6, e6, h⟩ := bO_some h
    refine ww_getI 6 X dX0_get_6 fG_X0_21 e6 ?_
    refine ww_icmp_ge 9 21 X dX0_get_9 (by decide) (fun q => ?_) (fun q => ?_)
    · replace h := (if_pos q).symm.trans h
      refine ww_iconst 21 X (v := (0 : Int32)) dX0_get_21 (by decide) ?_
      exact ww_iretE 22 X hQ dX0_get_22 h
    · replace h := (if_neg q).symm.trans h
      refine ww_aload_n 12 X dX0_get_12 0 rfl rfl ?_
      obtain ⟨v13, e13, h⟩ := bO_some h
      refine ww_getR 13 X dX0_get_13 fG_X0_15 e13 ?_
      refine ww_iload_n 16 X dX0_get_16 1 rfl rfl ?_
      obtain ⟨v17, e17, h⟩ := bO_some h
      refine ww_iald 17 X dX0_get_17 e17 ?_
      refine ww_goto 18 22 X dX0_get_18 (by decide) ?_
      exact ww_iretE 22 X hQ dX0_get_22 h
theorem c_X0_get {G : mG} {F sz : Nat} {r0 : Int32} {M0 : mM} (l : Launch) (D : mD) (A : Nat → Prop) {l0 : Nat} {l1 : Int32} {M : mM} (h : P_X0_get G F l0 l1 M = some (r0, M0)) : mMetI l D G A yX0_get cX0_get 2 (some .int) 0 0 0 0 [.ref l0, .int l1] M sz r0 M0 sz := mMetI_of l D G A (by decide) (Nat.le_of_ble_eq_true rfl) (fun x X hQ => wP_X0_get X hQ h)
/-! SealedTokens$Bytes.peek(I)I -/
theorem dX0_peek_0 : decode cX0_peek 0 = .ok (.iload_n 1, 1) := by decide +kernel
theorem dX0_peek_1 : decode cX0_peek 1 = .ok (.ifCond .lt 20, 3) := by decide +kernel
theorem dX0_peek_4 : decode cX0_peek 4 = .ok (.iload_n 1, 1) := by decide +kernel
theorem dX0_peek_5 : decode cX0_peek 5 = .ok (.aload_n 0, 1) := by decide +kernel
theorem dX0_peek_6 : decode cX0_peek 6 = .ok (.getfield 21, 3) := by decide +kernel
theorem dX0_peek_9 : decode cX0_peek 9 = .ok (.if_icmp .ge 12, 3) := by decide +kernel
theorem dX0_peek_12 : decode cX0_peek 12 = .ok (.aload_n 0, 1) := by decide +kernel
theorem dX0_peek_13 : decode cX0_peek 13 = .ok (.getfield 15, 3) := by decide +kernel
theorem dX0_peek_16 : decode cX0_peek 16 = .ok (.iload_n 1, 1) := by decide +kernel
theorem dX0_peek_17 : decode cX0_peek 17 = .ok (.iaload, 1) := by decide +kernel
theorem dX0_peek_18 : decode cX0_peek 18 = .ok (.goto 4, 3) := by decide +kernel
theorem dX0_peek_21 : decode cX0_peek 21 = .ok (.iconst (-1), 1) := by decide +kernel
theorem dX0_peek_22 : decode cX0_peek 22 = .ok (.ireturn, 1) := by decide +kernel
abbrev rmX0_peek : Room := { frames := 0, cells := 0, slots := 0, locals := 0 }
set_option maxHeartbeats 4000000 in
set_option maxRecDepth 100000 in
theorem wP_X0_peek {G : mG} {F : Nat} {x : mXT} {sz : Nat} {r0 : Int32} {M0 : mM} (X : mCX G RX0 cX0_peek 2 (some .int) "peek" rmX0_peek x) (hQ : mQI x r0 M0 (sz, 0, 0)) {l0 : Nat} {l1 : Int32} {M : mM} (h : P_X0_peek G F l0 l1 M = some (r0, M0)) : WW x (sz, 0, 0) M 0 [(0, .ref l0), (1, .int l1)] [] := by
  unfold P_X0_peek at h
  refine ww_iload_n 0 X dX0_peek_0 1 rfl rfl ?_
  refine ww_if_lt 1 21 X dX0_peek_1 (by decide) (fun q => ?_) (fun q => ?_)
  · replace h := (if_pos q).symm.trans h
    refine ww_iconst 21 X (v := (-1 : Int32)) dX0_peek_21 (by decide) ?_
    exact ww_iretE 22 X hQ dX0_peek_22 h
  · replace h := (if_neg q).symm.trans h
    refine ww_iload_n 4 X dX0_peek_4 1 rfl rfl ?_
    refine ww_aload_n 5 X dX0_peek_5 0 rfl rfl ?_
    obtain ⟨v6, e6, h⟩ := bO_some h
    refine ww_getI 6 X dX0_peek_6 fG_X0_21 e6 ?_
    refine ww_icmp_ge 9 21 X dX0_peek_9 (by decide) (fun q => ?_) (fun q => ?_)
    · replace h := (if_pos q).symm.trans h
      refine ww_iconst 21 X (v := (-1 : Int32)) dX0_peek_21 (by decide) ?_
      exact ww_iretE 22 X hQ dX0_peek_22 h
    · replace h := (if_neg q).symm.trans h
      refine ww_aload_n 12 X dX0_peek_12 0 rfl rfl ?_
      obtain ⟨v13, e13, h⟩ := bO_some h
      refine ww_getR 13 X dX0_peek_13 fG_X0_15 e13 ?_
      refine ww_iload_n 16 X dX0_peek_16 1 rfl rfl ?_
      obtain ⟨v17, e17, h⟩ := bO_some h
      refine ww_iald 17 X dX0_peek_17 e17 ?_
      refine ww_goto 18 22 X dX0_peek_18 (by decide) ?_
      exact ww_iretE 22 X hQ dX0_peek_22 h
theorem c_X0_peek {G : mG} {F sz : Nat} {r0 : Int32} {M0 : mM} (l : Launch) (D : mD) (A : Nat → Prop) {l0 : Nat} {l1 : Int32} {M : mM} (h : P_X0_peek G F l0 l1 M = some (r0, M0)) : mMetI l D G A yX0_peek cX0_peek 2 (some .int) 0 0 0 0 [.ref l0, .int l1] M sz r0 M0 sz := mMetI_of l D G A (by decide) (Nat.le_of_ble_eq_true rfl) (fun x X hQ => wP_X0_peek X hQ h)
/-! SealedTokens$Bytes.set(II)V -/
theorem dX0_set_0 : decode cX0_set 0 = .ok (.iload_n 1, 1) := by decide +kernel
theorem dX0_set_1 : decode cX0_set 1 = .ok (.ifCond .lt 22, 3) := by decide +kernel
theorem dX0_set_4 : decode cX0_set 4 = .ok (.iload_n 1, 1) := by decide +kernel
theorem dX0_set_5 : decode cX0_set 5 = .ok (.aload_n 0, 1) := by decide +kernel
theorem dX0_set_6 : decode cX0_set 6 = .ok (.getfield 21, 3) := by decide +kernel
theorem dX0_set_9 : decode cX0_set 9 = .ok (.if_icmp .ge 14, 3) := by decide +kernel
theorem dX0_set_12 : decode cX0_set 12 = .ok (.aload_n 0, 1) := by decide +kernel
theorem dX0_set_13 : decode cX0_set 13 = .ok (.getfield 15, 3) := by decide +kernel
theorem dX0_set_16 : decode cX0_set 16 = .ok (.iload_n 1, 1) := by decide +kernel
theorem dX0_set_17 : decode cX0_set 17 = .ok (.iload_n 2, 1) := by decide +kernel
theorem dX0_set_18 : decode cX0_set 18 = .ok (.sipush 255, 3) := by decide +kernel
theorem dX0_set_21 : decode cX0_set 21 = .ok (.iand, 1) := by decide +kernel
theorem dX0_set_22 : decode cX0_set 22 = .ok (.iastore, 1) := by decide +kernel
theorem dX0_set_23 : decode cX0_set 23 = .ok (.return_, 1) := by decide +kernel
abbrev rmX0_set : Room := { frames := 0, cells := 0, slots := 0, locals := 0 }
set_option maxHeartbeats 4000000 in
set_option maxRecDepth 100000 in
theorem wP_X0_set {G : mG} {F : Nat} {x : mXT} {sz : Nat} {M0 : mM} (X : mCX G RX0 cX0_set 3 none "set" rmX0_set x) (hQ : mQV x M0 (sz, 0, 0)) {l0 : Nat} {l1 : Int32} {l2 : Int32} {M : mM} (h : P_X0_set G F l0 l1 l2 M = some M0) : WW x (sz, 0, 0) M 0 [(0, .ref l0), (1, .int l1), (2, .int l2)] [] := by
  unfold P_X0_set at h
  refine ww_iload_n 0 X dX0_set_0 1 rfl rfl ?_
  refine ww_if_lt 1 23 X dX0_set_1 (by decide) (fun q => ?_) (fun q => ?_)
  · replace h := (if_pos q).symm.trans h
    exact ww_vretE 23 X hQ dX0_set_23 h
  · replace h := (if_neg q).symm.trans h
    refine ww_iload_n 4 X dX0_set_4 1 rfl rfl ?_
    refine ww_aload_n 5 X dX0_set_5 0 rfl rfl ?_
    obtain ⟨v6, e6, h⟩ := bO_some h
    refine ww_getI 6 X dX0_set_6 fG_X0_21 e6 ?_
    refine ww_icmp_ge 9 23 X dX0_set_9 (by decide) (fun q => ?_) (fun q => ?_)
    · replace h := (if_pos q).symm.trans h
      exact ww_vretE 23 X hQ dX0_set_23 h
    · replace h := (if_neg q).symm.trans h
      refine ww_aload_n 12 X dX0_set_12 0 rfl rfl ?_
      obtain ⟨v13, e13, h⟩ := bO_some h
      refine ww_getR 13 X dX0_set_13 fG_X0_15 e13 ?_
      refine ww_iload_n 16 X dX0_set_16 1 rfl rfl ?_
      refine ww_iload_n 17 X dX0_set_17 2 rfl rfl ?_
      refine ww_sipush 18 X (v := (255 : Int32)) dX0_set_18 (by decide) ?_
      refine ww_iand 21 X dX0_set_21 ?_
      obtain ⟨M22, e22, h⟩ := bO_some h
      refine ww_iast 22 X dX0_set_22 e22 ?_
      exact ww_vretE 23 X hQ dX0_set_23 h
theorem c_X0_set {G : mG} {F sz : Nat} {M0 : mM} (l : Launch) (D : mD) (A : Nat → Prop) {l0 : Nat} {l1 : Int32} {l2 : Int32} {M : mM} (h : P_X0_set G F l0 l1 l2 M = some M0) : mMetV l D G A yX0_set cX0_set 3 none 0 0 0 0 [.ref l0, .int l1, .int l2] M sz M0 sz := mMetV_of l D G A (by decide) (Nat.le_of_ble_eq_true rfl) (fun x X hQ => wP_X0_set X hQ h)
/-! SealedTokens$Bytes.put(I)V -/
theorem dX0_put_0 : decode cX0_put 0 = .ok (.aload_n 0, 1) := by decide +kernel
theorem dX0_put_1 : decode cX0_put 1 = .ok (.getfield 21, 3) := by decide +kernel
theorem dX0_put_4 : decode cX0_put 4 = .ok (.aload_n 0, 1) := by decide +kernel
theorem dX0_put_5 : decode cX0_put 5 = .ok (.getfield 15, 3) := by decide +kernel
theorem dX0_put_8 : decode cX0_put 8 = .ok (.arraylength, 1) := by decide +kernel
theorem dX0_put_9 : decode cX0_put 9 = .ok (.if_icmp .ge 30, 3) := by decide +kernel
theorem dX0_put_12 : decode cX0_put 12 = .ok (.aload_n 0, 1) := by decide +kernel
theorem dX0_put_13 : decode cX0_put 13 = .ok (.getfield 15, 3) := by decide +kernel
theorem dX0_put_16 : decode cX0_put 16 = .ok (.aload_n 0, 1) := by decide +kernel
theorem dX0_put_17 : decode cX0_put 17 = .ok (.getfield 21, 3) := by decide +kernel
theorem dX0_put_20 : decode cX0_put 20 = .ok (.iload_n 1, 1) := by decide +kernel
theorem dX0_put_21 : decode cX0_put 21 = .ok (.sipush 255, 3) := by decide +kernel
theorem dX0_put_24 : decode cX0_put 24 = .ok (.iand, 1) := by decide +kernel
theorem dX0_put_25 : decode cX0_put 25 = .ok (.iastore, 1) := by decide +kernel
theorem dX0_put_26 : decode cX0_put 26 = .ok (.aload_n 0, 1) := by decide +kernel
theorem dX0_put_27 : decode cX0_put 27 = .ok (.dup, 1) := by decide +kernel
theorem dX0_put_28 : decode cX0_put 28 = .ok (.getfield 21, 3) := by decide +kernel
theorem dX0_put_31 : decode cX0_put 31 = .ok (.iconst 1, 1) := by decide +kernel
theorem dX0_put_32 : decode cX0_put 32 = .ok (.iadd, 1) := by decide +kernel
theorem dX0_put_33 : decode cX0_put 33 = .ok (.putfield 21, 3) := by decide +kernel
theorem dX0_put_36 : decode cX0_put 36 = .ok (.goto 8, 3) := by decide +kernel
theorem dX0_put_39 : decode cX0_put 39 = .ok (.aload_n 0, 1) := by decide +kernel
theorem dX0_put_40 : decode cX0_put 40 = .ok (.iconst 1, 1) := by decide +kernel
theorem dX0_put_41 : decode cX0_put 41 = .ok (.putfield 25, 3) := by decide +kernel
theorem dX0_put_44 : decode cX0_put 44 = .ok (.return_, 1) := by decide +kernel
abbrev rmX0_put : Room := { frames := 0, cells := 0, slots := 0, locals := 0 }
set_option maxHeartbeats 4000000 in
set_option maxRecDepth 100000 in
theorem wP_X0_put {G : mG} {F : Nat} {x : mXT} {sz : Nat} {M0 : mM} (X : mCX G RX0 cX0_put 2 none "put" rmX0_put x) (hQ : mQV x M0 (sz, 0, 0)) {l0 : Nat} {l1 : Int32} {M : mM} (h : P_X0_put G F l0 l1 M = some M0) : WW x (sz, 0, 0) M 0 [(0, .ref l0), (1, .int l1)] [] := by
  unfold P_X0_put at h
  refine ww_aload_n 0 X dX0_put_0 0 rfl rfl ?_
  obtain ⟨v1, e1, h⟩ := bO_some h
  refine ww_getI 1 X dX0_put_1 fG_X0_21 e1 ?_
  refine ww_aload_n 4 X dX0_put_4 0 rfl rfl ?_
  obtain ⟨v5, e5, h⟩ := bO_some h
  refine ww_getR 5 X dX0_put_5 fG_X0_15 e5 ?_
  obtain ⟨v8, e8, h⟩ := bO_some h
  refine ww_alen 8 X dX0_put_8 e8 ?_
  refine ww_icmp_ge 9 39 X dX0_put_9 (by decide) (fun q => ?_) (fun q => ?_)
  · replace h := (if_pos q).symm.trans h
    refine ww_aload_n 39 X dX0_put_39 0 rfl rfl ?_
    refine ww_iconst 40 X (v := (1 : Int32)) dX0_put_40 (by decide) ?_
    obtain ⟨M41, e41, h⟩ := bO_some h
    refine ww_putZ 41 X dX0_put_41 (fP_X0_25 _) e41 ?_
    exact ww_vretE 44 X hQ dX0_put_44 h
  · replace h := (if_neg q).symm.trans h
    refine ww_aload_n 12 X dX0_put_12 0 rfl rfl ?_
    obtain ⟨v13, e13, h⟩ := bO_some h
    refine ww_getR 13 X dX0_put_13 fG_X0_15 e13 ?_
    refine ww_aload_n 16 X dX0_put_16 0 rfl rfl ?_
    obtain ⟨v17, e17, h⟩ := bO_some h
    refine ww_getI 17 X dX0_put_17 fG_X0_21 e17 ?_
    refine ww_iload_n 20 X dX0_put_20 1 rfl rfl ?_
    refine ww_sipush 21 X (v := (255 : Int32)) dX0_put_21 (by decide) ?_
    refine ww_iand 24 X dX0_put_24 ?_
    obtain ⟨M25, e25, h⟩ := bO_some h
    refine ww_iast 25 X dX0_put_25 e25 ?_
    refine ww_aload_n 26 X dX0_put_26 0 rfl rfl ?_
    refine ww_dup 27 X dX0_put_27 rfl ?_
    obtain ⟨v28, e28, h⟩ := bO_some h
    refine ww_getI 28 X dX0_put_28 fG_X0_21 e28 ?_
    refine ww_iconst 31 X (v := (1 : Int32)) dX0_put_31 (by decide) ?_
    refine ww_iadd 32 X dX0_put_32 ?_
    obtain ⟨M33, e33, h⟩ := bO_some h
    refine ww_putI 33 X dX0_put_33 (fP_X0_21 _) e33 ?_
    refine ww_goto 36 44 X dX0_put_36 (by decide) ?_
    exact ww_vretE 44 X hQ dX0_put_44 h
theorem c_X0_put {G : mG} {F sz : Nat} {M0 : mM} (l : Launch) (D : mD) (A : Nat → Prop) {l0 : Nat} {l1 : Int32} {M : mM} (h : P_X0_put G F l0 l1 M = some M0) : mMetV l D G A yX0_put cX0_put 2 none 0 0 0 0 [.ref l0, .int l1] M sz M0 sz := mMetV_of l D G A (by decide) (Nat.le_of_ble_eq_true rfl) (fun x X hQ => wP_X0_put X hQ h)
/-! SealedTokens$Bytes.putSame(II)V -/
theorem dX0_putSame_0 : decode cX0_putSame 0 = .ok (.iconst 0, 1) := by decide +kernel
theorem dX0_putSame_1 : decode cX0_putSame 1 = .ok (.istore_n 3, 1) := by decide +kernel
theorem dX0_putSame_2 : decode cX0_putSame 2 = .ok (.iload_n 3, 1) := by decide +kernel
theorem dX0_putSame_3 : decode cX0_putSame 3 = .ok (.iload_n 2, 1) := by decide +kernel
theorem dX0_putSame_4 : decode cX0_putSame 4 = .ok (.if_icmp .ge 14, 3) := by decide +kernel
theorem dX0_putSame_7 : decode cX0_putSame 7 = .ok (.aload_n 0, 1) := by decide +kernel
theorem dX0_putSame_8 : decode cX0_putSame 8 = .ok (.iload_n 1, 1) := by decide +kernel
theorem dX0_putSame_9 : decode cX0_putSame 9 = .ok (.invokevirtual 32, 3) := by decide +kernel
theorem dX0_putSame_12 : decode cX0_putSame 12 = .ok (.iinc 3 1, 3) := by decide +kernel
theorem dX0_putSame_15 : decode cX0_putSame 15 = .ok (.goto (-13), 3) := by decide +kernel
theorem dX0_putSame_18 : decode cX0_putSame 18 = .ok (.return_, 1) := by decide +kernel
abbrev rmX0_putSame : Room := { frames := 1, cells := 0, slots := 0, locals := 21 }
set_option maxHeartbeats 4000000 in
set_option maxRecDepth 100000 in
theorem wB_X0_putSame_2 {G : mG} {F : Nat} {x : mXT} {sz : Nat} {M0 : mM} (X : mCX G RX0 cX0_putSame 4 none "putSame" rmX0_putSame x) (hQ : mQV x M0 (sz, 0, 0)) : ∀ (n : Nat) (l0 : Nat) (l1 : Int32) (l2 : Int32) (l3 : Int32) (M : mM), B_X0_putSame_2 G F n l0 l1 l2 l3 M = some M0 → WW x (sz, 0, 0) M 2 [(0, .ref l0), (1, .int l1), (2, .int l2), (3, .int l3)] [] := by
  intro n
  induction n with
  | zero =>
    intro l0 l1 l2 l3 M h
    exact nomatch (show (none : Option mM) = some M0 from h)
  | succ n ih =>
    intro l0 l1 l2 l3 M h
    rw [B_X0_putSame_2] at h
    refine ww_iload_n 2 X dX0_putSame_2 3 rfl rfl ?_
    refine ww_iload_n 3 X dX0_putSame_3 2 rfl rfl ?_
    refine ww_icmp_ge 4 18 X dX0_putSame_4 (by decide) (fun q => ?_) (fun q => ?_)
    · replace h := (if_pos q).symm.trans h
      exact ww_vretE 18 X hQ dX0_putSame_18 h
    · replace h := (if_neg q).symm.trans h
      refine ww_aload_n 7 X dX0_putSame_7 0 rfl rfl ?_
      refine ww_iload_n 8 X dX0_putSame_8 1 rfl rfl ?_
      obtain ⟨_, f9, h⟩ := bO_some h
      obtain ⟨M9, e9, h⟩ := bO_some h
      refine ww_callVV0 9 X dX0_putSame_9 mY_X0_put mL_X0_32 (rcv_spec f9) ⟨_, _, rfl⟩ (by decide) (As := [.int l1]) (rest := []) rfl rfl ⟨Nat.le_of_ble_eq_true rfl, Nat.le_of_ble_eq_true rfl⟩ (Nat.le_of_ble_eq_true rfl) (fun l D A => c_X0_put l D A e9) ?_
      refine ww_iinc 12 X dX0_putSame_12 (lv' := [(0, .ref l0), (1, .int l1), (2, .int l2), (3, .int (l3 + 1))]) 3 rfl rfl (by decide) [1, 2, 3, 0] rfl ?_
      refine ww_goto 15 2 X dX0_putSame_15 (by decide) ?_
      exact (ih _ _ _ _ _ h)
set_option maxHeartbeats 4000000 in
set_option maxRecDepth 100000 in
theorem wP_X0_putSame {G : mG} {F : Nat} {x : mXT} {sz : Nat} {M0 : mM} (X : mCX G RX0 cX0_putSame 4 none "putSame" rmX0_putSame x) (hQ : mQV x M0 (sz, 0, 0)) {l0 : Nat} {l1 : Int32} {l2 : Int32} {M : mM} (h : P_X0_putSame G F l0 l1 l2 M = some M0) : WW x (sz, 0, 0) M 0 [(0, .ref l0), (1, .int l1), (2, .int l2)] [] := by
  unfold P_X0_putSame at h
  refine ww_iconst 0 X (v := (0 : Int32)) dX0_putSame_0 (by decide) ?_
  refine ww_istore_n 1 X dX0_putSame_1 (lv' := [(0, .ref l0), (1, .int l1), (2, .int l2), (3, .int (0 : Int32))]) rfl (by decide) [1, 2, 3, 0] rfl ?_
  exact (wB_X0_putSame_2 X hQ F _ _ _ _ _ h)
theorem c_X0_putSame {G : mG} {F sz : Nat} {M0 : mM} (l : Launch) (D : mD) (A : Nat → Prop) {l0 : Nat} {l1 : Int32} {l2 : Int32} {M : mM} (h : P_X0_putSame G F l0 l1 l2 M = some M0) : mMetV l D G A yX0_putSame cX0_putSame 4 none 1 21 0 0 [.ref l0, .int l1, .int l2] M sz M0 sz := mMetV_of l D G A (by decide) (Nat.le_of_ble_eq_true rfl) (fun x X hQ => wP_X0_putSame X hQ h)
/-! SealedTokens$Bytes.putWord(I)V -/
theorem dX0_putWord_0 : decode cX0_putWord 0 = .ok (.aload_n 0, 1) := by decide +kernel
theorem dX0_putWord_1 : decode cX0_putWord 1 = .ok (.iload_n 1, 1) := by decide +kernel
theorem dX0_putWord_2 : decode cX0_putWord 2 = .ok (.bipush 24, 2) := by decide +kernel
theorem dX0_putWord_4 : decode cX0_putWord 4 = .ok (.iushr, 1) := by decide +kernel
theorem dX0_putWord_5 : decode cX0_putWord 5 = .ok (.invokevirtual 32, 3) := by decide +kernel
theorem dX0_putWord_8 : decode cX0_putWord 8 = .ok (.aload_n 0, 1) := by decide +kernel
theorem dX0_putWord_9 : decode cX0_putWord 9 = .ok (.iload_n 1, 1) := by decide +kernel
theorem dX0_putWord_10 : decode cX0_putWord 10 = .ok (.bipush 16, 2) := by decide +kernel
theorem dX0_putWord_12 : decode cX0_putWord 12 = .ok (.iushr, 1) := by decide +kernel
theorem dX0_putWord_13 : decode cX0_putWord 13 = .ok (.invokevirtual 32, 3) := by decide +kernel
theorem dX0_putWord_16 : decode cX0_putWord 16 = .ok (.aload_n 0, 1) := by decide +kernel
theorem dX0_putWord_17 : decode cX0_putWord 17 = .ok (.iload_n 1, 1) := by decide +kernel
theorem dX0_putWord_18 : decode cX0_putWord 18 = .ok (.bipush 8, 2) := by decide +kernel
theorem dX0_putWord_20 : decode cX0_putWord 20 = .ok (.iushr, 1) := by decide +kernel
theorem dX0_putWord_21 : decode cX0_putWord 21 = .ok (.invokevirtual 32, 3) := by decide +kernel
theorem dX0_putWord_24 : decode cX0_putWord 24 = .ok (.aload_n 0, 1) := by decide +kernel
theorem dX0_putWord_25 : decode cX0_putWord 25 = .ok (.iload_n 1, 1) := by decide +kernel
theorem dX0_putWord_26 : decode cX0_putWord 26 = .ok (.invokevirtual 32, 3) := by decide +kernel
theorem dX0_putWord_29 : decode cX0_putWord 29 = .ok (.return_, 1) := by decide +kernel
abbrev rmX0_putWord : Room := { frames := 1, cells := 0, slots := 0, locals := 21 }
set_option maxHeartbeats 4000000 in
set_option maxRecDepth 100000 in
theorem wP_X0_putWord {G : mG} {F : Nat} {x : mXT} {sz : Nat} {M0 : mM} (X : mCX G RX0 cX0_putWord 2 none "putWord" rmX0_putWord x) (hQ : mQV x M0 (sz, 0, 0)) {l0 : Nat} {l1 : Int32} {M : mM} (h : P_X0_putWord G F l0 l1 M = some M0) : WW x (sz, 0, 0) M 0 [(0, .ref l0), (1, .int l1)] [] := by
  unfold P_X0_putWord at h
  refine ww_aload_n 0 X dX0_putWord_0 0 rfl rfl ?_
  refine ww_iload_n 1 X dX0_putWord_1 1 rfl rfl ?_
  refine ww_bipush 2 X (v := (24 : Int32)) dX0_putWord_2 (by decide) ?_
  refine ww_iushr 4 X dX0_putWord_4 ?_
  obtain ⟨_, f5, h⟩ := bO_some h
  obtain ⟨M5, e5, h⟩ := bO_some h
  refine ww_callVV0 5 X dX0_putWord_5 mY_X0_put mL_X0_32 (rcv_spec f5) ⟨_, _, rfl⟩ (by decide) (As := [.int (ushI l1 (24 : Int32))]) (rest := []) rfl rfl ⟨Nat.le_of_ble_eq_true rfl, Nat.le_of_ble_eq_true rfl⟩ (Nat.le_of_ble_eq_true rfl) (fun l D A => c_X0_put l D A e5) ?_
  refine ww_aload_n 8 X dX0_putWord_8 0 rfl rfl ?_
  refine ww_iload_n 9 X dX0_putWord_9 1 rfl rfl ?_
  refine ww_bipush 10 X (v := (16 : Int32)) dX0_putWord_10 (by decide) ?_
  refine ww_iushr 12 X dX0_putWord_12 ?_
  obtain ⟨_, f13, h⟩ := bO_some h
  obtain ⟨M13, e13, h⟩ := bO_some h
  refine ww_callVV0 13 X dX0_putWord_13 mY_X0_put mL_X0_32 (rcv_spec f13) ⟨_, _, rfl⟩ (by decide) (As := [.int (ushI l1 (16 : Int32))]) (rest := []) rfl rfl ⟨Nat.le_of_ble_eq_true rfl, Nat.le_of_ble_eq_true rfl⟩ (Nat.le_of_ble_eq_true rfl) (fun l D A => c_X0_put l D A e13) ?_
  refine ww_aload_n 16 X dX0_putWord_16 0 rfl rfl ?_
  refine ww_iload_n 17 X dX0_putWord_17 1 rfl rfl ?_
  refine ww_bipush 18 X (v := (8 : Int32)) dX0_putWord_18 (by decide) ?_
  refine ww_iushr 20 X dX0_putWord_20 ?_
  obtain ⟨_, f21, h⟩ := bO_some h
  obtain ⟨M21, e21, h⟩ := bO_some h
  refine ww_callVV0 21 X dX0_putWord_21 mY_X0_put mL_X0_32 (rcv_spec f21) ⟨_, _, rfl⟩ (by decide) (As := [.int (ushI l1 (8 : Int32))]) (rest := []) rfl rfl ⟨Nat.le_of_ble_eq_true rfl, Nat.le_of_ble_eq_true rfl⟩ (Nat.le_of_ble_eq_true rfl) (fun l D A => c_X0_put l D A e21) ?_
  refine ww_aload_n 24 X dX0_putWord_24 0 rfl rfl ?_
  refine ww_iload_n 25 X dX0_putWord_25 1 rfl rfl ?_
  obtain ⟨_, f26, h⟩ := bO_some h
  obtain ⟨M26, e26, h⟩ := bO_some h
  refine ww_callVV0 26 X dX0_putWord_26 mY_X0_put mL_X0_32 (rcv_spec f26) ⟨_, _, rfl⟩ (by decide) (As := [.int l1]) (rest := []) rfl rfl ⟨Nat.le_of_ble_eq_true rfl, Nat.le_of_ble_eq_true rfl⟩ (Nat.le_of_ble_eq_true rfl) (fun l D A => c_X0_put l D A e26) ?_
  exact ww_vretE 29 X hQ dX0_putWord_29 h
theorem c_X0_putWord {G : mG} {F sz : Nat} {M0 : mM} (l : Launch) (D : mD) (A : Nat → Prop) {l0 : Nat} {l1 : Int32} {M : mM} (h : P_X0_putWord G F l0 l1 M = some M0) : mMetV l D G A yX0_putWord cX0_putWord 2 none 1 21 0 0 [.ref l0, .int l1] M sz M0 sz := mMetV_of l D G A (by decide) (Nat.le_of_ble_eq_true rfl) (fun x X hQ => wP_X0_putWord X hQ h)
/-! SealedTokens$Bytes.putText(Ljava/lang/String;)V -/
theorem dX0_putText_0 : decode cX0_putText 0 = .ok (.iconst 0, 1) := by decide +kernel
theorem dX0_putText_1 : decode cX0_putText 1 = .ok (.istore_n 2, 1) := by decide +kernel
theorem dX0_putText_2 : decode cX0_putText 2 = .ok (.iload_n 2, 1) := by decide +kernel
theorem dX0_putText_3 : decode cX0_putText 3 = .ok (.aload_n 1, 1) := by decide +kernel
theorem dX0_putText_4 : decode cX0_putText 4 = .ok (.invokevirtual 36, 3) := by decide +kernel
theorem dX0_putText_7 : decode cX0_putText 7 = .ok (.if_icmp .ge 18, 3) := by decide +kernel
theorem dX0_putText_10 : decode cX0_putText 10 = .ok (.aload_n 0, 1) := by decide +kernel
theorem dX0_putText_11 : decode cX0_putText 11 = .ok (.aload_n 1, 1) := by decide +kernel
theorem dX0_putText_12 : decode cX0_putText 12 = .ok (.iload_n 2, 1) := by decide +kernel
theorem dX0_putText_13 : decode cX0_putText 13 = .ok (.invokevirtual 42, 3) := by decide +kernel
theorem dX0_putText_16 : decode cX0_putText 16 = .ok (.invokevirtual 32, 3) := by decide +kernel
theorem dX0_putText_19 : decode cX0_putText 19 = .ok (.iinc 2 1, 3) := by decide +kernel
theorem dX0_putText_22 : decode cX0_putText 22 = .ok (.goto (-20), 3) := by decide +kernel
theorem dX0_putText_25 : decode cX0_putText 25 = .ok (.return_, 1) := by decide +kernel
abbrev rmX0_putText : Room := { frames := 4, cells := 0, slots := 0, locals := 85 }
set_option maxHeartbeats 4000000 in
set_option maxRecDepth 100000 in
theorem wB_X0_putText_2 {G : mG} {F : Nat} {x : mXT} {sz : Nat} {M0 : mM} (X : mCX G RX0 cX0_putText 3 none "putText" rmX0_putText x) (hQ : mQV x M0 (sz, 0, 0)) : ∀ (n : Nat) (l0 : Nat) (l1 : Nat) (l2 : Int32) (M : mM), B_X0_putText_2 G F n l0 l1 l2 M = some M0 → WW x (sz, 0, 0) M 2 [(0, .ref l0), (1, .ref l1), (2, .int l2)] [] := by
  intro n
  induction n with
  | zero =>
    intro l0 l1 l2 M h
    exact nomatch (show (none : Option mM) = some M0 from h)
  | succ n ih =>
    intro l0 l1 l2 M h
    rw [B_X0_putText_2] at h
    refine ww_iload_n 2 X dX0_putText_2 2 rfl rfl ?_
    refine ww_aload_n 3 X dX0_putText_3 1 rfl rfl ?_
    obtain ⟨_, f4, h⟩ := bO_some h
    obtain ⟨v4, M4, e4, h⟩ := bP_some h
    refine ww_callVIs 4 X dX0_putText_4 mY_J0_length_8abf5 mL_X0_36 (rcs_spec f4) rfl (As := []) (rest := [.int l2]) rfl rfl ⟨Nat.le_of_ble_eq_true rfl, Nat.le_of_ble_eq_true rfl⟩ (Nat.le_of_ble_eq_true rfl) (fun l D A => c_J0_length_8abf5 l D A e4) ?_
    refine ww_icmp_ge 7 25 X dX0_putText_7 (by decide) (fun q => ?_) (fun q => ?_)
    · replace h := (if_pos q).symm.trans h
      exact ww_vretE 25 X hQ dX0_putText_25 h
    · replace h := (if_neg q).symm.trans h
      refine ww_aload_n 10 X dX0_putText_10 0 rfl rfl ?_
      refine ww_aload_n 11 X dX0_putText_11 1 rfl rfl ?_
      refine ww_iload_n 12 X dX0_putText_12 2 rfl rfl ?_
      obtain ⟨_, f13, h⟩ := bO_some h
      obtain ⟨v13, M13, e13, h⟩ := bP_some h
      refine ww_callVIs 13 X dX0_putText_13 mY_J0_charAt_5068e mL_X0_42 (rcs_spec f13) rfl (As := [.int l2]) (rest := [.ref l0]) rfl rfl ⟨Nat.le_of_ble_eq_true rfl, Nat.le_of_ble_eq_true rfl⟩ (Nat.le_of_ble_eq_true rfl) (fun l D A => c_J0_charAt_5068e l D A e13) ?_
      obtain ⟨_, f16, h⟩ := bO_some h
      obtain ⟨M16, e16, h⟩ := bO_some h
      refine ww_callVV0 16 X dX0_putText_16 mY_X0_put mL_X0_32 (rcv_spec f16) ⟨_, _, rfl⟩ (by decide) (As := [.int v13]) (rest := []) rfl rfl ⟨Nat.le_of_ble_eq_true rfl, Nat.le_of_ble_eq_true rfl⟩ (Nat.le_of_ble_eq_true rfl) (fun l D A => c_X0_put l D A e16) ?_
      refine ww_iinc 19 X dX0_putText_19 (lv' := [(0, .ref l0), (1, .ref l1), (2, .int (l2 + 1))]) 2 rfl rfl (by decide) [1, 2, 0] rfl ?_
      refine ww_goto 22 2 X dX0_putText_22 (by decide) ?_
      exact (ih _ _ _ _ h)
set_option maxHeartbeats 4000000 in
set_option maxRecDepth 100000 in
theorem wP_X0_putText {G : mG} {F : Nat} {x : mXT} {sz : Nat} {M0 : mM} (X : mCX G RX0 cX0_putText 3 none "putText" rmX0_putText x) (hQ : mQV x M0 (sz, 0, 0)) {l0 : Nat} {l1 : Nat} {M : mM} (h : P_X0_putText G F l0 l1 M = some M0) : WW x (sz, 0, 0) M 0 [(0, .ref l0), (1, .ref l1)] [] := by
  unfold P_X0_putText at h
  refine ww_iconst 0 X (v := (0 : Int32)) dX0_putText_0 (by decide) ?_
  refine ww_istore_n 1 X dX0_putText_1 (lv' := [(0, .ref l0), (1, .ref l1), (2, .int (0 : Int32))]) rfl (by decide) [1, 2, 0] rfl ?_
  exact (wB_X0_putText_2 X hQ F _ _ _ _ h)
theorem c_X0_putText {G : mG} {F sz : Nat} {M0 : mM} (l : Launch) (D : mD) (A : Nat → Prop) {l0 : Nat} {l1 : Nat} {M : mM} (h : P_X0_putText G F l0 l1 M = some M0) : mMetV l D G A yX0_putText cX0_putText 3 none 4 85 0 0 [.ref l0, .ref l1] M sz M0 sz := mMetV_of l D G A (by decide) (Nat.le_of_ble_eq_true rfl) (fun x X hQ => wP_X0_putText X hQ h)
/-! SealedTokens$Bytes.putPart(LSealedTokens$Bytes;II)V -/
theorem dX0_putPart_0 : decode cX0_putPart 0 = .ok (.iload_n 2, 1) := by decide +kernel
theorem dX0_putPart_1 : decode cX0_putPart 1 = .ok (.ifCond .lt 17, 3) := by decide +kernel
theorem dX0_putPart_4 : decode cX0_putPart 4 = .ok (.iload_n 3, 1) := by decide +kernel
theorem dX0_putPart_5 : decode cX0_putPart 5 = .ok (.ifCond .lt 13, 3) := by decide +kernel
theorem dX0_putPart_8 : decode cX0_putPart 8 = .ok (.iload_n 2, 1) := by decide +kernel
theorem dX0_putPart_9 : decode cX0_putPart 9 = .ok (.aload_n 1, 1) := by decide +kernel
theorem dX0_putPart_10 : decode cX0_putPart 10 = .ok (.getfield 21, 3) := by decide +kernel
theorem dX0_putPart_13 : decode cX0_putPart 13 = .ok (.iload_n 3, 1) := by decide +kernel
theorem dX0_putPart_14 : decode cX0_putPart 14 = .ok (.isub, 1) := by decide +kernel
theorem dX0_putPart_15 : decode cX0_putPart 15 = .ok (.if_icmp .le 4, 3) := by decide +kernel
theorem dX0_putPart_18 : decode cX0_putPart 18 = .ok (.return_, 1) := by decide +kernel
theorem dX0_putPart_19 : decode cX0_putPart 19 = .ok (.iload_n 3, 1) := by decide +kernel
theorem dX0_putPart_20 : decode cX0_putPart 20 = .ok (.aload_n 0, 1) := by decide +kernel
theorem dX0_putPart_21 : decode cX0_putPart 21 = .ok (.getfield 15, 3) := by decide +kernel
theorem dX0_putPart_24 : decode cX0_putPart 24 = .ok (.arraylength, 1) := by decide +kernel
theorem dX0_putPart_25 : decode cX0_putPart 25 = .ok (.aload_n 0, 1) := by decide +kernel
theorem dX0_putPart_26 : decode cX0_putPart 26 = .ok (.getfield 21, 3) := by decide +kernel
theorem dX0_putPart_29 : decode cX0_putPart 29 = .ok (.isub, 1) := by decide +kernel
theorem dX0_putPart_30 : decode cX0_putPart 30 = .ok (.invokestatic 29, 3) := by decide +kernel
theorem dX0_putPart_33 : decode cX0_putPart 33 = .ok (.istore 4, 2) := by decide +kernel
theorem dX0_putPart_35 : decode cX0_putPart 35 = .ok (.aload_n 1, 1) := by decide +kernel
theorem dX0_putPart_36 : decode cX0_putPart 36 = .ok (.getfield 15, 3) := by decide +kernel
theorem dX0_putPart_39 : decode cX0_putPart 39 = .ok (.iload_n 2, 1) := by decide +kernel
theorem dX0_putPart_40 : decode cX0_putPart 40 = .ok (.aload_n 0, 1) := by decide +kernel
theorem dX0_putPart_41 : decode cX0_putPart 41 = .ok (.getfield 15, 3) := by decide +kernel
theorem dX0_putPart_44 : decode cX0_putPart 44 = .ok (.aload_n 0, 1) := by decide +kernel
theorem dX0_putPart_45 : decode cX0_putPart 45 = .ok (.getfield 21, 3) := by decide +kernel
theorem dX0_putPart_48 : decode cX0_putPart 48 = .ok (.iload 4, 2) := by decide +kernel
theorem dX0_putPart_50 : decode cX0_putPart 50 = .ok (.invokestatic 46, 3) := by decide +kernel
theorem dX0_putPart_53 : decode cX0_putPart 53 = .ok (.aload_n 0, 1) := by decide +kernel
theorem dX0_putPart_54 : decode cX0_putPart 54 = .ok (.dup, 1) := by decide +kernel
theorem dX0_putPart_55 : decode cX0_putPart 55 = .ok (.getfield 21, 3) := by decide +kernel
theorem dX0_putPart_58 : decode cX0_putPart 58 = .ok (.iload 4, 2) := by decide +kernel
theorem dX0_putPart_60 : decode cX0_putPart 60 = .ok (.iadd, 1) := by decide +kernel
theorem dX0_putPart_61 : decode cX0_putPart 61 = .ok (.putfield 21, 3) := by decide +kernel
theorem dX0_putPart_64 : decode cX0_putPart 64 = .ok (.aload_n 0, 1) := by decide +kernel
theorem dX0_putPart_65 : decode cX0_putPart 65 = .ok (.aload_n 0, 1) := by decide +kernel
theorem dX0_putPart_66 : decode cX0_putPart 66 = .ok (.getfield 25, 3) := by decide +kernel
theorem dX0_putPart_69 : decode cX0_putPart 69 = .ok (.ifCond .ne 9, 3) := by decide +kernel
theorem dX0_putPart_72 : decode cX0_putPart 72 = .ok (.iload 4, 2) := by decide +kernel
theorem dX0_putPart_74 : decode cX0_putPart 74 = .ok (.iload_n 3, 1) := by decide +kernel
theorem dX0_putPart_75 : decode cX0_putPart 75 = .ok (.if_icmp .ge 7, 3) := by decide +kernel
theorem dX0_putPart_78 : decode cX0_putPart 78 = .ok (.iconst 1, 1) := by decide +kernel
theorem dX0_putPart_79 : decode cX0_putPart 79 = .ok (.goto 4, 3) := by decide +kernel
theorem dX0_putPart_82 : decode cX0_putPart 82 = .ok (.iconst 0, 1) := by decide +kernel
theorem dX0_putPart_83 : decode cX0_putPart 83 = .ok (.putfield 25, 3) := by decide +kernel
theorem dX0_putPart_86 : decode cX0_putPart 86 = .ok (.return_, 1) := by decide +kernel
abbrev rmX0_putPart : Room := { frames := 1, cells := 0, slots := 0, locals := 60 }
set_option maxHeartbeats 4000000 in
set_option maxRecDepth 100000 in
theorem wP_X0_putPart {G : mG} {F : Nat} {x : mXT} {sz : Nat} {M0 : mM} (X : mCX G RX0 cX0_putPart 5 none "putPart" rmX0_putPart x) (hQ : mQV x M0 (sz, 0, 0)) {l0 : Nat} {l1 : Nat} {l2 : Int32} {l3 : Int32} {M : mM} (h : P_X0_putPart G F l0 l1 l2 l3 M = some M0) : WW x (sz, 0, 0) M 0 [(0, .ref l0), (1, .ref l1), (2, .int l2), (3, .int l3)] [] := by
  unfold P_X0_putPart at h
  refine ww_iload_n 0 X dX0_putPart_0 2 rfl rfl ?_
  refine ww_if_lt 1 18 X dX0_putPart_1 (by decide) (fun q => ?_) (fun q => ?_)
  · replace h := (if_pos q).symm.trans h
    exact ww_vretE 18 X hQ dX0_putPart_18 h
  · replace h := (if_neg q).symm.trans h
    refine ww_iload_n 4 X dX0_putPart_4 3 rfl rfl ?_
    refine ww_if_lt 5 18 X dX0_putPart_5 (by decide) (fun q => ?_) (fun q => ?_)
    · replace h := (if_pos q).symm.trans h
      exact ww_vretE 18 X hQ dX0_putPart_18 h
    · replace h := (if_neg q).symm.trans h
      refine ww_iload_n 8 X dX0_putPart_8 2 rfl rfl ?_
      refine ww_aload_n 9 X dX0_putPart_9 1 rfl rfl ?_
      obtain ⟨v10, e10, h⟩ := bO_some h
      refine ww_getI 10 X dX0_putPart_10 fG_X0_21 e10 ?_
      refine ww_iload_n 13 X dX0_putPart_13 3 rfl rfl ?_
      refine ww_isub 14 X dX0_putPart_14 ?_
      refine ww_icmp_le 15 19 X dX0_putPart_15 (by decide) (fun q => ?_) (fun q => ?_)
      · replace h := (if_pos q).symm.trans h
        refine ww_iload_n 19 X dX0_putPart_19 3 rfl rfl ?_
        refine ww_aload_n 20 X dX0_putPart_20 0 rfl rfl ?_
        obtain ⟨v21, e21, h⟩ := bO_some h
        refine ww_getR 21 X dX0_putPart_21 fG_X0_15 e21 ?_
        obtain ⟨v24, e24, h⟩ := bO_some h
        refine ww_alen 24 X dX0_putPart_24 e24 ?_
        refine ww_aload_n 25 X dX0_putPart_25 0 rfl rfl ?_
        obtain ⟨v26, e26, h⟩ := bO_some h
        refine ww_getI 26 X dX0_putPart_26 fG_X0_21 e26 ?_
        refine ww_isub 29 X dX0_putPart_29 ?_
        refine ww_mmin 30 X (st := []) dX0_putPart_30 mL_X0_29 (Nat.le_of_ble_eq_true rfl) (Nat.le_of_ble_eq_true rfl) (Nat.le_of_ble_eq_true rfl) ⟨Nat.zero_le _, Nat.zero_le _⟩ ?_
        refine ww_istore 33 X dX0_putPart_33 (lv' := [(0, .ref l0), (1, .ref l1), (2, .int l2), (3, .int l3), (4, .int (if (v24 - v26) < l3 then (v24 - v26) else l3))]) (by decide) [1, 2, 3, 4, 0] rfl ?_
        refine ww_aload_n 35 X dX0_putPart_35 1 rfl rfl ?_
        obtain ⟨v36, e36, h⟩ := bO_some h
        refine ww_getR 36 X dX0_putPart_36 fG_X0_15 e36 ?_
        refine ww_iload_n 39 X dX0_putPart_39 2 rfl rfl ?_
        refine ww_aload_n 40 X dX0_putPart_40 0 rfl rfl ?_
        obtain ⟨v41, e41, h⟩ := bO_some h
        refine ww_getR 41 X dX0_putPart_41 fG_X0_15 e41 ?_
        refine ww_aload_n 44 X dX0_putPart_44 0 rfl rfl ?_
        obtain ⟨v45, e45, h⟩ := bO_some h
        refine ww_getI 45 X dX0_putPart_45 fG_X0_21 e45 ?_
        refine ww_iload 48 X dX0_putPart_48 4 rfl ?_
        obtain ⟨M50, e50, h⟩ := bO_some h
        refine ww_cpI 50 X (st := []) dX0_putPart_50 mL_X0_46 (Nat.le_of_ble_eq_true rfl) (Nat.le_of_ble_eq_true rfl) (Nat.le_of_ble_eq_true rfl) e50 ?_
        refine ww_aload_n 53 X dX0_putPart_53 0 rfl rfl ?_
        refine ww_dup 54 X dX0_putPart_54 rfl ?_
        obtain ⟨v55, e55, h⟩ := bO_some h
        refine ww_getI 55 X dX0_putPart_55 fG_X0_21 e55 ?_
        refine ww_iload 58 X dX0_putPart_58 4 rfl ?_
        refine ww_iadd 60 X dX0_putPart_60 ?_
        obtain ⟨M61, e61, h⟩ := bO_some h
        refine ww_putI 61 X dX0_putPart_61 (fP_X0_21 _) e61 ?_
        refine ww_aload_n 64 X dX0_putPart_64 0 rfl rfl ?_
        refine ww_aload_n 65 X dX0_putPart_65 0 rfl rfl ?_
        obtain ⟨v66, e66, h⟩ := bO_some h
        refine ww_getI 66 X dX0_putPart_66 fG_X0_25 e66 ?_
        refine ww_if_ne 69 78 X dX0_putPart_69 (by decide) (fun q => ?_) (fun q => ?_)
        · replace h := (if_neg q).symm.trans h
          refine ww_iconst 78 X (v := (1 : Int32)) dX0_putPart_78 (by decide) ?_
          refine ww_goto 79 83 X dX0_putPart_79 (by decide) ?_
          obtain ⟨M83, e83, h⟩ := bO_some h
          refine ww_putZ 83 X dX0_putPart_83 (fP_X0_25 _) e83 ?_
          exact ww_vretE 86 X hQ dX0_putPart_86 h
        · replace h := (if_pos q).symm.trans h
          refine ww_iload 72 X dX0_putPart_72 4 rfl ?_
          refine ww_iload_n 74 X dX0_putPart_74 3 rfl rfl ?_
          refine ww_icmp_ge 75 82 X dX0_putPart_75 (by decide) (fun q => ?_) (fun q => ?_)
          · replace h := (if_pos q).symm.trans h
            refine ww_iconst 82 X (v := (0 : Int32)) dX0_putPart_82 (by decide) ?_
            obtain ⟨M83, e83, h⟩ := bO_some h
            refine ww_putZ 83 X dX0_putPart_83 (fP_X0_25 _) e83 ?_
            exact ww_vretE 86 X hQ dX0_putPart_86 h
          · replace h := (if_neg q).symm.trans h
            refine ww_iconst 78 X (v := (1 : Int32)) dX0_putPart_78 (by decide) ?_
            refine ww_goto 79 83 X dX0_putPart_79 (by decide) ?_
            obtain ⟨M83, e83, h⟩ := bO_some h
            refine ww_putZ 83 X dX0_putPart_83 (fP_X0_25 _) e83 ?_
            exact ww_vretE 86 X hQ dX0_putPart_86 h
      · replace h := (if_neg q).symm.trans h
        exact ww_vretE 18 X hQ dX0_putPart_18 h
theorem c_X0_putPart {G : mG} {F sz : Nat} {M0 : mM} (l : Launch) (D : mD) (A : Nat → Prop) {l0 : Nat} {l1 : Nat} {l2 : Int32} {l3 : Int32} {M : mM} (h : P_X0_putPart G F l0 l1 l2 l3 M = some M0) : mMetV l D G A yX0_putPart cX0_putPart 5 none 1 60 0 0 [.ref l0, .ref l1, .int l2, .int l3] M sz M0 sz := mMetV_of l D G A (by decide) (Nat.le_of_ble_eq_true rfl) (fun x X hQ => wP_X0_putPart X hQ h)
/-! SealedTokens$Bytes.putAll(LSealedTokens$Bytes;)V -/
theorem dX0_putAll_0 : decode cX0_putAll 0 = .ok (.aload_n 0, 1) := by decide +kernel
theorem dX0_putAll_1 : decode cX0_putAll 1 = .ok (.aload_n 1, 1) := by decide +kernel
theorem dX0_putAll_2 : decode cX0_putAll 2 = .ok (.iconst 0, 1) := by decide +kernel
theorem dX0_putAll_3 : decode cX0_putAll 3 = .ok (.aload_n 1, 1) := by decide +kernel
theorem dX0_putAll_4 : decode cX0_putAll 4 = .ok (.getfield 21, 3) := by decide +kernel
theorem dX0_putAll_7 : decode cX0_putAll 7 = .ok (.invokevirtual 52, 3) := by decide +kernel
theorem dX0_putAll_10 : decode cX0_putAll 10 = .ok (.return_, 1) := by decide +kernel
abbrev rmX0_putAll : Room := { frames := 2, cells := 0, slots := 0, locals := 84 }
set_option maxHeartbeats 4000000 in
set_option maxRecDepth 100000 in
theorem wP_X0_putAll {G : mG} {F : Nat} {x : mXT} {sz : Nat} {M0 : mM} (X : mCX G RX0 cX0_putAll 2 none "putAll" rmX0_putAll x) (hQ : mQV x M0 (sz, 0, 0)) {l0 : Nat} {l1 : Nat} {M : mM} (h : P_X0_putAll G F l0 l1 M = some M0) : WW x (sz, 0, 0) M 0 [(0, .ref l0), (1, .ref l1)] [] := by
  unfold P_X0_putAll at h
  refine ww_aload_n 0 X dX0_putAll_0 0 rfl rfl ?_
  refine ww_aload_n 1 X dX0_putAll_1 1 rfl rfl ?_
  refine ww_iconst 2 X (v := (0 : Int32)) dX0_putAll_2 (by decide) ?_
  refine ww_aload_n 3 X dX0_putAll_3 1 rfl rfl ?_
  obtain ⟨v4, e4, h⟩ := bO_some h
  refine ww_getI 4 X dX0_putAll_4 fG_X0_21 e4 ?_
  obtain ⟨_, f7, h⟩ := bO_some h
  obtain ⟨M7, e7, h⟩ := bO_some h
  refine ww_callVV0 7 X dX0_putAll_7 mY_X0_putPart mL_X0_52 (rcv_spec f7) ⟨_, _, rfl⟩ (by decide) (As := [.ref l1, .int (0 : Int32), .int v4]) (rest := []) rfl rfl ⟨Nat.le_of_ble_eq_true rfl, Nat.le_of_ble_eq_true rfl⟩ (Nat.le_of_ble_eq_true rfl) (fun l D A => c_X0_putPart l D A e7) ?_
  exact ww_vretE 10 X hQ dX0_putAll_10 h
theorem c_X0_putAll {G : mG} {F sz : Nat} {M0 : mM} (l : Launch) (D : mD) (A : Nat → Prop) {l0 : Nat} {l1 : Nat} {M : mM} (h : P_X0_putAll G F l0 l1 M = some M0) : mMetV l D G A yX0_putAll cX0_putAll 2 none 2 84 0 0 [.ref l0, .ref l1] M sz M0 sz := mMetV_of l D G A (by decide) (Nat.le_of_ble_eq_true rfl) (fun x X hQ => wP_X0_putAll X hQ h)
/-! SealedTokens$Bytes.become(LSealedTokens$Bytes;)V -/
theorem dX0_become_0 : decode cX0_become 0 = .ok (.aload_n 0, 1) := by decide +kernel
theorem dX0_become_1 : decode cX0_become 1 = .ok (.invokevirtual 56, 3) := by decide +kernel
theorem dX0_become_4 : decode cX0_become 4 = .ok (.aload_n 0, 1) := by decide +kernel
theorem dX0_become_5 : decode cX0_become 5 = .ok (.aload_n 1, 1) := by decide +kernel
theorem dX0_become_6 : decode cX0_become 6 = .ok (.iconst 0, 1) := by decide +kernel
theorem dX0_become_7 : decode cX0_become 7 = .ok (.aload_n 1, 1) := by decide +kernel
theorem dX0_become_8 : decode cX0_become 8 = .ok (.getfield 21, 3) := by decide +kernel
theorem dX0_become_11 : decode cX0_become 11 = .ok (.invokevirtual 52, 3) := by decide +kernel
theorem dX0_become_14 : decode cX0_become 14 = .ok (.return_, 1) := by decide +kernel
abbrev rmX0_become : Room := { frames := 2, cells := 0, slots := 0, locals := 84 }
set_option maxHeartbeats 4000000 in
set_option maxRecDepth 100000 in
theorem wP_X0_become {G : mG} {F : Nat} {x : mXT} {sz : Nat} {M0 : mM} (X : mCX G RX0 cX0_become 2 none "become" rmX0_become x) (hQ : mQV x M0 (sz, 0, 0)) {l0 : Nat} {l1 : Nat} {M : mM} (h : P_X0_become G F l0 l1 M = some M0) : WW x (sz, 0, 0) M 0 [(0, .ref l0), (1, .ref l1)] [] := by
  unfold P_X0_become at h
  refine ww_aload_n 0 X dX0_become_0 0 rfl rfl ?_
  obtain ⟨_, f1, h⟩ := bO_some h
  obtain ⟨M1, e1, h⟩ := bO_some h
  refine ww_callVV0 1 X dX0_become_1 mY_X0_clear mL_X0_56 (rcv_spec f1) ⟨_, _, rfl⟩ (by decide) (As := []) (rest := []) rfl rfl ⟨Nat.le_of_ble_eq_true rfl, Nat.le_of_ble_eq_true rfl⟩ (Nat.le_of_ble_eq_true rfl) (fun l D A => c_X0_clear l D A e1) ?_
  refine ww_aload_n 4 X dX0_become_4 0 rfl rfl ?_
  refine ww_aload_n 5 X dX0_become_5 1 rfl rfl ?_
  refine ww_iconst 6 X (v := (0 : Int32)) dX0_become_6 (by decide) ?_
  refine ww_aload_n 7 X dX0_become_7 1 rfl rfl ?_
  obtain ⟨v8, e8, h⟩ := bO_some h
  refine ww_getI 8 X dX0_become_8 fG_X0_21 e8 ?_
  obtain ⟨_, f11, h⟩ := bO_some h
  obtain ⟨M11, e11, h⟩ := bO_some h
  refine ww_callVV0 11 X dX0_become_11 mY_X0_putPart mL_X0_52 (rcv_spec f11) ⟨_, _, rfl⟩ (by decide) (As := [.ref l1, .int (0 : Int32), .int v8]) (rest := []) rfl rfl ⟨Nat.le_of_ble_eq_true rfl, Nat.le_of_ble_eq_true rfl⟩ (Nat.le_of_ble_eq_true rfl) (fun l D A => c_X0_putPart l D A e11) ?_
  exact ww_vretE 14 X hQ dX0_become_14 h
theorem c_X0_become {G : mG} {F sz : Nat} {M0 : mM} (l : Launch) (D : mD) (A : Nat → Prop) {l0 : Nat} {l1 : Nat} {M : mM} (h : P_X0_become G F l0 l1 M = some M0) : mMetV l D G A yX0_become cX0_become 2 none 2 84 0 0 [.ref l0, .ref l1] M sz M0 sz := mMetV_of l D G A (by decide) (Nat.le_of_ble_eq_true rfl) (fun x X hQ => wP_X0_become X hQ h)
/-! SealedTokens$Bytes.holds(I)Z -/
theorem dX0_holds_0 : decode cX0_holds 0 = .ok (.iconst 0, 1) := by decide +kernel
theorem dX0_holds_1 : decode cX0_holds 1 = .ok (.istore_n 2, 1) := by decide +kernel
theorem dX0_holds_2 : decode cX0_holds 2 = .ok (.iload_n 2, 1) := by decide +kernel
theorem dX0_holds_3 : decode cX0_holds 3 = .ok (.aload_n 0, 1) := by decide +kernel
theorem dX0_holds_4 : decode cX0_holds 4 = .ok (.getfield 21, 3) := by decide +kernel
theorem dX0_holds_7 : decode cX0_holds 7 = .ok (.if_icmp .ge 21, 3) := by decide +kernel
theorem dX0_holds_10 : decode cX0_holds 10 = .ok (.aload_n 0, 1) := by decide +kernel
theorem dX0_holds_11 : decode cX0_holds 11 = .ok (.getfield 15, 3) := by decide +kernel
theorem dX0_holds_14 : decode cX0_holds 14 = .ok (.iload_n 2, 1) := by decide +kernel
theorem dX0_holds_15 : decode cX0_holds 15 = .ok (.iaload, 1) := by decide +kernel
theorem dX0_holds_16 : decode cX0_holds 16 = .ok (.iload_n 1, 1) := by decide +kernel
theorem dX0_holds_17 : decode cX0_holds 17 = .ok (.if_icmp .ne 5, 3) := by decide +kernel
theorem dX0_holds_20 : decode cX0_holds 20 = .ok (.iconst 1, 1) := by decide +kernel
theorem dX0_holds_21 : decode cX0_holds 21 = .ok (.ireturn, 1) := by decide +kernel
theorem dX0_holds_22 : decode cX0_holds 22 = .ok (.iinc 2 1, 3) := by decide +kernel
theorem dX0_holds_25 : decode cX0_holds 25 = .ok (.goto (-23), 3) := by decide +kernel
theorem dX0_holds_28 : decode cX0_holds 28 = .ok (.iconst 0, 1) := by decide +kernel
theorem dX0_holds_29 : decode cX0_holds 29 = .ok (.ireturn, 1) := by decide +kernel
abbrev rmX0_holds : Room := { frames := 0, cells := 0, slots := 0, locals := 0 }
set_option maxHeartbeats 4000000 in
set_option maxRecDepth 100000 in
theorem wB_X0_holds_2 {G : mG} {F : Nat} {x : mXT} {sz : Nat} {r0 : Int32} {M0 : mM} (X : mCX G RX0 cX0_holds 3 (some .boolean) "holds" rmX0_holds x) (hQ : mQI x r0 M0 (sz, 0, 0)) : ∀ (n : Nat) (l0 : Nat) (l1 : Int32) (l2 : Int32) (M : mM), B_X0_holds_2 G F n l0 l1 l2 M = some (r0, M0) → WW x (sz, 0, 0) M 2 [(0, .ref l0), (1, .int l1), (2, .int l2)] [] := by
  intro n
  induction n with
  | zero =>
    intro l0 l1 l2 M h
    exact nomatch (show (none : Option (Int32 × mM)) = some (r0, M0) from h)
  | succ n ih =>
    intro l0 l1 l2 M h
    rw [B_X0_holds_2] at h
    refine ww_iload_n 2 X dX0_holds_2 2 rfl rfl ?_
    refine ww_aload_n 3 X dX0_holds_3 0 rfl rfl ?_
    obtain ⟨v4, e4, h⟩ := bO_some h
    refine ww_getI 4 X dX0_holds_4 fG_X0_21 e4 ?_
    refine ww_icmp_ge 7 28 X dX0_holds_7 (by decide) (fun q => ?_) (fun q => ?_)
    · replace h := (if_pos q).symm.trans h
      refine ww_iconst 28 X (v := (0 : Int32)) dX0_holds_28 (by decide) ?_
      exact ww_zretE 29 X hQ dX0_holds_29 h
    · replace h := (if_neg q).symm.trans h
      refine ww_aload_n 10 X dX0_holds_10 0 rfl rfl ?_
      obtain ⟨v11, e11, h⟩ := bO_some h
      refine ww_getR 11 X dX0_holds_11 fG_X0_15 e11 ?_
      refine ww_iload_n 14 X dX0_holds_14 2 rfl rfl ?_
      obtain ⟨v15, e15, h⟩ := bO_some h
      refine ww_iald 15 X dX0_holds_15 e15 ?_
      refine ww_iload_n 16 X dX0_holds_16 1 rfl rfl ?_
      refine ww_icmp_ne 17 22 X dX0_holds_17 (by decide) (fun q => ?_) (fun q => ?_)
      · replace h := (if_neg q).symm.trans h
        refine ww_iinc 22 X dX0_holds_22 (lv' := [(0, .ref l0), (1, .int l1), (2, .int (l2 + 1))]) 2 rfl rfl (by decide) [1, 2, 0] rfl ?_
        refine ww_goto 25 2 X dX0_holds_25 (by decide) ?_
        exact (ih _ _ _ _ h)
      · replace h := (if_pos q).symm.trans h
        refine ww_iconst 20 X (v := (1 : Int32)) dX0_holds_20 (by decide) ?_
        exact ww_zretE 21 X hQ dX0_holds_21 h
set_option maxHeartbeats 4000000 in
set_option maxRecDepth 100000 in
theorem wP_X0_holds {G : mG} {F : Nat} {x : mXT} {sz : Nat} {r0 : Int32} {M0 : mM} (X : mCX G RX0 cX0_holds 3 (some .boolean) "holds" rmX0_holds x) (hQ : mQI x r0 M0 (sz, 0, 0)) {l0 : Nat} {l1 : Int32} {M : mM} (h : P_X0_holds G F l0 l1 M = some (r0, M0)) : WW x (sz, 0, 0) M 0 [(0, .ref l0), (1, .int l1)] [] := by
  unfold P_X0_holds at h
  refine ww_iconst 0 X (v := (0 : Int32)) dX0_holds_0 (by decide) ?_
  refine ww_istore_n 1 X dX0_holds_1 (lv' := [(0, .ref l0), (1, .int l1), (2, .int (0 : Int32))]) rfl (by decide) [1, 2, 0] rfl ?_
  exact (wB_X0_holds_2 X hQ F _ _ _ _ h)
theorem c_X0_holds {G : mG} {F sz : Nat} {r0 : Int32} {M0 : mM} (l : Launch) (D : mD) (A : Nat → Prop) {l0 : Nat} {l1 : Int32} {M : mM} (h : P_X0_holds G F l0 l1 M = some (r0, M0)) : mMetI l D G A yX0_holds cX0_holds 3 (some .boolean) 0 0 0 0 [.ref l0, .int l1] M sz r0 M0 sz := mMetI_of l D G A (by decide) (Nat.le_of_ble_eq_true rfl) (fun x X hQ => wP_X0_holds X hQ h)
/-! SealedTokens$Bytes.compare(LSealedTokens$Bytes;ILSealedTokens$Bytes;II)I -/
theorem dX0_compare_0 : decode cX0_compare 0 = .ok (.iconst 0, 1) := by decide +kernel
theorem dX0_compare_1 : decode cX0_compare 1 = .ok (.istore 5, 2) := by decide +kernel
theorem dX0_compare_3 : decode cX0_compare 3 = .ok (.iload 5, 2) := by decide +kernel
theorem dX0_compare_5 : decode cX0_compare 5 = .ok (.iload 4, 2) := by decide +kernel
theorem dX0_compare_7 : decode cX0_compare 7 = .ok (.if_icmp .ge 49, 3) := by decide +kernel
theorem dX0_compare_10 : decode cX0_compare 10 = .ok (.aload_n 0, 1) := by decide +kernel
theorem dX0_compare_11 : decode cX0_compare 11 = .ok (.iload_n 1, 1) := by decide +kernel
theorem dX0_compare_12 : decode cX0_compare 12 = .ok (.iload 5, 2) := by decide +kernel
theorem dX0_compare_14 : decode cX0_compare 14 = .ok (.iadd, 1) := by decide +kernel
theorem dX0_compare_15 : decode cX0_compare 15 = .ok (.invokevirtual 63, 3) := by decide +kernel
theorem dX0_compare_18 : decode cX0_compare 18 = .ok (.istore 6, 2) := by decide +kernel
theorem dX0_compare_20 : decode cX0_compare 20 = .ok (.aload_n 2, 1) := by decide +kernel
theorem dX0_compare_21 : decode cX0_compare 21 = .ok (.iload_n 3, 1) := by decide +kernel
theorem dX0_compare_22 : decode cX0_compare 22 = .ok (.iload 5, 2) := by decide +kernel
theorem dX0_compare_24 : decode cX0_compare 24 = .ok (.iadd, 1) := by decide +kernel
theorem dX0_compare_25 : decode cX0_compare 25 = .ok (.invokevirtual 63, 3) := by decide +kernel
theorem dX0_compare_28 : decode cX0_compare 28 = .ok (.istore 7, 2) := by decide +kernel
theorem dX0_compare_30 : decode cX0_compare 30 = .ok (.iload 6, 2) := by decide +kernel
theorem dX0_compare_32 : decode cX0_compare 32 = .ok (.iload 7, 2) := by decide +kernel
theorem dX0_compare_34 : decode cX0_compare 34 = .ok (.if_icmp .eq 16, 3) := by decide +kernel
theorem dX0_compare_37 : decode cX0_compare 37 = .ok (.iload 6, 2) := by decide +kernel
theorem dX0_compare_39 : decode cX0_compare 39 = .ok (.iload 7, 2) := by decide +kernel
theorem dX0_compare_41 : decode cX0_compare 41 = .ok (.if_icmp .ge 7, 3) := by decide +kernel
theorem dX0_compare_44 : decode cX0_compare 44 = .ok (.iconst (-1), 1) := by decide +kernel
theorem dX0_compare_45 : decode cX0_compare 45 = .ok (.goto 4, 3) := by decide +kernel
theorem dX0_compare_48 : decode cX0_compare 48 = .ok (.iconst 1, 1) := by decide +kernel
theorem dX0_compare_49 : decode cX0_compare 49 = .ok (.ireturn, 1) := by decide +kernel
theorem dX0_compare_50 : decode cX0_compare 50 = .ok (.iinc 5 1, 3) := by decide +kernel
theorem dX0_compare_53 : decode cX0_compare 53 = .ok (.goto (-50), 3) := by decide +kernel
theorem dX0_compare_56 : decode cX0_compare 56 = .ok (.iconst 0, 1) := by decide +kernel
theorem dX0_compare_57 : decode cX0_compare 57 = .ok (.ireturn, 1) := by decide +kernel
abbrev rmX0_compare : Room := { frames := 1, cells := 0, slots := 0, locals := 21 }
set_option maxHeartbeats 4000000 in
set_option maxRecDepth 100000 in
theorem wB_X0_compare_3 {G : mG} {F : Nat} {x : mXT} {sz : Nat} {r0 : Int32} {M0 : mM} (X : mCX G RX0 cX0_compare 8 (some .int) "compare" rmX0_compare x) (hQ : mQI x r0 M0 (sz, 0, 0)) : ∀ (n : Nat) (l0 : Nat) (l1 : Int32) (l2 : Nat) (l3 : Int32) (l4 : Int32) (l5 : Int32) (M : mM), B_X0_compare_3 G F n l0 l1 l2 l3 l4 l5 M = some (r0, M0) → WW x (sz, 0, 0) M 3 [(0, .ref l0), (1, .int l1), (2, .ref l2), (3, .int l3), (4, .int l4), (5, .int l5)] [] := by
  intro n
  induction n with
  | zero =>
    intro l0 l1 l2 l3 l4 l5 M h
    exact nomatch (show (none : Option (Int32 × mM)) = some (r0, M0) from h)
  | succ n ih =>
    intro l0 l1 l2 l3 l4 l5 M h
    rw [B_X0_compare_3] at h
    refine ww_iload 3 X dX0_compare_3 5 rfl ?_
    refine ww_iload 5 X dX0_compare_5 4 rfl ?_
    refine ww_icmp_ge 7 56 X dX0_compare_7 (by decide) (fun q => ?_) (fun q => ?_)
    · replace h := (if_pos q).symm.trans h
      refine ww_iconst 56 X (v := (0 : Int32)) dX0_compare_56 (by decide) ?_
      exact ww_iretE 57 X hQ dX0_compare_57 h
    · replace h := (if_neg q).symm.trans h
      refine ww_aload_n 10 X dX0_compare_10 0 rfl rfl ?_
      refine ww_iload_n 11 X dX0_compare_11 1 rfl rfl ?_
      refine ww_iload 12 X dX0_compare_12 5 rfl ?_
      refine ww_iadd 14 X dX0_compare_14 ?_
      obtain ⟨_, f15, h⟩ := bO_some h
      obtain ⟨v15, M15, e15, h⟩ := bP_some h
      refine ww_callVI0 15 X dX0_compare_15 mY_X0_get mL_X0_63 (rcv_spec f15) ⟨_, _, rfl⟩ (by decide) (As := [.int (l1 + l5)]) (rest := []) rfl rfl ⟨Nat.le_of_ble_eq_true rfl, Nat.le_of_ble_eq_true rfl⟩ (Nat.le_of_ble_eq_true rfl) (fun l D A => c_X0_get l D A e15) ?_
      refine ww_istore 18 X dX0_compare_18 (lv' := [(0, .ref l0), (1, .int l1), (2, .ref l2), (3, .int l3), (4, .int l4), (5, .int l5), (6, .int v15)]) (by decide) [1, 2, 3, 4, 5, 6, 0] rfl ?_
      refine ww_aload_n 20 X dX0_compare_20 2 rfl rfl ?_
      refine ww_iload_n 21 X dX0_compare_21 3 rfl rfl ?_
      refine ww_iload 22 X dX0_compare_22 5 rfl ?_
      refine ww_iadd 24 X dX0_compare_24 ?_
      obtain ⟨_, f25, h⟩ := bO_some h
      obtain ⟨v25, M25, e25, h⟩ := bP_some h
      refine ww_callVI0 25 X dX0_compare_25 mY_X0_get mL_X0_63 (rcv_spec f25) ⟨_, _, rfl⟩ (by decide) (As := [.int (l3 + l5)]) (rest := []) rfl rfl ⟨Nat.le_of_ble_eq_true rfl, Nat.le_of_ble_eq_true rfl⟩ (Nat.le_of_ble_eq_true rfl) (fun l D A => c_X0_get l D A e25) ?_
      refine ww_istore 28 X dX0_compare_28 (lv' := [(0, .ref l0), (1, .int l1), (2, .ref l2), (3, .int l3), (4, .int l4), (5, .int l5), (6, .int v15), (7, .int v25)]) (by decide) [1, 2, 3, 4, 5, 6, 7, 0] rfl ?_
      refine ww_iload 30 X dX0_compare_30 6 rfl ?_
      refine ww_iload 32 X dX0_compare_32 7 rfl ?_
      refine ww_icmp_eq 34 50 X dX0_compare_34 (by decide) (fun q => ?_) (fun q => ?_)
      · replace h := (if_pos q).symm.trans h
        refine ww_iinc 50 X dX0_compare_50 (lv' := [(0, .ref l0), (1, .int l1), (2, .ref l2), (3, .int l3), (4, .int l4), (5, .int (l5 + 1)), (6, .int v15), (7, .int v25)]) 5 rfl rfl (by decide) [1, 2, 3, 4, 5, 0, 6, 7] rfl ?_
        refine ww_goto 53 3 X dX0_compare_53 (by decide) ?_
        exact ww_sub [0, 1, 2, 3, 4, 5] rfl (ih _ _ _ _ _ _ _ h)
      · replace h := (if_neg q).symm.trans h
        refine ww_iload 37 X dX0_compare_37 6 rfl ?_
        refine ww_iload 39 X dX0_compare_39 7 rfl ?_
        refine ww_icmp_ge 41 48 X dX0_compare_41 (by decide) (fun q => ?_) (fun q => ?_)
        · replace h := (if_pos q).symm.trans h
          refine ww_iconst 48 X (v := (1 : Int32)) dX0_compare_48 (by decide) ?_
          exact ww_iretE 49 X hQ dX0_compare_49 h
        · replace h := (if_neg q).symm.trans h
          refine ww_iconst 44 X (v := (-1 : Int32)) dX0_compare_44 (by decide) ?_
          refine ww_goto 45 49 X dX0_compare_45 (by decide) ?_
          exact ww_iretE 49 X hQ dX0_compare_49 h
set_option maxHeartbeats 4000000 in
set_option maxRecDepth 100000 in
theorem wP_X0_compare {G : mG} {F : Nat} {x : mXT} {sz : Nat} {r0 : Int32} {M0 : mM} (X : mCX G RX0 cX0_compare 8 (some .int) "compare" rmX0_compare x) (hQ : mQI x r0 M0 (sz, 0, 0)) {l0 : Nat} {l1 : Int32} {l2 : Nat} {l3 : Int32} {l4 : Int32} {M : mM} (h : P_X0_compare G F l0 l1 l2 l3 l4 M = some (r0, M0)) : WW x (sz, 0, 0) M 0 [(0, .ref l0), (1, .int l1), (2, .ref l2), (3, .int l3), (4, .int l4)] [] := by
  unfold P_X0_compare at h
  refine ww_iconst 0 X (v := (0 : Int32)) dX0_compare_0 (by decide) ?_
  refine ww_istore 1 X dX0_compare_1 (lv' := [(0, .ref l0), (1, .int l1), (2, .ref l2), (3, .int l3), (4, .int l4), (5, .int (0 : Int32))]) (by decide) [1, 2, 3, 4, 5, 0] rfl ?_
  exact (wB_X0_compare_3 X hQ F _ _ _ _ _ _ _ h)
theorem c_X0_compare {G : mG} {F sz : Nat} {r0 : Int32} {M0 : mM} (l : Launch) (D : mD) (A : Nat → Prop) {l0 : Nat} {l1 : Int32} {l2 : Nat} {l3 : Int32} {l4 : Int32} {M : mM} (h : P_X0_compare G F l0 l1 l2 l3 l4 M = some (r0, M0)) : mMetI l D G A yX0_compare cX0_compare 8 (some .int) 1 21 0 0 [.ref l0, .int l1, .ref l2, .int l3, .int l4] M sz r0 M0 sz := mMetI_of l D G A (by decide) (Nat.le_of_ble_eq_true rfl) (fun x X hQ => wP_X0_compare X hQ h)
/-! SealedTokens$Bytes.same(LSealedTokens$Bytes;)Z -/
theorem dX0_same_0 : decode cX0_same 0 = .ok (.aload_n 0, 1) := by decide +kernel
theorem dX0_same_1 : decode cX0_same 1 = .ok (.getfield 21, 3) := by decide +kernel
theorem dX0_same_4 : decode cX0_same 4 = .ok (.aload_n 1, 1) := by decide +kernel
theorem dX0_same_5 : decode cX0_same 5 = .ok (.getfield 21, 3) := by decide +kernel
theorem dX0_same_8 : decode cX0_same 8 = .ok (.if_icmp .ne 21, 3) := by decide +kernel
theorem dX0_same_11 : decode cX0_same 11 = .ok (.aload_n 0, 1) := by decide +kernel
theorem dX0_same_12 : decode cX0_same 12 = .ok (.iconst 0, 1) := by decide +kernel
theorem dX0_same_13 : decode cX0_same 13 = .ok (.aload_n 1, 1) := by decide +kernel
theorem dX0_same_14 : decode cX0_same 14 = .ok (.iconst 0, 1) := by decide +kernel
theorem dX0_same_15 : decode cX0_same 15 = .ok (.aload_n 0, 1) := by decide +kernel
theorem dX0_same_16 : decode cX0_same 16 = .ok (.getfield 21, 3) := by decide +kernel
theorem dX0_same_19 : decode cX0_same 19 = .ok (.invokestatic 59, 3) := by decide +kernel
theorem dX0_same_22 : decode cX0_same 22 = .ok (.ifCond .ne 7, 3) := by decide +kernel
theorem dX0_same_25 : decode cX0_same 25 = .ok (.iconst 1, 1) := by decide +kernel
theorem dX0_same_26 : decode cX0_same 26 = .ok (.goto 4, 3) := by decide +kernel
theorem dX0_same_29 : decode cX0_same 29 = .ok (.iconst 0, 1) := by decide +kernel
theorem dX0_same_30 : decode cX0_same 30 = .ok (.ireturn, 1) := by decide +kernel
abbrev rmX0_same : Room := { frames := 2, cells := 0, slots := 0, locals := 48 }
set_option maxHeartbeats 4000000 in
set_option maxRecDepth 100000 in
theorem wP_X0_same {G : mG} {F : Nat} {x : mXT} {sz : Nat} {r0 : Int32} {M0 : mM} (X : mCX G RX0 cX0_same 2 (some .boolean) "same" rmX0_same x) (hQ : mQI x r0 M0 (sz, 0, 0)) {l0 : Nat} {l1 : Nat} {M : mM} (h : P_X0_same G F l0 l1 M = some (r0, M0)) : WW x (sz, 0, 0) M 0 [(0, .ref l0), (1, .ref l1)] [] := by
  unfold P_X0_same at h
  refine ww_aload_n 0 X dX0_same_0 0 rfl rfl ?_
  obtain ⟨v1, e1, h⟩ := bO_some h
  refine ww_getI 1 X dX0_same_1 fG_X0_21 e1 ?_
  refine ww_aload_n 4 X dX0_same_4 1 rfl rfl ?_
  obtain ⟨v5, e5, h⟩ := bO_some h
  refine ww_getI 5 X dX0_same_5 fG_X0_21 e5 ?_
  refine ww_icmp_ne 8 29 X dX0_same_8 (by decide) (fun q => ?_) (fun q => ?_)
  · replace h := (if_neg q).symm.trans h
    refine ww_iconst 29 X (v := (0 : Int32)) dX0_same_29 (by decide) ?_
    exact ww_zretE 30 X hQ dX0_same_30 h
  · replace h := (if_pos q).symm.trans h
    refine ww_aload_n 11 X dX0_same_11 0 rfl rfl ?_
    refine ww_iconst 12 X (v := (0 : Int32)) dX0_same_12 (by decide) ?_
    refine ww_aload_n 13 X dX0_same_13 1 rfl rfl ?_
    refine ww_iconst 14 X (v := (0 : Int32)) dX0_same_14 (by decide) ?_
    refine ww_aload_n 15 X dX0_same_15 0 rfl rfl ?_
    obtain ⟨v16, e16, h⟩ := bO_some h
    refine ww_getI 16 X dX0_same_16 fG_X0_21 e16 ?_
    obtain ⟨v19, M19, e19, h⟩ := bP_some h
    refine ww_callSI0 19 X dX0_same_19 mY_X0_compare mL_X0_59 (As := [.ref l0, .int (0 : Int32), .ref l1, .int (0 : Int32), .int v16]) (rest := []) rfl rfl ⟨Nat.le_of_ble_eq_true rfl, Nat.le_of_ble_eq_true rfl⟩ (Nat.le_of_ble_eq_true rfl) (fun l D A => c_X0_compare l D A e19) ?_
    refine ww_if_ne 22 29 X dX0_same_22 (by decide) (fun q => ?_) (fun q => ?_)
    · replace h := (if_neg q).symm.trans h
      refine ww_iconst 29 X (v := (0 : Int32)) dX0_same_29 (by decide) ?_
      exact ww_zretE 30 X hQ dX0_same_30 h
    · replace h := (if_pos q).symm.trans h
      refine ww_iconst 25 X (v := (1 : Int32)) dX0_same_25 (by decide) ?_
      refine ww_goto 26 30 X dX0_same_26 (by decide) ?_
      exact ww_zretE 30 X hQ dX0_same_30 h
theorem c_X0_same {G : mG} {F sz : Nat} {r0 : Int32} {M0 : mM} (l : Launch) (D : mD) (A : Nat → Prop) {l0 : Nat} {l1 : Nat} {M : mM} (h : P_X0_same G F l0 l1 M = some (r0, M0)) : mMetI l D G A yX0_same cX0_same 2 (some .boolean) 2 48 0 0 [.ref l0, .ref l1] M sz r0 M0 sz := mMetI_of l D G A (by decide) (Nat.le_of_ble_eq_true rfl) (fun x X hQ => wP_X0_same X hQ h)
/-! SealedTokens$Bytes.isBelow(LSealedTokens$Bytes;LSealedTokens$Bytes;)Z -/
theorem dX0_isBelow_0 : decode cX0_isBelow 0 = .ok (.aload_n 0, 1) := by decide +kernel
theorem dX0_isBelow_1 : decode cX0_isBelow 1 = .ok (.getfield 21, 3) := by decide +kernel
theorem dX0_isBelow_4 : decode cX0_isBelow 4 = .ok (.aload_n 1, 1) := by decide +kernel
theorem dX0_isBelow_5 : decode cX0_isBelow 5 = .ok (.getfield 21, 3) := by decide +kernel
theorem dX0_isBelow_8 : decode cX0_isBelow 8 = .ok (.if_icmp .lt 28, 3) := by decide +kernel
theorem dX0_isBelow_11 : decode cX0_isBelow 11 = .ok (.aload_n 0, 1) := by decide +kernel
theorem dX0_isBelow_12 : decode cX0_isBelow 12 = .ok (.getfield 21, 3) := by decide +kernel
theorem dX0_isBelow_15 : decode cX0_isBelow 15 = .ok (.aload_n 1, 1) := by decide +kernel
theorem dX0_isBelow_16 : decode cX0_isBelow 16 = .ok (.getfield 21, 3) := by decide +kernel
theorem dX0_isBelow_19 : decode cX0_isBelow 19 = .ok (.if_icmp .ne 21, 3) := by decide +kernel
theorem dX0_isBelow_22 : decode cX0_isBelow 22 = .ok (.aload_n 0, 1) := by decide +kernel
theorem dX0_isBelow_23 : decode cX0_isBelow 23 = .ok (.iconst 0, 1) := by decide +kernel
theorem dX0_isBelow_24 : decode cX0_isBelow 24 = .ok (.aload_n 1, 1) := by decide +kernel
theorem dX0_isBelow_25 : decode cX0_isBelow 25 = .ok (.iconst 0, 1) := by decide +kernel
theorem dX0_isBelow_26 : decode cX0_isBelow 26 = .ok (.aload_n 0, 1) := by decide +kernel
theorem dX0_isBelow_27 : decode cX0_isBelow 27 = .ok (.getfield 21, 3) := by decide +kernel
theorem dX0_isBelow_30 : decode cX0_isBelow 30 = .ok (.invokestatic 59, 3) := by decide +kernel
theorem dX0_isBelow_33 : decode cX0_isBelow 33 = .ok (.ifCond .ge 7, 3) := by decide +kernel
theorem dX0_isBelow_36 : decode cX0_isBelow 36 = .ok (.iconst 1, 1) := by decide +kernel
theorem dX0_isBelow_37 : decode cX0_isBelow 37 = .ok (.goto 4, 3) := by decide +kernel
theorem dX0_isBelow_40 : decode cX0_isBelow 40 = .ok (.iconst 0, 1) := by decide +kernel
theorem dX0_isBelow_41 : decode cX0_isBelow 41 = .ok (.ireturn, 1) := by decide +kernel
abbrev rmX0_isBelow : Room := { frames := 2, cells := 0, slots := 0, locals := 48 }
set_option maxHeartbeats 4000000 in
set_option maxRecDepth 100000 in
theorem wP_X0_isBelow {G : mG} {F : Nat} {x : mXT} {sz : Nat} {r0 : Int32} {M0 : mM} (X : mCX G RX0 cX0_isBelow 2 (some .boolean) "isBelow" rmX0_isBelow x) (hQ : mQI x r0 M0 (sz, 0, 0)) {l0 : Nat} {l1 : Nat} {M : mM} (h : P_X0_isBelow G F l0 l1 M = some (r0, M0)) : WW x (sz, 0, 0) M 0 [(0, .ref l0), (1, .ref l1)] [] := by
  unfold P_X0_isBelow at h
  refine ww_aload_n 0 X dX0_isBelow_0 0 rfl rfl ?_
  obtain ⟨v1, e1, h⟩ := bO_some h
  refine ww_getI 1 X dX0_isBelow_1 fG_X0_21 e1 ?_
  refine ww_aload_n 4 X dX0_isBelow_4 1 rfl rfl ?_
  obtain ⟨v5, e5, h⟩ := bO_some h
  refine ww_getI 5 X dX0_isBelow_5 fG_X0_21 e5 ?_
  refine ww_icmp_lt 8 36 X dX0_isBelow_8 (by decide) (fun q => ?_) (fun q => ?_)
  · replace h := (if_pos q).symm.trans h
    refine ww_iconst 36 X (v := (1 : Int32)) dX0_isBelow_36 (by decide) ?_
    refine ww_goto 37 41 X dX0_isBelow_37 (by decide) ?_
    exact ww_zretE 41 X hQ dX0_isBelow_41 h
  · replace h := (if_neg q).symm.trans h
    refine ww_aload_n 11 X dX0_isBelow_11 0 rfl rfl ?_
    obtain ⟨v12, e12, h⟩ := bO_some h
    refine ww_getI 12 X dX0_isBelow_12 fG_X0_21 e12 ?_
    refine ww_aload_n 15 X dX0_isBelow_15 1 rfl rfl ?_
    obtain ⟨v16, e16, h⟩ := bO_some h
    refine ww_getI 16 X dX0_isBelow_16 fG_X0_21 e16 ?_
    refine ww_icmp_ne 19 40 X dX0_isBelow_19 (by decide) (fun q => ?_) (fun q => ?_)
    · replace h := (if_neg q).symm.trans h
      refine ww_iconst 40 X (v := (0 : Int32)) dX0_isBelow_40 (by decide) ?_
      exact ww_zretE 41 X hQ dX0_isBelow_41 h
    · replace h := (if_pos q).symm.trans h
      refine ww_aload_n 22 X dX0_isBelow_22 0 rfl rfl ?_
      refine ww_iconst 23 X (v := (0 : Int32)) dX0_isBelow_23 (by decide) ?_
      refine ww_aload_n 24 X dX0_isBelow_24 1 rfl rfl ?_
      refine ww_iconst 25 X (v := (0 : Int32)) dX0_isBelow_25 (by decide) ?_
      refine ww_aload_n 26 X dX0_isBelow_26 0 rfl rfl ?_
      obtain ⟨v27, e27, h⟩ := bO_some h
      refine ww_getI 27 X dX0_isBelow_27 fG_X0_21 e27 ?_
      obtain ⟨v30, M30, e30, h⟩ := bP_some h
      refine ww_callSI0 30 X dX0_isBelow_30 mY_X0_compare mL_X0_59 (As := [.ref l0, .int (0 : Int32), .ref l1, .int (0 : Int32), .int v27]) (rest := []) rfl rfl ⟨Nat.le_of_ble_eq_true rfl, Nat.le_of_ble_eq_true rfl⟩ (Nat.le_of_ble_eq_true rfl) (fun l D A => c_X0_compare l D A e30) ?_
      refine ww_if_ge 33 40 X dX0_isBelow_33 (by decide) (fun q => ?_) (fun q => ?_)
      · replace h := (if_pos q).symm.trans h
        refine ww_iconst 40 X (v := (0 : Int32)) dX0_isBelow_40 (by decide) ?_
        exact ww_zretE 41 X hQ dX0_isBelow_41 h
      · replace h := (if_neg q).symm.trans h
        refine ww_iconst 36 X (v := (1 : Int32)) dX0_isBelow_36 (by decide) ?_
        refine ww_goto 37 41 X dX0_isBelow_37 (by decide) ?_
        exact ww_zretE 41 X hQ dX0_isBelow_41 h
theorem c_X0_isBelow {G : mG} {F sz : Nat} {r0 : Int32} {M0 : mM} (l : Launch) (D : mD) (A : Nat → Prop) {l0 : Nat} {l1 : Nat} {M : mM} (h : P_X0_isBelow G F l0 l1 M = some (r0, M0)) : mMetI l D G A yX0_isBelow cX0_isBelow 2 (some .boolean) 2 48 0 0 [.ref l0, .ref l1] M sz r0 M0 sz := mMetI_of l D G A (by decide) (Nat.le_of_ble_eq_true rfl) (fun x X hQ => wP_X0_isBelow X hQ h)
/-! SealedTokens$Bytes.lettersFor(I)I -/
theorem dX0_lettersFor_0 : decode cX0_lettersFor 0 = .ok (.iload_n 0, 1) := by decide +kernel
theorem dX0_lettersFor_1 : decode cX0_lettersFor 1 = .ok (.iconst 4, 1) := by decide +kernel
theorem dX0_lettersFor_2 : decode cX0_lettersFor 2 = .ok (.imul, 1) := by decide +kernel
theorem dX0_lettersFor_3 : decode cX0_lettersFor 3 = .ok (.iconst 2, 1) := by decide +kernel
theorem dX0_lettersFor_4 : decode cX0_lettersFor 4 = .ok (.iadd, 1) := by decide +kernel
theorem dX0_lettersFor_5 : decode cX0_lettersFor 5 = .ok (.iconst 3, 1) := by decide +kernel
theorem dX0_lettersFor_6 : decode cX0_lettersFor 6 = .ok (.idiv, 1) := by decide +kernel
theorem dX0_lettersFor_7 : decode cX0_lettersFor 7 = .ok (.ireturn, 1) := by decide +kernel
abbrev rmX0_lettersFor : Room := { frames := 0, cells := 0, slots := 0, locals := 0 }
set_option maxHeartbeats 4000000 in
set_option maxRecDepth 100000 in
theorem wP_X0_lettersFor {G : mG} {F : Nat} {x : mXT} {sz : Nat} {r0 : Int32} {M0 : mM} (X : mCX G RX0 cX0_lettersFor 1 (some .int) "lettersFor" rmX0_lettersFor x) (hQ : mQI x r0 M0 (sz, 0, 0)) {l0 : Int32} {M : mM} (h : P_X0_lettersFor G F l0 M = some (r0, M0)) : WW x (sz, 0, 0) M 0 [(0, .int l0)] [] := by
  unfold P_X0_lettersFor at h
  refine ww_iload_n 0 X dX0_lettersFor_0 0 rfl rfl ?_
  refine ww_iconst 1 X (v := (4 : Int32)) dX0_lettersFor_1 (by decide) ?_
  refine ww_imul 2 X dX0_lettersFor_2 ?_
  refine ww_iconst 3 X (v := (2 : Int32)) dX0_lettersFor_3 (by decide) ?_
  refine ww_iadd 4 X dX0_lettersFor_4 ?_
  refine ww_iconst 5 X (v := (3 : Int32)) dX0_lettersFor_5 (by decide) ?_
  refine ww_idiv 6 X (v := (((l0 * (4 : Int32)) + (2 : Int32)) / (3 : Int32))) dX0_lettersFor_6 rfl ?_
  exact ww_iretE 7 X hQ dX0_lettersFor_7 h
theorem c_X0_lettersFor {G : mG} {F sz : Nat} {r0 : Int32} {M0 : mM} (l : Launch) (D : mD) (A : Nat → Prop) {l0 : Int32} {M : mM} (h : P_X0_lettersFor G F l0 M = some (r0, M0)) : mMetI l D G A yX0_lettersFor cX0_lettersFor 1 (some .int) 0 0 0 0 [.int l0] M sz r0 M0 sz := mMetI_of l D G A (by decide) (Nat.le_of_ble_eq_true rfl) (fun x X hQ => wP_X0_lettersFor X hQ h)
/-! SealedTokens$Bytes.bytesFor(I)I -/
theorem dX0_bytesFor_0 : decode cX0_bytesFor 0 = .ok (.iload_n 0, 1) := by decide +kernel
theorem dX0_bytesFor_1 : decode cX0_bytesFor 1 = .ok (.iconst 3, 1) := by decide +kernel
theorem dX0_bytesFor_2 : decode cX0_bytesFor 2 = .ok (.imul, 1) := by decide +kernel
theorem dX0_bytesFor_3 : decode cX0_bytesFor 3 = .ok (.iconst 4, 1) := by decide +kernel
theorem dX0_bytesFor_4 : decode cX0_bytesFor 4 = .ok (.idiv, 1) := by decide +kernel
theorem dX0_bytesFor_5 : decode cX0_bytesFor 5 = .ok (.ireturn, 1) := by decide +kernel
abbrev rmX0_bytesFor : Room := { frames := 0, cells := 0, slots := 0, locals := 0 }
set_option maxHeartbeats 4000000 in
set_option maxRecDepth 100000 in
theorem wP_X0_bytesFor {G : mG} {F : Nat} {x : mXT} {sz : Nat} {r0 : Int32} {M0 : mM} (X : mCX G RX0 cX0_bytesFor 1 (some .int) "bytesFor" rmX0_bytesFor x) (hQ : mQI x r0 M0 (sz, 0, 0)) {l0 : Int32} {M : mM} (h : P_X0_bytesFor G F l0 M = some (r0, M0)) : WW x (sz, 0, 0) M 0 [(0, .int l0)] [] := by
  unfold P_X0_bytesFor at h
  refine ww_iload_n 0 X dX0_bytesFor_0 0 rfl rfl ?_
  refine ww_iconst 1 X (v := (3 : Int32)) dX0_bytesFor_1 (by decide) ?_
  refine ww_imul 2 X dX0_bytesFor_2 ?_
  refine ww_iconst 3 X (v := (4 : Int32)) dX0_bytesFor_3 (by decide) ?_
  refine ww_idiv 4 X (v := ((l0 * (3 : Int32)) / (4 : Int32))) dX0_bytesFor_4 rfl ?_
  exact ww_iretE 5 X hQ dX0_bytesFor_5 h
theorem c_X0_bytesFor {G : mG} {F sz : Nat} {r0 : Int32} {M0 : mM} (l : Launch) (D : mD) (A : Nat → Prop) {l0 : Int32} {M : mM} (h : P_X0_bytesFor G F l0 M = some (r0, M0)) : mMetI l D G A yX0_bytesFor cX0_bytesFor 1 (some .int) 0 0 0 0 [.int l0] M sz r0 M0 sz := mMetI_of l D G A (by decide) (Nat.le_of_ble_eq_true rfl) (fun x X hQ => wP_X0_bytesFor X hQ h)
/-! SealedTokens$Bytes.letterValue(I)I -/
theorem dX0_letterValue_0 : decode cX0_letterValue 0 = .ok (.iload_n 0, 1) := by decide +kernel
theorem dX0_letterValue_1 : decode cX0_letterValue 1 = .ok (.bipush 65, 2) := by decide +kernel
theorem dX0_letterValue_3 : decode cX0_letterValue 3 = .ok (.if_icmp .lt 14, 3) := by decide +kernel
theorem dX0_letterValue_6 : decode cX0_letterValue 6 = .ok (.iload_n 0, 1) := by decide +kernel
theorem dX0_letterValue_7 : decode cX0_letterValue 7 = .ok (.bipush 90, 2) := by decide +kernel
theorem dX0_letterValue_9 : decode cX0_letterValue 9 = .ok (.if_icmp .gt 8, 3) := by decide +kernel
theorem dX0_letterValue_12 : decode cX0_letterValue 12 = .ok (.iload_n 0, 1) := by decide +kernel
theorem dX0_letterValue_13 : decode cX0_letterValue 13 = .ok (.bipush 65, 2) := by decide +kernel
theorem dX0_letterValue_15 : decode cX0_letterValue 15 = .ok (.isub, 1) := by decide +kernel
theorem dX0_letterValue_16 : decode cX0_letterValue 16 = .ok (.ireturn, 1) := by decide +kernel
theorem dX0_letterValue_17 : decode cX0_letterValue 17 = .ok (.iload_n 0, 1) := by decide +kernel
theorem dX0_letterValue_18 : decode cX0_letterValue 18 = .ok (.bipush 97, 2) := by decide +kernel
theorem dX0_letterValue_20 : decode cX0_letterValue 20 = .ok (.if_icmp .lt 17, 3) := by decide +kernel
theorem dX0_letterValue_23 : decode cX0_letterValue 23 = .ok (.iload_n 0, 1) := by decide +kernel
theorem dX0_letterValue_24 : decode cX0_letterValue 24 = .ok (.bipush 122, 2) := by decide +kernel
theorem dX0_letterValue_26 : decode cX0_letterValue 26 = .ok (.if_icmp .gt 11, 3) := by decide +kernel
theorem dX0_letterValue_29 : decode cX0_letterValue 29 = .ok (.iload_n 0, 1) := by decide +kernel
theorem dX0_letterValue_30 : decode cX0_letterValue 30 = .ok (.bipush 97, 2) := by decide +kernel
theorem dX0_letterValue_32 : decode cX0_letterValue 32 = .ok (.isub, 1) := by decide +kernel
theorem dX0_letterValue_33 : decode cX0_letterValue 33 = .ok (.bipush 26, 2) := by decide +kernel
theorem dX0_letterValue_35 : decode cX0_letterValue 35 = .ok (.iadd, 1) := by decide +kernel
theorem dX0_letterValue_36 : decode cX0_letterValue 36 = .ok (.ireturn, 1) := by decide +kernel
theorem dX0_letterValue_37 : decode cX0_letterValue 37 = .ok (.iload_n 0, 1) := by decide +kernel
theorem dX0_letterValue_38 : decode cX0_letterValue 38 = .ok (.bipush 48, 2) := by decide +kernel
theorem dX0_letterValue_40 : decode cX0_letterValue 40 = .ok (.if_icmp .lt 17, 3) := by decide +kernel
theorem dX0_letterValue_43 : decode cX0_letterValue 43 = .ok (.iload_n 0, 1) := by decide +kernel
theorem dX0_letterValue_44 : decode cX0_letterValue 44 = .ok (.bipush 57, 2) := by decide +kernel
theorem dX0_letterValue_46 : decode cX0_letterValue 46 = .ok (.if_icmp .gt 11, 3) := by decide +kernel
theorem dX0_letterValue_49 : decode cX0_letterValue 49 = .ok (.iload_n 0, 1) := by decide +kernel
theorem dX0_letterValue_50 : decode cX0_letterValue 50 = .ok (.bipush 48, 2) := by decide +kernel
theorem dX0_letterValue_52 : decode cX0_letterValue 52 = .ok (.isub, 1) := by decide +kernel
theorem dX0_letterValue_53 : decode cX0_letterValue 53 = .ok (.bipush 52, 2) := by decide +kernel
theorem dX0_letterValue_55 : decode cX0_letterValue 55 = .ok (.iadd, 1) := by decide +kernel
theorem dX0_letterValue_56 : decode cX0_letterValue 56 = .ok (.ireturn, 1) := by decide +kernel
theorem dX0_letterValue_57 : decode cX0_letterValue 57 = .ok (.iload_n 0, 1) := by decide +kernel
theorem dX0_letterValue_58 : decode cX0_letterValue 58 = .ok (.bipush 45, 2) := by decide +kernel
theorem dX0_letterValue_60 : decode cX0_letterValue 60 = .ok (.if_icmp .ne 8, 3) := by decide +kernel
theorem dX0_letterValue_63 : decode cX0_letterValue 63 = .ok (.bipush 62, 2) := by decide +kernel
theorem dX0_letterValue_65 : decode cX0_letterValue 65 = .ok (.goto 15, 3) := by decide +kernel
theorem dX0_letterValue_68 : decode cX0_letterValue 68 = .ok (.iload_n 0, 1) := by decide +kernel
theorem dX0_letterValue_69 : decode cX0_letterValue 69 = .ok (.bipush 95, 2) := by decide +kernel
theorem dX0_letterValue_71 : decode cX0_letterValue 71 = .ok (.if_icmp .ne 8, 3) := by decide +kernel
theorem dX0_letterValue_74 : decode cX0_letterValue 74 = .ok (.bipush 63, 2) := by decide +kernel
theorem dX0_letterValue_76 : decode cX0_letterValue 76 = .ok (.goto 4, 3) := by decide +kernel
theorem dX0_letterValue_79 : decode cX0_letterValue 79 = .ok (.iconst (-1), 1) := by decide +kernel
theorem dX0_letterValue_80 : decode cX0_letterValue 80 = .ok (.ireturn, 1) := by decide +kernel
abbrev rmX0_letterValue : Room := { frames := 0, cells := 0, slots := 0, locals := 0 }
set_option maxHeartbeats 4000000 in
set_option maxRecDepth 100000 in
theorem wB_X0_letterValue_57 {G : mG} {F : Nat} {x : mXT} {sz : Nat} {r0 : Int32} {M0 : mM} (X : mCX G RX0 cX0_letterValue 1 (some .int) "letterValue" rmX0_letterValue x) (hQ : mQI x r0 M0 (sz, 0, 0)) {l0 : Int32} {M : mM} (h : B_X0_letterValue_57 G F l0 M = some (r0, M0)) : WW x (sz, 0, 0) M 57 [(0, .int l0)] [] := by
  unfold B_X0_letterValue_57 at h
  refine ww_iload_n 57 X dX0_letterValue_57 0 rfl rfl ?_
  refine ww_bipush 58 X (v := (45 : Int32)) dX0_letterValue_58 (by decide) ?_
  refine ww_icmp_ne 60 68 X dX0_letterValue_60 (by decide) (fun q => ?_) (fun q => ?_)
  · replace h := (if_neg q).symm.trans h
    refine ww_iload_n 68 X dX0_letterValue_68 0 rfl rfl ?_
    refine ww_bipush 69 X (v := (95 : Int32)) dX0_letterValue_69 (by decide) ?_
    refine ww_icmp_ne 71 79 X dX0_letterValue_71 (by decide) (fun q => ?_) (fun q => ?_)
    · replace h := (if_neg q).symm.trans h
      refine ww_iconst 79 X (v := (-1 : Int32)) dX0_letterValue_79 (by decide) ?_
      exact ww_iretE 80 X hQ dX0_letterValue_80 h
    · replace h := (if_pos q).symm.trans h
      refine ww_bipush 74 X (v := (63 : Int32)) dX0_letterValue_74 (by decide) ?_
      refine ww_goto 76 80 X dX0_letterValue_76 (by decide) ?_
      exact ww_iretE 80 X hQ dX0_letterValue_80 h
  · replace h := (if_pos q).symm.trans h
    refine ww_bipush 63 X (v := (62 : Int32)) dX0_letterValue_63 (by decide) ?_
    refine ww_goto 65 80 X dX0_letterValue_65 (by decide) ?_
    exact ww_iretE 80 X hQ dX0_letterValue_80 h
set_option maxHeartbeats 4000000 in
set_option maxRecDepth 100000 in
theorem wB_X0_letterValue_37 {G : mG} {F : Nat} {x : mXT} {sz : Nat} {r0 : Int32} {M0 : mM} (X : mCX G RX0 cX0_letterValue 1 (some .int) "letterValue" rmX0_letterValue x) (hQ : mQI x r0 M0 (sz, 0, 0)) {l0 : Int32} {M : mM} (h : B_X0_letterValue_37 G F l0 M = some (r0, M0)) : WW x (sz, 0, 0) M 37 [(0, .int l0)] [] := by
  unfold B_X0_letterValue_37 at h
  refine ww_iload_n 37 X dX0_letterValue_37 0 rfl rfl ?_
  refine ww_bipush 38 X (v := (48 : Int32)) dX0_letterValue_38 (by decide) ?_
  refine ww_icmp_lt 40 57 X dX0_letterValue_40 (by decide) (fun q => ?_) (fun q => ?_)
  · replace h := (if_pos q).symm.trans h
    exact (wB_X0_letterValue_57 X hQ h)
  · replace h := (if_neg q).symm.trans h
    refine ww_iload_n 43 X dX0_letterValue_43 0 rfl rfl ?_
    refine ww_bipush 44 X (v := (57 : Int32)) dX0_letterValue_44 (by decide) ?_
    refine ww_icmp_gt 46 57 X dX0_letterValue_46 (by decide) (fun q => ?_) (fun q => ?_)
    · replace h := (if_pos q).symm.trans h
      exact (wB_X0_letterValue_57 X hQ h)
    · replace h := (if_neg q).symm.trans h
      refine ww_iload_n 49 X dX0_letterValue_49 0 rfl rfl ?_
      refine ww_bipush 50 X (v := (48 : Int32)) dX0_letterValue_50 (by decide) ?_
      refine ww_isub 52 X dX0_letterValue_52 ?_
      refine ww_bipush 53 X (v := (52 : Int32)) dX0_letterValue_53 (by decide) ?_
      refine ww_iadd 55 X dX0_letterValue_55 ?_
      exact ww_iretE 56 X hQ dX0_letterValue_56 h
set_option maxHeartbeats 4000000 in
set_option maxRecDepth 100000 in
theorem wB_X0_letterValue_17 {G : mG} {F : Nat} {x : mXT} {sz : Nat} {r0 : Int32} {M0 : mM} (X : mCX G RX0 cX0_letterValue 1 (some .int) "letterValue" rmX0_letterValue x) (hQ : mQI x r0 M0 (sz, 0, 0)) {l0 : Int32} {M : mM} (h : B_X0_letterValue_17 G F l0 M = some (r0, M0)) : WW x (sz, 0, 0) M 17 [(0, .int l0)] [] := by
  unfold B_X0_letterValue_17 at h
  refine ww_iload_n 17 X dX0_letterValue_17 0 rfl rfl ?_
  refine ww_bipush 18 X (v := (97 : Int32)) dX0_letterValue_18 (by decide) ?_
  refine ww_icmp_lt 20 37 X dX0_letterValue_20 (by decide) (fun q => ?_) (fun q => ?_)
  · replace h := (if_pos q).symm.trans h
    exact (wB_X0_letterValue_37 X hQ h)
  · replace h := (if_neg q).symm.trans h
    refine ww_iload_n 23 X dX0_letterValue_23 0 rfl rfl ?_
    refine ww_bipush 24 X (v := (122 : Int32)) dX0_letterValue_24 (by decide) ?_
    refine ww_icmp_gt 26 37 X dX0_letterValue_26 (by decide) (fun q => ?_) (fun q => ?_)
    · replace h := (if_pos q).symm.trans h
      exact (wB_X0_letterValue_37 X hQ h)
    · replace h := (if_neg q).symm.trans h
      refine ww_iload_n 29 X dX0_letterValue_29 0 rfl rfl ?_
      refine ww_bipush 30 X (v := (97 : Int32)) dX0_letterValue_30 (by decide) ?_
      refine ww_isub 32 X dX0_letterValue_32 ?_
      refine ww_bipush 33 X (v := (26 : Int32)) dX0_letterValue_33 (by decide) ?_
      refine ww_iadd 35 X dX0_letterValue_35 ?_
      exact ww_iretE 36 X hQ dX0_letterValue_36 h
set_option maxHeartbeats 4000000 in
set_option maxRecDepth 100000 in
theorem wP_X0_letterValue {G : mG} {F : Nat} {x : mXT} {sz : Nat} {r0 : Int32} {M0 : mM} (X : mCX G RX0 cX0_letterValue 1 (some .int) "letterValue" rmX0_letterValue x) (hQ : mQI x r0 M0 (sz, 0, 0)) {l0 : Int32} {M : mM} (h : P_X0_letterValue G F l0 M = some (r0, M0)) : WW x (sz, 0, 0) M 0 [(0, .int l0)] [] := by
  unfold P_X0_letterValue at h
  refine ww_iload_n 0 X dX0_letterValue_0 0 rfl rfl ?_
  refine ww_bipush 1 X (v := (65 : Int32)) dX0_letterValue_1 (by decide) ?_
  refine ww_icmp_lt 3 17 X dX0_letterValue_3 (by decide) (fun q => ?_) (fun q => ?_)
  · replace h := (if_pos q).symm.trans h
    exact (wB_X0_letterValue_17 X hQ h)
  · replace h := (if_neg q).symm.trans h
    refine ww_iload_n 6 X dX0_letterValue_6 0 rfl rfl ?_
    refine ww_bipush 7 X (v := (90 : Int32)) dX0_letterValue_7 (by decide) ?_
    refine ww_icmp_gt 9 17 X dX0_letterValue_9 (by decide) (fun q => ?_) (fun q => ?_)
    · replace h := (if_pos q).symm.trans h
      exact (wB_X0_letterValue_17 X hQ h)
    · replace h := (if_neg q).symm.trans h
      refine ww_iload_n 12 X dX0_letterValue_12 0 rfl rfl ?_
      refine ww_bipush 13 X (v := (65 : Int32)) dX0_letterValue_13 (by decide) ?_
      refine ww_isub 15 X dX0_letterValue_15 ?_
      exact ww_iretE 16 X hQ dX0_letterValue_16 h
theorem c_X0_letterValue {G : mG} {F sz : Nat} {r0 : Int32} {M0 : mM} (l : Launch) (D : mD) (A : Nat → Prop) {l0 : Int32} {M : mM} (h : P_X0_letterValue G F l0 M = some (r0, M0)) : mMetI l D G A yX0_letterValue cX0_letterValue 1 (some .int) 0 0 0 0 [.int l0] M sz r0 M0 sz := mMetI_of l D G A (by decide) (Nat.le_of_ble_eq_true rfl) (fun x X hQ => wP_X0_letterValue X hQ h)
/-! SealedTokens$Bytes.letterFault(LSealedTokens$Bytes;II)I -/
theorem dX0_letterFault_0 : decode cX0_letterFault 0 = .ok (.iload_n 1, 1) := by decide +kernel
theorem dX0_letterFault_1 : decode cX0_letterFault 1 = .ok (.istore_n 3, 1) := by decide +kernel
theorem dX0_letterFault_2 : decode cX0_letterFault 2 = .ok (.iload_n 3, 1) := by decide +kernel
theorem dX0_letterFault_3 : decode cX0_letterFault 3 = .ok (.iload_n 2, 1) := by decide +kernel
theorem dX0_letterFault_4 : decode cX0_letterFault 4 = .ok (.if_icmp .ge 25, 3) := by decide +kernel
theorem dX0_letterFault_7 : decode cX0_letterFault 7 = .ok (.aload_n 0, 1) := by decide +kernel
theorem dX0_letterFault_8 : decode cX0_letterFault 8 = .ok (.iload_n 3, 1) := by decide +kernel
theorem dX0_letterFault_9 : decode cX0_letterFault 9 = .ok (.invokevirtual 63, 3) := by decide +kernel
theorem dX0_letterFault_12 : decode cX0_letterFault 12 = .ok (.invokestatic 67, 3) := by decide +kernel
theorem dX0_letterFault_15 : decode cX0_letterFault 15 = .ok (.iconst (-1), 1) := by decide +kernel
theorem dX0_letterFault_16 : decode cX0_letterFault 16 = .ok (.if_icmp .ne 7, 3) := by decide +kernel
theorem dX0_letterFault_19 : decode cX0_letterFault 19 = .ok (.iload_n 3, 1) := by decide +kernel
theorem dX0_letterFault_20 : decode cX0_letterFault 20 = .ok (.iload_n 1, 1) := by decide +kernel
theorem dX0_letterFault_21 : decode cX0_letterFault 21 = .ok (.isub, 1) := by decide +kernel
theorem dX0_letterFault_22 : decode cX0_letterFault 22 = .ok (.ireturn, 1) := by decide +kernel
theorem dX0_letterFault_23 : decode cX0_letterFault 23 = .ok (.iinc 3 1, 3) := by decide +kernel
theorem dX0_letterFault_26 : decode cX0_letterFault 26 = .ok (.goto (-24), 3) := by decide +kernel
theorem dX0_letterFault_29 : decode cX0_letterFault 29 = .ok (.iload_n 2, 1) := by decide +kernel
theorem dX0_letterFault_30 : decode cX0_letterFault 30 = .ok (.iload_n 1, 1) := by decide +kernel
theorem dX0_letterFault_31 : decode cX0_letterFault 31 = .ok (.isub, 1) := by decide +kernel
theorem dX0_letterFault_32 : decode cX0_letterFault 32 = .ok (.iconst 0, 1) := by decide +kernel
theorem dX0_letterFault_33 : decode cX0_letterFault 33 = .ok (.invokestatic 9, 3) := by decide +kernel
theorem dX0_letterFault_36 : decode cX0_letterFault 36 = .ok (.istore_n 3, 1) := by decide +kernel
theorem dX0_letterFault_37 : decode cX0_letterFault 37 = .ok (.iload_n 3, 1) := by decide +kernel
theorem dX0_letterFault_38 : decode cX0_letterFault 38 = .ok (.iconst 3, 1) := by decide +kernel
theorem dX0_letterFault_39 : decode cX0_letterFault 39 = .ok (.iand, 1) := by decide +kernel
theorem dX0_letterFault_40 : decode cX0_letterFault 40 = .ok (.istore 4, 2) := by decide +kernel
theorem dX0_letterFault_42 : decode cX0_letterFault 42 = .ok (.iload 4, 2) := by decide +kernel
theorem dX0_letterFault_44 : decode cX0_letterFault 44 = .ok (.iconst 1, 1) := by decide +kernel
theorem dX0_letterFault_45 : decode cX0_letterFault 45 = .ok (.if_icmp .ne 5, 3) := by decide +kernel
theorem dX0_letterFault_48 : decode cX0_letterFault 48 = .ok (.iload_n 3, 1) := by decide +kernel
theorem dX0_letterFault_49 : decode cX0_letterFault 49 = .ok (.ireturn, 1) := by decide +kernel
theorem dX0_letterFault_50 : decode cX0_letterFault 50 = .ok (.iload 4, 2) := by decide +kernel
theorem dX0_letterFault_52 : decode cX0_letterFault 52 = .ok (.iconst 2, 1) := by decide +kernel
theorem dX0_letterFault_53 : decode cX0_letterFault 53 = .ok (.if_icmp .ne 8, 3) := by decide +kernel
theorem dX0_letterFault_56 : decode cX0_letterFault 56 = .ok (.bipush 15, 2) := by decide +kernel
theorem dX0_letterFault_58 : decode cX0_letterFault 58 = .ok (.goto 14, 3) := by decide +kernel
theorem dX0_letterFault_61 : decode cX0_letterFault 61 = .ok (.iload 4, 2) := by decide +kernel
theorem dX0_letterFault_63 : decode cX0_letterFault 63 = .ok (.iconst 3, 1) := by decide +kernel
theorem dX0_letterFault_64 : decode cX0_letterFault 64 = .ok (.if_icmp .ne 7, 3) := by decide +kernel
theorem dX0_letterFault_67 : decode cX0_letterFault 67 = .ok (.iconst 3, 1) := by decide +kernel
theorem dX0_letterFault_68 : decode cX0_letterFault 68 = .ok (.goto 4, 3) := by decide +kernel
theorem dX0_letterFault_71 : decode cX0_letterFault 71 = .ok (.iconst 0, 1) := by decide +kernel
theorem dX0_letterFault_72 : decode cX0_letterFault 72 = .ok (.istore 5, 2) := by decide +kernel
theorem dX0_letterFault_74 : decode cX0_letterFault 74 = .ok (.iload 5, 2) := by decide +kernel
theorem dX0_letterFault_76 : decode cX0_letterFault 76 = .ok (.ifCond .eq 19, 3) := by decide +kernel
theorem dX0_letterFault_79 : decode cX0_letterFault 79 = .ok (.aload_n 0, 1) := by decide +kernel
theorem dX0_letterFault_80 : decode cX0_letterFault 80 = .ok (.iload_n 2, 1) := by decide +kernel
theorem dX0_letterFault_81 : decode cX0_letterFault 81 = .ok (.iconst 1, 1) := by decide +kernel
theorem dX0_letterFault_82 : decode cX0_letterFault 82 = .ok (.isub, 1) := by decide +kernel
theorem dX0_letterFault_83 : decode cX0_letterFault 83 = .ok (.invokevirtual 63, 3) := by decide +kernel
theorem dX0_letterFault_86 : decode cX0_letterFault 86 = .ok (.invokestatic 67, 3) := by decide +kernel
theorem dX0_letterFault_89 : decode cX0_letterFault 89 = .ok (.iload 5, 2) := by decide +kernel
theorem dX0_letterFault_91 : decode cX0_letterFault 91 = .ok (.iand, 1) := by decide +kernel
theorem dX0_letterFault_92 : decode cX0_letterFault 92 = .ok (.ifCond .ne 7, 3) := by decide +kernel
theorem dX0_letterFault_95 : decode cX0_letterFault 95 = .ok (.iconst 1, 1) := by decide +kernel
theorem dX0_letterFault_96 : decode cX0_letterFault 96 = .ok (.goto 4, 3) := by decide +kernel
theorem dX0_letterFault_99 : decode cX0_letterFault 99 = .ok (.iconst 0, 1) := by decide +kernel
theorem dX0_letterFault_100 : decode cX0_letterFault 100 = .ok (.istore 6, 2) := by decide +kernel
theorem dX0_letterFault_102 : decode cX0_letterFault 102 = .ok (.iload 6, 2) := by decide +kernel
theorem dX0_letterFault_104 : decode cX0_letterFault 104 = .ok (.ifCond .eq 7, 3) := by decide +kernel
theorem dX0_letterFault_107 : decode cX0_letterFault 107 = .ok (.iconst (-1), 1) := by decide +kernel
theorem dX0_letterFault_108 : decode cX0_letterFault 108 = .ok (.goto 6, 3) := by decide +kernel
theorem dX0_letterFault_111 : decode cX0_letterFault 111 = .ok (.iload_n 3, 1) := by decide +kernel
theorem dX0_letterFault_112 : decode cX0_letterFault 112 = .ok (.iconst 1, 1) := by decide +kernel
theorem dX0_letterFault_113 : decode cX0_letterFault 113 = .ok (.isub, 1) := by decide +kernel
theorem dX0_letterFault_114 : decode cX0_letterFault 114 = .ok (.ireturn, 1) := by decide +kernel
abbrev rmX0_letterFault : Room := { frames := 1, cells := 0, slots := 0, locals := 21 }
set_option maxHeartbeats 4000000 in
set_option maxRecDepth 100000 in
theorem wB_X0_letterFault_72 {G : mG} {F : Nat} {x : mXT} {sz : Nat} {r0 : Int32} {M0 : mM} (X : mCX G RX0 cX0_letterFault 7 (some .int) "letterFault" rmX0_letterFault x) (hQ : mQI x r0 M0 (sz, 0, 0)) {l0 : Nat} {l2 : Int32} {l3 : Int32} {sk0 : Int32} {M : mM} (h : B_X0_letterFault_72 G F l0 l2 l3 sk0 M = some (r0, M0)) : WW x (sz, 0, 0) M 72 [(0, .ref l0), (2, .int l2), (3, .int l3)] [.int sk0] := by
  unfold B_X0_letterFault_72 at h
  refine ww_istore 72 X dX0_letterFault_72 (lv' := [(0, .ref l0), (2, .int l2), (3, .int l3), (5, .int sk0)]) (by decide) [1, 2, 3, 0] rfl ?_
  refine ww_iload 74 X dX0_letterFault_74 3 rfl ?_
  refine ww_if_eq 76 95 X dX0_letterFault_76 (by decide) (fun q => ?_) (fun q => ?_)
  · replace h := (if_pos q).symm.trans h
    refine ww_iconst 95 X (v := (1 : Int32)) dX0_letterFault_95 (by decide) ?_
    refine ww_goto 96 100 X dX0_letterFault_96 (by decide) ?_
    refine ww_istore 100 X dX0_letterFault_100 (lv' := [(0, .ref l0), (2, .int l2), (3, .int l3), (5, .int sk0), (6, .int (1 : Int32))]) (by decide) [1, 2, 3, 4, 0] rfl ?_
    refine ww_iload 102 X dX0_letterFault_102 4 rfl ?_
    refine ww_if_eq 104 111 X dX0_letterFault_104 (by decide) (fun q => ?_) (fun q => ?_)
    · replace h := (if_pos q).symm.trans h
      refine ww_iload_n 111 X dX0_letterFault_111 2 rfl rfl ?_
      refine ww_iconst 112 X (v := (1 : Int32)) dX0_letterFault_112 (by decide) ?_
      refine ww_isub 113 X dX0_letterFault_113 ?_
      exact ww_iretE 114 X hQ dX0_letterFault_114 h
    · replace h := (if_neg q).symm.trans h
      refine ww_iconst 107 X (v := (-1 : Int32)) dX0_letterFault_107 (by decide) ?_
      refine ww_goto 108 114 X dX0_letterFault_108 (by decide) ?_
      exact ww_iretE 114 X hQ dX0_letterFault_114 h
  · replace h := (if_neg q).symm.trans h
    refine ww_aload_n 79 X dX0_letterFault_79 0 rfl rfl ?_
    refine ww_iload_n 80 X dX0_letterFault_80 1 rfl rfl ?_
    refine ww_iconst 81 X (v := (1 : Int32)) dX0_letterFault_81 (by decide) ?_
    refine ww_isub 82 X dX0_letterFault_82 ?_
    obtain ⟨_, f83, h⟩ := bO_some h
    obtain ⟨v83, M83, e83, h⟩ := bP_some h
    refine ww_callVI0 83 X dX0_letterFault_83 mY_X0_get mL_X0_63 (rcv_spec f83) ⟨_, _, rfl⟩ (by decide) (As := [.int (l2 - (1 : Int32))]) (rest := []) rfl rfl ⟨Nat.le_of_ble_eq_true rfl, Nat.le_of_ble_eq_true rfl⟩ (Nat.le_of_ble_eq_true rfl) (fun l D A => c_X0_get l D A e83) ?_
    obtain ⟨v86, M86, e86, h⟩ := bP_some h
    refine ww_callSI0 86 X dX0_letterFault_86 mY_X0_letterValue mL_X0_67 (As := [.int v83]) (rest := []) rfl rfl ⟨Nat.le_of_ble_eq_true rfl, Nat.le_of_ble_eq_true rfl⟩ (Nat.le_of_ble_eq_true rfl) (fun l D A => c_X0_letterValue l D A e86) ?_
    refine ww_iload 89 X dX0_letterFault_89 3 rfl ?_
    refine ww_iand 91 X dX0_letterFault_91 ?_
    refine ww_if_ne 92 99 X dX0_letterFault_92 (by decide) (fun q => ?_) (fun q => ?_)
    · replace h := (if_neg q).symm.trans h
      refine ww_iconst 99 X (v := (0 : Int32)) dX0_letterFault_99 (by decide) ?_
      refine ww_istore 100 X dX0_letterFault_100 (lv' := [(0, .ref l0), (2, .int l2), (3, .int l3), (5, .int sk0), (6, .int (0 : Int32))]) (by decide) [1, 2, 3, 4, 0] rfl ?_
      refine ww_iload 102 X dX0_letterFault_102 4 rfl ?_
      refine ww_if_eq 104 111 X dX0_letterFault_104 (by decide) (fun q => ?_) (fun q => ?_)
      · replace h := (if_pos q).symm.trans h
        refine ww_iload_n 111 X dX0_letterFault_111 2 rfl rfl ?_
        refine ww_iconst 112 X (v := (1 : Int32)) dX0_letterFault_112 (by decide) ?_
        refine ww_isub 113 X dX0_letterFault_113 ?_
        exact ww_iretE 114 X hQ dX0_letterFault_114 h
      · replace h := (if_neg q).symm.trans h
        refine ww_iconst 107 X (v := (-1 : Int32)) dX0_letterFault_107 (by decide) ?_
        refine ww_goto 108 114 X dX0_letterFault_108 (by decide) ?_
        exact ww_iretE 114 X hQ dX0_letterFault_114 h
    · replace h := (if_pos q).symm.trans h
      refine ww_iconst 95 X (v := (1 : Int32)) dX0_letterFault_95 (by decide) ?_
      refine ww_goto 96 100 X dX0_letterFault_96 (by decide) ?_
      refine ww_istore 100 X dX0_letterFault_100 (lv' := [(0, .ref l0), (2, .int l2), (3, .int l3), (5, .int sk0), (6, .int (1 : Int32))]) (by decide) [1, 2, 3, 4, 0] rfl ?_
      refine ww_iload 102 X dX0_letterFault_102 4 rfl ?_
      refine ww_if_eq 104 111 X dX0_letterFault_104 (by decide) (fun q => ?_) (fun q => ?_)
      · replace h := (if_pos q).symm.trans h
        refine ww_iload_n 111 X dX0_letterFault_111 2 rfl rfl ?_
        refine ww_iconst 112 X (v := (1 : Int32)) dX0_letterFault_112 (by decide) ?_
        refine ww_isub 113 X dX0_letterFault_113 ?_
        exact ww_iretE 114 X hQ dX0_letterFault_114 h
      · replace h := (if_neg q).symm.trans h
        refine ww_iconst 107 X (v := (-1 : Int32)) dX0_letterFault_107 (by decide) ?_
        refine ww_goto 108 114 X dX0_letterFault_108 (by decide) ?_
        exact ww_iretE 114 X hQ dX0_letterFault_114 h
set_option maxHeartbeats 4000000 in
set_option maxRecDepth 100000 in
theorem wB_X0_letterFault_2 {G : mG} {F : Nat} {x : mXT} {sz : Nat} {r0 : Int32} {M0 : mM} (X : mCX G RX0 cX0_letterFault 7 (some .int) "letterFault" rmX0_letterFault x) (hQ : mQI x r0 M0 (sz, 0, 0)) : ∀ (n : Nat) (l0 : Nat) (l1 : Int32) (l2 : Int32) (l3 : Int32) (M : mM), B_X0_letterFault_2 G F n l0 l1 l2 l3 M = some (r0, M0) → WW x (sz, 0, 0) M 2 [(0, .ref l0), (1, .int l1), (2, .int l2), (3, .int l3)] [] := by
  intro n
  induction n with
  | zero =>
    intro l0 l1 l2 l3 M h
    exact nomatch (show (none : Option (Int32 × mM)) = some (r0, M0) from h)
  | succ n ih =>
    intro l0 l1 l2 l3 M h
    rw [B_X0_letterFault_2] at h
    refine ww_iload_n 2 X dX0_letterFault_2 3 rfl rfl ?_
    refine ww_iload_n 3 X dX0_letterFault_3 2 rfl rfl ?_
    refine ww_icmp_ge 4 29 X dX0_letterFault_4 (by decide) (fun q => ?_) (fun q => ?_)
    · replace h := (if_pos q).symm.trans h
      refine ww_iload_n 29 X dX0_letterFault_29 2 rfl rfl ?_
      refine ww_iload_n 30 X dX0_letterFault_30 1 rfl rfl ?_
      refine ww_isub 31 X dX0_letterFault_31 ?_
      refine ww_iconst 32 X (v := (0 : Int32)) dX0_letterFault_32 (by decide) ?_
      refine ww_mmax 33 X (st := []) dX0_letterFault_33 mL_X0_9 (Nat.le_of_ble_eq_true rfl) (Nat.le_of_ble_eq_true rfl) (Nat.le_of_ble_eq_true rfl) ⟨Nat.zero_le _, Nat.zero_le _⟩ ?_
      refine ww_istore_n 36 X dX0_letterFault_36 (lv' := [(0, .ref l0), (1, .int l1), (2, .int l2), (3, .int (if (l2 - l1) < (0 : Int32) then (0 : Int32) else (l2 - l1)))]) rfl (by decide) [1, 2, 3, 0] rfl ?_
      refine ww_iload_n 37 X dX0_letterFault_37 3 rfl rfl ?_
      refine ww_iconst 38 X (v := (3 : Int32)) dX0_letterFault_38 (by decide) ?_
      refine ww_iand 39 X dX0_letterFault_39 ?_
      refine ww_istore 40 X dX0_letterFault_40 (lv' := [(0, .ref l0), (1, .int l1), (2, .int l2), (3, .int (if (l2 - l1) < (0 : Int32) then (0 : Int32) else (l2 - l1))), (4, .int ((if (l2 - l1) < (0 : Int32) then (0 : Int32) else (l2 - l1)) &&& (3 : Int32)))]) (by decide) [1, 2, 3, 4, 0] rfl ?_
      refine ww_iload 42 X dX0_letterFault_42 4 rfl ?_
      refine ww_iconst 44 X (v := (1 : Int32)) dX0_letterFault_44 (by decide) ?_
      refine ww_icmp_ne 45 50 X dX0_letterFault_45 (by decide) (fun q => ?_) (fun q => ?_)
      · replace h := (if_neg q).symm.trans h
        refine ww_iload 50 X dX0_letterFault_50 4 rfl ?_
        refine ww_iconst 52 X (v := (2 : Int32)) dX0_letterFault_52 (by decide) ?_
        refine ww_icmp_ne 53 61 X dX0_letterFault_53 (by decide) (fun q => ?_) (fun q => ?_)
        · replace h := (if_neg q).symm.trans h
          refine ww_iload 61 X dX0_letterFault_61 4 rfl ?_
          refine ww_iconst 63 X (v := (3 : Int32)) dX0_letterFault_63 (by decide) ?_
          refine ww_icmp_ne 64 71 X dX0_letterFault_64 (by decide) (fun q => ?_) (fun q => ?_)
          · replace h := (if_neg q).symm.trans h
            refine ww_iconst 71 X (v := (0 : Int32)) dX0_letterFault_71 (by decide) ?_
            exact ww_sub [0, 2, 3] rfl (wB_X0_letterFault_72 X hQ h)
          · replace h := (if_pos q).symm.trans h
            refine ww_iconst 67 X (v := (3 : Int32)) dX0_letterFault_67 (by decide) ?_
            refine ww_goto 68 72 X dX0_letterFault_68 (by decide) ?_
            exact ww_sub [0, 2, 3] rfl (wB_X0_letterFault_72 X hQ h)
        · replace h := (if_pos q).symm.trans h
          refine ww_bipush 56 X (v := (15 : Int32)) dX0_letterFault_56 (by decide) ?_
          refine ww_goto 58 72 X dX0_letterFault_58 (by decide) ?_
          exact ww_sub [0, 2, 3] rfl (wB_X0_letterFault_72 X hQ h)
      · replace h := (if_pos q).symm.trans h
        refine ww_iload_n 48 X dX0_letterFault_48 3 rfl rfl ?_
        exact ww_iretE 49 X hQ dX0_letterFault_49 h
    · replace h := (if_neg q).symm.trans h
      refine ww_aload_n 7 X dX0_letterFault_7 0 rfl rfl ?_
      refine ww_iload_n 8 X dX0_letterFault_8 3 rfl rfl ?_
      obtain ⟨_, f9, h⟩ := bO_some h
      obtain ⟨v9, M9, e9, h⟩ := bP_some h
      refine ww_callVI0 9 X dX0_letterFault_9 mY_X0_get mL_X0_63 (rcv_spec f9) ⟨_, _, rfl⟩ (by decide) (As := [.int l3]) (rest := []) rfl rfl ⟨Nat.le_of_ble_eq_true rfl, Nat.le_of_ble_eq_true rfl⟩ (Nat.le_of_ble_eq_true rfl) (fun l D A => c_X0_get l D A e9) ?_
      obtain ⟨v12, M12, e12, h⟩ := bP_some h
      refine ww_callSI0 12 X dX0_letterFault_12 mY_X0_letterValue mL_X0_67 (As := [.int v9]) (rest := []) rfl rfl ⟨Nat.le_of_ble_eq_true rfl, Nat.le_of_ble_eq_true rfl⟩ (Nat.le_of_ble_eq_true rfl) (fun l D A => c_X0_letterValue l D A e12) ?_
      refine ww_iconst 15 X (v := (-1 : Int32)) dX0_letterFault_15 (by decide) ?_
      refine ww_icmp_ne 16 23 X dX0_letterFault_16 (by decide) (fun q => ?_) (fun q => ?_)
      · replace h := (if_neg q).symm.trans h
        refine ww_iinc 23 X dX0_letterFault_23 (lv' := [(0, .ref l0), (1, .int l1), (2, .int l2), (3, .int (l3 + 1))]) 3 rfl rfl (by decide) [1, 2, 3, 0] rfl ?_
        refine ww_goto 26 2 X dX0_letterFault_26 (by decide) ?_
        exact (ih _ _ _ _ _ h)
      · replace h := (if_pos q).symm.trans h
        refine ww_iload_n 19 X dX0_letterFault_19 3 rfl rfl ?_
        refine ww_iload_n 20 X dX0_letterFault_20 1 rfl rfl ?_
        refine ww_isub 21 X dX0_letterFault_21 ?_
        exact ww_iretE 22 X hQ dX0_letterFault_22 h
set_option maxHeartbeats 4000000 in
set_option maxRecDepth 100000 in
theorem wP_X0_letterFault {G : mG} {F : Nat} {x : mXT} {sz : Nat} {r0 : Int32} {M0 : mM} (X : mCX G RX0 cX0_letterFault 7 (some .int) "letterFault" rmX0_letterFault x) (hQ : mQI x r0 M0 (sz, 0, 0)) {l0 : Nat} {l1 : Int32} {l2 : Int32} {M : mM} (h : P_X0_letterFault G F l0 l1 l2 M = some (r0, M0)) : WW x (sz, 0, 0) M 0 [(0, .ref l0), (1, .int l1), (2, .int l2)] [] := by
  unfold P_X0_letterFault at h
  refine ww_iload_n 0 X dX0_letterFault_0 1 rfl rfl ?_
  refine ww_istore_n 1 X dX0_letterFault_1 (lv' := [(0, .ref l0), (1, .int l1), (2, .int l2), (3, .int l1)]) rfl (by decide) [1, 2, 3, 0] rfl ?_
  exact (wB_X0_letterFault_2 X hQ F _ _ _ _ _ h)
theorem c_X0_letterFault {G : mG} {F sz : Nat} {r0 : Int32} {M0 : mM} (l : Launch) (D : mD) (A : Nat → Prop) {l0 : Nat} {l1 : Int32} {l2 : Int32} {M : mM} (h : P_X0_letterFault G F l0 l1 l2 M = some (r0, M0)) : mMetI l D G A yX0_letterFault cX0_letterFault 7 (some .int) 1 21 0 0 [.ref l0, .int l1, .int l2] M sz r0 M0 sz := mMetI_of l D G A (by decide) (Nat.le_of_ble_eq_true rfl) (fun x X hQ => wP_X0_letterFault X hQ h)
/-! SealedTokens$Bytes.putLetters(LSealedTokens$Bytes;II)V -/
theorem dX0_putLetters_0 : decode cX0_putLetters 0 = .ok (.iconst 0, 1) := by decide +kernel
theorem dX0_putLetters_1 : decode cX0_putLetters 1 = .ok (.istore 4, 2) := by decide +kernel
theorem dX0_putLetters_3 : decode cX0_putLetters 3 = .ok (.iconst 0, 1) := by decide +kernel
theorem dX0_putLetters_4 : decode cX0_putLetters 4 = .ok (.istore 5, 2) := by decide +kernel
theorem dX0_putLetters_6 : decode cX0_putLetters 6 = .ok (.iload_n 2, 1) := by decide +kernel
theorem dX0_putLetters_7 : decode cX0_putLetters 7 = .ok (.istore 6, 2) := by decide +kernel
theorem dX0_putLetters_9 : decode cX0_putLetters 9 = .ok (.iload 6, 2) := by decide +kernel
theorem dX0_putLetters_11 : decode cX0_putLetters 11 = .ok (.iload_n 3, 1) := by decide +kernel
theorem dX0_putLetters_12 : decode cX0_putLetters 12 = .ok (.if_icmp .ge 62, 3) := by decide +kernel
theorem dX0_putLetters_15 : decode cX0_putLetters 15 = .ok (.iload 4, 2) := by decide +kernel
theorem dX0_putLetters_17 : decode cX0_putLetters 17 = .ok (.bipush 8, 2) := by decide +kernel
theorem dX0_putLetters_19 : decode cX0_putLetters 19 = .ok (.ishl, 1) := by decide +kernel
theorem dX0_putLetters_20 : decode cX0_putLetters 20 = .ok (.aload_n 1, 1) := by decide +kernel
theorem dX0_putLetters_21 : decode cX0_putLetters 21 = .ok (.iload 6, 2) := by decide +kernel
theorem dX0_putLetters_23 : decode cX0_putLetters 23 = .ok (.invokevirtual 63, 3) := by decide +kernel
theorem dX0_putLetters_26 : decode cX0_putLetters 26 = .ok (.ior, 1) := by decide +kernel
theorem dX0_putLetters_27 : decode cX0_putLetters 27 = .ok (.ldc 70, 2) := by decide +kernel
theorem dX0_putLetters_29 : decode cX0_putLetters 29 = .ok (.iand, 1) := by decide +kernel
theorem dX0_putLetters_30 : decode cX0_putLetters 30 = .ok (.istore 4, 2) := by decide +kernel
theorem dX0_putLetters_32 : decode cX0_putLetters 32 = .ok (.iinc 5 8, 3) := by decide +kernel
theorem dX0_putLetters_35 : decode cX0_putLetters 35 = .ok (.iload 5, 2) := by decide +kernel
theorem dX0_putLetters_37 : decode cX0_putLetters 37 = .ok (.bipush 6, 2) := by decide +kernel
theorem dX0_putLetters_39 : decode cX0_putLetters 39 = .ok (.if_icmp .lt 29, 3) := by decide +kernel
theorem dX0_putLetters_42 : decode cX0_putLetters 42 = .ok (.aload_n 0, 1) := by decide +kernel
theorem dX0_putLetters_43 : decode cX0_putLetters 43 = .ok (.ldc 71, 2) := by decide +kernel
theorem dX0_putLetters_45 : decode cX0_putLetters 45 = .ok (.iload 4, 2) := by decide +kernel
theorem dX0_putLetters_47 : decode cX0_putLetters 47 = .ok (.iload 5, 2) := by decide +kernel
theorem dX0_putLetters_49 : decode cX0_putLetters 49 = .ok (.bipush 6, 2) := by decide +kernel
theorem dX0_putLetters_51 : decode cX0_putLetters 51 = .ok (.isub, 1) := by decide +kernel
theorem dX0_putLetters_52 : decode cX0_putLetters 52 = .ok (.ishr, 1) := by decide +kernel
theorem dX0_putLetters_53 : decode cX0_putLetters 53 = .ok (.bipush 63, 2) := by decide +kernel
theorem dX0_putLetters_55 : decode cX0_putLetters 55 = .ok (.iand, 1) := by decide +kernel
theorem dX0_putLetters_56 : decode cX0_putLetters 56 = .ok (.invokevirtual 42, 3) := by decide +kernel
theorem dX0_putLetters_59 : decode cX0_putLetters 59 = .ok (.invokevirtual 32, 3) := by decide +kernel
theorem dX0_putLetters_62 : decode cX0_putLetters 62 = .ok (.iinc 5 (-6), 3) := by decide +kernel
theorem dX0_putLetters_65 : decode cX0_putLetters 65 = .ok (.goto (-30), 3) := by decide +kernel
theorem dX0_putLetters_68 : decode cX0_putLetters 68 = .ok (.iinc 6 1, 3) := by decide +kernel
theorem dX0_putLetters_71 : decode cX0_putLetters 71 = .ok (.goto (-62), 3) := by decide +kernel
theorem dX0_putLetters_74 : decode cX0_putLetters 74 = .ok (.iload 5, 2) := by decide +kernel
theorem dX0_putLetters_76 : decode cX0_putLetters 76 = .ok (.ifCond .le 23, 3) := by decide +kernel
theorem dX0_putLetters_79 : decode cX0_putLetters 79 = .ok (.aload_n 0, 1) := by decide +kernel
theorem dX0_putLetters_80 : decode cX0_putLetters 80 = .ok (.ldc 71, 2) := by decide +kernel
theorem dX0_putLetters_82 : decode cX0_putLetters 82 = .ok (.iload 4, 2) := by decide +kernel
theorem dX0_putLetters_84 : decode cX0_putLetters 84 = .ok (.bipush 6, 2) := by decide +kernel
theorem dX0_putLetters_86 : decode cX0_putLetters 86 = .ok (.iload 5, 2) := by decide +kernel
theorem dX0_putLetters_88 : decode cX0_putLetters 88 = .ok (.isub, 1) := by decide +kernel
theorem dX0_putLetters_89 : decode cX0_putLetters 89 = .ok (.ishl, 1) := by decide +kernel
theorem dX0_putLetters_90 : decode cX0_putLetters 90 = .ok (.bipush 63, 2) := by decide +kernel
theorem dX0_putLetters_92 : decode cX0_putLetters 92 = .ok (.iand, 1) := by decide +kernel
theorem dX0_putLetters_93 : decode cX0_putLetters 93 = .ok (.invokevirtual 42, 3) := by decide +kernel
theorem dX0_putLetters_96 : decode cX0_putLetters 96 = .ok (.invokevirtual 32, 3) := by decide +kernel
theorem dX0_putLetters_99 : decode cX0_putLetters 99 = .ok (.return_, 1) := by decide +kernel
abbrev rmX0_putLetters : Room := { frames := 4, cells := 0, slots := 0, locals := 85 }
set_option maxHeartbeats 4000000 in
set_option maxRecDepth 100000 in
theorem wB_X0_putLetters_35 {G : mG} {F : Nat} {x : mXT} {sz : Nat} {M0 : mM} (X : mCX G RX0 cX0_putLetters 7 none "putLetters" rmX0_putLetters x) (hQ : mQV x M0 (sz, 0, 0)) (r9 : Nat → Nat → Int32 → Int32 → Int32 → Int32 → mM → Option mM) (hr9 : ∀ (l0 : Nat) (l1 : Nat) (l3 : Int32) (l4 : Int32) (l5 : Int32) (l6 : Int32) (M : mM), r9 l0 l1 l3 l4 l5 l6 M = some M0 → WW x (sz, 0, 0) M 9 [(0, .ref l0), (1, .ref l1), (3, .int l3), (4, .int l4), (5, .int l5), (6, .int l6)] []) : ∀ (n : Nat) (l0 : Nat) (l1 : Nat) (l3 : Int32) (l4 : Int32) (l5 : Int32) (l6 : Int32) (M : mM), B_X0_putLetters_35 G F r9 n l0 l1 l3 l4 l5 l6 M = some M0 → WW x (sz, 0, 0) M 35 [(0, .ref l0), (1, .ref l1), (3, .int l3), (4, .int l4), (5, .int l5), (6, .int l6)] [] := by
  intro n
  induction n with
  | zero =>
    intro l0 l1 l3 l4 l5 l6 M h
    exact nomatch (show (none : Option mM) = some M0 from h)
  | succ n ih =>
    intro l0 l1 l3 l4 l5 l6 M h
    rw [B_X0_putLetters_35] at h
    refine ww_iload 35 X dX0_putLetters_35 4 rfl ?_
    refine ww_bipush 37 X (v := (6 : Int32)) dX0_putLetters_37 (by decide) ?_
    refine ww_icmp_lt 39 68 X dX0_putLetters_39 (by decide) (fun q => ?_) (fun q => ?_)
    · replace h := (if_pos q).symm.trans h
      refine ww_iinc 68 X dX0_putLetters_68 (lv' := [(0, .ref l0), (1, .ref l1), (3, .int l3), (4, .int l4), (5, .int l5), (6, .int (l6 + 1))]) 5 rfl rfl (by decide) [1, 2, 3, 4, 5, 0] rfl ?_
      refine ww_goto 71 9 X dX0_putLetters_71 (by decide) ?_
      exact (hr9 _ _ _ _ _ _ _ h)
    · replace h := (if_neg q).symm.trans h
      refine ww_aload_n 42 X dX0_putLetters_42 0 rfl rfl ?_
      refine ww_lds 43 X (j := 15) dX0_putLetters_43 rfl ?_
      refine ww_iload 45 X dX0_putLetters_45 3 rfl ?_
      refine ww_iload 47 X dX0_putLetters_47 4 rfl ?_
      refine ww_bipush 49 X (v := (6 : Int32)) dX0_putLetters_49 (by decide) ?_
      refine ww_isub 51 X dX0_putLetters_51 ?_
      refine ww_ishr 52 X dX0_putLetters_52 ?_
      refine ww_bipush 53 X (v := (63 : Int32)) dX0_putLetters_53 (by decide) ?_
      refine ww_iand 55 X dX0_putLetters_55 ?_
      obtain ⟨_, f56, h⟩ := bO_some h
      obtain ⟨v56, M56, e56, h⟩ := bP_some h
      refine ww_callVIs 56 X dX0_putLetters_56 mY_J0_charAt_5068e mL_X0_42 (rcs_spec f56) rfl (As := [.int ((l4 >>> ((l5 - (6 : Int32)) &&& 31)) &&& (63 : Int32))]) (rest := [.ref l0]) rfl rfl ⟨Nat.le_of_ble_eq_true rfl, Nat.le_of_ble_eq_true rfl⟩ (Nat.le_of_ble_eq_true rfl) (fun l D A => c_J0_charAt_5068e l D A e56) ?_
      obtain ⟨_, f59, h⟩ := bO_some h
      obtain ⟨M59, e59, h⟩ := bO_some h
      refine ww_callVV0 59 X dX0_putLetters_59 mY_X0_put mL_X0_32 (rcv_spec f59) ⟨_, _, rfl⟩ (by decide) (As := [.int v56]) (rest := []) rfl rfl ⟨Nat.le_of_ble_eq_true rfl, Nat.le_of_ble_eq_true rfl⟩ (Nat.le_of_ble_eq_true rfl) (fun l D A => c_X0_put l D A e59) ?_
      refine ww_iinc 62 X dX0_putLetters_62 (lv' := [(0, .ref l0), (1, .ref l1), (3, .int l3), (4, .int l4), (5, .int (l5 + (-6))), (6, .int l6)]) 4 rfl rfl (by decide) [1, 2, 3, 4, 0, 5] rfl ?_
      refine ww_goto 65 35 X dX0_putLetters_65 (by decide) ?_
      exact (ih _ _ _ _ _ _ _ h)
set_option maxHeartbeats 4000000 in
set_option maxRecDepth 100000 in
theorem wB_X0_putLetters_9 {G : mG} {F : Nat} {x : mXT} {sz : Nat} {M0 : mM} (X : mCX G RX0 cX0_putLetters 7 none "putLetters" rmX0_putLetters x) (hQ : mQV x M0 (sz, 0, 0)) : ∀ (n : Nat) (l0 : Nat) (l1 : Nat) (l3 : Int32) (l4 : Int32) (l5 : Int32) (l6 : Int32) (M : mM), B_X0_putLetters_9 G F n l0 l1 l3 l4 l5 l6 M = some M0 → WW x (sz, 0, 0) M 9 [(0, .ref l0), (1, .ref l1), (3, .int l3), (4, .int l4), (5, .int l5), (6, .int l6)] [] := by
  intro n
  induction n with
  | zero =>
    intro l0 l1 l3 l4 l5 l6 M h
    exact nomatch (show (none : Option mM) = some M0 from h)
  | succ n ih =>
    intro l0 l1 l3 l4 l5 l6 M h
    rw [B_X0_putLetters_9] at h
    refine ww_iload 9 X dX0_putLetters_9 5 rfl ?_
    refine ww_iload_n 11 X dX0_putLetters_11 2 rfl rfl ?_
    refine ww_icmp_ge 12 74 X dX0_putLetters_12 (by decide) (fun q => ?_) (fun q => ?_)
    · replace h := (if_pos q).symm.trans h
      refine ww_iload 74 X dX0_putLetters_74 4 rfl ?_
      refine ww_if_le 76 99 X dX0_putLetters_76 (by decide) (fun q => ?_) (fun q => ?_)
      · replace h := (if_pos q).symm.trans h
        exact ww_vretE 99 X hQ dX0_putLetters_99 h
      · replace h := (if_neg q).symm.trans h
        refine ww_aload_n 79 X dX0_putLetters_79 0 rfl rfl ?_
        refine ww_lds 80 X (j := 15) dX0_putLetters_80 rfl ?_
        refine ww_iload 82 X dX0_putLetters_82 3 rfl ?_
        refine ww_bipush 84 X (v := (6 : Int32)) dX0_putLetters_84 (by decide) ?_
        refine ww_iload 86 X dX0_putLetters_86 4 rfl ?_
        refine ww_isub 88 X dX0_putLetters_88 ?_
        refine ww_ishl 89 X dX0_putLetters_89 ?_
        refine ww_bipush 90 X (v := (63 : Int32)) dX0_putLetters_90 (by decide) ?_
        refine ww_iand 92 X dX0_putLetters_92 ?_
        obtain ⟨_, f93, h⟩ := bO_some h
        obtain ⟨v93, M93, e93, h⟩ := bP_some h
        refine ww_callVIs 93 X dX0_putLetters_93 mY_J0_charAt_5068e mL_X0_42 (rcs_spec f93) rfl (As := [.int ((l4 <<< (((6 : Int32) - l5) &&& 31)) &&& (63 : Int32))]) (rest := [.ref l0]) rfl rfl ⟨Nat.le_of_ble_eq_true rfl, Nat.le_of_ble_eq_true rfl⟩ (Nat.le_of_ble_eq_true rfl) (fun l D A => c_J0_charAt_5068e l D A e93) ?_
        obtain ⟨_, f96, h⟩ := bO_some h
        obtain ⟨M96, e96, h⟩ := bO_some h
        refine ww_callVV0 96 X dX0_putLetters_96 mY_X0_put mL_X0_32 (rcv_spec f96) ⟨_, _, rfl⟩ (by decide) (As := [.int v93]) (rest := []) rfl rfl ⟨Nat.le_of_ble_eq_true rfl, Nat.le_of_ble_eq_true rfl⟩ (Nat.le_of_ble_eq_true rfl) (fun l D A => c_X0_put l D A e96) ?_
        exact ww_vretE 99 X hQ dX0_putLetters_99 h
    · replace h := (if_neg q).symm.trans h
      refine ww_iload 15 X dX0_putLetters_15 3 rfl ?_
      refine ww_bipush 17 X (v := (8 : Int32)) dX0_putLetters_17 (by decide) ?_
      refine ww_ishl 19 X dX0_putLetters_19 ?_
      refine ww_aload_n 20 X dX0_putLetters_20 1 rfl rfl ?_
      refine ww_iload 21 X dX0_putLetters_21 5 rfl ?_
      obtain ⟨_, f23, h⟩ := bO_some h
      obtain ⟨v23, M23, e23, h⟩ := bP_some h
      refine ww_callVI0 23 X dX0_putLetters_23 mY_X0_get mL_X0_63 (rcv_spec f23) ⟨_, _, rfl⟩ (by decide) (As := [.int l6]) (rest := [.int (l4 <<< ((8 : Int32) &&& 31))]) rfl rfl ⟨Nat.le_of_ble_eq_true rfl, Nat.le_of_ble_eq_true rfl⟩ (Nat.le_of_ble_eq_true rfl) (fun l D A => c_X0_get l D A e23) ?_
      refine ww_ior 26 X dX0_putLetters_26 ?_
      refine ww_ldc 27 X (v := (65535 : Int32)) dX0_putLetters_27 kI_X0_70 ?_
      refine ww_iand 29 X dX0_putLetters_29 ?_
      refine ww_istore 30 X dX0_putLetters_30 (lv' := [(0, .ref l0), (1, .ref l1), (3, .int l3), (4, .int (((l4 <<< ((8 : Int32) &&& 31)) ||| v23) &&& (65535 : Int32))), (5, .int l5), (6, .int l6)]) (by decide) [1, 2, 3, 0, 4, 5] rfl ?_
      refine ww_iinc 32 X dX0_putLetters_32 (lv' := [(0, .ref l0), (1, .ref l1), (3, .int l3), (4, .int (((l4 <<< ((8 : Int32) &&& 31)) ||| v23) &&& (65535 : Int32))), (5, .int (l5 + 8)), (6, .int l6)]) 4 rfl rfl (by decide) [1, 2, 3, 4, 0, 5] rfl ?_
      exact (wB_X0_putLetters_35 X hQ _ ih F _ _ _ _ _ _ _ h)
set_option maxHeartbeats 4000000 in
set_option maxRecDepth 100000 in
theorem wP_X0_putLetters {G : mG} {F : Nat} {x : mXT} {sz : Nat} {M0 : mM} (X : mCX G RX0 cX0_putLetters 7 none "putLetters" rmX0_putLetters x) (hQ : mQV x M0 (sz, 0, 0)) {l0 : Nat} {l1 : Nat} {l2 : Int32} {l3 : Int32} {M : mM} (h : P_X0_putLetters G F l0 l1 l2 l3 M = some M0) : WW x (sz, 0, 0) M 0 [(0, .ref l0), (1, .ref l1), (2, .int l2), (3, .int l3)] [] := by
  unfold P_X0_putLetters at h
  refine ww_iconst 0 X (v := (0 : Int32)) dX0_putLetters_0 (by decide) ?_
  refine ww_istore 1 X dX0_putLetters_1 (lv' := [(0, .ref l0), (1, .ref l1), (2, .int l2), (3, .int l3), (4, .int (0 : Int32))]) (by decide) [1, 2, 3, 4, 0] rfl ?_
  refine ww_iconst 3 X (v := (0 : Int32)) dX0_putLetters_3 (by decide) ?_
  refine ww_istore 4 X dX0_putLetters_4 (lv' := [(0, .ref l0), (1, .ref l1), (2, .int l2), (3, .int l3), (4, .int (0 : Int32)), (5, .int (0 : Int32))]) (by decide) [1, 2, 3, 4, 5, 0] rfl ?_
  refine ww_iload_n 6 X dX0_putLetters_6 2 rfl rfl ?_
  refine ww_istore 7 X dX0_putLetters_7 (lv' := [(0, .ref l0), (1, .ref l1), (2, .int l2), (3, .int l3), (4, .int (0 : Int32)), (5, .int (0 : Int32)), (6, .int l2)]) (by decide) [1, 2, 3, 4, 5, 6, 0] rfl ?_
  exact ww_sub [0, 1, 3, 4, 5, 6] rfl (wB_X0_putLetters_9 X hQ F _ _ _ _ _ _ _ h)
theorem c_X0_putLetters {G : mG} {F sz : Nat} {M0 : mM} (l : Launch) (D : mD) (A : Nat → Prop) {l0 : Nat} {l1 : Nat} {l2 : Int32} {l3 : Int32} {M : mM} (h : P_X0_putLetters G F l0 l1 l2 l3 M = some M0) : mMetV l D G A yX0_putLetters cX0_putLetters 7 none 4 85 0 0 [.ref l0, .ref l1, .int l2, .int l3] M sz M0 sz := mMetV_of l D G A (by decide) (Nat.le_of_ble_eq_true rfl) (fun x X hQ => wP_X0_putLetters X hQ h)
/-! SealedTokens$Bytes.putLetterPart(LSealedTokens$Bytes;II)V -/
theorem dX0_putLetterPart_0 : decode cX0_putLetterPart 0 = .ok (.aload_n 0, 1) := by decide +kernel
theorem dX0_putLetterPart_1 : decode cX0_putLetterPart 1 = .ok (.bipush 46, 2) := by decide +kernel
theorem dX0_putLetterPart_3 : decode cX0_putLetterPart 3 = .ok (.invokevirtual 32, 3) := by decide +kernel
theorem dX0_putLetterPart_6 : decode cX0_putLetterPart 6 = .ok (.aload_n 0, 1) := by decide +kernel
theorem dX0_putLetterPart_7 : decode cX0_putLetterPart 7 = .ok (.aload_n 1, 1) := by decide +kernel
theorem dX0_putLetterPart_8 : decode cX0_putLetterPart 8 = .ok (.iload_n 2, 1) := by decide +kernel
theorem dX0_putLetterPart_9 : decode cX0_putLetterPart 9 = .ok (.iload_n 3, 1) := by decide +kernel
theorem dX0_putLetterPart_10 : decode cX0_putLetterPart 10 = .ok (.invokevirtual 73, 3) := by decide +kernel
theorem dX0_putLetterPart_13 : decode cX0_putLetterPart 13 = .ok (.return_, 1) := by decide +kernel
abbrev rmX0_putLetterPart : Room := { frames := 5, cells := 0, slots := 0, locals := 111 }
set_option maxHeartbeats 4000000 in
set_option maxRecDepth 100000 in
theorem wP_X0_putLetterPart {G : mG} {F : Nat} {x : mXT} {sz : Nat} {M0 : mM} (X : mCX G RX0 cX0_putLetterPart 4 none "putLetterPart" rmX0_putLetterPart x) (hQ : mQV x M0 (sz, 0, 0)) {l0 : Nat} {l1 : Nat} {l2 : Int32} {l3 : Int32} {M : mM} (h : P_X0_putLetterPart G F l0 l1 l2 l3 M = some M0) : WW x (sz, 0, 0) M 0 [(0, .ref l0), (1, .ref l1), (2, .int l2), (3, .int l3)] [] := by
  unfold P_X0_putLetterPart at h
  refine ww_aload_n 0 X dX0_putLetterPart_0 0 rfl rfl ?_
  refine ww_bipush 1 X (v := (46 : Int32)) dX0_putLetterPart_1 (by decide) ?_
  obtain ⟨_, f3, h⟩ := bO_some h
  obtain ⟨M3, e3, h⟩ := bO_some h
  refine ww_callVV0 3 X dX0_putLetterPart_3 mY_X0_put mL_X0_32 (rcv_spec f3) ⟨_, _, rfl⟩ (by decide) (As := [.int (46 : Int32)]) (rest := []) rfl rfl ⟨Nat.le_of_ble_eq_true rfl, Nat.le_of_ble_eq_true rfl⟩ (Nat.le_of_ble_eq_true rfl) (fun l D A => c_X0_put l D A e3) ?_
  refine ww_aload_n 6 X dX0_putLetterPart_6 0 rfl rfl ?_
  refine ww_aload_n 7 X dX0_putLetterPart_7 1 rfl rfl ?_
  refine ww_iload_n 8 X dX0_putLetterPart_8 2 rfl rfl ?_
  refine ww_iload_n 9 X dX0_putLetterPart_9 3 rfl rfl ?_
  obtain ⟨_, f10, h⟩ := bO_some h
  obtain ⟨M10, e10, h⟩ := bO_some h
  refine ww_callVV0 10 X dX0_putLetterPart_10 mY_X0_putLetters mL_X0_73 (rcv_spec f10) ⟨_, _, rfl⟩ (by decide) (As := [.ref l1, .int l2, .int l3]) (rest := []) rfl rfl ⟨Nat.le_of_ble_eq_true rfl, Nat.le_of_ble_eq_true rfl⟩ (Nat.le_of_ble_eq_true rfl) (fun l D A => c_X0_putLetters l D A e10) ?_
  exact ww_vretE 13 X hQ dX0_putLetterPart_13 h
theorem c_X0_putLetterPart {G : mG} {F sz : Nat} {M0 : mM} (l : Launch) (D : mD) (A : Nat → Prop) {l0 : Nat} {l1 : Nat} {l2 : Int32} {l3 : Int32} {M : mM} (h : P_X0_putLetterPart G F l0 l1 l2 l3 M = some M0) : mMetV l D G A yX0_putLetterPart cX0_putLetterPart 4 none 5 111 0 0 [.ref l0, .ref l1, .int l2, .int l3] M sz M0 sz := mMetV_of l D G A (by decide) (Nat.le_of_ble_eq_true rfl) (fun x X hQ => wP_X0_putLetterPart X hQ h)
/-! SealedTokens$Bytes.putUnlettered(LSealedTokens$Bytes;II)V -/
theorem dX0_putUnlettered_0 : decode cX0_putUnlettered 0 = .ok (.iconst 0, 1) := by decide +kernel
theorem dX0_putUnlettered_1 : decode cX0_putUnlettered 1 = .ok (.istore 4, 2) := by decide +kernel
theorem dX0_putUnlettered_3 : decode cX0_putUnlettered 3 = .ok (.iconst 0, 1) := by decide +kernel
theorem dX0_putUnlettered_4 : decode cX0_putUnlettered 4 = .ok (.istore 5, 2) := by decide +kernel
theorem dX0_putUnlettered_6 : decode cX0_putUnlettered 6 = .ok (.iload_n 2, 1) := by decide +kernel
theorem dX0_putUnlettered_7 : decode cX0_putUnlettered 7 = .ok (.istore 6, 2) := by decide +kernel
theorem dX0_putUnlettered_9 : decode cX0_putUnlettered 9 = .ok (.iload 6, 2) := by decide +kernel
theorem dX0_putUnlettered_11 : decode cX0_putUnlettered 11 = .ok (.iload_n 3, 1) := by decide +kernel
theorem dX0_putUnlettered_12 : decode cX0_putUnlettered 12 = .ok (.if_icmp .ge 51, 3) := by decide +kernel
theorem dX0_putUnlettered_15 : decode cX0_putUnlettered 15 = .ok (.iload 4, 2) := by decide +kernel
theorem dX0_putUnlettered_17 : decode cX0_putUnlettered 17 = .ok (.bipush 6, 2) := by decide +kernel
theorem dX0_putUnlettered_19 : decode cX0_putUnlettered 19 = .ok (.ishl, 1) := by decide +kernel
theorem dX0_putUnlettered_20 : decode cX0_putUnlettered 20 = .ok (.aload_n 1, 1) := by decide +kernel
theorem dX0_putUnlettered_21 : decode cX0_putUnlettered 21 = .ok (.iload 6, 2) := by decide +kernel
theorem dX0_putUnlettered_23 : decode cX0_putUnlettered 23 = .ok (.invokevirtual 63, 3) := by decide +kernel
theorem dX0_putUnlettered_26 : decode cX0_putUnlettered 26 = .ok (.invokestatic 67, 3) := by decide +kernel
theorem dX0_putUnlettered_29 : decode cX0_putUnlettered 29 = .ok (.ior, 1) := by decide +kernel
theorem dX0_putUnlettered_30 : decode cX0_putUnlettered 30 = .ok (.ldc 70, 2) := by decide +kernel
theorem dX0_putUnlettered_32 : decode cX0_putUnlettered 32 = .ok (.iand, 1) := by decide +kernel
theorem dX0_putUnlettered_33 : decode cX0_putUnlettered 33 = .ok (.istore 4, 2) := by decide +kernel
theorem dX0_putUnlettered_35 : decode cX0_putUnlettered 35 = .ok (.iinc 5 6, 3) := by decide +kernel
theorem dX0_putUnlettered_38 : decode cX0_putUnlettered 38 = .ok (.iload 5, 2) := by decide +kernel
theorem dX0_putUnlettered_40 : decode cX0_putUnlettered 40 = .ok (.bipush 8, 2) := by decide +kernel
theorem dX0_putUnlettered_42 : decode cX0_putUnlettered 42 = .ok (.if_icmp .lt 15, 3) := by decide +kernel
theorem dX0_putUnlettered_45 : decode cX0_putUnlettered 45 = .ok (.iinc 5 (-8), 3) := by decide +kernel
theorem dX0_putUnlettered_48 : decode cX0_putUnlettered 48 = .ok (.aload_n 0, 1) := by decide +kernel
theorem dX0_putUnlettered_49 : decode cX0_putUnlettered 49 = .ok (.iload 4, 2) := by decide +kernel
theorem dX0_putUnlettered_51 : decode cX0_putUnlettered 51 = .ok (.iload 5, 2) := by decide +kernel
theorem dX0_putUnlettered_53 : decode cX0_putUnlettered 53 = .ok (.ishr, 1) := by decide +kernel
theorem dX0_putUnlettered_54 : decode cX0_putUnlettered 54 = .ok (.invokevirtual 32, 3) := by decide +kernel
theorem dX0_putUnlettered_57 : decode cX0_putUnlettered 57 = .ok (.iinc 6 1, 3) := by decide +kernel
theorem dX0_putUnlettered_60 : decode cX0_putUnlettered 60 = .ok (.goto (-51), 3) := by decide +kernel
theorem dX0_putUnlettered_63 : decode cX0_putUnlettered 63 = .ok (.return_, 1) := by decide +kernel
abbrev rmX0_putUnlettered : Room := { frames := 1, cells := 0, slots := 0, locals := 21 }
set_option maxHeartbeats 4000000 in
set_option maxRecDepth 100000 in
theorem wB_X0_putUnlettered_9 {G : mG} {F : Nat} {x : mXT} {sz : Nat} {M0 : mM} (X : mCX G RX0 cX0_putUnlettered 7 none "putUnlettered" rmX0_putUnlettered x) (hQ : mQV x M0 (sz, 0, 0)) : ∀ (n : Nat) (l0 : Nat) (l1 : Nat) (l3 : Int32) (l4 : Int32) (l5 : Int32) (l6 : Int32) (M : mM), B_X0_putUnlettered_9 G F n l0 l1 l3 l4 l5 l6 M = some M0 → WW x (sz, 0, 0) M 9 [(0, .ref l0), (1, .ref l1), (3, .int l3), (4, .int l4), (5, .int l5), (6, .int l6)] [] := by
  intro n
  induction n with
  | zero =>
    intro l0 l1 l3 l4 l5 l6 M h
    exact nomatch (show (none : Option mM) = some M0 from h)
  | succ n ih =>
    intro l0 l1 l3 l4 l5 l6 M h
    rw [B_X0_putUnlettered_9] at h
    refine ww_iload 9 X dX0_putUnlettered_9 5 rfl ?_
    refine ww_iload_n 11 X dX0_putUnlettered_11 2 rfl rfl ?_
    refine ww_icmp_ge 12 63 X dX0_putUnlettered_12 (by decide) (fun q => ?_) (fun q => ?_)
    · replace h := (if_pos q).symm.trans h
      exact ww_vretE 63 X hQ dX0_putUnlettered_63 h
    · replace h := (if_neg q).symm.trans h
      refine ww_iload 15 X dX0_putUnlettered_15 3 rfl ?_
      refine ww_bipush 17 X (v := (6 : Int32)) dX0_putUnlettered_17 (by decide) ?_
      refine ww_ishl 19 X dX0_putUnlettered_19 ?_
      refine ww_aload_n 20 X dX0_putUnlettered_20 1 rfl rfl ?_
      refine ww_iload 21 X dX0_putUnlettered_21 5 rfl ?_
      obtain ⟨_, f23, h⟩ := bO_some h
      obtain ⟨v23, M23, e23, h⟩ := bP_some h
      refine ww_callVI0 23 X dX0_putUnlettered_23 mY_X0_get mL_X0_63 (rcv_spec f23) ⟨_, _, rfl⟩ (by decide) (As := [.int l6]) (rest := [.int (l4 <<< ((6 : Int32) &&& 31))]) rfl rfl ⟨Nat.le_of_ble_eq_true rfl, Nat.le_of_ble_eq_true rfl⟩ (Nat.le_of_ble_eq_true rfl) (fun l D A => c_X0_get l D A e23) ?_
      obtain ⟨v26, M26, e26, h⟩ := bP_some h
      refine ww_callSI0 26 X dX0_putUnlettered_26 mY_X0_letterValue mL_X0_67 (As := [.int v23]) (rest := [.int (l4 <<< ((6 : Int32) &&& 31))]) rfl rfl ⟨Nat.le_of_ble_eq_true rfl, Nat.le_of_ble_eq_true rfl⟩ (Nat.le_of_ble_eq_true rfl) (fun l D A => c_X0_letterValue l D A e26) ?_
      refine ww_ior 29 X dX0_putUnlettered_29 ?_
      refine ww_ldc 30 X (v := (65535 : Int32)) dX0_putUnlettered_30 kI_X0_70 ?_
      refine ww_iand 32 X dX0_putUnlettered_32 ?_
      refine ww_istore 33 X dX0_putUnlettered_33 (lv' := [(0, .ref l0), (1, .ref l1), (3, .int l3), (4, .int (((l4 <<< ((6 : Int32) &&& 31)) ||| v26) &&& (65535 : Int32))), (5, .int l5), (6, .int l6)]) (by decide) [1, 2, 3, 0, 4, 5] rfl ?_
      refine ww_iinc 35 X dX0_putUnlettered_35 (lv' := [(0, .ref l0), (1, .ref l1), (3, .int l3), (4, .int (((l4 <<< ((6 : Int32) &&& 31)) ||| v26) &&& (65535 : Int32))), (5, .int (l5 + 6)), (6, .int l6)]) 4 rfl rfl (by decide) [1, 2, 3, 4, 0, 5] rfl ?_
      refine ww_iload 38 X dX0_putUnlettered_38 4 rfl ?_
      refine ww_bipush 40 X (v := (8 : Int32)) dX0_putUnlettered_40 (by decide) ?_
      refine ww_icmp_lt 42 57 X dX0_putUnlettered_42 (by decide) (fun q => ?_) (fun q => ?_)
      · replace h := (if_pos q).symm.trans h
        refine ww_iinc 57 X dX0_putUnlettered_57 (lv' := [(0, .ref l0), (1, .ref l1), (3, .int l3), (4, .int (((l4 <<< ((6 : Int32) &&& 31)) ||| v26) &&& (65535 : Int32))), (5, .int (l5 + 6)), (6, .int (l6 + 1))]) 5 rfl rfl (by decide) [1, 2, 3, 4, 5, 0] rfl ?_
        refine ww_goto 60 9 X dX0_putUnlettered_60 (by decide) ?_
        exact (ih _ _ _ _ _ _ _ h)
      · replace h := (if_neg q).symm.trans h
        refine ww_iinc 45 X dX0_putUnlettered_45 (lv' := [(0, .ref l0), (1, .ref l1), (3, .int l3), (4, .int (((l4 <<< ((6 : Int32) &&& 31)) ||| v26) &&& (65535 : Int32))), (5, .int ((l5 + 6) + (-8))), (6, .int l6)]) 4 rfl rfl (by decide) [1, 2, 3, 4, 0, 5] rfl ?_
        refine ww_aload_n 48 X dX0_putUnlettered_48 0 rfl rfl ?_
        refine ww_iload 49 X dX0_putUnlettered_49 3 rfl ?_
        refine ww_iload 51 X dX0_putUnlettered_51 4 rfl ?_
        refine ww_ishr 53 X dX0_putUnlettered_53 ?_
        obtain ⟨_, f54, h⟩ := bO_some h
        obtain ⟨M54, e54, h⟩ := bO_some h
        refine ww_callVV0 54 X dX0_putUnlettered_54 mY_X0_put mL_X0_32 (rcv_spec f54) ⟨_, _, rfl⟩ (by decide) (As := [.int ((((l4 <<< ((6 : Int32) &&& 31)) ||| v26) &&& (65535 : Int32)) >>> (((l5 + 6) + (-8)) &&& 31))]) (rest := []) rfl rfl ⟨Nat.le_of_ble_eq_true rfl, Nat.le_of_ble_eq_true rfl⟩ (Nat.le_of_ble_eq_true rfl) (fun l D A => c_X0_put l D A e54) ?_
        refine ww_iinc 57 X dX0_putUnlettered_57 (lv' := [(0, .ref l0), (1, .ref l1), (3, .int l3), (4, .int (((l4 <<< ((6 : Int32) &&& 31)) ||| v26) &&& (65535 : Int32))), (5, .int ((l5 + 6) + (-8))), (6, .int (l6 + 1))]) 5 rfl rfl (by decide) [1, 2, 3, 4, 5, 0] rfl ?_
        refine ww_goto 60 9 X dX0_putUnlettered_60 (by decide) ?_
        exact (ih _ _ _ _ _ _ _ h)
set_option maxHeartbeats 4000000 in
set_option maxRecDepth 100000 in
theorem wP_X0_putUnlettered {G : mG} {F : Nat} {x : mXT} {sz : Nat} {M0 : mM} (X : mCX G RX0 cX0_putUnlettered 7 none "putUnlettered" rmX0_putUnlettered x) (hQ : mQV x M0 (sz, 0, 0)) {l0 : Nat} {l1 : Nat} {l2 : Int32} {l3 : Int32} {M : mM} (h : P_X0_putUnlettered G F l0 l1 l2 l3 M = some M0) : WW x (sz, 0, 0) M 0 [(0, .ref l0), (1, .ref l1), (2, .int l2), (3, .int l3)] [] := by
  unfold P_X0_putUnlettered at h
  refine ww_iconst 0 X (v := (0 : Int32)) dX0_putUnlettered_0 (by decide) ?_
  refine ww_istore 1 X dX0_putUnlettered_1 (lv' := [(0, .ref l0), (1, .ref l1), (2, .int l2), (3, .int l3), (4, .int (0 : Int32))]) (by decide) [1, 2, 3, 4, 0] rfl ?_
  refine ww_iconst 3 X (v := (0 : Int32)) dX0_putUnlettered_3 (by decide) ?_
  refine ww_istore 4 X dX0_putUnlettered_4 (lv' := [(0, .ref l0), (1, .ref l1), (2, .int l2), (3, .int l3), (4, .int (0 : Int32)), (5, .int (0 : Int32))]) (by decide) [1, 2, 3, 4, 5, 0] rfl ?_
  refine ww_iload_n 6 X dX0_putUnlettered_6 2 rfl rfl ?_
  refine ww_istore 7 X dX0_putUnlettered_7 (lv' := [(0, .ref l0), (1, .ref l1), (2, .int l2), (3, .int l3), (4, .int (0 : Int32)), (5, .int (0 : Int32)), (6, .int l2)]) (by decide) [1, 2, 3, 4, 5, 6, 0] rfl ?_
  exact ww_sub [0, 1, 3, 4, 5, 6] rfl (wB_X0_putUnlettered_9 X hQ F _ _ _ _ _ _ _ h)
theorem c_X0_putUnlettered {G : mG} {F sz : Nat} {M0 : mM} (l : Launch) (D : mD) (A : Nat → Prop) {l0 : Nat} {l1 : Nat} {l2 : Int32} {l3 : Int32} {M : mM} (h : P_X0_putUnlettered G F l0 l1 l2 l3 M = some M0) : mMetV l D G A yX0_putUnlettered cX0_putUnlettered 7 none 1 21 0 0 [.ref l0, .ref l1, .int l2, .int l3] M sz M0 sz := mMetV_of l D G A (by decide) (Nat.le_of_ble_eq_true rfl) (fun x X hQ => wP_X0_putUnlettered X hQ h)
/-! SealedTokens$Cipher.<init>()V -/
theorem dX1_init_0 : decode cX1_init 0 = .ok (.aload_n 0, 1) := by decide +kernel
theorem dX1_init_1 : decode cX1_init 1 = .ok (.invokespecial 1, 3) := by decide +kernel
theorem dX1_init_4 : decode cX1_init 4 = .ok (.aload_n 0, 1) := by decide +kernel
theorem dX1_init_5 : decode cX1_init 5 = .ok (.sipush 256, 3) := by decide +kernel
theorem dX1_init_8 : decode cX1_init 8 = .ok (.newarray .int, 2) := by decide +kernel
theorem dX1_init_10 : decode cX1_init 10 = .ok (.putfield 7, 3) := by decide +kernel
theorem dX1_init_13 : decode cX1_init 13 = .ok (.aload_n 0, 1) := by decide +kernel
theorem dX1_init_14 : decode cX1_init 14 = .ok (.sipush 240, 3) := by decide +kernel
theorem dX1_init_17 : decode cX1_init 17 = .ok (.newarray .int, 2) := by decide +kernel
theorem dX1_init_19 : decode cX1_init 19 = .ok (.putfield 13, 3) := by decide +kernel
theorem dX1_init_22 : decode cX1_init 22 = .ok (.aload_n 0, 1) := by decide +kernel
theorem dX1_init_23 : decode cX1_init 23 = .ok (.bipush 16, 2) := by decide +kernel
theorem dX1_init_25 : decode cX1_init 25 = .ok (.newarray .int, 2) := by decide +kernel
theorem dX1_init_27 : decode cX1_init 27 = .ok (.putfield 16, 3) := by decide +kernel
theorem dX1_init_30 : decode cX1_init 30 = .ok (.aload_n 0, 1) := by decide +kernel
theorem dX1_init_31 : decode cX1_init 31 = .ok (.bipush 16, 2) := by decide +kernel
theorem dX1_init_33 : decode cX1_init 33 = .ok (.newarray .int, 2) := by decide +kernel
theorem dX1_init_35 : decode cX1_init 35 = .ok (.putfield 19, 3) := by decide +kernel
theorem dX1_init_38 : decode cX1_init 38 = .ok (.aload_n 0, 1) := by decide +kernel
theorem dX1_init_39 : decode cX1_init 39 = .ok (.bipush 72, 2) := by decide +kernel
theorem dX1_init_41 : decode cX1_init 41 = .ok (.newarray .int, 2) := by decide +kernel
theorem dX1_init_43 : decode cX1_init 43 = .ok (.putfield 22, 3) := by decide +kernel
theorem dX1_init_46 : decode cX1_init 46 = .ok (.iconst 0, 1) := by decide +kernel
theorem dX1_init_47 : decode cX1_init 47 = .ok (.istore_n 1, 1) := by decide +kernel
theorem dX1_init_48 : decode cX1_init 48 = .ok (.iload_n 1, 1) := by decide +kernel
theorem dX1_init_49 : decode cX1_init 49 = .ok (.sipush 256, 3) := by decide +kernel
theorem dX1_init_52 : decode cX1_init 52 = .ok (.if_icmp .ge 24, 3) := by decide +kernel
theorem dX1_init_55 : decode cX1_init 55 = .ok (.aload_n 0, 1) := by decide +kernel
theorem dX1_init_56 : decode cX1_init 56 = .ok (.getfield 7, 3) := by decide +kernel
theorem dX1_init_59 : decode cX1_init 59 = .ok (.getstatic 25, 3) := by decide +kernel
theorem dX1_init_62 : decode cX1_init 62 = .ok (.iload_n 1, 1) := by decide +kernel
theorem dX1_init_63 : decode cX1_init 63 = .ok (.iaload, 1) := by decide +kernel
theorem dX1_init_64 : decode cX1_init 64 = .ok (.sipush 255, 3) := by decide +kernel
theorem dX1_init_67 : decode cX1_init 67 = .ok (.iand, 1) := by decide +kernel
theorem dX1_init_68 : decode cX1_init 68 = .ok (.iload_n 1, 1) := by decide +kernel
theorem dX1_init_69 : decode cX1_init 69 = .ok (.iastore, 1) := by decide +kernel
theorem dX1_init_70 : decode cX1_init 70 = .ok (.iinc 1 1, 3) := by decide +kernel
theorem dX1_init_73 : decode cX1_init 73 = .ok (.goto (-25), 3) := by decide +kernel
theorem dX1_init_76 : decode cX1_init 76 = .ok (.return_, 1) := by decide +kernel
theorem mB_X1_init_52 {G : mG} {F : Nat} {M0 : mM} {Z0 S0 : Nat} (r48 : Nat → Int32 → mM → Nat → Nat → Option (mM × Nat × Nat)) (hm48 : ∀ (l0 : Nat) (l1 : Int32) (M : mM) (sz : Nat) (sl : Nat), r48 l0 l1 M sz sl = some (M0, Z0, S0) → sz ≤ Z0 ∧ sl ≤ S0) {l0 : Nat} {l1 : Int32} {sk0 : Int32} {sk1 : Int32} {M : mM} {sz : Nat} {sl : Nat} (h : B_X1_init_52 G F r48 l0 l1 sk0 sk1 M sz sl = some (M0, Z0, S0)) : sz ≤ Z0 ∧ sl ≤ S0 := by
  unfold B_X1_init_52 at h
  by_cases q : sk1 ≤ sk0
  · replace h := (if_pos q).symm.trans h
    have q := retA_v h
    omega
  · replace h := (if_neg q).symm.trans h
    obtain ⟨v56, e56, h⟩ := bO_some h
    obtain ⟨v63, e63, h⟩ := bO_some h
    obtain ⟨M69, e69, h⟩ := bO_some h
    have q := hm48 _ _ _ _ _ h
    omega
set_option maxHeartbeats 4000000 in
set_option maxRecDepth 100000 in
theorem wB_X1_init_52 {G : mG} {F : Nat} {x : mXT} {z0 s0 : Nat} {M0 : mM} {Z0 S0 : Nat} (X : mCX G RX1 cX1_init 2 none "<init>" { frames := 1, cells := Z0 - z0, slots := S0 - s0, locals := 20 } x) (hQ : mQV x M0 (Z0, Z0 - z0, S0 - s0)) (r48 : Nat → Int32 → mM → Nat → Nat → Option (mM × Nat × Nat)) (hm48 : ∀ (l0 : Nat) (l1 : Int32) (M : mM) (sz : Nat) (sl : Nat), r48 l0 l1 M sz sl = some (M0, Z0, S0) → sz ≤ Z0 ∧ sl ≤ S0) (hr48 : ∀ (l0 : Nat) (l1 : Int32) (M : mM) (sz : Nat) (sl : Nat), z0 ≤ sz → s0 ≤ sl → r48 l0 l1 M sz sl = some (M0, Z0, S0) → WW x (sz, sz - z0, sl - s0) M 48 [(0, .ref l0), (1, .int l1)] []) {l0 : Nat} {l1 : Int32} {sk0 : Int32} {sk1 : Int32} {M : mM} {sz : Nat} {sl : Nat} (hz0 : z0 ≤ sz) (hs0 : s0 ≤ sl) (h : B_X1_init_52 G F r48 l0 l1 sk0 sk1 M sz sl = some (M0, Z0, S0)) : WW x (sz, sz - z0, sl - s0) M 52 [(0, .ref l0), (1, .int l1)] [.int sk1, .int sk0] := by
  unfold B_X1_init_52 at h
  refine ww_icmp_ge 52 76 X dX1_init_52 (by decide) (fun q => ?_) (fun q => ?_)
  · replace h := (if_pos q).symm.trans h
    have q := retA_v h
    exact ww_vretA 76 X hQ dX1_init_76 h
  · replace h := (if_neg q).symm.trans h
    obtain ⟨v56, e56, h⟩ := bO_some h
    obtain ⟨v63, e63, h⟩ := bO_some h
    obtain ⟨M69, e69, h⟩ := bO_some h
    have q := hm48 _ _ _ _ _ h
    refine ww_aload_n 55 X dX1_init_55 0 rfl rfl ?_
    refine ww_getR 56 X dX1_init_56 fG_X1_7 e56 ?_
    refine ww_gets 59 X dX1_init_59 gS_X1_25 ?_
    refine ww_iload_n 62 X dX1_init_62 1 rfl rfl ?_
    refine ww_iald 63 X dX1_init_63 e63 ?_
    refine ww_sipush 64 X (v := (255 : Int32)) dX1_init_64 (by decide) ?_
    refine ww_iand 67 X dX1_init_67 ?_
    refine ww_iload_n 68 X dX1_init_68 1 rfl rfl ?_
    refine ww_iast 69 X dX1_init_69 e69 ?_
    refine ww_iinc 70 X dX1_init_70 (lv' := [(0, .ref l0), (1, .int (l1 + 1))]) 1 rfl rfl (by decide) [1, 0] rfl ?_
    refine ww_goto 73 48 X dX1_init_73 (by decide) ?_
    exact (hr48 _ _ _ _ _ (by omega) (by omega) h)
theorem mB_X1_init_48 {G : mG} {F : Nat} {M0 : mM} {Z0 S0 : Nat} : ∀ (n : Nat) (l0 : Nat) (l1 : Int32) (M : mM) (sz : Nat) (sl : Nat), B_X1_init_48 G F n l0 l1 M sz sl = some (M0, Z0, S0) → sz ≤ Z0 ∧ sl ≤ S0 := by
  intro n
  induction n with
  | zero =>
    intro l0 l1 M sz sl h
    exact nomatch (show (none : Option (mM × Nat × Nat)) = some (M0, Z0, S0) from h)
  | succ n ih =>
    intro l0 l1 M sz sl h
    rw [B_X1_init_48] at h
    have q := mB_X1_init_52 _ ih h
    omega
set_option maxHeartbeats 4000000 in
set_option maxRecDepth 100000 in
theorem wB_X1_init_48 {G : mG} {F : Nat} {x : mXT} {z0 s0 : Nat} {M0 : mM} {Z0 S0 : Nat} (X : mCX G RX1 cX1_init 2 none "<init>" { frames := 1, cells := Z0 - z0, slots := S0 - s0, locals := 20 } x) (hQ : mQV x M0 (Z0, Z0 - z0, S0 - s0)) : ∀ (n : Nat) (l0 : Nat) (l1 : Int32) (M : mM) (sz : Nat) (sl : Nat), z0 ≤ sz → s0 ≤ sl → B_X1_init_48 G F n l0 l1 M sz sl = some (M0, Z0, S0) → WW x (sz, sz - z0, sl - s0) M 48 [(0, .ref l0), (1, .int l1)] [] := by
  intro n
  induction n with
  | zero =>
    intro l0 l1 M sz sl hz0 hs0 h
    exact nomatch (show (none : Option (mM × Nat × Nat)) = some (M0, Z0, S0) from h)
  | succ n ih =>
    intro l0 l1 M sz sl hz0 hs0 h
    rw [B_X1_init_48] at h
    have q := mB_X1_init_52 _ (mB_X1_init_48 n) h
    refine ww_iload_n 48 X dX1_init_48 1 rfl rfl ?_
    refine ww_sipush 49 X (v := (256 : Int32)) dX1_init_49 (by decide) ?_
    exact (wB_X1_init_52 X hQ _ (mB_X1_init_48 n) ih (by omega) (by omega) h)
theorem mP_X1_init {G : mG} {F : Nat} {M0 : mM} {Z0 S0 : Nat} {l0 : Nat} {M : mM} {sz : Nat} {sl : Nat} (h : P_X1_init G F l0 M sz sl = some (M0, Z0, S0)) : sz ≤ Z0 ∧ sl ≤ S0 := by
  unfold P_X1_init at h
  obtain ⟨M8, e8, h⟩ := bO_some h
  obtain ⟨M10, e10, h⟩ := bO_some h
  obtain ⟨M17, e17, h⟩ := bO_some h
  obtain ⟨M19, e19, h⟩ := bO_some h
  obtain ⟨M25, e25, h⟩ := bO_some h
  obtain ⟨M27, e27, h⟩ := bO_some h
  obtain ⟨M33, e33, h⟩ := bO_some h
  obtain ⟨M35, e35, h⟩ := bO_some h
  obtain ⟨M41, e41, h⟩ := bO_some h
  obtain ⟨M43, e43, h⟩ := bO_some h
  have q := mB_X1_init_48 F _ _ _ _ _ h
  omega
set_option maxHeartbeats 4000000 in
set_option maxRecDepth 100000 in
theorem wP_X1_init {G : mG} {F : Nat} {x : mXT} {z0 s0 : Nat} {M0 : mM} {Z0 S0 : Nat} (X : mCX G RX1 cX1_init 2 none "<init>" { frames := 1, cells := Z0 - z0, slots := S0 - s0, locals := 20 } x) (hQ : mQV x M0 (Z0, Z0 - z0, S0 - s0)) {l0 : Nat} {M : mM} {sz : Nat} {sl : Nat} (hz0 : z0 ≤ sz) (hs0 : s0 ≤ sl) (h : P_X1_init G F l0 M sz sl = some (M0, Z0, S0)) : WW x (sz, sz - z0, sl - s0) M 0 [(0, .ref l0)] [] := by
  unfold P_X1_init at h
  obtain ⟨M8, e8, h⟩ := bO_some h
  obtain ⟨M10, e10, h⟩ := bO_some h
  obtain ⟨M17, e17, h⟩ := bO_some h
  obtain ⟨M19, e19, h⟩ := bO_some h
  obtain ⟨M25, e25, h⟩ := bO_some h
  obtain ⟨M27, e27, h⟩ := bO_some h
  obtain ⟨M33, e33, h⟩ := bO_some h
  obtain ⟨M35, e35, h⟩ := bO_some h
  obtain ⟨M41, e41, h⟩ := bO_some h
  obtain ⟨M43, e43, h⟩ := bO_some h
  have q := mB_X1_init_48 F _ _ _ _ _ h
  refine ww_aload_n 0 X dX1_init_0 0 rfl rfl ?_
  refine ww_objI 1 X (st := []) dX1_init_1 oL_X1_1 oI_i oI_c (Nat.le_of_ble_eq_true rfl) (Nat.le_of_ble_eq_true rfl) (Nat.le_of_ble_eq_true rfl) ?_
  refine ww_aload_n 4 X dX1_init_4 0 rfl rfl ?_
  refine ww_sipush 5 X (v := (256 : Int32)) dX1_init_5 (by decide) ?_
  refine ww_newA 8 X (sz := sz) (sl := sl) (z0 := z0) (s0 := s0) dX1_init_8 (k := 0) (by decide) rfl aC_0 e8 (by omega) (by omega) (by show _ ≤ Z0 - z0; omega) (by show _ ≤ S0 - s0; omega) ?_
  refine ww_putR 10 X dX1_init_10 (fP_X1_7 _ (Or.inr rfl)) e10 rfl rfl ?_
  refine ww_aload_n 13 X dX1_init_13 0 rfl rfl ?_
  refine ww_sipush 14 X (v := (240 : Int32)) dX1_init_14 (by decide) ?_
  refine ww_newA 17 X (sz := (sz + 1)) (sl := (sl + ((256 : Int32)).toNatClampNeg)) (z0 := z0) (s0 := s0) dX1_init_17 (k := 0) (by decide) rfl aC_0 e17 (by omega) (by omega) (by show _ ≤ Z0 - z0; omega) (by show _ ≤ S0 - s0; omega) ?_
  refine ww_putR 19 X dX1_init_19 (fP_X1_13 _ (Or.inr rfl)) e19 rfl rfl ?_
  refine ww_aload_n 22 X dX1_init_22 0 rfl rfl ?_
  refine ww_bipush 23 X (v := (16 : Int32)) dX1_init_23 (by decide) ?_
  refine ww_newA 25 X (sz := ((sz + 1) + 1)) (sl := ((sl + ((256 : Int32)).toNatClampNeg) + ((240 : Int32)).toNatClampNeg)) (z0 := z0) (s0 := s0) dX1_init_25 (k := 0) (by decide) rfl aC_0 e25 (by omega) (by omega) (by show _ ≤ Z0 - z0; omega) (by show _ ≤ S0 - s0; omega) ?_
  refine ww_putR 27 X dX1_init_27 (fP_X1_16 _ (Or.inr rfl)) e27 rfl rfl ?_
  refine ww_aload_n 30 X dX1_init_30 0 rfl rfl ?_
  refine ww_bipush 31 X (v := (16 : Int32)) dX1_init_31 (by decide) ?_
  refine ww_newA 33 X (sz := (((sz + 1) + 1) + 1)) (sl := (((sl + ((256 : Int32)).toNatClampNeg) + ((240 : Int32)).toNatClampNeg) + ((16 : Int32)).toNatClampNeg)) (z0 := z0) (s0 := s0) dX1_init_33 (k := 0) (by decide) rfl aC_0 e33 (by omega) (by omega) (by show _ ≤ Z0 - z0; omega) (by show _ ≤ S0 - s0; omega) ?_
  refine ww_putR 35 X dX1_init_35 (fP_X1_19 _ (Or.inr rfl)) e35 rfl rfl ?_
  refine ww_aload_n 38 X dX1_init_38 0 rfl rfl ?_
  refine ww_bipush 39 X (v := (72 : Int32)) dX1_init_39 (by decide) ?_
  refine ww_newA 41 X (sz := ((((sz + 1) + 1) + 1) + 1)) (sl := ((((sl + ((256 : Int32)).toNatClampNeg) + ((240 : Int32)).toNatClampNeg) + ((16 : Int32)).toNatClampNeg) + ((16 : Int32)).toNatClampNeg)) (z0 := z0) (s0 := s0) dX1_init_41 (k := 0) (by decide) rfl aC_0 e41 (by omega) (by omega) (by show _ ≤ Z0 - z0; omega) (by show _ ≤ S0 - s0; omega) ?_
  refine ww_putR 43 X dX1_init_43 (fP_X1_22 _ (Or.inr rfl)) e43 rfl rfl ?_
  refine ww_iconst 46 X (v := (0 : Int32)) dX1_init_46 (by decide) ?_
  refine ww_istore_n 47 X dX1_init_47 (lv' := [(0, .ref l0), (1, .int (0 : Int32))]) rfl (by decide) [1, 0] rfl ?_
  exact (wB_X1_init_48 X hQ F _ _ _ _ _ (by omega) (by omega) h)
theorem c_X1_init {G : mG} {F : Nat} {M0 : mM} {Z0 S0 : Nat} (l : Launch) (D : mD) (A : Nat → Prop) {l0 : Nat} {M : mM} {sz : Nat} {sl : Nat} (h : P_X1_init G F l0 M sz sl = some (M0, Z0, S0)) : mMetV l D G A yX1_init cX1_init 2 none 1 20 (Z0 - sz) (S0 - sl) [.ref l0] M sz M0 Z0 := mMetV_of l D G A (by decide) (Nat.le_of_ble_eq_true rfl) (fun x X hQ => by have K := wP_X1_init X hQ (Nat.le_refl sz) (Nat.le_refl sl) h; rw [Nat.sub_self, Nat.sub_self] at K; exact K)
/-! SealedTokens$Cipher.twice(I)I -/
theorem dX1_twice_0 : decode cX1_twice 0 = .ok (.iload_n 0, 1) := by decide +kernel
theorem dX1_twice_1 : decode cX1_twice 1 = .ok (.sipush 128, 3) := by decide +kernel
theorem dX1_twice_4 : decode cX1_twice 4 = .ok (.if_icmp .ge 9, 3) := by decide +kernel
theorem dX1_twice_7 : decode cX1_twice 7 = .ok (.iload_n 0, 1) := by decide +kernel
theorem dX1_twice_8 : decode cX1_twice 8 = .ok (.iconst 1, 1) := by decide +kernel
theorem dX1_twice_9 : decode cX1_twice 9 = .ok (.ishl, 1) := by decide +kernel
theorem dX1_twice_10 : decode cX1_twice 10 = .ok (.goto 10, 3) := by decide +kernel
theorem dX1_twice_13 : decode cX1_twice 13 = .ok (.iload_n 0, 1) := by decide +kernel
theorem dX1_twice_14 : decode cX1_twice 14 = .ok (.iconst 1, 1) := by decide +kernel
theorem dX1_twice_15 : decode cX1_twice 15 = .ok (.ishl, 1) := by decide +kernel
theorem dX1_twice_16 : decode cX1_twice 16 = .ok (.sipush 283, 3) := by decide +kernel
theorem dX1_twice_19 : decode cX1_twice 19 = .ok (.ixor, 1) := by decide +kernel
theorem dX1_twice_20 : decode cX1_twice 20 = .ok (.ireturn, 1) := by decide +kernel
abbrev rmX1_twice : Room := { frames := 0, cells := 0, slots := 0, locals := 0 }
set_option maxHeartbeats 4000000 in
set_option maxRecDepth 100000 in
theorem wP_X1_twice {G : mG} {F : Nat} {x : mXT} {sz : Nat} {r0 : Int32} {M0 : mM} (X : mCX G RX1 cX1_twice 1 (some .int) "twice" rmX1_twice x) (hQ : mQI x r0 M0 (sz, 0, 0)) {l0 : Int32} {M : mM} (h : P_X1_twice G F l0 M = some (r0, M0)) : WW x (sz, 0, 0) M 0 [(0, .int l0)] [] := by
  unfold P_X1_twice at h
  refine ww_iload_n 0 X dX1_twice_0 0 rfl rfl ?_
  refine ww_sipush 1 X (v := (128 : Int32)) dX1_twice_1 (by decide) ?_
  refine ww_icmp_ge 4 13 X dX1_twice_4 (by decide) (fun q => ?_) (fun q => ?_)
  · replace h := (if_pos q).symm.trans h
    refine ww_iload_n 13 X dX1_twice_13 0 rfl rfl ?_
    refine ww_iconst 14 X (v := (1 : Int32)) dX1_twice_14 (by decide) ?_
    refine ww_ishl 15 X dX1_twice_15 ?_
    refine ww_sipush 16 X (v := (283 : Int32)) dX1_twice_16 (by decide) ?_
    refine ww_ixor 19 X dX1_twice_19 ?_
    exact ww_iretE 20 X hQ dX1_twice_20 h
  · replace h := (if_neg q).symm.trans h
    refine ww_iload_n 7 X dX1_twice_7 0 rfl rfl ?_
    refine ww_iconst 8 X (v := (1 : Int32)) dX1_twice_8 (by decide) ?_
    refine ww_ishl 9 X dX1_twice_9 ?_
    refine ww_goto 10 20 X dX1_twice_10 (by decide) ?_
    exact ww_iretE 20 X hQ dX1_twice_20 h
theorem c_X1_twice {G : mG} {F sz : Nat} {r0 : Int32} {M0 : mM} (l : Launch) (D : mD) (A : Nat → Prop) {l0 : Int32} {M : mM} (h : P_X1_twice G F l0 M = some (r0, M0)) : mMetI l D G A yX1_twice cX1_twice 1 (some .int) 0 0 0 0 [.int l0] M sz r0 M0 sz := mMetI_of l D G A (by decide) (Nat.le_of_ble_eq_true rfl) (fun x X hQ => wP_X1_twice X hQ h)
/-! SealedTokens$Cipher.become(LSealedTokens$Bytes;II)V -/
theorem dX1_become_0 : decode cX1_become 0 = .ok (.iload_n 3, 1) := by decide +kernel
theorem dX1_become_1 : decode cX1_become 1 = .ok (.bipush 32, 2) := by decide +kernel
theorem dX1_become_3 : decode cX1_become 3 = .ok (.if_icmp .ne 8, 3) := by decide +kernel
theorem dX1_become_6 : decode cX1_become 6 = .ok (.bipush 8, 2) := by decide +kernel
theorem dX1_become_8 : decode cX1_become 8 = .ok (.goto 4, 3) := by decide +kernel
theorem dX1_become_11 : decode cX1_become 11 = .ok (.iconst 4, 1) := by decide +kernel
theorem dX1_become_12 : decode cX1_become 12 = .ok (.istore 4, 2) := by decide +kernel
theorem dX1_become_14 : decode cX1_become 14 = .ok (.aload_n 0, 1) := by decide +kernel
theorem dX1_become_15 : decode cX1_become 15 = .ok (.iload 4, 2) := by decide +kernel
theorem dX1_become_17 : decode cX1_become 17 = .ok (.bipush 6, 2) := by decide +kernel
theorem dX1_become_19 : decode cX1_become 19 = .ok (.iadd, 1) := by decide +kernel
theorem dX1_become_20 : decode cX1_become 20 = .ok (.putfield 28, 3) := by decide +kernel
theorem dX1_become_23 : decode cX1_become 23 = .ok (.iconst 0, 1) := by decide +kernel
theorem dX1_become_24 : decode cX1_become 24 = .ok (.istore 5, 2) := by decide +kernel
theorem dX1_become_26 : decode cX1_become 26 = .ok (.iload 5, 2) := by decide +kernel
theorem dX1_become_28 : decode cX1_become 28 = .ok (.iconst 4, 1) := by decide +kernel
theorem dX1_become_29 : decode cX1_become 29 = .ok (.iload 4, 2) := by decide +kernel
theorem dX1_become_31 : decode cX1_become 31 = .ok (.imul, 1) := by decide +kernel
theorem dX1_become_32 : decode cX1_become 32 = .ok (.if_icmp .ge 24, 3) := by decide +kernel
theorem dX1_become_35 : decode cX1_become 35 = .ok (.aload_n 0, 1) := by decide +kernel
theorem dX1_become_36 : decode cX1_become 36 = .ok (.getfield 13, 3) := by decide +kernel
theorem dX1_become_39 : decode cX1_become 39 = .ok (.iload 5, 2) := by decide +kernel
theorem dX1_become_41 : decode cX1_become 41 = .ok (.aload_n 1, 1) := by decide +kernel
theorem dX1_become_42 : decode cX1_become 42 = .ok (.iload_n 2, 1) := by decide +kernel
theorem dX1_become_43 : decode cX1_become 43 = .ok (.iload 5, 2) := by decide +kernel
theorem dX1_become_45 : decode cX1_become 45 = .ok (.iadd, 1) := by decide +kernel
theorem dX1_become_46 : decode cX1_become 46 = .ok (.invokevirtual 32, 3) := by decide +kernel
theorem dX1_become_49 : decode cX1_become 49 = .ok (.iastore, 1) := by decide +kernel
theorem dX1_become_50 : decode cX1_become 50 = .ok (.iinc 5 1, 3) := by decide +kernel
theorem dX1_become_53 : decode cX1_become 53 = .ok (.goto (-27), 3) := by decide +kernel
theorem dX1_become_56 : decode cX1_become 56 = .ok (.iconst 1, 1) := by decide +kernel
theorem dX1_become_57 : decode cX1_become 57 = .ok (.istore 5, 2) := by decide +kernel
theorem dX1_become_59 : decode cX1_become 59 = .ok (.iload 4, 2) := by decide +kernel
theorem dX1_become_61 : decode cX1_become 61 = .ok (.istore 6, 2) := by decide +kernel
theorem dX1_become_63 : decode cX1_become 63 = .ok (.iload 6, 2) := by decide +kernel
theorem dX1_become_65 : decode cX1_become 65 = .ok (.iconst 4, 1) := by decide +kernel
theorem dX1_become_66 : decode cX1_become 66 = .ok (.aload_n 0, 1) := by decide +kernel
theorem dX1_become_67 : decode cX1_become 67 = .ok (.getfield 28, 3) := by decide +kernel
theorem dX1_become_70 : decode cX1_become 70 = .ok (.iconst 1, 1) := by decide +kernel
theorem dX1_become_71 : decode cX1_become 71 = .ok (.iadd, 1) := by decide +kernel
theorem dX1_become_72 : decode cX1_become 72 = .ok (.imul, 1) := by decide +kernel
theorem dX1_become_73 : decode cX1_become 73 = .ok (.if_icmp .ge 264, 3) := by decide +kernel
theorem dX1_become_76 : decode cX1_become 76 = .ok (.iconst 4, 1) := by decide +kernel
theorem dX1_become_77 : decode cX1_become 77 = .ok (.iload 6, 2) := by decide +kernel
theorem dX1_become_79 : decode cX1_become 79 = .ok (.imul, 1) := by decide +kernel
theorem dX1_become_80 : decode cX1_become 80 = .ok (.iconst 4, 1) := by decide +kernel
theorem dX1_become_81 : decode cX1_become 81 = .ok (.isub, 1) := by decide +kernel
theorem dX1_become_82 : decode cX1_become 82 = .ok (.istore 7, 2) := by decide +kernel
theorem dX1_become_84 : decode cX1_become 84 = .ok (.aload_n 0, 1) := by decide +kernel
theorem dX1_become_85 : decode cX1_become 85 = .ok (.getfield 13, 3) := by decide +kernel
theorem dX1_become_88 : decode cX1_become 88 = .ok (.iload 7, 2) := by decide +kernel
theorem dX1_become_90 : decode cX1_become 90 = .ok (.iaload, 1) := by decide +kernel
theorem dX1_become_91 : decode cX1_become 91 = .ok (.istore 8, 2) := by decide +kernel
theorem dX1_become_93 : decode cX1_become 93 = .ok (.aload_n 0, 1) := by decide +kernel
theorem dX1_become_94 : decode cX1_become 94 = .ok (.getfield 13, 3) := by decide +kernel
theorem dX1_become_97 : decode cX1_become 97 = .ok (.iload 7, 2) := by decide +kernel
theorem dX1_become_99 : decode cX1_become 99 = .ok (.iconst 1, 1) := by decide +kernel
theorem dX1_become_100 : decode cX1_become 100 = .ok (.iadd, 1) := by decide +kernel
theorem dX1_become_101 : decode cX1_become 101 = .ok (.iaload, 1) := by decide +kernel
theorem dX1_become_102 : decode cX1_become 102 = .ok (.istore 9, 2) := by decide +kernel
theorem dX1_become_104 : decode cX1_become 104 = .ok (.aload_n 0, 1) := by decide +kernel
theorem dX1_become_105 : decode cX1_become 105 = .ok (.getfield 13, 3) := by decide +kernel
theorem dX1_become_108 : decode cX1_become 108 = .ok (.iload 7, 2) := by decide +kernel
theorem dX1_become_110 : decode cX1_become 110 = .ok (.iconst 2, 1) := by decide +kernel
theorem dX1_become_111 : decode cX1_become 111 = .ok (.iadd, 1) := by decide +kernel
theorem dX1_become_112 : decode cX1_become 112 = .ok (.iaload, 1) := by decide +kernel
theorem dX1_become_113 : decode cX1_become 113 = .ok (.istore 10, 2) := by decide +kernel
theorem dX1_become_115 : decode cX1_become 115 = .ok (.aload_n 0, 1) := by decide +kernel
theorem dX1_become_116 : decode cX1_become 116 = .ok (.getfield 13, 3) := by decide +kernel
theorem dX1_become_119 : decode cX1_become 119 = .ok (.iload 7, 2) := by decide +kernel
theorem dX1_become_121 : decode cX1_become 121 = .ok (.iconst 3, 1) := by decide +kernel
theorem dX1_become_122 : decode cX1_become 122 = .ok (.iadd, 1) := by decide +kernel
theorem dX1_become_123 : decode cX1_become 123 = .ok (.iaload, 1) := by decide +kernel
theorem dX1_become_124 : decode cX1_become 124 = .ok (.istore 11, 2) := by decide +kernel
theorem dX1_become_126 : decode cX1_become 126 = .ok (.iload 6, 2) := by decide +kernel
theorem dX1_become_128 : decode cX1_become 128 = .ok (.iload 4, 2) := by decide +kernel
theorem dX1_become_130 : decode cX1_become 130 = .ok (.iconst 1, 1) := by decide +kernel
theorem dX1_become_131 : decode cX1_become 131 = .ok (.isub, 1) := by decide +kernel
theorem dX1_become_132 : decode cX1_become 132 = .ok (.iand, 1) := by decide +kernel
theorem dX1_become_133 : decode cX1_become 133 = .ok (.istore 12, 2) := by decide +kernel
theorem dX1_become_135 : decode cX1_become 135 = .ok (.iload 12, 2) := by decide +kernel
theorem dX1_become_137 : decode cX1_become 137 = .ok (.ifCond .ne 52, 3) := by decide +kernel
theorem dX1_become_140 : decode cX1_become 140 = .ok (.iload 8, 2) := by decide +kernel
theorem dX1_become_142 : decode cX1_become 142 = .ok (.istore 13, 2) := by decide +kernel
theorem dX1_become_144 : decode cX1_become 144 = .ok (.getstatic 25, 3) := by decide +kernel
theorem dX1_become_147 : decode cX1_become 147 = .ok (.iload 9, 2) := by decide +kernel
theorem dX1_become_149 : decode cX1_become 149 = .ok (.iaload, 1) := by decide +kernel
theorem dX1_become_150 : decode cX1_become 150 = .ok (.iload 5, 2) := by decide +kernel
theorem dX1_become_152 : decode cX1_become 152 = .ok (.ixor, 1) := by decide +kernel
theorem dX1_become_153 : decode cX1_become 153 = .ok (.istore 8, 2) := by decide +kernel
theorem dX1_become_155 : decode cX1_become 155 = .ok (.getstatic 25, 3) := by decide +kernel
theorem dX1_become_158 : decode cX1_become 158 = .ok (.iload 10, 2) := by decide +kernel
theorem dX1_become_160 : decode cX1_become 160 = .ok (.iaload, 1) := by decide +kernel
theorem dX1_become_161 : decode cX1_become 161 = .ok (.istore 9, 2) := by decide +kernel
theorem dX1_become_163 : decode cX1_become 163 = .ok (.getstatic 25, 3) := by decide +kernel
theorem dX1_become_166 : decode cX1_become 166 = .ok (.iload 11, 2) := by decide +kernel
theorem dX1_become_168 : decode cX1_become 168 = .ok (.iaload, 1) := by decide +kernel
theorem dX1_become_169 : decode cX1_become 169 = .ok (.istore 10, 2) := by decide +kernel
theorem dX1_become_171 : decode cX1_become 171 = .ok (.getstatic 25, 3) := by decide +kernel
theorem dX1_become_174 : decode cX1_become 174 = .ok (.iload 13, 2) := by decide +kernel
theorem dX1_become_176 : decode cX1_become 176 = .ok (.iaload, 1) := by decide +kernel
theorem dX1_become_177 : decode cX1_become 177 = .ok (.istore 11, 2) := by decide +kernel
theorem dX1_become_179 : decode cX1_become 179 = .ok (.iload 5, 2) := by decide +kernel
theorem dX1_become_181 : decode cX1_become 181 = .ok (.invokestatic 38, 3) := by decide +kernel
theorem dX1_become_184 : decode cX1_become 184 = .ok (.istore 5, 2) := by decide +kernel
theorem dX1_become_186 : decode cX1_become 186 = .ok (.goto 48, 3) := by decide +kernel
theorem dX1_become_189 : decode cX1_become 189 = .ok (.iload 4, 2) := by decide +kernel
theorem dX1_become_191 : decode cX1_become 191 = .ok (.bipush 8, 2) := by decide +kernel
theorem dX1_become_193 : decode cX1_become 193 = .ok (.if_icmp .ne 41, 3) := by decide +kernel
theorem dX1_become_196 : decode cX1_become 196 = .ok (.iload 12, 2) := by decide +kernel
theorem dX1_become_198 : decode cX1_become 198 = .ok (.iconst 4, 1) := by decide +kernel
theorem dX1_become_199 : decode cX1_become 199 = .ok (.if_icmp .ne 35, 3) := by decide +kernel
theorem dX1_become_202 : decode cX1_become 202 = .ok (.getstatic 25, 3) := by decide +kernel
theorem dX1_become_205 : decode cX1_become 205 = .ok (.iload 8, 2) := by decide +kernel
theorem dX1_become_207 : decode cX1_become 207 = .ok (.iaload, 1) := by decide +kernel
theorem dX1_become_208 : decode cX1_become 208 = .ok (.istore 8, 2) := by decide +kernel
theorem dX1_become_210 : decode cX1_become 210 = .ok (.getstatic 25, 3) := by decide +kernel
theorem dX1_become_213 : decode cX1_become 213 = .ok (.iload 9, 2) := by decide +kernel
theorem dX1_become_215 : decode cX1_become 215 = .ok (.iaload, 1) := by decide +kernel
theorem dX1_become_216 : decode cX1_become 216 = .ok (.istore 9, 2) := by decide +kernel
theorem dX1_become_218 : decode cX1_become 218 = .ok (.getstatic 25, 3) := by decide +kernel
theorem dX1_become_221 : decode cX1_become 221 = .ok (.iload 10, 2) := by decide +kernel
theorem dX1_become_223 : decode cX1_become 223 = .ok (.iaload, 1) := by decide +kernel
theorem dX1_become_224 : decode cX1_become 224 = .ok (.istore 10, 2) := by decide +kernel
theorem dX1_become_226 : decode cX1_become 226 = .ok (.getstatic 25, 3) := by decide +kernel
theorem dX1_become_229 : decode cX1_become 229 = .ok (.iload 11, 2) := by decide +kernel
theorem dX1_become_231 : decode cX1_become 231 = .ok (.iaload, 1) := by decide +kernel
theorem dX1_become_232 : decode cX1_become 232 = .ok (.istore 11, 2) := by decide +kernel
theorem dX1_become_234 : decode cX1_become 234 = .ok (.iconst 4, 1) := by decide +kernel
theorem dX1_become_235 : decode cX1_become 235 = .ok (.iload 6, 2) := by decide +kernel
theorem dX1_become_237 : decode cX1_become 237 = .ok (.iload 4, 2) := by decide +kernel
theorem dX1_become_239 : decode cX1_become 239 = .ok (.isub, 1) := by decide +kernel
theorem dX1_become_240 : decode cX1_become 240 = .ok (.imul, 1) := by decide +kernel
theorem dX1_become_241 : decode cX1_become 241 = .ok (.istore 13, 2) := by decide +kernel
theorem dX1_become_243 : decode cX1_become 243 = .ok (.aload_n 0, 1) := by decide +kernel
theorem dX1_become_244 : decode cX1_become 244 = .ok (.getfield 13, 3) := by decide +kernel
theorem dX1_become_247 : decode cX1_become 247 = .ok (.iconst 4, 1) := by decide +kernel
theorem dX1_become_248 : decode cX1_become 248 = .ok (.iload 6, 2) := by decide +kernel
theorem dX1_become_250 : decode cX1_become 250 = .ok (.imul, 1) := by decide +kernel
theorem dX1_become_251 : decode cX1_become 251 = .ok (.aload_n 0, 1) := by decide +kernel
theorem dX1_become_252 : decode cX1_become 252 = .ok (.getfield 13, 3) := by decide +kernel
theorem dX1_become_255 : decode cX1_become 255 = .ok (.iload 13, 2) := by decide +kernel
theorem dX1_become_257 : decode cX1_become 257 = .ok (.iaload, 1) := by decide +kernel
theorem dX1_become_258 : decode cX1_become 258 = .ok (.iload 8, 2) := by decide +kernel
theorem dX1_become_260 : decode cX1_become 260 = .ok (.ixor, 1) := by decide +kernel
theorem dX1_become_261 : decode cX1_become 261 = .ok (.iastore, 1) := by decide +kernel
theorem dX1_become_262 : decode cX1_become 262 = .ok (.aload_n 0, 1) := by decide +kernel
theorem dX1_become_263 : decode cX1_become 263 = .ok (.getfield 13, 3) := by decide +kernel
theorem dX1_become_266 : decode cX1_become 266 = .ok (.iconst 4, 1) := by decide +kernel
theorem dX1_become_267 : decode cX1_become 267 = .ok (.iload 6, 2) := by decide +kernel
theorem dX1_become_269 : decode cX1_become 269 = .ok (.imul, 1) := by decide +kernel
theorem dX1_become_270 : decode cX1_become 270 = .ok (.iconst 1, 1) := by decide +kernel
theorem dX1_become_271 : decode cX1_become 271 = .ok (.iadd, 1) := by decide +kernel
theorem dX1_become_272 : decode cX1_become 272 = .ok (.aload_n 0, 1) := by decide +kernel
theorem dX1_become_273 : decode cX1_become 273 = .ok (.getfield 13, 3) := by decide +kernel
theorem dX1_become_276 : decode cX1_become 276 = .ok (.iload 13, 2) := by decide +kernel
theorem dX1_become_278 : decode cX1_become 278 = .ok (.iconst 1, 1) := by decide +kernel
theorem dX1_become_279 : decode cX1_become 279 = .ok (.iadd, 1) := by decide +kernel
theorem dX1_become_280 : decode cX1_become 280 = .ok (.iaload, 1) := by decide +kernel
theorem dX1_become_281 : decode cX1_become 281 = .ok (.iload 9, 2) := by decide +kernel
theorem dX1_become_283 : decode cX1_become 283 = .ok (.ixor, 1) := by decide +kernel
theorem dX1_become_284 : decode cX1_become 284 = .ok (.iastore, 1) := by decide +kernel
theorem dX1_become_285 : decode cX1_become 285 = .ok (.aload_n 0, 1) := by decide +kernel
theorem dX1_become_286 : decode cX1_become 286 = .ok (.getfield 13, 3) := by decide +kernel
theorem dX1_become_289 : decode cX1_become 289 = .ok (.iconst 4, 1) := by decide +kernel
theorem dX1_become_290 : decode cX1_become 290 = .ok (.iload 6, 2) := by decide +kernel
theorem dX1_become_292 : decode cX1_become 292 = .ok (.imul, 1) := by decide +kernel
theorem dX1_become_293 : decode cX1_become 293 = .ok (.iconst 2, 1) := by decide +kernel
theorem dX1_become_294 : decode cX1_become 294 = .ok (.iadd, 1) := by decide +kernel
theorem dX1_become_295 : decode cX1_become 295 = .ok (.aload_n 0, 1) := by decide +kernel
theorem dX1_become_296 : decode cX1_become 296 = .ok (.getfield 13, 3) := by decide +kernel
theorem dX1_become_299 : decode cX1_become 299 = .ok (.iload 13, 2) := by decide +kernel
theorem dX1_become_301 : decode cX1_become 301 = .ok (.iconst 2, 1) := by decide +kernel
theorem dX1_become_302 : decode cX1_become 302 = .ok (.iadd, 1) := by decide +kernel
theorem dX1_become_303 : decode cX1_become 303 = .ok (.iaload, 1) := by decide +kernel
theorem dX1_become_304 : decode cX1_become 304 = .ok (.iload 10, 2) := by decide +kernel
theorem dX1_become_306 : decode cX1_become 306 = .ok (.ixor, 1) := by decide +kernel
theorem dX1_become_307 : decode cX1_become 307 = .ok (.iastore, 1) := by decide +kernel
theorem dX1_become_308 : decode cX1_become 308 = .ok (.aload_n 0, 1) := by decide +kernel
theorem dX1_become_309 : decode cX1_become 309 = .ok (.getfield 13, 3) := by decide +kernel
theorem dX1_become_312 : decode cX1_become 312 = .ok (.iconst 4, 1) := by decide +kernel
theorem dX1_become_313 : decode cX1_become 313 = .ok (.iload 6, 2) := by decide +kernel
theorem dX1_become_315 : decode cX1_become 315 = .ok (.imul, 1) := by decide +kernel
theorem dX1_become_316 : decode cX1_become 316 = .ok (.iconst 3, 1) := by decide +kernel
theorem dX1_become_317 : decode cX1_become 317 = .ok (.iadd, 1) := by decide +kernel
theorem dX1_become_318 : decode cX1_become 318 = .ok (.aload_n 0, 1) := by decide +kernel
theorem dX1_become_319 : decode cX1_become 319 = .ok (.getfield 13, 3) := by decide +kernel
theorem dX1_become_322 : decode cX1_become 322 = .ok (.iload 13, 2) := by decide +kernel
theorem dX1_become_324 : decode cX1_become 324 = .ok (.iconst 3, 1) := by decide +kernel
theorem dX1_become_325 : decode cX1_become 325 = .ok (.iadd, 1) := by decide +kernel
theorem dX1_become_326 : decode cX1_become 326 = .ok (.iaload, 1) := by decide +kernel
theorem dX1_become_327 : decode cX1_become 327 = .ok (.iload 11, 2) := by decide +kernel
theorem dX1_become_329 : decode cX1_become 329 = .ok (.ixor, 1) := by decide +kernel
theorem dX1_become_330 : decode cX1_become 330 = .ok (.iastore, 1) := by decide +kernel
theorem dX1_become_331 : decode cX1_become 331 = .ok (.iinc 6 1, 3) := by decide +kernel
theorem dX1_become_334 : decode cX1_become 334 = .ok (.goto (-271), 3) := by decide +kernel
theorem dX1_become_337 : decode cX1_become 337 = .ok (.return_, 1) := by decide +kernel
abbrev rmX1_become : Room := { frames := 1, cells := 0, slots := 0, locals := 21 }
set_option maxHeartbeats 4000000 in
set_option maxRecDepth 100000 in
theorem wB_X1_become_234 {G : mG} {F : Nat} {x : mXT} {sz : Nat} {M0 : mM} (X : mCX G RX1 cX1_become 14 none "become" rmX1_become x) (hQ : mQV x M0 (sz, 0, 0)) (r63 : Nat → Int32 → Int32 → Int32 → mM → Option mM) (hr63 : ∀ (l0 : Nat) (l4 : Int32) (l5 : Int32) (l6 : Int32) (M : mM), r63 l0 l4 l5 l6 M = some M0 → WW x (sz, 0, 0) M 63 [(0, .ref l0), (4, .int l4), (5, .int l5), (6, .int l6)] []) {l0 : Nat} {l4 : Int32} {l5 : Int32} {l6 : Int32} {l8 : Int32} {l9 : Int32} {l10 : Int32} {l11 : Int32} {M : mM} (h : B_X1_become_234 G F r63 l0 l4 l5 l6 l8 l9 l10 l11 M = some M0) : WW x (sz, 0, 0) M 234 [(0, .ref l0), (4, .int l4), (5, .int l5), (6, .int l6), (8, .int l8), (9, .int l9), (10, .int l10), (11, .int l11)] [] := by
  unfold B_X1_become_234 at h
  refine ww_iconst 234 X (v := (4 : Int32)) dX1_become_234 (by decide) ?_
  refine ww_iload 235 X dX1_become_235 3 rfl ?_
  refine ww_iload 237 X dX1_become_237 1 rfl ?_
  refine ww_isub 239 X dX1_become_239 ?_
  refine ww_imul 240 X dX1_become_240 ?_
  refine ww_istore 241 X dX1_become_241 (lv' := [(0, .ref l0), (4, .int l4), (5, .int l5), (6, .int l6), (8, .int l8), (9, .int l9), (10, .int l10), (11, .int l11), (13, .int ((4 : Int32) * (l6 - l4)))]) (by decide) [1, 2, 3, 4, 5, 6, 7, 8, 0] rfl ?_
  refine ww_aload_n 243 X dX1_become_243 0 rfl rfl ?_
  obtain ⟨v244, e244, h⟩ := bO_some h
  refine ww_getR 244 X dX1_become_244 fG_X1_13 e244 ?_
  refine ww_iconst 247 X (v := (4 : Int32)) dX1_become_247 (by decide) ?_
  refine ww_iload 248 X dX1_become_248 3 rfl ?_
  refine ww_imul 250 X dX1_become_250 ?_
  refine ww_aload_n 251 X dX1_become_251 0 rfl rfl ?_
  obtain ⟨v252, e252, h⟩ := bO_some h
  refine ww_getR 252 X dX1_become_252 fG_X1_13 e252 ?_
  refine ww_iload 255 X dX1_become_255 8 rfl ?_
  obtain ⟨v257, e257, h⟩ := bO_some h
  refine ww_iald 257 X dX1_become_257 e257 ?_
  refine ww_iload 258 X dX1_become_258 4 rfl ?_
  refine ww_ixor 260 X dX1_become_260 ?_
  obtain ⟨M261, e261, h⟩ := bO_some h
  refine ww_iast 261 X dX1_become_261 e261 ?_
  refine ww_aload_n 262 X dX1_become_262 0 rfl rfl ?_
  obtain ⟨v263, e263, h⟩ := bO_some h
  refine ww_getR 263 X dX1_become_263 fG_X1_13 e263 ?_
  refine ww_iconst 266 X (v := (4 : Int32)) dX1_become_266 (by decide) ?_
  refine ww_iload 267 X dX1_become_267 3 rfl ?_
  refine ww_imul 269 X dX1_become_269 ?_
  refine ww_iconst 270 X (v := (1 : Int32)) dX1_become_270 (by decide) ?_
  refine ww_iadd 271 X dX1_become_271 ?_
  refine ww_aload_n 272 X dX1_become_272 0 rfl rfl ?_
  obtain ⟨v273, e273, h⟩ := bO_some h
  refine ww_getR 273 X dX1_become_273 fG_X1_13 e273 ?_
  refine ww_iload 276 X dX1_become_276 8 rfl ?_
  refine ww_iconst 278 X (v := (1 : Int32)) dX1_become_278 (by decide) ?_
  refine ww_iadd 279 X dX1_become_279 ?_
  obtain ⟨v280, e280, h⟩ := bO_some h
  refine ww_iald 280 X dX1_become_280 e280 ?_
  refine ww_iload 281 X dX1_become_281 5 rfl ?_
  refine ww_ixor 283 X dX1_become_283 ?_
  obtain ⟨M284, e284, h⟩ := bO_some h
  refine ww_iast 284 X dX1_become_284 e284 ?_
  refine ww_aload_n 285 X dX1_become_285 0 rfl rfl ?_
  obtain ⟨v286, e286, h⟩ := bO_some h
  refine ww_getR 286 X dX1_become_286 fG_X1_13 e286 ?_
  refine ww_iconst 289 X (v := (4 : Int32)) dX1_become_289 (by decide) ?_
  refine ww_iload 290 X dX1_become_290 3 rfl ?_
  refine ww_imul 292 X dX1_become_292 ?_
  refine ww_iconst 293 X (v := (2 : Int32)) dX1_become_293 (by decide) ?_
  refine ww_iadd 294 X dX1_become_294 ?_
  refine ww_aload_n 295 X dX1_become_295 0 rfl rfl ?_
  obtain ⟨v296, e296, h⟩ := bO_some h
  refine ww_getR 296 X dX1_become_296 fG_X1_13 e296 ?_
  refine ww_iload 299 X dX1_become_299 8 rfl ?_
  refine ww_iconst 301 X (v := (2 : Int32)) dX1_become_301 (by decide) ?_
  refine ww_iadd 302 X dX1_become_302 ?_
  obtain ⟨v303, e303, h⟩ := bO_some h
  refine ww_iald 303 X dX1_become_303 e303 ?_
  refine ww_iload 304 X dX1_become_304 6 rfl ?_
  refine ww_ixor 306 X dX1_become_306 ?_
  obtain ⟨M307, e307, h⟩ := bO_some h
  refine ww_iast 307 X dX1_become_307 e307 ?_
  refine ww_aload_n 308 X dX1_become_308 0 rfl rfl ?_
  obtain ⟨v309, e309, h⟩ := bO_some h
  refine ww_getR 309 X dX1_become_309 fG_X1_13 e309 ?_
  refine ww_iconst 312 X (v := (4 : Int32)) dX1_become_312 (by decide) ?_
  refine ww_iload 313 X dX1_become_313 3 rfl ?_
  refine ww_imul 315 X dX1_become_315 ?_
  refine ww_iconst 316 X (v := (3 : Int32)) dX1_become_316 (by decide) ?_
  refine ww_iadd 317 X dX1_become_317 ?_
  refine ww_aload_n 318 X dX1_become_318 0 rfl rfl ?_
  obtain ⟨v319, e319, h⟩ := bO_some h
  refine ww_getR 319 X dX1_become_319 fG_X1_13 e319 ?_
  refine ww_iload 322 X dX1_become_322 8 rfl ?_
  refine ww_iconst 324 X (v := (3 : Int32)) dX1_become_324 (by decide) ?_
  refine ww_iadd 325 X dX1_become_325 ?_
  obtain ⟨v326, e326, h⟩ := bO_some h
  refine ww_iald 326 X dX1_become_326 e326 ?_
  refine ww_iload 327 X dX1_become_327 7 rfl ?_
  refine ww_ixor 329 X dX1_become_329 ?_
  obtain ⟨M330, e330, h⟩ := bO_some h
  refine ww_iast 330 X dX1_become_330 e330 ?_
  refine ww_iinc 331 X dX1_become_331 (lv' := [(0, .ref l0), (4, .int l4), (5, .int l5), (6, .int (l6 + 1)), (8, .int l8), (9, .int l9), (10, .int l10), (11, .int l11), (13, .int ((4 : Int32) * (l6 - l4)))]) 3 rfl rfl (by decide) [1, 2, 3, 0, 4, 5, 6, 7, 8] rfl ?_
  refine ww_goto 334 63 X dX1_become_334 (by decide) ?_
  exact ww_sub [0, 1, 2, 3] rfl (hr63 _ _ _ _ _ h)
set_option maxHeartbeats 4000000 in
set_option maxRecDepth 100000 in
theorem wB_X1_become_63 {G : mG} {F : Nat} {x : mXT} {sz : Nat} {M0 : mM} (X : mCX G RX1 cX1_become 14 none "become" rmX1_become x) (hQ : mQV x M0 (sz, 0, 0)) : ∀ (n : Nat) (l0 : Nat) (l4 : Int32) (l5 : Int32) (l6 : Int32) (M : mM), B_X1_become_63 G F n l0 l4 l5 l6 M = some M0 → WW x (sz, 0, 0) M 63 [(0, .ref l0), (4, .int l4), (5, .int l5), (6, .int l6)] [] := by
  intro n
  induction n with
  | zero =>
    intro l0 l4 l5 l6 M h
    exact nomatch (show (none : Option mM) = some M0 from h)
  | succ n ih =>
    intro l0 l4 l5 l6 M h
    rw [B_X1_become_63] at h
    refine ww_iload 63 X dX1_become_63 3 rfl ?_
    refine ww_iconst 65 X (v := (4 : Int32)) dX1_become_65 (by decide) ?_
    refine ww_aload_n 66 X dX1_become_66 0 rfl rfl ?_
    obtain ⟨v67, e67, h⟩ := bO_some h
    refine ww_getI 67 X dX1_become_67 fG_X1_28 e67 ?_
    refine ww_iconst 70 X (v := (1 : Int32)) dX1_become_70 (by decide) ?_
    refine ww_iadd 71 X dX1_become_71 ?_
    refine ww_imul 72 X dX1_become_72 ?_
    refine ww_icmp_ge 73 337 X dX1_become_73 (by decide) (fun q => ?_) (fun q => ?_)
    · replace h := (if_pos q).symm.trans h
      exact ww_vretE 337 X hQ dX1_become_337 h
    · replace h := (if_neg q).symm.trans h
      refine ww_iconst 76 X (v := (4 : Int32)) dX1_become_76 (by decide) ?_
      refine ww_iload 77 X dX1_become_77 3 rfl ?_
      refine ww_imul 79 X dX1_become_79 ?_
      refine ww_iconst 80 X (v := (4 : Int32)) dX1_become_80 (by decide) ?_
      refine ww_isub 81 X dX1_become_81 ?_
      refine ww_istore 82 X dX1_become_82 (lv' := [(0, .ref l0), (4, .int l4), (5, .int l5), (6, .int l6), (7, .int (((4 : Int32) * l6) - (4 : Int32)))]) (by decide) [1, 2, 3, 4, 0] rfl ?_
      refine ww_aload_n 84 X dX1_become_84 0 rfl rfl ?_
      obtain ⟨v85, e85, h⟩ := bO_some h
      refine ww_getR 85 X dX1_become_85 fG_X1_13 e85 ?_
      refine ww_iload 88 X dX1_become_88 4 rfl ?_
      obtain ⟨v90, e90, h⟩ := bO_some h
      refine ww_iald 90 X dX1_become_90 e90 ?_
      refine ww_istore 91 X dX1_become_91 (lv' := [(0, .ref l0), (4, .int l4), (5, .int l5), (6, .int l6), (7, .int (((4 : Int32) * l6) - (4 : Int32))), (8, .int v90)]) (by decide) [1, 2, 3, 4, 5, 0] rfl ?_
      refine ww_aload_n 93 X dX1_become_93 0 rfl rfl ?_
      obtain ⟨v94, e94, h⟩ := bO_some h
      refine ww_getR 94 X dX1_become_94 fG_X1_13 e94 ?_
      refine ww_iload 97 X dX1_become_97 4 rfl ?_
      refine ww_iconst 99 X (v := (1 : Int32)) dX1_become_99 (by decide) ?_
      refine ww_iadd 100 X dX1_become_100 ?_
      obtain ⟨v101, e101, h⟩ := bO_some h
      refine ww_iald 101 X dX1_become_101 e101 ?_
      refine ww_istore 102 X dX1_become_102 (lv' := [(0, .ref l0), (4, .int l4), (5, .int l5), (6, .int l6), (7, .int (((4 : Int32) * l6) - (4 : Int32))), (8, .int v90), (9, .int v101)]) (by decide) [1, 2, 3, 4, 5, 6, 0] rfl ?_
      refine ww_aload_n 104 X dX1_become_104 0 rfl rfl ?_
      obtain ⟨v105, e105, h⟩ := bO_some h
      refine ww_getR 105 X dX1_become_105 fG_X1_13 e105 ?_
      refine ww_iload 108 X dX1_become_108 4 rfl ?_
      refine ww_iconst 110 X (v := (2 : Int32)) dX1_become_110 (by decide) ?_
      refine ww_iadd 111 X dX1_become_111 ?_
      obtain ⟨v112, e112, h⟩ := bO_some h
      refine ww_iald 112 X dX1_become_112 e112 ?_
      refine ww_istore 113 X dX1_become_113 (lv' := [(0, .ref l0), (4, .int l4), (5, .int l5), (6, .int l6), (7, .int (((4 : Int32) * l6) - (4 : Int32))), (8, .int v90), (9, .int v101), (10, .int v112)]) (by decide) [1, 2, 3, 4, 5, 6, 7, 0] rfl ?_
      refine ww_aload_n 115 X dX1_become_115 0 rfl rfl ?_
      obtain ⟨v116, e116, h⟩ := bO_some h
      refine ww_getR 116 X dX1_become_116 fG_X1_13 e116 ?_
      refine ww_iload 119 X dX1_become_119 4 rfl ?_
      refine ww_iconst 121 X (v := (3 : Int32)) dX1_become_121 (by decide) ?_
      refine ww_iadd 122 X dX1_become_122 ?_
      obtain ⟨v123, e123, h⟩ := bO_some h
      refine ww_iald 123 X dX1_become_123 e123 ?_
      refine ww_istore 124 X dX1_become_124 (lv' := [(0, .ref l0), (4, .int l4), (5, .int l5), (6, .int l6), (7, .int (((4 : Int32) * l6) - (4 : Int32))), (8, .int v90), (9, .int v101), (10, .int v112), (11, .int v123)]) (by decide) [1, 2, 3, 4, 5, 6, 7, 8, 0] rfl ?_
      refine ww_iload 126 X dX1_become_126 3 rfl ?_
      refine ww_iload 128 X dX1_become_128 1 rfl ?_
      refine ww_iconst 130 X (v := (1 : Int32)) dX1_become_130 (by decide) ?_
      refine ww_isub 131 X dX1_become_131 ?_
      refine ww_iand 132 X dX1_become_132 ?_
      refine ww_istore 133 X dX1_become_133 (lv' := [(0, .ref l0), (4, .int l4), (5, .int l5), (6, .int l6), (7, .int (((4 : Int32) * l6) - (4 : Int32))), (8, .int v90), (9, .int v101), (10, .int v112), (11, .int v123), (12, .int (l6 &&& (l4 - (1 : Int32))))]) (by decide) [1, 2, 3, 4, 5, 6, 7, 8, 9, 0] rfl ?_
      refine ww_iload 135 X dX1_become_135 9 rfl ?_
      refine ww_if_ne 137 189 X dX1_become_137 (by decide) (fun q => ?_) (fun q => ?_)
      · replace h := (if_neg q).symm.trans h
        refine ww_iload 189 X dX1_become_189 1 rfl ?_
        refine ww_bipush 191 X (v := (8 : Int32)) dX1_become_191 (by decide) ?_
        refine ww_icmp_ne 193 234 X dX1_become_193 (by decide) (fun q => ?_) (fun q => ?_)
        · replace h := (if_neg q).symm.trans h
          exact ww_sub [0, 1, 2, 3, 5, 6, 7, 8] rfl (wB_X1_become_234 X hQ _ ih h)
        · replace h := (if_pos q).symm.trans h
          refine ww_iload 196 X dX1_become_196 9 rfl ?_
          refine ww_iconst 198 X (v := (4 : Int32)) dX1_become_198 (by decide) ?_
          refine ww_icmp_ne 199 234 X dX1_become_199 (by decide) (fun q => ?_) (fun q => ?_)
          · replace h := (if_neg q).symm.trans h
            exact ww_sub [0, 1, 2, 3, 5, 6, 7, 8] rfl (wB_X1_become_234 X hQ _ ih h)
          · replace h := (if_pos q).symm.trans h
            refine ww_gets 202 X dX1_become_202 gS_X1_25 ?_
            refine ww_iload 205 X dX1_become_205 5 rfl ?_
            obtain ⟨v207, e207, h⟩ := bO_some h
            refine ww_iald 207 X dX1_become_207 e207 ?_
            refine ww_istore 208 X dX1_become_208 (lv' := [(0, .ref l0), (4, .int l4), (5, .int l5), (6, .int l6), (7, .int (((4 : Int32) * l6) - (4 : Int32))), (8, .int v207), (9, .int v101), (10, .int v112), (11, .int v123), (12, .int (l6 &&& (l4 - (1 : Int32))))]) (by decide) [1, 2, 3, 4, 5, 0, 6, 7, 8, 9] rfl ?_
            refine ww_gets 210 X dX1_become_210 gS_X1_25 ?_
            refine ww_iload 213 X dX1_become_213 6 rfl ?_
            obtain ⟨v215, e215, h⟩ := bO_some h
            refine ww_iald 215 X dX1_become_215 e215 ?_
            refine ww_istore 216 X dX1_become_216 (lv' := [(0, .ref l0), (4, .int l4), (5, .int l5), (6, .int l6), (7, .int (((4 : Int32) * l6) - (4 : Int32))), (8, .int v207), (9, .int v215), (10, .int v112), (11, .int v123), (12, .int (l6 &&& (l4 - (1 : Int32))))]) (by decide) [1, 2, 3, 4, 5, 6, 0, 7, 8, 9] rfl ?_
            refine ww_gets 218 X dX1_become_218 gS_X1_25 ?_
            refine ww_iload 221 X dX1_become_221 7 rfl ?_
            obtain ⟨v223, e223, h⟩ := bO_some h
            refine ww_iald 223 X dX1_become_223 e223 ?_
            refine ww_istore 224 X dX1_become_224 (lv' := [(0, .ref l0), (4, .int l4), (5, .int l5), (6, .int l6), (7, .int (((4 : Int32) * l6) - (4 : Int32))), (8, .int v207), (9, .int v215), (10, .int v223), (11, .int v123), (12, .int (l6 &&& (l4 - (1 : Int32))))]) (by decide) [1, 2, 3, 4, 5, 6, 7, 0, 8, 9] rfl ?_
            refine ww_gets 226 X dX1_become_226 gS_X1_25 ?_
            refine ww_iload 229 X dX1_become_229 8 rfl ?_
            obtain ⟨v231, e231, h⟩ := bO_some h
            refine ww_iald 231 X dX1_become_231 e231 ?_
            refine ww_istore 232 X dX1_become_232 (lv' := [(0, .ref l0), (4, .int l4), (5, .int l5), (6, .int l6), (7, .int (((4 : Int32) * l6) - (4 : Int32))), (8, .int v207), (9, .int v215), (10, .int v223), (11, .int v231), (12, .int (l6 &&& (l4 - (1 : Int32))))]) (by decide) [1, 2, 3, 4, 5, 6, 7, 8, 0, 9] rfl ?_
            exact ww_sub [0, 1, 2, 3, 5, 6, 7, 8] rfl (wB_X1_become_234 X hQ _ ih h)
      · replace h := (if_pos q).symm.trans h
        refine ww_iload 140 X dX1_become_140 5 rfl ?_
        refine ww_istore 142 X dX1_become_142 (lv' := [(0, .ref l0), (4, .int l4), (5, .int l5), (6, .int l6), (7, .int (((4 : Int32) * l6) - (4 : Int32))), (8, .int v90), (9, .int v101), (10, .int v112), (11, .int v123), (12, .int (l6 &&& (l4 - (1 : Int32)))), (13, .int v90)]) (by decide) [1, 2, 3, 4, 5, 6, 7, 8, 9, 10, 0] rfl ?_
        refine ww_gets 144 X dX1_become_144 gS_X1_25 ?_
        refine ww_iload 147 X dX1_become_147 6 rfl ?_
        obtain ⟨v149, e149, h⟩ := bO_some h
        refine ww_iald 149 X dX1_become_149 e149 ?_
        refine ww_iload 150 X dX1_become_150 2 rfl ?_
        refine ww_ixor 152 X dX1_become_152 ?_
        refine ww_istore 153 X dX1_become_153 (lv' := [(0, .ref l0), (4, .int l4), (5, .int l5), (6, .int l6), (7, .int (((4 : Int32) * l6) - (4 : Int32))), (8, .int (v149 ^^^ l5)), (9, .int v101), (10, .int v112), (11, .int v123), (12, .int (l6 &&& (l4 - (1 : Int32)))), (13, .int v90)]) (by decide) [1, 2, 3, 4, 5, 0, 6, 7, 8, 9, 10] rfl ?_
        refine ww_gets 155 X dX1_become_155 gS_X1_25 ?_
        refine ww_iload 158 X dX1_become_158 7 rfl ?_
        obtain ⟨v160, e160, h⟩ := bO_some h
        refine ww_iald 160 X dX1_become_160 e160 ?_
        refine ww_istore 161 X dX1_become_161 (lv' := [(0, .ref l0), (4, .int l4), (5, .int l5), (6, .int l6), (7, .int (((4 : Int32) * l6) - (4 : Int32))), (8, .int (v149 ^^^ l5)), (9, .int v160), (10, .int v112), (11, .int v123), (12, .int (l6 &&& (l4 - (1 : Int32)))), (13, .int v90)]) (by decide) [1, 2, 3, 4, 5, 6, 0, 7, 8, 9, 10] rfl ?_
        refine ww_gets 163 X dX1_become_163 gS_X1_25 ?_
        refine ww_iload 166 X dX1_become_166 8 rfl ?_
        obtain ⟨v168, e168, h⟩ := bO_some h
        refine ww_iald 168 X dX1_become_168 e168 ?_
        refine ww_istore 169 X dX1_become_169 (lv' := [(0, .ref l0), (4, .int l4), (5, .int l5), (6, .int l6), (7, .int (((4 : Int32) * l6) - (4 : Int32))), (8, .int (v149 ^^^ l5)), (9, .int v160), (10, .int v168), (11, .int v123), (12, .int (l6 &&& (l4 - (1 : Int32)))), (13, .int v90)]) (by decide) [1, 2, 3, 4, 5, 6, 7, 0, 8, 9, 10] rfl ?_
        refine ww_gets 171 X dX1_become_171 gS_X1_25 ?_
        refine ww_iload 174 X dX1_become_174 10 rfl ?_
        obtain ⟨v176, e176, h⟩ := bO_some h
        refine ww_iald 176 X dX1_become_176 e176 ?_
        refine ww_istore 177 X dX1_become_177 (lv' := [(0, .ref l0), (4, .int l4), (5, .int l5), (6, .int l6), (7, .int (((4 : Int32) * l6) - (4 : Int32))), (8, .int (v149 ^^^ l5)), (9, .int v160), (10, .int v168), (11, .int v176), (12, .int (l6 &&& (l4 - (1 : Int32)))), (13, .int v90)]) (by decide) [1, 2, 3, 4, 5, 6, 7, 8, 0, 9, 10] rfl ?_
        refine ww_iload 179 X dX1_become_179 2 rfl ?_
        obtain ⟨v181, M181, e181, h⟩ := bP_some h
        refine ww_callSI0 181 X dX1_become_181 mY_X1_twice mL_X1_38 (As := [.int l5]) (rest := []) rfl rfl ⟨Nat.le_of_ble_eq_true rfl, Nat.le_of_ble_eq_true rfl⟩ (Nat.le_of_ble_eq_true rfl) (fun l D A => c_X1_twice l D A e181) ?_
        refine ww_istore 184 X dX1_become_184 (lv' := [(0, .ref l0), (4, .int l4), (5, .int v181), (6, .int l6), (7, .int (((4 : Int32) * l6) - (4 : Int32))), (8, .int (v149 ^^^ l5)), (9, .int v160), (10, .int v168), (11, .int v176), (12, .int (l6 &&& (l4 - (1 : Int32)))), (13, .int v90)]) (by decide) [1, 2, 0, 3, 4, 5, 6, 7, 8, 9, 10] rfl ?_
        refine ww_goto 186 234 X dX1_become_186 (by decide) ?_
        exact ww_sub [0, 1, 2, 3, 5, 6, 7, 8] rfl (wB_X1_become_234 X hQ _ ih h)
set_option maxHeartbeats 4000000 in
set_option maxRecDepth 100000 in
theorem wB_X1_become_26 {G : mG} {F : Nat} {x : mXT} {sz : Nat} {M0 : mM} (X : mCX G RX1 cX1_become 14 none "become" rmX1_become x) (hQ : mQV x M0 (sz, 0, 0)) : ∀ (n : Nat) (l0 : Nat) (l1 : Nat) (l2 : Int32) (l4 : Int32) (l5 : Int32) (M : mM), B_X1_become_26 G F n l0 l1 l2 l4 l5 M = some M0 → WW x (sz, 0, 0) M 26 [(0, .ref l0), (1, .ref l1), (2, .int l2), (4, .int l4), (5, .int l5)] [] := by
  intro n
  induction n with
  | zero =>
    intro l0 l1 l2 l4 l5 M h
    exact nomatch (show (none : Option mM) = some M0 from h)
  | succ n ih =>
    intro l0 l1 l2 l4 l5 M h
    rw [B_X1_become_26] at h
    refine ww_iload 26 X dX1_become_26 4 rfl ?_
    refine ww_iconst 28 X (v := (4 : Int32)) dX1_become_28 (by decide) ?_
    refine ww_iload 29 X dX1_become_29 3 rfl ?_
    refine ww_imul 31 X dX1_become_31 ?_
    refine ww_icmp_ge 32 56 X dX1_become_32 (by decide) (fun q => ?_) (fun q => ?_)
    · replace h := (if_pos q).symm.trans h
      refine ww_iconst 56 X (v := (1 : Int32)) dX1_become_56 (by decide) ?_
      refine ww_istore 57 X dX1_become_57 (lv' := [(0, .ref l0), (1, .ref l1), (2, .int l2), (4, .int l4), (5, .int (1 : Int32))]) (by decide) [1, 2, 3, 4, 0] rfl ?_
      refine ww_iload 59 X dX1_become_59 3 rfl ?_
      refine ww_istore 61 X dX1_become_61 (lv' := [(0, .ref l0), (1, .ref l1), (2, .int l2), (4, .int l4), (5, .int (1 : Int32)), (6, .int l4)]) (by decide) [1, 2, 3, 4, 5, 0] rfl ?_
      exact ww_sub [0, 3, 4, 5] rfl (wB_X1_become_63 X hQ F _ _ _ _ _ h)
    · replace h := (if_neg q).symm.trans h
      refine ww_aload_n 35 X dX1_become_35 0 rfl rfl ?_
      obtain ⟨v36, e36, h⟩ := bO_some h
      refine ww_getR 36 X dX1_become_36 fG_X1_13 e36 ?_
      refine ww_iload 39 X dX1_become_39 4 rfl ?_
      refine ww_aload_n 41 X dX1_become_41 1 rfl rfl ?_
      refine ww_iload_n 42 X dX1_become_42 2 rfl rfl ?_
      refine ww_iload 43 X dX1_become_43 4 rfl ?_
      refine ww_iadd 45 X dX1_become_45 ?_
      obtain ⟨_, f46, h⟩ := bO_some h
      obtain ⟨v46, M46, e46, h⟩ := bP_some h
      refine ww_callVI0 46 X dX1_become_46 mY_X0_get mL_X1_32 (rcv_spec f46) ⟨_, _, rfl⟩ (by decide) (As := [.int (l2 + l5)]) (rest := [.int l5, .ref v36]) rfl rfl ⟨Nat.le_of_ble_eq_true rfl, Nat.le_of_ble_eq_true rfl⟩ (Nat.le_of_ble_eq_true rfl) (fun l D A => c_X0_get l D A e46) ?_
      obtain ⟨M49, e49, h⟩ := bO_some h
      refine ww_iast 49 X dX1_become_49 e49 ?_
      refine ww_iinc 50 X dX1_become_50 (lv' := [(0, .ref l0), (1, .ref l1), (2, .int l2), (4, .int l4), (5, .int (l5 + 1))]) 4 rfl rfl (by decide) [1, 2, 3, 4, 0] rfl ?_
      refine ww_goto 53 26 X dX1_become_53 (by decide) ?_
      exact (ih _ _ _ _ _ _ h)
set_option maxHeartbeats 4000000 in
set_option maxRecDepth 100000 in
theorem wP_X1_become {G : mG} {F : Nat} {x : mXT} {sz : Nat} {M0 : mM} (X : mCX G RX1 cX1_become 14 none "become" rmX1_become x) (hQ : mQV x M0 (sz, 0, 0)) {l0 : Nat} {l1 : Nat} {l2 : Int32} {l3 : Int32} {M : mM} (h : P_X1_become G F l0 l1 l2 l3 M = some M0) : WW x (sz, 0, 0) M 0 [(0, .ref l0), (1, .ref l1), (2, .int l2), (3, .int l3)] [] := by
  unfold P_X1_become at h
  refine ww_iload_n 0 X dX1_become_0 3 rfl rfl ?_
  refine ww_bipush 1 X (v := (32 : Int32)) dX1_become_1 (by decide) ?_
  refine ww_icmp_ne 3 11 X dX1_become_3 (by decide) (fun q => ?_) (fun q => ?_)
  · replace h := (if_neg q).symm.trans h
    refine ww_iconst 11 X (v := (4 : Int32)) dX1_become_11 (by decide) ?_
    refine ww_istore 12 X dX1_become_12 (lv' := [(0, .ref l0), (1, .ref l1), (2, .int l2), (3, .int l3), (4, .int (4 : Int32))]) (by decide) [1, 2, 3, 4, 0] rfl ?_
    refine ww_aload_n 14 X dX1_become_14 0 rfl rfl ?_
    refine ww_iload 15 X dX1_become_15 4 rfl ?_
    refine ww_bipush 17 X (v := (6 : Int32)) dX1_become_17 (by decide) ?_
    refine ww_iadd 19 X dX1_become_19 ?_
    obtain ⟨M20, e20, h⟩ := bO_some h
    refine ww_putI 20 X dX1_become_20 (fP_X1_28 _) e20 ?_
    refine ww_iconst 23 X (v := (0 : Int32)) dX1_become_23 (by decide) ?_
    refine ww_istore 24 X dX1_become_24 (lv' := [(0, .ref l0), (1, .ref l1), (2, .int l2), (3, .int l3), (4, .int (4 : Int32)), (5, .int (0 : Int32))]) (by decide) [1, 2, 3, 4, 5, 0] rfl ?_
    exact ww_sub [0, 1, 2, 4, 5] rfl (wB_X1_become_26 X hQ F _ _ _ _ _ _ h)
  · replace h := (if_pos q).symm.trans h
    refine ww_bipush 6 X (v := (8 : Int32)) dX1_become_6 (by decide) ?_
    refine ww_goto 8 12 X dX1_become_8 (by decide) ?_
    refine ww_istore 12 X dX1_become_12 (lv' := [(0, .ref l0), (1, .ref l1), (2, .int l2), (3, .int l3), (4, .int (8 : Int32))]) (by decide) [1, 2, 3, 4, 0] rfl ?_
    refine ww_aload_n 14 X dX1_become_14 0 rfl rfl ?_
    refine ww_iload 15 X dX1_become_15 4 rfl ?_
    refine ww_bipush 17 X (v := (6 : Int32)) dX1_become_17 (by decide) ?_
    refine ww_iadd 19 X dX1_become_19 ?_
    obtain ⟨M20, e20, h⟩ := bO_some h
    refine ww_putI 20 X dX1_become_20 (fP_X1_28 _) e20 ?_
    refine ww_iconst 23 X (v := (0 : Int32)) dX1_become_23 (by decide) ?_
    refine ww_istore 24 X dX1_become_24 (lv' := [(0, .ref l0), (1, .ref l1), (2, .int l2), (3, .int l3), (4, .int (8 : Int32)), (5, .int (0 : Int32))]) (by decide) [1, 2, 3, 4, 5, 0] rfl ?_
    exact ww_sub [0, 1, 2, 4, 5] rfl (wB_X1_become_26 X hQ F _ _ _ _ _ _ h)
theorem c_X1_become {G : mG} {F sz : Nat} {M0 : mM} (l : Launch) (D : mD) (A : Nat → Prop) {l0 : Nat} {l1 : Nat} {l2 : Int32} {l3 : Int32} {M : mM} (h : P_X1_become G F l0 l1 l2 l3 M = some M0) : mMetV l D G A yX1_become cX1_become 14 none 1 21 0 0 [.ref l0, .ref l1, .int l2, .int l3] M sz M0 sz := mMetV_of l D G A (by decide) (Nat.le_of_ble_eq_true rfl) (fun x X hQ => wP_X1_become X hQ h)
/-! SealedTokens$Cipher.addRoundKey([II)V -/
theorem dX1_addRoundKey_0 : decode cX1_addRoundKey 0 = .ok (.iconst 0, 1) := by decide +kernel
theorem dX1_addRoundKey_1 : decode cX1_addRoundKey 1 = .ok (.istore_n 3, 1) := by decide +kernel
theorem dX1_addRoundKey_2 : decode cX1_addRoundKey 2 = .ok (.iload_n 3, 1) := by decide +kernel
theorem dX1_addRoundKey_3 : decode cX1_addRoundKey 3 = .ok (.bipush 16, 2) := by decide +kernel
theorem dX1_addRoundKey_5 : decode cX1_addRoundKey 5 = .ok (.if_icmp .ge 26, 3) := by decide +kernel
theorem dX1_addRoundKey_8 : decode cX1_addRoundKey 8 = .ok (.aload_n 1, 1) := by decide +kernel
theorem dX1_addRoundKey_9 : decode cX1_addRoundKey 9 = .ok (.iload_n 3, 1) := by decide +kernel
theorem dX1_addRoundKey_10 : decode cX1_addRoundKey 10 = .ok (.dup2, 1) := by decide +kernel
theorem dX1_addRoundKey_11 : decode cX1_addRoundKey 11 = .ok (.iaload, 1) := by decide +kernel
theorem dX1_addRoundKey_12 : decode cX1_addRoundKey 12 = .ok (.aload_n 0, 1) := by decide +kernel
theorem dX1_addRoundKey_13 : decode cX1_addRoundKey 13 = .ok (.getfield 13, 3) := by decide +kernel
theorem dX1_addRoundKey_16 : decode cX1_addRoundKey 16 = .ok (.bipush 16, 2) := by decide +kernel
theorem dX1_addRoundKey_18 : decode cX1_addRoundKey 18 = .ok (.iload_n 2, 1) := by decide +kernel
theorem dX1_addRoundKey_19 : decode cX1_addRoundKey 19 = .ok (.imul, 1) := by decide +kernel
theorem dX1_addRoundKey_20 : decode cX1_addRoundKey 20 = .ok (.iload_n 3, 1) := by decide +kernel
theorem dX1_addRoundKey_21 : decode cX1_addRoundKey 21 = .ok (.iadd, 1) := by decide +kernel
theorem dX1_addRoundKey_22 : decode cX1_addRoundKey 22 = .ok (.iaload, 1) := by decide +kernel
theorem dX1_addRoundKey_23 : decode cX1_addRoundKey 23 = .ok (.ixor, 1) := by decide +kernel
theorem dX1_addRoundKey_24 : decode cX1_addRoundKey 24 = .ok (.iastore, 1) := by decide +kernel
theorem dX1_addRoundKey_25 : decode cX1_addRoundKey 25 = .ok (.iinc 3 1, 3) := by decide +kernel
theorem dX1_addRoundKey_28 : decode cX1_addRoundKey 28 = .ok (.goto (-26), 3) := by decide +kernel
theorem dX1_addRoundKey_31 : decode cX1_addRoundKey 31 = .ok (.return_, 1) := by decide +kernel
abbrev rmX1_addRoundKey : Room := { frames := 0, cells := 0, slots := 0, locals := 0 }
set_option maxHeartbeats 4000000 in
set_option maxRecDepth 100000 in
theorem wB_X1_addRoundKey_2 {G : mG} {F : Nat} {x : mXT} {sz : Nat} {M0 : mM} (X : mCX G RX1 cX1_addRoundKey 4 none "addRoundKey" rmX1_addRoundKey x) (hQ : mQV x M0 (sz, 0, 0)) : ∀ (n : Nat) (l0 : Nat) (l1 : Nat) (l2 : Int32) (l3 : Int32) (M : mM), B_X1_addRoundKey_2 G F n l0 l1 l2 l3 M = some M0 → WW x (sz, 0, 0) M 2 [(0, .ref l0), (1, .ref l1), (2, .int l2), (3, .int l3)] [] := by
  intro n
  induction n with
  | zero =>
    intro l0 l1 l2 l3 M h
    exact nomatch (show (none : Option mM) = some M0 from h)
  | succ n ih =>
    intro l0 l1 l2 l3 M h
    rw [B_X1_addRoundKey_2] at h
    refine ww_iload_n 2 X dX1_addRoundKey_2 3 rfl rfl ?_
    refine ww_bipush 3 X (v := (16 : Int32)) dX1_addRoundKey_3 (by decide) ?_
    refine ww_icmp_ge 5 31 X dX1_addRoundKey_5 (by decide) (fun q => ?_) (fun q => ?_)
    · replace h := (if_pos q).symm.trans h
      exact ww_vretE 31 X hQ dX1_addRoundKey_31 h
    · replace h := (if_neg q).symm.trans h
      refine ww_aload_n 8 X dX1_addRoundKey_8 1 rfl rfl ?_
      refine ww_iload_n 9 X dX1_addRoundKey_9 3 rfl rfl ?_
      refine ww_dup2_11 10 X dX1_addRoundKey_10 rfl rfl ?_
      obtain ⟨v11, e11, h⟩ := bO_some h
      refine ww_iald 11 X dX1_addRoundKey_11 e11 ?_
      refine ww_aload_n 12 X dX1_addRoundKey_12 0 rfl rfl ?_
      obtain ⟨v13, e13, h⟩ := bO_some h
      refine ww_getR 13 X dX1_addRoundKey_13 fG_X1_13 e13 ?_
      refine ww_bipush 16 X (v := (16 : Int32)) dX1_addRoundKey_16 (by decide) ?_
      refine ww_iload_n 18 X dX1_addRoundKey_18 2 rfl rfl ?_
      refine ww_imul 19 X dX1_addRoundKey_19 ?_
      refine ww_iload_n 20 X dX1_addRoundKey_20 3 rfl rfl ?_
      refine ww_iadd 21 X dX1_addRoundKey_21 ?_
      obtain ⟨v22, e22, h⟩ := bO_some h
      refine ww_iald 22 X dX1_addRoundKey_22 e22 ?_
      refine ww_ixor 23 X dX1_addRoundKey_23 ?_
      obtain ⟨M24, e24, h⟩ := bO_some h
      refine ww_iast 24 X dX1_addRoundKey_24 e24 ?_
      refine ww_iinc 25 X dX1_addRoundKey_25 (lv' := [(0, .ref l0), (1, .ref l1), (2, .int l2), (3, .int (l3 + 1))]) 3 rfl rfl (by decide) [1, 2, 3, 0] rfl ?_
      refine ww_goto 28 2 X dX1_addRoundKey_28 (by decide) ?_
      exact (ih _ _ _ _ _ h)
set_option maxHeartbeats 4000000 in
set_option maxRecDepth 100000 in
theorem wP_X1_addRoundKey {G : mG} {F : Nat} {x : mXT} {sz : Nat} {M0 : mM} (X : mCX G RX1 cX1_addRoundKey 4 none "addRoundKey" rmX1_addRoundKey x) (hQ : mQV x M0 (sz, 0, 0)) {l0 : Nat} {l1 : Nat} {l2 : Int32} {M : mM} (h : P_X1_addRoundKey G F l0 l1 l2 M = some M0) : WW x (sz, 0, 0) M 0 [(0, .ref l0), (1, .ref l1), (2, .int l2)] [] := by
  unfold P_X1_addRoundKey at h
  refine ww_iconst 0 X (v := (0 : Int32)) dX1_addRoundKey_0 (by decide) ?_
  refine ww_istore_n 1 X dX1_addRoundKey_1 (lv' := [(0, .ref l0), (1, .ref l1), (2, .int l2), (3, .int (0 : Int32))]) rfl (by decide) [1, 2, 3, 0] rfl ?_
  exact (wB_X1_addRoundKey_2 X hQ F _ _ _ _ _ h)
theorem c_X1_addRoundKey {G : mG} {F sz : Nat} {M0 : mM} (l : Launch) (D : mD) (A : Nat → Prop) {l0 : Nat} {l1 : Nat} {l2 : Int32} {M : mM} (h : P_X1_addRoundKey G F l0 l1 l2 M = some M0) : mMetV l D G A yX1_addRoundKey cX1_addRoundKey 4 none 0 0 0 0 [.ref l0, .ref l1, .int l2] M sz M0 sz := mMetV_of l D G A (by decide) (Nat.le_of_ble_eq_true rfl) (fun x X hQ => wP_X1_addRoundKey X hQ h)
/-! SealedTokens$Cipher.mixColumns([I)V -/
theorem dX1_mixColumns_0 : decode cX1_mixColumns 0 = .ok (.iconst 0, 1) := by decide +kernel
theorem dX1_mixColumns_1 : decode cX1_mixColumns 1 = .ok (.istore_n 1, 1) := by decide +kernel
theorem dX1_mixColumns_2 : decode cX1_mixColumns 2 = .ok (.iload_n 1, 1) := by decide +kernel
theorem dX1_mixColumns_3 : decode cX1_mixColumns 3 = .ok (.bipush 16, 2) := by decide +kernel
theorem dX1_mixColumns_5 : decode cX1_mixColumns 5 = .ok (.if_icmp .ge 123, 3) := by decide +kernel
theorem dX1_mixColumns_8 : decode cX1_mixColumns 8 = .ok (.aload_n 0, 1) := by decide +kernel
theorem dX1_mixColumns_9 : decode cX1_mixColumns 9 = .ok (.iload_n 1, 1) := by decide +kernel
theorem dX1_mixColumns_10 : decode cX1_mixColumns 10 = .ok (.iaload, 1) := by decide +kernel
theorem dX1_mixColumns_11 : decode cX1_mixColumns 11 = .ok (.istore_n 2, 1) := by decide +kernel
theorem dX1_mixColumns_12 : decode cX1_mixColumns 12 = .ok (.aload_n 0, 1) := by decide +kernel
theorem dX1_mixColumns_13 : decode cX1_mixColumns 13 = .ok (.iload_n 1, 1) := by decide +kernel
theorem dX1_mixColumns_14 : decode cX1_mixColumns 14 = .ok (.iaload, 1) := by decide +kernel
theorem dX1_mixColumns_15 : decode cX1_mixColumns 15 = .ok (.aload_n 0, 1) := by decide +kernel
theorem dX1_mixColumns_16 : decode cX1_mixColumns 16 = .ok (.iload_n 1, 1) := by decide +kernel
theorem dX1_mixColumns_17 : decode cX1_mixColumns 17 = .ok (.iconst 1, 1) := by decide +kernel
theorem dX1_mixColumns_18 : decode cX1_mixColumns 18 = .ok (.iadd, 1) := by decide +kernel
theorem dX1_mixColumns_19 : decode cX1_mixColumns 19 = .ok (.iaload, 1) := by decide +kernel
theorem dX1_mixColumns_20 : decode cX1_mixColumns 20 = .ok (.ixor, 1) := by decide +kernel
theorem dX1_mixColumns_21 : decode cX1_mixColumns 21 = .ok (.aload_n 0, 1) := by decide +kernel
theorem dX1_mixColumns_22 : decode cX1_mixColumns 22 = .ok (.iload_n 1, 1) := by decide +kernel
theorem dX1_mixColumns_23 : decode cX1_mixColumns 23 = .ok (.iconst 2, 1) := by decide +kernel
theorem dX1_mixColumns_24 : decode cX1_mixColumns 24 = .ok (.iadd, 1) := by decide +kernel
theorem dX1_mixColumns_25 : decode cX1_mixColumns 25 = .ok (.iaload, 1) := by decide +kernel
theorem dX1_mixColumns_26 : decode cX1_mixColumns 26 = .ok (.ixor, 1) := by decide +kernel
theorem dX1_mixColumns_27 : decode cX1_mixColumns 27 = .ok (.aload_n 0, 1) := by decide +kernel
theorem dX1_mixColumns_28 : decode cX1_mixColumns 28 = .ok (.iload_n 1, 1) := by decide +kernel
theorem dX1_mixColumns_29 : decode cX1_mixColumns 29 = .ok (.iconst 3, 1) := by decide +kernel
theorem dX1_mixColumns_30 : decode cX1_mixColumns 30 = .ok (.iadd, 1) := by decide +kernel
theorem dX1_mixColumns_31 : decode cX1_mixColumns 31 = .ok (.iaload, 1) := by decide +kernel
theorem dX1_mixColumns_32 : decode cX1_mixColumns 32 = .ok (.ixor, 1) := by decide +kernel
theorem dX1_mixColumns_33 : decode cX1_mixColumns 33 = .ok (.istore_n 3, 1) := by decide +kernel
theorem dX1_mixColumns_34 : decode cX1_mixColumns 34 = .ok (.aload_n 0, 1) := by decide +kernel
theorem dX1_mixColumns_35 : decode cX1_mixColumns 35 = .ok (.iload_n 1, 1) := by decide +kernel
theorem dX1_mixColumns_36 : decode cX1_mixColumns 36 = .ok (.dup2, 1) := by decide +kernel
theorem dX1_mixColumns_37 : decode cX1_mixColumns 37 = .ok (.iaload, 1) := by decide +kernel
theorem dX1_mixColumns_38 : decode cX1_mixColumns 38 = .ok (.iload_n 3, 1) := by decide +kernel
theorem dX1_mixColumns_39 : decode cX1_mixColumns 39 = .ok (.aload_n 0, 1) := by decide +kernel
theorem dX1_mixColumns_40 : decode cX1_mixColumns 40 = .ok (.iload_n 1, 1) := by decide +kernel
theorem dX1_mixColumns_41 : decode cX1_mixColumns 41 = .ok (.iaload, 1) := by decide +kernel
theorem dX1_mixColumns_42 : decode cX1_mixColumns 42 = .ok (.aload_n 0, 1) := by decide +kernel
theorem dX1_mixColumns_43 : decode cX1_mixColumns 43 = .ok (.iload_n 1, 1) := by decide +kernel
theorem dX1_mixColumns_44 : decode cX1_mixColumns 44 = .ok (.iconst 1, 1) := by decide +kernel
theorem dX1_mixColumns_45 : decode cX1_mixColumns 45 = .ok (.iadd, 1) := by decide +kernel
theorem dX1_mixColumns_46 : decode cX1_mixColumns 46 = .ok (.iaload, 1) := by decide +kernel
theorem dX1_mixColumns_47 : decode cX1_mixColumns 47 = .ok (.ixor, 1) := by decide +kernel
theorem dX1_mixColumns_48 : decode cX1_mixColumns 48 = .ok (.invokestatic 38, 3) := by decide +kernel
theorem dX1_mixColumns_51 : decode cX1_mixColumns 51 = .ok (.ixor, 1) := by decide +kernel
theorem dX1_mixColumns_52 : decode cX1_mixColumns 52 = .ok (.ixor, 1) := by decide +kernel
theorem dX1_mixColumns_53 : decode cX1_mixColumns 53 = .ok (.iastore, 1) := by decide +kernel
theorem dX1_mixColumns_54 : decode cX1_mixColumns 54 = .ok (.aload_n 0, 1) := by decide +kernel
theorem dX1_mixColumns_55 : decode cX1_mixColumns 55 = .ok (.iload_n 1, 1) := by decide +kernel
theorem dX1_mixColumns_56 : decode cX1_mixColumns 56 = .ok (.iconst 1, 1) := by decide +kernel
theorem dX1_mixColumns_57 : decode cX1_mixColumns 57 = .ok (.iadd, 1) := by decide +kernel
theorem dX1_mixColumns_58 : decode cX1_mixColumns 58 = .ok (.dup2, 1) := by decide +kernel
theorem dX1_mixColumns_59 : decode cX1_mixColumns 59 = .ok (.iaload, 1) := by decide +kernel
theorem dX1_mixColumns_60 : decode cX1_mixColumns 60 = .ok (.iload_n 3, 1) := by decide +kernel
theorem dX1_mixColumns_61 : decode cX1_mixColumns 61 = .ok (.aload_n 0, 1) := by decide +kernel
theorem dX1_mixColumns_62 : decode cX1_mixColumns 62 = .ok (.iload_n 1, 1) := by decide +kernel
theorem dX1_mixColumns_63 : decode cX1_mixColumns 63 = .ok (.iconst 1, 1) := by decide +kernel
theorem dX1_mixColumns_64 : decode cX1_mixColumns 64 = .ok (.iadd, 1) := by decide +kernel
theorem dX1_mixColumns_65 : decode cX1_mixColumns 65 = .ok (.iaload, 1) := by decide +kernel
theorem dX1_mixColumns_66 : decode cX1_mixColumns 66 = .ok (.aload_n 0, 1) := by decide +kernel
theorem dX1_mixColumns_67 : decode cX1_mixColumns 67 = .ok (.iload_n 1, 1) := by decide +kernel
theorem dX1_mixColumns_68 : decode cX1_mixColumns 68 = .ok (.iconst 2, 1) := by decide +kernel
theorem dX1_mixColumns_69 : decode cX1_mixColumns 69 = .ok (.iadd, 1) := by decide +kernel
theorem dX1_mixColumns_70 : decode cX1_mixColumns 70 = .ok (.iaload, 1) := by decide +kernel
theorem dX1_mixColumns_71 : decode cX1_mixColumns 71 = .ok (.ixor, 1) := by decide +kernel
theorem dX1_mixColumns_72 : decode cX1_mixColumns 72 = .ok (.invokestatic 38, 3) := by decide +kernel
theorem dX1_mixColumns_75 : decode cX1_mixColumns 75 = .ok (.ixor, 1) := by decide +kernel
theorem dX1_mixColumns_76 : decode cX1_mixColumns 76 = .ok (.ixor, 1) := by decide +kernel
theorem dX1_mixColumns_77 : decode cX1_mixColumns 77 = .ok (.iastore, 1) := by decide +kernel
theorem dX1_mixColumns_78 : decode cX1_mixColumns 78 = .ok (.aload_n 0, 1) := by decide +kernel
theorem dX1_mixColumns_79 : decode cX1_mixColumns 79 = .ok (.iload_n 1, 1) := by decide +kernel
theorem dX1_mixColumns_80 : decode cX1_mixColumns 80 = .ok (.iconst 2, 1) := by decide +kernel
theorem dX1_mixColumns_81 : decode cX1_mixColumns 81 = .ok (.iadd, 1) := by decide +kernel
theorem dX1_mixColumns_82 : decode cX1_mixColumns 82 = .ok (.dup2, 1) := by decide +kernel
theorem dX1_mixColumns_83 : decode cX1_mixColumns 83 = .ok (.iaload, 1) := by decide +kernel
theorem dX1_mixColumns_84 : decode cX1_mixColumns 84 = .ok (.iload_n 3, 1) := by decide +kernel
theorem dX1_mixColumns_85 : decode cX1_mixColumns 85 = .ok (.aload_n 0, 1) := by decide +kernel
theorem dX1_mixColumns_86 : decode cX1_mixColumns 86 = .ok (.iload_n 1, 1) := by decide +kernel
theorem dX1_mixColumns_87 : decode cX1_mixColumns 87 = .ok (.iconst 2, 1) := by decide +kernel
theorem dX1_mixColumns_88 : decode cX1_mixColumns 88 = .ok (.iadd, 1) := by decide +kernel
theorem dX1_mixColumns_89 : decode cX1_mixColumns 89 = .ok (.iaload, 1) := by decide +kernel
theorem dX1_mixColumns_90 : decode cX1_mixColumns 90 = .ok (.aload_n 0, 1) := by decide +kernel
theorem dX1_mixColumns_91 : decode cX1_mixColumns 91 = .ok (.iload_n 1, 1) := by decide +kernel
theorem dX1_mixColumns_92 : decode cX1_mixColumns 92 = .ok (.iconst 3, 1) := by decide +kernel
theorem dX1_mixColumns_93 : decode cX1_mixColumns 93 = .ok (.iadd, 1) := by decide +kernel
theorem dX1_mixColumns_94 : decode cX1_mixColumns 94 = .ok (.iaload, 1) := by decide +kernel
theorem dX1_mixColumns_95 : decode cX1_mixColumns 95 = .ok (.ixor, 1) := by decide +kernel
theorem dX1_mixColumns_96 : decode cX1_mixColumns 96 = .ok (.invokestatic 38, 3) := by decide +kernel
theorem dX1_mixColumns_99 : decode cX1_mixColumns 99 = .ok (.ixor, 1) := by decide +kernel
theorem dX1_mixColumns_100 : decode cX1_mixColumns 100 = .ok (.ixor, 1) := by decide +kernel
theorem dX1_mixColumns_101 : decode cX1_mixColumns 101 = .ok (.iastore, 1) := by decide +kernel
theorem dX1_mixColumns_102 : decode cX1_mixColumns 102 = .ok (.aload_n 0, 1) := by decide +kernel
theorem dX1_mixColumns_103 : decode cX1_mixColumns 103 = .ok (.iload_n 1, 1) := by decide +kernel
theorem dX1_mixColumns_104 : decode cX1_mixColumns 104 = .ok (.iconst 3, 1) := by decide +kernel
theorem dX1_mixColumns_105 : decode cX1_mixColumns 105 = .ok (.iadd, 1) := by decide +kernel
theorem dX1_mixColumns_106 : decode cX1_mixColumns 106 = .ok (.dup2, 1) := by decide +kernel
theorem dX1_mixColumns_107 : decode cX1_mixColumns 107 = .ok (.iaload, 1) := by decide +kernel
theorem dX1_mixColumns_108 : decode cX1_mixColumns 108 = .ok (.iload_n 3, 1) := by decide +kernel
theorem dX1_mixColumns_109 : decode cX1_mixColumns 109 = .ok (.aload_n 0, 1) := by decide +kernel
theorem dX1_mixColumns_110 : decode cX1_mixColumns 110 = .ok (.iload_n 1, 1) := by decide +kernel
theorem dX1_mixColumns_111 : decode cX1_mixColumns 111 = .ok (.iconst 3, 1) := by decide +kernel
theorem dX1_mixColumns_112 : decode cX1_mixColumns 112 = .ok (.iadd, 1) := by decide +kernel
theorem dX1_mixColumns_113 : decode cX1_mixColumns 113 = .ok (.iaload, 1) := by decide +kernel
theorem dX1_mixColumns_114 : decode cX1_mixColumns 114 = .ok (.iload_n 2, 1) := by decide +kernel
theorem dX1_mixColumns_115 : decode cX1_mixColumns 115 = .ok (.ixor, 1) := by decide +kernel
theorem dX1_mixColumns_116 : decode cX1_mixColumns 116 = .ok (.invokestatic 38, 3) := by decide +kernel
theorem dX1_mixColumns_119 : decode cX1_mixColumns 119 = .ok (.ixor, 1) := by decide +kernel
theorem dX1_mixColumns_120 : decode cX1_mixColumns 120 = .ok (.ixor, 1) := by decide +kernel
theorem dX1_mixColumns_121 : decode cX1_mixColumns 121 = .ok (.iastore, 1) := by decide +kernel
theorem dX1_mixColumns_122 : decode cX1_mixColumns 122 = .ok (.iinc 1 4, 3) := by decide +kernel
theorem dX1_mixColumns_125 : decode cX1_mixColumns 125 = .ok (.goto (-123), 3) := by decide +kernel
theorem dX1_mixColumns_128 : decode cX1_mixColumns 128 = .ok (.return_, 1) := by decide +kernel
abbrev rmX1_mixColumns : Room := { frames := 1, cells := 0, slots := 0, locals := 20 }
set_option maxHeartbeats 4000000 in
set_option maxRecDepth 100000 in
theorem wB_X1_mixColumns_2 {G : mG} {F : Nat} {x : mXT} {sz : Nat} {M0 : mM} (X : mCX G RX1 cX1_mixColumns 4 none "mixColumns" rmX1_mixColumns x) (hQ : mQV x M0 (sz, 0, 0)) : ∀ (n : Nat) (l0 : Nat) (l1 : Int32) (M : mM), B_X1_mixColumns_2 G F n l0 l1 M = some M0 → WW x (sz, 0, 0) M 2 [(0, .ref l0), (1, .int l1)] [] := by
  intro n
  induction n with
  | zero =>
    intro l0 l1 M h
    exact nomatch (show (none : Option mM) = some M0 from h)
  | succ n ih =>
    intro l0 l1 M h
    rw [B_X1_mixColumns_2] at h
    refine ww_iload_n 2 X dX1_mixColumns_2 1 rfl rfl ?_
    refine ww_bipush 3 X (v := (16 : Int32)) dX1_mixColumns_3 (by decide) ?_
    refine ww_icmp_ge 5 128 X dX1_mixColumns_5 (by decide) (fun q => ?_) (fun q => ?_)
    · replace h := (if_pos q).symm.trans h
      exact ww_vretE 128 X hQ dX1_mixColumns_128 h
    · replace h := (if_neg q).symm.trans h
      refine ww_aload_n 8 X dX1_mixColumns_8 0 rfl rfl ?_
      refine ww_iload_n 9 X dX1_mixColumns_9 1 rfl rfl ?_
      obtain ⟨v10, e10, h⟩ := bO_some h
      refine ww_iald 10 X dX1_mixColumns_10 e10 ?_
      refine ww_istore_n 11 X dX1_mixColumns_11 (lv' := [(0, .ref l0), (1, .int l1), (2, .int v10)]) rfl (by decide) [1, 2, 0] rfl ?_
      refine ww_aload_n 12 X dX1_mixColumns_12 0 rfl rfl ?_
      refine ww_iload_n 13 X dX1_mixColumns_13 1 rfl rfl ?_
      obtain ⟨v14, e14, h⟩ := bO_some h
      refine ww_iald 14 X dX1_mixColumns_14 e14 ?_
      refine ww_aload_n 15 X dX1_mixColumns_15 0 rfl rfl ?_
      refine ww_iload_n 16 X dX1_mixColumns_16 1 rfl rfl ?_
      refine ww_iconst 17 X (v := (1 : Int32)) dX1_mixColumns_17 (by decide) ?_
      refine ww_iadd 18 X dX1_mixColumns_18 ?_
      obtain ⟨v19, e19, h⟩ := bO_some h
      refine ww_iald 19 X dX1_mixColumns_19 e19 ?_
      refine ww_ixor 20 X dX1_mixColumns_20 ?_
      refine ww_aload_n 21 X dX1_mixColumns_21 0 rfl rfl ?_
      refine ww_iload_n 22 X dX1_mixColumns_22 1 rfl rfl ?_
      refine ww_iconst 23 X (v := (2 : Int32)) dX1_mixColumns_23 (by decide) ?_
      refine ww_iadd 24 X dX1_mixColumns_24 ?_
      obtain ⟨v25, e25, h⟩ := bO_some h
      refine ww_iald 25 X dX1_mixColumns_25 e25 ?_
      refine ww_ixor 26 X dX1_mixColumns_26 ?_
      refine ww_aload_n 27 X dX1_mixColumns_27 0 rfl rfl ?_
      refine ww_iload_n 28 X dX1_mixColumns_28 1 rfl rfl ?_
      refine ww_iconst 29 X (v := (3 : Int32)) dX1_mixColumns_29 (by decide) ?_
      refine ww_iadd 30 X dX1_mixColumns_30 ?_
      obtain ⟨v31, e31, h⟩ := bO_some h
      refine ww_iald 31 X dX1_mixColumns_31 e31 ?_
      refine ww_ixor 32 X dX1_mixColumns_32 ?_
      refine ww_istore_n 33 X dX1_mixColumns_33 (lv' := [(0, .ref l0), (1, .int l1), (2, .int v10), (3, .int (((v14 ^^^ v19) ^^^ v25) ^^^ v31))]) rfl (by decide) [1, 2, 3, 0] rfl ?_
      refine ww_aload_n 34 X dX1_mixColumns_34 0 rfl rfl ?_
      refine ww_iload_n 35 X dX1_mixColumns_35 1 rfl rfl ?_
      refine ww_dup2_11 36 X dX1_mixColumns_36 rfl rfl ?_
      obtain ⟨v37, e37, h⟩ := bO_some h
      refine ww_iald 37 X dX1_mixColumns_37 e37 ?_
      refine ww_iload_n 38 X dX1_mixColumns_38 3 rfl rfl ?_
      refine ww_aload_n 39 X dX1_mixColumns_39 0 rfl rfl ?_
      refine ww_iload_n 40 X dX1_mixColumns_40 1 rfl rfl ?_
      obtain ⟨v41, e41, h⟩ := bO_some h
      refine ww_iald 41 X dX1_mixColumns_41 e41 ?_
      refine ww_aload_n 42 X dX1_mixColumns_42 0 rfl rfl ?_
      refine ww_iload_n 43 X dX1_mixColumns_43 1 rfl rfl ?_
      refine ww_iconst 44 X (v := (1 : Int32)) dX1_mixColumns_44 (by decide) ?_
      refine ww_iadd 45 X dX1_mixColumns_45 ?_
      obtain ⟨v46, e46, h⟩ := bO_some h
      refine ww_iald 46 X dX1_mixColumns_46 e46 ?_
      refine ww_ixor 47 X dX1_mixColumns_47 ?_
      obtain ⟨v48, M48, e48, h⟩ := bP_some h
      refine ww_callSI0 48 X dX1_mixColumns_48 mY_X1_twice mL_X1_38 (As := [.int (v41 ^^^ v46)]) (rest := [.int (((v14 ^^^ v19) ^^^ v25) ^^^ v31), .int v37, .int l1, .ref l0]) rfl rfl ⟨Nat.le_of_ble_eq_true rfl, Nat.le_of_ble_eq_true rfl⟩ (Nat.le_of_ble_eq_true rfl) (fun l D A => c_X1_twice l D A e48) ?_
      refine ww_ixor 51 X dX1_mixColumns_51 ?_
      refine ww_ixor 52 X dX1_mixColumns_52 ?_
      obtain ⟨M53, e53, h⟩ := bO_some h
      refine ww_iast 53 X dX1_mixColumns_53 e53 ?_
      refine ww_aload_n 54 X dX1_mixColumns_54 0 rfl rfl ?_
      refine ww_iload_n 55 X dX1_mixColumns_55 1 rfl rfl ?_
      refine ww_iconst 56 X (v := (1 : Int32)) dX1_mixColumns_56 (by decide) ?_
      refine ww_iadd 57 X dX1_mixColumns_57 ?_
      refine ww_dup2_11 58 X dX1_mixColumns_58 rfl rfl ?_
      obtain ⟨v59, e59, h⟩ := bO_some h
      refine ww_iald 59 X dX1_mixColumns_59 e59 ?_
      refine ww_iload_n 60 X dX1_mixColumns_60 3 rfl rfl ?_
      refine ww_aload_n 61 X dX1_mixColumns_61 0 rfl rfl ?_
      refine ww_iload_n 62 X dX1_mixColumns_62 1 rfl rfl ?_
      refine ww_iconst 63 X (v := (1 : Int32)) dX1_mixColumns_63 (by decide) ?_
      refine ww_iadd 64 X dX1_mixColumns_64 ?_
      obtain ⟨v65, e65, h⟩ := bO_some h
      refine ww_iald 65 X dX1_mixColumns_65 e65 ?_
      refine ww_aload_n 66 X dX1_mixColumns_66 0 rfl rfl ?_
      refine ww_iload_n 67 X dX1_mixColumns_67 1 rfl rfl ?_
      refine ww_iconst 68 X (v := (2 : Int32)) dX1_mixColumns_68 (by decide) ?_
      refine ww_iadd 69 X dX1_mixColumns_69 ?_
      obtain ⟨v70, e70, h⟩ := bO_some h
      refine ww_iald 70 X dX1_mixColumns_70 e70 ?_
      refine ww_ixor 71 X dX1_mixColumns_71 ?_
      obtain ⟨v72, M72, e72, h⟩ := bP_some h
      refine ww_callSI0 72 X dX1_mixColumns_72 mY_X1_twice mL_X1_38 (As := [.int (v65 ^^^ v70)]) (rest := [.int (((v14 ^^^ v19) ^^^ v25) ^^^ v31), .int v59, .int (l1 + (1 : Int32)), .ref l0]) rfl rfl ⟨Nat.le_of_ble_eq_true rfl, Nat.le_of_ble_eq_true rfl⟩ (Nat.le_of_ble_eq_true rfl) (fun l D A => c_X1_twice l D A e72) ?_
      refine ww_ixor 75 X dX1_mixColumns_75 ?_
      refine ww_ixor 76 X dX1_mixColumns_76 ?_
      obtain ⟨M77, e77, h⟩ := bO_some h
      refine ww_iast 77 X dX1_mixColumns_77 e77 ?_
      refine ww_aload_n 78 X dX1_mixColumns_78 0 rfl rfl ?_
      refine ww_iload_n 79 X dX1_mixColumns_79 1 rfl rfl ?_
      refine ww_iconst 80 X (v := (2 : Int32)) dX1_mixColumns_80 (by decide) ?_
      refine ww_iadd 81 X dX1_mixColumns_81 ?_
      refine ww_dup2_11 82 X dX1_mixColumns_82 rfl rfl ?_
      obtain ⟨v83, e83, h⟩ := bO_some h
      refine ww_iald 83 X dX1_mixColumns_83 e83 ?_
      refine ww_iload_n 84 X dX1_mixColumns_84 3 rfl rfl ?_
      refine ww_aload_n 85 X dX1_mixColumns_85 0 rfl rfl ?_
      refine ww_iload_n 86 X dX1_mixColumns_86 1 rfl rfl ?_
      refine ww_iconst 87 X (v := (2 : Int32)) dX1_mixColumns_87 (by decide) ?_
      refine ww_iadd 88 X dX1_mixColumns_88 ?_
      obtain ⟨v89, e89, h⟩ := bO_some h
      refine ww_iald 89 X dX1_mixColumns_89 e89 ?_
      refine ww_aload_n 90 X dX1_mixColumns_90 0 rfl rfl ?_
      refine ww_iload_n 91 X dX1_mixColumns_91 1 rfl rfl ?_
      refine ww_iconst 92 X (v := (3 : Int32)) dX1_mixColumns_92 (by decide) ?_
      refine ww_iadd 93 X dX1_mixColumns_93 ?_
      obtain ⟨v94, e94, h⟩ := bO_some h
      refine ww_iald 94 X dX1_mixColumns_94 e94 ?_
      refine ww_ixor 95 X dX1_mixColumns_95 ?_
      obtain ⟨v96, M96, e96, h⟩ := bP_some h
      refine ww_callSI0 96 X dX1_mixColumns_96 mY_X1_twice mL_X1_38 (As := [.int (v89 ^^^ v94)]) (rest := [.int (((v14 ^^^ v19) ^^^ v25) ^^^ v31), .int v83, .int (l1 + (2 : Int32)), .ref l0]) rfl rfl ⟨Nat.le_of_ble_eq_true rfl, Nat.le_of_ble_eq_true rfl⟩ (Nat.le_of_ble_eq_true rfl) (fun l D A => c_X1_twice l D A e96) ?_
      refine ww_ixor 99 X dX1_mixColumns_99 ?_
      refine ww_ixor 100 X dX1_mixColumns_100 ?_
      obtain ⟨M101, e101, h⟩ := bO_some h
      refine ww_iast 101 X dX1_mixColumns_101 e101 ?_
      refine ww_aload_n 102 X dX1_mixColumns_102 0 rfl rfl ?_
      refine ww_iload_n 103 X dX1_mixColumns_103 1 rfl rfl ?_
      refine ww_iconst 104 X (v := (3 : Int32)) dX1_mixColumns_104 (by decide) ?_
      refine ww_iadd 105 X dX1_mixColumns_105 ?_
      refine ww_dup2_11 106 X dX1_mixColumns_106 rfl rfl ?_
      obtain ⟨v107, e107, h⟩ := bO_some h
      refine ww_iald 107 X dX1_mixColumns_107 e107 ?_
      refine ww_iload_n 108 X dX1_mixColumns_108 3 rfl rfl ?_
      refine ww_aload_n 109 X dX1_mixColumns_109 0 rfl rfl ?_
      refine ww_iload_n 110 X dX1_mixColumns_110 1 rfl rfl ?_
      refine ww_iconst 111 X (v := (3 : Int32)) dX1_mixColumns_111 (by decide) ?_
      refine ww_iadd 112 X dX1_mixColumns_112 ?_
      obtain ⟨v113, e113, h⟩ := bO_some h
      refine ww_iald 113 X dX1_mixColumns_113 e113 ?_
      refine ww_iload_n 114 X dX1_mixColumns_114 2 rfl rfl ?_
      refine ww_ixor 115 X dX1_mixColumns_115 ?_
      obtain ⟨v116, M116, e116, h⟩ := bP_some h
      refine ww_callSI0 116 X dX1_mixColumns_116 mY_X1_twice mL_X1_38 (As := [.int (v113 ^^^ v10)]) (rest := [.int (((v14 ^^^ v19) ^^^ v25) ^^^ v31), .int v107, .int (l1 + (3 : Int32)), .ref l0]) rfl rfl ⟨Nat.le_of_ble_eq_true rfl, Nat.le_of_ble_eq_true rfl⟩ (Nat.le_of_ble_eq_true rfl) (fun l D A => c_X1_twice l D A e116) ?_
      refine ww_ixor 119 X dX1_mixColumns_119 ?_
      refine ww_ixor 120 X dX1_mixColumns_120 ?_
      obtain ⟨M121, e121, h⟩ := bO_some h
      refine ww_iast 121 X dX1_mixColumns_121 e121 ?_
      refine ww_iinc 122 X dX1_mixColumns_122 (lv' := [(0, .ref l0), (1, .int (l1 + 4)), (2, .int v10), (3, .int (((v14 ^^^ v19) ^^^ v25) ^^^ v31))]) 1 rfl rfl (by decide) [1, 0, 2, 3] rfl ?_
      refine ww_goto 125 2 X dX1_mixColumns_125 (by decide) ?_
      exact ww_sub [0, 1] rfl (ih _ _ _ h)
set_option maxHeartbeats 4000000 in
set_option maxRecDepth 100000 in
theorem wP_X1_mixColumns {G : mG} {F : Nat} {x : mXT} {sz : Nat} {M0 : mM} (X : mCX G RX1 cX1_mixColumns 4 none "mixColumns" rmX1_mixColumns x) (hQ : mQV x M0 (sz, 0, 0)) {l0 : Nat} {M : mM} (h : P_X1_mixColumns G F l0 M = some M0) : WW x (sz, 0, 0) M 0 [(0, .ref l0)] [] := by
  unfold P_X1_mixColumns at h
  refine ww_iconst 0 X (v := (0 : Int32)) dX1_mixColumns_0 (by decide) ?_
  refine ww_istore_n 1 X dX1_mixColumns_1 (lv' := [(0, .ref l0), (1, .int (0 : Int32))]) rfl (by decide) [1, 0] rfl ?_
  exact (wB_X1_mixColumns_2 X hQ F _ _ _ h)
theorem c_X1_mixColumns {G : mG} {F sz : Nat} {M0 : mM} (l : Launch) (D : mD) (A : Nat → Prop) {l0 : Nat} {M : mM} (h : P_X1_mixColumns G F l0 M = some M0) : mMetV l D G A yX1_mixColumns cX1_mixColumns 4 none 1 20 0 0 [.ref l0] M sz M0 sz := mMetV_of l D G A (by decide) (Nat.le_of_ble_eq_true rfl) (fun x X hQ => wP_X1_mixColumns X hQ h)
/-! SealedTokens$Cipher.forward([I)V -/
theorem dX1_forward_0 : decode cX1_forward 0 = .ok (.aload_n 0, 1) := by decide +kernel
theorem dX1_forward_1 : decode cX1_forward 1 = .ok (.aload_n 1, 1) := by decide +kernel
theorem dX1_forward_2 : decode cX1_forward 2 = .ok (.iconst 0, 1) := by decide +kernel
theorem dX1_forward_3 : decode cX1_forward 3 = .ok (.invokevirtual 41, 3) := by decide +kernel
theorem dX1_forward_6 : decode cX1_forward 6 = .ok (.iconst 1, 1) := by decide +kernel
theorem dX1_forward_7 : decode cX1_forward 7 = .ok (.istore_n 2, 1) := by decide +kernel
theorem dX1_forward_8 : decode cX1_forward 8 = .ok (.iload_n 2, 1) := by decide +kernel
theorem dX1_forward_9 : decode cX1_forward 9 = .ok (.aload_n 0, 1) := by decide +kernel
theorem dX1_forward_10 : decode cX1_forward 10 = .ok (.getfield 28, 3) := by decide +kernel
theorem dX1_forward_13 : decode cX1_forward 13 = .ok (.if_icmp .gt 75, 3) := by decide +kernel
theorem dX1_forward_16 : decode cX1_forward 16 = .ok (.iconst 0, 1) := by decide +kernel
theorem dX1_forward_17 : decode cX1_forward 17 = .ok (.istore_n 3, 1) := by decide +kernel
theorem dX1_forward_18 : decode cX1_forward 18 = .ok (.iload_n 3, 1) := by decide +kernel
theorem dX1_forward_19 : decode cX1_forward 19 = .ok (.bipush 16, 2) := by decide +kernel
theorem dX1_forward_21 : decode cX1_forward 21 = .ok (.if_icmp .ge 31, 3) := by decide +kernel
theorem dX1_forward_24 : decode cX1_forward 24 = .ok (.aload_n 0, 1) := by decide +kernel
theorem dX1_forward_25 : decode cX1_forward 25 = .ok (.getfield 16, 3) := by decide +kernel
theorem dX1_forward_28 : decode cX1_forward 28 = .ok (.iload_n 3, 1) := by decide +kernel
theorem dX1_forward_29 : decode cX1_forward 29 = .ok (.getstatic 25, 3) := by decide +kernel
theorem dX1_forward_32 : decode cX1_forward 32 = .ok (.aload_n 1, 1) := by decide +kernel
theorem dX1_forward_33 : decode cX1_forward 33 = .ok (.iload_n 3, 1) := by decide +kernel
theorem dX1_forward_34 : decode cX1_forward 34 = .ok (.iconst 4, 1) := by decide +kernel
theorem dX1_forward_35 : decode cX1_forward 35 = .ok (.iload_n 3, 1) := by decide +kernel
theorem dX1_forward_36 : decode cX1_forward 36 = .ok (.iconst 3, 1) := by decide +kernel
theorem dX1_forward_37 : decode cX1_forward 37 = .ok (.iand, 1) := by decide +kernel
theorem dX1_forward_38 : decode cX1_forward 38 = .ok (.imul, 1) := by decide +kernel
theorem dX1_forward_39 : decode cX1_forward 39 = .ok (.iadd, 1) := by decide +kernel
theorem dX1_forward_40 : decode cX1_forward 40 = .ok (.bipush 15, 2) := by decide +kernel
theorem dX1_forward_42 : decode cX1_forward 42 = .ok (.iand, 1) := by decide +kernel
theorem dX1_forward_43 : decode cX1_forward 43 = .ok (.iaload, 1) := by decide +kernel
theorem dX1_forward_44 : decode cX1_forward 44 = .ok (.iaload, 1) := by decide +kernel
theorem dX1_forward_45 : decode cX1_forward 45 = .ok (.iastore, 1) := by decide +kernel
theorem dX1_forward_46 : decode cX1_forward 46 = .ok (.iinc 3 1, 3) := by decide +kernel
theorem dX1_forward_49 : decode cX1_forward 49 = .ok (.goto (-31), 3) := by decide +kernel
theorem dX1_forward_52 : decode cX1_forward 52 = .ok (.aload_n 0, 1) := by decide +kernel
theorem dX1_forward_53 : decode cX1_forward 53 = .ok (.getfield 16, 3) := by decide +kernel
theorem dX1_forward_56 : decode cX1_forward 56 = .ok (.iconst 0, 1) := by decide +kernel
theorem dX1_forward_57 : decode cX1_forward 57 = .ok (.aload_n 1, 1) := by decide +kernel
theorem dX1_forward_58 : decode cX1_forward 58 = .ok (.iconst 0, 1) := by decide +kernel
theorem dX1_forward_59 : decode cX1_forward 59 = .ok (.bipush 16, 2) := by decide +kernel
theorem dX1_forward_61 : decode cX1_forward 61 = .ok (.invokestatic 45, 3) := by decide +kernel
theorem dX1_forward_64 : decode cX1_forward 64 = .ok (.iload_n 2, 1) := by decide +kernel
theorem dX1_forward_65 : decode cX1_forward 65 = .ok (.aload_n 0, 1) := by decide +kernel
theorem dX1_forward_66 : decode cX1_forward 66 = .ok (.getfield 28, 3) := by decide +kernel
theorem dX1_forward_69 : decode cX1_forward 69 = .ok (.if_icmp .ge 7, 3) := by decide +kernel
theorem dX1_forward_72 : decode cX1_forward 72 = .ok (.aload_n 1, 1) := by decide +kernel
theorem dX1_forward_73 : decode cX1_forward 73 = .ok (.invokestatic 51, 3) := by decide +kernel
theorem dX1_forward_76 : decode cX1_forward 76 = .ok (.aload_n 0, 1) := by decide +kernel
theorem dX1_forward_77 : decode cX1_forward 77 = .ok (.aload_n 1, 1) := by decide +kernel
theorem dX1_forward_78 : decode cX1_forward 78 = .ok (.iload_n 2, 1) := by decide +kernel
theorem dX1_forward_79 : decode cX1_forward 79 = .ok (.invokevirtual 41, 3) := by decide +kernel
theorem dX1_forward_82 : decode cX1_forward 82 = .ok (.iinc 2 1, 3) := by decide +kernel
theorem dX1_forward_85 : decode cX1_forward 85 = .ok (.goto (-77), 3) := by decide +kernel
theorem dX1_forward_88 : decode cX1_forward 88 = .ok (.return_, 1) := by decide +kernel
abbrev rmX1_forward : Room := { frames := 2, cells := 0, slots := 0, locals := 60 }
set_option maxHeartbeats 4000000 in
set_option maxRecDepth 100000 in
theorem wB_X1_forward_18 {G : mG} {F : Nat} {x : mXT} {sz : Nat} {M0 : mM} (X : mCX G RX1 cX1_forward 4 none "forward" rmX1_forward x) (hQ : mQV x M0 (sz, 0, 0)) (r8 : Nat → Nat → Int32 → mM → Option mM) (hr8 : ∀ (l0 : Nat) (l1 : Nat) (l2 : Int32) (M : mM), r8 l0 l1 l2 M = some M0 → WW x (sz, 0, 0) M 8 [(0, .ref l0), (1, .ref l1), (2, .int l2)] []) : ∀ (n : Nat) (l0 : Nat) (l1 : Nat) (l2 : Int32) (l3 : Int32) (M : mM), B_X1_forward_18 G F r8 n l0 l1 l2 l3 M = some M0 → WW x (sz, 0, 0) M 18 [(0, .ref l0), (1, .ref l1), (2, .int l2), (3, .int l3)] [] := by
  intro n
  induction n with
  | zero =>
    intro l0 l1 l2 l3 M h
    exact nomatch (show (none : Option mM) = some M0 from h)
  | succ n ih =>
    intro l0 l1 l2 l3 M h
    rw [B_X1_forward_18] at h
    refine ww_iload_n 18 X dX1_forward_18 3 rfl rfl ?_
    refine ww_bipush 19 X (v := (16 : Int32)) dX1_forward_19 (by decide) ?_
    refine ww_icmp_ge 21 52 X dX1_forward_21 (by decide) (fun q => ?_) (fun q => ?_)
    · replace h := (if_pos q).symm.trans h
      refine ww_aload_n 52 X dX1_forward_52 0 rfl rfl ?_
      obtain ⟨v53, e53, h⟩ := bO_some h
      refine ww_getR 53 X dX1_forward_53 fG_X1_16 e53 ?_
      refine ww_iconst 56 X (v := (0 : Int32)) dX1_forward_56 (by decide) ?_
      refine ww_aload_n 57 X dX1_forward_57 1 rfl rfl ?_
      refine ww_iconst 58 X (v := (0 : Int32)) dX1_forward_58 (by decide) ?_
      refine ww_bipush 59 X (v := (16 : Int32)) dX1_forward_59 (by decide) ?_
      obtain ⟨M61, e61, h⟩ := bO_some h
      refine ww_cpI 61 X (st := []) dX1_forward_61 mL_X1_45 (Nat.le_of_ble_eq_true rfl) (Nat.le_of_ble_eq_true rfl) (Nat.le_of_ble_eq_true rfl) e61 ?_
      refine ww_iload_n 64 X dX1_forward_64 2 rfl rfl ?_
      refine ww_aload_n 65 X dX1_forward_65 0 rfl rfl ?_
      obtain ⟨v66, e66, h⟩ := bO_some h
      refine ww_getI 66 X dX1_forward_66 fG_X1_28 e66 ?_
      refine ww_icmp_ge 69 76 X dX1_forward_69 (by decide) (fun q => ?_) (fun q => ?_)
      · replace h := (if_pos q).symm.trans h
        refine ww_aload_n 76 X dX1_forward_76 0 rfl rfl ?_
        refine ww_aload_n 77 X dX1_forward_77 1 rfl rfl ?_
        refine ww_iload_n 78 X dX1_forward_78 2 rfl rfl ?_
        obtain ⟨_, f79, h⟩ := bO_some h
        obtain ⟨M79, e79, h⟩ := bO_some h
        refine ww_callVV0 79 X dX1_forward_79 mY_X1_addRoundKey mL_X1_41 (rcv_spec f79) ⟨_, _, rfl⟩ (by decide) (As := [.ref l1, .int l2]) (rest := []) rfl rfl ⟨Nat.le_of_ble_eq_true rfl, Nat.le_of_ble_eq_true rfl⟩ (Nat.le_of_ble_eq_true rfl) (fun l D A => c_X1_addRoundKey l D A e79) ?_
        refine ww_iinc 82 X dX1_forward_82 (lv' := [(0, .ref l0), (1, .ref l1), (2, .int (l2 + 1)), (3, .int l3)]) 2 rfl rfl (by decide) [1, 2, 0, 3] rfl ?_
        refine ww_goto 85 8 X dX1_forward_85 (by decide) ?_
        exact ww_sub [0, 1, 2] rfl (hr8 _ _ _ _ h)
      · replace h := (if_neg q).symm.trans h
        refine ww_aload_n 72 X dX1_forward_72 1 rfl rfl ?_
        obtain ⟨M73, e73, h⟩ := bO_some h
        refine ww_callSV0 73 X dX1_forward_73 mY_X1_mixColumns mL_X1_51 (As := [.ref l1]) (rest := []) rfl rfl ⟨Nat.le_of_ble_eq_true rfl, Nat.le_of_ble_eq_true rfl⟩ (Nat.le_of_ble_eq_true rfl) (fun l D A => c_X1_mixColumns l D A e73) ?_
        refine ww_aload_n 76 X dX1_forward_76 0 rfl rfl ?_
        refine ww_aload_n 77 X dX1_forward_77 1 rfl rfl ?_
        refine ww_iload_n 78 X dX1_forward_78 2 rfl rfl ?_
        obtain ⟨_, f79, h⟩ := bO_some h
        obtain ⟨M79, e79, h⟩ := bO_some h
        refine ww_callVV0 79 X dX1_forward_79 mY_X1_addRoundKey mL_X1_41 (rcv_spec f79) ⟨_, _, rfl⟩ (by decide) (As := [.ref l1, .int l2]) (rest := []) rfl rfl ⟨Nat.le_of_ble_eq_true rfl, Nat.le_of_ble_eq_true rfl⟩ (Nat.le_of_ble_eq_true rfl) (fun l D A => c_X1_addRoundKey l D A e79) ?_
        refine ww_iinc 82 X dX1_forward_82 (lv' := [(0, .ref l0), (1, .ref l1), (2, .int (l2 + 1)), (3, .int l3)]) 2 rfl rfl (by decide) [1, 2, 0, 3] rfl ?_
        refine ww_goto 85 8 X dX1_forward_85 (by decide) ?_
        exact ww_sub [0, 1, 2] rfl (hr8 _ _ _ _ h)
    · replace h := (if_neg q).symm.trans h
      refine ww_aload_n 24 X dX1_forward_24 0 rfl rfl ?_
      obtain ⟨v25, e25, h⟩ := bO_some h
      refine ww_getR 25 X dX1_forward_25 fG_X1_16 e25 ?_
      refine ww_iload_n 28 X dX1_forward_28 3 rfl rfl ?_
      refine ww_gets 29 X dX1_forward_29 gS_X1_25 ?_
      refine ww_aload_n 32 X dX1_forward_32 1 rfl rfl ?_
      refine ww_iload_n 33 X dX1_forward_33 3 rfl rfl ?_
      refine ww_iconst 34 X (v := (4 : Int32)) dX1_forward_34 (by decide) ?_
      refine ww_iload_n 35 X dX1_forward_35 3 rfl rfl ?_
      refine ww_iconst 36 X (v := (3 : Int32)) dX1_forward_36 (by decide) ?_
      refine ww_iand 37 X dX1_forward_37 ?_
      refine ww_imul 38 X dX1_forward_38 ?_
      refine ww_iadd 39 X dX1_forward_39 ?_
      refine ww_bipush 40 X (v := (15 : Int32)) dX1_forward_40 (by decide) ?_
      refine ww_iand 42 X dX1_forward_42 ?_
      obtain ⟨v43, e43, h⟩ := bO_some h
      refine ww_iald 43 X dX1_forward_43 e43 ?_
      obtain ⟨v44, e44, h⟩ := bO_some h
      refine ww_iald 44 X dX1_forward_44 e44 ?_
      obtain ⟨M45, e45, h⟩ := bO_some h
      refine ww_iast 45 X dX1_forward_45 e45 ?_
      refine ww_iinc 46 X dX1_forward_46 (lv' := [(0, .ref l0), (1, .ref l1), (2, .int l2), (3, .int (l3 + 1))]) 3 rfl rfl (by decide) [1, 2, 3, 0] rfl ?_
      refine ww_goto 49 18 X dX1_forward_49 (by decide) ?_
      exact (ih _ _ _ _ _ h)
set_option maxHeartbeats 4000000 in
set_option maxRecDepth 100000 in
theorem wB_X1_forward_8 {G : mG} {F : Nat} {x : mXT} {sz : Nat} {M0 : mM} (X : mCX G RX1 cX1_forward 4 none "forward" rmX1_forward x) (hQ : mQV x M0 (sz, 0, 0)) : ∀ (n : Nat) (l0 : Nat) (l1 : Nat) (l2 : Int32) (M : mM), B_X1_forward_8 G F n l0 l1 l2 M = some M0 → WW x (sz, 0, 0) M 8 [(0, .ref l0), (1, .ref l1), (2, .int l2)] [] := by
  intro n
  induction n with
  | zero =>
    intro l0 l1 l2 M h
    exact nomatch (show (none : Option mM) = some M0 from h)
  | succ n ih =>
    intro l0 l1 l2 M h
    rw [B_X1_forward_8] at h
    refine ww_iload_n 8 X dX1_forward_8 2 rfl rfl ?_
    refine ww_aload_n 9 X dX1_forward_9 0 rfl rfl ?_
    obtain ⟨v10, e10, h⟩ := bO_some h
    refine ww_getI 10 X dX1_forward_10 fG_X1_28 e10 ?_
    refine ww_icmp_gt 13 88 X dX1_forward_13 (by decide) (fun q => ?_) (fun q => ?_)
    · replace h := (if_pos q).symm.trans h
      exact ww_vretE 88 X hQ dX1_forward_88 h
    · replace h := (if_neg q).symm.trans h
      refine ww_iconst 16 X (v := (0 : Int32)) dX1_forward_16 (by decide) ?_
      refine ww_istore_n 17 X dX1_forward_17 (lv' := [(0, .ref l0), (1, .ref l1), (2, .int l2), (3, .int (0 : Int32))]) rfl (by decide) [1, 2, 3, 0] rfl ?_
      exact (wB_X1_forward_18 X hQ _ ih F _ _ _ _ _ h)
set_option maxHeartbeats 4000000 in
set_option maxRecDepth 100000 in
theorem wP_X1_forward {G : mG} {F : Nat} {x : mXT} {sz : Nat} {M0 : mM} (X : mCX G RX1 cX1_forward 4 none "forward" rmX1_forward x) (hQ : mQV x M0 (sz, 0, 0)) {l0 : Nat} {l1 : Nat} {M : mM} (h : P_X1_forward G F l0 l1 M = some M0) : WW x (sz, 0, 0) M 0 [(0, .ref l0), (1, .ref l1)] [] := by
  unfold P_X1_forward at h
  refine ww_aload_n 0 X dX1_forward_0 0 rfl rfl ?_
  refine ww_aload_n 1 X dX1_forward_1 1 rfl rfl ?_
  refine ww_iconst 2 X (v := (0 : Int32)) dX1_forward_2 (by decide) ?_
  obtain ⟨_, f3, h⟩ := bO_some h
  obtain ⟨M3, e3, h⟩ := bO_some h
  refine ww_callVV0 3 X dX1_forward_3 mY_X1_addRoundKey mL_X1_41 (rcv_spec f3) ⟨_, _, rfl⟩ (by decide) (As := [.ref l1, .int (0 : Int32)]) (rest := []) rfl rfl ⟨Nat.le_of_ble_eq_true rfl, Nat.le_of_ble_eq_true rfl⟩ (Nat.le_of_ble_eq_true rfl) (fun l D A => c_X1_addRoundKey l D A e3) ?_
  refine ww_iconst 6 X (v := (1 : Int32)) dX1_forward_6 (by decide) ?_
  refine ww_istore_n 7 X dX1_forward_7 (lv' := [(0, .ref l0), (1, .ref l1), (2, .int (1 : Int32))]) rfl (by decide) [1, 2, 0] rfl ?_
  exact (wB_X1_forward_8 X hQ F _ _ _ _ h)
theorem c_X1_forward {G : mG} {F sz : Nat} {M0 : mM} (l : Launch) (D : mD) (A : Nat → Prop) {l0 : Nat} {l1 : Nat} {M : mM} (h : P_X1_forward G F l0 l1 M = some M0) : mMetV l D G A yX1_forward cX1_forward 4 none 2 60 0 0 [.ref l0, .ref l1] M sz M0 sz := mMetV_of l D G A (by decide) (Nat.le_of_ble_eq_true rfl) (fun x X hQ => wP_X1_forward X hQ h)
/-! SealedTokens$Cipher.unmixColumns([I)V -/
theorem dX1_unmixColumns_0 : decode cX1_unmixColumns 0 = .ok (.iconst 0, 1) := by decide +kernel
theorem dX1_unmixColumns_1 : decode cX1_unmixColumns 1 = .ok (.istore_n 1, 1) := by decide +kernel
theorem dX1_unmixColumns_2 : decode cX1_unmixColumns 2 = .ok (.iload_n 1, 1) := by decide +kernel
theorem dX1_unmixColumns_3 : decode cX1_unmixColumns 3 = .ok (.bipush 16, 2) := by decide +kernel
theorem dX1_unmixColumns_5 : decode cX1_unmixColumns 5 = .ok (.if_icmp .ge 77, 3) := by decide +kernel
theorem dX1_unmixColumns_8 : decode cX1_unmixColumns 8 = .ok (.aload_n 0, 1) := by decide +kernel
theorem dX1_unmixColumns_9 : decode cX1_unmixColumns 9 = .ok (.iload_n 1, 1) := by decide +kernel
theorem dX1_unmixColumns_10 : decode cX1_unmixColumns 10 = .ok (.iaload, 1) := by decide +kernel
theorem dX1_unmixColumns_11 : decode cX1_unmixColumns 11 = .ok (.aload_n 0, 1) := by decide +kernel
theorem dX1_unmixColumns_12 : decode cX1_unmixColumns 12 = .ok (.iload_n 1, 1) := by decide +kernel
theorem dX1_unmixColumns_13 : decode cX1_unmixColumns 13 = .ok (.iconst 2, 1) := by decide +kernel
theorem dX1_unmixColumns_14 : decode cX1_unmixColumns 14 = .ok (.iadd, 1) := by decide +kernel
theorem dX1_unmixColumns_15 : decode cX1_unmixColumns 15 = .ok (.iaload, 1) := by decide +kernel
theorem dX1_unmixColumns_16 : decode cX1_unmixColumns 16 = .ok (.ixor, 1) := by decide +kernel
theorem dX1_unmixColumns_17 : decode cX1_unmixColumns 17 = .ok (.invokestatic 38, 3) := by decide +kernel
theorem dX1_unmixColumns_20 : decode cX1_unmixColumns 20 = .ok (.invokestatic 38, 3) := by decide +kernel
theorem dX1_unmixColumns_23 : decode cX1_unmixColumns 23 = .ok (.istore_n 2, 1) := by decide +kernel
theorem dX1_unmixColumns_24 : decode cX1_unmixColumns 24 = .ok (.aload_n 0, 1) := by decide +kernel
theorem dX1_unmixColumns_25 : decode cX1_unmixColumns 25 = .ok (.iload_n 1, 1) := by decide +kernel
theorem dX1_unmixColumns_26 : decode cX1_unmixColumns 26 = .ok (.iconst 1, 1) := by decide +kernel
theorem dX1_unmixColumns_27 : decode cX1_unmixColumns 27 = .ok (.iadd, 1) := by decide +kernel
theorem dX1_unmixColumns_28 : decode cX1_unmixColumns 28 = .ok (.iaload, 1) := by decide +kernel
theorem dX1_unmixColumns_29 : decode cX1_unmixColumns 29 = .ok (.aload_n 0, 1) := by decide +kernel
theorem dX1_unmixColumns_30 : decode cX1_unmixColumns 30 = .ok (.iload_n 1, 1) := by decide +kernel
theorem dX1_unmixColumns_31 : decode cX1_unmixColumns 31 = .ok (.iconst 3, 1) := by decide +kernel
theorem dX1_unmixColumns_32 : decode cX1_unmixColumns 32 = .ok (.iadd, 1) := by decide +kernel
theorem dX1_unmixColumns_33 : decode cX1_unmixColumns 33 = .ok (.iaload, 1) := by decide +kernel
theorem dX1_unmixColumns_34 : decode cX1_unmixColumns 34 = .ok (.ixor, 1) := by decide +kernel
theorem dX1_unmixColumns_35 : decode cX1_unmixColumns 35 = .ok (.invokestatic 38, 3) := by decide +kernel
theorem dX1_unmixColumns_38 : decode cX1_unmixColumns 38 = .ok (.invokestatic 38, 3) := by decide +kernel
theorem dX1_unmixColumns_41 : decode cX1_unmixColumns 41 = .ok (.istore_n 3, 1) := by decide +kernel
theorem dX1_unmixColumns_42 : decode cX1_unmixColumns 42 = .ok (.aload_n 0, 1) := by decide +kernel
theorem dX1_unmixColumns_43 : decode cX1_unmixColumns 43 = .ok (.iload_n 1, 1) := by decide +kernel
theorem dX1_unmixColumns_44 : decode cX1_unmixColumns 44 = .ok (.dup2, 1) := by decide +kernel
theorem dX1_unmixColumns_45 : decode cX1_unmixColumns 45 = .ok (.iaload, 1) := by decide +kernel
theorem dX1_unmixColumns_46 : decode cX1_unmixColumns 46 = .ok (.iload_n 2, 1) := by decide +kernel
theorem dX1_unmixColumns_47 : decode cX1_unmixColumns 47 = .ok (.ixor, 1) := by decide +kernel
theorem dX1_unmixColumns_48 : decode cX1_unmixColumns 48 = .ok (.iastore, 1) := by decide +kernel
theorem dX1_unmixColumns_49 : decode cX1_unmixColumns 49 = .ok (.aload_n 0, 1) := by decide +kernel
theorem dX1_unmixColumns_50 : decode cX1_unmixColumns 50 = .ok (.iload_n 1, 1) := by decide +kernel
theorem dX1_unmixColumns_51 : decode cX1_unmixColumns 51 = .ok (.iconst 1, 1) := by decide +kernel
theorem dX1_unmixColumns_52 : decode cX1_unmixColumns 52 = .ok (.iadd, 1) := by decide +kernel
theorem dX1_unmixColumns_53 : decode cX1_unmixColumns 53 = .ok (.dup2, 1) := by decide +kernel
theorem dX1_unmixColumns_54 : decode cX1_unmixColumns 54 = .ok (.iaload, 1) := by decide +kernel
theorem dX1_unmixColumns_55 : decode cX1_unmixColumns 55 = .ok (.iload_n 3, 1) := by decide +kernel
theorem dX1_unmixColumns_56 : decode cX1_unmixColumns 56 = .ok (.ixor, 1) := by decide +kernel
theorem dX1_unmixColumns_57 : decode cX1_unmixColumns 57 = .ok (.iastore, 1) := by decide +kernel
theorem dX1_unmixColumns_58 : decode cX1_unmixColumns 58 = .ok (.aload_n 0, 1) := by decide +kernel
theorem dX1_unmixColumns_59 : decode cX1_unmixColumns 59 = .ok (.iload_n 1, 1) := by decide +kernel
theorem dX1_unmixColumns_60 : decode cX1_unmixColumns 60 = .ok (.iconst 2, 1) := by decide +kernel
theorem dX1_unmixColumns_61 : decode cX1_unmixColumns 61 = .ok (.iadd, 1) := by decide +kernel
theorem dX1_unmixColumns_62 : decode cX1_unmixColumns 62 = .ok (.dup2, 1) := by decide +kernel
theorem dX1_unmixColumns_63 : decode cX1_unmixColumns 63 = .ok (.iaload, 1) := by decide +kernel
theorem dX1_unmixColumns_64 : decode cX1_unmixColumns 64 = .ok (.iload_n 2, 1) := by decide +kernel
theorem dX1_unmixColumns_65 : decode cX1_unmixColumns 65 = .ok (.ixor, 1) := by decide +kernel
theorem dX1_unmixColumns_66 : decode cX1_unmixColumns 66 = .ok (.iastore, 1) := by decide +kernel
theorem dX1_unmixColumns_67 : decode cX1_unmixColumns 67 = .ok (.aload_n 0, 1) := by decide +kernel
theorem dX1_unmixColumns_68 : decode cX1_unmixColumns 68 = .ok (.iload_n 1, 1) := by decide +kernel
theorem dX1_unmixColumns_69 : decode cX1_unmixColumns 69 = .ok (.iconst 3, 1) := by decide +kernel
theorem dX1_unmixColumns_70 : decode cX1_unmixColumns 70 = .ok (.iadd, 1) := by decide +kernel
theorem dX1_unmixColumns_71 : decode cX1_unmixColumns 71 = .ok (.dup2, 1) := by decide +kernel
theorem dX1_unmixColumns_72 : decode cX1_unmixColumns 72 = .ok (.iaload, 1) := by decide +kernel
theorem dX1_unmixColumns_73 : decode cX1_unmixColumns 73 = .ok (.iload_n 3, 1) := by decide +kernel
theorem dX1_unmixColumns_74 : decode cX1_unmixColumns 74 = .ok (.ixor, 1) := by decide +kernel
theorem dX1_unmixColumns_75 : decode cX1_unmixColumns 75 = .ok (.iastore, 1) := by decide +kernel
theorem dX1_unmixColumns_76 : decode cX1_unmixColumns 76 = .ok (.iinc 1 4, 3) := by decide +kernel
theorem dX1_unmixColumns_79 : decode cX1_unmixColumns 79 = .ok (.goto (-77), 3) := by decide +kernel
theorem dX1_unmixColumns_82 : decode cX1_unmixColumns 82 = .ok (.aload_n 0, 1) := by decide +kernel
theorem dX1_unmixColumns_83 : decode cX1_unmixColumns 83 = .ok (.invokestatic 51, 3) := by decide +kernel
theorem dX1_unmixColumns_86 : decode cX1_unmixColumns 86 = .ok (.return_, 1) := by decide +kernel
abbrev rmX1_unmixColumns : Room := { frames := 2, cells := 0, slots := 0, locals := 43 }
set_option maxHeartbeats 4000000 in
set_option maxRecDepth 100000 in
theorem wB_X1_unmixColumns_2 {G : mG} {F : Nat} {x : mXT} {sz : Nat} {M0 : mM} (X : mCX G RX1 cX1_unmixColumns 4 none "unmixColumns" rmX1_unmixColumns x) (hQ : mQV x M0 (sz, 0, 0)) : ∀ (n : Nat) (l0 : Nat) (l1 : Int32) (M : mM), B_X1_unmixColumns_2 G F n l0 l1 M = some M0 → WW x (sz, 0, 0) M 2 [(0, .ref l0), (1, .int l1)] [] := by
  intro n
  induction n with
  | zero =>
    intro l0 l1 M h
    exact nomatch (show (none : Option mM) = some M0 from h)
  | succ n ih =>
    intro l0 l1 M h
    rw [B_X1_unmixColumns_2] at h
    refine ww_iload_n 2 X dX1_unmixColumns_2 1 rfl rfl ?_
    refine ww_bipush 3 X (v := (16 : Int32)) dX1_unmixColumns_3 (by decide) ?_
    refine ww_icmp_ge 5 82 X dX1_unmixColumns_5 (by decide) (fun q => ?_) (fun q => ?_)
    · replace h := (if_pos q).symm.trans h
      refine ww_aload_n 82 X dX1_unmixColumns_82 0 rfl rfl ?_
      obtain ⟨M83, e83, h⟩ := bO_some h
      refine ww_callSV0 83 X dX1_unmixColumns_83 mY_X1_mixColumns mL_X1_51 (As := [.ref l0]) (rest := []) rfl rfl ⟨Nat.le_of_ble_eq_true rfl, Nat.le_of_ble_eq_true rfl⟩ (Nat.le_of_ble_eq_true rfl) (fun l D A => c_X1_mixColumns l D A e83) ?_
      exact ww_vretE 86 X hQ dX1_unmixColumns_86 h
    · replace h := (if_neg q).symm.trans h
      refine ww_aload_n 8 X dX1_unmixColumns_8 0 rfl rfl ?_
      refine ww_iload_n 9 X dX1_unmixColumns_9 1 rfl rfl ?_
      obtain ⟨v10, e10, h⟩ := bO_some h
      refine ww_iald 10 X dX1_unmixColumns_10 e10 ?_
      refine ww_aload_n 11 X dX1_unmixColumns_11 0 rfl rfl ?_
      refine ww_iload_n 12 X dX1_unmixColumns_12 1 rfl rfl ?_
      refine ww_iconst 13 X (v := (2 : Int32)) dX1_unmixColumns_13 (by decide) ?_
      refine ww_iadd 14 X dX1_unmixColumns_14 ?_
      obtain ⟨v15, e15, h⟩ := bO_some h
      refine ww_iald 15 X dX1_unmixColumns_15 e15 ?_
      refine ww_ixor 16 X dX1_unmixColumns_16 ?_
      obtain ⟨v17, M17, e17, h⟩ := bP_some h
      refine ww_callSI0 17 X dX1_unmixColumns_17 mY_X1_twice mL_X1_38 (As := [.int (v10 ^^^ v15)]) (rest := []) rfl rfl ⟨Nat.le_of_ble_eq_true rfl, Nat.le_of_ble_eq_true rfl⟩ (Nat.le_of_ble_eq_true rfl) (fun l D A => c_X1_twice l D A e17) ?_
      obtain ⟨v20, M20, e20, h⟩ := bP_some h
      refine ww_callSI0 20 X dX1_unmixColumns_20 mY_X1_twice mL_X1_38 (As := [.int v17]) (rest := []) rfl rfl ⟨Nat.le_of_ble_eq_true rfl, Nat.le_of_ble_eq_true rfl⟩ (Nat.le_of_ble_eq_true rfl) (fun l D A => c_X1_twice l D A e20) ?_
      refine ww_istore_n 23 X dX1_unmixColumns_23 (lv' := [(0, .ref l0), (1, .int l1), (2, .int v20)]) rfl (by decide) [1, 2, 0] rfl ?_
      refine ww_aload_n 24 X dX1_unmixColumns_24 0 rfl rfl ?_
      refine ww_iload_n 25 X dX1_unmixColumns_25 1 rfl rfl ?_
      refine ww_iconst 26 X (v := (1 : Int32)) dX1_unmixColumns_26 (by decide) ?_
      refine ww_iadd 27 X dX1_unmixColumns_27 ?_
      obtain ⟨v28, e28, h⟩ := bO_some h
      refine ww_iald 28 X dX1_unmixColumns_28 e28 ?_
      refine ww_aload_n 29 X dX1_unmixColumns_29 0 rfl rfl ?_
      refine ww_iload_n 30 X dX1_unmixColumns_30 1 rfl rfl ?_
      refine ww_iconst 31 X (v := (3 : Int32)) dX1_unmixColumns_31 (by decide) ?_
      refine ww_iadd 32 X dX1_unmixColumns_32 ?_
      obtain ⟨v33, e33, h⟩ := bO_some h
      refine ww_iald 33 X dX1_unmixColumns_33 e33 ?_
      refine ww_ixor 34 X dX1_unmixColumns_34 ?_
      obtain ⟨v35, M35, e35, h⟩ := bP_some h
      refine ww_callSI0 35 X dX1_unmixColumns_35 mY_X1_twice mL_X1_38 (As := [.int (v28 ^^^ v33)]) (rest := []) rfl rfl ⟨Nat.le_of_ble_eq_true rfl, Nat.le_of_ble_eq_true rfl⟩ (Nat.le_of_ble_eq_true rfl) (fun l D A => c_X1_twice l D A e35) ?_
      obtain ⟨v38, M38, e38, h⟩ := bP_some h
      refine ww_callSI0 38 X dX1_unmixColumns_38 mY_X1_twice mL_X1_38 (As := [.int v35]) (rest := []) rfl rfl ⟨Nat.le_of_ble_eq_true rfl, Nat.le_of_ble_eq_true rfl⟩ (Nat.le_of_ble_eq_true rfl) (fun l D A => c_X1_twice l D A e38) ?_
      refine ww_istore_n 41 X dX1_unmixColumns_41 (lv' := [(0, .ref l0), (1, .int l1), (2, .int v20), (3, .int v38)]) rfl (by decide) [1, 2, 3, 0] rfl ?_
      refine ww_aload_n 42 X dX1_unmixColumns_42 0 rfl rfl ?_
      refine ww_iload_n 43 X dX1_unmixColumns_43 1 rfl rfl ?_
      refine ww_dup2_11 44 X dX1_unmixColumns_44 rfl rfl ?_
      obtain ⟨v45, e45, h⟩ := bO_some h
      refine ww_iald 45 X dX1_unmixColumns_45 e45 ?_
      refine ww_iload_n 46 X dX1_unmixColumns_46 2 rfl rfl ?_
      refine ww_ixor 47 X dX1_unmixColumns_47 ?_
      obtain ⟨M48, e48, h⟩ := bO_some h
      refine ww_iast 48 X dX1_unmixColumns_48 e48 ?_
      refine ww_aload_n 49 X dX1_unmixColumns_49 0 rfl rfl ?_
      refine ww_iload_n 50 X dX1_unmixColumns_50 1 rfl rfl ?_
      refine ww_iconst 51 X (v := (1 : Int32)) dX1_unmixColumns_51 (by decide) ?_
      refine ww_iadd 52 X dX1_unmixColumns_52 ?_
      refine ww_dup2_11 53 X dX1_unmixColumns_53 rfl rfl ?_
      obtain ⟨v54, e54, h⟩ := bO_some h
      refine ww_iald 54 X dX1_unmixColumns_54 e54 ?_
      refine ww_iload_n 55 X dX1_unmixColumns_55 3 rfl rfl ?_
      refine ww_ixor 56 X dX1_unmixColumns_56 ?_
      obtain ⟨M57, e57, h⟩ := bO_some h
      refine ww_iast 57 X dX1_unmixColumns_57 e57 ?_
      refine ww_aload_n 58 X dX1_unmixColumns_58 0 rfl rfl ?_
      refine ww_iload_n 59 X dX1_unmixColumns_59 1 rfl rfl ?_
      refine ww_iconst 60 X (v := (2 : Int32)) dX1_unmixColumns_60 (by decide) ?_
      refine ww_iadd 61 X dX1_unmixColumns_61 ?_
      refine ww_dup2_11 62 X dX1_unmixColumns_62 rfl rfl ?_
      obtain ⟨v63, e63, h⟩ := bO_some h
      refine ww_iald 63 X dX1_unmixColumns_63 e63 ?_
      refine ww_iload_n 64 X dX1_unmixColumns_64 2 rfl rfl ?_
      refine ww_ixor 65 X dX1_unmixColumns_65 ?_
      obtain ⟨M66, e66, h⟩ := bO_some h
      refine ww_iast 66 X dX1_unmixColumns_66 e66 ?_
      refine ww_aload_n 67 X dX1_unmixColumns_67 0 rfl rfl ?_
      refine ww_iload_n 68 X dX1_unmixColumns_68 1 rfl rfl ?_
      refine ww_iconst 69 X (v := (3 : Int32)) dX1_unmixColumns_69 (by decide) ?_
      refine ww_iadd 70 X dX1_unmixColumns_70 ?_
      refine ww_dup2_11 71 X dX1_unmixColumns_71 rfl rfl ?_
      obtain ⟨v72, e72, h⟩ := bO_some h
      refine ww_iald 72 X dX1_unmixColumns_72 e72 ?_
      refine ww_iload_n 73 X dX1_unmixColumns_73 3 rfl rfl ?_
      refine ww_ixor 74 X dX1_unmixColumns_74 ?_
      obtain ⟨M75, e75, h⟩ := bO_some h
      refine ww_iast 75 X dX1_unmixColumns_75 e75 ?_
      refine ww_iinc 76 X dX1_unmixColumns_76 (lv' := [(0, .ref l0), (1, .int (l1 + 4)), (2, .int v20), (3, .int v38)]) 1 rfl rfl (by decide) [1, 0, 2, 3] rfl ?_
      refine ww_goto 79 2 X dX1_unmixColumns_79 (by decide) ?_
      exact ww_sub [0, 1] rfl (ih _ _ _ h)
set_option maxHeartbeats 4000000 in
set_option maxRecDepth 100000 in
theorem wP_X1_unmixColumns {G : mG} {F : Nat} {x : mXT} {sz : Nat} {M0 : mM} (X : mCX G RX1 cX1_unmixColumns 4 none "unmixColumns" rmX1_unmixColumns x) (hQ : mQV x M0 (sz, 0, 0)) {l0 : Nat} {M : mM} (h : P_X1_unmixColumns G F l0 M = some M0) : WW x (sz, 0, 0) M 0 [(0, .ref l0)] [] := by
  unfold P_X1_unmixColumns at h
  refine ww_iconst 0 X (v := (0 : Int32)) dX1_unmixColumns_0 (by decide) ?_
  refine ww_istore_n 1 X dX1_unmixColumns_1 (lv' := [(0, .ref l0), (1, .int (0 : Int32))]) rfl (by decide) [1, 0] rfl ?_
  exact (wB_X1_unmixColumns_2 X hQ F _ _ _ h)
theorem c_X1_unmixColumns {G : mG} {F sz : Nat} {M0 : mM} (l : Launch) (D : mD) (A : Nat → Prop) {l0 : Nat} {M : mM} (h : P_X1_unmixColumns G F l0 M = some M0) : mMetV l D G A yX1_unmixColumns cX1_unmixColumns 4 none 2 43 0 0 [.ref l0] M sz M0 sz := mMetV_of l D G A (by decide) (Nat.le_of_ble_eq_true rfl) (fun x X hQ => wP_X1_unmixColumns X hQ h)
/-! SealedTokens$Cipher.backward([I)V -/
theorem dX1_backward_0 : decode cX1_backward 0 = .ok (.aload_n 0, 1) := by decide +kernel
theorem dX1_backward_1 : decode cX1_backward 1 = .ok (.getfield 28, 3) := by decide +kernel
theorem dX1_backward_4 : decode cX1_backward 4 = .ok (.istore_n 2, 1) := by decide +kernel
theorem dX1_backward_5 : decode cX1_backward 5 = .ok (.iload_n 2, 1) := by decide +kernel
theorem dX1_backward_6 : decode cX1_backward 6 = .ok (.iconst 1, 1) := by decide +kernel
theorem dX1_backward_7 : decode cX1_backward 7 = .ok (.if_icmp .lt 76, 3) := by decide +kernel
theorem dX1_backward_10 : decode cX1_backward 10 = .ok (.aload_n 0, 1) := by decide +kernel
theorem dX1_backward_11 : decode cX1_backward 11 = .ok (.aload_n 1, 1) := by decide +kernel
theorem dX1_backward_12 : decode cX1_backward 12 = .ok (.iload_n 2, 1) := by decide +kernel
theorem dX1_backward_13 : decode cX1_backward 13 = .ok (.invokevirtual 41, 3) := by decide +kernel
theorem dX1_backward_16 : decode cX1_backward 16 = .ok (.iload_n 2, 1) := by decide +kernel
theorem dX1_backward_17 : decode cX1_backward 17 = .ok (.aload_n 0, 1) := by decide +kernel
theorem dX1_backward_18 : decode cX1_backward 18 = .ok (.getfield 28, 3) := by decide +kernel
theorem dX1_backward_21 : decode cX1_backward 21 = .ok (.if_icmp .ge 7, 3) := by decide +kernel
theorem dX1_backward_24 : decode cX1_backward 24 = .ok (.aload_n 1, 1) := by decide +kernel
theorem dX1_backward_25 : decode cX1_backward 25 = .ok (.invokestatic 55, 3) := by decide +kernel
theorem dX1_backward_28 : decode cX1_backward 28 = .ok (.iconst 0, 1) := by decide +kernel
theorem dX1_backward_29 : decode cX1_backward 29 = .ok (.istore_n 3, 1) := by decide +kernel
theorem dX1_backward_30 : decode cX1_backward 30 = .ok (.iload_n 3, 1) := by decide +kernel
theorem dX1_backward_31 : decode cX1_backward 31 = .ok (.bipush 16, 2) := by decide +kernel
theorem dX1_backward_33 : decode cX1_backward 33 = .ok (.if_icmp .ge 32, 3) := by decide +kernel
theorem dX1_backward_36 : decode cX1_backward 36 = .ok (.aload_n 0, 1) := by decide +kernel
theorem dX1_backward_37 : decode cX1_backward 37 = .ok (.getfield 16, 3) := by decide +kernel
theorem dX1_backward_40 : decode cX1_backward 40 = .ok (.iload_n 3, 1) := by decide +kernel
theorem dX1_backward_41 : decode cX1_backward 41 = .ok (.iconst 4, 1) := by decide +kernel
theorem dX1_backward_42 : decode cX1_backward 42 = .ok (.iload_n 3, 1) := by decide +kernel
theorem dX1_backward_43 : decode cX1_backward 43 = .ok (.iconst 3, 1) := by decide +kernel
theorem dX1_backward_44 : decode cX1_backward 44 = .ok (.iand, 1) := by decide +kernel
theorem dX1_backward_45 : decode cX1_backward 45 = .ok (.imul, 1) := by decide +kernel
theorem dX1_backward_46 : decode cX1_backward 46 = .ok (.iadd, 1) := by decide +kernel
theorem dX1_backward_47 : decode cX1_backward 47 = .ok (.bipush 15, 2) := by decide +kernel
theorem dX1_backward_49 : decode cX1_backward 49 = .ok (.iand, 1) := by decide +kernel
theorem dX1_backward_50 : decode cX1_backward 50 = .ok (.aload_n 0, 1) := by decide +kernel
theorem dX1_backward_51 : decode cX1_backward 51 = .ok (.getfield 7, 3) := by decide +kernel
theorem dX1_backward_54 : decode cX1_backward 54 = .ok (.aload_n 1, 1) := by decide +kernel
theorem dX1_backward_55 : decode cX1_backward 55 = .ok (.iload_n 3, 1) := by decide +kernel
theorem dX1_backward_56 : decode cX1_backward 56 = .ok (.iaload, 1) := by decide +kernel
theorem dX1_backward_57 : decode cX1_backward 57 = .ok (.iaload, 1) := by decide +kernel
theorem dX1_backward_58 : decode cX1_backward 58 = .ok (.iastore, 1) := by decide +kernel
theorem dX1_backward_59 : decode cX1_backward 59 = .ok (.iinc 3 1, 3) := by decide +kernel
theorem dX1_backward_62 : decode cX1_backward 62 = .ok (.goto (-32), 3) := by decide +kernel
theorem dX1_backward_65 : decode cX1_backward 65 = .ok (.aload_n 0, 1) := by decide +kernel
theorem dX1_backward_66 : decode cX1_backward 66 = .ok (.getfield 16, 3) := by decide +kernel
theorem dX1_backward_69 : decode cX1_backward 69 = .ok (.iconst 0, 1) := by decide +kernel
theorem dX1_backward_70 : decode cX1_backward 70 = .ok (.aload_n 1, 1) := by decide +kernel
theorem dX1_backward_71 : decode cX1_backward 71 = .ok (.iconst 0, 1) := by decide +kernel
theorem dX1_backward_72 : decode cX1_backward 72 = .ok (.bipush 16, 2) := by decide +kernel
theorem dX1_backward_74 : decode cX1_backward 74 = .ok (.invokestatic 45, 3) := by decide +kernel
theorem dX1_backward_77 : decode cX1_backward 77 = .ok (.iinc 2 (-1), 3) := by decide +kernel
theorem dX1_backward_80 : decode cX1_backward 80 = .ok (.goto (-75), 3) := by decide +kernel
theorem dX1_backward_83 : decode cX1_backward 83 = .ok (.aload_n 0, 1) := by decide +kernel
theorem dX1_backward_84 : decode cX1_backward 84 = .ok (.aload_n 1, 1) := by decide +kernel
theorem dX1_backward_85 : decode cX1_backward 85 = .ok (.iconst 0, 1) := by decide +kernel
theorem dX1_backward_86 : decode cX1_backward 86 = .ok (.invokevirtual 41, 3) := by decide +kernel
theorem dX1_backward_89 : decode cX1_backward 89 = .ok (.return_, 1) := by decide +kernel
abbrev rmX1_backward : Room := { frames := 3, cells := 0, slots := 0, locals := 66 }
set_option maxHeartbeats 4000000 in
set_option maxRecDepth 100000 in
theorem wB_X1_backward_30 {G : mG} {F : Nat} {x : mXT} {sz : Nat} {M0 : mM} (X : mCX G RX1 cX1_backward 4 none "backward" rmX1_backward x) (hQ : mQV x M0 (sz, 0, 0)) (r5 : Nat → Nat → Int32 → mM → Option mM) (hr5 : ∀ (l0 : Nat) (l1 : Nat) (l2 : Int32) (M : mM), r5 l0 l1 l2 M = some M0 → WW x (sz, 0, 0) M 5 [(0, .ref l0), (1, .ref l1), (2, .int l2)] []) : ∀ (n : Nat) (l0 : Nat) (l1 : Nat) (l2 : Int32) (l3 : Int32) (M : mM), B_X1_backward_30 G F r5 n l0 l1 l2 l3 M = some M0 → WW x (sz, 0, 0) M 30 [(0, .ref l0), (1, .ref l1), (2, .int l2), (3, .int l3)] [] := by
  intro n
  induction n with
  | zero =>
    intro l0 l1 l2 l3 M h
    exact nomatch (show (none : Option mM) = some M0 from h)
  | succ n ih =>
    intro l0 l1 l2 l3 M h
    rw [B_X1_backward_30] at h
    refine ww_iload_n 30 X dX1_backward_30 3 rfl rfl ?_
    refine ww_bipush 31 X (v := (16 : Int32)) dX1_backward_31 (by decide) ?_
    refine ww_icmp_ge 33 65 X dX1_backward_33 (by decide) (fun q => ?_) (fun q => ?_)
    · replace h := (if_pos q).symm.trans h
      refine ww_aload_n 65 X dX1_backward_65 0 rfl rfl ?_
      obtain ⟨v66, e66, h⟩ := bO_some h
      refine ww_getR 66 X dX1_backward_66 fG_X1_16 e66 ?_
      refine ww_iconst 69 X (v := (0 : Int32)) dX1_backward_69 (by decide) ?_
      refine ww_aload_n 70 X dX1_backward_70 1 rfl rfl ?_
      refine ww_iconst 71 X (v := (0 : Int32)) dX1_backward_71 (by decide) ?_
      refine ww_bipush 72 X (v := (16 : Int32)) dX1_backward_72 (by decide) ?_
      obtain ⟨M74, e74, h⟩ := bO_some h
      refine ww_cpI 74 X (st := []) dX1_backward_74 mL_X1_45 (Nat.le_of_ble_eq_true rfl) (Nat.le_of_ble_eq_true rfl) (Nat.le_of_ble_eq_true rfl) e74 ?_
      refine ww_iinc 77 X dX1_backward_77 (lv' := [(0, .ref l0), (1, .ref l1), (2, .int (l2 + (-1))), (3, .int l3)]) 2 rfl rfl (by decide) [1, 2, 0, 3] rfl ?_
      refine ww_goto 80 5 X dX1_backward_80 (by decide) ?_
      exact ww_sub [0, 1, 2] rfl (hr5 _ _ _ _ h)
    · replace h := (if_neg q).symm.trans h
      refine ww_aload_n 36 X dX1_backward_36 0 rfl rfl ?_
      obtain ⟨v37, e37, h⟩ := bO_some h
      refine ww_getR 37 X dX1_backward_37 fG_X1_16 e37 ?_
      refine ww_iload_n 40 X dX1_backward_40 3 rfl rfl ?_
      refine ww_iconst 41 X (v := (4 : Int32)) dX1_backward_41 (by decide) ?_
      refine ww_iload_n 42 X dX1_backward_42 3 rfl rfl ?_
      refine ww_iconst 43 X (v := (3 : Int32)) dX1_backward_43 (by decide) ?_
      refine ww_iand 44 X dX1_backward_44 ?_
      refine ww_imul 45 X dX1_backward_45 ?_
      refine ww_iadd 46 X dX1_backward_46 ?_
      refine ww_bipush 47 X (v := (15 : Int32)) dX1_backward_47 (by decide) ?_
      refine ww_iand 49 X dX1_backward_49 ?_
      refine ww_aload_n 50 X dX1_backward_50 0 rfl rfl ?_
      obtain ⟨v51, e51, h⟩ := bO_some h
      refine ww_getR 51 X dX1_backward_51 fG_X1_7 e51 ?_
      refine ww_aload_n 54 X dX1_backward_54 1 rfl rfl ?_
      refine ww_iload_n 55 X dX1_backward_55 3 rfl rfl ?_
      obtain ⟨v56, e56, h⟩ := bO_some h
      refine ww_iald 56 X dX1_backward_56 e56 ?_
      obtain ⟨v57, e57, h⟩ := bO_some h
      refine ww_iald 57 X dX1_backward_57 e57 ?_
      obtain ⟨M58, e58, h⟩ := bO_some h
      refine ww_iast 58 X dX1_backward_58 e58 ?_
      refine ww_iinc 59 X dX1_backward_59 (lv' := [(0, .ref l0), (1, .ref l1), (2, .int l2), (3, .int (l3 + 1))]) 3 rfl rfl (by decide) [1, 2, 3, 0] rfl ?_
      refine ww_goto 62 30 X dX1_backward_62 (by decide) ?_
      exact (ih _ _ _ _ _ h)
set_option maxHeartbeats 4000000 in
set_option maxRecDepth 100000 in
theorem wB_X1_backward_5 {G : mG} {F : Nat} {x : mXT} {sz : Nat} {M0 : mM} (X : mCX G RX1 cX1_backward 4 none "backward" rmX1_backward x) (hQ : mQV x M0 (sz, 0, 0)) : ∀ (n : Nat) (l0 : Nat) (l1 : Nat) (l2 : Int32) (M : mM), B_X1_backward_5 G F n l0 l1 l2 M = some M0 → WW x (sz, 0, 0) M 5 [(0, .ref l0), (1, .ref l1), (2, .int l2)] [] := by
  intro n
  induction n with
  | zero =>
    intro l0 l1 l2 M h
    exact nomatch (show (none : Option mM) = some M0 from h)
  | succ n ih =>
    intro l0 l1 l2 M h
    rw [B_X1_backward_5] at h
    refine ww_iload_n 5 X dX1_backward_5 2 rfl rfl ?_
    refine ww_iconst 6 X (v := (1 : Int32)) dX1_backward_6 (by decide) ?_
    refine ww_icmp_lt 7 83 X dX1_backward_7 (by decide) (fun q => ?_) (fun q => ?_)
    · replace h := (if_pos q).symm.trans h
      refine ww_aload_n 83 X dX1_backward_83 0 rfl rfl ?_
      refine ww_aload_n 84 X dX1_backward_84 1 rfl rfl ?_
      refine ww_iconst 85 X (v := (0 : Int32)) dX1_backward_85 (by decide) ?_
      obtain ⟨_, f86, h⟩ := bO_some h
      obtain ⟨M86, e86, h⟩ := bO_some h
      refine ww_callVV0 86 X dX1_backward_86 mY_X1_addRoundKey mL_X1_41 (rcv_spec f86) ⟨_, _, rfl⟩ (by decide) (As := [.ref l1, .int (0 : Int32)]) (rest := []) rfl rfl ⟨Nat.le_of_ble_eq_true rfl, Nat.le_of_ble_eq_true rfl⟩ (Nat.le_of_ble_eq_true rfl) (fun l D A => c_X1_addRoundKey l D A e86) ?_
      exact ww_vretE 89 X hQ dX1_backward_89 h
    · replace h := (if_neg q).symm.trans h
      refine ww_aload_n 10 X dX1_backward_10 0 rfl rfl ?_
      refine ww_aload_n 11 X dX1_backward_11 1 rfl rfl ?_
      refine ww_iload_n 12 X dX1_backward_12 2 rfl rfl ?_
      obtain ⟨_, f13, h⟩ := bO_some h
      obtain ⟨M13, e13, h⟩ := bO_some h
      refine ww_callVV0 13 X dX1_backward_13 mY_X1_addRoundKey mL_X1_41 (rcv_spec f13) ⟨_, _, rfl⟩ (by decide) (As := [.ref l1, .int l2]) (rest := []) rfl rfl ⟨Nat.le_of_ble_eq_true rfl, Nat.le_of_ble_eq_true rfl⟩ (Nat.le_of_ble_eq_true rfl) (fun l D A => c_X1_addRoundKey l D A e13) ?_
      refine ww_iload_n 16 X dX1_backward_16 2 rfl rfl ?_
      refine ww_aload_n 17 X dX1_backward_17 0 rfl rfl ?_
      obtain ⟨v18, e18, h⟩ := bO_some h
      refine ww_getI 18 X dX1_backward_18 fG_X1_28 e18 ?_
      refine ww_icmp_ge 21 28 X dX1_backward_21 (by decide) (fun q => ?_) (fun q => ?_)
      · replace h := (if_pos q).symm.trans h
        refine ww_iconst 28 X (v := (0 : Int32)) dX1_backward_28 (by decide) ?_
        refine ww_istore_n 29 X dX1_backward_29 (lv' := [(0, .ref l0), (1, .ref l1), (2, .int l2), (3, .int (0 : Int32))]) rfl (by decide) [1, 2, 3, 0] rfl ?_
        exact (wB_X1_backward_30 X hQ _ ih F _ _ _ _ _ h)
      · replace h := (if_neg q).symm.trans h
        refine ww_aload_n 24 X dX1_backward_24 1 rfl rfl ?_
        obtain ⟨M25, e25, h⟩ := bO_some h
        refine ww_callSV0 25 X dX1_backward_25 mY_X1_unmixColumns mL_X1_55 (As := [.ref l1]) (rest := []) rfl rfl ⟨Nat.le_of_ble_eq_true rfl, Nat.le_of_ble_eq_true rfl⟩ (Nat.le_of_ble_eq_true rfl) (fun l D A => c_X1_unmixColumns l D A e25) ?_
        refine ww_iconst 28 X (v := (0 : Int32)) dX1_backward_28 (by decide) ?_
        refine ww_istore_n 29 X dX1_backward_29 (lv' := [(0, .ref l0), (1, .ref l1), (2, .int l2), (3, .int (0 : Int32))]) rfl (by decide) [1, 2, 3, 0] rfl ?_
        exact (wB_X1_backward_30 X hQ _ ih F _ _ _ _ _ h)
set_option maxHeartbeats 4000000 in
set_option maxRecDepth 100000 in
theorem wP_X1_backward {G : mG} {F : Nat} {x : mXT} {sz : Nat} {M0 : mM} (X : mCX G RX1 cX1_backward 4 none "backward" rmX1_backward x) (hQ : mQV x M0 (sz, 0, 0)) {l0 : Nat} {l1 : Nat} {M : mM} (h : P_X1_backward G F l0 l1 M = some M0) : WW x (sz, 0, 0) M 0 [(0, .ref l0), (1, .ref l1)] [] := by
  unfold P_X1_backward at h
  refine ww_aload_n 0 X dX1_backward_0 0 rfl rfl ?_
  obtain ⟨v1, e1, h⟩ := bO_some h
  refine ww_getI 1 X dX1_backward_1 fG_X1_28 e1 ?_
  refine ww_istore_n 4 X dX1_backward_4 (lv' := [(0, .ref l0), (1, .ref l1), (2, .int v1)]) rfl (by decide) [1, 2, 0] rfl ?_
  exact (wB_X1_backward_5 X hQ F _ _ _ _ h)
theorem c_X1_backward {G : mG} {F sz : Nat} {M0 : mM} (l : Launch) (D : mD) (A : Nat → Prop) {l0 : Nat} {l1 : Nat} {M : mM} (h : P_X1_backward G F l0 l1 M = some M0) : mMetV l D G A yX1_backward cX1_backward 4 none 3 66 0 0 [.ref l0, .ref l1] M sz M0 sz := mMetV_of l D G A (by decide) (Nat.le_of_ble_eq_true rfl) (fun x X hQ => wP_X1_backward X hQ h)
/-! SealedTokens$Cipher.putBlock(LSealedTokens$Bytes;ZLSealedTokens$Bytes;)V -/
theorem dX1_putBlock_0 : decode cX1_putBlock 0 = .ok (.iconst 0, 1) := by decide +kernel
theorem dX1_putBlock_1 : decode cX1_putBlock 1 = .ok (.istore 4, 2) := by decide +kernel
theorem dX1_putBlock_3 : decode cX1_putBlock 3 = .ok (.iload 4, 2) := by decide +kernel
theorem dX1_putBlock_5 : decode cX1_putBlock 5 = .ok (.bipush 16, 2) := by decide +kernel
theorem dX1_putBlock_7 : decode cX1_putBlock 7 = .ok (.if_icmp .ge 22, 3) := by decide +kernel
theorem dX1_putBlock_10 : decode cX1_putBlock 10 = .ok (.aload_n 0, 1) := by decide +kernel
theorem dX1_putBlock_11 : decode cX1_putBlock 11 = .ok (.getfield 19, 3) := by decide +kernel
theorem dX1_putBlock_14 : decode cX1_putBlock 14 = .ok (.iload 4, 2) := by decide +kernel
theorem dX1_putBlock_16 : decode cX1_putBlock 16 = .ok (.aload_n 1, 1) := by decide +kernel
theorem dX1_putBlock_17 : decode cX1_putBlock 17 = .ok (.iload 4, 2) := by decide +kernel
theorem dX1_putBlock_19 : decode cX1_putBlock 19 = .ok (.invokevirtual 32, 3) := by decide +kernel
theorem dX1_putBlock_22 : decode cX1_putBlock 22 = .ok (.iastore, 1) := by decide +kernel
theorem dX1_putBlock_23 : decode cX1_putBlock 23 = .ok (.iinc 4 1, 3) := by decide +kernel
theorem dX1_putBlock_26 : decode cX1_putBlock 26 = .ok (.goto (-23), 3) := by decide +kernel
theorem dX1_putBlock_29 : decode cX1_putBlock 29 = .ok (.iload_n 2, 1) := by decide +kernel
theorem dX1_putBlock_30 : decode cX1_putBlock 30 = .ok (.ifCond .eq 14, 3) := by decide +kernel
theorem dX1_putBlock_33 : decode cX1_putBlock 33 = .ok (.aload_n 0, 1) := by decide +kernel
theorem dX1_putBlock_34 : decode cX1_putBlock 34 = .ok (.aload_n 0, 1) := by decide +kernel
theorem dX1_putBlock_35 : decode cX1_putBlock 35 = .ok (.getfield 19, 3) := by decide +kernel
theorem dX1_putBlock_38 : decode cX1_putBlock 38 = .ok (.invokevirtual 58, 3) := by decide +kernel
theorem dX1_putBlock_41 : decode cX1_putBlock 41 = .ok (.goto 11, 3) := by decide +kernel
theorem dX1_putBlock_44 : decode cX1_putBlock 44 = .ok (.aload_n 0, 1) := by decide +kernel
theorem dX1_putBlock_45 : decode cX1_putBlock 45 = .ok (.aload_n 0, 1) := by decide +kernel
theorem dX1_putBlock_46 : decode cX1_putBlock 46 = .ok (.getfield 19, 3) := by decide +kernel
theorem dX1_putBlock_49 : decode cX1_putBlock 49 = .ok (.invokevirtual 61, 3) := by decide +kernel
theorem dX1_putBlock_52 : decode cX1_putBlock 52 = .ok (.iconst 0, 1) := by decide +kernel
theorem dX1_putBlock_53 : decode cX1_putBlock 53 = .ok (.istore 4, 2) := by decide +kernel
theorem dX1_putBlock_55 : decode cX1_putBlock 55 = .ok (.iload 4, 2) := by decide +kernel
theorem dX1_putBlock_57 : decode cX1_putBlock 57 = .ok (.bipush 16, 2) := by decide +kernel
theorem dX1_putBlock_59 : decode cX1_putBlock 59 = .ok (.if_icmp .ge 20, 3) := by decide +kernel
theorem dX1_putBlock_62 : decode cX1_putBlock 62 = .ok (.aload_n 3, 1) := by decide +kernel
theorem dX1_putBlock_63 : decode cX1_putBlock 63 = .ok (.aload_n 0, 1) := by decide +kernel
theorem dX1_putBlock_64 : decode cX1_putBlock 64 = .ok (.getfield 19, 3) := by decide +kernel
theorem dX1_putBlock_67 : decode cX1_putBlock 67 = .ok (.iload 4, 2) := by decide +kernel
theorem dX1_putBlock_69 : decode cX1_putBlock 69 = .ok (.iaload, 1) := by decide +kernel
theorem dX1_putBlock_70 : decode cX1_putBlock 70 = .ok (.invokevirtual 64, 3) := by decide +kernel
theorem dX1_putBlock_73 : decode cX1_putBlock 73 = .ok (.iinc 4 1, 3) := by decide +kernel
theorem dX1_putBlock_76 : decode cX1_putBlock 76 = .ok (.goto (-21), 3) := by decide +kernel
theorem dX1_putBlock_79 : decode cX1_putBlock 79 = .ok (.return_, 1) := by decide +kernel
abbrev rmX1_putBlock : Room := { frames := 4, cells := 0, slots := 0, locals := 89 }
set_option maxHeartbeats 4000000 in
set_option maxRecDepth 100000 in
theorem wB_X1_putBlock_55 {G : mG} {F : Nat} {x : mXT} {sz : Nat} {M0 : mM} (X : mCX G RX1 cX1_putBlock 5 none "putBlock" rmX1_putBlock x) (hQ : mQV x M0 (sz, 0, 0)) : ∀ (n : Nat) (l0 : Nat) (l3 : Nat) (l4 : Int32) (M : mM), B_X1_putBlock_55 G F n l0 l3 l4 M = some M0 → WW x (sz, 0, 0) M 55 [(0, .ref l0), (3, .ref l3), (4, .int l4)] [] := by
  intro n
  induction n with
  | zero =>
    intro l0 l3 l4 M h
    exact nomatch (show (none : Option mM) = some M0 from h)
  | succ n ih =>
    intro l0 l3 l4 M h
    rw [B_X1_putBlock_55] at h
    refine ww_iload 55 X dX1_putBlock_55 2 rfl ?_
    refine ww_bipush 57 X (v := (16 : Int32)) dX1_putBlock_57 (by decide) ?_
    refine ww_icmp_ge 59 79 X dX1_putBlock_59 (by decide) (fun q => ?_) (fun q => ?_)
    · replace h := (if_pos q).symm.trans h
      exact ww_vretE 79 X hQ dX1_putBlock_79 h
    · replace h := (if_neg q).symm.trans h
      refine ww_aload_n 62 X dX1_putBlock_62 1 rfl rfl ?_
      refine ww_aload_n 63 X dX1_putBlock_63 0 rfl rfl ?_
      obtain ⟨v64, e64, h⟩ := bO_some h
      refine ww_getR 64 X dX1_putBlock_64 fG_X1_19 e64 ?_
      refine ww_iload 67 X dX1_putBlock_67 2 rfl ?_
      obtain ⟨v69, e69, h⟩ := bO_some h
      refine ww_iald 69 X dX1_putBlock_69 e69 ?_
      obtain ⟨_, f70, h⟩ := bO_some h
      obtain ⟨M70, e70, h⟩ := bO_some h
      refine ww_callVV0 70 X dX1_putBlock_70 mY_X0_put mL_X1_64 (rcv_spec f70) ⟨_, _, rfl⟩ (by decide) (As := [.int v69]) (rest := []) rfl rfl ⟨Nat.le_of_ble_eq_true rfl, Nat.le_of_ble_eq_true rfl⟩ (Nat.le_of_ble_eq_true rfl) (fun l D A => c_X0_put l D A e70) ?_
      refine ww_iinc 73 X dX1_putBlock_73 (lv' := [(0, .ref l0), (3, .ref l3), (4, .int (l4 + 1))]) 2 rfl rfl (by decide) [1, 2, 0] rfl ?_
      refine ww_goto 76 55 X dX1_putBlock_76 (by decide) ?_
      exact (ih _ _ _ _ h)
set_option maxHeartbeats 4000000 in
set_option maxRecDepth 100000 in
theorem wB_X1_putBlock_3 {G : mG} {F : Nat} {x : mXT} {sz : Nat} {M0 : mM} (X : mCX G RX1 cX1_putBlock 5 none "putBlock" rmX1_putBlock x) (hQ : mQV x M0 (sz, 0, 0)) : ∀ (n : Nat) (l0 : Nat) (l1 : Nat) (l2 : Int32) (l3 : Nat) (l4 : Int32) (M : mM), B_X1_putBlock_3 G F n l0 l1 l2 l3 l4 M = some M0 → WW x (sz, 0, 0) M 3 [(0, .ref l0), (1, .ref l1), (2, .int l2), (3, .ref l3), (4, .int l4)] [] := by
  intro n
  induction n with
  | zero =>
    intro l0 l1 l2 l3 l4 M h
    exact nomatch (show (none : Option mM) = some M0 from h)
  | succ n ih =>
    intro l0 l1 l2 l3 l4 M h
    rw [B_X1_putBlock_3] at h
    refine ww_iload 3 X dX1_putBlock_3 4 rfl ?_
    refine ww_bipush 5 X (v := (16 : Int32)) dX1_putBlock_5 (by decide) ?_
    refine ww_icmp_ge 7 29 X dX1_putBlock_7 (by decide) (fun q => ?_) (fun q => ?_)
    · replace h := (if_pos q).symm.trans h
      refine ww_iload_n 29 X dX1_putBlock_29 2 rfl rfl ?_
      refine ww_if_eq 30 44 X dX1_putBlock_30 (by decide) (fun q => ?_) (fun q => ?_)
      · replace h := (if_pos q).symm.trans h
        refine ww_aload_n 44 X dX1_putBlock_44 0 rfl rfl ?_
        refine ww_aload_n 45 X dX1_putBlock_45 0 rfl rfl ?_
        obtain ⟨v46, e46, h⟩ := bO_some h
        refine ww_getR 46 X dX1_putBlock_46 fG_X1_19 e46 ?_
        obtain ⟨_, f49, h⟩ := bO_some h
        obtain ⟨M49, e49, h⟩ := bO_some h
        refine ww_callVV0 49 X dX1_putBlock_49 mY_X1_forward mL_X1_61 (rcv_spec f49) ⟨_, _, rfl⟩ (by decide) (As := [.ref v46]) (rest := []) rfl rfl ⟨Nat.le_of_ble_eq_true rfl, Nat.le_of_ble_eq_true rfl⟩ (Nat.le_of_ble_eq_true rfl) (fun l D A => c_X1_forward l D A e49) ?_
        refine ww_iconst 52 X (v := (0 : Int32)) dX1_putBlock_52 (by decide) ?_
        refine ww_istore 53 X dX1_putBlock_53 (lv' := [(0, .ref l0), (1, .ref l1), (2, .int l2), (3, .ref l3), (4, .int (0 : Int32))]) (by decide) [1, 2, 3, 4, 0] rfl ?_
        exact ww_sub [0, 3, 4] rfl (wB_X1_putBlock_55 X hQ F _ _ _ _ h)
      · replace h := (if_neg q).symm.trans h
        refine ww_aload_n 33 X dX1_putBlock_33 0 rfl rfl ?_
        refine ww_aload_n 34 X dX1_putBlock_34 0 rfl rfl ?_
        obtain ⟨v35, e35, h⟩ := bO_some h
        refine ww_getR 35 X dX1_putBlock_35 fG_X1_19 e35 ?_
        obtain ⟨_, f38, h⟩ := bO_some h
        obtain ⟨M38, e38, h⟩ := bO_some h
        refine ww_callVV0 38 X dX1_putBlock_38 mY_X1_backward mL_X1_58 (rcv_spec f38) ⟨_, _, rfl⟩ (by decide) (As := [.ref v35]) (rest := []) rfl rfl ⟨Nat.le_of_ble_eq_true rfl, Nat.le_of_ble_eq_true rfl⟩ (Nat.le_of_ble_eq_true rfl) (fun l D A => c_X1_backward l D A e38) ?_
        refine ww_goto 41 52 X dX1_putBlock_41 (by decide) ?_
        refine ww_iconst 52 X (v := (0 : Int32)) dX1_putBlock_52 (by decide) ?_
        refine ww_istore 53 X dX1_putBlock_53 (lv' := [(0, .ref l0), (1, .ref l1), (2, .int l2), (3, .ref l3), (4, .int (0 : Int32))]) (by decide) [1, 2, 3, 4, 0] rfl ?_
        exact ww_sub [0, 3, 4] rfl (wB_X1_putBlock_55 X hQ F _ _ _ _ h)
    · replace h := (if_neg q).symm.trans h
      refine ww_aload_n 10 X dX1_putBlock_10 0 rfl rfl ?_
      obtain ⟨v11, e11, h⟩ := bO_some h
      refine ww_getR 11 X dX1_putBlock_11 fG_X1_19 e11 ?_
      refine ww_iload 14 X dX1_putBlock_14 4 rfl ?_
      refine ww_aload_n 16 X dX1_putBlock_16 1 rfl rfl ?_
      refine ww_iload 17 X dX1_putBlock_17 4 rfl ?_
      obtain ⟨_, f19, h⟩ := bO_some h
      obtain ⟨v19, M19, e19, h⟩ := bP_some h
      refine ww_callVI0 19 X dX1_putBlock_19 mY_X0_get mL_X1_32 (rcv_spec f19) ⟨_, _, rfl⟩ (by decide) (As := [.int l4]) (rest := [.int l4, .ref v11]) rfl rfl ⟨Nat.le_of_ble_eq_true rfl, Nat.le_of_ble_eq_true rfl⟩ (Nat.le_of_ble_eq_true rfl) (fun l D A => c_X0_get l D A e19) ?_
      obtain ⟨M22, e22, h⟩ := bO_some h
      refine ww_iast 22 X dX1_putBlock_22 e22 ?_
      refine ww_iinc 23 X dX1_putBlock_23 (lv' := [(0, .ref l0), (1, .ref l1), (2, .int l2), (3, .ref l3), (4, .int (l4 + 1))]) 4 rfl rfl (by decide) [1, 2, 3, 4, 0] rfl ?_
      refine ww_goto 26 3 X dX1_putBlock_26 (by decide) ?_
      exact (ih _ _ _ _ _ _ h)
set_option maxHeartbeats 4000000 in
set_option maxRecDepth 100000 in
theorem wP_X1_putBlock {G : mG} {F : Nat} {x : mXT} {sz : Nat} {M0 : mM} (X : mCX G RX1 cX1_putBlock 5 none "putBlock" rmX1_putBlock x) (hQ : mQV x M0 (sz, 0, 0)) {l0 : Nat} {l1 : Nat} {l2 : Int32} {l3 : Nat} {M : mM} (h : P_X1_putBlock G F l0 l1 l2 l3 M = some M0) : WW x (sz, 0, 0) M 0 [(0, .ref l0), (1, .ref l1), (2, .int l2), (3, .ref l3)] [] := by
  unfold P_X1_putBlock at h
  refine ww_iconst 0 X (v := (0 : Int32)) dX1_putBlock_0 (by decide) ?_
  refine ww_istore 1 X dX1_putBlock_1 (lv' := [(0, .ref l0), (1, .ref l1), (2, .int l2), (3, .ref l3), (4, .int (0 : Int32))]) (by decide) [1, 2, 3, 4, 0] rfl ?_
  exact (wB_X1_putBlock_3 X hQ F _ _ _ _ _ _ h)
theorem c_X1_putBlock {G : mG} {F sz : Nat} {M0 : mM} (l : Launch) (D : mD) (A : Nat → Prop) {l0 : Nat} {l1 : Nat} {l2 : Int32} {l3 : Nat} {M : mM} (h : P_X1_putBlock G F l0 l1 l2 l3 M = some M0) : mMetV l D G A yX1_putBlock cX1_putBlock 5 none 4 89 0 0 [.ref l0, .ref l1, .int l2, .ref l3] M sz M0 sz := mMetV_of l D G A (by decide) (Nat.le_of_ble_eq_true rfl) (fun x X hQ => wP_X1_putBlock X hQ h)
/-! SealedTokens$Cipher.mayWrap(I)Z -/
theorem dX1_mayWrap_0 : decode cX1_mayWrap 0 = .ok (.iload_n 0, 1) := by decide +kernel
theorem dX1_mayWrap_1 : decode cX1_mayWrap 1 = .ok (.bipush 16, 2) := by decide +kernel
theorem dX1_mayWrap_3 : decode cX1_mayWrap 3 = .ok (.if_icmp .lt 20, 3) := by decide +kernel
theorem dX1_mayWrap_6 : decode cX1_mayWrap 6 = .ok (.iload_n 0, 1) := by decide +kernel
theorem dX1_mayWrap_7 : decode cX1_mayWrap 7 = .ok (.bipush 64, 2) := by decide +kernel
theorem dX1_mayWrap_9 : decode cX1_mayWrap 9 = .ok (.if_icmp .gt 14, 3) := by decide +kernel
theorem dX1_mayWrap_12 : decode cX1_mayWrap 12 = .ok (.iload_n 0, 1) := by decide +kernel
theorem dX1_mayWrap_13 : decode cX1_mayWrap 13 = .ok (.bipush 7, 2) := by decide +kernel
theorem dX1_mayWrap_15 : decode cX1_mayWrap 15 = .ok (.iand, 1) := by decide +kernel
theorem dX1_mayWrap_16 : decode cX1_mayWrap 16 = .ok (.ifCond .ne 7, 3) := by decide +kernel
theorem dX1_mayWrap_19 : decode cX1_mayWrap 19 = .ok (.iconst 1, 1) := by decide +kernel
theorem dX1_mayWrap_20 : decode cX1_mayWrap 20 = .ok (.goto 4, 3) := by decide +kernel
theorem dX1_mayWrap_23 : decode cX1_mayWrap 23 = .ok (.iconst 0, 1) := by decide +kernel
theorem dX1_mayWrap_24 : decode cX1_mayWrap 24 = .ok (.ireturn, 1) := by decide +kernel
abbrev rmX1_mayWrap : Room := { frames := 0, cells := 0, slots := 0, locals := 0 }
set_option maxHeartbeats 4000000 in
set_option maxRecDepth 100000 in
theorem wP_X1_mayWrap {G : mG} {F : Nat} {x : mXT} {sz : Nat} {r0 : Int32} {M0 : mM} (X : mCX G RX1 cX1_mayWrap 1 (some .boolean) "mayWrap" rmX1_mayWrap x) (hQ : mQI x r0 M0 (sz, 0, 0)) {l0 : Int32} {M : mM} (h : P_X1_mayWrap G F l0 M = some (r0, M0)) : WW x (sz, 0, 0) M 0 [(0, .int l0)] [] := by
  unfold P_X1_mayWrap at h
  refine ww_iload_n 0 X dX1_mayWrap_0 0 rfl rfl ?_
  refine ww_bipush 1 X (v := (16 : Int32)) dX1_mayWrap_1 (by decide) ?_
  refine ww_icmp_lt 3 23 X dX1_mayWrap_3 (by decide) (fun q => ?_) (fun q => ?_)
  · replace h := (if_pos q).symm.trans h
    refine ww_iconst 23 X (v := (0 : Int32)) dX1_mayWrap_23 (by decide) ?_
    exact ww_zretE 24 X hQ dX1_mayWrap_24 h
  · replace h := (if_neg q).symm.trans h
    refine ww_iload_n 6 X dX1_mayWrap_6 0 rfl rfl ?_
    refine ww_bipush 7 X (v := (64 : Int32)) dX1_mayWrap_7 (by decide) ?_
    refine ww_icmp_gt 9 23 X dX1_mayWrap_9 (by decide) (fun q => ?_) (fun q => ?_)
    · replace h := (if_pos q).symm.trans h
      refine ww_iconst 23 X (v := (0 : Int32)) dX1_mayWrap_23 (by decide) ?_
      exact ww_zretE 24 X hQ dX1_mayWrap_24 h
    · replace h := (if_neg q).symm.trans h
      refine ww_iload_n 12 X dX1_mayWrap_12 0 rfl rfl ?_
      refine ww_bipush 13 X (v := (7 : Int32)) dX1_mayWrap_13 (by decide) ?_
      refine ww_iand 15 X dX1_mayWrap_15 ?_
      refine ww_if_ne 16 23 X dX1_mayWrap_16 (by decide) (fun q => ?_) (fun q => ?_)
      · replace h := (if_neg q).symm.trans h
        refine ww_iconst 23 X (v := (0 : Int32)) dX1_mayWrap_23 (by decide) ?_
        exact ww_zretE 24 X hQ dX1_mayWrap_24 h
      · replace h := (if_pos q).symm.trans h
        refine ww_iconst 19 X (v := (1 : Int32)) dX1_mayWrap_19 (by decide) ?_
        refine ww_goto 20 24 X dX1_mayWrap_20 (by decide) ?_
        exact ww_zretE 24 X hQ dX1_mayWrap_24 h
theorem c_X1_mayWrap {G : mG} {F sz : Nat} {r0 : Int32} {M0 : mM} (l : Launch) (D : mD) (A : Nat → Prop) {l0 : Int32} {M : mM} (h : P_X1_mayWrap G F l0 M = some (r0, M0)) : mMetI l D G A yX1_mayWrap cX1_mayWrap 1 (some .boolean) 0 0 0 0 [.int l0] M sz r0 M0 sz := mMetI_of l D G A (by decide) (Nat.le_of_ble_eq_true rfl) (fun x X hQ => wP_X1_mayWrap X hQ h)
/-! SealedTokens$Cipher.putWrapped(LSealedTokens$Bytes;LSealedTokens$Bytes;LSealedTokens$Bytes;)V -/
theorem dX1_putWrapped_0 : decode cX1_putWrapped 0 = .ok (.aload_n 2, 1) := by decide +kernel
theorem dX1_putWrapped_1 : decode cX1_putWrapped 1 = .ok (.getfield 68, 3) := by decide +kernel
theorem dX1_putWrapped_4 : decode cX1_putWrapped 4 = .ok (.invokestatic 71, 3) := by decide +kernel
theorem dX1_putWrapped_7 : decode cX1_putWrapped 7 = .ok (.ifCond .ne 4, 3) := by decide +kernel
theorem dX1_putWrapped_10 : decode cX1_putWrapped 10 = .ok (.return_, 1) := by decide +kernel
theorem dX1_putWrapped_11 : decode cX1_putWrapped 11 = .ok (.aload_n 0, 1) := by decide +kernel
theorem dX1_putWrapped_12 : decode cX1_putWrapped 12 = .ok (.aload_n 1, 1) := by decide +kernel
theorem dX1_putWrapped_13 : decode cX1_putWrapped 13 = .ok (.iconst 0, 1) := by decide +kernel
theorem dX1_putWrapped_14 : decode cX1_putWrapped 14 = .ok (.aload_n 1, 1) := by decide +kernel
theorem dX1_putWrapped_15 : decode cX1_putWrapped 15 = .ok (.getfield 68, 3) := by decide +kernel
theorem dX1_putWrapped_18 : decode cX1_putWrapped 18 = .ok (.invokevirtual 75, 3) := by decide +kernel
theorem dX1_putWrapped_21 : decode cX1_putWrapped 21 = .ok (.aload_n 2, 1) := by decide +kernel
theorem dX1_putWrapped_22 : decode cX1_putWrapped 22 = .ok (.getfield 68, 3) := by decide +kernel
theorem dX1_putWrapped_25 : decode cX1_putWrapped 25 = .ok (.bipush 8, 2) := by decide +kernel
theorem dX1_putWrapped_27 : decode cX1_putWrapped 27 = .ok (.idiv, 1) := by decide +kernel
theorem dX1_putWrapped_28 : decode cX1_putWrapped 28 = .ok (.istore 4, 2) := by decide +kernel
theorem dX1_putWrapped_30 : decode cX1_putWrapped 30 = .ok (.iconst 0, 1) := by decide +kernel
theorem dX1_putWrapped_31 : decode cX1_putWrapped 31 = .ok (.istore 5, 2) := by decide +kernel
theorem dX1_putWrapped_33 : decode cX1_putWrapped 33 = .ok (.iload 5, 2) := by decide +kernel
theorem dX1_putWrapped_35 : decode cX1_putWrapped 35 = .ok (.aload_n 2, 1) := by decide +kernel
theorem dX1_putWrapped_36 : decode cX1_putWrapped 36 = .ok (.getfield 68, 3) := by decide +kernel
theorem dX1_putWrapped_39 : decode cX1_putWrapped 39 = .ok (.if_icmp .ge 25, 3) := by decide +kernel
theorem dX1_putWrapped_42 : decode cX1_putWrapped 42 = .ok (.aload_n 0, 1) := by decide +kernel
theorem dX1_putWrapped_43 : decode cX1_putWrapped 43 = .ok (.getfield 22, 3) := by decide +kernel
theorem dX1_putWrapped_46 : decode cX1_putWrapped 46 = .ok (.bipush 8, 2) := by decide +kernel
theorem dX1_putWrapped_48 : decode cX1_putWrapped 48 = .ok (.iload 5, 2) := by decide +kernel
theorem dX1_putWrapped_50 : decode cX1_putWrapped 50 = .ok (.iadd, 1) := by decide +kernel
theorem dX1_putWrapped_51 : decode cX1_putWrapped 51 = .ok (.aload_n 2, 1) := by decide +kernel
theorem dX1_putWrapped_52 : decode cX1_putWrapped 52 = .ok (.iload 5, 2) := by decide +kernel
theorem dX1_putWrapped_54 : decode cX1_putWrapped 54 = .ok (.invokevirtual 32, 3) := by decide +kernel
theorem dX1_putWrapped_57 : decode cX1_putWrapped 57 = .ok (.iastore, 1) := by decide +kernel
theorem dX1_putWrapped_58 : decode cX1_putWrapped 58 = .ok (.iinc 5 1, 3) := by decide +kernel
theorem dX1_putWrapped_61 : decode cX1_putWrapped 61 = .ok (.goto (-28), 3) := by decide +kernel
theorem dX1_putWrapped_64 : decode cX1_putWrapped 64 = .ok (.iconst 0, 1) := by decide +kernel
theorem dX1_putWrapped_65 : decode cX1_putWrapped 65 = .ok (.istore 5, 2) := by decide +kernel
theorem dX1_putWrapped_67 : decode cX1_putWrapped 67 = .ok (.iload 5, 2) := by decide +kernel
theorem dX1_putWrapped_69 : decode cX1_putWrapped 69 = .ok (.bipush 8, 2) := by decide +kernel
theorem dX1_putWrapped_71 : decode cX1_putWrapped 71 = .ok (.if_icmp .ge 19, 3) := by decide +kernel
theorem dX1_putWrapped_74 : decode cX1_putWrapped 74 = .ok (.aload_n 0, 1) := by decide +kernel
theorem dX1_putWrapped_75 : decode cX1_putWrapped 75 = .ok (.getfield 19, 3) := by decide +kernel
theorem dX1_putWrapped_78 : decode cX1_putWrapped 78 = .ok (.iload 5, 2) := by decide +kernel
theorem dX1_putWrapped_80 : decode cX1_putWrapped 80 = .ok (.sipush 166, 3) := by decide +kernel
theorem dX1_putWrapped_83 : decode cX1_putWrapped 83 = .ok (.iastore, 1) := by decide +kernel
theorem dX1_putWrapped_84 : decode cX1_putWrapped 84 = .ok (.iinc 5 1, 3) := by decide +kernel
theorem dX1_putWrapped_87 : decode cX1_putWrapped 87 = .ok (.goto (-20), 3) := by decide +kernel
theorem dX1_putWrapped_90 : decode cX1_putWrapped 90 = .ok (.iconst 0, 1) := by decide +kernel
theorem dX1_putWrapped_91 : decode cX1_putWrapped 91 = .ok (.istore 5, 2) := by decide +kernel
theorem dX1_putWrapped_93 : decode cX1_putWrapped 93 = .ok (.iload 5, 2) := by decide +kernel
theorem dX1_putWrapped_95 : decode cX1_putWrapped 95 = .ok (.bipush 6, 2) := by decide +kernel
theorem dX1_putWrapped_97 : decode cX1_putWrapped 97 = .ok (.iload 4, 2) := by decide +kernel
theorem dX1_putWrapped_99 : decode cX1_putWrapped 99 = .ok (.imul, 1) := by decide +kernel
theorem dX1_putWrapped_100 : decode cX1_putWrapped 100 = .ok (.if_icmp .ge 82, 3) := by decide +kernel
theorem dX1_putWrapped_103 : decode cX1_putWrapped 103 = .ok (.bipush 8, 2) := by decide +kernel
theorem dX1_putWrapped_105 : decode cX1_putWrapped 105 = .ok (.bipush 8, 2) := by decide +kernel
theorem dX1_putWrapped_107 : decode cX1_putWrapped 107 = .ok (.iload 5, 2) := by decide +kernel
theorem dX1_putWrapped_109 : decode cX1_putWrapped 109 = .ok (.iload 4, 2) := by decide +kernel
theorem dX1_putWrapped_111 : decode cX1_putWrapped 111 = .ok (.iconst 1, 1) := by decide +kernel
theorem dX1_putWrapped_112 : decode cX1_putWrapped 112 = .ok (.invokestatic 79, 3) := by decide +kernel
theorem dX1_putWrapped_115 : decode cX1_putWrapped 115 = .ok (.irem, 1) := by decide +kernel
theorem dX1_putWrapped_116 : decode cX1_putWrapped 116 = .ok (.imul, 1) := by decide +kernel
theorem dX1_putWrapped_117 : decode cX1_putWrapped 117 = .ok (.iadd, 1) := by decide +kernel
theorem dX1_putWrapped_118 : decode cX1_putWrapped 118 = .ok (.istore 6, 2) := by decide +kernel
theorem dX1_putWrapped_120 : decode cX1_putWrapped 120 = .ok (.aload_n 0, 1) := by decide +kernel
theorem dX1_putWrapped_121 : decode cX1_putWrapped 121 = .ok (.getfield 22, 3) := by decide +kernel
theorem dX1_putWrapped_124 : decode cX1_putWrapped 124 = .ok (.iload 6, 2) := by decide +kernel
theorem dX1_putWrapped_126 : decode cX1_putWrapped 126 = .ok (.aload_n 0, 1) := by decide +kernel
theorem dX1_putWrapped_127 : decode cX1_putWrapped 127 = .ok (.getfield 19, 3) := by decide +kernel
theorem dX1_putWrapped_130 : decode cX1_putWrapped 130 = .ok (.bipush 8, 2) := by decide +kernel
theorem dX1_putWrapped_132 : decode cX1_putWrapped 132 = .ok (.bipush 8, 2) := by decide +kernel
theorem dX1_putWrapped_134 : decode cX1_putWrapped 134 = .ok (.invokestatic 45, 3) := by decide +kernel
theorem dX1_putWrapped_137 : decode cX1_putWrapped 137 = .ok (.aload_n 0, 1) := by decide +kernel
theorem dX1_putWrapped_138 : decode cX1_putWrapped 138 = .ok (.aload_n 0, 1) := by decide +kernel
theorem dX1_putWrapped_139 : decode cX1_putWrapped 139 = .ok (.getfield 19, 3) := by decide +kernel
theorem dX1_putWrapped_142 : decode cX1_putWrapped 142 = .ok (.invokevirtual 61, 3) := by decide +kernel
theorem dX1_putWrapped_145 : decode cX1_putWrapped 145 = .ok (.aload_n 0, 1) := by decide +kernel
theorem dX1_putWrapped_146 : decode cX1_putWrapped 146 = .ok (.getfield 19, 3) := by decide +kernel
theorem dX1_putWrapped_149 : decode cX1_putWrapped 149 = .ok (.bipush 7, 2) := by decide +kernel
theorem dX1_putWrapped_151 : decode cX1_putWrapped 151 = .ok (.dup2, 1) := by decide +kernel
theorem dX1_putWrapped_152 : decode cX1_putWrapped 152 = .ok (.iaload, 1) := by decide +kernel
theorem dX1_putWrapped_153 : decode cX1_putWrapped 153 = .ok (.iload 5, 2) := by decide +kernel
theorem dX1_putWrapped_155 : decode cX1_putWrapped 155 = .ok (.iconst 1, 1) := by decide +kernel
theorem dX1_putWrapped_156 : decode cX1_putWrapped 156 = .ok (.iadd, 1) := by decide +kernel
theorem dX1_putWrapped_157 : decode cX1_putWrapped 157 = .ok (.ixor, 1) := by decide +kernel
theorem dX1_putWrapped_158 : decode cX1_putWrapped 158 = .ok (.iastore, 1) := by decide +kernel
theorem dX1_putWrapped_159 : decode cX1_putWrapped 159 = .ok (.aload_n 0, 1) := by decide +kernel
theorem dX1_putWrapped_160 : decode cX1_putWrapped 160 = .ok (.getfield 19, 3) := by decide +kernel
theorem dX1_putWrapped_163 : decode cX1_putWrapped 163 = .ok (.bipush 8, 2) := by decide +kernel
theorem dX1_putWrapped_165 : decode cX1_putWrapped 165 = .ok (.aload_n 0, 1) := by decide +kernel
theorem dX1_putWrapped_166 : decode cX1_putWrapped 166 = .ok (.getfield 22, 3) := by decide +kernel
theorem dX1_putWrapped_169 : decode cX1_putWrapped 169 = .ok (.iload 6, 2) := by decide +kernel
theorem dX1_putWrapped_171 : decode cX1_putWrapped 171 = .ok (.bipush 8, 2) := by decide +kernel
theorem dX1_putWrapped_173 : decode cX1_putWrapped 173 = .ok (.invokestatic 45, 3) := by decide +kernel
theorem dX1_putWrapped_176 : decode cX1_putWrapped 176 = .ok (.iinc 5 1, 3) := by decide +kernel
theorem dX1_putWrapped_179 : decode cX1_putWrapped 179 = .ok (.goto (-86), 3) := by decide +kernel
theorem dX1_putWrapped_182 : decode cX1_putWrapped 182 = .ok (.aload_n 0, 1) := by decide +kernel
theorem dX1_putWrapped_183 : decode cX1_putWrapped 183 = .ok (.getfield 19, 3) := by decide +kernel
theorem dX1_putWrapped_186 : decode cX1_putWrapped 186 = .ok (.iconst 0, 1) := by decide +kernel
theorem dX1_putWrapped_187 : decode cX1_putWrapped 187 = .ok (.aload_n 0, 1) := by decide +kernel
theorem dX1_putWrapped_188 : decode cX1_putWrapped 188 = .ok (.getfield 22, 3) := by decide +kernel
theorem dX1_putWrapped_191 : decode cX1_putWrapped 191 = .ok (.iconst 0, 1) := by decide +kernel
theorem dX1_putWrapped_192 : decode cX1_putWrapped 192 = .ok (.bipush 8, 2) := by decide +kernel
theorem dX1_putWrapped_194 : decode cX1_putWrapped 194 = .ok (.invokestatic 45, 3) := by decide +kernel
theorem dX1_putWrapped_197 : decode cX1_putWrapped 197 = .ok (.aload_n 3, 1) := by decide +kernel
theorem dX1_putWrapped_198 : decode cX1_putWrapped 198 = .ok (.invokevirtual 85, 3) := by decide +kernel
theorem dX1_putWrapped_201 : decode cX1_putWrapped 201 = .ok (.iconst 0, 1) := by decide +kernel
theorem dX1_putWrapped_202 : decode cX1_putWrapped 202 = .ok (.istore 5, 2) := by decide +kernel
theorem dX1_putWrapped_204 : decode cX1_putWrapped 204 = .ok (.iload 5, 2) := by decide +kernel
theorem dX1_putWrapped_206 : decode cX1_putWrapped 206 = .ok (.aload_n 2, 1) := by decide +kernel
theorem dX1_putWrapped_207 : decode cX1_putWrapped 207 = .ok (.getfield 68, 3) := by decide +kernel
theorem dX1_putWrapped_210 : decode cX1_putWrapped 210 = .ok (.bipush 8, 2) := by decide +kernel
theorem dX1_putWrapped_212 : decode cX1_putWrapped 212 = .ok (.iadd, 1) := by decide +kernel
theorem dX1_putWrapped_213 : decode cX1_putWrapped 213 = .ok (.if_icmp .ge 20, 3) := by decide +kernel
theorem dX1_putWrapped_216 : decode cX1_putWrapped 216 = .ok (.aload_n 3, 1) := by decide +kernel
theorem dX1_putWrapped_217 : decode cX1_putWrapped 217 = .ok (.aload_n 0, 1) := by decide +kernel
theorem dX1_putWrapped_218 : decode cX1_putWrapped 218 = .ok (.getfield 22, 3) := by decide +kernel
theorem dX1_putWrapped_221 : decode cX1_putWrapped 221 = .ok (.iload 5, 2) := by decide +kernel
theorem dX1_putWrapped_223 : decode cX1_putWrapped 223 = .ok (.iaload, 1) := by decide +kernel
theorem dX1_putWrapped_224 : decode cX1_putWrapped 224 = .ok (.invokevirtual 64, 3) := by decide +kernel
theorem dX1_putWrapped_227 : decode cX1_putWrapped 227 = .ok (.iinc 5 1, 3) := by decide +kernel
theorem dX1_putWrapped_230 : decode cX1_putWrapped 230 = .ok (.goto (-26), 3) := by decide +kernel
theorem dX1_putWrapped_233 : decode cX1_putWrapped 233 = .ok (.return_, 1) := by decide +kernel
abbrev rmX1_putWrapped : Room := { frames := 3, cells := 0, slots := 0, locals := 83 }
set_option maxHeartbeats 4000000 in
set_option maxRecDepth 100000 in
theorem wB_X1_putWrapped_204 {G : mG} {F : Nat} {x : mXT} {sz : Nat} {M0 : mM} (X : mCX G RX1 cX1_putWrapped 7 none "putWrapped" rmX1_putWrapped x) (hQ : mQV x M0 (sz, 0, 0)) : ∀ (n : Nat) (l0 : Nat) (l2 : Nat) (l3 : Nat) (l5 : Int32) (M : mM), B_X1_putWrapped_204 G F n l0 l2 l3 l5 M = some M0 → WW x (sz, 0, 0) M 204 [(0, .ref l0), (2, .ref l2), (3, .ref l3), (5, .int l5)] [] := by
  intro n
  induction n with
  | zero =>
    intro l0 l2 l3 l5 M h
    exact nomatch (show (none : Option mM) = some M0 from h)
  | succ n ih =>
    intro l0 l2 l3 l5 M h
    rw [B_X1_putWrapped_204] at h
    refine ww_iload 204 X dX1_putWrapped_204 3 rfl ?_
    refine ww_aload_n 206 X dX1_putWrapped_206 1 rfl rfl ?_
    obtain ⟨v207, e207, h⟩ := bO_some h
    refine ww_getI 207 X dX1_putWrapped_207 fG_X1_68 e207 ?_
    refine ww_bipush 210 X (v := (8 : Int32)) dX1_putWrapped_210 (by decide) ?_
    refine ww_iadd 212 X dX1_putWrapped_212 ?_
    refine ww_icmp_ge 213 233 X dX1_putWrapped_213 (by decide) (fun q => ?_) (fun q => ?_)
    · replace h := (if_pos q).symm.trans h
      exact ww_vretE 233 X hQ dX1_putWrapped_233 h
    · replace h := (if_neg q).symm.trans h
      refine ww_aload_n 216 X dX1_putWrapped_216 2 rfl rfl ?_
      refine ww_aload_n 217 X dX1_putWrapped_217 0 rfl rfl ?_
      obtain ⟨v218, e218, h⟩ := bO_some h
      refine ww_getR 218 X dX1_putWrapped_218 fG_X1_22 e218 ?_
      refine ww_iload 221 X dX1_putWrapped_221 3 rfl ?_
      obtain ⟨v223, e223, h⟩ := bO_some h
      refine ww_iald 223 X dX1_putWrapped_223 e223 ?_
      obtain ⟨_, f224, h⟩ := bO_some h
      obtain ⟨M224, e224, h⟩ := bO_some h
      refine ww_callVV0 224 X dX1_putWrapped_224 mY_X0_put mL_X1_64 (rcv_spec f224) ⟨_, _, rfl⟩ (by decide) (As := [.int v223]) (rest := []) rfl rfl ⟨Nat.le_of_ble_eq_true rfl, Nat.le_of_ble_eq_true rfl⟩ (Nat.le_of_ble_eq_true rfl) (fun l D A => c_X0_put l D A e224) ?_
      refine ww_iinc 227 X dX1_putWrapped_227 (lv' := [(0, .ref l0), (2, .ref l2), (3, .ref l3), (5, .int (l5 + 1))]) 3 rfl rfl (by decide) [1, 2, 3, 0] rfl ?_
      refine ww_goto 230 204 X dX1_putWrapped_230 (by decide) ?_
      exact (ih _ _ _ _ _ h)
set_option maxHeartbeats 4000000 in
set_option maxRecDepth 100000 in
theorem wB_X1_putWrapped_93 {G : mG} {F : Nat} {x : mXT} {sz : Nat} {M0 : mM} (X : mCX G RX1 cX1_putWrapped 7 none "putWrapped" rmX1_putWrapped x) (hQ : mQV x M0 (sz, 0, 0)) : ∀ (n : Nat) (l0 : Nat) (l2 : Nat) (l3 : Nat) (l4 : Int32) (l5 : Int32) (M : mM), B_X1_putWrapped_93 G F n l0 l2 l3 l4 l5 M = some M0 → WW x (sz, 0, 0) M 93 [(0, .ref l0), (2, .ref l2), (3, .ref l3), (4, .int l4), (5, .int l5)] [] := by
  intro n
  induction n with
  | zero =>
    intro l0 l2 l3 l4 l5 M h
    exact nomatch (show (none : Option mM) = some M0 from h)
  | succ n ih =>
    intro l0 l2 l3 l4 l5 M h
    rw [B_X1_putWrapped_93] at h
    refine ww_iload 93 X dX1_putWrapped_93 4 rfl ?_
    refine ww_bipush 95 X (v := (6 : Int32)) dX1_putWrapped_95 (by decide) ?_
    refine ww_iload 97 X dX1_putWrapped_97 3 rfl ?_
    refine ww_imul 99 X dX1_putWrapped_99 ?_
    refine ww_icmp_ge 100 182 X dX1_putWrapped_100 (by decide) (fun q => ?_) (fun q => ?_)
    · replace h := (if_pos q).symm.trans h
      refine ww_aload_n 182 X dX1_putWrapped_182 0 rfl rfl ?_
      obtain ⟨v183, e183, h⟩ := bO_some h
      refine ww_getR 183 X dX1_putWrapped_183 fG_X1_19 e183 ?_
      refine ww_iconst 186 X (v := (0 : Int32)) dX1_putWrapped_186 (by decide) ?_
      refine ww_aload_n 187 X dX1_putWrapped_187 0 rfl rfl ?_
      obtain ⟨v188, e188, h⟩ := bO_some h
      refine ww_getR 188 X dX1_putWrapped_188 fG_X1_22 e188 ?_
      refine ww_iconst 191 X (v := (0 : Int32)) dX1_putWrapped_191 (by decide) ?_
      refine ww_bipush 192 X (v := (8 : Int32)) dX1_putWrapped_192 (by decide) ?_
      obtain ⟨M194, e194, h⟩ := bO_some h
      refine ww_cpI 194 X (st := []) dX1_putWrapped_194 mL_X1_45 (Nat.le_of_ble_eq_true rfl) (Nat.le_of_ble_eq_true rfl) (Nat.le_of_ble_eq_true rfl) e194 ?_
      refine ww_aload_n 197 X dX1_putWrapped_197 2 rfl rfl ?_
      obtain ⟨_, f198, h⟩ := bO_some h
      obtain ⟨M198, e198, h⟩ := bO_some h
      refine ww_callVV0 198 X dX1_putWrapped_198 mY_X0_clear mL_X1_85 (rcv_spec f198) ⟨_, _, rfl⟩ (by decide) (As := []) (rest := []) rfl rfl ⟨Nat.le_of_ble_eq_true rfl, Nat.le_of_ble_eq_true rfl⟩ (Nat.le_of_ble_eq_true rfl) (fun l D A => c_X0_clear l D A e198) ?_
      refine ww_iconst 201 X (v := (0 : Int32)) dX1_putWrapped_201 (by decide) ?_
      refine ww_istore 202 X dX1_putWrapped_202 (lv' := [(0, .ref l0), (2, .ref l2), (3, .ref l3), (4, .int l4), (5, .int (0 : Int32))]) (by decide) [1, 2, 3, 4, 0] rfl ?_
      exact ww_sub [0, 1, 2, 4] rfl (wB_X1_putWrapped_204 X hQ F _ _ _ _ _ h)
    · replace h := (if_neg q).symm.trans h
      refine ww_bipush 103 X (v := (8 : Int32)) dX1_putWrapped_103 (by decide) ?_
      refine ww_bipush 105 X (v := (8 : Int32)) dX1_putWrapped_105 (by decide) ?_
      refine ww_iload 107 X dX1_putWrapped_107 4 rfl ?_
      refine ww_iload 109 X dX1_putWrapped_109 3 rfl ?_
      refine ww_iconst 111 X (v := (1 : Int32)) dX1_putWrapped_111 (by decide) ?_
      refine ww_mmax 112 X (st := [.int l5, .int (8 : Int32), .int (8 : Int32)]) dX1_putWrapped_112 mL_X1_79 (Nat.le_of_ble_eq_true rfl) (Nat.le_of_ble_eq_true rfl) (Nat.le_of_ble_eq_true rfl) ⟨Nat.zero_le _, Nat.zero_le _⟩ ?_
      obtain ⟨v115, e115, h⟩ := bO_some h
      refine ww_irem 115 X dX1_putWrapped_115 e115 ?_
      refine ww_imul 116 X dX1_putWrapped_116 ?_
      refine ww_iadd 117 X dX1_putWrapped_117 ?_
      refine ww_istore 118 X dX1_putWrapped_118 (lv' := [(0, .ref l0), (2, .ref l2), (3, .ref l3), (4, .int l4), (5, .int l5), (6, .int ((8 : Int32) + ((8 : Int32) * v115)))]) (by decide) [1, 2, 3, 4, 5, 0] rfl ?_
      refine ww_aload_n 120 X dX1_putWrapped_120 0 rfl rfl ?_
      obtain ⟨v121, e121, h⟩ := bO_some h
      refine ww_getR 121 X dX1_putWrapped_121 fG_X1_22 e121 ?_
      refine ww_iload 124 X dX1_putWrapped_124 5 rfl ?_
      refine ww_aload_n 126 X dX1_putWrapped_126 0 rfl rfl ?_
      obtain ⟨v127, e127, h⟩ := bO_some h
      refine ww_getR 127 X dX1_putWrapped_127 fG_X1_19 e127 ?_
      refine ww_bipush 130 X (v := (8 : Int32)) dX1_putWrapped_130 (by decide) ?_
      refine ww_bipush 132 X (v := (8 : Int32)) dX1_putWrapped_132 (by decide) ?_
      obtain ⟨M134, e134, h⟩ := bO_some h
      refine ww_cpI 134 X (st := []) dX1_putWrapped_134 mL_X1_45 (Nat.le_of_ble_eq_true rfl) (Nat.le_of_ble_eq_true rfl) (Nat.le_of_ble_eq_true rfl) e134 ?_
      refine ww_aload_n 137 X dX1_putWrapped_137 0 rfl rfl ?_
      refine ww_aload_n 138 X dX1_putWrapped_138 0 rfl rfl ?_
      obtain ⟨v139, e139, h⟩ := bO_some h
      refine ww_getR 139 X dX1_putWrapped_139 fG_X1_19 e139 ?_
      obtain ⟨_, f142, h⟩ := bO_some h
      obtain ⟨M142, e142, h⟩ := bO_some h
      refine ww_callVV0 142 X dX1_putWrapped_142 mY_X1_forward mL_X1_61 (rcv_spec f142) ⟨_, _, rfl⟩ (by decide) (As := [.ref v139]) (rest := []) rfl rfl ⟨Nat.le_of_ble_eq_true rfl, Nat.le_of_ble_eq_true rfl⟩ (Nat.le_of_ble_eq_true rfl) (fun l D A => c_X1_forward l D A e142) ?_
      refine ww_aload_n 145 X dX1_putWrapped_145 0 rfl rfl ?_
      obtain ⟨v146, e146, h⟩ := bO_some h
      refine ww_getR 146 X dX1_putWrapped_146 fG_X1_19 e146 ?_
      refine ww_bipush 149 X (v := (7 : Int32)) dX1_putWrapped_149 (by decide) ?_
      refine ww_dup2_11 151 X dX1_putWrapped_151 rfl rfl ?_
      obtain ⟨v152, e152, h⟩ := bO_some h
      refine ww_iald 152 X dX1_putWrapped_152 e152 ?_
      refine ww_iload 153 X dX1_putWrapped_153 4 rfl ?_
      refine ww_iconst 155 X (v := (1 : Int32)) dX1_putWrapped_155 (by decide) ?_
      refine ww_iadd 156 X dX1_putWrapped_156 ?_
      refine ww_ixor 157 X dX1_putWrapped_157 ?_
      obtain ⟨M158, e158, h⟩ := bO_some h
      refine ww_iast 158 X dX1_putWrapped_158 e158 ?_
      refine ww_aload_n 159 X dX1_putWrapped_159 0 rfl rfl ?_
      obtain ⟨v160, e160, h⟩ := bO_some h
      refine ww_getR 160 X dX1_putWrapped_160 fG_X1_19 e160 ?_
      refine ww_bipush 163 X (v := (8 : Int32)) dX1_putWrapped_163 (by decide) ?_
      refine ww_aload_n 165 X dX1_putWrapped_165 0 rfl rfl ?_
      obtain ⟨v166, e166, h⟩ := bO_some h
      refine ww_getR 166 X dX1_putWrapped_166 fG_X1_22 e166 ?_
      refine ww_iload 169 X dX1_putWrapped_169 5 rfl ?_
      refine ww_bipush 171 X (v := (8 : Int32)) dX1_putWrapped_171 (by decide) ?_
      obtain ⟨M173, e173, h⟩ := bO_some h
      refine ww_cpI 173 X (st := []) dX1_putWrapped_173 mL_X1_45 (Nat.le_of_ble_eq_true rfl) (Nat.le_of_ble_eq_true rfl) (Nat.le_of_ble_eq_true rfl) e173 ?_
      refine ww_iinc 176 X dX1_putWrapped_176 (lv' := [(0, .ref l0), (2, .ref l2), (3, .ref l3), (4, .int l4), (5, .int (l5 + 1)), (6, .int ((8 : Int32) + ((8 : Int32) * v115)))]) 4 rfl rfl (by decide) [1, 2, 3, 4, 0, 5] rfl ?_
      refine ww_goto 179 93 X dX1_putWrapped_179 (by decide) ?_
      exact ww_sub [0, 1, 2, 3, 4] rfl (ih _ _ _ _ _ _ h)
set_option maxHeartbeats 4000000 in
set_option maxRecDepth 100000 in
theorem wB_X1_putWrapped_67 {G : mG} {F : Nat} {x : mXT} {sz : Nat} {M0 : mM} (X : mCX G RX1 cX1_putWrapped 7 none "putWrapped" rmX1_putWrapped x) (hQ : mQV x M0 (sz, 0, 0)) : ∀ (n : Nat) (l0 : Nat) (l2 : Nat) (l3 : Nat) (l4 : Int32) (l5 : Int32) (M : mM), B_X1_putWrapped_67 G F n l0 l2 l3 l4 l5 M = some M0 → WW x (sz, 0, 0) M 67 [(0, .ref l0), (2, .ref l2), (3, .ref l3), (4, .int l4), (5, .int l5)] [] := by
  intro n
  induction n with
  | zero =>
    intro l0 l2 l3 l4 l5 M h
    exact nomatch (show (none : Option mM) = some M0 from h)
  | succ n ih =>
    intro l0 l2 l3 l4 l5 M h
    rw [B_X1_putWrapped_67] at h
    refine ww_iload 67 X dX1_putWrapped_67 4 rfl ?_
    refine ww_bipush 69 X (v := (8 : Int32)) dX1_putWrapped_69 (by decide) ?_
    refine ww_icmp_ge 71 90 X dX1_putWrapped_71 (by decide) (fun q => ?_) (fun q => ?_)
    · replace h := (if_pos q).symm.trans h
      refine ww_iconst 90 X (v := (0 : Int32)) dX1_putWrapped_90 (by decide) ?_
      refine ww_istore 91 X dX1_putWrapped_91 (lv' := [(0, .ref l0), (2, .ref l2), (3, .ref l3), (4, .int l4), (5, .int (0 : Int32))]) (by decide) [1, 2, 3, 4, 0] rfl ?_
      exact (wB_X1_putWrapped_93 X hQ F _ _ _ _ _ _ h)
    · replace h := (if_neg q).symm.trans h
      refine ww_aload_n 74 X dX1_putWrapped_74 0 rfl rfl ?_
      obtain ⟨v75, e75, h⟩ := bO_some h
      refine ww_getR 75 X dX1_putWrapped_75 fG_X1_19 e75 ?_
      refine ww_iload 78 X dX1_putWrapped_78 4 rfl ?_
      refine ww_sipush 80 X (v := (166 : Int32)) dX1_putWrapped_80 (by decide) ?_
      obtain ⟨M83, e83, h⟩ := bO_some h
      refine ww_iast 83 X dX1_putWrapped_83 e83 ?_
      refine ww_iinc 84 X dX1_putWrapped_84 (lv' := [(0, .ref l0), (2, .ref l2), (3, .ref l3), (4, .int l4), (5, .int (l5 + 1))]) 4 rfl rfl (by decide) [1, 2, 3, 4, 0] rfl ?_
      refine ww_goto 87 67 X dX1_putWrapped_87 (by decide) ?_
      exact (ih _ _ _ _ _ _ h)
set_option maxHeartbeats 4000000 in
set_option maxRecDepth 100000 in
theorem wB_X1_putWrapped_33 {G : mG} {F : Nat} {x : mXT} {sz : Nat} {M0 : mM} (X : mCX G RX1 cX1_putWrapped 7 none "putWrapped" rmX1_putWrapped x) (hQ : mQV x M0 (sz, 0, 0)) : ∀ (n : Nat) (l0 : Nat) (l2 : Nat) (l3 : Nat) (l4 : Int32) (l5 : Int32) (M : mM), B_X1_putWrapped_33 G F n l0 l2 l3 l4 l5 M = some M0 → WW x (sz, 0, 0) M 33 [(0, .ref l0), (2, .ref l2), (3, .ref l3), (4, .int l4), (5, .int l5)] [] := by
  intro n
  induction n with
  | zero =>
    intro l0 l2 l3 l4 l5 M h
    exact nomatch (show (none : Option mM) = some M0 from h)
  | succ n ih =>
    intro l0 l2 l3 l4 l5 M h
    rw [B_X1_putWrapped_33] at h
    refine ww_iload 33 X dX1_putWrapped_33 4 rfl ?_
    refine ww_aload_n 35 X dX1_putWrapped_35 1 rfl rfl ?_
    obtain ⟨v36, e36, h⟩ := bO_some h
    refine ww_getI 36 X dX1_putWrapped_36 fG_X1_68 e36 ?_
    refine ww_icmp_ge 39 64 X dX1_putWrapped_39 (by decide) (fun q => ?_) (fun q => ?_)
    · replace h := (if_pos q).symm.trans h
      refine ww_iconst 64 X (v := (0 : Int32)) dX1_putWrapped_64 (by decide) ?_
      refine ww_istore 65 X dX1_putWrapped_65 (lv' := [(0, .ref l0), (2, .ref l2), (3, .ref l3), (4, .int l4), (5, .int (0 : Int32))]) (by decide) [1, 2, 3, 4, 0] rfl ?_
      exact (wB_X1_putWrapped_67 X hQ F _ _ _ _ _ _ h)
    · replace h := (if_neg q).symm.trans h
      refine ww_aload_n 42 X dX1_putWrapped_42 0 rfl rfl ?_
      obtain ⟨v43, e43, h⟩ := bO_some h
      refine ww_getR 43 X dX1_putWrapped_43 fG_X1_22 e43 ?_
      refine ww_bipush 46 X (v := (8 : Int32)) dX1_putWrapped_46 (by decide) ?_
      refine ww_iload 48 X dX1_putWrapped_48 4 rfl ?_
      refine ww_iadd 50 X dX1_putWrapped_50 ?_
      refine ww_aload_n 51 X dX1_putWrapped_51 1 rfl rfl ?_
      refine ww_iload 52 X dX1_putWrapped_52 4 rfl ?_
      obtain ⟨_, f54, h⟩ := bO_some h
      obtain ⟨v54, M54, e54, h⟩ := bP_some h
      refine ww_callVI0 54 X dX1_putWrapped_54 mY_X0_get mL_X1_32 (rcv_spec f54) ⟨_, _, rfl⟩ (by decide) (As := [.int l5]) (rest := [.int ((8 : Int32) + l5), .ref v43]) rfl rfl ⟨Nat.le_of_ble_eq_true rfl, Nat.le_of_ble_eq_true rfl⟩ (Nat.le_of_ble_eq_true rfl) (fun l D A => c_X0_get l D A e54) ?_
      obtain ⟨M57, e57, h⟩ := bO_some h
      refine ww_iast 57 X dX1_putWrapped_57 e57 ?_
      refine ww_iinc 58 X dX1_putWrapped_58 (lv' := [(0, .ref l0), (2, .ref l2), (3, .ref l3), (4, .int l4), (5, .int (l5 + 1))]) 4 rfl rfl (by decide) [1, 2, 3, 4, 0] rfl ?_
      refine ww_goto 61 33 X dX1_putWrapped_61 (by decide) ?_
      exact (ih _ _ _ _ _ _ h)
set_option maxHeartbeats 4000000 in
set_option maxRecDepth 100000 in
theorem wP_X1_putWrapped {G : mG} {F : Nat} {x : mXT} {sz : Nat} {M0 : mM} (X : mCX G RX1 cX1_putWrapped 7 none "putWrapped" rmX1_putWrapped x) (hQ : mQV x M0 (sz, 0, 0)) {l0 : Nat} {l1 : Nat} {l2 : Nat} {l3 : Nat} {M : mM} (h : P_X1_putWrapped G F l0 l1 l2 l3 M = some M0) : WW x (sz, 0, 0) M 0 [(0, .ref l0), (1, .ref l1), (2, .ref l2), (3, .ref l3)] [] := by
  unfold P_X1_putWrapped at h
  refine ww_aload_n 0 X dX1_putWrapped_0 2 rfl rfl ?_
  obtain ⟨v1, e1, h⟩ := bO_some h
  refine ww_getI 1 X dX1_putWrapped_1 fG_X1_68 e1 ?_
  obtain ⟨v4, M4, e4, h⟩ := bP_some h
  refine ww_callSI0 4 X dX1_putWrapped_4 mY_X1_mayWrap mL_X1_71 (As := [.int v1]) (rest := []) rfl rfl ⟨Nat.le_of_ble_eq_true rfl, Nat.le_of_ble_eq_true rfl⟩ (Nat.le_of_ble_eq_true rfl) (fun l D A => c_X1_mayWrap l D A e4) ?_
  refine ww_if_ne 7 11 X dX1_putWrapped_7 (by decide) (fun q => ?_) (fun q => ?_)
  · replace h := (if_neg q).symm.trans h
    refine ww_aload_n 11 X dX1_putWrapped_11 0 rfl rfl ?_
    refine ww_aload_n 12 X dX1_putWrapped_12 1 rfl rfl ?_
    refine ww_iconst 13 X (v := (0 : Int32)) dX1_putWrapped_13 (by decide) ?_
    refine ww_aload_n 14 X dX1_putWrapped_14 1 rfl rfl ?_
    obtain ⟨v15, e15, h⟩ := bO_some h
    refine ww_getI 15 X dX1_putWrapped_15 fG_X1_68 e15 ?_
    obtain ⟨_, f18, h⟩ := bO_some h
    obtain ⟨M18, e18, h⟩ := bO_some h
    refine ww_callVV0 18 X dX1_putWrapped_18 mY_X1_become mL_X1_75 (rcv_spec f18) ⟨_, _, rfl⟩ (by decide) (As := [.ref l1, .int (0 : Int32), .int v15]) (rest := []) rfl rfl ⟨Nat.le_of_ble_eq_true rfl, Nat.le_of_ble_eq_true rfl⟩ (Nat.le_of_ble_eq_true rfl) (fun l D A => c_X1_become l D A e18) ?_
    refine ww_aload_n 21 X dX1_putWrapped_21 2 rfl rfl ?_
    obtain ⟨v22, e22, h⟩ := bO_some h
    refine ww_getI 22 X dX1_putWrapped_22 fG_X1_68 e22 ?_
    refine ww_bipush 25 X (v := (8 : Int32)) dX1_putWrapped_25 (by decide) ?_
    refine ww_idiv 27 X (v := (v22 / (8 : Int32))) dX1_putWrapped_27 rfl ?_
    refine ww_istore 28 X dX1_putWrapped_28 (lv' := [(0, .ref l0), (1, .ref l1), (2, .ref l2), (3, .ref l3), (4, .int (v22 / (8 : Int32)))]) (by decide) [1, 2, 3, 4, 0] rfl ?_
    refine ww_iconst 30 X (v := (0 : Int32)) dX1_putWrapped_30 (by decide) ?_
    refine ww_istore 31 X dX1_putWrapped_31 (lv' := [(0, .ref l0), (1, .ref l1), (2, .ref l2), (3, .ref l3), (4, .int (v22 / (8 : Int32))), (5, .int (0 : Int32))]) (by decide) [1, 2, 3, 4, 5, 0] rfl ?_
    exact ww_sub [0, 2, 3, 4, 5] rfl (wB_X1_putWrapped_33 X hQ F _ _ _ _ _ _ h)
  · replace h := (if_pos q).symm.trans h
    exact ww_vretE 10 X hQ dX1_putWrapped_10 h
theorem c_X1_putWrapped {G : mG} {F sz : Nat} {M0 : mM} (l : Launch) (D : mD) (A : Nat → Prop) {l0 : Nat} {l1 : Nat} {l2 : Nat} {l3 : Nat} {M : mM} (h : P_X1_putWrapped G F l0 l1 l2 l3 M = some M0) : mMetV l D G A yX1_putWrapped cX1_putWrapped 7 none 3 83 0 0 [.ref l0, .ref l1, .ref l2, .ref l3] M sz M0 sz := mMetV_of l D G A (by decide) (Nat.le_of_ble_eq_true rfl) (fun x X hQ => wP_X1_putWrapped X hQ h)
/-! SealedTokens$Cipher.putUnwrapped(LSealedTokens$Bytes;LSealedTokens$Bytes;LSealedTokens$Bytes;)Z -/
theorem dX1_putUnwrapped_0 : decode cX1_putUnwrapped 0 = .ok (.aload_n 2, 1) := by decide +kernel
theorem dX1_putUnwrapped_1 : decode cX1_putUnwrapped 1 = .ok (.getfield 68, 3) := by decide +kernel
theorem dX1_putUnwrapped_4 : decode cX1_putUnwrapped 4 = .ok (.bipush 8, 2) := by decide +kernel
theorem dX1_putUnwrapped_6 : decode cX1_putUnwrapped 6 = .ok (.isub, 1) := by decide +kernel
theorem dX1_putUnwrapped_7 : decode cX1_putUnwrapped 7 = .ok (.istore 4, 2) := by decide +kernel
theorem dX1_putUnwrapped_9 : decode cX1_putUnwrapped 9 = .ok (.iload 4, 2) := by decide +kernel
theorem dX1_putUnwrapped_11 : decode cX1_putUnwrapped 11 = .ok (.invokestatic 71, 3) := by decide +kernel
theorem dX1_putUnwrapped_14 : decode cX1_putUnwrapped 14 = .ok (.ifCond .ne 5, 3) := by decide +kernel
theorem dX1_putUnwrapped_17 : decode cX1_putUnwrapped 17 = .ok (.iconst 0, 1) := by decide +kernel
theorem dX1_putUnwrapped_18 : decode cX1_putUnwrapped 18 = .ok (.ireturn, 1) := by decide +kernel
theorem dX1_putUnwrapped_19 : decode cX1_putUnwrapped 19 = .ok (.aload_n 0, 1) := by decide +kernel
theorem dX1_putUnwrapped_20 : decode cX1_putUnwrapped 20 = .ok (.aload_n 1, 1) := by decide +kernel
theorem dX1_putUnwrapped_21 : decode cX1_putUnwrapped 21 = .ok (.iconst 0, 1) := by decide +kernel
theorem dX1_putUnwrapped_22 : decode cX1_putUnwrapped 22 = .ok (.aload_n 1, 1) := by decide +kernel
theorem dX1_putUnwrapped_23 : decode cX1_putUnwrapped 23 = .ok (.getfield 68, 3) := by decide +kernel
theorem dX1_putUnwrapped_26 : decode cX1_putUnwrapped 26 = .ok (.invokevirtual 75, 3) := by decide +kernel
theorem dX1_putUnwrapped_29 : decode cX1_putUnwrapped 29 = .ok (.iload 4, 2) := by decide +kernel
theorem dX1_putUnwrapped_31 : decode cX1_putUnwrapped 31 = .ok (.bipush 8, 2) := by decide +kernel
theorem dX1_putUnwrapped_33 : decode cX1_putUnwrapped 33 = .ok (.idiv, 1) := by decide +kernel
theorem dX1_putUnwrapped_34 : decode cX1_putUnwrapped 34 = .ok (.istore 5, 2) := by decide +kernel
theorem dX1_putUnwrapped_36 : decode cX1_putUnwrapped 36 = .ok (.iconst 0, 1) := by decide +kernel
theorem dX1_putUnwrapped_37 : decode cX1_putUnwrapped 37 = .ok (.istore 6, 2) := by decide +kernel
theorem dX1_putUnwrapped_39 : decode cX1_putUnwrapped 39 = .ok (.iload 6, 2) := by decide +kernel
theorem dX1_putUnwrapped_41 : decode cX1_putUnwrapped 41 = .ok (.aload_n 2, 1) := by decide +kernel
theorem dX1_putUnwrapped_42 : decode cX1_putUnwrapped 42 = .ok (.getfield 68, 3) := by decide +kernel
theorem dX1_putUnwrapped_45 : decode cX1_putUnwrapped 45 = .ok (.if_icmp .ge 22, 3) := by decide +kernel
theorem dX1_putUnwrapped_48 : decode cX1_putUnwrapped 48 = .ok (.aload_n 0, 1) := by decide +kernel
theorem dX1_putUnwrapped_49 : decode cX1_putUnwrapped 49 = .ok (.getfield 22, 3) := by decide +kernel
theorem dX1_putUnwrapped_52 : decode cX1_putUnwrapped 52 = .ok (.iload 6, 2) := by decide +kernel
theorem dX1_putUnwrapped_54 : decode cX1_putUnwrapped 54 = .ok (.aload_n 2, 1) := by decide +kernel
theorem dX1_putUnwrapped_55 : decode cX1_putUnwrapped 55 = .ok (.iload 6, 2) := by decide +kernel
theorem dX1_putUnwrapped_57 : decode cX1_putUnwrapped 57 = .ok (.invokevirtual 32, 3) := by decide +kernel
theorem dX1_putUnwrapped_60 : decode cX1_putUnwrapped 60 = .ok (.iastore, 1) := by decide +kernel
theorem dX1_putUnwrapped_61 : decode cX1_putUnwrapped 61 = .ok (.iinc 6 1, 3) := by decide +kernel
theorem dX1_putUnwrapped_64 : decode cX1_putUnwrapped 64 = .ok (.goto (-25), 3) := by decide +kernel
theorem dX1_putUnwrapped_67 : decode cX1_putUnwrapped 67 = .ok (.aload_n 0, 1) := by decide +kernel
theorem dX1_putUnwrapped_68 : decode cX1_putUnwrapped 68 = .ok (.getfield 22, 3) := by decide +kernel
theorem dX1_putUnwrapped_71 : decode cX1_putUnwrapped 71 = .ok (.iconst 0, 1) := by decide +kernel
theorem dX1_putUnwrapped_72 : decode cX1_putUnwrapped 72 = .ok (.aload_n 0, 1) := by decide +kernel
theorem dX1_putUnwrapped_73 : decode cX1_putUnwrapped 73 = .ok (.getfield 19, 3) := by decide +kernel
theorem dX1_putUnwrapped_76 : decode cX1_putUnwrapped 76 = .ok (.iconst 0, 1) := by decide +kernel
theorem dX1_putUnwrapped_77 : decode cX1_putUnwrapped 77 = .ok (.bipush 8, 2) := by decide +kernel
theorem dX1_putUnwrapped_79 : decode cX1_putUnwrapped 79 = .ok (.invokestatic 45, 3) := by decide +kernel
theorem dX1_putUnwrapped_82 : decode cX1_putUnwrapped 82 = .ok (.bipush 6, 2) := by decide +kernel
theorem dX1_putUnwrapped_84 : decode cX1_putUnwrapped 84 = .ok (.iload 5, 2) := by decide +kernel
theorem dX1_putUnwrapped_86 : decode cX1_putUnwrapped 86 = .ok (.imul, 1) := by decide +kernel
theorem dX1_putUnwrapped_87 : decode cX1_putUnwrapped 87 = .ok (.iconst 1, 1) := by decide +kernel
theorem dX1_putUnwrapped_88 : decode cX1_putUnwrapped 88 = .ok (.isub, 1) := by decide +kernel
theorem dX1_putUnwrapped_89 : decode cX1_putUnwrapped 89 = .ok (.istore 6, 2) := by decide +kernel
theorem dX1_putUnwrapped_91 : decode cX1_putUnwrapped 91 = .ok (.iload 6, 2) := by decide +kernel
theorem dX1_putUnwrapped_93 : decode cX1_putUnwrapped 93 = .ok (.ifCond .lt 82, 3) := by decide +kernel
theorem dX1_putUnwrapped_96 : decode cX1_putUnwrapped 96 = .ok (.bipush 8, 2) := by decide +kernel
theorem dX1_putUnwrapped_98 : decode cX1_putUnwrapped 98 = .ok (.bipush 8, 2) := by decide +kernel
theorem dX1_putUnwrapped_100 : decode cX1_putUnwrapped 100 = .ok (.iload 6, 2) := by decide +kernel
theorem dX1_putUnwrapped_102 : decode cX1_putUnwrapped 102 = .ok (.iload 5, 2) := by decide +kernel
theorem dX1_putUnwrapped_104 : decode cX1_putUnwrapped 104 = .ok (.iconst 1, 1) := by decide +kernel
theorem dX1_putUnwrapped_105 : decode cX1_putUnwrapped 105 = .ok (.invokestatic 79, 3) := by decide +kernel
theorem dX1_putUnwrapped_108 : decode cX1_putUnwrapped 108 = .ok (.irem, 1) := by decide +kernel
theorem dX1_putUnwrapped_109 : decode cX1_putUnwrapped 109 = .ok (.imul, 1) := by decide +kernel
theorem dX1_putUnwrapped_110 : decode cX1_putUnwrapped 110 = .ok (.iadd, 1) := by decide +kernel
theorem dX1_putUnwrapped_111 : decode cX1_putUnwrapped 111 = .ok (.istore 7, 2) := by decide +kernel
theorem dX1_putUnwrapped_113 : decode cX1_putUnwrapped 113 = .ok (.aload_n 0, 1) := by decide +kernel
theorem dX1_putUnwrapped_114 : decode cX1_putUnwrapped 114 = .ok (.getfield 19, 3) := by decide +kernel
theorem dX1_putUnwrapped_117 : decode cX1_putUnwrapped 117 = .ok (.bipush 7, 2) := by decide +kernel
theorem dX1_putUnwrapped_119 : decode cX1_putUnwrapped 119 = .ok (.dup2, 1) := by decide +kernel
theorem dX1_putUnwrapped_120 : decode cX1_putUnwrapped 120 = .ok (.iaload, 1) := by decide +kernel
theorem dX1_putUnwrapped_121 : decode cX1_putUnwrapped 121 = .ok (.iload 6, 2) := by decide +kernel
theorem dX1_putUnwrapped_123 : decode cX1_putUnwrapped 123 = .ok (.iconst 1, 1) := by decide +kernel
theorem dX1_putUnwrapped_124 : decode cX1_putUnwrapped 124 = .ok (.iadd, 1) := by decide +kernel
theorem dX1_putUnwrapped_125 : decode cX1_putUnwrapped 125 = .ok (.ixor, 1) := by decide +kernel
theorem dX1_putUnwrapped_126 : decode cX1_putUnwrapped 126 = .ok (.iastore, 1) := by decide +kernel
theorem dX1_putUnwrapped_127 : decode cX1_putUnwrapped 127 = .ok (.aload_n 0, 1) := by decide +kernel
theorem dX1_putUnwrapped_128 : decode cX1_putUnwrapped 128 = .ok (.getfield 22, 3) := by decide +kernel
theorem dX1_putUnwrapped_131 : decode cX1_putUnwrapped 131 = .ok (.iload 7, 2) := by decide +kernel
theorem dX1_putUnwrapped_133 : decode cX1_putUnwrapped 133 = .ok (.aload_n 0, 1) := by decide +kernel
theorem dX1_putUnwrapped_134 : decode cX1_putUnwrapped 134 = .ok (.getfield 19, 3) := by decide +kernel
theorem dX1_putUnwrapped_137 : decode cX1_putUnwrapped 137 = .ok (.bipush 8, 2) := by decide +kernel
theorem dX1_putUnwrapped_139 : decode cX1_putUnwrapped 139 = .ok (.bipush 8, 2) := by decide +kernel
theorem dX1_putUnwrapped_141 : decode cX1_putUnwrapped 141 = .ok (.invokestatic 45, 3) := by decide +kernel
theorem dX1_putUnwrapped_144 : decode cX1_putUnwrapped 144 = .ok (.aload_n 0, 1) := by decide +kernel
theorem dX1_putUnwrapped_145 : decode cX1_putUnwrapped 145 = .ok (.aload_n 0, 1) := by decide +kernel
theorem dX1_putUnwrapped_146 : decode cX1_putUnwrapped 146 = .ok (.getfield 19, 3) := by decide +kernel
theorem dX1_putUnwrapped_149 : decode cX1_putUnwrapped 149 = .ok (.invokevirtual 58, 3) := by decide +kernel
theorem dX1_putUnwrapped_152 : decode cX1_putUnwrapped 152 = .ok (.aload_n 0, 1) := by decide +kernel
theorem dX1_putUnwrapped_153 : decode cX1_putUnwrapped 153 = .ok (.getfield 19, 3) := by decide +kernel
theorem dX1_putUnwrapped_156 : decode cX1_putUnwrapped 156 = .ok (.bipush 8, 2) := by decide +kernel
theorem dX1_putUnwrapped_158 : decode cX1_putUnwrapped 158 = .ok (.aload_n 0, 1) := by decide +kernel
theorem dX1_putUnwrapped_159 : decode cX1_putUnwrapped 159 = .ok (.getfield 22, 3) := by decide +kernel
theorem dX1_putUnwrapped_162 : decode cX1_putUnwrapped 162 = .ok (.iload 7, 2) := by decide +kernel
theorem dX1_putUnwrapped_164 : decode cX1_putUnwrapped 164 = .ok (.bipush 8, 2) := by decide +kernel
theorem dX1_putUnwrapped_166 : decode cX1_putUnwrapped 166 = .ok (.invokestatic 45, 3) := by decide +kernel
theorem dX1_putUnwrapped_169 : decode cX1_putUnwrapped 169 = .ok (.iinc 6 (-1), 3) := by decide +kernel
theorem dX1_putUnwrapped_172 : decode cX1_putUnwrapped 172 = .ok (.goto (-81), 3) := by decide +kernel
theorem dX1_putUnwrapped_175 : decode cX1_putUnwrapped 175 = .ok (.iconst 0, 1) := by decide +kernel
theorem dX1_putUnwrapped_176 : decode cX1_putUnwrapped 176 = .ok (.istore 6, 2) := by decide +kernel
theorem dX1_putUnwrapped_178 : decode cX1_putUnwrapped 178 = .ok (.iload 6, 2) := by decide +kernel
theorem dX1_putUnwrapped_180 : decode cX1_putUnwrapped 180 = .ok (.bipush 8, 2) := by decide +kernel
theorem dX1_putUnwrapped_182 : decode cX1_putUnwrapped 182 = .ok (.if_icmp .ge 24, 3) := by decide +kernel
theorem dX1_putUnwrapped_185 : decode cX1_putUnwrapped 185 = .ok (.aload_n 0, 1) := by decide +kernel
theorem dX1_putUnwrapped_186 : decode cX1_putUnwrapped 186 = .ok (.getfield 19, 3) := by decide +kernel
theorem dX1_putUnwrapped_189 : decode cX1_putUnwrapped 189 = .ok (.iload 6, 2) := by decide +kernel
theorem dX1_putUnwrapped_191 : decode cX1_putUnwrapped 191 = .ok (.iaload, 1) := by decide +kernel
theorem dX1_putUnwrapped_192 : decode cX1_putUnwrapped 192 = .ok (.sipush 166, 3) := by decide +kernel
theorem dX1_putUnwrapped_195 : decode cX1_putUnwrapped 195 = .ok (.if_icmp .eq 5, 3) := by decide +kernel
theorem dX1_putUnwrapped_198 : decode cX1_putUnwrapped 198 = .ok (.iconst 0, 1) := by decide +kernel
theorem dX1_putUnwrapped_199 : decode cX1_putUnwrapped 199 = .ok (.ireturn, 1) := by decide +kernel
theorem dX1_putUnwrapped_200 : decode cX1_putUnwrapped 200 = .ok (.iinc 6 1, 3) := by decide +kernel
theorem dX1_putUnwrapped_203 : decode cX1_putUnwrapped 203 = .ok (.goto (-25), 3) := by decide +kernel
theorem dX1_putUnwrapped_206 : decode cX1_putUnwrapped 206 = .ok (.aload_n 3, 1) := by decide +kernel
theorem dX1_putUnwrapped_207 : decode cX1_putUnwrapped 207 = .ok (.invokevirtual 85, 3) := by decide +kernel
theorem dX1_putUnwrapped_210 : decode cX1_putUnwrapped 210 = .ok (.iconst 0, 1) := by decide +kernel
theorem dX1_putUnwrapped_211 : decode cX1_putUnwrapped 211 = .ok (.istore 6, 2) := by decide +kernel
theorem dX1_putUnwrapped_213 : decode cX1_putUnwrapped 213 = .ok (.iload 6, 2) := by decide +kernel
theorem dX1_putUnwrapped_215 : decode cX1_putUnwrapped 215 = .ok (.iload 4, 2) := by decide +kernel
theorem dX1_putUnwrapped_217 : decode cX1_putUnwrapped 217 = .ok (.if_icmp .ge 23, 3) := by decide +kernel
theorem dX1_putUnwrapped_220 : decode cX1_putUnwrapped 220 = .ok (.aload_n 3, 1) := by decide +kernel
theorem dX1_putUnwrapped_221 : decode cX1_putUnwrapped 221 = .ok (.aload_n 0, 1) := by decide +kernel
theorem dX1_putUnwrapped_222 : decode cX1_putUnwrapped 222 = .ok (.getfield 22, 3) := by decide +kernel
theorem dX1_putUnwrapped_225 : decode cX1_putUnwrapped 225 = .ok (.bipush 8, 2) := by decide +kernel
theorem dX1_putUnwrapped_227 : decode cX1_putUnwrapped 227 = .ok (.iload 6, 2) := by decide +kernel
theorem dX1_putUnwrapped_229 : decode cX1_putUnwrapped 229 = .ok (.iadd, 1) := by decide +kernel
theorem dX1_putUnwrapped_230 : decode cX1_putUnwrapped 230 = .ok (.iaload, 1) := by decide +kernel
theorem dX1_putUnwrapped_231 : decode cX1_putUnwrapped 231 = .ok (.invokevirtual 64, 3) := by decide +kernel
theorem dX1_putUnwrapped_234 : decode cX1_putUnwrapped 234 = .ok (.iinc 6 1, 3) := by decide +kernel
theorem dX1_putUnwrapped_237 : decode cX1_putUnwrapped 237 = .ok (.goto (-24), 3) := by decide +kernel
theorem dX1_putUnwrapped_240 : decode cX1_putUnwrapped 240 = .ok (.iconst 1, 1) := by decide +kernel
theorem dX1_putUnwrapped_241 : decode cX1_putUnwrapped 241 = .ok (.ireturn, 1) := by decide +kernel
abbrev rmX1_putUnwrapped : Room := { frames := 4, cells := 0, slots := 0, locals := 89 }
set_option maxHeartbeats 4000000 in
set_option maxRecDepth 100000 in
theorem wB_X1_putUnwrapped_213 {G : mG} {F : Nat} {x : mXT} {sz : Nat} {r0 : Int32} {M0 : mM} (X : mCX G RX1 cX1_putUnwrapped 8 (some .boolean) "putUnwrapped" rmX1_putUnwrapped x) (hQ : mQI x r0 M0 (sz, 0, 0)) : ∀ (n : Nat) (l0 : Nat) (l3 : Nat) (l4 : Int32) (l6 : Int32) (M : mM), B_X1_putUnwrapped_213 G F n l0 l3 l4 l6 M = some (r0, M0) → WW x (sz, 0, 0) M 213 [(0, .ref l0), (3, .ref l3), (4, .int l4), (6, .int l6)] [] := by
  intro n
  induction n with
  | zero =>
    intro l0 l3 l4 l6 M h
    exact nomatch (show (none : Option (Int32 × mM)) = some (r0, M0) from h)
  | succ n ih =>
    intro l0 l3 l4 l6 M h
    rw [B_X1_putUnwrapped_213] at h
    refine ww_iload 213 X dX1_putUnwrapped_213 3 rfl ?_
    refine ww_iload 215 X dX1_putUnwrapped_215 2 rfl ?_
    refine ww_icmp_ge 217 240 X dX1_putUnwrapped_217 (by decide) (fun q => ?_) (fun q => ?_)
    · replace h := (if_pos q).symm.trans h
      refine ww_iconst 240 X (v := (1 : Int32)) dX1_putUnwrapped_240 (by decide) ?_
      exact ww_zretE 241 X hQ dX1_putUnwrapped_241 h
    · replace h := (if_neg q).symm.trans h
      refine ww_aload_n 220 X dX1_putUnwrapped_220 1 rfl rfl ?_
      refine ww_aload_n 221 X dX1_putUnwrapped_221 0 rfl rfl ?_
      obtain ⟨v222, e222, h⟩ := bO_some h
      refine ww_getR 222 X dX1_putUnwrapped_222 fG_X1_22 e222 ?_
      refine ww_bipush 225 X (v := (8 : Int32)) dX1_putUnwrapped_225 (by decide) ?_
      refine ww_iload 227 X dX1_putUnwrapped_227 3 rfl ?_
      refine ww_iadd 229 X dX1_putUnwrapped_229 ?_
      obtain ⟨v230, e230, h⟩ := bO_some h
      refine ww_iald 230 X dX1_putUnwrapped_230 e230 ?_
      obtain ⟨_, f231, h⟩ := bO_some h
      obtain ⟨M231, e231, h⟩ := bO_some h
      refine ww_callVV0 231 X dX1_putUnwrapped_231 mY_X0_put mL_X1_64 (rcv_spec f231) ⟨_, _, rfl⟩ (by decide) (As := [.int v230]) (rest := []) rfl rfl ⟨Nat.le_of_ble_eq_true rfl, Nat.le_of_ble_eq_true rfl⟩ (Nat.le_of_ble_eq_true rfl) (fun l D A => c_X0_put l D A e231) ?_
      refine ww_iinc 234 X dX1_putUnwrapped_234 (lv' := [(0, .ref l0), (3, .ref l3), (4, .int l4), (6, .int (l6 + 1))]) 3 rfl rfl (by decide) [1, 2, 3, 0] rfl ?_
      refine ww_goto 237 213 X dX1_putUnwrapped_237 (by decide) ?_
      exact (ih _ _ _ _ _ h)
set_option maxHeartbeats 4000000 in
set_option maxRecDepth 100000 in
theorem wB_X1_putUnwrapped_178 {G : mG} {F : Nat} {x : mXT} {sz : Nat} {r0 : Int32} {M0 : mM} (X : mCX G RX1 cX1_putUnwrapped 8 (some .boolean) "putUnwrapped" rmX1_putUnwrapped x) (hQ : mQI x r0 M0 (sz, 0, 0)) : ∀ (n : Nat) (l0 : Nat) (l3 : Nat) (l4 : Int32) (l6 : Int32) (M : mM), B_X1_putUnwrapped_178 G F n l0 l3 l4 l6 M = some (r0, M0) → WW x (sz, 0, 0) M 178 [(0, .ref l0), (3, .ref l3), (4, .int l4), (6, .int l6)] [] := by
  intro n
  induction n with
  | zero =>
    intro l0 l3 l4 l6 M h
    exact nomatch (show (none : Option (Int32 × mM)) = some (r0, M0) from h)
  | succ n ih =>
    intro l0 l3 l4 l6 M h
    rw [B_X1_putUnwrapped_178] at h
    refine ww_iload 178 X dX1_putUnwrapped_178 3 rfl ?_
    refine ww_bipush 180 X (v := (8 : Int32)) dX1_putUnwrapped_180 (by decide) ?_
    refine ww_icmp_ge 182 206 X dX1_putUnwrapped_182 (by decide) (fun q => ?_) (fun q => ?_)
    · replace h := (if_pos q).symm.trans h
      refine ww_aload_n 206 X dX1_putUnwrapped_206 1 rfl rfl ?_
      obtain ⟨_, f207, h⟩ := bO_some h
      obtain ⟨M207, e207, h⟩ := bO_some h
      refine ww_callVV0 207 X dX1_putUnwrapped_207 mY_X0_clear mL_X1_85 (rcv_spec f207) ⟨_, _, rfl⟩ (by decide) (As := []) (rest := []) rfl rfl ⟨Nat.le_of_ble_eq_true rfl, Nat.le_of_ble_eq_true rfl⟩ (Nat.le_of_ble_eq_true rfl) (fun l D A => c_X0_clear l D A e207) ?_
      refine ww_iconst 210 X (v := (0 : Int32)) dX1_putUnwrapped_210 (by decide) ?_
      refine ww_istore 211 X dX1_putUnwrapped_211 (lv' := [(0, .ref l0), (3, .ref l3), (4, .int l4), (6, .int (0 : Int32))]) (by decide) [1, 2, 3, 0] rfl ?_
      exact (wB_X1_putUnwrapped_213 X hQ F _ _ _ _ _ h)
    · replace h := (if_neg q).symm.trans h
      refine ww_aload_n 185 X dX1_putUnwrapped_185 0 rfl rfl ?_
      obtain ⟨v186, e186, h⟩ := bO_some h
      refine ww_getR 186 X dX1_putUnwrapped_186 fG_X1_19 e186 ?_
      refine ww_iload 189 X dX1_putUnwrapped_189 3 rfl ?_
      obtain ⟨v191, e191, h⟩ := bO_some h
      refine ww_iald 191 X dX1_putUnwrapped_191 e191 ?_
      refine ww_sipush 192 X (v := (166 : Int32)) dX1_putUnwrapped_192 (by decide) ?_
      refine ww_icmp_eq 195 200 X dX1_putUnwrapped_195 (by decide) (fun q => ?_) (fun q => ?_)
      · replace h := (if_pos q).symm.trans h
        refine ww_iinc 200 X dX1_putUnwrapped_200 (lv' := [(0, .ref l0), (3, .ref l3), (4, .int l4), (6, .int (l6 + 1))]) 3 rfl rfl (by decide) [1, 2, 3, 0] rfl ?_
        refine ww_goto 203 178 X dX1_putUnwrapped_203 (by decide) ?_
        exact (ih _ _ _ _ _ h)
      · replace h := (if_neg q).symm.trans h
        refine ww_iconst 198 X (v := (0 : Int32)) dX1_putUnwrapped_198 (by decide) ?_
        exact ww_zretE 199 X hQ dX1_putUnwrapped_199 h
set_option maxHeartbeats 4000000 in
set_option maxRecDepth 100000 in
theorem wB_X1_putUnwrapped_91 {G : mG} {F : Nat} {x : mXT} {sz : Nat} {r0 : Int32} {M0 : mM} (X : mCX G RX1 cX1_putUnwrapped 8 (some .boolean) "putUnwrapped" rmX1_putUnwrapped x) (hQ : mQI x r0 M0 (sz, 0, 0)) : ∀ (n : Nat) (l0 : Nat) (l3 : Nat) (l4 : Int32) (l5 : Int32) (l6 : Int32) (M : mM), B_X1_putUnwrapped_91 G F n l0 l3 l4 l5 l6 M = some (r0, M0) → WW x (sz, 0, 0) M 91 [(0, .ref l0), (3, .ref l3), (4, .int l4), (5, .int l5), (6, .int l6)] [] := by
  intro n
  induction n with
  | zero =>
    intro l0 l3 l4 l5 l6 M h
    exact nomatch (show (none : Option (Int32 × mM)) = some (r0, M0) from h)
  | succ n ih =>
    intro l0 l3 l4 l5 l6 M h
    rw [B_X1_putUnwrapped_91] at h
    refine ww_iload 91 X dX1_putUnwrapped_91 4 rfl ?_
    refine ww_if_lt 93 175 X dX1_putUnwrapped_93 (by decide) (fun q => ?_) (fun q => ?_)
    · replace h := (if_pos q).symm.trans h
      refine ww_iconst 175 X (v := (0 : Int32)) dX1_putUnwrapped_175 (by decide) ?_
      refine ww_istore 176 X dX1_putUnwrapped_176 (lv' := [(0, .ref l0), (3, .ref l3), (4, .int l4), (5, .int l5), (6, .int (0 : Int32))]) (by decide) [1, 2, 3, 4, 0] rfl ?_
      exact ww_sub [0, 1, 2, 4] rfl (wB_X1_putUnwrapped_178 X hQ F _ _ _ _ _ h)
    · replace h := (if_neg q).symm.trans h
      refine ww_bipush 96 X (v := (8 : Int32)) dX1_putUnwrapped_96 (by decide) ?_
      refine ww_bipush 98 X (v := (8 : Int32)) dX1_putUnwrapped_98 (by decide) ?_
      refine ww_iload 100 X dX1_putUnwrapped_100 4 rfl ?_
      refine ww_iload 102 X dX1_putUnwrapped_102 3 rfl ?_
      refine ww_iconst 104 X (v := (1 : Int32)) dX1_putUnwrapped_104 (by decide) ?_
      refine ww_mmax 105 X (st := [.int l6, .int (8 : Int32), .int (8 : Int32)]) dX1_putUnwrapped_105 mL_X1_79 (Nat.le_of_ble_eq_true rfl) (Nat.le_of_ble_eq_true rfl) (Nat.le_of_ble_eq_true rfl) ⟨Nat.zero_le _, Nat.zero_le _⟩ ?_
      obtain ⟨v108, e108, h⟩ := bO_some h
      refine ww_irem 108 X dX1_putUnwrapped_108 e108 ?_
      refine ww_imul 109 X dX1_putUnwrapped_109 ?_
      refine ww_iadd 110 X dX1_putUnwrapped_110 ?_
      refine ww_istore 111 X dX1_putUnwrapped_111 (lv' := [(0, .ref l0), (3, .ref l3), (4, .int l4), (5, .int l5), (6, .int l6), (7, .int ((8 : Int32) + ((8 : Int32) * v108)))]) (by decide) [1, 2, 3, 4, 5, 0] rfl ?_
      refine ww_aload_n 113 X dX1_putUnwrapped_113 0 rfl rfl ?_
      obtain ⟨v114, e114, h⟩ := bO_some h
      refine ww_getR 114 X dX1_putUnwrapped_114 fG_X1_19 e114 ?_
      refine ww_bipush 117 X (v := (7 : Int32)) dX1_putUnwrapped_117 (by decide) ?_
      refine ww_dup2_11 119 X dX1_putUnwrapped_119 rfl rfl ?_
      obtain ⟨v120, e120, h⟩ := bO_some h
      refine ww_iald 120 X dX1_putUnwrapped_120 e120 ?_
      refine ww_iload 121 X dX1_putUnwrapped_121 4 rfl ?_
      refine ww_iconst 123 X (v := (1 : Int32)) dX1_putUnwrapped_123 (by decide) ?_
      refine ww_iadd 124 X dX1_putUnwrapped_124 ?_
      refine ww_ixor 125 X dX1_putUnwrapped_125 ?_
      obtain ⟨M126, e126, h⟩ := bO_some h
      refine ww_iast 126 X dX1_putUnwrapped_126 e126 ?_
      refine ww_aload_n 127 X dX1_putUnwrapped_127 0 rfl rfl ?_
      obtain ⟨v128, e128, h⟩ := bO_some h
      refine ww_getR 128 X dX1_putUnwrapped_128 fG_X1_22 e128 ?_
      refine ww_iload 131 X dX1_putUnwrapped_131 5 rfl ?_
      refine ww_aload_n 133 X dX1_putUnwrapped_133 0 rfl rfl ?_
      obtain ⟨v134, e134, h⟩ := bO_some h
      refine ww_getR 134 X dX1_putUnwrapped_134 fG_X1_19 e134 ?_
      refine ww_bipush 137 X (v := (8 : Int32)) dX1_putUnwrapped_137 (by decide) ?_
      refine ww_bipush 139 X (v := (8 : Int32)) dX1_putUnwrapped_139 (by decide) ?_
      obtain ⟨M141, e141, h⟩ := bO_some h
      refine ww_cpI 141 X (st := []) dX1_putUnwrapped_141 mL_X1_45 (Nat.le_of_ble_eq_true rfl) (Nat.le_of_ble_eq_true rfl) (Nat.le_of_ble_eq_true rfl) e141 ?_
      refine ww_aload_n 144 X dX1_putUnwrapped_144 0 rfl rfl ?_
      refine ww_aload_n 145 X dX1_putUnwrapped_145 0 rfl rfl ?_
      obtain ⟨v146, e146, h⟩ := bO_some h
      refine ww_getR 146 X dX1_putUnwrapped_146 fG_X1_19 e146 ?_
      obtain ⟨_, f149, h⟩ := bO_some h
      obtain ⟨M149, e149, h⟩ := bO_some h
      refine ww_callVV0 149 X dX1_putUnwrapped_149 mY_X1_backward mL_X1_58 (rcv_spec f149) ⟨_, _, rfl⟩ (by decide) (As := [.ref v146]) (rest := []) rfl rfl ⟨Nat.le_of_ble_eq_true rfl, Nat.le_of_ble_eq_true rfl⟩ (Nat.le_of_ble_eq_true rfl) (fun l D A => c_X1_backward l D A e149) ?_
      refine ww_aload_n 152 X dX1_putUnwrapped_152 0 rfl rfl ?_
      obtain ⟨v153, e153, h⟩ := bO_some h
      refine ww_getR 153 X dX1_putUnwrapped_153 fG_X1_19 e153 ?_
      refine ww_bipush 156 X (v := (8 : Int32)) dX1_putUnwrapped_156 (by decide) ?_
      refine ww_aload_n 158 X dX1_putUnwrapped_158 0 rfl rfl ?_
      obtain ⟨v159, e159, h⟩ := bO_some h
      refine ww_getR 159 X dX1_putUnwrapped_159 fG_X1_22 e159 ?_
      refine ww_iload 162 X dX1_putUnwrapped_162 5 rfl ?_
      refine ww_bipush 164 X (v := (8 : Int32)) dX1_putUnwrapped_164 (by decide) ?_
      obtain ⟨M166, e166, h⟩ := bO_some h
      refine ww_cpI 166 X (st := []) dX1_putUnwrapped_166 mL_X1_45 (Nat.le_of_ble_eq_true rfl) (Nat.le_of_ble_eq_true rfl) (Nat.le_of_ble_eq_true rfl) e166 ?_
      refine ww_iinc 169 X dX1_putUnwrapped_169 (lv' := [(0, .ref l0), (3, .ref l3), (4, .int l4), (5, .int l5), (6, .int (l6 + (-1))), (7, .int ((8 : Int32) + ((8 : Int32) * v108)))]) 4 rfl rfl (by decide) [1, 2, 3, 4, 0, 5] rfl ?_
      refine ww_goto 172 91 X dX1_putUnwrapped_172 (by decide) ?_
      exact ww_sub [0, 1, 2, 3, 4] rfl (ih _ _ _ _ _ _ h)
set_option maxHeartbeats 4000000 in
set_option maxRecDepth 100000 in
theorem wB_X1_putUnwrapped_39 {G : mG} {F : Nat} {x : mXT} {sz : Nat} {r0 : Int32} {M0 : mM} (X : mCX G RX1 cX1_putUnwrapped 8 (some .boolean) "putUnwrapped" rmX1_putUnwrapped x) (hQ : mQI x r0 M0 (sz, 0, 0)) : ∀ (n : Nat) (l0 : Nat) (l2 : Nat) (l3 : Nat) (l4 : Int32) (l5 : Int32) (l6 : Int32) (M : mM), B_X1_putUnwrapped_39 G F n l0 l2 l3 l4 l5 l6 M = some (r0, M0) → WW x (sz, 0, 0) M 39 [(0, .ref l0), (2, .ref l2), (3, .ref l3), (4, .int l4), (5, .int l5), (6, .int l6)] [] := by
  intro n
  induction n with
  | zero =>
    intro l0 l2 l3 l4 l5 l6 M h
    exact nomatch (show (none : Option (Int32 × mM)) = some (r0, M0) from h)
  | succ n ih =>
    intro l0 l2 l3 l4 l5 l6 M h
    rw [B_X1_putUnwrapped_39] at h
    refine ww_iload 39 X dX1_putUnwrapped_39 5 rfl ?_
    refine ww_aload_n 41 X dX1_putUnwrapped_41 1 rfl rfl ?_
    obtain ⟨v42, e42, h⟩ := bO_some h
    refine ww_getI 42 X dX1_putUnwrapped_42 fG_X1_68 e42 ?_
    refine ww_icmp_ge 45 67 X dX1_putUnwrapped_45 (by decide) (fun q => ?_) (fun q => ?_)
    · replace h := (if_pos q).symm.trans h
      refine ww_aload_n 67 X dX1_putUnwrapped_67 0 rfl rfl ?_
      obtain ⟨v68, e68, h⟩ := bO_some h
      refine ww_getR 68 X dX1_putUnwrapped_68 fG_X1_22 e68 ?_
      refine ww_iconst 71 X (v := (0 : Int32)) dX1_putUnwrapped_71 (by decide) ?_
      refine ww_aload_n 72 X dX1_putUnwrapped_72 0 rfl rfl ?_
      obtain ⟨v73, e73, h⟩ := bO_some h
      refine ww_getR 73 X dX1_putUnwrapped_73 fG_X1_19 e73 ?_
      refine ww_iconst 76 X (v := (0 : Int32)) dX1_putUnwrapped_76 (by decide) ?_
      refine ww_bipush 77 X (v := (8 : Int32)) dX1_putUnwrapped_77 (by decide) ?_
      obtain ⟨M79, e79, h⟩ := bO_some h
      refine ww_cpI 79 X (st := []) dX1_putUnwrapped_79 mL_X1_45 (Nat.le_of_ble_eq_true rfl) (Nat.le_of_ble_eq_true rfl) (Nat.le_of_ble_eq_true rfl) e79 ?_
      refine ww_bipush 82 X (v := (6 : Int32)) dX1_putUnwrapped_82 (by decide) ?_
      refine ww_iload 84 X dX1_putUnwrapped_84 4 rfl ?_
      refine ww_imul 86 X dX1_putUnwrapped_86 ?_
      refine ww_iconst 87 X (v := (1 : Int32)) dX1_putUnwrapped_87 (by decide) ?_
      refine ww_isub 88 X dX1_putUnwrapped_88 ?_
      refine ww_istore 89 X dX1_putUnwrapped_89 (lv' := [(0, .ref l0), (2, .ref l2), (3, .ref l3), (4, .int l4), (5, .int l5), (6, .int (((6 : Int32) * l5) - (1 : Int32)))]) (by decide) [1, 2, 3, 4, 5, 0] rfl ?_
      exact ww_sub [0, 2, 3, 4, 5] rfl (wB_X1_putUnwrapped_91 X hQ F _ _ _ _ _ _ h)
    · replace h := (if_neg q).symm.trans h
      refine ww_aload_n 48 X dX1_putUnwrapped_48 0 rfl rfl ?_
      obtain ⟨v49, e49, h⟩ := bO_some h
      refine ww_getR 49 X dX1_putUnwrapped_49 fG_X1_22 e49 ?_
      refine ww_iload 52 X dX1_putUnwrapped_52 5 rfl ?_
      refine ww_aload_n 54 X dX1_putUnwrapped_54 1 rfl rfl ?_
      refine ww_iload 55 X dX1_putUnwrapped_55 5 rfl ?_
      obtain ⟨_, f57, h⟩ := bO_some h
      obtain ⟨v57, M57, e57, h⟩ := bP_some h
      refine ww_callVI0 57 X dX1_putUnwrapped_57 mY_X0_get mL_X1_32 (rcv_spec f57) ⟨_, _, rfl⟩ (by decide) (As := [.int l6]) (rest := [.int l6, .ref v49]) rfl rfl ⟨Nat.le_of_ble_eq_true rfl, Nat.le_of_ble_eq_true rfl⟩ (Nat.le_of_ble_eq_true rfl) (fun l D A => c_X0_get l D A e57) ?_
      obtain ⟨M60, e60, h⟩ := bO_some h
      refine ww_iast 60 X dX1_putUnwrapped_60 e60 ?_
      refine ww_iinc 61 X dX1_putUnwrapped_61 (lv' := [(0, .ref l0), (2, .ref l2), (3, .ref l3), (4, .int l4), (5, .int l5), (6, .int (l6 + 1))]) 5 rfl rfl (by decide) [1, 2, 3, 4, 5, 0] rfl ?_
      refine ww_goto 64 39 X dX1_putUnwrapped_64 (by decide) ?_
      exact (ih _ _ _ _ _ _ _ h)
set_option maxHeartbeats 4000000 in
set_option maxRecDepth 100000 in
theorem wP_X1_putUnwrapped {G : mG} {F : Nat} {x : mXT} {sz : Nat} {r0 : Int32} {M0 : mM} (X : mCX G RX1 cX1_putUnwrapped 8 (some .boolean) "putUnwrapped" rmX1_putUnwrapped x) (hQ : mQI x r0 M0 (sz, 0, 0)) {l0 : Nat} {l1 : Nat} {l2 : Nat} {l3 : Nat} {M : mM} (h : P_X1_putUnwrapped G F l0 l1 l2 l3 M = some (r0, M0)) : WW x (sz, 0, 0) M 0 [(0, .ref l0), (1, .ref l1), (2, .ref l2), (3, .ref l3)] [] := by
  unfold P_X1_putUnwrapped at h
  refine ww_aload_n 0 X dX1_putUnwrapped_0 2 rfl rfl ?_
  obtain ⟨v1, e1, h⟩ := bO_some h
  refine ww_getI 1 X dX1_putUnwrapped_1 fG_X1_68 e1 ?_
  refine ww_bipush 4 X (v := (8 : Int32)) dX1_putUnwrapped_4 (by decide) ?_
  refine ww_isub 6 X dX1_putUnwrapped_6 ?_
  refine ww_istore 7 X dX1_putUnwrapped_7 (lv' := [(0, .ref l0), (1, .ref l1), (2, .ref l2), (3, .ref l3), (4, .int (v1 - (8 : Int32)))]) (by decide) [1, 2, 3, 4, 0] rfl ?_
  refine ww_iload 9 X dX1_putUnwrapped_9 4 rfl ?_
  obtain ⟨v11, M11, e11, h⟩ := bP_some h
  refine ww_callSI0 11 X dX1_putUnwrapped_11 mY_X1_mayWrap mL_X1_71 (As := [.int (v1 - (8 : Int32))]) (rest := []) rfl rfl ⟨Nat.le_of_ble_eq_true rfl, Nat.le_of_ble_eq_true rfl⟩ (Nat.le_of_ble_eq_true rfl) (fun l D A => c_X1_mayWrap l D A e11) ?_
  refine ww_if_ne 14 19 X dX1_putUnwrapped_14 (by decide) (fun q => ?_) (fun q => ?_)
  · replace h := (if_neg q).symm.trans h
    refine ww_aload_n 19 X dX1_putUnwrapped_19 0 rfl rfl ?_
    refine ww_aload_n 20 X dX1_putUnwrapped_20 1 rfl rfl ?_
    refine ww_iconst 21 X (v := (0 : Int32)) dX1_putUnwrapped_21 (by decide) ?_
    refine ww_aload_n 22 X dX1_putUnwrapped_22 1 rfl rfl ?_
    obtain ⟨v23, e23, h⟩ := bO_some h
    refine ww_getI 23 X dX1_putUnwrapped_23 fG_X1_68 e23 ?_
    obtain ⟨_, f26, h⟩ := bO_some h
    obtain ⟨M26, e26, h⟩ := bO_some h
    refine ww_callVV0 26 X dX1_putUnwrapped_26 mY_X1_become mL_X1_75 (rcv_spec f26) ⟨_, _, rfl⟩ (by decide) (As := [.ref l1, .int (0 : Int32), .int v23]) (rest := []) rfl rfl ⟨Nat.le_of_ble_eq_true rfl, Nat.le_of_ble_eq_true rfl⟩ (Nat.le_of_ble_eq_true rfl) (fun l D A => c_X1_become l D A e26) ?_
    refine ww_iload 29 X dX1_putUnwrapped_29 4 rfl ?_
    refine ww_bipush 31 X (v := (8 : Int32)) dX1_putUnwrapped_31 (by decide) ?_
    refine ww_idiv 33 X (v := ((v1 - (8 : Int32)) / (8 : Int32))) dX1_putUnwrapped_33 rfl ?_
    refine ww_istore 34 X dX1_putUnwrapped_34 (lv' := [(0, .ref l0), (1, .ref l1), (2, .ref l2), (3, .ref l3), (4, .int (v1 - (8 : Int32))), (5, .int ((v1 - (8 : Int32)) / (8 : Int32)))]) (by decide) [1, 2, 3, 4, 5, 0] rfl ?_
    refine ww_iconst 36 X (v := (0 : Int32)) dX1_putUnwrapped_36 (by decide) ?_
    refine ww_istore 37 X dX1_putUnwrapped_37 (lv' := [(0, .ref l0), (1, .ref l1), (2, .ref l2), (3, .ref l3), (4, .int (v1 - (8 : Int32))), (5, .int ((v1 - (8 : Int32)) / (8 : Int32))), (6, .int (0 : Int32))]) (by decide) [1, 2, 3, 4, 5, 6, 0] rfl ?_
    exact ww_sub [0, 2, 3, 4, 5, 6] rfl (wB_X1_putUnwrapped_39 X hQ F _ _ _ _ _ _ _ h)
  · replace h := (if_pos q).symm.trans h
    refine ww_iconst 17 X (v := (0 : Int32)) dX1_putUnwrapped_17 (by decide) ?_
    exact ww_zretE 18 X hQ dX1_putUnwrapped_18 h
theorem c_X1_putUnwrapped {G : mG} {F sz : Nat} {r0 : Int32} {M0 : mM} (l : Launch) (D : mD) (A : Nat → Prop) {l0 : Nat} {l1 : Nat} {l2 : Nat} {l3 : Nat} {M : mM} (h : P_X1_putUnwrapped G F l0 l1 l2 l3 M = some (r0, M0)) : mMetI l D G A yX1_putUnwrapped cX1_putUnwrapped 8 (some .boolean) 4 89 0 0 [.ref l0, .ref l1, .ref l2, .ref l3] M sz r0 M0 sz := mMetI_of l D G A (by decide) (Nat.le_of_ble_eq_true rfl) (fun x X hQ => wP_X1_putUnwrapped X hQ h)
/-! SealedTokens$Content.<init>(LSealedTokens$Digest;LSealedTokens$Cipher;)V -/
theorem dX2_init_0 : decode cX2_init 0 = .ok (.aload_n 0, 1) := by decide +kernel
theorem dX2_init_1 : decode cX2_init 1 = .ok (.invokespecial 3, 3) := by decide +kernel
theorem dX2_init_4 : decode cX2_init 4 = .ok (.aload_n 0, 1) := by decide +kernel
theorem dX2_init_5 : decode cX2_init 5 = .ok (.bipush 16, 2) := by decide +kernel
theorem dX2_init_7 : decode cX2_init 7 = .ok (.newarray .int, 2) := by decide +kernel
theorem dX2_init_9 : decode cX2_init 9 = .ok (.putfield 11, 3) := by decide +kernel
theorem dX2_init_12 : decode cX2_init 12 = .ok (.aload_n 0, 1) := by decide +kernel
theorem dX2_init_13 : decode cX2_init 13 = .ok (.bipush 16, 2) := by decide +kernel
theorem dX2_init_15 : decode cX2_init 15 = .ok (.newarray .int, 2) := by decide +kernel
theorem dX2_init_17 : decode cX2_init 17 = .ok (.putfield 17, 3) := by decide +kernel
theorem dX2_init_20 : decode cX2_init 20 = .ok (.aload_n 0, 1) := by decide +kernel
theorem dX2_init_21 : decode cX2_init 21 = .ok (.new 20, 3) := by decide +kernel
theorem dX2_init_24 : decode cX2_init 24 = .ok (.dup, 1) := by decide +kernel
theorem dX2_init_25 : decode cX2_init 25 = .ok (.bipush 64, 2) := by decide +kernel
theorem dX2_init_27 : decode cX2_init 27 = .ok (.invokespecial 22, 3) := by decide +kernel
theorem dX2_init_30 : decode cX2_init 30 = .ok (.putfield 25, 3) := by decide +kernel
theorem dX2_init_33 : decode cX2_init 33 = .ok (.aload_n 0, 1) := by decide +kernel
theorem dX2_init_34 : decode cX2_init 34 = .ok (.aload_n 1, 1) := by decide +kernel
theorem dX2_init_35 : decode cX2_init 35 = .ok (.putfield 29, 3) := by decide +kernel
theorem dX2_init_38 : decode cX2_init 38 = .ok (.aload_n 0, 1) := by decide +kernel
theorem dX2_init_39 : decode cX2_init 39 = .ok (.aload_n 2, 1) := by decide +kernel
theorem dX2_init_40 : decode cX2_init 40 = .ok (.putfield 33, 3) := by decide +kernel
theorem dX2_init_43 : decode cX2_init 43 = .ok (.return_, 1) := by decide +kernel
theorem mP_X2_init {G : mG} {F : Nat} {M0 : mM} {Z0 S0 : Nat} {l0 : Nat} {l1 : Nat} {l2 : Nat} {M : mM} {sz : Nat} {sl : Nat} (h : P_X2_init G F l0 l1 l2 M sz sl = some (M0, Z0, S0)) : sz ≤ Z0 ∧ sl ≤ S0 := by
  unfold P_X2_init at h
  obtain ⟨M7, e7, h⟩ := bO_some h
  obtain ⟨M9, e9, h⟩ := bO_some h
  obtain ⟨M15, e15, h⟩ := bO_some h
  obtain ⟨M17, e17, h⟩ := bO_some h
  obtain ⟨M21, ⟨⟩, h⟩ := bO_some h
  obtain ⟨M27, z27, k27, e27, h⟩ := bA_some h
  have g27 := mP_X0_init e27
  obtain ⟨M30, e30, h⟩ := bO_some h
  obtain ⟨M35, e35, h⟩ := bO_some h
  obtain ⟨M40, e40, h⟩ := bO_some h
  have q := retA_v h
  omega
set_option maxHeartbeats 4000000 in
set_option maxRecDepth 100000 in
theorem wP_X2_init {G : mG} {F : Nat} {x : mXT} {z0 s0 : Nat} {M0 : mM} {Z0 S0 : Nat} (X : mCX G RX2 cX2_init 3 none "<init>" { frames := 2, cells := Z0 - z0, slots := S0 - s0, locals := 42 } x) (hQ : mQV x M0 (Z0, Z0 - z0, S0 - s0)) {l0 : Nat} {l1 : Nat} {l2 : Nat} {M : mM} {sz : Nat} {sl : Nat} (hz0 : z0 ≤ sz) (hs0 : s0 ≤ sl) (h : P_X2_init G F l0 l1 l2 M sz sl = some (M0, Z0, S0)) : WW x (sz, sz - z0, sl - s0) M 0 [(0, .ref l0), (1, .ref l1), (2, .ref l2)] [] := by
  unfold P_X2_init at h
  obtain ⟨M7, e7, h⟩ := bO_some h
  obtain ⟨M9, e9, h⟩ := bO_some h
  obtain ⟨M15, e15, h⟩ := bO_some h
  obtain ⟨M17, e17, h⟩ := bO_some h
  obtain ⟨M21, ⟨⟩, h⟩ := bO_some h
  obtain ⟨M27, z27, k27, e27, h⟩ := bA_some h
  have g27 := mP_X0_init e27
  obtain ⟨M30, e30, h⟩ := bO_some h
  obtain ⟨M35, e35, h⟩ := bO_some h
  obtain ⟨M40, e40, h⟩ := bO_some h
  have q := retA_v h
  refine ww_aload_n 0 X dX2_init_0 0 rfl rfl ?_
  refine ww_objI 1 X (st := []) dX2_init_1 oL_X2_3 oI_i oI_c (Nat.le_of_ble_eq_true rfl) (Nat.le_of_ble_eq_true rfl) (Nat.le_of_ble_eq_true rfl) ?_
  refine ww_aload_n 4 X dX2_init_4 0 rfl rfl ?_
  refine ww_bipush 5 X (v := (16 : Int32)) dX2_init_5 (by decide) ?_
  refine ww_newA 7 X (sz := sz) (sl := sl) (z0 := z0) (s0 := s0) dX2_init_7 (k := 0) (by decide) rfl aC_0 e7 (by omega) (by omega) (by show _ ≤ Z0 - z0; omega) (by show _ ≤ S0 - s0; omega) ?_
  refine ww_putR 9 X dX2_init_9 (fP_X2_11 _ (Or.inr rfl)) e9 rfl rfl ?_
  refine ww_aload_n 12 X dX2_init_12 0 rfl rfl ?_
  refine ww_bipush 13 X (v := (16 : Int32)) dX2_init_13 (by decide) ?_
  refine ww_newA 15 X (sz := (sz + 1)) (sl := (sl + ((16 : Int32)).toNatClampNeg)) (z0 := z0) (s0 := s0) dX2_init_15 (k := 0) (by decide) rfl aC_0 e15 (by omega) (by omega) (by show _ ≤ Z0 - z0; omega) (by show _ ≤ S0 - s0; omega) ?_
  refine ww_putR 17 X dX2_init_17 (fP_X2_17 _ (Or.inr rfl)) e17 rfl rfl ?_
  refine ww_aload_n 20 X dX2_init_20 0 rfl rfl ?_
  refine ww_newO 21 X (sz := ((sz + 1) + 1)) (sl := ((sl + ((16 : Int32)).toNatClampNeg) + ((16 : Int32)).toNatClampNeg)) (z0 := z0) (s0 := s0) dX2_init_21 nW_X2_20 (by omega) (by omega) (by show _ ≤ Z0 - z0; omega) (by show _ ≤ S0 - s0; omega) ?_
  refine ww_dup 24 X dX2_init_24 rfl ?_
  refine ww_bipush 25 X (v := (64 : Int32)) dX2_init_25 (by decide) ?_
  refine ww_callIVa 27 X (sz := (((sz + 1) + 1) + 1)) (sl := (((sl + ((16 : Int32)).toNatClampNeg) + ((16 : Int32)).toNatClampNeg) + 3)) (z0 := z0) (s0 := s0) dX2_init_27 mY_X0_init mL_X2_22 (As := [.int (64 : Int32)]) (rest := [.ref ((sz + 1) + 1), .ref l0]) rfl rfl ⟨Nat.le_of_ble_eq_true rfl, Nat.le_of_ble_eq_true rfl⟩ (by omega) (by omega) (by omega) (by omega) (by show _ ≤ Z0 - z0; omega) (by show _ ≤ S0 - s0; omega) (Nat.le_of_ble_eq_true rfl) (fun l D A => c_X0_init l D A e27) ?_
  refine ww_putR 30 X dX2_init_30 (fP_X2_25 _ (Or.inr rfl)) e30 rfl rfl ?_
  refine ww_aload_n 33 X dX2_init_33 0 rfl rfl ?_
  refine ww_aload_n 34 X dX2_init_34 1 rfl rfl ?_
  refine ww_putR 35 X dX2_init_35 (fP_X2_29 _ (Or.inr rfl)) e35 rfl rfl ?_
  refine ww_aload_n 38 X dX2_init_38 0 rfl rfl ?_
  refine ww_aload_n 39 X dX2_init_39 2 rfl rfl ?_
  refine ww_putR 40 X dX2_init_40 (fP_X2_33 _ (Or.inr rfl)) e40 rfl rfl ?_
  exact ww_vretA 43 X hQ dX2_init_43 h
theorem c_X2_init {G : mG} {F : Nat} {M0 : mM} {Z0 S0 : Nat} (l : Launch) (D : mD) (A : Nat → Prop) {l0 : Nat} {l1 : Nat} {l2 : Nat} {M : mM} {sz : Nat} {sl : Nat} (h : P_X2_init G F l0 l1 l2 M sz sl = some (M0, Z0, S0)) : mMetV l D G A yX2_init cX2_init 3 none 2 42 (Z0 - sz) (S0 - sl) [.ref l0, .ref l1, .ref l2] M sz M0 Z0 := mMetV_of l D G A (by decide) (Nat.le_of_ble_eq_true rfl) (fun x X hQ => by have K := wP_X2_init X hQ (Nat.le_refl sz) (Nat.le_refl sl) h; rw [Nat.sub_self, Nat.sub_self] at K; exact K)
