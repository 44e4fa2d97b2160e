/-! WHAT A HEAD NAMES CRITICAL: the class -/
/-- value k, in c, says what value i says -/
def sdB (J : JT) (c i k : Nat) : Bool := decide (J.2.1 2 k = c + 1) && (decide (J.2.1 7 k = J.2.1 7 i) && decide (seg J.2.2 (J.2.1 6 k) (J.2.1 7 i) = seg J.2.2 (J.2.1 6 i) (J.2.1 7 i)))
/-- value i, in c, is none that may be named -/
def crX (J : JT) (c i : Nat) : Bool := decide (J.2.1 2 i = c + 1) && (!decide (J.2.1 1 i = 4) || (fnF (sdB J c i) (i - (c + 1)) (c + 1)).isSome)
def crB (J : JT) (c : Nat) : Bool := kB J (some c) 5 && (!decide (J.2.1 5 c = 0) && (fnF (crX J c) (J.1 - (c + 1)) (c + 1)).isNone)
section CRT
variable {W : WR} {G : mG} {F : Nat} {S : ST} {t ip : Nat} {J : JT} {lp : Bool}
theorem Q10_said_l {c i : Nat} (X : Cx G F W) (K : isTx W t ip) (C : TbC (S 9 t) J) (Y : JX J) (bp : Byt 8192 (S 0 ip) J.2.2 lp) (hc : c < J.1) (hi : i < J.1) : ∀ (m k fuel : Nat), m < fuel → k + m = i → B_X10_isSaidBefore_5 G F fuel (W.ad (.o 9 t)) (Int32.ofNat c) (Int32.ofNat i) (Int32.ofNat k) (mem W S) = some (if (fnF (sdB J c i) m k).isSome = true then 1 else 0, mem W S) := by
  have Y2 := Y.2.1
  have Y1 := Y.1
  intro m
  induction m with
  | zero =>
    intro k fuel hf hk
    obtain ⟨fuel, rfl⟩ : ∃ q, fuel = q + 1 := ⟨fuel - 1, by omega⟩
    rw [B_X10_isSaidBefore_5, if_pos ((n_le (by omega) (by omega)).mpr (by omega))]
    rfl
  | succ m ih =>
    intro k fuel hf hk
    obtain ⟨fuel, rfl⟩ : ∃ q, fuel = q + 1 := ⟨fuel - 1, by omega⟩
    have hkl : k < J.1 := by omega
    obtain ⟨c1, c2, c3, c4, c5, c6, c7, c8⟩ := C.2 k hkl
    obtain ⟨d1, d2, d3, d4, d5, d6, d7, d8⟩ := C.2 i hi
    have yk := Y.2.2 k hkl
    have yi := Y.2.2 i hi
    have nx : B_X10_isSaidBefore_5 G F fuel (W.ad (.o 9 t)) (Int32.ofNat c) (Int32.ofNat i) ((Int32.ofNat k) + 1) (mem W S) = some (if (fnF (sdB J c i) m (k + 1)).isSome = true then 1 else 0, mem W S) := by
      rw [n_i1]
      exact ih (k + 1) fuel (by omega) (by omega)
    have e7 : ((Int32.ofNat (J.2.1 7 k)) = (Int32.ofNat (J.2.1 7 i))) = (J.2.1 7 k = J.2.1 7 i) := propext (n_eq (by omega) (by omega))
    have k6 : k < 600 := by omega
    have i6 : i < 600 := by omega
    rw [B_X10_isSaidBefore_5, if_neg (fun z => by have := (n_le (by omega) (by omega)).mp z; omega)]
    simp only [t9r K 2, t9r K 6, t9r K 7, t9p K, bO_s, t9a K 2 k k6, t9a K 6 k k6, t9a K 7 k k6, t9a K 6 i i6, t9a K 7 i i6, c2, c6, c7, d6, d7, nx, e7]
    simp only [paI_eq (T := J.2.1 2 k) (v := c) (by omega) (by omega)]
    show _ = some (if (if sdB J c i k = true then some k else fnF (sdB J c i) m (k + 1)).isSome = true then 1 else 0, mem W S)
    have no : ¬ (J.2.1 2 k = c + 1 ∧ J.2.1 7 k = J.2.1 7 i ∧ seg J.2.2 (J.2.1 6 k) (J.2.1 7 i) = seg J.2.2 (J.2.1 6 i) (J.2.1 7 i)) → (if sdB J c i k = true then some k else fnF (sdB J c i) m (k + 1)) = fnF (sdB J c i) m (k + 1) := by
      intro z
      refine if_neg (fun q => z ?_)
      unfold sdB at q
      rw [Bool.and_eq_true, Bool.and_eq_true, decide_eq_true_iff, decide_eq_true_iff, decide_eq_true_iff] at q
      exact q
    by_cases e : J.2.1 2 k = c + 1
    · rw [if_pos e]
      by_cases e2 : J.2.1 7 k = J.2.1 7 i
      · rw [if_pos e2, Q0_compare X K.2.2.1 bp K.2.2.1 bp (by omega) (by omega) (by omega), bP_s]
        have sg := seg_iff (xs := J.2.2) (ys := J.2.2) (a := J.2.1 6 k) (b := J.2.1 6 i) (n := J.2.1 7 i) (by omega) (by omega)
        by_cases z : cmpF (fun q => gB J.2.2 (J.2.1 6 k + q)) (fun q => gB J.2.2 (J.2.1 6 i + q)) 0 (J.2.1 7 i) = 0
        · have sd : sdB J c i k = true := by
            unfold sdB
            rw [decide_eq_true e, decide_eq_true e2, decide_eq_true (sg.mpr ((cmpF_zero _ 0).mp z))]
            rfl
          rw [if_pos z, if_pos sd]
          rfl
        · rw [if_neg z, no (fun q => z ((cmpF_zero _ 0).mpr (sg.mp q.2.2))), nx]
      · rw [if_neg e2, no (fun q => e2 q.2.1)]
    · rw [if_neg e, no (fun q => e q.1)]
theorem Q10_said {c i : Nat} (X : Cx G F W) (K : isTx W t ip) (C : TbC (S 9 t) J) (Y : JX J) (bp : Byt 8192 (S 0 ip) J.2.2 lp) (hc : c < i) (hi : i < J.1) (l0 : Nat) : P_X10_isSaidBefore G F l0 (W.ad (.o 9 t)) (Int32.ofNat c) (Int32.ofNat i) (mem W S) = some (if (fnF (sdB J c i) (i - (c + 1)) (c + 1)).isSome = true then 1 else 0, mem W S) := by
  have hF := X.hF
  have Y2 := Y.2.1
  unfold P_X10_isSaidBefore
  rw [show (Int32.ofNat c) + (1 : Int32) = (Int32.ofNat (c + 1)) from n_i1 _]
  exact Q10_said_l X K C Y bp (by omega) hi _ _ F (by omega) (by omega)
theorem Q10_crit_l {c : Nat} (X : Cx G F W) (h : isTk W) (K : isTx W t ip) (C : TbC (S 9 t) J) (Y : JX J) (bp : Byt 8192 (S 0 ip) J.2.2 lp) (hc : c < J.1) : ∀ (m k fuel : Nat), m < fuel → k + m = J.1 → c < k → B_X10_isCritSound_24 G F fuel (W.ad (.o 10 0)) (W.ad (.o 9 t)) (Int32.ofNat c) (Int32.ofNat k) (mem W S) = some (if (fnF (crX J c) m k).isNone = true then 1 else 0, mem W S) := by
  have Y2 := Y.2.1
  intro m
  induction m with
  | zero =>
    intro k fuel hf hk hck
    obtain ⟨fuel, rfl⟩ : ∃ q, fuel = q + 1 := ⟨fuel - 1, by omega⟩
    rw [B_X10_isCritSound_24, t9f K, bO_s, C.1, if_pos ((n_le (by omega) (by omega)).mpr (by omega))]
    rfl
  | succ m ih =>
    intro k fuel hf hk hck
    obtain ⟨fuel, rfl⟩ : ∃ q, fuel = q + 1 := ⟨fuel - 1, by omega⟩
    have hkl : k < J.1 := by omega
    obtain ⟨c1, c2, c3, c4, c5, c6, c7, c8⟩ := C.2 k hkl
    have yk := Y.2.2 k hkl
    have k6 : k < 600 := by omega
    have e4 : ((Int32.ofNat (J.2.1 1 k)) = (4 : Int32)) = (J.2.1 1 k = 4) := propext (n_eq (b := 4) (by omega) (by omega))
    have nx : B_X10_isCritSound_24 G F fuel (W.ad (.o 10 0)) (W.ad (.o 9 t)) (Int32.ofNat c) ((Int32.ofNat k) + 1) (mem W S) = some (if (fnF (crX J c) m (k + 1)).isNone = true then 1 else 0, mem W S) := by
      rw [n_i1]
      exact ih (k + 1) fuel (by omega) (by omega) (by omega)
    rw [B_X10_isCritSound_24, t9f K, bO_s, C.1, if_neg (fun z => by have := (n_le (by omega) (by omega)).mp z; omega)]
    simp only [t9r K 2, t9r K 1, bO_s, t9a K 2 k k6, t9a K 1 k k6, c2, c1, e4, rcv_m h.1]
    simp only [paI_eq (T := J.2.1 2 k) (v := c) (by omega) (by omega)]
    show _ = some (if (if crX J c k = true then some k else fnF (crX J c) m (k + 1)).isNone = true then 1 else 0, mem W S)
    by_cases e : J.2.1 2 k = c + 1
    · rw [if_pos e]
      by_cases e2 : J.2.1 1 k = 4
      · rw [if_pos e2, Q10_said X K C Y bp hck hkl, bP_s]
        by_cases z : (fnF (sdB J c k) (k - (c + 1)) (c + 1)).isSome = true
        · have cx : crX J c k = true := by
            unfold crX
            rw [decide_eq_true e, decide_eq_true e2, z]
            rfl
          rw [if_pos z, if_neg (by decide), if_pos cx]
          rfl
        · have cx : ¬ crX J c k = true := by
            unfold crX
            rw [decide_eq_true e, decide_eq_true e2, Bool.eq_false_iff.mpr z]
            decide
          rw [if_neg z, if_pos rfl, if_neg cx, nx]
      · have cx : crX J c k = true := by
          unfold crX
          rw [decide_eq_true e, decide_eq_false e2]
          rfl
        rw [if_neg e2, if_pos cx]
        rfl
    · have cx : ¬ crX J c k = true := by
        unfold crX
        rw [decide_eq_false e]
        simp
      rw [if_neg e, if_neg cx, nx]
theorem Q10_crit {c : Nat} (X : Cx G F W) (h : isTk W) (K : isTx W t ip) (C : TbC (S 9 t) J) (Y : JX J) (bp : Byt 8192 (S 0 ip) J.2.2 lp) (hc : c < J.1) : P_X10_isCritSound G F (W.ad (.o 10 0)) (W.ad (.o 9 t)) (Int32.ofNat c) (mem W S) = some (if crB J c = true then 1 else 0, mem W S) := by
  have hF := X.hF
  have Y2 := Y.2.1
  obtain ⟨c1, c2, c3, c4, c5, c6, c7, c8⟩ := C.2 c hc
  have yk := Y.2.2 c hc
  unfold P_X10_isCritSound
  have q := Q9_isKind (G := G) (F := F) (S := S) (o := some c) (kd := 5) K C Y (fun i hi => by have := Option.some.inj hi; omega) (by decide)
  have q : P_X9_isKind G F (W.ad (.o 9 t)) (Int32.ofNat c) 5 (mem W S) = _ := q
  rw [rcv_m K.1, bO_s, q, bP_s]
  by_cases e : kB J (some c) 5 = true
  · rw [if_pos e, if_neg (by decide), t9r K 5, bO_s, t9a K 5 c (by omega), bO_s, c5]
    have e0 : ((Int32.ofNat (J.2.1 5 c)) = (0 : Int32)) = (J.2.1 5 c = 0) := propext (n_eq (b := 0) (by omega) (by omega))
    simp only [e0]
    unfold crB
    rw [e, Bool.true_and]
    by_cases z : J.2.1 5 c = 0
    · rw [if_pos z, decide_eq_true z]
      rfl
    · rw [if_neg z, decide_eq_false z, show (Int32.ofNat c) + (1 : Int32) = (Int32.ofNat (c + 1)) from n_i1 _, Q10_crit_l X h K C Y bp hc (J.1 - (c + 1)) (c + 1) F (by omega) (by omega) (by omega)]
      rfl
  · rw [if_neg e, if_pos rfl]
    unfold crB
    rw [Bool.eq_false_iff.mpr e]
    rfl
end CRT
