/-! WHO MAY SIGN: the model -/
section MSG5
variable {W : WR} {G : mG} {F : Nat} {S : ST} {o : Ob} {A : Nat → Option KY}
theorem oM_maySign {k w : Nat} {K : KY} (sec : Bool) (X : Cx G F W) (h : isM W) (KK : KM o A) (hk : k < 16) (e : A k = some K) (hw : w ≤ 4) : P_X13_maySign G F (W.ad (.o 13 0)) (Int32.ofNat k) (Int32.ofNat w) (if sec = true then 1 else 0) (mem W (S.so 13 0 o)) = some (if maySg K w sec = true then 1 else 0, mem W (S.so 13 0 o)) := by
  have lt := oM_lets (G := G) (F := F) (S := S) (j := 108) (w := w) (what := 1) (ws := wrS) X h KK hk e (by decide) row_108 (by decide) wrS_x (by omega) (by decide) w (fun d => wdS (by omega)) (by omega)
  have lt : P_X13_lets G F (W.ad (.o 13 0)) (Int32.ofNat k) (G.1 108) (Int32.ofNat w) 1 (mem W (S.so 13 0 o)) = _ := lt
  obtain ⟨α85, α87, α89, α92, α94, bb, q⟩ := id KK
  have q := q k hk
  rw [e] at q
  obtain ⟨q0, ⟨⟨z1, z2, z3, z4, z5, z6⟩, y1, y2, y3, y4, wd, y5, y6, y7⟩, V⟩ := q
  have u3 := V.us
  have k2 := V.kd
  have l1 := y1.1
  have l3 := y3.1
  have rd : ∀ {kk : Nat}, (kdA 13)[kk]? = some 0 → mLen kk = 16 → aI G (mem W (S.so 13 0 o)) 0 (W.ad (.a 13 0 kk)) (Int32.ofNat k) = some (o.a kk k) := fun {kk} c1 c2 => by
    rw [h.aN c1 (by rw [c2]; exact hk) (by rw [c2]; decide), so_eq]
  have ks : sgKd w ≤ 2 := by unfold sgKd; split <;> (try split) <;> omega
  have sl : sgLe w ≤ 67 := by unfold sgLe; split <;> (try split) <;> (try split) <;> omega
  have len : K.1 = sgKd w → (sgLe w ≤ (Ma K).length ↔ sgLe w ≤ K.2.1.1.length) := by
    intro c
    by_cases c2 : K.1 = 2
    · have w4 : w = 4 := by
        rw [c] at c2
        unfold sgKd at c2
        split at c2
        · omega
        · split at c2 <;> omega
      have : sgLe w = 0 := by rw [w4]; rfl
      omega
    · have : Ma K = K.2.1.1 := by unfold Ma; rw [if_neg c2]
      rw [this]
  have us : decide (K.2.2.1 = 0 ∨ K.2.2.1 = 1) = decide (K.2.2.1 ≤ 1) := by
    by_cases c : K.2.2.1 ≤ 1
    · rw [decide_eq_true c, decide_eq_true (by omega)]
    · rw [decide_eq_false c, decide_eq_false (by omega)]
  have e51 : B_X13_maySign_51 G F (W.ad (.o 13 0)) (Int32.ofNat k) (Int32.ofNat w) (if sec = true then 1 else 0) (Int32.ofNat (sgKd w)) (Int32.ofNat (sgLe w)) (mem W (S.so 13 0 o)) = some (if maySg K w sec = true then 1 else 0, mem W (S.so 13 0 o)) := by
    unfold B_X13_maySign_51 maySg
    rw [rcv_m h.lo, bO_s, lt, bP_s, us]
    cases cL : ((decide (K.2.2.2.1 = -1) || decide (K.2.2.2.1 = (Int32.ofNat w))) && decide (K.2.2.1 ≤ 1)) with
    | false =>
      rw [if_neg Bool.false_ne_true, if_pos rfl, rz0]
      rw [Bool.and_eq_false_iff] at cL
      rcases cL with c | c
      · rw [c, Bool.false_and, Bool.and_false, Bool.and_false]; rfl
      · rw [c, Bool.false_and, Bool.and_false]; rfl
    | true =>
      rw [Bool.and_eq_true] at cL
      rw [if_pos rfl, if_neg (by decide), cL.1, cL.2, Bool.true_and, Bool.true_and, h.gR 84 rfl (by decide), bO_s, rd rfl rfl, bO_s, z1]
      by_cases c1 : K.1 = sgKd w
      · rw [if_pos (by rw [c1]), decide_eq_true c1, Bool.true_and, h.gR 86 rfl (by decide), bO_s, rd rfl rfl, bO_s, z2]
        by_cases c2 : sgLe w ≤ (Ma K).length
        · rw [if_neg (fun z => by have := (n_lt (by omega) (by omega)).mp z; omega), decide_eq_true ((len c1).mp c2), Bool.true_and]
          cases sec with
          | false => rw [if_neg Bool.false_ne_true, if_pos rfl, rz1]; rfl
          | true =>
            rw [if_pos rfl, if_neg (by decide)]
            by_cases c3 : K.1 = 0
            · rw [if_pos (show (Int32.ofNat (sgKd w)) = 0 by rw [← c1, c3]; rfl), rz1, decide_eq_true c3]; rfl
            · rw [if_neg (show ¬ (Int32.ofNat (sgKd w)) = 0 from fun z => c3 (by rw [c1]; exact (n_eq (b := 0) (by omega) (by omega)).mp z)), h.gR 90 rfl (by decide), bO_s, rd rfl rfl, bO_s, z4, decide_eq_false c3]
              unfold Md
              cases ed : K.2.1.2.2 with
              | none => rfl
              | some d =>
                have sc := V.sec ed
                show (if (Int32.ofNat d.length) ≤ 0 then _ else _) = _
                rw [if_neg (fun z => by have := (n_le (b := 0) (by omega) (by omega)).mp z; omega)]
                rfl
        · rw [if_pos ((n_lt (by omega) (by omega)).mpr (by omega)), rz0, decide_eq_false (fun z => c2 ((len c1).mpr z)), Bool.false_and]
          rfl
      · rw [if_neg (fun z => c1 ((n_eq (by omega) (by omega)).mp z)), rz0, decide_eq_false c1, Bool.false_and]
        rfl
  unfold P_X13_maySign
  have h5 : w = 0 ∨ w = 1 ∨ w = 2 ∨ w = 3 ∨ w = 4 := by omega
  rcases h5 with rfl | rfl | rfl | rfl | rfl <;> exact e51
end MSG5
