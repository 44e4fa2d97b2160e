/-! WHO MAY SEAL: the model -/
theorem keyOf_t {G : mG} {F way : Nat} {M : mM} (hy : way < 4) : P_X13_keyOf G F (Int32.ofNat way) M = some ((Int32.ofNat (wayK way)), M) := by
  have h4 : way = 0 ∨ way = 1 ∨ way = 2 ∨ way = 3 := by omega
  rcases h4 with rfl | rfl | rfl | rfl <;> rfl
section MSL5
variable {W : WR} {G : mG} {F : Nat} {S : ST} {o : Ob} {A : Nat → Option KY}
theorem oM_maySeal {k w way : Nat} {K : KY} (sec : Bool) (X : Cx G F W) (h : isM W) (KK : KM o A) (hk : k < 16) (e : A k = some K) (hw : w ≤ 5) (hy : way < 4) : P_X13_maySeal G F (W.ad (.o 13 0)) (Int32.ofNat k) (Int32.ofNat w) (Int32.ofNat way) (if sec = true then 1 else 0) (mem W (S.so 13 0 o)) = some (if maySl K w way sec = true then 1 else 0, mem W (S.so 13 0 o)) := by
  have lt := oM_lets (G := G) (F := F) (S := S) (j := 117) (w := w) (what := 2) (ws := wrE) X h KK hk e (by decide) row_117 (by decide) wrE_x (by omega) (by decide) (5 + w) (fun d => by rw [wdE (by omega), show 33 + (5 + w) = 38 + w by omega]) (by omega)
  have lt : P_X13_lets G F (W.ad (.o 13 0)) (Int32.ofNat k) (G.1 117) (Int32.ofNat w) 2 (mem W (S.so 13 0 o)) = _ := lt
  obtain ⟨α85, α87, α89, α92, α94, bb, q⟩ := id KK
  have q := q k hk
  rw [e] at q
  obtain ⟨q0, ⟨⟨z1, z2, z3, z4, z5, z6⟩, y1, y2, y3, y4, wd, y5, y6, y7⟩, V⟩ := q
  have u3 := V.us
  have k2 := V.kd
  have l1 := y1.1
  have wk : wayK way ≤ 64 := by
    have h4 : way = 0 ∨ way = 1 ∨ way = 2 ∨ way = 3 := by omega
    rcases h4 with rfl | rfl | rfl | rfl <;> decide
  have rd : ∀ {kk : Nat}, (kdA 13)[kk]? = some 0 → mLen kk = 16 → aI G (mem W (S.so 13 0 o)) 0 (W.ad (.a 13 0 kk)) (Int32.ofNat k) = some (o.a kk k) := fun {kk} c1 c2 => by
    rw [h.aN c1 (by rw [c2]; exact hk) (by rw [c2]; decide), so_eq]
  have us : decide (K.2.2.1 = 0 ∨ K.2.2.1 = 2) = decide (K.2.2.1 ≠ 1 ∧ K.2.2.1 ≠ 3) := by
    by_cases c : K.2.2.1 = 0 ∨ K.2.2.1 = 2
    · rw [decide_eq_true c, decide_eq_true (by omega)]
    · rw [decide_eq_false c, decide_eq_false (by omega)]
  have Me0 : K.1 ≠ 2 → Ma K = K.2.1.1 := fun c => by unfold Ma; rw [if_neg c]
  have e113 : ∀ g : Bool, B_X13_maySeal_113 G F (W.ad (.o 13 0)) (Int32.ofNat k) (if sec = true then 1 else 0) (if g = true then 1 else 0) (mem W (S.so 13 0 o)) = some (if (g && (!sec || K.2.1.2.2.isSome)) = true then 1 else 0, mem W (S.so 13 0 o)) := by
    intro g
    unfold B_X13_maySeal_113
    cases g with
    | false => rw [if_neg Bool.false_ne_true, if_pos rfl, rz0, Bool.false_and]; rfl
    | true =>
      rw [if_pos rfl, if_neg (by decide), Bool.true_and]
      cases sec with
      | false => rw [if_neg Bool.false_ne_true, if_pos rfl, rz1]; rfl
      | true =>
        rw [if_pos rfl, if_neg (by decide), h.gR 90 rfl (by decide), bO_s, rd rfl rfl, bO_s, z4]
        unfold Md
        cases ed : K.2.1.2.2 with
        | none => rfl
        | some d =>
          have sc := V.sec ed
          show (if (Int32.ofNat d.length) ≤ 0 then _ else _) = _
          rw [if_neg (fun z => by have := (n_le (b := 0) (by omega) (by omega)).mp z; omega)]
          rfl
  have g1 := e113 true
  have g0 := e113 false
  rw [if_pos rfl, Bool.true_and] at g1
  rw [if_neg Bool.false_ne_true, Bool.false_and] at g0
  have two : ∀ (a b : Nat), a < 2 ^ 31 → b < 2 ^ 31 → (if (Int32.ofNat a) = (Int32.ofNat b) then retZ (1 : Int32) (mem W (S.so 13 0 o)) else retZ (0 : Int32) (mem W (S.so 13 0 o))) = some (if decide (a = b) = true then 1 else 0, mem W (S.so 13 0 o)) := by
    intro a b ha hb
    by_cases c : a = b
    · rw [if_pos (by rw [c]), rz1, if_pos (decide_eq_true c)]
    · rw [if_neg (fun q => c ((n_eq ha hb).mp q)), rz0, if_neg (by rw [decide_eq_false c]; decide)]
  unfold P_X13_maySeal maySl
  rw [rcv_m h.lo, bO_s, lt, bP_s, us]
  cases cL : ((decide (K.2.2.2.1 = -1) || decide (K.2.2.2.1 = (Int32.ofNat (5 + w)))) && decide (K.2.2.1 ≠ 1 ∧ K.2.2.1 ≠ 3)) with
  | false =>
    rw [if_neg Bool.false_ne_true, if_pos rfl, rz0]
    rw [Bool.and_eq_false_iff] at cL
    rcases cL with c | c
    · rw [c, Bool.false_and, Bool.and_false, Bool.and_false]; rfl
    · rw [c, Bool.false_and, Bool.and_false]; rfl
  | true =>
    rw [Bool.and_eq_true] at cL
    rw [if_pos rfl, if_neg (by decide), cL.1, cL.2, Bool.true_and, Bool.true_and, h.gR 86 rfl (by decide), bO_s, rd rfl rfl, bO_s, z2, h.gR 84 rfl (by decide), bO_s, bO_s, bO_s, rd rfl rfl, bO_s, bO_s, bO_s, z1]
    have x0 : (Int32.ofNat (K.1)) = (0 : Int32) ↔ K.1 = 0 := n_eq (b := 0) (by omega) (by omega)
    have x1 : (Int32.ofNat (K.1)) = (1 : Int32) ↔ K.1 = 1 := n_eq (b := 1) (by omega) (by omega)
    have x2 : (Int32.ofNat (K.1)) = (2 : Int32) ↔ K.1 = 2 := n_eq (b := 2) (by omega) (by omega)
    have no : ∀ {b : Nat}, K.1 ≠ b → ∀ c : Bool, some ((0 : Int32), mem W (S.so 13 0 o)) = some (if (decide (K.1 = b) && c) = true then 1 else 0, mem W (S.so 13 0 o)) := fun {b} hb c => by rw [decide_eq_false hb, Bool.false_and]; rfl
    have h6 : w = 0 ∨ w = 1 ∨ w = 2 ∨ w = 3 ∨ w = 4 ∨ w = 5 := by omega
    rcases h6 with rfl | rfl | rfl | rfl | rfl | rfl
    · rw [if_neg (show ¬ (3 : Int32) ≤ (Int32.ofNat 0) by decide)]
      by_cases c : K.1 = 0
      · rw [if_pos (x0.mpr c), if_pos (show (Int32.ofNat 0) = (0 : Int32) from rfl), keyOf_t hy, bP_s, Me0 (by omega), show decide (K.1 = slKd 0) = true from decide_eq_true c, Bool.true_and]
        rw [Me0 (by omega)] at l1
        exact two _ _ (by omega) (by omega)
      · rw [if_neg (fun z => c (x0.mp z)), rz0]
        exact no c _
    · rw [if_neg (show ¬ (3 : Int32) ≤ (Int32.ofNat 1) by decide)]
      by_cases c : K.1 = 0
      · rw [if_pos (x0.mpr c), if_neg (show ¬ (Int32.ofNat 1) = (0 : Int32) by decide), Me0 (by omega), show decide (K.1 = slKd 1) = true from decide_eq_true c, Bool.true_and]
        rw [Me0 (by omega)] at l1
        exact two _ 16 (by omega) (by omega)
      · rw [if_neg (fun z => c (x0.mp z)), rz0]
        exact no c _
    · rw [if_neg (show ¬ (3 : Int32) ≤ (Int32.ofNat 2) by decide)]
      by_cases c : K.1 = 0
      · rw [if_pos (x0.mpr c), if_neg (show ¬ (Int32.ofNat 2) = (0 : Int32) by decide), Me0 (by omega), show decide (K.1 = slKd 2) = true from decide_eq_true c, Bool.true_and]
        rw [Me0 (by omega)] at l1
        exact two _ 32 (by omega) (by omega)
      · rw [if_neg (fun z => c (x0.mp z)), rz0]
        exact no c _
    · rw [if_pos (show (3 : Int32) ≤ (Int32.ofNat 3) by decide), if_pos (show (Int32.ofNat 3) = (3 : Int32) from rfl)]
      by_cases c : K.1 = 1
      · rw [if_pos (x1.mpr c), keyOf_t hy, bP_s, Me0 (by omega), show decide (K.1 = slKd 3) = true from decide_eq_true c, Bool.true_and, show (66 : Int32) + (Int32.ofNat (wayK way)) = (Int32.ofNat (66 + wayK way)) from n_add 66 _]
        rw [Me0 (by omega)] at l1
        show _ = some (if (decide (66 + wayK way ≤ K.2.1.1.length) && (!sec || K.2.1.2.2.isSome)) = true then 1 else 0, _)
        by_cases d : 66 + wayK way ≤ K.2.1.1.length
        · rw [if_neg (fun z => by have := (n_lt (by omega) (by omega)).mp z; omega), decide_eq_true d, Bool.true_and]
          exact g1
        · rw [if_pos ((n_lt (by omega) (by omega)).mpr (by omega)), decide_eq_false d, Bool.false_and]
          exact g0
      · rw [if_neg (fun z => c (x1.mp z))]
        exact g0.trans (no c _)
    · rw [if_pos (show (3 : Int32) ≤ (Int32.ofNat 4) by decide), if_neg (show ¬ (Int32.ofNat 4) = (3 : Int32) by decide)]
      by_cases c : K.1 = 2
      · rw [if_pos (x2.mpr c), show decide (K.1 = slKd 4) = true from decide_eq_true c, Bool.true_and]
        exact g1
      · rw [if_neg (fun z => c (x2.mp z))]
        exact g0.trans (no c _)
    · rw [if_pos (show (3 : Int32) ≤ (Int32.ofNat 5) by decide), if_neg (show ¬ (Int32.ofNat 5) = (3 : Int32) by decide)]
      by_cases c : K.1 = 2
      · rw [if_pos (x2.mpr c), show decide (K.1 = slKd 5) = true from decide_eq_true c, Bool.true_and]
        exact g1
      · rw [if_neg (fun z => c (x2.mp z))]
        exact g0.trans (no c _)
end MSL5
