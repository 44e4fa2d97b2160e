/-! WHAT IS ASKED OF A TEXT BY NAME: the model -/
section MFIND
variable {W : WR} {G : mG} {F : Nat} {S : ST} {bk : Nat} {J : JT}
theorem QM_isSaid_l {j a m : Nat} {β : Nat → UInt8} (X : Cx G F W) (h : isM W) (hb : mB (S 13 0) 15 β) (hj : j < 124) (hm : m = (str j).length) (ha : a + m ≤ 16400) : ∀ (q k fuel : Nat) (is : Bool), q < fuel → k + q = m → (is = true ↔ ∀ i (hi : i < (str j).length), i < k → β (a + i) = (str j)[i]) → B_X13_isSaid_18 G F fuel (W.ad (.o 13 0)) (Int32.ofNat a) (Int32.ofNat m) (G.1 j) (if is then 1 else 0) (Int32.ofNat k) (mem W S) = some (if rdB β a m = str j then 1 else 0, mem W S) := by
  have sl := str_lt hj
  have key : rdB β a m = str j ↔ ∀ i (hi : i < (str j).length), i < m → β (a + i) = (str j)[i] := by
    constructor
    · intro e i hi _
      have := rdB_at (β := β) (p := a) (n := m) (j := i) (by omega)
      rw [e, List.getElem?_eq_getElem hi] at this
      exact (Option.some.inj this).symm
    · intro e
      apply List.ext_getElem?
      intro i
      by_cases hi : i < m
      · rw [rdB_at hi, List.getElem?_eq_getElem (by omega), e i (by omega) hi]
      · rw [List.getElem?_eq_none (by rw [rdB_len]; omega), List.getElem?_eq_none (by omega)]
  intro q
  induction q with
  | zero =>
    intro k fuel is hf hk hi
    obtain ⟨fuel, rfl⟩ : ∃ q, fuel = q + 1 := ⟨fuel - 1, by omega⟩
    have ek : k = m := by omega
    subst ek
    rw [B_X13_isSaid_18, if_pos ((n_le (by omega) (by omega)).mpr (Nat.le_refl _))]
    by_cases e : rdB β a k = str j
    · rw [if_pos e, hi.mpr (key.mp e)]
      rfl
    · rw [if_neg e]
      cases is with
      | false => rfl
      | true => exact absurd (key.mpr (hi.mp rfl)) e
  | succ q ih =>
    intro k fuel is hf hk hi
    obtain ⟨fuel, rfl⟩ : ∃ q, fuel = q + 1 := ⟨fuel - 1, by omega⟩
    rw [B_X13_isSaid_18, if_neg (fun q => absurd ((n_le (by omega) (by omega)).mp q) (by omega))]
    have hkl : k < (str j).length := by omega
    obtain ⟨c1, c2⟩ := chr hj hkl
    cases is with
    | false =>
      rw [if_pos (by rfl), if_neg (fun e => absurd (hi.mpr (fun i h1 h2 => key.mp e i h1 (by omega))) (by decide))]
      rfl
    | true =>
      rw [if_neg (by decide), h.gR 15 rfl (by decide), bO_s, n_add, h.aB (k := 15) rfl hb (by show a + k < 16400; omega) (by decide), bO_s, srcs X hj, bO_s, QJ_charAt X hj (by rw [← str_len]; exact hkl), bP_s, c1]
      by_cases e : β (a + k) = (str j)[k]
      · rw [if_pos ((sb_asc c2).mpr e), n_i1]
        refine ih (k + 1) fuel true (by omega) (by omega) ⟨fun _ i h1 h2 => ?_, fun _ => rfl⟩
        by_cases ei : i = k
        · subst ei
          exact e
        · exact hi.mp rfl i h1 (by omega)
      · rw [if_neg (fun q => e ((sb_asc c2).mp q)), n_i1]
        exact ih (k + 1) fuel false (by omega) (by omega) ⟨fun q => absurd q (by decide), fun q => absurd (q k hkl (by omega)) e⟩
theorem QM_isSaid {j a m : Nat} {β : Nat → UInt8} (X : Cx G F W) (h : isM W) (hb : mB (S 13 0) 15 β) (hj : j < 124) (ha : a + m ≤ 16400) : P_X13_isSaid G F (W.ad (.o 13 0)) (Int32.ofNat a) (Int32.ofNat m) (G.1 j) (mem W S) = some (if m = (str j).length ∧ rdB β a m = str j then 1 else 0, mem W S) := by
  have hF := X.hF
  have sl := str_lt hj
  unfold P_X13_isSaid
  rw [srcs X hj, bO_s, QJ_length X hj, bP_s, ← str_len]
  by_cases e : m = (str j).length
  · rw [if_pos (by rw [e])]
    have := QM_isSaid_l (G := G) (F := F) X h hb hj e ha m 0 F true (by omega) (by omega) ⟨fun _ i _ h => absurd h (Nat.not_lt_zero _), fun _ => rfl⟩
    have this : B_X13_isSaid_18 G F F (W.ad (.o 13 0)) (Int32.ofNat a) (Int32.ofNat m) (G.1 j) 1 0 (mem W S) = _ := this
    rw [this]
    by_cases z : rdB β a m = str j
    · rw [if_pos z, if_pos ⟨e, z⟩]
    · rw [if_neg z, if_neg (fun q => z q.2)]
  · rw [if_neg (fun q => e ((n_eq (by omega) (by omega)).mp q)), if_neg (fun q => e q.1)]
    obtain ⟨F', hF'⟩ : ∃ q, F = q + 1 := ⟨F - 1, by omega⟩
    have ef : B_X13_isSaid_18 G F F = B_X13_isSaid_18 G F (F' + 1) := by rw [← hF']
    rw [ef, B_X13_isSaid_18]
    split
    · rfl
    · rw [if_pos rfl]
      rfl
theorem QM_isSaid_n {j : Nat} {a : Int32} (X : Cx G F W) (hj : j < 124) : P_X13_isSaid G F (W.ad (.o 13 0)) a (-1) (G.1 j) (mem W S) = some (0, mem W S) := by
  have hF := X.hF
  have sl := str_lt hj
  unfold P_X13_isSaid
  rw [srcs X hj, bO_s, QJ_length X hj, bP_s, ← str_len, if_neg (fun q => n_nm (n := (str j).length) (by omega) q.symm)]
  obtain ⟨F', hF'⟩ : ∃ q, F = q + 1 := ⟨F - 1, by omega⟩
  have ef : B_X13_isSaid_18 G F F = B_X13_isSaid_18 G F (F' + 1) := by rw [← hF']
  rw [ef, B_X13_isSaid_18, if_pos (by decide)]
  rfl
theorem QM_memberOf_l {j v : Nat} (X : Cx G F W) (h : isM W) (M : MTx (S 13 0) bk J) (hbk : bk ≤ 1) (Y : JX J) (hj : j < 124) (hv : v < J.1) : ∀ (m k fuel : Nat), m < fuel → k + m = J.1 → v < k → B_X13_memberOf_15 G F fuel (W.ad (.o 13 0)) (Int32.ofNat bk) (Int32.ofNat v) (G.1 j) (Int32.ofNat (600 * bk)) (Int32.ofNat (600 * bk + k)) (mem W S) = some (oI (if J.2.1 1 v = 6 then fnF (mName J v (str j)) m k else none), mem W S) := by
  have Y2 := Y.2.1
  have Y1 := Y.1
  obtain ⟨m1, m2, β, m3, m4⟩ := M
  intro m
  induction m with
  | zero =>
    intro k fuel hf hkm hvk
    obtain ⟨fuel, rfl⟩ : ∃ q, fuel = q + 1 := ⟨fuel - 1, by omega⟩
    rw [B_X13_memberOf_15, h.gR 16 rfl (by decide), bO_s, h.aN rfl (show bk < 2 by omega) (by decide), bO_s, m1, n_add, if_pos ((n_le (by omega) (by omega)).mpr (by omega))]
    split <;> rfl
  | succ m ih =>
    intro k fuel hf hkm hvk
    obtain ⟨fuel, rfl⟩ : ∃ q, fuel = q + 1 := ⟨fuel - 1, by omega⟩
    obtain ⟨a1, a2, a3, a4, a5, a6, a7, a8, a9⟩ := m2 k (Nat.zero_le _) (by omega)
    obtain ⟨y1, y2, y3, y4, y5, y6, y7⟩ := Y.2.2 k (by omega)
    have jl : 600 * bk + k < 1200 := by omega
    have e2 : (paI (J.2.1 2 k) = (Int32.ofNat v)) = (J.2.1 2 k = v + 1) := paI_eq (by omega) (by omega)
    have nx : B_X13_memberOf_15 G F fuel (W.ad (.o 13 0)) (Int32.ofNat bk) (Int32.ofNat v) (G.1 j) (Int32.ofNat (600 * bk)) ((Int32.ofNat (600 * bk + k)) + 1) (mem W S) = some (oI (if J.2.1 1 v = 6 then fnF (mName J v (str j)) m (k + 1) else none), mem W S) := by
      rw [n_i1]
      exact ih (k + 1) fuel (by omega) (by omega) (by omega)
    rw [B_X13_memberOf_15, h.gR 16 rfl (by decide), bO_s, h.aN rfl (show bk < 2 by omega) (by decide), bO_s, m1, n_add, if_neg (fun q => absurd ((n_le (by omega) (by omega)).mp q) (by omega)), mvr h 7, bO_s, mva h 7 _ jl, bO_s, a2]
    simp only [e2]
    show _ = some (oI (if J.2.1 1 v = 6 then (if mName J v (str j) k = true then some k else fnF (mName J v (str j)) m (k + 1)) else none), mem W S)
    have skip : ¬ mName J v (str j) k = true → (if J.2.1 1 v = 6 then (if mName J v (str j) k = true then some k else fnF (mName J v (str j)) m (k + 1)) else none) = (if J.2.1 1 v = 6 then fnF (mName J v (str j)) m (k + 1) else none) := by
      intro q
      rw [if_neg q]
    by_cases c1 : J.2.1 2 k = v + 1
    · rw [if_pos c1, mvr h 13, bO_s, mva h 13 _ jl, bO_s, mvr h 14, bO_s, mva h 14 _ jl, bO_s, rcv_m h.lo, bO_s]
      by_cases k6 : J.2.1 1 v = 6
      · obtain ⟨b13, b14⟩ := a8 ⟨by omega, by rw [c1]; exact k6⟩
        rw [b13, b14, QM_isSaid X h m3 hj (by omega), bP_s]
        have es : rdB β (8200 * bk + J.2.1 8 k) (J.2.1 9 k) = seg J.2.2 (J.2.1 8 k) (J.2.1 9 k) := by rw [← m4, seg_rd y7]
        rw [es]
        by_cases z : J.2.1 9 k = (str j).length ∧ seg J.2.2 (J.2.1 8 k) (J.2.1 9 k) = str j
        · have mt : mName J v (str j) k = true := by
            unfold mName
            rw [decide_eq_true c1, decide_eq_true z.1, decide_eq_true (by rw [← z.1]; exact z.2)]
            rfl
          rw [if_pos z, if_neg (by decide), if_pos k6, if_pos mt, n_sub (by omega), show 600 * bk + k - 600 * bk = k by omega]
          rfl
        · have mf : ¬ mName J v (str j) k = true := by
            unfold mName
            rw [Bool.and_eq_true, Bool.and_eq_true, decide_eq_true_iff, decide_eq_true_iff, decide_eq_true_iff]
            exact fun q => z ⟨q.2.1, by rw [q.2.1]; exact q.2.2⟩
          rw [if_neg z, if_pos rfl, skip mf, nx]
      · have b14 := a9 (fun q => k6 (by have := q.2; rw [c1] at this; exact this))
        rw [b14, QM_isSaid_n X hj, bP_s, if_pos rfl, nx, if_neg k6, if_neg k6]
    · have mf : ¬ mName J v (str j) k = true := by
        unfold mName
        rw [decide_eq_false c1]
        simp
      rw [if_neg c1, skip mf, nx]
theorem QM_memberOf {j v : Nat} (X : Cx G F W) (h : isM W) (M : MTx (S 13 0) bk J) (hbk : bk ≤ 1) (Y : JX J) (hj : j < 124) (hv : v < J.1) : P_X13_memberOf G F (W.ad (.o 13 0)) (Int32.ofNat bk) (Int32.ofNat v) (G.1 j) (mem W S) = some (oI (fN J (str j) (some v)), mem W S) := by
  have hF := X.hF
  have Y2 := Y.2.1
  unfold P_X13_memberOf
  rw [show (600 : Int32) * (Int32.ofNat bk) = (Int32.ofNat (600 * bk)) by rw [show (600 : Int32) = (Int32.ofNat 600) from rfl, n_mul], n_add, n_i1, show 600 * bk + v + 1 = 600 * bk + (v + 1) from rfl, QM_memberOf_l X h M hbk Y hj hv (J.1 - (v + 1)) (v + 1) F (by omega) (by omega) (by omega)]
  show some (oI (if J.2.1 1 v = 6 then _ else none), _) = some (oI (if (decide (v < J.1) && decide (J.2.1 1 v = 6)) = true then _ else none), _)
  rw [decide_eq_true hv, Bool.true_and]
  by_cases e : J.2.1 1 v = 6
  · rw [if_pos e, if_pos (decide_eq_true e)]
  · rw [if_neg e, if_neg (by rw [decide_eq_false e]; decide)]
theorem QM_isString {o : Option Nat} (h : isM W) (M : MTx (S 13 0) bk J) (hbk : bk ≤ 1) (Y : JX J) (ho : ∀ i, o = some i → i < J.1) : P_X13_isString G F (W.ad (.o 13 0)) (Int32.ofNat bk) (oI o) (mem W S) = some (if kB J o 4 = true then 1 else 0, mem W S) := by
  have Y2 := Y.2.1
  obtain ⟨m1, m2, β, m3, m4⟩ := M
  unfold P_X13_isString
  cases o with
  | none =>
    rw [if_pos (show oI none < 0 by decide)]
    rfl
  | some i =>
    have hi := ho i rfl
    obtain ⟨a1, _⟩ := m2 i (Nat.zero_le _) hi
    have y := (Y.2.2 i hi).1
    have jl : 600 * bk + i < 1200 := by omega
    have e : (600 : Int32) * (Int32.ofNat bk) + oI (some i) = (Int32.ofNat (600 * bk + i)) := m600
    rw [if_neg (show ¬ oI (some i) < 0 from nn (by omega)), mvr h 6, bO_s, e, mva h 6 _ jl, bO_s, a1]
    show _ = some (if (decide (i < J.1) && decide (J.2.1 1 i = 4)) = true then 1 else 0, _)
    rw [decide_eq_true hi, Bool.true_and]
    by_cases k4 : J.2.1 1 i = 4
    · rw [if_pos (show (Int32.ofNat (J.2.1 1 i)) = (4 : Int32) by rw [k4]; rfl), if_pos (decide_eq_true k4)]
      rfl
    · rw [if_neg (show ¬ (Int32.ofNat (J.2.1 1 i)) = (4 : Int32) from fun q => k4 ((n_eq (b := 4) (by omega) (by omega)).mp q)), if_neg (by rw [decide_eq_false k4]; decide)]
      rfl
theorem QM_says {j : Nat} {o : Option Nat} (X : Cx G F W) (h : isM W) (M : MTx (S 13 0) bk J) (hbk : bk ≤ 1) (Y : JX J) (hj : j < 124) (ho : ∀ i, o = some i → i < J.1) : P_X13_says G F (W.ad (.o 13 0)) (Int32.ofNat bk) (oI o) (G.1 j) (mem W S) = some (if sayB J o (str j) = true then 1 else 0, mem W S) := by
  have Y2 := Y.2.1
  have Y1 := Y.1
  unfold P_X13_says
  rw [rcv_m h.lo, bO_s, QM_isString h M hbk Y ho, bP_s]
  obtain ⟨m1, m2, β, m3, m4⟩ := M
  cases o with
  | none =>
    rw [if_pos (by rfl)]
    rfl
  | some i =>
    have hi := ho i rfl
    obtain ⟨a1, a2, a3, a4, a5, a6, a7, a8, a9⟩ := m2 i (Nat.zero_le _) hi
    have y := Y.2.2 i hi
    have jl : 600 * bk + i < 1200 := by omega
    have e6 : (600 : Int32) * (Int32.ofNat bk) + oI (some i) = (Int32.ofNat (600 * bk + i)) := m600
    show _ = some (if (kB J (some i) 4 && decide (J.2.1 7 i = (str j).length ∧ seg J.2.2 (J.2.1 6 i) (str j).length = str j)) = true then 1 else 0, mem W S)
    by_cases e : kB J (some i) 4 = true
    · have es : rdB β (8200 * bk + J.2.1 6 i) (J.2.1 7 i) = seg J.2.2 (J.2.1 6 i) (J.2.1 7 i) := by rw [← m4, seg_rd (by omega)]
      rw [e, if_pos rfl, if_neg (by decide), mvr h 11, bO_s, e6, mva h 11 _ jl, bO_s, mvr h 12, bO_s, mva h 12 _ jl, bO_s, rcv_m h.lo, bO_s, a6, a7, QM_isSaid X h m3 hj (by omega), bP_s, es, Bool.true_and]
      by_cases z : J.2.1 7 i = (str j).length ∧ seg J.2.2 (J.2.1 6 i) (J.2.1 7 i) = str j
      · rw [if_pos z, if_neg (by decide), if_pos (decide_eq_true ⟨z.1, by rw [← z.1]; exact z.2⟩)]
        rfl
      · rw [if_neg z, if_pos rfl, if_neg (by rw [decide_eq_false (fun q => z ⟨q.1, by rw [q.1]; exact q.2⟩)]; decide)]
        rfl
    · have e0 := Bool.eq_false_iff.mpr e
      rw [e0, if_pos (by rfl), Bool.false_and, if_neg (show ¬ false = true by decide)]
      rfl
theorem QM_isOdd {j : Nat} (X : Cx G F W) (h : isM W) (M : MTx (S 13 0) bk J) (hbk : bk ≤ 1) (Y : JX J) (hj : j < 124) (h0 : 0 < J.1) : P_X13_isOdd G F (W.ad (.o 13 0)) (Int32.ofNat bk) (G.1 j) (mem W S) = some (if fN J (str j) (some 0) = none ∨ kB J (fN J (str j) (some 0)) 4 = true then 0 else 1, mem W S) := by
  have Y2 := Y.2.1
  have mo := QM_memberOf (G := G) (F := F) (v := 0) X h M hbk Y hj h0
  have mo : P_X13_memberOf G F (W.ad (.o 13 0)) (Int32.ofNat bk) 0 (G.1 j) (mem W S) = _ := mo
  unfold P_X13_isOdd
  rw [rcv_m h.lo, bO_s, mo, bP_s]
  cases e : fN J (str j) (some 0) with
  | none =>
    rw [if_pos (show oI none < 0 by decide), if_pos (Or.inl rfl)]
    rfl
  | some i =>
    have hi := fN_lt e
    rw [if_neg (show ¬ oI (some i) < 0 from nn (by omega)), rcv_m h.lo, bO_s, QM_isString h M hbk Y (fun k hk => by have := Option.some.inj hk; omega), bP_s]
    by_cases k : kB J (some i) 4 = true
    · rw [if_pos k, if_neg (by decide), if_pos (Or.inr k)]
      rfl
    · rw [if_neg k, if_pos rfl, if_neg (fun q => q.elim (fun x => absurd x (by simp)) k)]
      rfl
theorem MTx.agr {fs gs as ls : List Nat} {o o' : Ob} (a : agr fs gs as ls o o') (M : MTx o bk J) (ha : ∀ k ∈ [6, 7, 8, 9, 10, 11, 12, 13, 14, 15, 16], k ∉ as) : MTx o' bk J := by
  obtain ⟨m1, m2, β, m3, m4⟩ := M
  refine ⟨by rw [a.2.2.1 16 (ha 16 (by decide))]; exact m1, fun i x y => ?_, β, a.mB m3 (ha 15 (by decide)), m4⟩
  rw [a.2.2.1 6 (ha 6 (by decide)), a.2.2.1 7 (ha 7 (by decide)), a.2.2.1 8 (ha 8 (by decide)), a.2.2.1 9 (ha 9 (by decide)), a.2.2.1 10 (ha 10 (by decide)), a.2.2.1 11 (ha 11 (by decide)), a.2.2.1 12 (ha 12 (by decide)), a.2.2.1 13 (ha 13 (by decide)), a.2.2.1 14 (ha 14 (by decide))]
  exact m2 i x y
/-- bytes in letters, to the array kt -/
theorem QM_bytesOf {j v kt : Nat} {γ : Nat → UInt8} (X : Cx G F W) (h : isM W) (M : MTx (S 13 0) bk J) (hbk : bk ≤ 1) (Y : JX J) (hj : j < 124) (hv : v < J.1) (qt : (kdA 13)[kt]? = some 1) (nt : kt ≠ 15) (lt : mLen kt = 8200) (ht : mB (S 13 0) kt γ) : ∃ (γ' : Nat → UInt8) (v29 : Int32), P_X13_bytesOf G F (W.ad (.o 13 0)) (Int32.ofNat bk) (Int32.ofNat v) (G.1 j) (W.ad (.a 13 0 kt)) (mem W S) = some (match ltB J (fN J (str j) (some v)) with | some d => (Int32.ofNat d.length) | none => -1, mem W (S.so 13 0 (un (S 13 0) kt γ' v29))) ∧ ∀ d, ltB J (fN J (str j) (some v)) = some d → γ' = wrB γ 0 d := by
  have Y2 := Y.2.1
  have Y1 := Y.1
  have same : un (S 13 0) kt γ ((S 13 0).f 29) = S 13 0 := by
    unfold un
    rw [sA_self ht, sf_self]
  unfold P_X13_bytesOf
  rw [rcv_m h.lo, bO_s, QM_memberOf X h M hbk Y hj hv, bP_s, rcv_m h.lo, bO_s]
  cases e : fN J (str j) (some v) with
  | none =>
    rw [QM_isString (o := none) h M hbk Y (fun i hi => absurd hi (by simp)), bP_s, if_pos (by rfl)]
    exact ⟨γ, (S 13 0).f 29, by rw [same, so_self]; rfl, fun d hd => absurd hd (by simp [ltB])⟩
  | some i =>
    have hi := fN_lt e
    rw [QM_isString (o := some i) h M hbk Y (fun k hk => by have := Option.some.inj hk; omega), bP_s]
    obtain ⟨m1, m2, β, m3, m4⟩ := M
    obtain ⟨a1, a2, a3, a4, a5, a6, a7, a8, a9⟩ := m2 i (Nat.zero_le _) hi
    have y := Y.2.2 i hi
    have jl : 600 * bk + i < 1200 := by omega
    have e6 : (600 : Int32) * (Int32.ofNat bk) + oI (some i) = (Int32.ofNat (600 * bk + i)) := m600
    by_cases k : kB J (some i) 4 = true
    · have es : rdB β (8200 * bk + J.2.1 6 i) (J.2.1 7 i) = seg J.2.2 (J.2.1 6 i) (J.2.1 7 i) := by rw [← m4, seg_rd (by omega)]
      obtain ⟨γ', v29, g1, g2, g3⟩ := QM_unletter (G := G) (F := F) (S := S) (k1 := 15) (k2 := kt) (p1 := 8200 * bk + J.2.1 6 i) (p2 := 0) (cnt := J.2.1 7 i) X h rfl qt (fun q => nt q.symm) (by decide) (by omega) (by show _ ≤ 16400; omega) (by omega) (by omega) m3 ht
      rw [es] at g1 g2
      have g1 : P_X13_unletter G F (W.ad (.o 13 0)) (W.ad (.a 13 0 15)) (Int32.ofNat (8200 * bk + J.2.1 6 i)) (Int32.ofNat (J.2.1 7 i)) (W.ad (.a 13 0 kt)) 0 (mem W S) = _ := g1
      rw [if_pos k, if_neg (by decide), h.gR 15 rfl (by decide), bO_s, mvr h 11, bO_s, e6, mva h 11 _ jl, bO_s, mvr h 12, bO_s, mva h 12 _ jl, bO_s, rcv_m h.lo, bO_s, a6, a7, g1, bP_s]
      refine ⟨γ', v29, ?_, fun d hd => ?_⟩
      · congr 2
        show _ = match (if kB J (some i) 4 = true ∧ fltF (seg J.2.2 (J.2.1 6 i) (J.2.1 7 i)) = none then some (dec (seg J.2.2 (J.2.1 6 i) (J.2.1 7 i))) else none) with | some d => (Int32.ofNat d.length) | none => -1
        by_cases f : fltF (seg J.2.2 (J.2.1 6 i) (J.2.1 7 i)) = none
        · rw [if_pos f, if_pos ⟨k, f⟩]
        · rw [if_neg f, if_neg (fun q => f q.2)]
      · have hd : (if kB J (some i) 4 = true ∧ fltF (seg J.2.2 (J.2.1 6 i) (J.2.1 7 i)) = none then some (dec (seg J.2.2 (J.2.1 6 i) (J.2.1 7 i))) else none) = some d := hd
        split at hd
        · rename_i q
          rw [g2 q.2, Option.some.inj hd]
        · exact absurd hd (by simp)
    · rw [if_neg k, if_pos rfl]
      refine ⟨γ, (S 13 0).f 29, ?_, fun d hd => ?_⟩
      · rw [same, so_self]
        show some ((-1 : Int32), _) = some (match (if kB J (some i) 4 = true ∧ fltF (seg J.2.2 (J.2.1 6 i) (J.2.1 7 i)) = none then some (dec (seg J.2.2 (J.2.1 6 i) (J.2.1 7 i))) else none) with | some d => (Int32.ofNat d.length) | none => -1, _)
        rw [if_neg (fun q => k q.1)]
      · have hd : (if kB J (some i) 4 = true ∧ fltF (seg J.2.2 (J.2.1 6 i) (J.2.1 7 i)) = none then some (dec (seg J.2.2 (J.2.1 6 i) (J.2.1 7 i))) else none) = some d := hd
        rw [if_neg (fun q => k q.1)] at hd
        exact absurd hd (by simp)
end MFIND
