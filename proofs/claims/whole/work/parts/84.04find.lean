/-! WHAT IS ASKED OF A TEXT BY NAME -/
theorem asc : ∀ j, j < 124 → ∀ c ∈ mbyt.getD j [], c = b32 (lo8 c) ∧ (lo8 c).toNat < 128 := by decide +kernel
theorem str_len (j : Nat) : (str j).length = (mbyt.getD j []).length := by unfold str; rw [List.length_map]
theorem str_lt {j : Nat} (hj : j < 124) : (str j).length < 100 := by rw [str_len]; exact mby_len j hj
theorem chr {j k : Nat} (hj : j < 124) (hk : k < (str j).length) : (mbyt.getD j []).getD k 0 = b32 (str j)[k] ∧ ((str j)[k]).toNat < 128 := by
  have hk' := hk
  rw [str_len] at hk'
  have e : (str j)[k] = lo8 ((mbyt.getD j []).getD k 0) := by
    have e : (str j)[k]? = some (lo8 ((mbyt.getD j []).getD k 0)) := by
      unfold str
      generalize mbyt.getD j [] = L at hk'
      rw [List.getElem?_map, List.getD_eq_getElem?_getD, List.getElem?_eq_getElem hk']
      rfl
    rw [List.getElem?_eq_getElem hk] at e
    exact Option.some.inj e
  have a := asc j hj _ (getD_mem (d := 0) hk')
  rw [e]
  exact a
theorem sb_asc {x y : UInt8} (hy : y.toNat < 128) : sb x = b32 y ↔ x = y := by
  have k : ∀ n, n < 128 → sb (UInt8.ofNat n) = b32 (UInt8.ofNat n) := by decide +kernel
  have e : sb y = b32 y := by
    have := k y.toNat hy
    rwa [UInt8.ofNat_toNat] at this
  rw [← e]
  exact ⟨sb_inj, fun h => by rw [h]⟩
theorem flt_lt {u : List UInt8} {k : Nat} (hq : fltF u = some k) (hl : u.length < 2 ^ 30) : k < 2 ^ 31 := by
  have hk : k ≤ u.length := by
    unfold fltF at hq
    cases hf : u.findIdx? (fun x => (sv x).isNone) with
    | some j =>
      rw [hf] at hq
      cases hq
      have := (List.findIdx?_eq_some_iff_getElem.mp hf).1
      omega
    | none =>
      rw [hf] at hq
      simp only [] at hq
      repeat' split at hq
      all_goals (cases hq; try omega)
  omega
def sayB (J : JT) (o : Option Nat) (w : List UInt8) : Bool := match o with
  | some i => kB J (some i) 4 && decide (J.2.1 7 i = w.length ∧ seg J.2.2 (J.2.1 6 i) w.length = w)
  | none => false
def ltB (J : JT) (o : Option Nat) : Option (List UInt8) := match o with
  | some i => if kB J (some i) 4 = true ∧ fltF (seg J.2.2 (J.2.1 6 i) (J.2.1 7 i)) = none then some (dec (seg J.2.2 (J.2.1 6 i) (J.2.1 7 i))) else none
  | none => none
theorem spl_iff {xs ys : List UInt8} {a : Nat} (h1 : a + ys.length ≤ xs.length) : seg xs a ys.length = ys ↔ ∀ k (hk : k < ys.length), by8 xs (a + k) = ys[k] := by
  have e : ∀ k (hk : k < ys.length), (seg xs a ys.length)[k]? = some (by8 xs (a + k)) := by
    intro k hk
    rw [seg_g hk]
    unfold by8
    rw [List.getD_eq_getElem?_getD, List.getElem?_eq_getElem (show a + k < xs.length by omega)]
    rfl
  constructor
  · intro h k hk
    have := e k hk
    rw [h, List.getElem?_eq_getElem hk] at this
    exact (Option.some.inj this).symm
  · intro h
    apply List.ext_getElem?
    intro k
    by_cases hk : k < ys.length
    · rw [e k hk, h k hk, List.getElem?_eq_getElem hk]
    · rw [List.getElem?_eq_none (by rw [seg_len h1]; omega), List.getElem?_eq_none (by omega)]
section FIND
variable {W : WR} {G : mG} {F : Nat} {S : ST} {t ip : Nat} {J : JT} {lp : Bool}
theorem srcs {j : Nat} (X : Cx G F W) (hj : j < 124) : rcs G (G.1 j) = some () := by
  obtain ⟨h1, v, h2, h3, h4⟩ := X.ro.1.1 j hj
  simp [rcs, h3]
theorem Q9_spells_l {j a : Nat} (X : Cx G F W) (K : isTx W t ip) (bp : Byt 8192 (S 0 ip) J.2.2 lp) (hj : j < 124) (ha : a + (str j).length ≤ J.2.2.length) : ∀ (m k fuel : Nat), m < fuel → k + m = (str j).length → (∀ q (hq : q < (str j).length), q < k → by8 J.2.2 (a + q) = (str j)[q]) → B_X9_poolSpells_13 G F fuel (W.ad (.o 9 t)) (Int32.ofNat a) (Int32.ofNat (str j).length) (G.1 j) (Int32.ofNat k) (mem W S) = some (if seg J.2.2 a (str j).length = str j then 1 else 0, mem W S) := by
  have hle := bp.le
  have sl := str_lt hj
  intro m
  induction m with
  | zero =>
    intro k fuel hf hk hq
    obtain ⟨fuel, rfl⟩ : ∃ q, fuel = q + 1 := ⟨fuel - 1, by omega⟩
    rw [B_X9_poolSpells_13, if_pos ((n_le (by omega) (by omega)).mpr (by omega)), if_pos ((spl_iff ha).mpr (fun q h => hq q h (by omega)))]
    rfl
  | succ m ih =>
    intro k fuel hf hk hq
    obtain ⟨fuel, rfl⟩ : ∃ q, fuel = q + 1 := ⟨fuel - 1, by omega⟩
    have hkl : k < (str j).length := by omega
    obtain ⟨c1, c2⟩ := chr hj hkl
    rw [B_X9_poolSpells_13, if_neg (fun q => absurd ((n_le (by omega) (by omega)).mp q) (by omega)), t9p K, bO_s, rcv_m K.2.2.1.lo, bO_s, n_add, Q0_get K.2.2.1 bp (by omega), bP_s, srcs X hj, bO_s, QJ_charAt X hj (by rw [← str_len]; exact hkl), bP_s, c1, gB_cd]
    by_cases e : by8 J.2.2 (a + k) = (str j)[k]
    · rw [if_pos (show (Int32.ofNat (cd J.2.2 (a + k))) = b32 (str j)[k] by unfold cd; rw [e]; rfl), n_i1]
      refine ih (k + 1) fuel (by omega) (by omega) (fun q h1 h2 => ?_)
      by_cases hqk : q = k
      · subst hqk
        exact e
      · exact hq q h1 (by omega)
    · rw [if_neg (show ¬ (Int32.ofNat (cd J.2.2 (a + k))) = b32 (str j)[k] from fun q => e (b32_inj q)), if_neg (fun q => e ((spl_iff ha).mp q k hkl))]
      rfl
theorem Q9_spells {j a m : Nat} (X : Cx G F W) (K : isTx W t ip) (bp : Byt 8192 (S 0 ip) J.2.2 lp) (hj : j < 124) (ha : a + m ≤ J.2.2.length) : P_X9_poolSpells G F (W.ad (.o 9 t)) (Int32.ofNat a) (Int32.ofNat m) (G.1 j) (mem W S) = some (if m = (str j).length ∧ seg J.2.2 a (str j).length = str j then 1 else 0, mem W S) := by
  have hle := bp.le
  have hF := X.hF
  have sl := str_lt hj
  unfold P_X9_poolSpells
  rw [srcs X hj, bO_s, QJ_length X hj, bP_s, ← str_len]
  by_cases e : m = (str j).length
  · subst e
    rw [if_pos rfl]
    have := Q9_spells_l (G := G) (F := F) X K bp hj ha (str j).length 0 F (by omega) (by omega) (fun q _ h => absurd h (Nat.not_lt_zero _))
    have this : B_X9_poolSpells_13 G F F (W.ad (.o 9 t)) (Int32.ofNat a) (Int32.ofNat (str j).length) (G.1 j) 0 (mem W S) = _ := this
    rw [this]
    simp only [true_and]
  · rw [if_neg (fun q => e ((n_eq (by omega) (by omega)).mp q)), if_neg (fun q => e q.1)]
    rfl
theorem Q9_find_l {j v : Nat} (X : Cx G F W) (K : isTx W t ip) (C : TbC (S 9 t) J) (Y : JX J) (bp : Byt 8192 (S 0 ip) J.2.2 lp) (hj : j < 124) (hv : v < J.1) (hk : J.2.1 1 v = 6) : ∀ (m k fuel : Nat), m < fuel → k + m = J.1 → v < k → B_X9_find_16 G F fuel (W.ad (.o 9 t)) (Int32.ofNat v) (G.1 j) (Int32.ofNat k) (mem W S) = some (oI (fnF (mName J v (str j)) m k), mem W S) := by
  have Y2 := Y.2.1
  intro m
  induction m with
  | zero =>
    intro k fuel hf hkm hvk
    obtain ⟨fuel, rfl⟩ : ∃ q, fuel = q + 1 := ⟨fuel - 1, by omega⟩
    rw [B_X9_find_16, t9f K, bO_s, C.1, if_pos ((n_le (by omega) (by omega)).mpr (by omega))]
    rfl
  | succ m ih =>
    intro k fuel hf hkm hvk
    obtain ⟨fuel, rfl⟩ : ∃ q, fuel = q + 1 := ⟨fuel - 1, by omega⟩
    have hkl : k < J.1 := by omega
    have Ck := C.2 k hkl
    have Yk := Y.2.2 k hkl
    rw [B_X9_find_16, t9f K, bO_s, C.1, if_neg (fun q => absurd ((n_le (by omega) (by omega)).mp q) (by omega)), t9r K 2, bO_s, t9a K 2 k (by omega), bO_s, Ck.2.1]
    simp only [paI_eq (T := J.2.1 2 k) (v := v) (by omega) (by omega)]
    show _ = some (oI (if mName J v (str j) k = true then some k else fnF (mName J v (str j)) m (k + 1)), mem W S)
    have nx : B_X9_find_16 G F fuel (W.ad (.o 9 t)) (Int32.ofNat v) (G.1 j) ((Int32.ofNat k) + 1) (mem W S) = some (oI (fnF (mName J v (str j)) m (k + 1)), mem W S) := by
      rw [n_i1]
      exact ih (k + 1) fuel (by omega) (by omega) (by omega)
    by_cases e : J.2.1 2 k = v + 1
    · have mb : mbr J.2.1 k := ⟨by omega, by rw [e]; exact hk⟩
      obtain ⟨c8, c9⟩ := Ck.2.2.2.2.2.2.2 mb
      rw [if_pos e, t9r K 8, bO_s, t9a K 8 k (by omega), bO_s, t9r K 9, bO_s, t9a K 9 k (by omega), bO_s, rcv_m K.1, bO_s, c8, c9, Q9_spells X K bp hj (by omega), bP_s]
      by_cases z : J.2.1 9 k = (str j).length ∧ seg J.2.2 (J.2.1 8 k) (str j).length = str j
      · have mt : mName J v (str j) k = true := by unfold mName; rw [decide_eq_true e, decide_eq_true z.1, decide_eq_true z.2]; rfl
        rw [if_pos z, if_neg (by decide), if_pos mt]
        rfl
      · have mf : ¬ mName J v (str j) k = true := by
          unfold mName
          rw [Bool.and_eq_true, Bool.and_eq_true, decide_eq_true_iff, decide_eq_true_iff, decide_eq_true_iff]
          exact fun q => z q.2
        rw [if_neg z, if_pos rfl, if_neg mf, nx]
    · have mf : ¬ mName J v (str j) k = true := by
        unfold mName
        rw [decide_eq_false e]
        simp
      rw [if_neg e, if_neg mf, nx]
theorem Q9_find {j : Nat} {o : Option Nat} (X : Cx G F W) (K : isTx W t ip) (C : TbC (S 9 t) J) (Y : JX J) (bp : Byt 8192 (S 0 ip) J.2.2 lp) (hj : j < 124) (ho : ∀ i, o = some i → i < 2 ^ 31) : P_X9_find G F (W.ad (.o 9 t)) (oI o) (G.1 j) (mem W S) = some (oI (fN J (str j) o), mem W S) := by
  have hF := X.hF
  have Y2 := Y.2.1
  unfold P_X9_find
  rw [rcv_m K.1, bO_s, show (6 : Int32) = (Int32.ofNat 6) from rfl, Q9_isKind K C Y ho (by decide), bP_s]
  cases o with
  | none =>
    rw [if_pos (by rfl)]
    rfl
  | some v =>
    show _ = some (oI (if kB J (some v) 6 = true then fnF (mName J v (str j)) (J.1 - (v + 1)) (v + 1) else none), mem W S)
    by_cases e : kB J (some v) 6 = true
    · have e' := e
      unfold kB at e'
      rw [Bool.and_eq_true, decide_eq_true_iff, decide_eq_true_iff] at e'
      rw [if_pos e, if_neg (by decide), if_pos e]
      show B_X9_find_16 G F F (W.ad (.o 9 t)) (Int32.ofNat v) (G.1 j) ((Int32.ofNat v) + 1) (mem W S) = _
      rw [n_i1]
      exact Q9_find_l X K C Y bp hj e'.1 e'.2 _ (v + 1) F (by omega) (by omega) (by omega)
    · rw [if_neg e, if_pos rfl, if_neg e]
      rfl
theorem Q9_find0 {j : Nat} (X : Cx G F W) (K : isTx W t ip) (C : TbC (S 9 t) J) (Y : JX J) (bp : Byt 8192 (S 0 ip) J.2.2 lp) (hj : j < 124) : P_X9_find G F (W.ad (.o 9 t)) 0 (G.1 j) (mem W S) = some (oI (fN J (str j) (some 0)), mem W S) := Q9_find (o := some 0) X K C Y bp hj (fun i h => by have := Option.some.inj h; omega)
theorem kB_lt {o : Option Nat} {kd i : Nat} (h : kB J o kd = true) (e : o = some i) : i < J.1 ∧ J.2.1 1 i = kd := by
  subst e
  unfold kB at h
  rw [Bool.and_eq_true, decide_eq_true_iff, decide_eq_true_iff] at h
  exact h
theorem Q9_says {j : Nat} {o : Option Nat} (X : Cx G F W) (K : isTx W t ip) (C : TbC (S 9 t) J) (Y : JX J) (bp : Byt 8192 (S 0 ip) J.2.2 lp) (hj : j < 124) (ho : ∀ i, o = some i → i < 2 ^ 31) : P_X9_says G F (W.ad (.o 9 t)) (oI o) (G.1 j) (mem W S) = some (if sayB J o (str j) = true then 1 else 0, mem W S) := by
  have Y2 := Y.2.1
  unfold P_X9_says
  rw [rcv_m K.1, bO_s, show (4 : Int32) = (Int32.ofNat 4) from rfl, Q9_isKind K C Y ho (by decide), bP_s]
  cases o with
  | none =>
    rw [if_pos (by rfl)]
    rfl
  | some i =>
    show _ = some (if (kB J (some i) 4 && decide (J.2.1 7 i = (str j).length ∧ seg J.2.2 (J.2.1 6 i) (str j).length = str j)) = true then 1 else 0, mem W S)
    by_cases e : kB J (some i) 4 = true
    · obtain ⟨e1, e2⟩ := kB_lt e rfl
      obtain ⟨c1, c2, c3, c4, c5, c6, c7, c8⟩ := C.2 i e1
      have y := Y.2.2 i e1
      rw [e, if_pos rfl, if_neg (by decide), t9r K 6, bO_s]
      show bO (aI G (mem W S) 0 (W.ad (.a 9 t 6)) (Int32.ofNat i)) _ = _
      rw [t9a K 6 i (by omega), bO_s, t9r K 7, bO_s]
      show bO (aI G (mem W S) 0 (W.ad (.a 9 t 7)) (Int32.ofNat i)) _ = _
      rw [t9a K 7 i (by omega), bO_s, rcv_m K.1, bO_s, c6, c7, Q9_spells X K bp hj (by omega), bP_s, Bool.true_and]
      by_cases z : J.2.1 7 i = (str j).length ∧ seg J.2.2 (J.2.1 6 i) (str j).length = str j
      · rw [if_pos z, if_neg (by decide), if_pos (decide_eq_true z)]
        rfl
      · rw [if_neg z, if_pos rfl, if_neg (by rw [decide_eq_false z]; decide)]
        rfl
    · have e0 := Bool.eq_false_iff.mpr e
      rw [e0, if_pos (by rfl), Bool.false_and, if_neg (show ¬ false = true by decide)]
      rfl
theorem Q9_strNone {o : Option Nat} (K : isTx W t ip) (C : TbC (S 9 t) J) (Y : JX J) (ho : ∀ i, o = some i → i < 2 ^ 31) : P_X9_isStringOrNone G F (W.ad (.o 9 t)) (oI o) (mem W S) = some (if o = none ∨ kB J o 4 = true then 1 else 0, mem W S) := by
  unfold P_X9_isStringOrNone
  cases o with
  | none =>
    rw [if_pos (show oI none = -1 from rfl), if_pos (Or.inl rfl)]
    rfl
  | some i =>
    have hi := ho i rfl
    rw [if_neg (show ¬ oI (some i) = -1 from n_nm hi), rcv_m K.1, bO_s, show (4 : Int32) = (Int32.ofNat 4) from rfl, Q9_isKind K C Y ho (by decide), bP_s]
    by_cases e : kB J (some i) 4 = true
    · rw [if_pos e, if_neg (by decide), if_pos (Or.inr e)]
      rfl
    · rw [if_neg e, if_pos rfl, if_neg (fun q => q.elim (fun x => absurd x (by simp)) e)]
      rfl
theorem Q9_areLetters {o : Option Nat} (X : Cx G F W) (K : isTx W t ip) (C : TbC (S 9 t) J) (Y : JX J) (bp : Byt 8192 (S 0 ip) J.2.2 lp) (ho : ∀ i, o = some i → i < 2 ^ 31) : P_X9_areLetters G F (W.ad (.o 9 t)) (oI o) (mem W S) = some (if (ltB J o).isSome = true then 1 else 0, mem W S) := by
  have Y2 := Y.2.1
  have Y1 := Y.1
  unfold P_X9_areLetters
  rw [rcv_m K.1, bO_s, show (4 : Int32) = (Int32.ofNat 4) from rfl, Q9_isKind K C Y ho (by decide), bP_s]
  cases o with
  | none =>
    rw [if_pos (by rfl)]
    rfl
  | some i =>
    show _ = some (if (if kB J (some i) 4 = true ∧ fltF (seg J.2.2 (J.2.1 6 i) (J.2.1 7 i)) = none then some (dec (seg J.2.2 (J.2.1 6 i) (J.2.1 7 i))) else none).isSome = true then 1 else 0, mem W S)
    by_cases e : kB J (some i) 4 = true
    · obtain ⟨e1, e2⟩ := kB_lt e rfl
      obtain ⟨c1, c2, c3, c4, c5, c6, c7, c8⟩ := C.2 i e1
      have y := Y.2.2 i e1
      have lf := Q0_letterFault (G := G) (F := F) (st := J.2.1 6 i) (stop := J.2.1 6 i + J.2.1 7 i) X K.2.2.1 bp (by omega) (by omega) (by omega)
      rw [show J.2.1 6 i + J.2.1 7 i - J.2.1 6 i = J.2.1 7 i by omega] at lf
      have lf : P_X0_letterFault G F (W.ad (.o 0 ip)) (Int32.ofNat (J.2.1 6 i)) (Int32.ofNat (J.2.1 6 i + J.2.1 7 i)) (mem W S) = some (oN (fltF (seg J.2.2 (J.2.1 6 i) (J.2.1 7 i))), mem W S) := lf
      rw [e, if_pos rfl, if_neg (by decide), t9p K, bO_s, t9r K 6, bO_s]
      show bO (aI G (mem W S) 0 (W.ad (.a 9 t 6)) (Int32.ofNat i)) _ = _
      rw [t9a K 6 i (by omega), bO_s, bO_s]
      show bO (aI G (mem W S) 0 (W.ad (.a 9 t 6)) (Int32.ofNat i)) _ = _
      rw [t9a K 6 i (by omega), bO_s, t9r K 7, bO_s]
      show bO (aI G (mem W S) 0 (W.ad (.a 9 t 7)) (Int32.ofNat i)) _ = _
      rw [t9a K 7 i (by omega), bO_s, c6, c7, n_add, lf, bP_s]
      cases hf : fltF (seg J.2.2 (J.2.1 6 i) (J.2.1 7 i)) with
      | none =>
        rw [if_pos (show oN none = -1 from rfl)]
        rfl
      | some z =>
        have hz : z < 2 ^ 31 := flt_lt hf (by rw [seg_len (by omega)]; omega)
        rw [if_neg (show ¬ oN (some z) = -1 from n_nm hz)]
        rfl
    · rw [Bool.eq_false_iff.mpr e, if_pos (by rfl), if_neg (c := false = true ∧ fltF (seg J.2.2 (J.2.1 6 i) (J.2.1 7 i)) = none) (fun q => absurd q.1 (by decide))]
      rfl
end FIND
