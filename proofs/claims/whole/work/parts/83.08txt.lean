/-! TEXTS OF VALUES: what the class asks of a text -/
def paI (op : Nat) : Int32 := if op = 0 then -1 else (Int32.ofNat (op - 1))
def oI (o : Option Nat) : Int32 := match o with
  | some i => (Int32.ofNat i)
  | none => -1
def mbr (T : Nat → Nat → Nat) (i : Nat) : Prop := T 2 i ≠ 0 ∧ T 1 (T 2 i - 1) = 6
def TbC (x : Ob) (J : JT) : Prop := x.f 0 = (Int32.ofNat J.1) ∧ ∀ i, i < J.1 → x.a 1 i = (Int32.ofNat (J.2.1 1 i)) ∧ x.a 2 i = paI (J.2.1 2 i) ∧ x.a 3 i = (Int32.ofNat (J.2.1 3 i)) ∧ x.a 4 i = (Int32.ofNat (J.2.1 4 i)) ∧ x.a 5 i = (Int32.ofNat (J.2.1 5 i)) ∧ x.a 6 i = (Int32.ofNat (J.2.1 6 i)) ∧ x.a 7 i = (Int32.ofNat (J.2.1 7 i)) ∧ (mbr J.2.1 i → x.a 8 i = (Int32.ofNat (J.2.1 8 i)) ∧ x.a 9 i = (Int32.ofNat (J.2.1 9 i)))
/-- the bounds that every text keeps -/
def JX (J : JT) : Prop := J.2.2.length ≤ 8192 ∧ J.1 ≤ 600 ∧ ∀ i, i < J.1 → J.2.1 1 i ≤ 6 ∧ J.2.1 2 i ≤ i ∧ J.2.1 3 i ≤ J.1 ∧ J.2.1 4 i ≤ 8192 ∧ J.2.1 5 i ≤ J.1 ∧ J.2.1 6 i + J.2.1 7 i ≤ J.2.2.length ∧ J.2.1 8 i + J.2.1 9 i ≤ J.2.2.length
theorem JW.x {s : List UInt8} {p : Nat} {J : JT} (h : JW s p J) (hl : s.length ≤ 8192) : JX J := by
  obtain ⟨h1, h2, h3, h4⟩ := h
  exact ⟨by omega, h3, fun i hi => by have := h4 i hi; omega⟩
abbrev isTx (W : WR) (t ip : Nat) : Prop := W.live (.o 9 t) = true ∧ W.r 9 t 10 = some (.o 0 ip) ∧ isB W ip 8192 ∧ ∀ k, 1 ≤ k → k ≤ 9 → W.live (.a 9 t k) = true ∧ W.r 9 t k = some (.a 9 t k) ∧ W.n (.a 9 t k) = 600
theorem isRd.tx {W : WR} {is_ ip t rs : Nat} (K : isRd W is_ ip t rs) : isTx W t ip := ⟨K.2.2.2.2.2.1, K.2.2.2.2.2.2.1, K.2.2.2.2.1, K.2.2.2.2.2.2.2.2⟩
def kB (J : JT) (o : Option Nat) (kd : Nat) : Bool := match o with
  | some i => decide (i < J.1) && decide (J.2.1 1 i = kd)
  | none => false
def fnF (f : Nat → Bool) : Nat → Nat → Option Nat
  | 0, _ => none
  | m + 1, k => if f k = true then some k else fnF f m (k + 1)
def mName (J : JT) (v : Nat) (w : List UInt8) (k : Nat) : Bool := decide (J.2.1 2 k = v + 1) && (decide (J.2.1 9 k = w.length) && decide (seg J.2.2 (J.2.1 8 k) w.length = w))
def fN (J : JT) (w : List UInt8) (o : Option Nat) : Option Nat := match o with
  | some v => if kB J (some v) 6 = true then fnF (mName J v w) (J.1 - (v + 1)) (v + 1) else none
  | none => none
theorem fnF_some {f : Nat → Bool} : ∀ {m k i : Nat}, fnF f m k = some i → k ≤ i ∧ i < k + m ∧ f i = true := by
  intro m
  induction m with
  | zero => exact fun h => absurd h (by simp [fnF])
  | succ m ih =>
    intro k i h
    have h : (if f k = true then some k else fnF f m (k + 1)) = some i := h
    split at h
    · rename_i e
      have := Option.some.inj h
      subst this
      exact ⟨Nat.le_refl _, by omega, e⟩
    · have := ih h
      exact ⟨by omega, by omega, this.2.2⟩
theorem fnF_none {f : Nat → Bool} : ∀ {m k : Nat}, fnF f m k = none ↔ ∀ i, k ≤ i → i < k + m → f i = false := by
  intro m
  induction m with
  | zero => exact fun {k} => ⟨fun _ i h1 h2 => absurd h2 (by omega), fun _ => rfl⟩
  | succ m ih =>
    intro k
    show (if f k = true then some k else fnF f m (k + 1)) = none ↔ _
    by_cases e : f k = true
    · rw [if_pos e]
      exact ⟨fun h => absurd h (by simp), fun h => absurd (h k (Nat.le_refl _) (by omega)) (by rw [e]; decide)⟩
    · rw [if_neg e, ih]
      constructor
      · intro h i h1 h2
        by_cases hk : i = k
        · rw [hk]; exact Bool.eq_false_iff.mpr e
        · exact h i (by omega) (by omega)
      · exact fun h i h1 h2 => h i (by omega) (by omega)
theorem fN_lt {J : JT} {w : List UInt8} {o : Option Nat} {i : Nat} (h : fN J w o = some i) : i < J.1 := by
  cases o with
  | none => exact absurd h (by simp [fN])
  | some v =>
    have h : (if kB J (some v) 6 = true then fnF (mName J v w) (J.1 - (v + 1)) (v + 1) else none) = some i := h
    split at h
    · have := fnF_some h
      omega
    · exact absurd h (by simp)
theorem dupB_f {J : JT} {v : Nat} {bs : List UInt8} (hv : kB J (some v) 6 = true) : dupB J v bs = (fN (J.1, J.2.1, J.2.2 ++ bs) bs (some v)).isSome := by
  have hk : kB (J.1, J.2.1, J.2.2 ++ bs) (some v) 6 = true := hv
  have e : fN (J.1, J.2.1, J.2.2 ++ bs) bs (some v) = fnF (mName (J.1, J.2.1, J.2.2 ++ bs) v bs) (J.1 - (v + 1)) (v + 1) := if_pos hk
  rw [e, Bool.eq_iff_iff, Option.isSome_iff_ne_none, ne_eq, fnF_none]
  unfold dupB
  rw [List.any_eq_true]
  constructor
  · rintro ⟨k, h1, h2⟩ h
    rw [List.mem_range] at h1
    rw [Bool.and_eq_true, decide_eq_true_iff] at h2
    have := h k (by omega) (by omega)
    have h3 : mName (J.1, J.2.1, J.2.2 ++ bs) v bs k = true := h2.2
    rw [this] at h3
    exact absurd h3 (by decide)
  · intro h
    apply Classical.byContradiction
    intro q
    refine h (fun i h1 h2 => Bool.eq_false_iff.mpr (fun hm => q ⟨i, List.mem_range.mpr (by omega), ?_⟩))
    rw [Bool.and_eq_true, decide_eq_true_iff]
    exact ⟨by omega, hm⟩
theorem seg_iff {xs ys : List UInt8} {a b n : Nat} (h1 : a + n ≤ xs.length) (h2 : b + n ≤ ys.length) : seg xs a n = seg ys b n ↔ ∀ j, 0 ≤ j → j < 0 + n → gB xs (a + j) = gB ys (b + j) := by
  have gx : ∀ (zs : List UInt8) (c j : Nat) (hj : j < n) (hc : c + n ≤ zs.length), gB zs (c + j) = b32 ((seg zs c n)[j]'(by rw [seg_len hc]; exact hj)) := by
    intro zs c j hj hc
    rw [gB_lt (show c + j < zs.length by omega)]
    congr 1
    have e := seg_g (xs := zs) (p := c) hj
    rw [List.getElem?_eq_getElem (by rw [seg_len hc]; exact hj), List.getElem?_eq_getElem (show c + j < zs.length by omega)] at e
    exact (Option.some.inj e).symm
  constructor
  · intro h j _ hj
    rw [gx xs a j (by omega) h1, gx ys b j (by omega) h2]
    simp only [h]
  · intro h
    apply List.ext_getElem (by rw [seg_len h1, seg_len h2])
    intro j q1 q2
    have hj : j < n := by rw [seg_len h1] at q1; exact q1
    have := h j (by omega) (by omega)
    rw [gx xs a j hj h1, gx ys b j hj h2] at this
    exact b32_inj this
theorem paI_eq {T v : Nat} (h1 : T < 2 ^ 31) (h2 : v < 2 ^ 31) : (paI T = (Int32.ofNat v)) = (T = v + 1) := by
  unfold paI
  by_cases h : T = 0
  · rw [if_pos h]
    exact propext ⟨fun q => absurd q.symm (n_nm h2), fun q => by omega⟩
  · rw [if_neg h]
    exact propext ⟨fun q => by have := (n_eq (by omega) h2).mp q; omega, fun q => (n_eq (by omega) h2).mpr (by omega)⟩
section TXT
variable {W : WR} {G : mG} {F : Nat} {S : ST} {t ip : Nat} {J : JT}
theorem t9f (K : isTx W t ip) : gfI (mem W S) (W.ad (.o 9 t)) 9 0 = some ((S 9 t).f 0) := gfI_m K.1 rfl
theorem t9k {k : Nat} (h1 : 1 ≤ k) (h9 : k ≤ 9) : (kdF 9)[k]? = some 2 ∧ (kdA 9)[k]? = some 0 := by
  have : k = 1 ∨ k = 2 ∨ k = 3 ∨ k = 4 ∨ k = 5 ∨ k = 6 ∨ k = 7 ∨ k = 8 ∨ k = 9 := by omega
  rcases this with rfl | rfl | rfl | rfl | rfl | rfl | rfl | rfl | rfl <;> exact ⟨rfl, rfl⟩
theorem t9r (K : isTx W t ip) (k : Nat) (h1 : 1 ≤ k := by decide) (h9 : k ≤ 9 := by decide) : gfR (mem W S) (W.ad (.o 9 t)) 9 k = some (W.ad (.a 9 t k)) := gfR_m K.1 (t9k h1 h9).1 (K.2.2.2 k h1 h9).2.1
theorem t9p (K : isTx W t ip) : gfR (mem W S) (W.ad (.o 9 t)) 9 10 = some (W.ad (.o 0 ip)) := gfR_m K.1 rfl K.2.1
theorem t9a (K : isTx W t ip) (k i : Nat) (hi : i < 600) (h1 : 1 ≤ k := by decide) (h9 : k ≤ 9 := by decide) : aI G (mem W S) 0 (W.ad (.a 9 t k)) (Int32.ofNat i) = some ((S 9 t).a k i) := by
  rw [aI_m (K.2.2.2 k h1 h9).1 (t9k h1 h9).2 (by decide) (by decide) (by rw [(K.2.2.2 k h1 h9).2.2]; exact inB_n hi (by decide)), n_at (by omega)]
theorem Q9_has {i : Nat} (K : isTx W t ip) (C : TbC (S 9 t) J) (X : JX J) (hi : i < 2 ^ 31) : P_X9_has G F (W.ad (.o 9 t)) (Int32.ofNat i) (mem W S) = some (if i < J.1 then 1 else 0, mem W S) := by
  have := X.2.1
  unfold P_X9_has
  rw [if_neg (show ¬ (Int32.ofNat i) < 0 from nn hi), t9f K, bO_s, C.1]
  by_cases h : i < J.1
  · rw [if_neg (fun q => absurd ((n_le (by omega) hi).mp q) (by omega)), if_pos h]
    rfl
  · rw [if_pos ((n_le (by omega) hi).mpr (by omega)), if_neg h]
    rfl
theorem Q9_has_n {x : Int32} (hx : x < 0) {M : mM} {A : Nat} : P_X9_has G F A x M = some (0, M) := by
  unfold P_X9_has
  rw [if_pos hx]
  rfl
theorem Q9_isKind {o : Option Nat} {kd : Nat} (K : isTx W t ip) (C : TbC (S 9 t) J) (X : JX J) (hi : ∀ i, o = some i → i < 2 ^ 31) (hk : kd < 100) : P_X9_isKind G F (W.ad (.o 9 t)) (oI o) (Int32.ofNat kd) (mem W S) = some (if kB J o kd = true then 1 else 0, mem W S) := by
  unfold P_X9_isKind
  rw [rcv_m K.1, bO_s]
  cases o with
  | none =>
    rw [Q9_has_n (show oI none < 0 by decide), bP_s, if_pos rfl]
    rfl
  | some i =>
    have X' := X.2.1
    show bP (P_X9_has G F (W.ad (.o 9 t)) (Int32.ofNat i) (mem W S)) _ = some (if (decide (i < J.1) && decide (J.2.1 1 i = kd)) = true then 1 else 0, _)
    rw [Q9_has K C X (hi i rfl), bP_s]
    by_cases h : i < J.1
    · have := (X.2.2 i h).1
      rw [if_pos h, if_neg (by decide), t9r K 1, bO_s]
      show bO (aI G (mem W S) 0 (W.ad (.a 9 t 1)) (Int32.ofNat i)) _ = _
      rw [t9a K 1 i (by omega), bO_s, (C.2 i h).1, decide_eq_true h]
      by_cases e : J.2.1 1 i = kd
      · rw [if_pos (by rw [e]), decide_eq_true e]
        rfl
      · rw [if_neg (fun q => e ((n_eq (by omega) (by omega)).mp q)), decide_eq_false e]
        rfl
    · rw [if_neg h, if_pos rfl, decide_eq_false h]
      rfl
theorem Q9_poolSays {ib rb a m fr c : Nat} {ys w : List UInt8} {lb lp : Bool} (X : Cx G F W) (K : isTx W t ip) (bp : Byt 8192 (S 0 ip) J.2.2 lp) (hB : isB W ib rb) (bb : Byt rb (S 0 ib) ys lb) (hm : a + m ≤ J.2.2.length) (hc : fr + c ≤ ys.length) (hw : seg ys fr c = w) (hc2 : c < 2 ^ 20) : P_X9_poolSays G F (W.ad (.o 9 t)) (Int32.ofNat a) (Int32.ofNat m) (W.ad (.o 0 ib)) (Int32.ofNat fr) (Int32.ofNat c) (mem W S) = some (if m = w.length ∧ seg J.2.2 a w.length = w then 1 else 0, mem W S) := by
  have hle := bp.le
  have hle2 := bb.le
  have hr := hB.hr
  have wl : w.length = c := by rw [← hw, seg_len hc]
  unfold P_X9_poolSays
  by_cases e : m = c
  · subst e
    rw [if_pos rfl, t9p K, bO_s, Q0_compare X K.2.2.1 bp hB bb (by omega) (by omega) (by omega), bP_s, wl]
    by_cases z : cmpF (fun k => gB J.2.2 (a + k)) (fun k => gB ys (fr + k)) 0 m = 0
    · rw [if_pos z, if_pos ⟨rfl, by rw [← hw]; exact (seg_iff hm hc).mpr ((cmpF_zero m 0).mp z)⟩]
      rfl
    · rw [if_neg z, if_neg (fun q => z ((cmpF_zero m 0).mpr ((seg_iff hm hc).mp (q.2.trans hw.symm))))]
      rfl
  · rw [if_neg (fun q => e ((n_eq (by omega) (by omega)).mp q)), if_neg (fun q => e (q.1.trans wl))]
    rfl
theorem Q9_named_l {ib rb fr c v : Nat} {ys w : List UInt8} {lb lp : Bool} (X : Cx G F W) (K : isTx W t ip) (C : TbC (S 9 t) J) (Y : JX J) (bp : Byt 8192 (S 0 ip) J.2.2 lp) (hB : isB W ib rb) (bb : Byt rb (S 0 ib) ys lb) (hc : fr + c ≤ ys.length) (hw : seg ys fr c = w) (hc2 : c < 2 ^ 20) (hv : v < J.1) (hk : J.2.1 1 v = 6) : ∀ (m k fuel : Nat), m < fuel → k + m = J.1 → v < k → B_X9_named_17 G F fuel (W.ad (.o 9 t)) (Int32.ofNat v) (W.ad (.o 0 ib)) (Int32.ofNat fr) (Int32.ofNat c) (Int32.ofNat k) (mem W S) = some (oI (fnF (mName J v w) m k), mem W S) := by
  have Y2 := Y.2.1
  have wl : w.length = c := by rw [← hw, seg_len hc]
  intro m
  induction m with
  | zero =>
    intro k fuel hf hkm hvk
    obtain ⟨fuel, rfl⟩ : ∃ q, fuel = q + 1 := ⟨fuel - 1, by omega⟩
    rw [B_X9_named_17, t9f K, bO_s, C.1, if_pos ((n_le (by omega) (by omega)).mpr (by omega))]
    rfl
  | succ m ih =>
    intro k fuel hf hkm hvk
    obtain ⟨fuel, rfl⟩ : ∃ q, fuel = q + 1 := ⟨fuel - 1, by omega⟩
    have hkl : k < J.1 := by omega
    have Ck := C.2 k hkl
    have Yk := Y.2.2 k hkl
    rw [B_X9_named_17, t9f K, bO_s, C.1, if_neg (fun q => absurd ((n_le (by omega) (by omega)).mp q) (by omega)), t9r K 2, bO_s, t9a K 2 k (by omega), bO_s, Ck.2.1]
    simp only [paI_eq (T := J.2.1 2 k) (v := v) (by omega) (by omega)]
    show _ = some (oI (if mName J v w k = true then some k else fnF (mName J v w) m (k + 1)), mem W S)
    have nx : B_X9_named_17 G F fuel (W.ad (.o 9 t)) (Int32.ofNat v) (W.ad (.o 0 ib)) (Int32.ofNat fr) (Int32.ofNat c) ((Int32.ofNat k) + 1) (mem W S) = some (oI (fnF (mName J v w) m (k + 1)), mem W S) := by
      rw [n_i1]
      exact ih (k + 1) fuel (by omega) (by omega) (by omega)
    by_cases e : J.2.1 2 k = v + 1
    · have mb : mbr J.2.1 k := ⟨by omega, by rw [e]; exact hk⟩
      obtain ⟨c8, c9⟩ := Ck.2.2.2.2.2.2.2 mb
      rw [if_pos e, t9r K 8, bO_s, t9a K 8 k (by omega), bO_s, t9r K 9, bO_s, t9a K 9 k (by omega), bO_s, rcv_m K.1, bO_s, c8, c9, Q9_poolSays X K bp hB bb (by omega) hc hw hc2, bP_s]
      by_cases z : J.2.1 9 k = w.length ∧ seg J.2.2 (J.2.1 8 k) w.length = w
      · have mt : mName J v w k = true := by unfold mName; rw [decide_eq_true e, decide_eq_true z.1, decide_eq_true z.2]; rfl
        rw [if_pos z, if_neg (by decide), if_pos mt]
        rfl
      · have mf : ¬ mName J v w k = true := by
          unfold mName
          rw [Bool.and_eq_true, Bool.and_eq_true, decide_eq_true_iff, decide_eq_true_iff, decide_eq_true_iff]
          exact fun q => z q.2
        rw [if_neg z, if_pos rfl, if_neg mf, nx]
    · have mf : ¬ mName J v w k = true := by
        unfold mName
        rw [decide_eq_false e]
        simp
      rw [if_neg e, if_neg mf, nx]
theorem Q9_named {ib rb fr c : Nat} {ys w : List UInt8} {lb lp : Bool} {o : Option Nat} (X : Cx G F W) (K : isTx W t ip) (C : TbC (S 9 t) J) (Y : JX J) (bp : Byt 8192 (S 0 ip) J.2.2 lp) (hB : isB W ib rb) (bb : Byt rb (S 0 ib) ys lb) (hc : fr + c ≤ ys.length) (hw : seg ys fr c = w) (hc2 : c < 2 ^ 20) (ho : ∀ i, o = some i → i < 2 ^ 31) : P_X9_named G F (W.ad (.o 9 t)) (oI o) (W.ad (.o 0 ib)) (Int32.ofNat fr) (Int32.ofNat c) (mem W S) = some (oI (fN J w o), mem W S) := by
  have hF := X.hF
  have Y2 := Y.2.1
  unfold P_X9_named
  rw [rcv_m K.1, bO_s, show (6 : Int32) = (Int32.ofNat 6) from rfl, Q9_isKind K C Y ho (by decide), bP_s]
  cases o with
  | none =>
    rw [if_pos (by rfl)]
    rfl
  | some v =>
    show _ = some (oI (if kB J (some v) 6 = true then fnF (mName J v w) (J.1 - (v + 1)) (v + 1) else none), mem W S)
    by_cases e : kB J (some v) 6 = true
    · have e' := e
      unfold kB at e'
      rw [Bool.and_eq_true, decide_eq_true_iff, decide_eq_true_iff] at e'
      rw [if_pos e, if_neg (by decide), if_pos e]
      show B_X9_named_17 G F F (W.ad (.o 9 t)) (Int32.ofNat v) (W.ad (.o 0 ib)) (Int32.ofNat fr) (Int32.ofNat c) ((Int32.ofNat v) + 1) (mem W S) = _
      rw [n_i1]
      exact Q9_named_l X K C Y bp hB bb hc hw hc2 e'.1 e'.2 _ (v + 1) F (by omega) (by omega) (by omega)
    · rw [if_neg e, if_pos rfl, if_neg e]
      rfl
end TXT
