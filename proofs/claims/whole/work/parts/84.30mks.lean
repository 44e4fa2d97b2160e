/-! THE KEYS THAT ARE KEPT: the model -/
def Ma (K : KY) : List UInt8 := if K.1 = 2 then seg K.2.1.1 0 32 else K.2.1.1
def Me (K : KY) : List UInt8 := if K.1 = 2 then seg K.2.1.1 32 32 else K.2.1.2.1
def Md (K : KY) : List UInt8 := K.2.1.2.2.getD []
def agN (w : List UInt8) : Nat → Nat → Int32 → Int32
  | 0, _, a => a
  | m + 1, k, a => agN w m (k + 1) (if w = str (33 + k) then (Int32.ofNat k) else a)
def agW (w : Option (List UInt8)) : Int32 := match w with
  | none => -1
  | some d => agN d 11 0 11
/-- a word kept in a row -/
def kpD (α : Nat → UInt8) (p : Nat) (w : Option (List UInt8)) : Prop := ∀ d, w = some d → d.length ≤ 8192 ∧ rdB α p d.length = d
def kpR (α : Nat → UInt8) (p : Nat) (d : List UInt8) : Prop := d.length ≤ 128 ∧ rdB α p d.length = d
def KMk (o : Ob) (α85 α87 α89 α92 α94 : Nat → UInt8) (k : Nat) (K : KY) : Prop := (o.a 84 k = (Int32.ofNat (K.1)) ∧ o.a 86 k = (Int32.ofNat (Ma K).length) ∧ o.a 88 k = (Int32.ofNat (Me K).length) ∧ o.a 90 k = (Int32.ofNat (Md K).length) ∧ o.a 91 k = (Int32.ofNat (K.2.2.1)) ∧ o.a 93 k = oLn (K.2.2.2.2.map List.length)) ∧ kpR α85 (128 * k) (Ma K) ∧ kpR α87 (128 * k) (Me K) ∧ kpR α89 (128 * k) (Md K) ∧ kpD α92 (8200 * k) K.2.2.2.2 ∧ ∃ w, o.a 95 k = oLn (w.map List.length) ∧ kpD α94 (8200 * k) w ∧ K.2.2.2.1 = agW w
/-- no key stands there, but how long its alg was is bounded -/
def nKy (o : Ob) (k : Nat) : Prop := o.a 83 k = 0 ∧ ∃ w : Option Nat, o.a 95 k = oLn w ∧ ∀ n, w = some n → n ≤ 8192
def KM (o : Ob) (A : Nat → Option KY) : Prop := ∃ α85 α87 α89 α92 α94, (mB o 85 α85 ∧ mB o 87 α87 ∧ mB o 89 α89 ∧ mB o 92 α92 ∧ mB o 94 α94) ∧ ∀ k, k < 16 → match A k with
  | none => nKy o k
  | some K => o.a 83 k = 1 ∧ KMk o α85 α87 α89 α92 α94 k K ∧ KyV K
theorem agL_none {J : JT} (h : fd J 22 = none) : ∀ m k a, agL J m k a = a
  | 0, _, _ => rfl
  | m + 1, k, a => by
    show agL J m (k + 1) (if sayB J (fd J 22) (str (33 + k)) = true then (Int32.ofNat k) else a) = a
    rw [agL_none h m, h]
    rfl
theorem agL_some {J : JT} {i : Nat} (Y : JX J) (h : fd J 22 = some i) (h4 : kB J (some i) 4 = true) : ∀ m k a, agL J m k a = agN (seg J.2.2 (J.2.1 6 i) (J.2.1 7 i)) m k a
  | 0, _, _ => rfl
  | m + 1, k, a => by
    have hi := fN_lt h
    have y := Y.2.2 i hi
    have ln : (seg J.2.2 (J.2.1 6 i) (J.2.1 7 i)).length = J.2.1 7 i := seg_len (by omega)
    show agL J m (k + 1) (if sayB J (fd J 22) (str (33 + k)) = true then (Int32.ofNat k) else a) = agN _ m (k + 1) (if seg J.2.2 (J.2.1 6 i) (J.2.1 7 i) = str (33 + k) then (Int32.ofNat k) else a)
    rw [agL_some Y h h4 m, h]
    congr 1
    have iff : sayB J (some i) (str (33 + k)) = true ↔ seg J.2.2 (J.2.1 6 i) (J.2.1 7 i) = str (33 + k) := by
      show (kB J (some i) 4 && decide (J.2.1 7 i = (str (33 + k)).length ∧ seg J.2.2 (J.2.1 6 i) (str (33 + k)).length = str (33 + k))) = true ↔ _
      rw [h4, Bool.true_and, decide_eq_true_iff]
      constructor
      · intro ⟨q1, q2⟩
        rw [q1]
        exact q2
      · intro q
        have : J.2.1 7 i = (str (33 + k)).length := by rw [← q, ln]
        exact ⟨this, by rw [← this]; exact q⟩
    by_cases c : seg J.2.2 (J.2.1 6 i) (J.2.1 7 i) = str (33 + k)
    · rw [if_pos c, if_pos (iff.mpr c)]
    · rw [if_neg c, if_neg (fun q => c (iff.mp q))]
theorem agF_w {J : JT} (Y : JX J) (h : okN J 22 = true) : agF J = agW (wdJ J 22) := by
  unfold okN at h
  rw [Bool.or_eq_true, decide_eq_true_iff] at h
  unfold agF wdJ
  cases e : fd J 22 with
  | none =>
    rw [if_pos rfl, agL_none e]
    rfl
  | some i =>
    rw [e] at h
    have h4 : kB J (some i) 4 = true := h.resolve_left (by simp)
    rw [if_neg (by simp), agL_some Y e h4]
    rfl
section MKS
variable {o o' : Ob} {A : Nat → Option KY} {J : JT}
theorem KM.agr {fs gs as ls : List Nat} (K : KM o A) (a : agr fs gs as ls o o') (ha : ∀ k ∈ [83, 84, 85, 86, 87, 88, 89, 90, 91, 92, 93, 94, 95], k ∉ as) : KM o' A := by
  obtain ⟨α85, α87, α89, α92, α94, ⟨b1, b2, b3, b4, b5⟩, q⟩ := K
  refine ⟨α85, α87, α89, α92, α94, ⟨a.mB b1 (ha 85 (by decide)), a.mB b2 (ha 87 (by decide)), a.mB b3 (ha 89 (by decide)), a.mB b4 (ha 92 (by decide)), a.mB b5 (ha 94 (by decide))⟩, fun k hk => ?_⟩
  have e := q k hk
  unfold KMk nKy at e ⊢
  rw [a.2.2.1 83 (ha 83 (by decide)), a.2.2.1 84 (ha 84 (by decide)), a.2.2.1 86 (ha 86 (by decide)), a.2.2.1 88 (ha 88 (by decide)), a.2.2.1 90 (ha 90 (by decide)), a.2.2.1 91 (ha 91 (by decide)), a.2.2.1 93 (ha 93 (by decide)), a.2.2.1 95 (ha 95 (by decide))]
  exact e
theorem kpR_off {α : Nat → UInt8} {k k' : Nat} {d e : List UInt8} (h : kpR α (128 * k') d) (hn : k' ≠ k) (he : e.length ≤ 128) : kpR (wrB α (128 * k) e) (128 * k') d := by
  obtain ⟨h1, h2⟩ := h
  refine ⟨h1, ?_⟩
  rw [rdB_off (by omega)]
  exact h2
theorem kpR_on {α : Nat → UInt8} {p : Nat} {d : List UInt8} (h : d.length ≤ 128) : kpR (wrB α p d) p d := ⟨h, rdB_wrB _ _ _⟩
theorem kpD_off {α : Nat → UInt8} {k k' : Nat} {d e : Option (List UInt8)} (h : kpD α (8200 * k') d) (hn : k' ≠ k) (he : ∀ x, e = some x → x.length ≤ 8192) : kpD (wO α (8200 * k) e) (8200 * k') d := by
  intro x hx
  obtain ⟨h1, h2⟩ := h x hx
  refine ⟨h1, ?_⟩
  cases e with
  | none => exact h2
  | some y =>
    have := he y rfl
    show rdB (wrB α (8200 * k) y) (8200 * k') x.length = x
    rw [rdB_off (by omega)]
    exact h2
theorem kpD_on {α : Nat → UInt8} {p : Nat} {d : Option (List UInt8)} (h : ∀ x, d = some x → x.length ≤ 8192) : kpD (wO α p d) p d := by
  intro x hx
  refine ⟨h x hx, ?_⟩
  rw [hx]
  exact rdB_wrB _ _ _
theorem KM.keep {k nA nB nC : Nat} {K : KY} {γa γb γc α85 α87 α89 α92 α94 : Nat → UInt8} (Y : JX J) (hk : k < 16) (b : mB o 85 α85 ∧ mB o 87 α87 ∧ mB o 89 α89 ∧ mB o 92 α92 ∧ mB o 94 α94) (q : ∀ k, k < 16 → match A k with | none => nKy o k | some K => o.a 83 k = 1 ∧ KMk o α85 α87 α89 α92 α94 k K ∧ KyV K) (e1 : rdB γa 0 nA = Ma K) (e2 : rdB γb 0 nB = Me K) (e3 : rdB γc 0 nC = Md K) (lA : nA ≤ 128) (lB : nB ≤ 128) (lC : nC ≤ 128) (eu : K.2.2.1 = usN J) (ek : K.2.2.2.2 = wdJ J 20) (ea : K.2.2.2.1 = agW (wdJ J 22)) (V : KyV K) : KM (kpK o J k K.1 nA nB nC γa γb γc α85 α87 α89 α92 α94) (up A k (some K)) := by
  have l1 : nA = (Ma K).length := by rw [← e1, rdB_len]
  have l2 : nB = (Me K).length := by rw [← e2, rdB_len]
  have l3 : nC = (Md K).length := by rw [← e3, rdB_len]
  refine ⟨_, _, _, _, _, ⟨kpK_85, kpK_87, kpK_89, kpK_92, kpK_94⟩, fun k' hk' => ?_⟩
  rw [e1, e2, e3]
  by_cases e : k' = k
  · subst e
    rw [up_eq]
    refine ⟨by rw [kpK_83, upd_eq], ⟨⟨by rw [kpK_84, upd_eq], by rw [kpK_86, upd_eq, l1], by rw [kpK_88, upd_eq, l2], by rw [kpK_90, upd_eq, l3], by rw [kpK_91, upd_eq, eu], by rw [kpK_93, upd_eq, ek]⟩, kpR_on (by omega), kpR_on (by omega), kpR_on (by omega), ?_, wdJ J 22, by rw [kpK_95, upd_eq], kpD_on (fun x hx => wdJ_le Y hx), ea⟩, V⟩
    rw [ek]
    exact kpD_on (fun x hx => wdJ_le Y hx)
  · rw [up_ne e]
    have z := q k' hk'
    cases eA : A k' with
    | none =>
      rw [eA] at z
      obtain ⟨z0, w, z1, z2⟩ := z
      exact ⟨by rw [kpK_83, upd_ne e]; exact z0, w, by rw [kpK_95, upd_ne e]; exact z1, z2⟩
    | some K' =>
      rw [eA] at z
      obtain ⟨z0, ⟨⟨z1, z2, z3, z4, z5, z6⟩, y1, y2, y3, y4, w, y5, y6, y7⟩, zV⟩ := z
      exact ⟨by rw [kpK_83, upd_ne e]; exact z0, ⟨⟨by rw [kpK_84, upd_ne e]; exact z1, by rw [kpK_86, upd_ne e]; exact z2, by rw [kpK_88, upd_ne e]; exact z3, by rw [kpK_90, upd_ne e]; exact z4, by rw [kpK_91, upd_ne e]; exact z5, by rw [kpK_93, upd_ne e]; exact z6⟩, kpR_off y1 e (by omega), kpR_off y2 e (by omega), kpR_off y3 e (by omega), kpD_off y4 e (fun x hx => wdJ_le Y hx), w, by rw [kpK_95, upd_ne e]; exact y5, kpD_off y6 e (fun x hx => wdJ_le Y hx), y7⟩, zV⟩
end MKS
