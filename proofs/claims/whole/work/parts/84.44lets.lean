/-! WHETHER A KEY'S ALG AND USE LET: the model -/
abbrev wrS : List (List UInt8) := [str 33, str 34, str 35, str 36, str 37]
abbrev wrE : List (List UInt8) := [str 38, str 39, str 40, str 41, str 42, str 43]
theorem wrS_x : ∀ w ∈ wrS, ∀ x ∈ w, x ≠ 32 := by decide +kernel
theorem wrE_x : ∀ w ∈ wrE, ∀ x ∈ w, x ≠ 32 := by decide +kernel
theorem wdF_at {d : List UInt8} : ∀ (ws : List (List UInt8)) (k q : Nat), wdF d ws k = some q → k ≤ q ∧ ws[q - k]? = some d
  | [], _, _, h => absurd h (by simp [wdF])
  | w :: ws, k, q, h => by
    have h : (if d = w then some k else wdF d ws (k + 1)) = some q := h
    split at h
    · rename_i c
      have := Option.some.inj h
      subst this
      rw [Nat.sub_self, c]
      exact ⟨Nat.le_refl _, rfl⟩
    · obtain ⟨h1, h2⟩ := wdF_at ws (k + 1) q h
      refine ⟨by omega, ?_⟩
      rw [show q - k = (q - (k + 1)) + 1 by omega]
      exact h2
theorem wrS_at : ∀ w, w < 5 → wdF (str (33 + w)) wrS 0 = some w ∧ wrS[w]? = some (str (33 + w)) := by decide +kernel
theorem wrE_at : ∀ w, w < 6 → wdF (str (38 + w)) wrE 0 = some w ∧ wrE[w]? = some (str (38 + w)) := by decide +kernel
theorem wdS {d : List UInt8} {w : Nat} (hw : w < 5) : wdF d wrS 0 = some w ↔ d = str (33 + w) := by
  constructor
  · intro h
    have := (wdF_at wrS 0 w h).2
    rw [Nat.sub_zero, (wrS_at w hw).2] at this
    exact (Option.some.inj this).symm
  · intro e
    rw [e]
    exact (wrS_at w hw).1
theorem wdE {d : List UInt8} {w : Nat} (hw : w < 6) : wdF d wrE 0 = some w ↔ d = str (38 + w) := by
  constructor
  · intro h
    have := (wdF_at wrE 0 w h).2
    rw [Nat.sub_zero, (wrE_at w hw).2] at this
    exact (Option.some.inj this).symm
  · intro e
    rw [e]
    exact (wrE_at w hw).1
theorem wdF_b {d : List UInt8} {ws : List (List UInt8)} {q : Nat} (h : wdF d ws 0 = some q) : q < ws.length := by
  have := (wdF_at ws 0 q h).2
  by_cases c : q < ws.length
  · exact c
  · rw [Nat.sub_zero, List.getElem?_eq_none (by omega)] at this
    exact absurd this (by simp)
section LETS
variable {W : WR} {G : mG} {F : Nat} {S : ST} {o : Ob} {A : Nat → Option KY}
theorem oM_lets {j k w what : Nat} {K : KY} {ws : List (List UInt8)} (X : Cx G F W) (h : isM W) (KK : KM o A) (hk : k < 16) (e : A k = some K) (hj : j < 124) (hR : str j = rwW ws) (hl : ws.length < 100) (hx : ∀ w ∈ ws, ∀ x ∈ w, x ≠ 32) (hw : w < 100) (hwh : what < 100) (b : Nat) (hq : ∀ d, wdF d ws 0 = some w ↔ d = str (33 + b)) (hb : b < 11) : P_X13_lets G F (W.ad (.o 13 0)) (Int32.ofNat k) (G.1 j) (Int32.ofNat w) (Int32.ofNat what) (mem W (S.so 13 0 o)) = some (if ((decide (K.2.2.2.1 = -1) || decide (K.2.2.2.1 = (Int32.ofNat b))) && decide (K.2.2.1 = 0 ∨ K.2.2.1 = what)) = true then 1 else 0, mem W (S.so 13 0 o)) := by
  obtain ⟨α85, α87, α89, α92, α94, bb, q⟩ := id KK
  have q := q k hk
  rw [e] at q
  obtain ⟨q0, ⟨⟨z1, z2, z3, z4, z5, z6⟩, y1, y2, y3, y4, wd, y5, y6, y7⟩, V⟩ := q
  have u3 := V.us
  have rd : ∀ {kk : Nat}, (kdA 13)[kk]? = some 0 → mLen kk = 16 → aI G (mem W (S.so 13 0 o)) 0 (W.ad (.a 13 0 kk)) (Int32.ofNat k) = some (o.a kk k) := fun {kk} c1 c2 => by
    rw [h.aN c1 (by rw [c2]; exact hk) (by rw [c2]; decide), so_eq]
  have e37 : ∀ g : Bool, B_X13_lets_37 G F (W.ad (.o 13 0)) (Int32.ofNat k) (Int32.ofNat what) (if g = true then 1 else 0) (mem W (S.so 13 0 o)) = some (if (g && decide (K.2.2.1 = 0 ∨ K.2.2.1 = what)) = true then 1 else 0, mem W (S.so 13 0 o)) := by
    intro g
    unfold B_X13_lets_37
    rw [h.gR 83 rfl (by decide), bO_s, oM_a83 h hk, bO_s, q0, if_neg (by decide)]
    cases g with
    | false => rw [if_neg Bool.false_ne_true, if_pos rfl, rz0, Bool.false_and]; rfl
    | true =>
      rw [if_pos rfl, if_neg (by decide), h.gR 91 rfl (by decide), bO_s, rd rfl rfl, bO_s, z5, Bool.true_and]
      by_cases c : K.2.2.1 = 0
      · rw [if_pos (show (Int32.ofNat (K.2.2.1)) = 0 by rw [c]; rfl), rz1, if_pos (decide_eq_true (Or.inl c))]
      · rw [if_neg (show ¬ (Int32.ofNat (K.2.2.1)) = 0 from fun z => c ((n_eq (b := 0) (by omega) (by omega)).mp z)), bO_s, rd rfl rfl, bO_s, z5]
        by_cases d : K.2.2.1 = what
        · rw [if_pos (by rw [d]), rz1, if_pos (decide_eq_true (Or.inr d))]
        · rw [if_neg (fun z => d ((n_eq (by omega) (by omega)).mp z)), rz0, if_neg (by rw [decide_eq_false (fun z => z.elim c d)]; decide)]
  have t1 := e37 true
  have t0 := e37 false
  rw [if_pos rfl] at t1
  rw [if_neg Bool.false_ne_true] at t0
  unfold P_X13_lets
  rw [h.gR 95 rfl (by decide), bO_s, rd rfl rfl, bO_s, y5, y7]
  cases wd with
  | none =>
    rw [if_pos (show oLn ((none : Option (List UInt8)).map List.length) < 0 by decide), show decide (agW none = -1) = true from rfl, Bool.true_or]
    exact t1
  | some d =>
    obtain ⟨l, r⟩ := y6 d rfl
    have wo := QM_wordOf (G := G) (F := F) (S := S.so 13 0 o) (j := j) (n := d.length) (kb := 94) (p := 8200 * k) (β := α94) X h hj rfl (by decide) (by rw [so_eq]; exact bb.2.2.2.2) (by omega) (by show _ ≤ 131200; omega) hR hl hx
    rw [r] at wo
    rw [if_neg (show ¬ oLn ((some d).map List.length) < 0 from nn (by omega)), h.gR 94 rfl (by decide), bO_s, bO_s, rd rfl rfl, bO_s, y5, show (8200 : Int32) * (Int32.ofNat k) = (Int32.ofNat (8200 * k)) from n_mul 8200 k]
    show bP (P_X13_wordOf G F (G.1 j) (W.ad (.a 13 0 94)) (Int32.ofNat (8200 * k)) (Int32.ofNat d.length) (mem W (S.so 13 0 o))) _ = _
    rw [wo, bP_s, decide_eq_false (show ¬ agW (some d) = -1 from agN_nm 11 0 11 (by omega) (by decide)), Bool.false_or]
    have iff : oI (wdF d ws 0) = (Int32.ofNat w) ↔ agW (some d) = (Int32.ofNat b) := by
      rw [agW_w hb, ← hq d]
      cases ew : wdF d ws 0 with
      | none => exact ⟨fun z => absurd (z.symm) (n_nm (by omega)), fun z => absurd z (by simp)⟩
      | some x =>
        have xb := wdF_b ew
        show (Int32.ofNat x) = (Int32.ofNat w) ↔ some x = some w
        rw [n_eq (by omega) (by omega)]
        exact ⟨fun z => by rw [z], fun z => Option.some.inj z⟩
    by_cases c : agW (some d) = (Int32.ofNat b)
    · rw [if_pos (iff.mpr c), decide_eq_true c]
      exact t1
    · rw [if_neg (fun z => c (iff.mp z)), decide_eq_false c]
      exact t0
end LETS
