/-! CALLS drop AND told: the model -/
theorem agN_nm {d : List UInt8} : ∀ (m k : Nat) (a : Int32), k + m ≤ 100 → a ≠ -1 → agN d m k a ≠ -1
  | 0, _, _, _, h => h
  | m + 1, k, a, hk, h => by
    show agN d m (k + 1) (if d = str (33 + k) then (Int32.ofNat k) else a) ≠ -1
    refine agN_nm m (k + 1) _ (by omega) ?_
    split
    · exact n_nm (by omega)
    · exact h
theorem KyV.sec {K : KY} (h : KyV K) {d : List UInt8} (e : K.2.1.2.2 = some d) : 1 ≤ d.length ∧ d.length ≤ 128 := by
  obtain ⟨s, J, kd, k, h1, h2, h3, h4, h5⟩ := h
  obtain ⟨q1, q2⟩ := kyR_k h3
  rw [h5] at e
  have e : k.2.2 = some d := e
  have h3 : kd = 0 ∨ kd = 1 ∨ kd = 2 := by omega
  rcases h3 with rfl | rfl | rfl
  · have q2 : (if inL (lB J (fd J 24)) 1 128 = true then some (lB J (fd J 24), [], none) else none : Option Ky3) = some k := q2
    split at q2
    · rw [← Option.some.inj q2] at e
      exact absurd (show (none : Option (List UInt8)) = some d from e) (by simp)
    · exact absurd q2 (by simp)
  · have q2 : rsaN J = some k := q2
    unfold rsaN at q2
    split at q2
    · split at q2
      · split at q2
        · rename_i c
          rw [← Option.some.inj q2] at e
          have e := Option.some.inj e
          have c := c.1
          unfold inL at c
          rw [e, Bool.and_eq_true, decide_eq_true_iff, decide_eq_true_iff] at c
          exact c
        · exact absurd q2 (by simp)
      · rw [← Option.some.inj q2] at e
        exact absurd (show (none : Option (List UInt8)) = some d from e) (by simp)
    · exact absurd q2 (by simp)
  · have := (kyN_2 q2).2 d e
    omega
section MTL
variable {W : WR} {G : mG} {F : Nat} {S : ST} {o : Ob} {A : Nat → Option KY}
theorem oM_drop (h : isM W) (K : KM o A) (x : Int32) : ∃ o', P_X13_drop G F (W.ad (.o 13 0)) x (mem W (S.so 13 0 o)) = some ((drpW A x).1, mem W (S.so 13 0 o')) ∧ agr [] [] [83] [] o o' ∧ KM o' (drpW A x).2 := by
  unfold P_X13_drop drpW
  rw [rcv_m h.lo, bO_s, oM_isKey h K, bP_s]
  rcases isk_cases A x with ⟨q, e⟩ | ⟨k, hk, rfl, e⟩
  · rw [e, if_neg Bool.false_ne_true, if_pos rfl, if_neg Bool.false_ne_true]
    exact ⟨o, rfl, agr.refl _ _ _ _ _, K⟩
  · cases eA : A k with
    | none =>
      have e' : isk A (Int32.ofNat k) = false := by rw [e, eA]; rfl
      rw [e', if_neg Bool.false_ne_true, if_pos rfl, if_neg Bool.false_ne_true]
      exact ⟨o, rfl, agr.refl _ _ _ _ _, K⟩
    | some K2 =>
      have e' : isk A (Int32.ofNat k) = true := by rw [e, eA]; rfl
      have s1 : sI (mem W (S.so 13 0 o)) 3 (W.ad (.a 13 0 83)) (Int32.ofNat k) (vp_nar .boolean (0 : Int32)) = some (mem W (S.so 13 0 (o.sA 83 (upd (o.a 83) k 0)))) := by
        rw [sI_m (h.la 83 (by decide)) rfl (by decide) (by decide) (by rw [h.n 83 (by decide)]; exact inB_n hk (by decide)), n_at (by omega), so_eq, so_so]
        rfl
      rw [e', if_pos rfl, if_neg (by decide), if_pos rfl, h.gR 83 rfl (by decide), bO_s, s1, bO_s, n_at (by omega)]
      have a : agr [] [] [83] [] o (o.sA 83 (upd (o.a 83) k 0)) := agr_sA (by simp)
      refine ⟨_, rfl, a, ?_⟩
      obtain ⟨α85, α87, α89, α92, α94, ⟨b1, b2, b3, b4, b5⟩, q⟩ := K
      refine ⟨α85, α87, α89, α92, α94, ⟨a.mB b1 (by decide), a.mB b2 (by decide), a.mB b3 (by decide), a.mB b4 (by decide), a.mB b5 (by decide)⟩, fun k' hk' => ?_⟩
      have z := q k' hk'
      show match up A k none k' with | none => _ | some K => _
      by_cases c : k' = k
      · subst c
        rw [up_eq]
        rw [eA] at z
        obtain ⟨z0, ⟨zz, y1, y2, y3, y4, w, y5, y6, y7⟩, zV⟩ := z
        refine ⟨by rw [sA_a, upd_eq], w.map List.length, by rw [a.2.2.1 95 (by decide)]; exact y5, fun n hn => ?_⟩
        cases w with
        | none => exact absurd hn (by simp)
        | some d =>
          have := Option.some.inj hn
          have := (y6 d rfl).1
          omega
      · rw [up_ne c]
        unfold KMk nKy at z ⊢
        rw [sA_a, upd_ne c, a.2.2.1 84 (by decide), a.2.2.1 86 (by decide), a.2.2.1 88 (by decide), a.2.2.1 90 (by decide), a.2.2.1 91 (by decide), a.2.2.1 93 (by decide), a.2.2.1 95 (by decide)]
        exact z
theorem oM_told (h : isM W) (K : KM o A) (x w : Int32) : P_X13_told G F (W.ad (.o 13 0)) x w (mem W (S.so 13 0 o)) = some (tldW A x w, mem W (S.so 13 0 o)) := by
  unfold P_X13_told tldW
  rw [rcv_m h.lo, bO_s, oM_isKey h K, bP_s]
  rcases isk_cases A x with ⟨q, e⟩ | ⟨k, hk, rfl, e⟩
  · rw [e, if_neg Bool.false_ne_true, if_pos rfl, if_neg Bool.false_ne_true]
  · rw [n_at (by omega)]
    cases eA : A k with
    | none =>
      have e' : isk A (Int32.ofNat k) = false := by rw [e, eA]; rfl
      rw [e', if_neg Bool.false_ne_true, if_pos rfl, if_neg Bool.false_ne_true]
    | some K2 =>
      have e' : isk A (Int32.ofNat k) = true := by rw [e, eA]; rfl
      rw [e', if_pos rfl, if_neg (by decide), if_pos rfl]
      show _ = some (tldF K2 w, mem W (S.so 13 0 o))
      obtain ⟨α85, α87, α89, α92, α94, b, q⟩ := K
      have q := q k hk
      rw [eA] at q
      obtain ⟨q0, ⟨⟨z1, z2, z3, z4, z5, z6⟩, y1, y2, y3, y4, wd, y5, y6, y7⟩, V⟩ := q
      have rd : ∀ {kk : Nat}, (kdA 13)[kk]? = some 0 → mLen kk = 16 → aI G (mem W (S.so 13 0 o)) 0 (W.ad (.a 13 0 kk)) (Int32.ofNat k) = some (o.a kk k) := fun {kk} c1 c2 => by
        rw [h.aN c1 (by rw [c2]; exact hk) (by rw [c2]; decide), so_eq]
      unfold tldF
      by_cases n0 : w < 0
      · rw [if_pos n0]
        have nw : ∀ v : Int32, ¬ v < 0 → w ≠ v := fun v hv e => hv (by rw [← e]; exact n0)
        rw [if_neg (nw 0 (by decide)), if_neg (nw 1 (by decide)), if_neg (nw 2 (by decide)), if_neg (nw 3 (by decide)), if_neg (nw 4 (by decide)), if_neg (nw 5 (by decide))]
      rw [if_neg n0]
      by_cases n5 : w ≤ 5
      · rw [if_pos n5]
        by_cases w0 : w = 0
        · rw [if_pos w0, if_pos w0, h.gR 84 rfl (by decide), bO_s, rd rfl rfl, bO_s, z1]
        rw [if_neg w0, if_neg w0]
        by_cases w1 : w = 1
        · rw [if_pos w1, if_pos w1, h.gR 86 rfl (by decide), bO_s, rd rfl rfl, bO_s, z2]
          unfold Ma
          by_cases c : K2.1 = 2
          · rw [if_pos c, if_pos c, seg_len (by rw [V.p64 c]; decide)]
            rfl
          · rw [if_neg c, if_neg c]
        rw [if_neg w1, if_neg w1]
        by_cases w2 : w = 2
        · rw [if_pos w2, if_pos w2, h.gR 90 rfl (by decide), bO_s, rd rfl rfl, bO_s, z4]
          unfold Md
          cases ed : K2.2.1.2.2 with
          | none => rfl
          | some d =>
            have sc := V.sec ed
            show (if (Int32.ofNat d.length) ≤ 0 then _ else _) = _
            rw [if_neg (fun q => by have := (n_le (b := 0) (by omega) (by omega)).mp q; omega)]
            rfl
        rw [if_neg w2, if_neg w2]
        by_cases w3 : w = 3
        · rw [if_pos w3, if_pos w3, h.gR 91 rfl (by decide), bO_s, rd rfl rfl, bO_s, z5]
        rw [if_neg w3, if_neg w3]
        by_cases w4 : w = 4
        · rw [if_pos w4, if_pos w4, h.gR 93 rfl (by decide), bO_s, rd rfl rfl, bO_s, z6]
          cases K2.2.2.2.2 <;> rfl
        rw [if_neg w4, if_neg w4, h.gR 95 rfl (by decide), bO_s, rd rfl rfl, bO_s, y5]
        have w5 : w = 5 := by
          rcases i_cases w with c | ⟨j, hj, rfl⟩
          · exact absurd c n0
          · have l5 := (n_le (b := 5) hj (by omega)).mp n5
            have a0 : j ≠ 0 := fun e => w0 (by rw [e]; rfl)
            have a1 : j ≠ 1 := fun e => w1 (by rw [e]; rfl)
            have a2 : j ≠ 2 := fun e => w2 (by rw [e]; rfl)
            have a3 : j ≠ 3 := fun e => w3 (by rw [e]; rfl)
            have a4 : j ≠ 4 := fun e => w4 (by rw [e]; rfl)
            have : j = 5 := by omega
            rw [this]
            rfl
        rw [if_pos w5, y7]
        cases wd with
        | none => rfl
        | some d =>
          have l := (y6 d rfl).1
          rw [if_neg (show ¬ oLn ((some d).map List.length) < 0 from nn (by omega)), if_neg (show ¬ agW (some d) = -1 from agN_nm 11 0 11 (by omega) (by decide))]
      · rw [if_neg n5]
        have nw : ∀ v : Int32, v ≤ 5 → w ≠ v := fun v hv e => n5 (by rw [e]; exact hv)
        rw [if_neg (nw 0 (by decide)), if_neg (nw 1 (by decide)), if_neg (nw 2 (by decide)), if_neg (nw 3 (by decide)), if_neg (nw 4 (by decide)), if_neg (nw 5 (by decide))]
end MTL
