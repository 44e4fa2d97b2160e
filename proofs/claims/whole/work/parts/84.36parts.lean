/-! A RIGHT KEY'S PARTS -/
theorem bst_parts {J : JT} {kd : Nat} {k : Ky3} (hk : kd ≤ 2) (hL : kyL J kd = true) (hb : bstN J kd = some k) : (ltB J (fA J kd) = some (Ma (kyA J kd k)) ∧ (Ma (kyA J kd k)).length ≤ 128) ∧ ((kd = 0 → Me (kyA J kd k) = []) ∧ (kd ≠ 0 → ltB J (fB J kd) = some (Me (kyA J kd k))) ∧ (Me (kyA J kd k)).length ≤ 128) ∧ (kd = 0 → Md (kyA J kd k) = []) ∧ (kd ≠ 0 → (ltB J (fd J 23) = none ∧ Md (kyA J kd k) = []) ∨ ltB J (fd J 23) = some (Md (kyA J kd k))) ∧ (Md (kyA J kd k)).length ≤ 128 := by
  have h3 : kd = 0 ∨ kd = 1 ∨ kd = 2 := by omega
  rcases h3 with rfl | rfl | rfl
  · rw [bst_0] at hb
    split at hb
    · rename_i c
      have hb := Option.some.inj hb
      have l : (ltB J (fd J 24)).isSome = true := hL
      unfold inL at c
      rw [Bool.and_eq_true, decide_eq_true_iff, decide_eq_true_iff] at c
      rw [← hb]
      exact ⟨⟨lB_of l, c.2⟩, ⟨fun _ => rfl, fun q => absurd rfl q, Nat.zero_le _⟩, fun _ => rfl, fun q => absurd rfl q, Nat.zero_le _⟩
    · exact absurd hb (by simp)
  · obtain ⟨l1, l2, l3⟩ := kyL_1 hL
    rw [bst_1 hL] at hb
    split at hb
    · rename_i c
      have hb := Option.some.inj hb
      unfold rsM at c
      rw [Bool.and_eq_true] at c
      obtain ⟨r1, r2, r3, r4, r5, r6, r7⟩ := rsG_t c.1
      have c2 := c.2
      rw [← hb]
      refine ⟨⟨lB_of l1, r2⟩, ⟨fun q => absurd q (by decide), fun _ => lB_of l2, r5⟩, fun q => absurd q (by decide), fun _ => ?_, ?_⟩
      · cases e : ltB J (fd J 23) with
        | none => exact Or.inl ⟨rfl, rfl⟩
        | some C => exact Or.inr rfl
      · show ((ltB J (fd J 23)).getD []).length ≤ 128
        cases e : ltB J (fd J 23) with
        | none => exact Nat.zero_le _
        | some C =>
          rw [e] at c2
          have c2 : rsC _ _ C = true := c2
          unfold rsC at c2
          rw [Bool.and_eq_true, decide_eq_true_iff] at c2
          have c3 := c2.1.1
          unfold inL at c3
          rw [Bool.and_eq_true, decide_eq_true_iff, decide_eq_true_iff] at c3
          exact c3.2
    · exact absurd hb (by simp)
  · obtain ⟨l1, l2, l3⟩ := kyL_2 hL
    rw [bst_2 hL] at hb
    split at hb
    · rename_i c
      have hb := Option.some.inj hb
      unfold ecM at c
      rw [Bool.and_eq_true, decide_eq_true_iff] at c
      obtain ⟨⟨n1, n2⟩, c2⟩ := c
      have s1 := seg_l (b := lB J (fd J 30)) n1
      have s2 := seg_r n1 n2
      rw [← hb]
      have eM : Ma (kyA J 2 (lB J (fd J 29) ++ lB J (fd J 30), [], ltB J (fd J 23))) = lB J (fd J 29) := s1
      have eE : Me (kyA J 2 (lB J (fd J 29) ++ lB J (fd J 30), [], ltB J (fd J 23))) = lB J (fd J 30) := s2
      rw [eM, eE]
      refine ⟨⟨lB_of l1, by omega⟩, ⟨fun q => absurd q (by decide), fun _ => lB_of l2, by omega⟩, fun q => absurd q (by decide), fun _ => ?_, ?_⟩
      · cases e : ltB J (fd J 23) with
        | none => exact Or.inl ⟨rfl, rfl⟩
        | some C => exact Or.inr rfl
      · show ((ltB J (fd J 23)).getD []).length ≤ 128
        cases e : ltB J (fd J 23) with
        | none => exact Nat.zero_le _
        | some C =>
          rw [e] at c2
          have c2 : (decide (C.length = 32) && _) = true := c2
          rw [Bool.and_eq_true, decide_eq_true_iff] at c2
          show C.length ≤ 128
          omega
    · exact absurd hb (by simp)
section MTA
variable {W : WR} {G : mG} {F : Nat} {S : ST} {bk : Nat} {J : JT} {A : Nat → Option KY}
/-- a right key takes the first free place -/
theorem QM_take {kd : Nat} {k : Ky3} (X : Cx G F W) (h : isM W) (M : MTx (S 13 0) bk J) (hbk : bk ≤ 1) (Y : JX J) (h0 : 0 < J.1) (hk : kd ≤ 2) (hL : kyL J kd = true) (o22 : okN J 22 = true) (hb : bstN J kd = some k) (V : KyV (kyA J kd k)) (H : hasK (S 13 0) J kd) (K : KM (S 13 0) A) : ∃ o', B_X13_key_453 G F F (W.ad (.o 13 0)) (Int32.ofNat bk) (Int32.ofNat kd) 0 (mem W S) = some ((match frN A with | none => -17 | some q => (Int32.ofNat q)), mem W (S.so 13 0 o')) ∧ agr [] [] [83, 84, 85, 86, 87, 88, 89, 90, 91, 92, 93, 94, 95] [] (S 13 0) o' ∧ KM o' (match frN A with | none => A | some q => up A q (some (kyA J kd k))) := by
  have hF := X.hF
  have lp := oM_453 (G := G) (F := F) (S := S) (bk := bk) (kd := (Int32.ofNat kd)) h K 16 0 F (by omega) rfl
  rw [so_self] at lp
  have lp : B_X13_key_453 G F F (W.ad (.o 13 0)) (Int32.ofNat bk) (Int32.ofNat kd) 0 (mem W S) = _ := lp
  rw [lp]
  unfold frN
  cases ef : fnF (fun q => (A q).isNone) 16 0 with
  | none => exact ⟨S 13 0, by rw [so_self], agr.refl _ _ _ _ _, K⟩
  | some q =>
    obtain ⟨n1, n2, n3⟩ := fnF_some ef
    obtain ⟨⟨p1, p2⟩, ⟨p3, p4, p5⟩, p6, p7, p8⟩ := bst_parts hk hL hb
    obtain ⟨⟨f99, γa, ba, ra⟩, z0, z1, ⟨γb0, bb0⟩, γc0, bc0⟩ := H
    obtain ⟨α85, α87, α89, α92, α94, b, kq⟩ := id K
    obtain ⟨K0, hK0⟩ : ∃ K0, K0 = kyA J kd k := ⟨_, rfl⟩
    rw [← hK0] at p1 p2 p3 p4 p5 p6 p7 p8 V ⊢
    have e99 : (S 13 0).f 99 = (Int32.ofNat (Ma K0).length) := by rw [f99]; unfold lnO; rw [p1]; rfl
    have ra := ra _ p1
    have u1 : K0.1 = kd := by rw [hK0]; rfl
    have u2 : K0.2.2.1 = usN J := by rw [hK0]; rfl
    have u3 : K0.2.2.2.2 = wdJ J 20 := by rw [hK0]; rfl
    have u4 : K0.2.2.2.1 = agW (wdJ J 22) := by rw [hK0]; exact agF_w Y o22
    -- the second number and the secret
    obtain ⟨γb, bb, eb, rb⟩ : ∃ γb, mB (S 13 0) 97 γb ∧ (S 13 0).f 100 = (Int32.ofNat (Me K0).length) ∧ rdB γb 0 (Me K0).length = Me K0 := by
      by_cases c : kd = 0
      · exact ⟨γb0, bb0, by rw [(z0 c).1, p3 c]; rfl, by rw [p3 c]; rfl⟩
      · obtain ⟨⟨g1, γ, g2, g3⟩, _⟩ := z1 c
        exact ⟨γ, g2, by rw [g1]; unfold lnO; rw [p4 c]; rfl, g3 _ (p4 c)⟩
    obtain ⟨γc, c, bc, ec, rc, lc, cc⟩ : ∃ γc, ∃ c : Option Nat, mB (S 13 0) 98 γc ∧ ((kd = 0 → c = none) ∧ (kd ≠ 0 → (S 13 0).f 101 = oLn c)) ∧ rdB γc 0 (c.getD 0) = Md K0 ∧ (∀ n, c = some n → n ≤ 128) ∧ c.getD 0 ≤ 128 := by
      by_cases c : kd = 0
      · exact ⟨γc0, none, bc0, ⟨fun _ => rfl, fun q => absurd c q⟩, by rw [p6 c]; rfl, fun n e => absurd e (by simp), Nat.zero_le _⟩
      · obtain ⟨_, g1, γ, g2, g3⟩ := z1 c
        rcases p7 c with ⟨e1, e2⟩ | e1
        · exact ⟨γ, none, g2, ⟨fun q => absurd q c, fun _ => by rw [g1]; unfold lnO; rw [e1]; rfl⟩, by rw [e2]; rfl, fun n e => absurd e (by simp), Nat.zero_le _⟩
        · exact ⟨γ, some (Md K0).length, g2, ⟨fun q => absurd q c, fun _ => by rw [g1]; unfold lnO; rw [e1]; rfl⟩, g3 _ e1, fun n e => by rw [← Option.some.inj e]; exact p8, p8⟩
    have kp := oM_keepKey (G := G) (F := F) (S := S) (o := S 13 0) (k := q) (kd := kd) (c := c) X h M hbk Y h0 (by omega) hk ba bb bc b.1 b.2.1 b.2.2.1 b.2.2.2.1 b.2.2.2.2 e99 eb ec p2 p5 lc
    have fin := KM.keep (o := S 13 0) (A := A) (J := J) (k := q) (K := K0) (nA := (Ma K0).length) (nB := (Me K0).length) (nC := c.getD 0) Y (by omega) b kq ra rb rc p2 p5 cc u2 u3 u4 V
    rw [u1] at fin
    refine ⟨_, ?_, kpK_agr, fin⟩
    rw [so_self] at kp
    show bO (P_X13_keepKey G F (W.ad (.o 13 0)) (Int32.ofNat q) (Int32.ofNat kd) (Int32.ofNat bk) (mem W S)) _ = _
    rw [kp, bO_s]
end MTA
