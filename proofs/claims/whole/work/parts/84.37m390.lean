/-! THE MODEL'S key: from the letters to the answer -/
abbrev keL : List Nat := [60, 61, 62, 67, 68, 69, 70, 71, 72, 74, 75, 76, 77, 78, 79, 83, 84, 85, 86, 87, 88, 89, 90, 91, 92, 93, 94, 95]
/-- what key answers once its letters are there -/
def ansB (A : Nat → Option KY) (J : JT) (kd : Nat) : Int32 × (Nat → Option KY) := match bstN J kd with
  | none => (-16, A)
  | some k => (match frN A with
    | none => (-17, A)
    | some q => ((Int32.ofNat q), up A q (some (kyA J kd k))))
section M39
variable {W : WR} {G : mG} {F : Nat} {S : ST} {bk : Nat} {J : JT} {A : Nat → Option KY}
theorem hasK.ag {o o' : Ob} {kd : Nat} {fs gs as ls : List Nat} (H : hasK o J kd) (a : agr fs gs as ls o o') (h1 : ∀ k ∈ [99, 100, 101], k ∉ fs) (h2 : ∀ k ∈ [96, 97, 98], k ∉ as) : hasK o' J kd := by
  obtain ⟨x1, x2, x3, ⟨γ4, x4⟩, γ5, x5⟩ := H
  refine ⟨x1.ag a (h1 _ (by decide)) (h2 _ (by decide)), fun q => ?_, fun q => ?_, ⟨γ4, a.mB x4 (h2 _ (by decide))⟩, γ5, a.mB x5 (h2 _ (by decide))⟩
  · rw [a.1 100 (h1 _ (by decide)), a.1 101 (h1 _ (by decide))]
    exact x2 q
  · exact ⟨(x3 q).1.ag a (h1 _ (by decide)) (h2 _ (by decide)), (x3 q).2.ag a (h1 _ (by decide)) (h2 _ (by decide))⟩
/-- after the numbers are found right or not -/
theorem QM_after {kd : Nat} {S1 : ST} (X : Cx G F W) (h : isM W) (M : MTx (S 13 0) bk J) (hbk : bk ≤ 1) (Y : JX J) (h0 : 0 < J.1) (hk : kd ≤ 2) (hL : kyL J kd = true) (o22 : okN J 22 = true) (hV : ∀ k, bstN J kd = some k → KyV (kyA J kd k)) (H : hasK (S 13 0) J kd) (K : KM (S 13 0) A) (f : fr [(12, 0), (12, 1), (13, 0)] S S1) (a : agr [73] [] [60, 61, 62, 67, 68, 69, 70, 71, 72, 74, 75, 76, 77, 78, 79] [] (S 13 0) (S1 13 0)) (mk : MK S1) (h79 : ∃ β, mB (S1 13 0) 79 β) (h62 : ∃ β, mB (S1 13 0) 62 β) : ∃ S', (if (bstN J kd).isSome = true then B_X13_key_453 G F F (W.ad (.o 13 0)) (Int32.ofNat bk) (Int32.ofNat kd) 0 (mem W S1) else some (-16, mem W S1)) = some ((ansB A J kd).1, mem W S') ∧ fr [(12, 0), (12, 1), (13, 0)] S S' ∧ agr [73] [] keL [] (S 13 0) (S' 13 0) ∧ KM (S' 13 0) (ansB A J kd).2 ∧ MK S' ∧ (∃ β, mB (S' 13 0) 79 β) ∧ ∃ β, mB (S' 13 0) 62 β := by
  have K1 : KM (S1 13 0) A := K.agr a (by decide)
  have a' : agr [73] [] keL [] (S 13 0) (S1 13 0) := a.mono (by simp) (by simp) (by simp [keL]) (by simp)
  unfold ansB
  cases e : bstN J kd with
  | none =>
    rw [if_neg (by simp)]
    exact ⟨S1, rfl, f, a', K1, mk, h79, h62⟩
  | some k =>
    rw [if_pos (by rfl)]
    obtain ⟨o', g1, g2, g3⟩ := QM_take (G := G) (F := F) (S := S1) (A := A) X h (M.agr a (by decide)) hbk Y h0 hk hL o22 e (hV k e) (H.ag a (by decide) (by decide)) K1
    have f2 : fr [(12, 0), (12, 1), (13, 0)] S1 (S1.so 13 0 o') := fr_so (by simp)
    refine ⟨S1.so 13 0 o', ?_, f.trans f2, ?_, ?_, ?_, ?_, ?_⟩
    · rw [g1]
      cases frN A <;> rfl
    · rw [so_eq]
      exact a'.trans (g2.mono (by simp) (by simp) (by simp [keL]) (by simp))
    · rw [so_eq]
      revert g3
      cases frN A <;> exact fun q => q
    · have mk0 : MK (S1.so 13 0 (S1 13 0)) := by rw [so_self]; exact mk
      exact mk0.ag g2 (by decide) rfl
    · obtain ⟨β, q⟩ := h79
      rw [so_eq]
      exact ⟨β, g2.mB q (by decide)⟩
    · obtain ⟨β, q⟩ := h62
      rw [so_eq]
      exact ⟨β, g2.mB q (by decide)⟩
theorem QM_key390 {kd : Nat} (X : Cx G F W) (h : isM W) (hmm : isMm W) (hp : isMp W) (hn : isMn W) (mk : MK S) (h79 : ∃ β, mB (S 13 0) 79 β) (h62 : ∃ β, mB (S 13 0) 62 β) (M : MTx (S 13 0) bk J) (hbk : bk ≤ 1) (Y : JX J) (h0 : 0 < J.1) (hk : kd ≤ 2) (hL : kyL J kd = true) (o22 : okN J 22 = true) (hV : ∀ k, bstN J kd = some k → KyV (kyA J kd k)) (H : hasK (S 13 0) J kd) (K : KM (S 13 0) A) : ∃ S', B_X13_key_390 G F (W.ad (.o 13 0)) (Int32.ofNat bk) (Int32.ofNat kd) 1 (mem W S) = some ((ansB A J kd).1, mem W S') ∧ fr [(12, 0), (12, 1), (13, 0)] S S' ∧ agr [73] [] keL [] (S 13 0) (S' 13 0) ∧ KM (S' 13 0) (ansB A J kd).2 ∧ MK S' ∧ (∃ β, mB (S' 13 0) 79 β) ∧ ∃ β, mB (S' 13 0) 62 β := by
  have rdD : ∀ {γ : Nat → UInt8} {n : Option Nat}, (∀ d, ltB J n = some d → rdB γ 0 d.length = d) → (lnO J n).map (rdB γ 0) = ltB J n := by
    intro γ n q
    unfold lnO
    cases e : ltB J n with
    | none => rfl
    | some d => exact congrArg some (q d e)
  unfold B_X13_key_390
  rw [if_neg (by decide)]
  have h3 : kd = 0 ∨ kd = 1 ∨ kd = 2 := by omega
  rcases h3 with rfl | rfl | rfl
  · have aft := QM_after (G := G) (F := F) (S := S) (S1 := S) X h M hbk Y h0 hk hL o22 hV H K (fr.refl _ _) (agr.refl _ _ _ _ _) mk h79 h62
    rw [bst_0] at aft
    have eA : ltB J (fd J 24) = some (lB J (fd J 24)) := lB_of (show (ltB J (fd J 24)).isSome = true from hL)
    have f99 : (S 13 0).f 99 = (Int32.ofNat (lB J (fd J 24)).length) := by
      have := H.1.1
      rw [this]
      show oLn (lnO J (fd J 24)) = _
      unfold lnO
      rw [eA]
      rfl
    have le := ltB_le Y eA
    have x1 : (Int32.ofNat (lB J (fd J 24)).length) < (1 : Int32) ↔ (lB J (fd J 24)).length < 1 := n_lt (b := 1) (by omega) (by omega)
    have x2 : (128 : Int32) < (Int32.ofNat (lB J (fd J 24)).length) ↔ 128 < (lB J (fd J 24)).length := n_lt (a := 128) (by omega) (by omega)
    have iL : inL (lB J (fd J 24)) 1 128 = true ↔ 1 ≤ (lB J (fd J 24)).length ∧ (lB J (fd J 24)).length ≤ 128 := by
      unfold inL
      rw [Bool.and_eq_true, decide_eq_true_iff, decide_eq_true_iff]
    rw [if_pos (show (Int32.ofNat 0) = (0 : Int32) from rfl), h.gI 99 rfl, bO_s, f99]
    by_cases c1 : (lB J (fd J 24)).length < 1
    · rw [if_neg (show ¬ inL (lB J (fd J 24)) 1 128 = true from fun q => by have := iL.mp q; omega), if_neg (by simp)] at aft
      rw [if_pos (x1.mpr c1)]
      exact aft
    rw [if_neg (fun q => c1 (x1.mp q)), bO_s]
    by_cases c2 : 128 < (lB J (fd J 24)).length
    · rw [if_neg (show ¬ inL (lB J (fd J 24)) 1 128 = true from fun q => by have := iL.mp q; omega), if_neg (by simp)] at aft
      rw [if_pos (x2.mpr c2)]
      exact aft
    rw [if_neg (fun q => c2 (x2.mp q))]
    rw [if_pos (iL.mpr (by omega)), if_pos (by rfl)] at aft
    exact aft
  · obtain ⟨l1, l2, l3⟩ := kyL_1 hL
    obtain ⟨⟨f99, γa, ba, ra⟩, _, z1, _, _⟩ := id H
    obtain ⟨⟨f100, γb, bb, rb⟩, f101, γc, bc, rc⟩ := z1 (by decide)
    have eA : ltB J (fd J 25) = some (lB J (fd J 25)) := lB_of l1
    have eB : ltB J (fd J 26) = some (lB J (fd J 26)) := lB_of l2
    have f99 : (S 13 0).f 99 = (Int32.ofNat (lB J (fd J 25)).length) := by rw [f99]; show oLn (lnO J (fd J 25)) = _; unfold lnO; rw [eA]; rfl
    have f100 : (S 13 0).f 100 = (Int32.ofNat (lB J (fd J 26)).length) := by rw [f100]; show oLn (lnO J (fd J 26)) = _; unfold lnO; rw [eB]; rfl
    have a1 := ltB_le Y eA
    have a2 := ltB_le Y eB
    obtain ⟨S1, q1, q2, q3⟩ := QM_isRsa (G := G) (F := F) (S := S) (c := lnO J (fd J 23)) X h hmm ba bb bc f99 f100 f101 (by omega) (by omega) (fun n hn => by
      unfold lnO at hn
      cases e : ltB J (fd J 23) with
      | none => rw [e] at hn; exact absurd hn (by simp)
      | some d =>
        rw [e] at hn
        have := ltB_le Y e
        have hn : d.length = n := Option.some.inj hn
        omega)
    rw [show rdB γa 0 (lB J (fd J 25)).length = lB J (fd J 25) from ra _ eA, show rdB γb 0 (lB J (fd J 26)).length = lB J (fd J 26) from rb _ eB, rdD rc] at q1
    have aft := QM_after (G := G) (F := F) (S := S) (S1 := S1) X h M hbk Y h0 hk hL o22 hV H K (q2.mono (by simp)) (q3.mono (by simp) (by simp) (by simp) (by simp)) (mk.rsa q2 q3) (by obtain ⟨β, q⟩ := h79; exact ⟨β, q3.mB q (by decide)⟩) (by obtain ⟨β, q⟩ := h62; exact ⟨β, q3.mB q (by decide)⟩)
    rw [bst_1 hL] at aft
    rw [if_neg (show ¬ (Int32.ofNat 1) = (0 : Int32) by decide), if_pos (show (Int32.ofNat 1) = (1 : Int32) from rfl), rcv_m h.lo, bO_s, q1, bP_s]
    by_cases c : rsM (lB J (fd J 25)) (lB J (fd J 26)) (ltB J (fd J 23)) = true
    · rw [if_pos c, if_pos (by rfl)] at aft
      rw [if_pos c, if_neg (by decide)]
      exact aft
    · rw [if_neg c, if_neg (by simp)] at aft
      rw [if_neg c, if_pos rfl]
      exact aft
  · obtain ⟨l1, l2, l3⟩ := kyL_2 hL
    obtain ⟨⟨f99, γa, ba, ra⟩, _, z1, _, _⟩ := id H
    obtain ⟨⟨f100, γb, bb, rb⟩, f101, γc, bc, rc⟩ := z1 (by decide)
    have eA : ltB J (fd J 29) = some (lB J (fd J 29)) := lB_of l1
    have eB : ltB J (fd J 30) = some (lB J (fd J 30)) := lB_of l2
    have f99 : (S 13 0).f 99 = (Int32.ofNat (lB J (fd J 29)).length) := by rw [f99]; show oLn (lnO J (fd J 29)) = _; unfold lnO; rw [eA]; rfl
    have f100 : (S 13 0).f 100 = (Int32.ofNat (lB J (fd J 30)).length) := by rw [f100]; show oLn (lnO J (fd J 30)) = _; unfold lnO; rw [eB]; rfl
    have a1 := ltB_le Y eA
    have a2 := ltB_le Y eB
    obtain ⟨S1, q1, q2, q3, q4, q5, q6⟩ := QM_isEc (G := G) (F := F) (S := S) (c := lnO J (fd J 23)) X h hp hn mk h79 h62 ba bb bc f99 f100 f101 (by omega) (by omega) (fun n hn => by
      unfold lnO at hn
      cases e : ltB J (fd J 23) with
      | none => rw [e] at hn; exact absurd hn (by simp)
      | some d =>
        rw [e] at hn
        have := ltB_le Y e
        have hn : d.length = n := Option.some.inj hn
        omega)
    rw [show rdB γa 0 (lB J (fd J 29)).length = lB J (fd J 29) from ra _ eA, show rdB γb 0 (lB J (fd J 30)).length = lB J (fd J 30) from rb _ eB, rdD rc] at q1
    have aft := QM_after (G := G) (F := F) (S := S) (S1 := S1) X h M hbk Y h0 hk hL o22 hV H K (q2.mono (by simp)) (q3.mono (by simp) (by simp) (by simp [ECL]) (by simp)) q4 q5 q6
    rw [bst_2 hL] at aft
    rw [if_neg (show ¬ (Int32.ofNat 2) = (0 : Int32) by decide), if_neg (show ¬ (Int32.ofNat 2) = (1 : Int32) by decide), rcv_m h.lo, bO_s, q1, bP_s]
    by_cases c : ecM (lB J (fd J 29)) (lB J (fd J 30)) (ltB J (fd J 23)) = true
    · rw [if_pos c, if_pos (by rfl)] at aft
      rw [if_pos c, if_neg (by decide)]
      exact aft
    · rw [if_neg c, if_neg (by simp)] at aft
      rw [if_neg c, if_pos rfl]
      exact aft
end M39
