/-! A KEY OF RSA OR OF THE CURVE: the model -/
def oLn (c : Option Nat) : Int32 := match c with
  | none => -1
  | some n => (Int32.ofNat n)
def rsM (A B : List UInt8) (c : Option (List UInt8)) : Bool := rsG A B && (match c with
  | none => true
  | some C => rsC A B C)
theorem rsG_t {A B : List UInt8} (h : rsG A B = true) : (64 ≤ A.length ∧ A.length ≤ 128 ∧ suitsF A = true ∧ 1 ≤ B.length ∧ B.length ≤ 128 ∧ suitsF B = true ∧ belF B A = true) := by
  obtain ⟨a, b, c, d, e⟩ := of_decide_eq_true h
  unfold inL at a c
  rw [Bool.and_eq_true, decide_eq_true_iff, decide_eq_true_iff] at a c
  exact ⟨a.1, a.2, b, c.1, c.2, d, e⟩
section MRS2
variable {W : WR} {G : mG} {F : Nat} {S : ST}
theorem QM_rsa136 {nA nB : Nat} {c : Option Nat} {βa βb βc : Nat → UInt8} (X : Cx G F W) (h : isM W) (hmm : isMm W) (ba : mB (S 13 0) 96 βa) (bb : mB (S 13 0) 97 βb) (bc : mB (S 13 0) 98 βc) (h1 : (S 13 0).f 99 = (Int32.ofNat nA)) (h2 : (S 13 0).f 100 = (Int32.ofNat nB)) (h3 : (S 13 0).f 101 = oLn c) (lc : ∀ n, c = some n → n ≤ 8200) (g : Bool) (hg : rsG (rdB βa 0 nA) (rdB βb 0 nB) = g) : ∃ S', B_X13_isRsa_136 G F (W.ad (.o 13 0)) (if g = true then 1 else 0) (mem W S) = some (if rsM (rdB βa 0 nA) (rdB βb 0 nB) (c.map (rdB βc 0)) = true then 1 else 0, mem W S') ∧ fr [(12, 0), (13, 0)] S S' ∧ agr [] [] [60, 61] [] (S 13 0) (S' 13 0) := by
  unfold B_X13_isRsa_136 rsM
  rw [hg]
  cases g with
  | false =>
    rw [if_neg Bool.false_ne_true, if_pos rfl, rz0, Bool.false_and, if_neg Bool.false_ne_true]
    exact ⟨S, rfl, fr.refl _ _, agr.refl _ _ _ _ _⟩
  | true =>
    obtain ⟨r1, r2, r3, r4, r5, r6, r7⟩ := rsG_t hg
    rw [rdB_len] at r1 r2 r4 r5
    rw [if_pos rfl, if_neg (by decide), h.gI 101 rfl, bO_s, h3, Bool.true_and]
    cases c with
    | none =>
      rw [if_neg (show ¬ (0 : Int32) ≤ oLn none by decide), rz1]
      exact ⟨S, rfl, fr.refl _ _, agr.refl _ _ _ _ _⟩
    | some nC =>
      have hc := lc nC rfl
      have stay : ∀ (P : Option (Int32 × mM)), P = some (0, mem W S) → rsC (rdB βa 0 nA) (rdB βb 0 nB) (rdB βc 0 nC) = false → ∃ S', P = some (if rsC (rdB βa 0 nA) (rdB βb 0 nB) (rdB βc 0 nC) = true then 1 else 0, mem W S') ∧ fr [(12, 0), (13, 0)] S S' ∧ agr [] [] [60, 61] [] (S 13 0) (S' 13 0) := fun P e1 e2 => ⟨S, by rw [e2, if_neg Bool.false_ne_true]; exact e1, fr.refl _ _, agr.refl _ _ _ _ _⟩
      have no : ¬ (inL (rdB βc 0 nC) 1 128 = true ∧ gN (rdB βc 0 nC) 0 ≠ 0 ∧ belF (rdB βc 0 nC) (rdB βa 0 nA) = true) → rsC (rdB βa 0 nA) (rdB βb 0 nB) (rdB βc 0 nC) = false := fun q => by
        unfold rsC
        rw [decide_eq_false q, Bool.false_and]
      show ∃ S', _ = some (if rsC (rdB βa 0 nA) (rdB βb 0 nB) (rdB βc 0 nC) = true then 1 else 0, mem W S') ∧ _
      rw [if_pos (show (0 : Int32) ≤ oLn (some nC) from (n_le (a := 0) (b := nC) (by omega) (by omega)).mpr (Nat.zero_le _)), bO_s]
      by_cases z : nC = 0
      · rw [if_pos (show oLn (some nC) = 0 by rw [z]; rfl), rz0]
        exact stay _ rfl (no (fun q => by
          have := q.1
          unfold inL at this
          rw [rdB_len, Bool.and_eq_true, decide_eq_true_iff] at this
          omega))
      rw [if_neg (show ¬ oLn (some nC) = 0 from fun q => z ((n_eq (b := 0) (by omega) (by omega)).mp q)), h.gR 98 rfl (by decide), bO_s]
      have a0 := h.aB (G := G) (S := S) (k := 98) (j := 0) rfl bc (by decide) (by decide)
      have a0 : aI G (mem W S) 1 (W.ad (.a 13 0 98)) 0 = _ := a0
      rw [a0, bO_s]
      have q0 := sb_z (βc 0)
      have e0 : gN (rdB βc 0 nC) 0 = (βc 0).toNat := by rw [gN_rdB (by omega)]
      by_cases z0 : (βc 0).toNat = 0
      · rw [if_pos (q0.1.mpr z0), rz0]
        exact stay _ rfl (no (fun q => q.2.1 (by rw [e0]; exact z0)))
      rw [if_neg (fun q => z0 (q0.1.mp q)), bO_s, bO_s, h.gR 96 rfl (by decide), bO_s, h.gI 99 rfl, bO_s, h1, rcv_m h.lo, bO_s]
      show ∃ S', bP (P_X13_isLessThan G F _ _ (Int32.ofNat nC) _ _ _) _ = _ ∧ _
      rw [QM_isLess (n := nC) (m := nA) X h rfl rfl (by decide) (by decide) (by show nC ≤ 8200; omega) (by show nA ≤ 8200; omega) bc ba, bP_s]
      by_cases z1 : belF (rdB βc 0 nC) (rdB βa 0 nA) = true
      · rw [if_pos z1, if_neg (by decide)]
        have l := belF_le z1
        rw [rdB_len, rdB_len] at l
        obtain ⟨S', p1, p2, p3⟩ := QM_rsaPair (G := G) (F := F) (S := S) (nC := nC) X h hmm ba bb bc h1 h2 h3 (by omega) (by omega) (by omega) (by omega) r3
        refine ⟨S', ?_, p2, p3⟩
        refine Eq.trans p1 ?_
        unfold rsC
        rw [decide_eq_true ⟨by unfold inL; rw [rdB_len, decide_eq_true (by omega), decide_eq_true (by omega)]; rfl, by rw [e0]; exact z0, z1⟩, Bool.true_and]
      · rw [if_neg z1, if_pos rfl, rz0]
        exact stay _ rfl (no (fun q => z1 q.2.2))
theorem QM_isRsa {nA nB : Nat} {c : Option Nat} {βa βb βc : Nat → UInt8} (X : Cx G F W) (h : isM W) (hmm : isMm W) (ba : mB (S 13 0) 96 βa) (bb : mB (S 13 0) 97 βb) (bc : mB (S 13 0) 98 βc) (h1 : (S 13 0).f 99 = (Int32.ofNat nA)) (h2 : (S 13 0).f 100 = (Int32.ofNat nB)) (h3 : (S 13 0).f 101 = oLn c) (lA : nA ≤ 8200) (lB : nB ≤ 8200) (lc : ∀ n, c = some n → n ≤ 8200) : ∃ S', P_X13_isRsa G F (W.ad (.o 13 0)) (mem W S) = some (if rsM (rdB βa 0 nA) (rdB βb 0 nB) (c.map (rdB βc 0)) = true then 1 else 0, mem W S') ∧ fr [(12, 0), (13, 0)] S S' ∧ agr [] [] [60, 61] [] (S 13 0) (S' 13 0) := by
  have go : ∀ g : Bool, rsG (rdB βa 0 nA) (rdB βb 0 nB) = g → _ := fun g hg => QM_rsa136 (G := G) (F := F) (S := S) (c := c) X h hmm ba bb bc h1 h2 h3 lc g hg
  have t1 := fun hg => go true hg
  have t0 := fun hg => go false hg
  simp only [if_pos] at t1
  simp only [if_neg Bool.false_ne_true] at t0
  have bad : ¬ (inL (rdB βa 0 nA) 64 128 = true ∧ suitsF (rdB βa 0 nA) = true ∧ inL (rdB βb 0 nB) 1 128 = true ∧ suitsF (rdB βb 0 nB) = true ∧ belF (rdB βb 0 nB) (rdB βa 0 nA) = true) → rsG (rdB βa 0 nA) (rdB βb 0 nB) = false := fun q => decide_eq_false q
  have iA : inL (rdB βa 0 nA) 64 128 = true ↔ 64 ≤ nA ∧ nA ≤ 128 := by
    unfold inL
    rw [rdB_len, Bool.and_eq_true, decide_eq_true_iff, decide_eq_true_iff]
  have iB : inL (rdB βb 0 nB) 1 128 = true ↔ 1 ≤ nB ∧ nB ≤ 128 := by
    unfold inL
    rw [rdB_len, Bool.and_eq_true, decide_eq_true_iff, decide_eq_true_iff]
  have sA : suitsF (rdB βa 0 nA) = true ↔ (1 ≤ nA ∧ nA ≤ 128 ∧ gN (rdB βa 0 nA) 0 ≠ 0 ∧ gN (rdB βa 0 nA) (nA - 1) % 2 = 1 ∧ (1 < nA ∨ 1 < gN (rdB βa 0 nA) 0)) := by
    unfold suitsF
    rw [decide_eq_true_iff, rdB_len]
  have sB_ : suitsF (rdB βb 0 nB) = true ↔ (1 ≤ nB ∧ nB ≤ 128 ∧ gN (rdB βb 0 nB) 0 ≠ 0 ∧ gN (rdB βb 0 nB) (nB - 1) % 2 = 1 ∧ (1 < nB ∨ 1 < gN (rdB βb 0 nB) 0)) := by
    unfold suitsF
    rw [decide_eq_true_iff, rdB_len]
  have z49 : rsG (rdB βa 0 nA) (rdB βb 0 nB) = false → ∃ S', B_X13_isRsa_49 G F (W.ad (.o 13 0)) 0 (mem W S) = some (if rsM (rdB βa 0 nA) (rdB βb 0 nB) (c.map (rdB βc 0)) = true then 1 else 0, mem W S') ∧ fr [(12, 0), (13, 0)] S S' ∧ agr [] [] [60, 61] [] (S 13 0) (S' 13 0) := by
    intro hg
    unfold B_X13_isRsa_49
    rw [if_pos rfl]
    exact t0 hg
  have x64 : (Int32.ofNat nA) < (64 : Int32) ↔ nA < 64 := n_lt (b := 64) (by omega) (by omega)
  have x128 : (128 : Int32) < (Int32.ofNat nA) ↔ 128 < nA := n_lt (a := 128) (by omega) (by omega)
  have x1 : (1 : Int32) < (Int32.ofNat nB) ↔ 1 < nB := n_lt (a := 1) (by omega) (by omega)
  have kB0 := (βb 0).toNat_lt
  have x3 : (Int32.ofNat (βb 0).toNat) < (3 : Int32) ↔ (βb 0).toNat < 3 := n_lt (b := 3) (by omega) (by omega)
  unfold P_X13_isRsa
  rw [h.gI 99 rfl, bO_s, h1]
  by_cases c1 : nA < 64
  · rw [if_pos (x64.mpr c1)]
    exact z49 (bad (fun q => by have := iA.mp q.1; omega))
  rw [if_neg (fun q => c1 (x64.mp q)), bO_s]
  by_cases c2 : 128 < nA
  · rw [if_pos (x128.mpr c2)]
    exact z49 (bad (fun q => by have := iA.mp q.1; omega))
  have a0 : aI G (mem W S) 1 (W.ad (.a 13 0 96)) 0 = _ := h.aB (G := G) (S := S) (k := 96) (j := 0) rfl ba (by decide) (by decide)
  have eA0 : gN (rdB βa 0 nA) 0 = (βa 0).toNat := by rw [gN_rdB (by omega)]
  have eA1 : gN (rdB βa 0 nA) (nA - 1) = (βa (nA - 1)).toNat := by rw [gN_rdB (by omega), Nat.zero_add]
  have qA0 := sb_z (βa 0)
  have qA1 := sb_z (βa (nA - 1))
  rw [if_neg (fun q => c2 (x128.mp q)), h.gR 96 rfl (by decide), bO_s, a0, bO_s]
  by_cases c3 : (βa 0).toNat = 0
  · rw [if_pos (qA0.1.mpr c3)]
    exact z49 (bad (fun q => by have := sA.mp q.2.1; omega))
  rw [if_neg (fun q => c3 (qA0.1.mp q)), bO_s, bO_s, n_subL 1 (by omega), h.aB (k := 96) (j := nA - 1) rfl ba (by show nA - 1 < 8200; omega) (by decide), bO_s]
  by_cases c4 : (βa (nA - 1)).toNat % 2 = 0
  · rw [if_pos (qA1.2.2.mpr c4)]
    exact z49 (bad (fun q => by have := sA.mp q.2.1; omega))
  rw [if_neg (fun q => c4 (qA1.2.2.mp q))]
  have tA : suitsF (rdB βa 0 nA) = true := sA.mpr ⟨by omega, by omega, by omega, by omega, by omega⟩
  unfold B_X13_isRsa_49
  rw [if_neg (by decide), h.gI 100 rfl, bO_s, h2]
  by_cases c5 : nB = 0
  · rw [if_pos (show (Int32.ofNat nB) ≤ 0 by rw [c5]; decide)]
    exact t0 (bad (fun q => by have := iB.mp q.2.2.1; omega))
  have b0 : aI G (mem W S) 1 (W.ad (.a 13 0 97)) 0 = _ := h.aB (G := G) (S := S) (k := 97) (j := 0) rfl bb (by decide) (by decide)
  have eB0 : gN (rdB βb 0 nB) 0 = (βb 0).toNat := by rw [gN_rdB (by omega)]
  have eB1 : gN (rdB βb 0 nB) (nB - 1) = (βb (nB - 1)).toNat := by rw [gN_rdB (by omega), Nat.zero_add]
  have qB0 := sb_z (βb 0)
  have qB1 := sb_z (βb (nB - 1))
  rw [if_neg (show ¬ (Int32.ofNat nB) ≤ 0 from fun q => by have := (n_le (b := 0) (by omega) (by omega)).mp q; omega), h.gR 97 rfl (by decide), bO_s, b0, bO_s]
  by_cases c6 : (βb 0).toNat = 0
  · rw [if_pos (qB0.1.mpr c6)]
    exact t0 (bad (fun q => by have := sB_.mp q.2.2.2.1; omega))
  rw [if_neg (fun q => c6 (qB0.1.mp q)), bO_s, bO_s, n_subL 1 (by omega), h.aB (k := 97) (j := nB - 1) rfl bb (by show nB - 1 < 8200; omega) (by decide), bO_s]
  by_cases c7 : (βb (nB - 1)).toNat % 2 = 0
  · rw [if_pos (qB1.2.2.mpr c7)]
    exact t0 (bad (fun q => by have := sB_.mp q.2.2.2.1; omega))
  rw [if_neg (fun q => c7 (qB1.2.2.mp q)), bO_s]
  have e108 : (1 < nB ∨ 1 < (βb 0).toNat) → ∃ S', B_X13_isRsa_108 G F (W.ad (.o 13 0)) (mem W S) = some (if rsM (rdB βa 0 nA) (rdB βb 0 nB) (c.map (rdB βc 0)) = true then 1 else 0, mem W S') ∧ fr [(12, 0), (13, 0)] S S' ∧ agr [] [] [60, 61] [] (S 13 0) (S' 13 0) := by
    intro hb
    unfold B_X13_isRsa_108
    rw [h.gR 97 rfl (by decide), bO_s, h.gI 100 rfl, bO_s, h2, h.gR 96 rfl (by decide), bO_s, h.gI 99 rfl, bO_s, h1, rcv_m h.lo, bO_s, QM_isLess (n := nB) (m := nA) X h rfl rfl (by decide) (by decide) (by show nB ≤ 8200; omega) (by show nA ≤ 8200; omega) bb ba, bP_s]
    by_cases c8 : belF (rdB βb 0 nB) (rdB βa 0 nA) = true
    · have l := belF_le c8
      rw [rdB_len, rdB_len] at l
      rw [if_pos c8, if_neg (by decide)]
      exact t1 (decide_eq_true ⟨iA.mpr (by omega), tA, iB.mpr (by omega), sB_.mpr ⟨by omega, by omega, by omega, by omega, by omega⟩, c8⟩)
    · rw [if_neg c8, if_pos rfl]
      exact t0 (bad (fun q => c8 q.2.2.2.2))
  by_cases c9 : 1 < nB
  · rw [if_pos (x1.mpr c9)]
    exact e108 (Or.inl c9)
  · rw [if_neg (fun q => c9 (x1.mp q)), bO_s, b0, bO_s, sb_255]
    have n1 : nB = 1 := by omega
    by_cases c10 : (βb 0).toNat < 3
    · rw [if_pos (x3.mpr c10)]
      exact t0 (bad (fun q => by
        have := sB_.mp q.2.2.2.1
        have e1 : (βb (nB - 1)).toNat = (βb 0).toNat := by rw [n1]
        omega))
    · rw [if_neg (fun q => c10 (x3.mp q))]
      exact e108 (Or.inr (by omega))
end MRS2
