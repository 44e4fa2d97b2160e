/-! A KEY OF THE CURVE, AND WHAT A KEY'S TEXT SAYS: the model -/
def ecM (A B : List UInt8) (c : Option (List UInt8)) : Bool := decide (A.length = 32 ∧ B.length = 32) && (match c with
  | none => onC (beN A) (beN B)
  | some C => decide (C.length = 32) && (onC (beN A) (beN B) && pairF C (A ++ B)))
section MEC2
variable {W : WR} {G : mG} {F : Nat} {S : ST}
theorem QM_isEc {nA nB : Nat} {c : Option Nat} {βa βb βc : Nat → UInt8} (X : Cx G F W) (h : isM W) (hp : isMp W) (hn : isMn W) (K : MK S) (h79 : ∃ β, mB (S 13 0) 79 β) (h62 : ∃ β, mB (S 13 0) 62 β) (ba : mB (S 13 0) 96 βa) (bb : mB (S 13 0) 97 βb) (bc : mB (S 13 0) 98 βc) (h1 : (S 13 0).f 99 = (Int32.ofNat nA)) (h2 : (S 13 0).f 100 = (Int32.ofNat nB)) (h3 : (S 13 0).f 101 = oLn c) (lA : nA ≤ 8200) (lB : nB ≤ 8200) (lc : ∀ n, c = some n → n ≤ 8200) : ∃ S', P_X13_isEc G F (W.ad (.o 13 0)) (mem W S) = some (if ecM (rdB βa 0 nA) (rdB βb 0 nB) (c.map (rdB βc 0)) = true then 1 else 0, mem W S') ∧ fr [(12, 1), (13, 0)] S S' ∧ agr [73] [] ECL [] (S 13 0) (S' 13 0) ∧ MK S' ∧ (∃ β, mB (S' 13 0) 79 β) ∧ ∃ β, mB (S' 13 0) 62 β := by
  have stay : ∀ (P : Option (Int32 × mM)), P = some (0, mem W S) → ecM (rdB βa 0 nA) (rdB βb 0 nB) (c.map (rdB βc 0)) = false → ∃ S', P = some (if ecM (rdB βa 0 nA) (rdB βb 0 nB) (c.map (rdB βc 0)) = true then 1 else 0, mem W S') ∧ fr [(12, 1), (13, 0)] S S' ∧ agr [73] [] ECL [] (S 13 0) (S' 13 0) ∧ MK S' ∧ (∃ β, mB (S' 13 0) 79 β) ∧ ∃ β, mB (S' 13 0) 62 β := fun P e1 e2 => ⟨S, by rw [e2, if_neg Bool.false_ne_true]; exact e1, fr.refl _ _, agr.refl _ _ _ _ _, K, h79, h62⟩
  have x1 : (Int32.ofNat nA) = (32 : Int32) ↔ nA = 32 := n_eq (b := 32) (by omega) (by omega)
  have x2 : (Int32.ofNat nB) = (32 : Int32) ↔ nB = 32 := n_eq (b := 32) (by omega) (by omega)
  unfold P_X13_isEc
  rw [h.gI 99 rfl, bO_s, h1]
  by_cases c1 : nA = 32
  · rw [if_pos (x1.mpr c1), h.gI 100 rfl, bO_s, h2]
    by_cases c2 : nB = 32
    · rw [if_pos (x2.mpr c2), h.gI 101 rfl, bO_s, h3]
      obtain ⟨S', q1, q2⟩ := QM_isEc36 (G := G) (F := F) (S := S) pr_p X h hp hn K h79 h62 ba bb bc h3
      have d : decide ((rdB βa 0 nA).length = 32 ∧ (rdB βb 0 nB).length = 32) = true := decide_eq_true ⟨by rw [rdB_len]; exact c1, by rw [rdB_len]; exact c2⟩
      cases c with
      | none =>
        rw [if_pos (show oLn none < 0 by decide)]
        refine ⟨S', ?_, q2⟩
        rw [q1]
        unfold ecM
        rw [d, Bool.true_and]
        show _ = some (if onC (beN (rdB βa 0 nA)) (beN (rdB βb 0 nB)) = true then 1 else 0, mem W S')
        rw [c1, c2]
        by_cases z : onC (beN (rdB βa 0 32)) (beN (rdB βb 0 32)) = true
        · rw [if_pos z, if_pos ⟨z, fun q => absurd q (by decide)⟩]
        · rw [if_neg z, if_neg (fun q => z q.1)]
      | some nC =>
        have hc := lc nC rfl
        have x3 : oLn (some nC) = (32 : Int32) ↔ nC = 32 := n_eq (b := 32) (by omega) (by omega)
        have p0 : (0 : Int32) ≤ oLn (some nC) := (n_le (a := 0) (b := nC) (by omega) (by omega)).mpr (Nat.zero_le _)
        rw [if_neg (show ¬ oLn (some nC) < 0 from nn (by omega)), bO_s]
        by_cases c3 : nC = 32
        · rw [if_pos (x3.mpr c3)]
          refine ⟨S', ?_, q2⟩
          rw [q1]
          unfold ecM
          rw [d, Bool.true_and]
          show _ = some (if (decide ((rdB βc 0 nC).length = 32) && (onC (beN (rdB βa 0 nA)) (beN (rdB βb 0 nB)) && pairF (rdB βc 0 nC) (rdB βa 0 nA ++ rdB βb 0 nB))) = true then 1 else 0, mem W S')
          rw [decide_eq_true (by rw [rdB_len]; exact c3), Bool.true_and, c1, c2, c3]
          by_cases z : onC (beN (rdB βa 0 32)) (beN (rdB βb 0 32)) = true ∧ pairF (rdB βc 0 32) (rdB βa 0 32 ++ rdB βb 0 32) = true
          · rw [if_pos ⟨z.1, fun _ => z.2⟩, if_pos (by rw [Bool.and_eq_true]; exact z)]
          · rw [if_neg (fun q => z ⟨q.1, q.2 (by rw [← c3]; exact p0)⟩), if_neg (by rw [Bool.and_eq_true]; exact z)]
        · rw [if_neg (fun q => c3 (x3.mp q)), rz0]
          refine stay _ rfl ?_
          unfold ecM
          rw [d, Bool.true_and]
          show (decide ((rdB βc 0 nC).length = 32) && _) = false
          rw [decide_eq_false (by rw [rdB_len]; exact c3), Bool.false_and]
    · rw [if_neg (fun q => c2 (x2.mp q)), rz0]
      refine stay _ rfl ?_
      unfold ecM
      rw [decide_eq_false (fun q => c2 (by rw [← q.2, rdB_len])), Bool.false_and]
  · rw [if_neg (fun q => c1 (x1.mp q)), rz0]
    refine stay _ rfl ?_
    unfold ecM
    rw [decide_eq_false (fun q => c1 (by rw [← q.1, rdB_len])), Bool.false_and]
/-- bytes in letters, said of the model's object -/
theorem oM_bytesOf {bk j kt : Nat} {J : JT} {o : Ob} (X : Cx G F W) (h : isM W) (M : MTx o bk J) (hbk : bk ≤ 1) (Y : JX J) (hj : j < 124) (hv : 0 < J.1) (qt : (kdA 13)[kt]? = some 1) (nt : kt ∉ [6, 7, 8, 9, 10, 11, 12, 13, 14, 15, 16]) (lt : mLen kt = 8200) (ht : ∃ γ, mB o kt γ) : ∃ o' γ, P_X13_bytesOf G F (W.ad (.o 13 0)) (Int32.ofNat bk) 0 (G.1 j) (W.ad (.a 13 0 kt)) (mem W (S.so 13 0 o)) = some (oLn ((ltB J (fd J j)).map List.length), mem W (S.so 13 0 o')) ∧ agr [29] [] [kt] [] o o' ∧ MTx o' bk J ∧ mB o' kt γ ∧ ∀ d, ltB J (fd J j) = some d → rdB γ 0 d.length = d := by
  obtain ⟨γ0, ht⟩ := ht
  obtain ⟨γ, v, q1, q2⟩ := QM_bytesOf (G := G) (F := F) (S := S.so 13 0 o) (j := j) (v := 0) (kt := kt) X h (by rw [so_eq]; exact M) hbk Y hj hv qt (fun e => nt (by rw [e]; simp)) lt (by rw [so_eq]; exact ht)
  rw [so_eq, so_so] at q1
  have a : agr [29] [] [kt] [] o (un o kt γ v) := by
    unfold un
    exact (agr_sA (by simp)).trans (agr_sf (by simp))
  refine ⟨un o kt γ v, γ, ?_, a, M.agr a (fun k hk e => nt (by simp at e; rw [← e]; exact hk)), ?_, fun d hd => by rw [q2 d hd]; exact rdB_wrB _ _ _⟩
  · have q1 : P_X13_bytesOf G F (W.ad (.o 13 0)) (Int32.ofNat bk) 0 (G.1 j) (W.ad (.a 13 0 kt)) (mem W (S.so 13 0 o)) = _ := q1
    rw [q1]
    cases ltB J (fN J (str j) (some 0)) <;> rfl
  · show ((o.sA kt (fun j => sb (γ j))).sf 29 v).a kt = _
    exact mB_sA o kt γ
end MEC2
theorem st_84 : str 84 = str 16 ∧ str 85 = str 17 ∧ str 86 = str 18 ∧ str 87 = str 19 ∧ str 88 = str 20 ∧ str 89 = str 21 ∧ str 90 = str 22 ∧ str 91 = str 27 ∧ str 92 = str 28 := by decide +kernel
theorem st_93 : str 93 = str 24 ∧ str 94 = str 25 ∧ str 95 = str 29 ∧ str 96 = str 26 ∧ str 97 = str 30 ∧ str 98 = str 23 ∧ str 99 = str 31 ∧ str 100 = str 32 := by decide +kernel
