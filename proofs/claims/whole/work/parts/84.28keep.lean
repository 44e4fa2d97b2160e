/-! A KEY IS KEPT: the model -/
def wdJ (J : JT) (j : Nat) : Option (List UInt8) := match fd J j with
  | some i => some (seg J.2.2 (J.2.1 6 i) (J.2.1 7 i))
  | none => none
def wO (α : Nat → UInt8) (p : Nat) (w : Option (List UInt8)) : Nat → UInt8 := match w with
  | none => α
  | some d => wrB α p d
section MKP
variable {W : WR} {G : mG} {F : Nat} {S : ST} {bk : Nat} {J : JT} {o : Ob}
theorem oM_sN (h : isM W) {k j : Nat} {v : Int32} (q : (kdA 13)[k]? = some 0) (hj : j < mLen k) (hl : mLen k < 2 ^ 31) : sI (mem W (S.so 13 0 o)) 0 (W.ad (.a 13 0 k)) (Int32.ofNat j) v = some (mem W (S.so 13 0 (o.sA k (upd (o.a k) j v)))) := by
  rw [h.sN q hj hl, so_eq, so_so]
theorem oM_mv {k1 k2 p1 p2 cnt : Nat} {β1 β2 : Nat → UInt8} (X : Cx G F W) (h : isM W) (q1 : (kdA 13)[k1]? = some 1) (q2 : (kdA 13)[k2]? = some 1) (hne : k1 ≠ k2) (l1 : mLen k1 < 2 ^ 30) (l2 : mLen k2 < 2 ^ 30) (b1 : p1 + cnt ≤ mLen k1) (b2 : p2 + cnt ≤ mLen k2) (hc : cnt < 100000) (hb1 : mB o k1 β1) (hb2 : mB o k2 β2) : P_X13_move G F (W.ad (.a 13 0 k1)) (Int32.ofNat p1) (W.ad (.a 13 0 k2)) (Int32.ofNat p2) (Int32.ofNat cnt) (mem W (S.so 13 0 o)) = some (mem W (S.so 13 0 (o.sA k2 (fun j => sb (wrB β2 p2 (rdB β1 p1 cnt) j))))) := by
  rw [QM_move X h q1 q2 hne l1 l2 b1 b2 hc (by rw [so_eq]; exact hb1) (by rw [so_eq]; exact hb2), so_eq, so_so]
theorem wdJ_le {j : Nat} {d : List UInt8} (Y : JX J) (h : wdJ J j = some d) : d.length ≤ 8192 := by
  have Y1 := Y.1
  unfold wdJ at h
  split at h
  · rw [← Option.some.inj h]
    unfold seg
    rw [List.length_take, List.length_drop]
    omega
  · exact absurd h (by simp)
theorem oM_keepWord {j kt p : Nat} {α : Nat → UInt8} (X : Cx G F W) (h : isM W) (M : MTx o bk J) (hbk : bk ≤ 1) (Y : JX J) (qt : (kdA 13)[kt]? = some 1) (nt : kt ≠ 15) (lt : mLen kt = 131200) (hp : p + 8200 ≤ 131200) (ht : mB o kt α) : P_X13_keepWord G F (W.ad (.o 13 0)) (Int32.ofNat bk) (oI (fd J j)) (W.ad (.a 13 0 kt)) (Int32.ofNat p) (mem W (S.so 13 0 o)) = some (oLn ((wdJ J j).map List.length), mem W (S.so 13 0 (o.sA kt (fun q => sb (wO α p (wdJ J j) q))))) := by
  have Y1 := Y.1
  have Y2 := Y.2.1
  unfold P_X13_keepWord wdJ
  cases e : fd J j with
  | none =>
    rw [if_neg (show ¬ (0 : Int32) ≤ oI none by decide)]
    show _ = some (-1, mem W (S.so 13 0 (o.sA kt (fun q => sb (α q)))))
    rw [sA_self ht]
  | some i =>
    have hi := fN_lt e
    obtain ⟨m1, m2, β, m3, m4⟩ := M
    obtain ⟨a1, a2, a3, a4, a5, a6, a7, a8, a9⟩ := m2 i (Nat.zero_le _) hi
    have y := Y.2.2 i hi
    have jl : 600 * bk + i < 1200 := by omega
    have e6 : (600 : Int32) * (Int32.ofNat bk) + oI (some i) = (Int32.ofNat (600 * bk + i)) := m600
    have es : rdB β (8200 * bk + J.2.1 6 i) (J.2.1 7 i) = seg J.2.2 (J.2.1 6 i) (J.2.1 7 i) := by rw [← m4, seg_rd (by omega)]
    have ls : (seg J.2.2 (J.2.1 6 i) (J.2.1 7 i)).length = J.2.1 7 i := seg_len (by omega)
    have l15 : mLen 15 = 16400 := by decide
    rw [if_pos (show (0 : Int32) ≤ oI (some i) from (n_le (a := 0) (b := i) (by omega) (by omega)).mpr (Nat.zero_le _)), h.gR 15 rfl (by decide), bO_s, mvr h 11, bO_s, e6, mva h 11 _ jl, bO_s, mvr h 12, bO_s, mva h 12 _ jl, bO_s, so_eq, a6, a7, oM_mv X h rfl qt (fun q => nt q.symm) (by decide) (by rw [lt]; decide) (by rw [l15]; omega) (by rw [lt]; omega) (by omega) m3 ht, bO_s, mvr h 12, bO_s, mva h 12 _ jl, bO_s, so_eq, es]
    have n12 : (12 : Nat) ≠ kt := fun q => by rw [← q] at qt; exact absurd qt (by decide)
    rw [sA_a' n12, a7]
    show _ = some ((Int32.ofNat (seg J.2.2 (J.2.1 6 i) (J.2.1 7 i)).length), _)
    rw [ls]
    rfl
def kpK (o : Ob) (J : JT) (k kd nA nB nC : Nat) (γa γb γc α85 α87 α89 α92 α94 : Nat → UInt8) : Ob := (((((((((((((o.sA 83 (upd (o.a 83) k 1)).sA 84 (upd (o.a 84) k (Int32.ofNat kd))).sA 86 (upd (o.a 86) k (Int32.ofNat nA))).sA 85 (fun q => sb (wrB α85 (128 * k) (rdB γa 0 nA) q))).sA 88 (upd (o.a 88) k (Int32.ofNat nB))).sA 87 (fun q => sb (wrB α87 (128 * k) (rdB γb 0 nB) q))).sA 90 (upd (o.a 90) k (Int32.ofNat nC))).sA 89 (fun q => sb (wrB α89 (128 * k) (rdB γc 0 nC) q))).sA 91 (upd (o.a 91) k (Int32.ofNat (usN J)))).sA 92 (fun q => sb (wO α92 (8200 * k) (wdJ J 20) q))).sA 93 (upd (o.a 93) k (oLn ((wdJ J 20).map List.length)))).sA 94 (fun q => sb (wO α94 (8200 * k) (wdJ J 22) q))).sA 95 (upd (o.a 95) k (oLn ((wdJ J 22).map List.length))))
theorem kpK_83 {k kd nA nB nC : Nat} {γa γb γc α85 α87 α89 α92 α94 : Nat → UInt8} : (kpK o J k kd nA nB nC γa γb γc α85 α87 α89 α92 α94).a 83 = (upd (o.a 83) k 1) := by
  unfold kpK
  rw [sA_a' (by decide), sA_a' (by decide), sA_a' (by decide), sA_a' (by decide), sA_a' (by decide), sA_a' (by decide), sA_a' (by decide), sA_a' (by decide), sA_a' (by decide), sA_a' (by decide), sA_a' (by decide), sA_a' (by decide), sA_a]
theorem kpK_84 {k kd nA nB nC : Nat} {γa γb γc α85 α87 α89 α92 α94 : Nat → UInt8} : (kpK o J k kd nA nB nC γa γb γc α85 α87 α89 α92 α94).a 84 = (upd (o.a 84) k (Int32.ofNat kd)) := by
  unfold kpK
  rw [sA_a' (by decide), sA_a' (by decide), sA_a' (by decide), sA_a' (by decide), sA_a' (by decide), sA_a' (by decide), sA_a' (by decide), sA_a' (by decide), sA_a' (by decide), sA_a' (by decide), sA_a' (by decide), sA_a]
theorem kpK_86 {k kd nA nB nC : Nat} {γa γb γc α85 α87 α89 α92 α94 : Nat → UInt8} : (kpK o J k kd nA nB nC γa γb γc α85 α87 α89 α92 α94).a 86 = (upd (o.a 86) k (Int32.ofNat nA)) := by
  unfold kpK
  rw [sA_a' (by decide), sA_a' (by decide), sA_a' (by decide), sA_a' (by decide), sA_a' (by decide), sA_a' (by decide), sA_a' (by decide), sA_a' (by decide), sA_a' (by decide), sA_a' (by decide), sA_a]
theorem kpK_85 {k kd nA nB nC : Nat} {γa γb γc α85 α87 α89 α92 α94 : Nat → UInt8} : (kpK o J k kd nA nB nC γa γb γc α85 α87 α89 α92 α94).a 85 = (fun q => sb (wrB α85 (128 * k) (rdB γa 0 nA) q)) := by
  unfold kpK
  rw [sA_a' (by decide), sA_a' (by decide), sA_a' (by decide), sA_a' (by decide), sA_a' (by decide), sA_a' (by decide), sA_a' (by decide), sA_a' (by decide), sA_a' (by decide), sA_a]
theorem kpK_88 {k kd nA nB nC : Nat} {γa γb γc α85 α87 α89 α92 α94 : Nat → UInt8} : (kpK o J k kd nA nB nC γa γb γc α85 α87 α89 α92 α94).a 88 = (upd (o.a 88) k (Int32.ofNat nB)) := by
  unfold kpK
  rw [sA_a' (by decide), sA_a' (by decide), sA_a' (by decide), sA_a' (by decide), sA_a' (by decide), sA_a' (by decide), sA_a' (by decide), sA_a' (by decide), sA_a]
theorem kpK_87 {k kd nA nB nC : Nat} {γa γb γc α85 α87 α89 α92 α94 : Nat → UInt8} : (kpK o J k kd nA nB nC γa γb γc α85 α87 α89 α92 α94).a 87 = (fun q => sb (wrB α87 (128 * k) (rdB γb 0 nB) q)) := by
  unfold kpK
  rw [sA_a' (by decide), sA_a' (by decide), sA_a' (by decide), sA_a' (by decide), sA_a' (by decide), sA_a' (by decide), sA_a' (by decide), sA_a]
theorem kpK_90 {k kd nA nB nC : Nat} {γa γb γc α85 α87 α89 α92 α94 : Nat → UInt8} : (kpK o J k kd nA nB nC γa γb γc α85 α87 α89 α92 α94).a 90 = (upd (o.a 90) k (Int32.ofNat nC)) := by
  unfold kpK
  rw [sA_a' (by decide), sA_a' (by decide), sA_a' (by decide), sA_a' (by decide), sA_a' (by decide), sA_a' (by decide), sA_a]
theorem kpK_89 {k kd nA nB nC : Nat} {γa γb γc α85 α87 α89 α92 α94 : Nat → UInt8} : (kpK o J k kd nA nB nC γa γb γc α85 α87 α89 α92 α94).a 89 = (fun q => sb (wrB α89 (128 * k) (rdB γc 0 nC) q)) := by
  unfold kpK
  rw [sA_a' (by decide), sA_a' (by decide), sA_a' (by decide), sA_a' (by decide), sA_a' (by decide), sA_a]
theorem kpK_91 {k kd nA nB nC : Nat} {γa γb γc α85 α87 α89 α92 α94 : Nat → UInt8} : (kpK o J k kd nA nB nC γa γb γc α85 α87 α89 α92 α94).a 91 = (upd (o.a 91) k (Int32.ofNat (usN J))) := by
  unfold kpK
  rw [sA_a' (by decide), sA_a' (by decide), sA_a' (by decide), sA_a' (by decide), sA_a]
theorem kpK_92 {k kd nA nB nC : Nat} {γa γb γc α85 α87 α89 α92 α94 : Nat → UInt8} : (kpK o J k kd nA nB nC γa γb γc α85 α87 α89 α92 α94).a 92 = (fun q => sb (wO α92 (8200 * k) (wdJ J 20) q)) := by
  unfold kpK
  rw [sA_a' (by decide), sA_a' (by decide), sA_a' (by decide), sA_a]
theorem kpK_93 {k kd nA nB nC : Nat} {γa γb γc α85 α87 α89 α92 α94 : Nat → UInt8} : (kpK o J k kd nA nB nC γa γb γc α85 α87 α89 α92 α94).a 93 = (upd (o.a 93) k (oLn ((wdJ J 20).map List.length))) := by
  unfold kpK
  rw [sA_a' (by decide), sA_a' (by decide), sA_a]
theorem kpK_94 {k kd nA nB nC : Nat} {γa γb γc α85 α87 α89 α92 α94 : Nat → UInt8} : (kpK o J k kd nA nB nC γa γb γc α85 α87 α89 α92 α94).a 94 = (fun q => sb (wO α94 (8200 * k) (wdJ J 22) q)) := by
  unfold kpK
  rw [sA_a' (by decide), sA_a]
theorem kpK_95 {k kd nA nB nC : Nat} {γa γb γc α85 α87 α89 α92 α94 : Nat → UInt8} : (kpK o J k kd nA nB nC γa γb γc α85 α87 α89 α92 α94).a 95 = (upd (o.a 95) k (oLn ((wdJ J 22).map List.length))) := by
  unfold kpK
  rw [sA_a]
theorem kpK_agr {k kd nA nB nC : Nat} {γa γb γc α85 α87 α89 α92 α94 : Nat → UInt8} : agr [] [] [83, 84, 85, 86, 87, 88, 89, 90, 91, 92, 93, 94, 95] [] o (kpK o J k kd nA nB nC γa γb γc α85 α87 α89 α92 α94) := by
  unfold kpK
  exact ((((((((((((agr_sA (by simp)).trans (agr_sA (by simp))).trans (agr_sA (by simp))).trans (agr_sA (by simp))).trans (agr_sA (by simp))).trans (agr_sA (by simp))).trans (agr_sA (by simp))).trans (agr_sA (by simp))).trans (agr_sA (by simp))).trans (agr_sA (by simp))).trans (agr_sA (by simp))).trans (agr_sA (by simp))).trans (agr_sA (by simp))
end MKP
