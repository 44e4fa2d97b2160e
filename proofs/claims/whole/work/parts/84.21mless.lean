/-! A KEY'S NUMBERS: the model -/
section MLES
variable {W : WR} {G : mG} {F : Nat} {S : ST}
theorem gB_r0 {β : Nat → UInt8} {n k : Nat} (h : k < n) : gB (rdB β 0 n) (0 + k) = b32 (β k) := by
  unfold gB
  rw [Nat.zero_add, rdB_at h, Nat.zero_add]
theorem QM_less_l {ka kb n : Nat} {β γ : Nat → UInt8} (h : isM W) (qa : (kdA 13)[ka]? = some 1) (qb : (kdA 13)[kb]? = some 1) (la : mLen ka < 2 ^ 30) (lb_ : mLen kb < 2 ^ 30) (ha : n ≤ mLen ka) (hb : n ≤ mLen kb) (hB : mB (S 13 0) ka β) (hG : mB (S 13 0) kb γ) : ∀ (m k fuel : Nat), m < fuel → k + m = n → B_X13_isLessThan_21 G F fuel (W.ad (.a 13 0 ka)) (Int32.ofNat n) (W.ad (.a 13 0 kb)) (Int32.ofNat k) (mem W S) = some (if cmpF (fun q => gB (rdB β 0 n) (0 + q)) (fun q => gB (rdB γ 0 n) (0 + q)) k m < 0 then 1 else 0, mem W S) := by
  intro m
  induction m with
  | zero =>
    intro k fuel hf hk
    obtain ⟨fuel, rfl⟩ : ∃ q, fuel = q + 1 := ⟨fuel - 1, by omega⟩
    rw [B_X13_isLessThan_21, if_pos ((n_le (by omega) (by omega)).mpr (by omega))]
    unfold B_X13_isLessThan_44
    rw [if_pos ((n_le (by omega) (by omega)).mpr (by omega)), rz0]
    rfl
  | succ m ih =>
    intro k fuel hf hk
    obtain ⟨fuel, rfl⟩ : ∃ q, fuel = q + 1 := ⟨fuel - 1, by omega⟩
    have hn : ¬ (Int32.ofNat n) ≤ (Int32.ofNat k) := fun q => by have := (n_le (by omega) (by omega)).mp q; omega
    rw [B_X13_isLessThan_21, if_neg hn, h.aB qa hB (by omega) (by omega), bO_s, h.aB qb hG (by omega) (by omega), bO_s]
    show _ = some (if (if gB (rdB β 0 n) (0 + k) = gB (rdB γ 0 n) (0 + k) then cmpF (fun q => gB (rdB β 0 n) (0 + q)) (fun q => gB (rdB γ 0 n) (0 + q)) (k + 1) m else if gB (rdB γ 0 n) (0 + k) ≤ gB (rdB β 0 n) (0 + k) then 1 else -1) < 0 then 1 else 0, mem W S)
    rw [gB_r0 (by omega), gB_r0 (by omega)]
    by_cases c : β k = γ k
    · rw [if_pos (congrArg sb c), if_pos (congrArg b32 c), n_i1]
      exact ih (k + 1) fuel (by omega) (by omega)
    · rw [if_neg (fun q => c (sb_inj q)), if_neg (fun q => c (b32_inj q))]
      unfold B_X13_isLessThan_44
      rw [if_neg hn, h.aB qa hB (by omega) (by omega), bO_s, h.aB qb hG (by omega) (by omega), bO_s, sb_and, sb_and]
      by_cases d : b32 (γ k) ≤ b32 (β k)
      · rw [if_pos d, if_pos d, rz0]
        rfl
      · rw [if_neg d, if_neg d, rz1]
        rfl
theorem QM_isLess {ka kb n m : Nat} {β γ : Nat → UInt8} (X : Cx G F W) (h : isM W) (qa : (kdA 13)[ka]? = some 1) (qb : (kdA 13)[kb]? = some 1) (la : mLen ka < 90000) (lb_ : mLen kb < 90000) (ha : n ≤ mLen ka) (hb : m ≤ mLen kb) (hB : mB (S 13 0) ka β) (hG : mB (S 13 0) kb γ) (a : Nat) : P_X13_isLessThan G F a (W.ad (.a 13 0 ka)) (Int32.ofNat n) (W.ad (.a 13 0 kb)) (Int32.ofNat m) (mem W S) = some (if belF (rdB β 0 n) (rdB γ 0 m) = true then 1 else 0, mem W S) := by
  have hF := X.hF
  unfold P_X13_isLessThan belF
  rw [rdB_len, rdB_len]
  by_cases e : n = m
  · subst e
    rw [if_pos rfl, decide_eq_false (Nat.lt_irrefl n), Bool.false_or, decide_eq_true rfl, Bool.true_and]
    have l := QM_less_l (G := G) (F := F) (S := S) (n := n) h qa qb (by omega) (by omega) ha hb hB hG n 0 F (by omega) (by omega)
    refine Eq.trans l ?_
    by_cases c : cmpF (fun q => gB (rdB β 0 n) (0 + q)) (fun q => gB (rdB γ 0 n) (0 + q)) 0 n < 0
    · rw [if_pos c, if_pos (decide_eq_true c)]
    · rw [if_neg c, if_neg (by rw [decide_eq_false c]; decide)]
  · rw [if_neg (fun q => e ((n_eq (by omega) (by omega)).mp q)), decide_eq_false e, Bool.false_and, Bool.or_false]
    by_cases c : n < m
    · rw [if_neg (fun q => by have := (n_le (by omega) (by omega)).mp q; omega), if_pos (decide_eq_true c), rz1]
    · rw [if_pos ((n_le (by omega) (by omega)).mpr (by omega)), if_neg (by rw [decide_eq_false c]; decide), rz0]
end MLES
