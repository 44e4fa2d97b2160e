/-! A WORD IN A ROW OF WORDS: the model -/
section WORD
variable {W : WR} {G : mG} {F : Nat} {S : ST}
/-- from i on the row has the word w and then a blank -/
def atW (R : List UInt8) (i : Nat) (w : List UInt8) : Prop := i + w.length < R.length ∧ (∀ q (h : q < w.length), R[i + q]? = some w[q] ∧ w[q] ≠ 32) ∧ R[i + w.length]? = some 32
theorem ch_at {j i : Nat} {x : UInt8} (X : Cx G F W) (hj : j < 124) (h : (str j)[i]? = some x) : P_J0_charAt_5068e G F (G.1 j) (Int32.ofNat i) (mem W S) = some (b32 x, mem W S) ∧ x.toNat < 128 := by
  have hi : i < (str j).length := by
    by_cases c : i < (str j).length
    · exact c
    · rw [List.getElem?_eq_none (by omega)] at h
      exact absurd h (by simp)
  obtain ⟨c1, c2⟩ := chr hj hi
  rw [List.getElem?_eq_getElem hi] at h
  rw [Option.some.inj h] at c1 c2
  refine ⟨?_, c2⟩
  rw [QJ_charAt X hj (by rw [← str_len]; exact hi), c1]
theorem QM_skip {j i n k : Nat} {w : List UInt8} {a : Nat} {p : Int32} {r6 : Nat → Nat → Int32 → Int32 → Int32 → Int32 → mM → Option (Int32 × mM)} (X : Cx G F W) (hj : j < 124) (hw : atW (str j) i w) : ∀ (m q fuel : Nat), m < fuel → q + m = w.length → B_X13_wordOf_85 G F r6 fuel (G.1 j) a p (Int32.ofNat n) (Int32.ofNat k) (Int32.ofNat (i + q)) (mem W S) = r6 (G.1 j) a p (Int32.ofNat n) (Int32.ofNat (k + 1)) (Int32.ofNat (i + w.length + 1)) (mem W S) := by
  intro m
  induction m with
  | zero =>
    intro q fuel hf hq
    obtain ⟨fuel, rfl⟩ : ∃ q, fuel = q + 1 := ⟨fuel - 1, by omega⟩
    have e : q = w.length := by omega
    subst e
    rw [B_X13_wordOf_85, srcs X hj, bO_s, (ch_at X hj hw.2.2).1, bP_s, if_pos (show b32 32 = (32 : Int32) from rfl), n_i1, n_i1]
  | succ m ih =>
    intro q fuel hf hq
    obtain ⟨fuel, rfl⟩ : ∃ q, fuel = q + 1 := ⟨fuel - 1, by omega⟩
    obtain ⟨c1, c2⟩ := hw.2.1 q (by omega)
    rw [B_X13_wordOf_85, srcs X hj, bO_s, (ch_at X hj c1).1, bP_s, if_neg (show ¬ b32 w[q] = (32 : Int32) from fun e => c2 (b32_inj (y := 32) e)), n_i1]
    exact ih (q + 1) fuel (by omega) (by omega)
theorem QM_word62 {j i n k q : Nat} {w : List UInt8} {a : Nat} {p : Int32} {r6 : Nat → Nat → Int32 → Int32 → Int32 → Int32 → mM → Option (Int32 × mM)} (X : Cx G F W) (hj : j < 124) (hw : atW (str j) i w) (hn : n < 10000) (hq : q ≤ w.length) (hqn : q ≤ n) : B_X13_wordOf_62 G F r6 (G.1 j) a p (Int32.ofNat n) (Int32.ofNat k) (Int32.ofNat i) (Int32.ofNat q) (mem W S) = if q = n ∧ n = w.length then some ((Int32.ofNat k), mem W S) else r6 (G.1 j) a p (Int32.ofNat n) (Int32.ofNat (k + 1)) (Int32.ofNat (i + w.length + 1)) (mem W S) := by
  have hF := X.hF
  have sl := str_lt hj
  have hl := hw.1
  have sk : B_X13_wordOf_85 G F r6 F (G.1 j) a p (Int32.ofNat n) (Int32.ofNat k) (Int32.ofNat i) (mem W S) = r6 (G.1 j) a p (Int32.ofNat n) (Int32.ofNat (k + 1)) (Int32.ofNat (i + w.length + 1)) (mem W S) := QM_skip X hj hw w.length 0 F (by omega) (by omega)
  unfold B_X13_wordOf_62
  by_cases c : q = n
  · rw [if_pos (by rw [c]), srcs X hj, bO_s, n_add]
    by_cases d : n = w.length
    · have e : i + q = i + w.length := by omega
      rw [if_pos ⟨c, d⟩, e, (ch_at X hj hw.2.2).1, bP_s, if_pos (show b32 32 = (32 : Int32) from rfl)]
    · obtain ⟨c1, c2⟩ := hw.2.1 q (by omega)
      rw [if_neg (fun z => d z.2), (ch_at X hj c1).1, bP_s, if_neg (show ¬ b32 w[q] = (32 : Int32) from fun e => c2 (b32_inj (y := 32) e))]
      exact sk
  · rw [if_neg (fun z => c ((n_eq (by omega) (by omega)).mp z)), if_neg (fun z => c z.1)]
    exact sk
theorem QM_word18 {j i n k kb p : Nat} {w : List UInt8} {β : Nat → UInt8} {r6 : Nat → Nat → Int32 → Int32 → Int32 → Int32 → mM → Option (Int32 × mM)} (X : Cx G F W) (h : isM W) (hj : j < 124) (hw : atW (str j) i w) (qb : (kdA 13)[kb]? = some 1) (lb_ : mLen kb < 2 ^ 30) (hb : mB (S 13 0) kb β) (hn : n < 10000) (hp : p + n ≤ mLen kb) : ∀ (m q fuel : Nat), m < fuel → q + m = n → q ≤ w.length → (∀ t (ht : t < w.length), t < q → β (p + t) = w[t]) → B_X13_wordOf_18 G F r6 fuel (G.1 j) (W.ad (.a 13 0 kb)) (Int32.ofNat p) (Int32.ofNat n) (Int32.ofNat k) (Int32.ofNat i) (Int32.ofNat q) (mem W S) = if rdB β p n = w then some ((Int32.ofNat k), mem W S) else r6 (G.1 j) (W.ad (.a 13 0 kb)) (Int32.ofNat p) (Int32.ofNat n) (Int32.ofNat (k + 1)) (Int32.ofNat (i + w.length + 1)) (mem W S) := by
  have eqw : rdB β p n = w ↔ n = w.length ∧ ∀ t (ht : t < w.length), t < n → β (p + t) = w[t] := by
    constructor
    · intro e
      refine ⟨by rw [← e, rdB_len], fun t ht htn => ?_⟩
      have := rdB_at (β := β) (p := p) (n := n) (j := t) htn
      rw [e, List.getElem?_eq_getElem ht] at this
      exact (Option.some.inj this).symm
    · intro ⟨e1, e2⟩
      apply List.ext_getElem?
      intro t
      by_cases ht : t < n
      · rw [rdB_at ht, List.getElem?_eq_getElem (by omega), e2 t (by omega) ht]
      · rw [List.getElem?_eq_none (by rw [rdB_len]; omega), List.getElem?_eq_none (by omega)]
  intro m
  induction m with
  | zero =>
    intro q fuel hf hq hqw hpre
    obtain ⟨fuel, rfl⟩ : ∃ q, fuel = q + 1 := ⟨fuel - 1, by omega⟩
    have e : q = n := by omega
    rw [B_X13_wordOf_18, if_pos ((n_le (by omega) (by omega)).mpr (by omega)), QM_word62 X hj hw hn hqw (by omega)]
    by_cases c : n = w.length
    · rw [if_pos ⟨e, c⟩, if_pos (eqw.mpr ⟨c, fun t ht htn => hpre t ht (by omega)⟩)]
    · rw [if_neg (fun z => c z.2), if_neg (fun z => c (eqw.mp z).1)]
  | succ m ih =>
    intro q fuel hf hq hqw hpre
    obtain ⟨fuel, rfl⟩ : ∃ q, fuel = q + 1 := ⟨fuel - 1, by omega⟩
    rw [B_X13_wordOf_18, if_neg (fun z => by have := (n_le (by omega) (by omega)).mp z; omega), srcs X hj, bO_s, n_add]
    by_cases c : q = w.length
    · have e : i + q = i + w.length := by omega
      rw [e, (ch_at X hj hw.2.2).1, bP_s, if_pos (show b32 32 = (32 : Int32) from rfl), QM_word62 X hj hw hn hqw (by omega), if_neg (fun z => by omega), if_neg (fun z => by have := (eqw.mp z).1; omega)]
    · obtain ⟨c1, c2⟩ := hw.2.1 q (by omega)
      obtain ⟨g1, g2⟩ := ch_at (G := G) (F := F) (W := W) (S := S) X hj c1
      rw [g1, bP_s, if_neg (show ¬ b32 w[q] = (32 : Int32) from fun e => c2 (b32_inj (y := 32) e)), bO_s, g1, bP_s, n_add, h.aB qb hb (by omega) (by omega), bO_s]
      by_cases d : β (p + q) = w[q]
      · rw [if_pos ((sb_asc g2).mpr d).symm, n_i1]
        refine ih (q + 1) fuel (by omega) (by omega) (by omega) (fun t ht htq => ?_)
        by_cases z : t = q
        · subst z
          exact d
        · exact hpre t ht (by omega)
      · rw [if_neg (fun z => d ((sb_asc g2).mp z.symm)), QM_word62 X hj hw hn hqw (by omega), if_neg (fun z => by omega), if_neg (fun z => d ((eqw.mp z).2 q (by omega) (by omega)))]
end WORD
