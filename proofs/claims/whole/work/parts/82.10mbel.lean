/-! THE MODEL'S isBelow -/
theorem s255_t : ∀ n, n < 256 → sb (UInt8.ofNat n) &&& (255 : Int32) = (Int32.ofNat n) := by decide +kernel
theorem sb_255 (x : UInt8) : sb x &&& (255 : Int32) = (Int32.ofNat x.toNat) := by
  have := s255_t x.toNat x.toNat_lt
  rw [show UInt8.ofNat x.toNat = x by simp] at this
  exact this
theorem sb_eq {x y : UInt8} : sb x = sb y ↔ x.toNat = y.toNat := by
  constructor
  · intro e
    have h := congrArg (fun z => z &&& (255 : Int32)) e
    have h : sb x &&& (255 : Int32) = sb y &&& (255 : Int32) := h
    rw [sb_255, sb_255] at h
    have a := x.toNat_lt
    have b := y.toNat_lt
    exact (n_eq (by omega) (by omega)).mp h
  · intro e
    rw [show x = y by rw [← show UInt8.ofNat x.toNat = x by simp, e]; simp]
section MBEL
variable {W : WR} {G : mG} {F : Nat} {S : ST}
theorem QM_bel_l {kb p k n : Nat} {β γ : Nat → UInt8} (h : isM W) (q : (kdA 13)[kb]? = some 1) (hl : mLen kb < 2 ^ 30) (hp : p + n ≤ mLen kb) (hb : mB (S 13 0) kb β) (hg : mB (S 13 0) 85 γ) (hk : k < 16) (hn : n ≤ 128) : ∀ (m i fuel : Nat), m < fuel → i + m = n → B_X13_isBelow_11 G F fuel (W.ad (.o 13 0)) (W.ad (.a 13 0 kb)) (Int32.ofNat p) (Int32.ofNat k) (Int32.ofNat n) (Int32.ofNat i) (mem W S) = some (if cmpF (fun j => (Int32.ofNat (β (p + j)).toNat)) (fun j => (Int32.ofNat (γ (128 * k + j)).toNat)) i m < 0 then 1 else 0, mem W S) := by
  intro m
  induction m with
  | zero =>
    intro i fuel hf hi
    obtain ⟨f, rfl⟩ : ∃ f, fuel = f + 1 := ⟨fuel - 1, by omega⟩
    have c : (Int32.ofNat n) ≤ (Int32.ofNat i) := (n_le (by omega) (by omega)).mpr (by omega)
    rw [B_X13_isBelow_11, if_pos c]
    unfold B_X13_isBelow_46
    rw [if_pos c, retZ0]
    rfl
  | succ m ih =>
    intro i fuel hf hi
    obtain ⟨f, rfl⟩ : ∃ f, fuel = f + 1 := ⟨fuel - 1, by omega⟩
    have c : ¬ (Int32.ofNat n) ≤ (Int32.ofNat i) := fun o => by have := (n_le (by omega) (by omega)).mp o; omega
    have e1 : aI G (mem W S) 1 (W.ad (.a 13 0 kb)) ((Int32.ofNat p) + (Int32.ofNat i)) = some (sb (β (p + i))) := by
      rw [n_add]
      exact h.aB q hb (by omega) (by omega)
    have e2 : aI G (mem W S) 1 (W.ad (.a 13 0 85)) ((128 : Int32) * (Int32.ofNat k) + (Int32.ofNat i)) = some (sb (γ (128 * k + i))) := by
      rw [show (128 : Int32) * (Int32.ofNat k) = (Int32.ofNat (128 * k)) from n_mul 128 k, n_add]
      exact h.aB rfl hg (by show _ < 2048; omega) (by decide)
    have b1 := (β (p + i)).toNat_lt
    have b2 := (γ (128 * k + i)).toNat_lt
    rw [B_X13_isBelow_11, if_neg c, e1, bO_s, h.gR 85 rfl (by decide), bO_s, e2, bO_s, cmpF]
    by_cases d : (β (p + i)).toNat = (γ (128 * k + i)).toNat
    · rw [if_pos (sb_eq.mpr d), if_pos (show (Int32.ofNat (β (p + i)).toNat) = (Int32.ofNat (γ (128 * k + i)).toNat) by rw [d]), n_addL i 1]
      exact ih (i + 1) f (by omega) (by omega)
    · rw [if_neg (fun o => d (sb_eq.mp o)), if_neg (fun o => d ((n_eq (by omega) (by omega)).mp o))]
      unfold B_X13_isBelow_46
      rw [if_neg c, e1, bO_s, h.gR 85 rfl (by decide), bO_s, e2, bO_s, sb_255, sb_255]
      by_cases l : (Int32.ofNat (γ (128 * k + i)).toNat) ≤ (Int32.ofNat (β (p + i)).toNat)
      · rw [if_pos l, if_pos l, retZ0]
        rfl
      · rw [if_neg l, if_neg l, retZ1]
        rfl
theorem QM_isBelow {kb p k n : Nat} {β γ : Nat → UInt8} (X : Cx G F W) (h : isM W) (q : (kdA 13)[kb]? = some 1) (hl : mLen kb < 2 ^ 30) (hp : p + n ≤ mLen kb) (hb : mB (S 13 0) kb β) (hg : mB (S 13 0) 85 γ) (hk : k < 16) (hn : n ≤ 128) (h86 : (S 13 0).a 86 k = (Int32.ofNat n)) : P_X13_isBelow G F (W.ad (.o 13 0)) (W.ad (.a 13 0 kb)) (Int32.ofNat p) (Int32.ofNat k) (mem W S) = some (if numF (rdB β p n) (rdB γ (128 * k) n) = true then 1 else 0, mem W S) := by
  have hF := X.hF
  have e := QM_bel_l (G := G) (F := F) (S := S) h q hl hp hb hg hk hn n 0 F (by omega) (by omega)
  unfold P_X13_isBelow
  rw [h.gR 86 rfl (by decide), bO_s, h.aN rfl (show k < 16 from hk) (by decide), bO_s, h86]
  refine e.trans ?_
  have cg : ∀ (f g f' g' : Nat → Int32) (m i : Nat), (∀ j, i ≤ j → j < i + m → f j = f' j ∧ g j = g' j) → cmpF f g i m = cmpF f' g' i m := by
    intro f g f' g' m
    induction m with
    | zero => intro i _; rfl
    | succ m ih =>
      intro i hh
      obtain ⟨a, b⟩ := hh i (Nat.le_refl _) (by omega)
      rw [cmpF, cmpF, a, b, ih (i + 1) (fun j h1 h2 => hh j (by omega) (by omega))]
  have e2 := cg (fun j => (Int32.ofNat (β (p + j)).toNat)) (fun j => (Int32.ofNat (γ (128 * k + j)).toNat)) (fun j => (Int32.ofNat (gN (rdB β p n) (0 + j)))) (fun j => (Int32.ofNat (gN (rdB γ (128 * k) n) (0 + j)))) n 0 (fun j _ hj => by
    rw [Nat.zero_add, gN_rdB (by omega), gN_rdB (by omega)]
    exact ⟨rfl, rfl⟩)
  rw [e2, cmp_bv (fun j => gN_lt _ _) (fun j => gN_lt _ _), bv_seg n 0 (by rw [rdB_len]; omega), bv_seg n 0 (by rw [rdB_len]; omega)]
  simp only [Nat.add_zero]
  rw [seg_all (rdB_len β p n), seg_all (rdB_len γ (128 * k) n)]
  unfold numF
  by_cases c : beN (rdB β p n) < beN (rdB γ (128 * k) n)
  · rw [if_pos (ordF_neg.1.mpr c), if_pos (decide_eq_true ⟨by rw [rdB_len, rdB_len], c⟩)]
  · rw [if_neg (fun o => c (ordF_neg.1.mp o)), if_neg (fun o => c (of_decide_eq_true o).2)]
end MBEL
