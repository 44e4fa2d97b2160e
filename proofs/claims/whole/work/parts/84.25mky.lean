/-! A KEY'S LETTERS: the model -/
theorem ltB_le {J : JT} {o : Option Nat} {d : List UInt8} (Y : JX J) (h : ltB J o = some d) : d.length ≤ 6144 := by
  have Y1 := Y.1
  cases o with
  | none => exact absurd h (by simp [ltB])
  | some i =>
    have h : (if kB J (some i) 4 = true ∧ fltF (seg J.2.2 (J.2.1 6 i) (J.2.1 7 i)) = none then some (dec (seg J.2.2 (J.2.1 6 i) (J.2.1 7 i))) else none) = some d := h
    split at h
    · rw [← Option.some.inj h, dec_len]
      have : (seg J.2.2 (J.2.1 6 i) (J.2.1 7 i)).length ≤ J.2.2.length := by
        unfold seg
        rw [List.length_take, List.length_drop]
        omega
      omega
    · exact absurd h (by simp)
/-- the length of what letters say -/
def lnO (J : JT) (o : Option Nat) : Option Nat := (ltB J o).map List.length
theorem oLn_lt {J : JT} {o : Option Nat} (Y : JX J) : oLn (lnO J o) < 0 ↔ (ltB J o).isSome = false := by
  unfold lnO
  cases e : ltB J o with
  | none => exact ⟨fun _ => rfl, fun _ => by decide⟩
  | some d =>
    have := ltB_le Y e
    exact ⟨fun q => absurd q (nn (by omega)), fun q => absurd q (by simp)⟩
abbrev kyAr : List Nat := [96, 97, 98]
/-- what letters say, in an array of the model -/
def hLt (o : Ob) (kt kf : Nat) (J : JT) (n : Option Nat) : Prop := o.f kf = oLn (lnO J n) ∧ ∃ γ, mB o kt γ ∧ ∀ d, ltB J n = some d → rdB γ 0 d.length = d
section MKY
variable {W : WR} {G : mG} {F : Nat} {S : ST} {bk : Nat} {J : JT} {o : Ob}
theorem hLt.ag {o' : Ob} {kt kf : Nat} {n : Option Nat} {fs gs as ls : List Nat} (h : hLt o kt kf J n) (a : agr fs gs as ls o o') (h1 : kf ∉ fs) (h2 : kt ∉ as) : hLt o' kt kf J n := by
  obtain ⟨x, γ, y, w⟩ := h
  exact ⟨by rw [a.1 kf h1]; exact x, γ, a.mB y h2, w⟩
theorem sf2 (o : Ob) (k : Nat) (v w : Int32) : (o.sf k v).sf k w = o.sf k w := by
  show Ob.mk _ _ _ _ _ = Ob.mk _ _ _ _ _
  congr 1
  funext k'
  show (if k' = k then w else if k' = k then v else o.f k') = if k' = k then w else o.f k'
  split
  · rfl
  · rfl
theorem oM_370 {l4 : Int32} (h : isM W) (has : Bool) : B_X13_key_370 G F (W.ad (.o 13 0)) (Int32.ofNat bk) l4 (if has = true then 1 else 0) (mem W (S.so 13 0 o)) = B_X13_key_390 G F (W.ad (.o 13 0)) (Int32.ofNat bk) l4 0 (mem W (S.so 13 0 (o.sf 101 (if has = true then o.f 101 else -1)))) := by
  unfold B_X13_key_370
  cases has with
  | false => rw [if_neg Bool.false_ne_true, if_pos rfl, h.pI 101 _ rfl, bO_s, so_eq, so_so, if_neg Bool.false_ne_true]
  | true => rw [if_pos rfl, if_neg (by decide), h.gI 101 rfl, bO_s, h.pI 101 _ rfl, bO_s, so_eq, so_so, if_pos rfl]
theorem oM_344 {l4 : Int32} {nB nC : Option Nat} (h : isM W) (Y : JX J) (g has : Bool) (hh : has = false → ltB J nC = none) (h100 : o.f 100 = oLn (lnO J nB)) : B_X13_key_344 G F (W.ad (.o 13 0)) (Int32.ofNat bk) l4 (if g = true then 1 else 0) (if has = true then 1 else 0) (W.ad (.o 13 0)) (if has = true then oLn (lnO J nC) else 0) (mem W (S.so 13 0 o)) = B_X13_key_390 G F (W.ad (.o 13 0)) (Int32.ofNat bk) l4 (if (g && ((ltB J nB).isSome && (!has || (ltB J nC).isSome))) = true then 1 else 0) (mem W (S.so 13 0 (o.sf 101 (oLn (lnO J nC))))) := by
  obtain ⟨v, hv⟩ : ∃ v : Int32, v = if has = true then oLn (lnO J nC) else 0 := ⟨_, rfl⟩
  have fin : (o.sf 101 v).sf 101 (if has = true then (o.sf 101 v).f 101 else -1) = o.sf 101 (oLn (lnO J nC)) := by
    rw [sf2, sf_eq]
    cases has with
    | false =>
      rw [if_neg Bool.false_ne_true]
      have := hh rfl
      unfold lnO
      rw [this]
      rfl
    | true => rw [if_pos rfl, hv, if_pos rfl]
  have bad : B_X13_key_370 G F (W.ad (.o 13 0)) (Int32.ofNat bk) l4 (if has = true then 1 else 0) (mem W (S.so 13 0 (o.sf 101 v))) = B_X13_key_390 G F (W.ad (.o 13 0)) (Int32.ofNat bk) l4 0 (mem W (S.so 13 0 (o.sf 101 (oLn (lnO J nC))))) := by
    rw [oM_370 h has, fin]
  unfold B_X13_key_344
  rw [← hv, h.pI 101 _ rfl, bO_s, so_eq, so_so]
  cases g with
  | false => rw [if_neg Bool.false_ne_true, if_pos rfl, bad, Bool.false_and, if_neg Bool.false_ne_true]
  | true =>
    rw [if_pos rfl, if_neg (by decide), h.gI 100 rfl, bO_s, so_eq, sf_ne (by decide), h100, Bool.true_and]
    cases eB : (ltB J nB).isSome with
    | false => rw [if_pos ((oLn_lt Y).mpr eB), bad, Bool.false_and, if_neg Bool.false_ne_true]
    | true =>
      rw [if_neg (fun q => by rw [(oLn_lt Y).mp q] at eB; exact absurd eB (by decide)), h.gI 101 rfl, bO_s, so_eq, sf_eq, Bool.true_and]
      cases has with
      | false =>
        rw [if_neg Bool.false_ne_true] at hv fin
        rw [hv, if_neg (by decide), if_neg Bool.false_ne_true, if_pos rfl, h.pI 101 _ rfl, bO_s, so_eq, so_so]
        rw [hv] at fin
        rw [fin]
        rfl
      | true =>
        rw [if_pos rfl] at hv fin
        cases eC : (ltB J nC).isSome with
        | false =>
          rw [if_pos (by rw [hv]; exact (oLn_lt Y).mpr eC), bad]
          rfl
        | true =>
          rw [if_neg (fun q => by rw [hv] at q; rw [(oLn_lt Y).mp q] at eC; exact absurd eC (by decide)), if_pos rfl, if_neg (by decide), bO_s, h.pI 101 _ rfl, bO_s, so_eq, so_so]
          rw [sf_eq] at fin
          rw [fin]
          rfl
end MKY
