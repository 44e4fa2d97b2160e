/-! TEXTS OF VALUES: the model reads a text into a bank -/
def MTx (o : Ob) (bk : Nat) (J : JT) : Prop := o.a 16 bk = (Int32.ofNat J.1) ∧ TbM o bk J.2.1 0 J.1 ∧ ∃ β, mB o 15 β ∧ rdB β (8200 * bk) J.2.2.length = J.2.2
/-- the other bank's text is as it was -/
def kpT (bk : Nat) (o o' : Ob) : Prop := ∀ bk' J', bk' ≠ bk → bk' ≤ 1 → JX J' → MTx o bk' J' → MTx o' bk' J'
def rdAr : List Nat := [6, 7, 8, 9, 10, 11, 12, 13, 14, 15, 16]
theorem kpT_mk {bk : Nat} {o o0 o1 : Ob} {p fl top : Int32} {β : Nat → UInt8} {acc : List UInt8} (hbk : bk ≤ 1) (h15 : mB o 15 β) (k0 : ∀ k, 6 ≤ k → k ≤ 14 → o0.a k = o.a k) (k16 : ∀ j, j ≠ bk → o0.a 16 j = o.a 16 j) (k : kpB bk 0 o0 o1) (ha : acc.length ≤ 8192) : kpT bk o (mro o1 p fl top (wrB β (8200 * bk) acc)) := by
  intro bk' J' hne hle Y hM
  obtain ⟨m1, m2, β', m3, m4⟩ := hM
  have eb : ∀ j, β' j = β j := fun j => sb_inj (by have := congrFun (m3.symm.trans h15) j; exact this)
  have Y1 := Y.1
  have Y2 := Y.2.1
  refine ⟨?_, fun i a b => ?_, wrB β (8200 * bk) acc, rfl, ?_⟩
  · show o1.a 16 bk' = _
    rw [k.2.2 bk' hne, k16 bk' hne]
    exact m1
  · have ea : ∀ k', 6 ≤ k' → k' ≤ 14 → (mro o1 p fl top (wrB β (8200 * bk) acc)).a k' (600 * bk' + i) = o.a k' (600 * bk' + i) := by
      intro k' q1 q2
      rw [mro_a, if_neg (by omega), k.2.1 k' q1 q2 _ (by omega), k0 k' q1 q2]
    obtain ⟨b1, b2, b3, b4, b5, b6, b7, b8, b9⟩ := m2 i a b
    rw [ea 6 (by omega) (by omega), ea 7 (by omega) (by omega), ea 8 (by omega) (by omega), ea 9 (by omega) (by omega), ea 10 (by omega) (by omega), ea 11 (by omega) (by omega), ea 12 (by omega) (by omega), ea 13 (by omega) (by omega), ea 14 (by omega) (by omega)]
    exact ⟨b1, b2, b3, b4, b5, b6, b7, b8, b9⟩
  · have e : rdB β (8200 * bk') J'.2.2.length = rdB β' (8200 * bk') J'.2.2.length := rdB_iff.mpr (fun j _ => (eb _).symm)
    exact (rdB_off (by omega)).trans (e.trans m4)
section MTOP
variable {W : WR} {G : mG} {F : Nat} {S : ST} {ks p0 : Nat} {s : List UInt8}
theorem QM_read {bk : Nat} (X : Cx G F W) (h : isM W) (qk : (kdA 13)[ks]? = some 1) (lk : mLen ks < 2 ^ 30) (hks : ks ∉ rdAr) (hbk : bk ≤ 1) (hl : s.length ≤ 8192) {α : Nat → UInt8} (ha : mB (S 13 0) ks α) (hr : rdB α p0 s.length = s) (hb : p0 + s.length ≤ mLen ks) {β : Nat → UInt8} (h15 : mB (S 13 0) 15 β) : ∃ o', P_X13_read G F (W.ad (.o 13 0)) (W.ad (.a 13 0 ks)) (Int32.ofNat p0) (Int32.ofNat s.length) (Int32.ofNat bk) (mem W S) = some (match rdT s with | .inl _ => 0 | .inr _ => 1, mem (W.sr 13 0 19 (.a 13 0 ks)) (S.so 13 0 o')) ∧ agr [20, 21, 22, 23, 24, 25, 26] [] rdAr [] (S 13 0) o' ∧ kpT bk (S 13 0) o' ∧ (∃ β', mB o' 15 β') ∧ match rdT s with | .inl q => o'.f 23 = (Int32.ofNat q) | .inr J => MTx o' bk J ∧ JX J := by
  have hF := X.hF
  obtain ⟨V, hV⟩ : ∃ V, V = W.sr 13 0 19 (.a 13 0 ks) := ⟨_, rfl⟩
  have X' : Cx G F V := by rw [hV]; exact X
  have h' : isM V := by
    rw [hV]
    refine ⟨h.1, h.2.1, fun k hk => ?_, h.2.2.2⟩
    rw [sr_ne (by rintro ⟨_, _, e⟩; rw [e] at hk; exact absurd hk (by decide))]
    exact h.r k hk
  have nv : ∀ k ∈ vAr, k ∈ rdAr := by decide
  have hks15 : ks ≠ 15 := fun e => hks (by rw [e]; decide)
  have K : isSr V ks := ⟨by rw [hV]; exact sr_eq _ _ _ _ _, qk, lk, hks15⟩
  have hksv : ks ∉ vAr := fun q => hks (nv ks q)
  have ead : V.ad = W.ad := by rw [hV]; rfl
  obtain ⟨o1, ho1⟩ : ∃ o1, o1 = (((((S 13 0).sf 20 (Int32.ofNat p0)).sf 21 (Int32.ofNat s.length)).sf 24 (Int32.ofNat bk)).sA 16 (upd ((S 13 0).a 16) bk 0)).sf 26 0 := ⟨_, rfl⟩
  have C : SrC o1 ks p0 s := by
    refine ⟨α, ?_, ?_, ?_, hr, hb⟩
    · rw [ho1]
      show ((((((S 13 0).sf 20 (Int32.ofNat p0)).sf 21 (Int32.ofNat s.length)).sf 24 (Int32.ofNat bk)).sA 16 (upd ((S 13 0).a 16) bk 0)).sf 26 0).a ks = _
      rw [sf_a, sA_a' (fun e => hks (by rw [e]; decide))]
      exact ha
    · rw [ho1]; rfl
    · rw [ho1]; rfl
  have eo : ((((((((S 13 0).sf 20 (Int32.ofNat p0)).sf 21 (Int32.ofNat s.length)).sf 22 0).sf 23 (-1)).sf 24 (Int32.ofNat bk)).sA 16 (upd ((S 13 0).a 16) bk 0)).sf 25 (Int32.ofNat (8200 * bk))).sf 26 0 = mro o1 (Int32.ofNat 0) (-1) (Int32.ofNat (8200 * bk + ([] : List UInt8).length)) (wrB β (8200 * bk) []) := by
    rw [ho1]
    refine Ob_ext2 (fun k => ?_) (fun k => ?_)
    · show (if k = 26 then (0 : Int32) else if k = 25 then (Int32.ofNat (8200 * bk)) else if k = 24 then (Int32.ofNat bk) else if k = 23 then -1 else if k = 22 then 0 else if k = 21 then (Int32.ofNat s.length) else if k = 20 then (Int32.ofNat p0) else (S 13 0).f k) = if k = 25 then (Int32.ofNat (8200 * bk)) else if k = 23 then -1 else if k = 22 then 0 else if k = 26 then 0 else if k = 24 then (Int32.ofNat bk) else if k = 21 then (Int32.ofNat s.length) else if k = 20 then (Int32.ofNat p0) else (S 13 0).f k
      repeat' split
      all_goals first | rfl | (exfalso; omega)
    · show (if k = 16 then upd ((S 13 0).a 16) bk 0 else (S 13 0).a k) = if k = 15 then (fun j => sb (wrB β (8200 * bk) [] j)) else if k = 16 then upd ((S 13 0).a 16) bk 0 else (S 13 0).a k
      rw [wrB_nil]
      by_cases e : k = 15
      · rw [if_neg (by omega), if_pos e, e]
        exact h15
      · rw [if_neg e]
  have st : ∀ (cont : mM → Option (Int32 × mM)), (bO (pfv (mem W S) (W.ad (.o 13 0)) 13 19 (.ref (W.ad (.a 13 0 ks)))) fun M2 => bO (pfv M2 (W.ad (.o 13 0)) 13 20 (.int (Int32.ofNat p0))) fun M7 => bO (pfv M7 (W.ad (.o 13 0)) 13 21 (.int (Int32.ofNat s.length))) fun M12 => bO (pfv M12 (W.ad (.o 13 0)) 13 22 (.int (0 : Int32))) fun M17 => bO (pfv M17 (W.ad (.o 13 0)) 13 23 (.int (-1 : Int32))) fun M22 => bO (pfv M22 (W.ad (.o 13 0)) 13 24 (.int (Int32.ofNat bk))) fun M28 => bO (gfR M28 (W.ad (.o 13 0)) 13 16) fun v32 => bO (sI M28 0 v32 (Int32.ofNat bk) (0 : Int32)) fun M38 => bO (pfv M38 (W.ad (.o 13 0)) 13 25 (.int ((8200 : Int32) * (Int32.ofNat bk)))) fun M46 => bO (pfv M46 (W.ad (.o 13 0)) 13 26 (.int (0 : Int32))) fun M51 => cont M51) = cont (mem V (MA S o1 (Int32.ofNat 0) (-1) (8200 * bk) β [])) := by
    intro cont
    have p1 : pfv (mem W S) (W.ad (.o 13 0)) 13 19 (.ref (W.ad (.a 13 0 ks))) = some (mem V S) := by
      rw [hV]
      exact pfR_m h.lo rfl
    rw [p1, bO_s, ← ead, h'.pI 20 _ rfl, bO_s, h'.pI 21 _ rfl, so_so, so_eq, bO_s, h'.pI 22 _ rfl, so_so, so_eq, bO_s, h'.pI 23 _ rfl, so_so, so_eq, bO_s, h'.pI 24 _ rfl, so_so, so_eq, bO_s, h'.gR 16 rfl (by decide), bO_s, h'.sN rfl (by show bk < 2; omega) (by decide), so_so, so_eq, bO_s, h'.pI 25 _ rfl, so_so, so_eq, bO_s, h'.pI 26 _ rfl, so_so, so_eq, bO_s, show (8200 : Int32) * (Int32.ofNat bk) = (Int32.ofNat (8200 * bk)) by rw [show (8200 : Int32) = (Int32.ofNat 8200) from rfl, n_mul]]
    unfold MA
    rw [← eo]
    rfl
  have w0 : JW s (skb s 0) (0, (fun _ _ => 0), []) := ⟨Nat.zero_le _, skb_len (Nat.zero_le _), Nat.zero_le _, fun i hi => absurd hi (Nat.not_lt_zero _)⟩
  have o116 : o1.a 16 bk = (Int32.ofNat 0) := by
    rw [ho1]
    show upd ((S 13 0).a 16) bk 0 bk = _
    exact if_pos rfl
  have v := MV (G := G) (F := F) (S := S) (p0 := p0) (β := β) (bk := bk) (ks := ks) X' h' K hksv hl hbk 45 0 0 (by decide) (by decide) (skb s 0) 0 0 (0, (fun _ _ => 0), []) o1 w0 C (by rw [ho1]; rfl) o116 (by rw [ho1]; rfl) (Nat.le_refl _) (fun q => absurd rfl q) (Nat.le_refl _)
  have v : m7v V S (8200 * bk) β bk 0 o1 0 (P_X13_readValue G F (V.ad (.o 13 0)) (-1) 0 (mem V (MA S o1 (Int32.ofNat (skb s 0)) (-1) (8200 * bk) β []))) (rv s 45 (skb s 0) (0, (fun _ _ => 0), []) 0 0 0 0) := v
  have ag : ∀ (o2 : Ob) (p fl top : Int32) (γ : Nat → UInt8), kpB bk 0 o1 o2 → agr [20, 21, 22, 23, 24, 25, 26] [] rdAr [] (S 13 0) (mro o2 p fl top γ) := by
    intro o2 p fl top γ k
    have a1 : agr [20, 21, 22, 23, 24, 25, 26] [] rdAr [] (S 13 0) o1 := by
      rw [ho1]
      exact (((((agr_sf (by decide)).trans (agr_sf (by decide))).trans (agr_sf (by decide))).trans (agr_sA (by decide))).trans (agr_sf (by decide)))
    have a2 : agr [20, 21, 22, 23, 24, 25, 26] [] rdAr [] o1 o2 := k.1.mono (by decide) (by decide) nv (by decide)
    have a3 : agr [20, 21, 22, 23, 24, 25, 26] [] rdAr [] o2 (mro o2 p fl top γ) := (((agr_sf (by decide)).trans (agr_sf (by decide))).trans (agr_sf (by decide))).trans (agr_sA (by decide))
    exact (a1.trans a2).trans a3
  have kt : ∀ (o2 : Ob) (p fl top : Int32) (acc : List UInt8), kpB bk 0 o1 o2 → acc.length ≤ 8192 → kpT bk (S 13 0) (mro o2 p fl top (wrB β (8200 * bk) acc)) := by
    intro o2 p fl top acc k hac
    refine kpT_mk hbk h15 (fun k q1 q2 => ?_) (fun j hj => ?_) k hac
    · rw [ho1, sf_a, sA_a' (by omega)]
      rfl
    · rw [ho1, sf_a, sA_a]
      show (if j = bk then _ else _) = _
      rw [if_neg hj]
  unfold P_X13_read
  rw [st (fun M51 => bO (rcv M51 (W.ad (.o 13 0)) 13) fun _ => bO (P_X13_blanks G F (W.ad (.o 13 0)) M51) fun M55 => bO (rcv M55 (W.ad (.o 13 0)) 13) fun _ => bO (P_X13_readValue G F (W.ad (.o 13 0)) (-1 : Int32) (0 : Int32) M55) fun M61 => bO (rcv M61 (W.ad (.o 13 0)) 13) fun _ => bP (P_X13_good G F (W.ad (.o 13 0)) M61) fun v65 M65 => if v65 = 0 then (bO (rcv M65 (W.ad (.o 13 0)) 13) fun _ => bP (P_X13_good G F (W.ad (.o 13 0)) M65) fun v95 M95 => retZ v95 M95) else (bO (rcv M65 (W.ad (.o 13 0)) 13) fun _ => bO (P_X13_blanks G F (W.ad (.o 13 0)) M65) fun M72 => bO (gfI M72 (W.ad (.o 13 0)) 13 22) fun v76 => bO (gfI M72 (W.ad (.o 13 0)) 13 21) fun v80 => if v80 ≤ v76 then (bO (rcv M72 (W.ad (.o 13 0)) 13) fun _ => bP (P_X13_good G F (W.ad (.o 13 0)) M72) fun v95 M95 => retZ v95 M95) else (bO (gfI M72 (W.ad (.o 13 0)) 13 22) fun v88 => bO (rcv M72 (W.ad (.o 13 0)) 13) fun _ => bO (P_X13_fail G F (W.ad (.o 13 0)) v88 M72) fun M91 => bO (rcv M91 (W.ad (.o 13 0)) 13) fun _ => bP (P_X13_good G F (W.ad (.o 13 0)) M91) fun v95 M95 => retZ v95 M95)))]
  rw [← ead, ma_lo h', bO_s, QM_blanks X' h' K C hl (Nat.zero_le _), bO_s, ma_lo h', bO_s, ← hV]
  unfold rdT
  cases hrv : rv s 45 (skb s 0) (0, (fun _ _ => 0), []) 0 0 0 0 with
  | inl q =>
    rw [hrv] at v
    have hq := rv_bad w0 (Nat.le_refl _) (Nat.le_refl _) hrv
    obtain ⟨o2, p2, acc2, q1, q2, q3⟩ := v
    rw [q1, bO_s, ma_lo h', bO_s, QM_good0 h' (by omega), bP_s, if_pos rfl, ma_lo h', bO_s, QM_good0 h' (by omega), bP_s]
    refine ⟨mro o2 p2 (Int32.ofNat q) (Int32.ofNat (8200 * bk + acc2.length)) (wrB β (8200 * bk) acc2), rfl, ag _ _ _ _ _ q2, kt _ _ _ _ _ q2 q3, ⟨_, rfl⟩, rfl⟩
  | inr z =>
    obtain ⟨q, J⟩ := z
    rw [hrv] at v
    obtain ⟨k1, k2, k3, k4⟩ := rv_ok w0 (Nat.le_refl _) (Nat.le_refl _) hrv
    have hq := k2.2.1
    have Y := k2.x hl
    obtain ⟨o2, q1, q2, q3, q4, q5⟩ := v
    have C2 : SrC o2 ks p0 s := q2.src hksv C
    have n2 := skb_len hq
    have e21 : ∀ x : Int32, gfI (mem V (MA S o2 x (-1) (8200 * bk) β J.2.2)) (V.ad (.o 13 0)) 13 21 = some (Int32.ofNat s.length) := by
      intro x
      obtain ⟨_, _, _, c3, _⟩ := C2
      rw [ma_o h' 21 rfl (by decide), c3]
    rw [q1, bO_s, ma_lo h', bO_s, QM_good1 h', bP_s, if_neg (by decide), ma_lo h', bO_s, QM_blanks X' h' K C2 hl hq, bO_s, ma_at h', bO_s, e21, bO_s]
    show ∃ o', _ = some (match (if skb s q < s.length then Sum.inl (skb s q) else Sum.inr J : Nat ⊕ JT) with | .inl _ => (0 : Int32) | .inr _ => (1 : Int32), mem V (S.so 13 0 o')) ∧ _ ∧ _ ∧ _ ∧ match (if skb s q < s.length then Sum.inl (skb s q) else Sum.inr J : Nat ⊕ JT) with | .inl q => o'.f 23 = (Int32.ofNat q) | .inr J => MTx o' bk J ∧ JX J
    by_cases hin : skb s q < s.length
    · rw [if_pos hin, if_neg (fun x => absurd ((n_le (by omega) (by omega)).mp x) (by omega)), bO_s, ma_lo h', bO_s, QM_fail h', bO_s, ma_lo h', bO_s, QM_good0 h' (by omega), bP_s]
      exact ⟨mro o2 (Int32.ofNat (skb s q)) (Int32.ofNat (skb s q)) (Int32.ofNat (8200 * bk + J.2.2.length)) (wrB β (8200 * bk) J.2.2), rfl, ag _ _ _ _ _ q2, kt _ _ _ _ _ q2 Y.1, ⟨_, rfl⟩, rfl⟩
    · rw [if_neg hin, if_pos ((n_le (by omega) (by omega)).mpr (by omega)), ma_lo h', bO_s, QM_good1 h', bP_s]
      refine ⟨mro o2 (Int32.ofNat (skb s q)) (-1) (Int32.ofNat (8200 * bk + J.2.2.length)) (wrB β (8200 * bk) J.2.2), rfl, ag _ _ _ _ _ q2, kt _ _ _ _ _ q2 Y.1, ⟨_, rfl⟩, ⟨q3, fun i a b => ?_, _, rfl, rdB_wrB _ _ _⟩, Y⟩
      have t := q5 i a b
      exact t
end MTOP
