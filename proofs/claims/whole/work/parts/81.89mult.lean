/-! THE CALL multiply -/
def bpt : Int × Int := ((bX_ : Int), (bY_ : Int))
def ptOf (xy : List UInt8) : Int × Int := (((beN (seg xy 0 32) : Nat) : Int), ((beN (seg xy 32 32) : Nat) : Int))
def mulC (rows : Nat → List UInt8) (x y : Int32) : Option (Option (List UInt8)) := if isr x && decide ((rows x.toNatClampNeg).length = 32) then (if y = -1 then some ((affS (mulS (rows x.toNatClampNeg) bpt)).map ptB) else if isr y && (decide ((rows y.toNatClampNeg).length = 64) && onC (beN (seg (rows y.toNatClampNeg) 0 32)) (beN (seg (rows y.toNatClampNeg) 32 32))) then some ((affS (mulS (rows x.toNatClampNeg) (ptOf (rows y.toNatClampNeg)))).map ptB) else none) else none
theorem m1_row {r : Nat} (h : r < 8) : ¬ (Int32.ofNat r) = -1 := by
  intro q
  have := congrArg Int32.toInt q
  rw [Int32.toInt_ofNat_of_lt (by omega)] at this
  have e : (-1 : Int32).toInt = -1 := by decide
  omega
theorem seg_rd {β : Nat → UInt8} {p n a b : Nat} (h : a + b ≤ n) : seg (rdB β p n) a b = rdB β (p + a) b := by
  unfold seg
  rw [rdB_drop (by omega), rdB_tk (by omega)]
section MULT
variable {W : WR} {G : mG} {F : Nat} {S : ST} {V : Nat → Int}
theorem Q11_mul108 {pk ix : Nat} {m t : List UInt8} {lm l ln : Bool} (pr : PrP) (X : Cx G F W) (h : isT W) (hc : isCu W) (h16 : W.r 11 0 16 = some (.o 3 0)) (hx : ix < 8) (hpk : pk = 0 ∨ pk = 1) (K : CK S V) (bm : Byt 8192 (S 0 ix) m lm) (bn : Byt 0 (S 0 10) [] ln) (hs : Byt 8192 (S 0 9) t l) : ∃ S' V', B_X11_multiply_108 G F (W.ad (.o 11 0)) (W.ad (.o 3 0)) (W.ad (.o 0 ix)) (W.ad (.a 3 0 pk)) (mem W S) = some (match (affS (mulS m (V (9 + 2 * pk), V (10 + 2 * pk)))).map ptB with | some u => (Int32.ofNat u.length) | none => -1, mem W S') ∧ fr [(3, 0), (6, 1), (0, 9)] S S' ∧ CK S' V' ∧ match (affS (mulS m (V (9 + 2 * pk), V (10 + 2 * pk)))).map ptB with | some u => Byt 8192 (S' 0 9) u false | none => S' 0 9 = S 0 9 := by
  have k14 := K.2.2.2.2.1
  obtain ⟨S1, V1, g1, f1, C1, k1, J1⟩ := Q3_sumUp (G := G) (F := F) (ms := m) (ns := []) (pk := pk) (qk := 0) pr X hc (h.rb ix hx) h.nb hpk (Or.inl rfl) K.c k14 bm bn
  rw [sumS_nil _ _ _ (V (9 + 2 * pk), V (10 + 2 * pk))] at J1
  have K1 : CK S1 V1 := K.keep f1 (by simp [wc]) C1 (fun k hk _ _ => k1 k hk)
  have s1 : Byt 8192 (S1 0 9) t l := Byt.lfr f1 hs
  obtain ⟨S2, V2, g2, f2, K2, k2, r2⟩ := Q3_putSum (G := G) (F := F) (it := 9) X hc K1 J1 h.sb (by decide) (by decide) s1
  have f12 : fr [(3, 0), (6, 1), (0, 9)] S S2 := (f1.fr (L' := [(3, 0), (6, 1), (0, 9)]) (by simp [ow, wc])).trans f2
  have g0 : gfR (mem W S) (W.ad (.o 3 0)) 3 0 = some (W.ad (.a 3 0 0)) := hc.gA 0 (by decide) rfl S
  unfold B_X11_multiply_108
  rw [h.gR rfl h.nothing, bO_s, h.gR rfl h16, bO_s, g0, bO_s, rcv_m hc.1, bO_s, g1, bO_s, h.gR rfl h16, bO_s, h.gR rfl h.shown, bO_s, rcv_m hc.1, bO_s, g2, bP_s]
  show ∃ S' V', (if (if (affS (mulS m (V (9 + 2 * pk), V (10 + 2 * pk)))).isSome = true then (1 : Int32) else 0) = 0 then _ else _) = _ ∧ _
  have r2' : match affS (mulS m (V (9 + 2 * pk), V (10 + 2 * pk))) with | some q => Byt 8192 (S2 0 9) (ptB q) false | none => S2 = S1 := r2
  cases ha : affS (mulS m (V (9 + 2 * pk), V (10 + 2 * pk))) with
  | none =>
    rw [ha] at r2'
    rw [if_pos (by rfl)]
    exact ⟨S2, V2, rfl, f12, K2, by show S2 0 9 = S 0 9; rw [r2']; exact (f1.fr (L' := [(3, 0), (6, 1)]) (by simp [ow, wc])) 0 9 (by simp)⟩
  | some q =>
    rw [ha] at r2'
    have r2'' : Byt 8192 (S2 0 9) (ptB q) false := r2'
    rw [if_neg (by simp), h.gR rfl h.shown, bO_s, h.sb.gI 1 rfl, bO_s, r2''.many]
    exact ⟨S2, V2, rfl, f12, K2, r2''⟩
theorem Q11_multiply {rows : Nat → List UInt8} {t : List UInt8} {l ln : Bool} {x y : Int32} (pr : PrP) (X : Cx G F W) (h : isT W) (hc : isCu W) (h16 : W.r 11 0 16 = some (.o 3 0)) (K : CK S V) (bn : Byt 0 (S 0 10) [] ln) (hs : Byt 8192 (S 0 9) t l) (hR : ∀ r, r < 8 → ∃ l, Byt 8192 (S 0 r) (rows r) l) : ∃ S' V', P_X11_multiply G F (W.ad (.o 11 0)) x y (mem W S) = some (match mulC rows x y with | some (some u) => (Int32.ofNat u.length) | some none => -1 | none => -2, mem W S') ∧ fr [(3, 0), (6, 1), (0, 9)] S S' ∧ CK S' V' ∧ match mulC rows x y with | some (some u) => Byt 8192 (S' 0 9) u false | some none => S' 0 9 = S 0 9 | none => S' 0 9 = S 0 9 := by
  have g0 : ∀ S : ST, gfR (mem W S) (W.ad (.o 3 0)) 3 0 = some (W.ad (.a 3 0 0)) := fun S => hc.gA 0 (by decide) rfl S
  have g1 : ∀ S : ST, gfR (mem W S) (W.ad (.o 3 0)) 3 1 = some (W.ad (.a 3 0 1)) := fun S => hc.gA 1 (by decide) rfl S
  have bad : ∃ S' V', some ((-2 : Int32), mem W S) = some ((-2 : Int32), mem W S') ∧ fr [(3, 0), (6, 1), (0, 9)] S S' ∧ CK S' V' ∧ S' 0 9 = S 0 9 := ⟨S, V, rfl, fr.refl _ _, K, rfl⟩
  unfold P_X11_multiply mulC
  rw [rcv_m h.lo, bO_s, Q11_isRow, bP_s]
  rcases isr_cases x with hx | ⟨x', hx', rfl, hx⟩
  · rw [hx, if_pos (by rfl)]
    exact bad
  obtain ⟨lx, bx⟩ := hR x' hx'
  have hlx := bx.le
  rw [hx, if_neg (by decide), h.gR rfl h.ra, bO_s, h.row hx', bO_s, (h.rb x' hx').gI 1 rfl, bO_s, bx.many, n_at (by omega)]
  by_cases c1 : (rows x').length = 32
  · rw [if_pos (show (Int32.ofNat (rows x').length) = 32 by rw [c1]; rfl), decide_eq_true c1]
    simp only [Bool.and_self, if_true]
    by_cases cy : y = -1
    · have e9 : (V (9 + 2 * 0), V (10 + 2 * 0)) = bpt := by
        show (V 9, V 10) = bpt
        rw [K.2.1, K.2.2.1]
        rfl
      obtain ⟨S1, V1, q1, f1, K1, r1⟩ := Q11_mul108 (G := G) (F := F) (pk := 0) pr X h hc h16 hx' (Or.inl rfl) K bx bn hs
      rw [e9] at q1 r1
      rw [if_pos cy, if_pos cy]
      unfold B_X11_multiply_38
      rw [if_pos cy]
      unfold B_X11_multiply_76
      rw [h.gR rfl h16, bO_s, h.gR rfl h.ra, bO_s, h.row hx', bO_s, if_pos cy, bO_s, g0, bO_s, q1]
      refine ⟨S1, V1, ?_, f1, K1, ?_⟩
      · cases (affS (mulS (rows x') bpt)).map ptB <;> rfl
      · cases hm : (affS (mulS (rows x') bpt)).map ptB <;> rw [hm] at r1 <;> exact r1
    · rw [if_neg cy, if_neg cy, rcv_m h.lo, bO_s, Q11_isRow, bP_s]
      rcases isr_cases y with hy | ⟨y', hy', rfl, hy⟩
      · rw [hy, if_pos (by rfl)]
        exact bad
      obtain ⟨ly, by_⟩ := hR y' hy'
      have hly := by_.le
      rw [hy, if_neg (by decide), n_at (by omega)]
      unfold B_X11_multiply_38
      rw [if_neg cy, h.gR rfl h.ra, bO_s, h.row hy', bO_s, (h.rb y' hy').gI 1 rfl, bO_s, by_.many]
      by_cases c2 : (rows y').length = 64
      · obtain ⟨S1, V1, q1, f1, K1, k1, r1⟩ := Q3_load (G := G) (F := F) X hc K (h.rb y' hy') by_ (by omega)
        rw [if_pos (show (Int32.ofNat (rows y').length) = 64 by rw [c2]; rfl), decide_eq_true c2, h.gR rfl h16, bO_s, bO_s, h.row hy', bO_s, rcv_m hc.1, bO_s, q1, bP_s]
        have fr1 : fr [(3, 0), (6, 1), (0, 9)] S S1 := f1.fr (by simp [ow, wc])
        have e90 : S1 0 9 = S 0 9 := (f1.fr (L' := [(3, 0), (6, 1)]) (by simp [ow, wc])) 0 9 (by simp)
        cases ho : onC (beN (seg (rows y') 0 32)) (beN (seg (rows y') 32 32)) with
        | false =>
          rw [if_neg (c := false = true) (by decide), if_pos rfl]
          exact ⟨S1, V1, rfl, fr1, K1, e90⟩
        | true =>
          obtain ⟨v11, v12⟩ := r1 ho
          have e11 : (V1 (9 + 2 * 1), V1 (10 + 2 * 1)) = ptOf (rows y') := by
            show (V1 11, V1 12) = _
            rw [v11, v12]
            rfl
          obtain ⟨S2, V2, q2, f2, K2, r2⟩ := Q11_mul108 (G := G) (F := F) (pk := 1) pr X h hc h16 hx' (Or.inr rfl) K1 (Byt.lfr f1 bx) (Byt.lfr f1 bn) (Byt.lfr f1 hs)
          rw [e11] at q2 r2
          rw [if_pos (c := true = true) rfl, if_neg (by decide)]
          unfold B_X11_multiply_76
          rw [h.gR rfl h16, bO_s, h.gR rfl h.ra, bO_s, h.row hx', bO_s, if_neg cy, bO_s, g1, bO_s, q2]
          simp only [Bool.and_self, if_true]
          refine ⟨S2, V2, ?_, fr1.trans f2, K2, ?_⟩
          · cases (affS (mulS (rows x') (ptOf (rows y')))).map ptB <;> rfl
          · cases hm : (affS (mulS (rows x') (ptOf (rows y')))).map ptB <;> rw [hm] at r2
            · exact r2.trans e90
            · exact r2
      · rw [if_neg (show ¬ (Int32.ofNat (rows y').length) = 64 by rw [lit 64]; exact fun q => c2 ((n_eq (by omega) (by omega)).mp q)), decide_eq_false c2]
        exact bad
  · rw [if_neg (show ¬ (Int32.ofNat (rows x').length) = 32 by rw [lit 32]; exact fun q => c1 ((n_eq (by omega) (by omega)).mp q)), decide_eq_false c1]
    exact bad
/-- what stands of the model's curve between calls -/
def MK (S : ST) : Prop := MPq S ∧ MdS S 2 8 nP ∧ (∃ β, mB (S 13 0) 63 β ∧ rdB β 0 32 = beV 32 pP) ∧ (∃ β, mB (S 13 0) 64 β ∧ rdB β 0 32 = beV 32 nP) ∧ (∃ β, mB (S 13 0) 65 β ∧ rdB β 0 64 = beV 32 bX_ ++ beV 32 bY_) ∧ ∃ β, mB (S 13 0) 67 β
theorem base_pt {β : Nat → UInt8} (e : rdB β 0 64 = beV 32 bX_ ++ beV 32 bY_) : beN (rdB β 0 32) = bX_ ∧ beN (rdB β (0 + 32) 32) = bY_ := by
  have hx : bX_ < pP + 1 := by decide +kernel
  have hy : bY_ < pP + 1 := by decide +kernel
  constructor
  · rw [rdB_take β 0 64 32 (by decide), e, List.take_left' (beV_len 32 bX_), beN_32 hx]
  · have := rdB_drop (β := β) (p := 0) (n := 64) (a := 32) (by decide)
    rw [← this, e, List.drop_left' (beV_len 32 bX_), beN_32 hy]
theorem QM_mul74 {x' : Nat} {rows : Nat → List UInt8} {t : List UInt8} {β β63 : Nat → UInt8} (pr : PrP) (X : Cx G F W) (h : isM W) (hp : isMp W) (C : MP S V) (ho : mOut (S 13 0) t) (r1 : mB (S 13 0) 2 β) (hx : x' < 8) (c1 : (rows x').length = 32) (r5 : rdB β (8192 * x') (rows x').length = rows x') (h63 : mB (S 13 0) 63 β63) (e63 : rdB β63 0 32 = beV 32 pP) (h67 : ∃ β, mB (S 13 0) 67 β) (h79 : ∃ β, mB (S 13 0) 79 β) : ∃ S' V', B_X13_multiply_74 G F (W.ad (.o 13 0)) (Int32.ofNat x') 1 (mem W S) = some (match (affS (mulS (rows x') (V 8, V 9))).map ptB with | some u => (Int32.ofNat u.length) | none => -1, mem W S') ∧ fr [(12, 1), (13, 0)] S S' ∧ agr [73, 5] [] [67, 68, 69, 70, 71, 72, 74, 75, 76, 77, 78, 79, 4] [] (S 13 0) (S' 13 0) ∧ MP S' V' ∧ (∀ k, 8 ≤ k → V' k = V k) ∧ (∃ β, mB (S' 13 0) 67 β) ∧ (∃ β, mB (S' 13 0) 79 β) ∧ mOut (S' 13 0) (match (affS (mulS (rows x') (V 8, V 9))).map ptB with | some u => u | none => t) := by
  obtain ⟨β79, h79⟩ := h79
  obtain ⟨β67, h67⟩ := h67
  obtain ⟨S1, V1, g1, f1, C1, k1, J1⟩ := QM_times (G := G) (F := F) (kb := 2) (p := 8192 * x') pr X h hp rfl (by decide) (by show _ ≤ 65536; omega) C r1
  rw [show rdB β (8192 * x') 32 = rows x' by rw [← c1]; exact r5] at J1
  obtain ⟨S2, V2, g2, f2, a2, C2, k2, m67, r2⟩ := QM_getPoint (G := G) (F := F) (S := S1) (kt := 79) (pt := 0) X h hp rfl (by decide) (by decide) (by decide) (by decide) C1 J1 (f1.2.mB h63 (by decide)) e63 ⟨β67, f1.2.mB h67 (by decide)⟩ (f1.2.mB h79 (by decide))
  have g2' : P_X13_getPoint G F (W.ad (.o 13 0)) (W.ad (.a 13 0 79)) 0 (mem W S1) = _ := g2
  have a12 : agr [73, 5] [] [67, 68, 69, 70, 71, 72, 74, 75, 76, 77, 78, 79, 4] [] (S 13 0) (S2 13 0) := (f1.2.mono (by decide) (by decide) (by decide) (by decide)).trans (a2.mono (by decide) (by decide) (by decide) (by decide))
  have ho2 : mOut (S2 13 0) t := a2.mOut (f1.2.mOut ho (by decide) (by decide)) (by decide) (by decide)
  unfold B_X13_multiply_74
  rw [if_neg (by decide), h.gR 2 rfl (by decide), bO_s, rcv_m h.lo, bO_s, show (8192 : Int32) * (Int32.ofNat x') = (Int32.ofNat (8192 * x')) from n_mul 8192 x', g1, bO_s, h.gR 79 rfl (by decide), bO_s, rcv_m h.lo, bO_s, g2', bP_s]
  have kk : ∀ k, 8 ≤ k → V2 k = V k := fun k hk => (k2 k hk).trans (k1 k hk)
  cases ha : affS (mulS (rows x') (V 8, V 9)) with
  | none =>
    rw [ha] at r2
    have r2 : S2 = S1 := r2
    rw [if_pos (by rfl)]
    exact ⟨S2, V2, rfl, f1.1.trans f2, a12, C2, kk, m67, ⟨β79, by rw [r2]; exact f1.2.mB h79 (by decide)⟩, ho2⟩
  | some q =>
    rw [ha] at r2
    have r2 : mB (S2 13 0) 79 (wrB β79 0 (ptB q)) := r2
    have hl := ptB_len q
    obtain ⟨o1, o2, β4, o4, o5⟩ := id ho2
    have tl := QM_tell (G := G) (F := F) (S := S2) (k := 79) (p := 0) (cnt := 64) X h rfl (by decide) (by decide) (by decide) (by decide) r2 o4
    rw [show rdB (wrB β79 0 (ptB q)) 0 64 = ptB q by rw [← hl]; exact rdB_wrB _ _ _] at tl
    have tl' : P_X13_tell G F (W.ad (.o 13 0)) (W.ad (.a 13 0 79)) 0 64 (mem W S2) = _ := tl
    rw [if_neg (by simp), h.gR 79 rfl (by decide), bO_s, rcv_m h.lo, bO_s, tl', bP_s]
    obtain ⟨γ67, m67⟩ := m67
    have fi : ∀ v w, MP S2 V2 → MP (S2.so 13 0 (((S2 13 0).sA 4 v).sf 5 w)) V2 := by
      intro v w D
      have D1 := D.by (kt := 4) (f := v) rfl
      obtain ⟨⟨⟨a, b, c, d, e⟩, ⟨tw, f⟩, g, i⟩, j⟩ := D1
      have ei : ∀ z, igt (S2.so 13 0 (((S2 13 0).sA 4 v).sf 5 w)) z = igt (ist S2 (.a 13 0 4) v) z := by
        intro z
        have := igt_sf (S := ist S2 (.a 13 0 4) v) (c := 13) (i := 0) (k := 5) (v := w) z
        rw [← this]
        show igt _ z = igt ((S2.so 13 0 _).so 13 0 (((S2.so 13 0 _) 13 0).sf 5 w)) z
        rw [so_so, so_eq]
      have e12 : (S2.so 13 0 (((S2 13 0).sA 4 v).sf 5 w)) 12 1 = (ist S2 (.a 13 0 4) v) 12 1 := by
        show _ = (S2.so 13 0 _) 12 1
        rw [so_ne (by omega), so_ne (by omega)]
      refine ⟨⟨⟨by rw [e12]; exact a, b, c, by rw [ei]; exact d, e⟩, ⟨tw, by rw [e12]; exact f⟩, by rw [ei]; exact g, by rw [ei]; exact i⟩, fun k hk => ?_⟩
      unfold GV
      rw [ei]
      exact j k hk
    refine ⟨_, V2, by show some (_, _) = some ((Int32.ofNat (ptB q).length), _); rw [hl], (f1.1.trans f2).trans (fr_so (by simp)), ?_, fi _ _ C2, kk, ⟨γ67, by rw [so_eq]; exact mB_sA' (by decide) m67⟩, ⟨_, by rw [so_eq]; exact mB_sA' (by decide) r2⟩, ?_⟩
    · rw [so_eq]
      exact (a12.trans (agr_sA (by decide))).trans (agr_sf (by decide))
    · rw [so_eq]
      refine ⟨by rw [sf_f, if_pos rfl]; show (Int32.ofNat 64) = (Int32.ofNat (ptB q).length); rw [hl], by show (ptB q).length ≤ 8192; omega, _, mB_sA _ _ _, ?_⟩
      show rdB _ 0 (ptB q).length = ptB q
      exact rdB_wrB _ 0 _
theorem QM_multiply {rows : Nat → List UInt8} {t : List UInt8} {x y : Int32} (pr : PrP) (X : Cx G F W) (h : isM W) (hp : isMp W) (K : MK S) (ho : mOut (S 13 0) t) (hR : mRows (S 13 0) rows) (h79 : ∃ β, mB (S 13 0) 79 β) : ∃ S', P_X13_multiply G F (W.ad (.o 13 0)) x y (mem W S) = some (match mulC rows x y with | some (some u) => (Int32.ofNat u.length) | some none => -1 | none => -2, mem W S') ∧ fr [(12, 1), (13, 0)] S S' ∧ agr [73, 5] [] [67, 68, 69, 70, 71, 72, 74, 75, 76, 77, 78, 79, 4] [] (S 13 0) (S' 13 0) ∧ MK S' ∧ (∃ β, mB (S' 13 0) 79 β) ∧ mOut (S' 13 0) (match mulC rows x y with | some (some u) => u | some none => t | none => t) := by
  have hR' := hR
  obtain ⟨β, r1, r2⟩ := hR
  obtain ⟨Q, MN, ⟨β63, h63, e63⟩, ⟨β64, h64, e64⟩, ⟨β65, h65, e65⟩, h67⟩ := id K
  have bad : ∃ S', some ((-2 : Int32), mem W S) = some ((-2 : Int32), mem W S') ∧ fr [(12, 1), (13, 0)] S S' ∧ agr [73, 5] [] [67, 68, 69, 70, 71, 72, 74, 75, 76, 77, 78, 79, 4] [] (S 13 0) (S' 13 0) ∧ MK S' ∧ (∃ β, mB (S' 13 0) 79 β) ∧ mOut (S' 13 0) t := ⟨S, rfl, fr.refl _ _, agr.refl _ _ _ _ _, K, h79, ho⟩
  have keep : ∀ {S' : ST}, fr [(12, 1), (13, 0)] S S' → agr [73, 5] [] [67, 68, 69, 70, 71, 72, 74, 75, 76, 77, 78, 79, 4] [] (S 13 0) (S' 13 0) → MPq S' → (∃ β, mB (S' 13 0) 67 β) → MK S' := fun f a q b => ⟨q, MN.fr f (by decide), ⟨β63, a.mB h63 (by decide), e63⟩, ⟨β64, a.mB h64 (by decide), e64⟩, ⟨β65, a.mB h65 (by decide), e65⟩, b⟩
  obtain ⟨β79, h79⟩ := h79
  obtain ⟨β67, h67⟩ := h67
  unfold P_X13_multiply mulC
  rw [Q13_isRow, bP_s]
  rcases isr_cases x with hx | ⟨x', hx', rfl, hx⟩
  · rw [hx, if_pos (by rfl)]
    exact bad
  obtain ⟨x3, x4, x5⟩ := r2 x' hx'
  rw [hx, if_neg (by decide), h.gR 3 rfl (by decide), bO_s, h.aN rfl (show x' < 8 from hx') (by decide), bO_s, x3, n_at (by omega)]
  by_cases c1 : (rows x').length = 32
  · rw [if_pos (show (Int32.ofNat (rows x').length) = 32 by rw [c1]; rfl), decide_eq_true c1]
    simp only [Bool.and_self, if_true]
    have main : ∀ (S1 : ST) (V1 : Nat → Int), PF S S1 → MP S1 V1 → V1 10 = bP_ → ∃ S', B_X13_multiply_74 G F (W.ad (.o 13 0)) (Int32.ofNat x') 1 (mem W S1) = some (match (affS (mulS (rows x') (V1 8, V1 9))).map ptB with | some u => (Int32.ofNat u.length) | none => -1, mem W S') ∧ fr [(12, 1), (13, 0)] S S' ∧ agr [73, 5] [] [67, 68, 69, 70, 71, 72, 74, 75, 76, 77, 78, 79, 4] [] (S 13 0) (S' 13 0) ∧ MK S' ∧ (∃ β, mB (S' 13 0) 79 β) ∧ mOut (S' 13 0) (match (affS (mulS (rows x') (V1 8, V1 9))).map ptB with | some u => u | none => t) := by
      intro S1 V1 f1 C1 vb
      obtain ⟨S2, V2, g2, f2, a2, C2, k2, m67, m79, o2⟩ := QM_mul74 (G := G) (F := F) (x' := x') (rows := rows) (t := t) (β63 := β63) pr X h hp C1 (f1.2.mOut ho (by decide) (by decide)) (f1.2.mB r1 (by decide)) hx' c1 x5 (f1.2.mB h63 (by decide)) e63 ⟨β67, f1.2.mB h67 (by decide)⟩ ⟨β79, f1.2.mB h79 (by decide)⟩
      have ff := f1.1.trans f2
      have aa := (f1.2.mono (by decide) (by decide) (by decide) (by decide)).trans a2
      exact ⟨S2, g2, ff, aa, keep ff aa (C2.q ((k2 10 (by omega)).trans vb)) m67, m79, o2⟩
    by_cases cy : y = -1
    · obtain ⟨S1, g1, f1, q1, r1'⟩ := QM_setPoint (G := G) (F := F) (kb := 65) (p := 0) X h hp rfl (by decide) (by decide) Q h65
      obtain ⟨ex, ey⟩ := base_pt e65
      rw [ex, ey] at g1 r1'
      have g1' : P_X13_setPoint G F (W.ad (.o 13 0)) (W.ad (.a 13 0 65)) 0 (mem W S) = _ := g1
      rw [onC_base, if_pos rfl] at g1'
      obtain ⟨V1, C1, v8, v9, v10⟩ := r1' onC_base
      obtain ⟨S2, g2, f2, a2, K2, m2, o2⟩ := main S1 V1 f1 C1 v10
      have e89 : (V1 8, V1 9) = bpt := by rw [v8, v9]; rfl
      rw [e89] at g2 o2
      rw [if_pos cy, if_pos cy]
      unfold B_X13_multiply_44
      rw [if_pos cy, h.gR 65 rfl (by decide), bO_s, rcv_m h.lo, bO_s, g1', bP_s, g2]
      refine ⟨S2, ?_, f2, a2, K2, m2, ?_⟩
      · cases (affS (mulS (rows x') bpt)).map ptB <;> rfl
      · cases hm : (affS (mulS (rows x') bpt)).map ptB <;> rw [hm] at o2 <;> exact o2
    · rw [if_neg cy, if_neg cy, Q13_isRow, bP_s]
      rcases isr_cases y with hy | ⟨y', hy', rfl, hy⟩
      · rw [hy, if_pos (by rfl)]
        exact bad
      obtain ⟨y3, y4, y5⟩ := r2 y' hy'
      rw [hy, if_neg (by decide), h.gR 3 rfl (by decide), bO_s, h.aN rfl (show y' < 8 from hy') (by decide), bO_s, y3, n_at (by omega)]
      by_cases c2 : (rows y').length = 64
      · obtain ⟨S1, g1, f1, q1, r1'⟩ := QM_setPoint (G := G) (F := F) (kb := 2) (p := 8192 * y') X h hp rfl (by decide) (by show _ ≤ 65536; omega) Q r1
        have sx : rdB β (8192 * y') 32 = seg (rows y') 0 32 := by
          rw [← y5, c2, seg_rd (by decide)]
          rfl
        have sy : rdB β (8192 * y' + 32) 32 = seg (rows y') 32 32 := by rw [← y5, c2, seg_rd (by decide)]
        rw [sx, sy] at g1 r1'
        rw [if_pos (show (Int32.ofNat (rows y').length) = 64 by rw [c2]; rfl), decide_eq_true c2]
        unfold B_X13_multiply_44
        rw [if_neg cy, h.gR 2 rfl (by decide), bO_s, rcv_m h.lo, bO_s, show (8192 : Int32) * (Int32.ofNat y') = (Int32.ofNat (8192 * y')) from n_mul 8192 y', g1, bP_s]
        cases hoc : onC (beN (seg (rows y') 0 32)) (beN (seg (rows y') 32 32)) with
        | false =>
          rw [if_neg (c := false = true) (by decide)]
          unfold B_X13_multiply_74
          rw [if_pos rfl]
          have aa := f1.2.mono (fs' := [73, 5]) (gs' := []) (as' := [67, 68, 69, 70, 71, 72, 74, 75, 76, 77, 78, 79, 4]) (ls' := []) (by decide) (by decide) (by decide) (by decide)
          exact ⟨S1, rfl, f1.1, aa, keep f1.1 aa q1 ⟨β67, f1.2.mB h67 (by decide)⟩, ⟨β79, f1.2.mB h79 (by decide)⟩, f1.2.mOut ho (by decide) (by decide)⟩
        | true =>
          obtain ⟨V1, C1, v8, v9, v10⟩ := r1' hoc
          obtain ⟨S2, g2, f2, a2, K2, m2, o2⟩ := main S1 V1 f1 C1 v10
          have e89 : (V1 8, V1 9) = ptOf (rows y') := by rw [v8, v9]; rfl
          rw [e89] at g2 o2
          rw [if_pos (c := true = true) rfl, g2]
          simp only [Bool.and_self, if_true]
          refine ⟨S2, ?_, f2, a2, K2, m2, ?_⟩
          · cases (affS (mulS (rows x') (ptOf (rows y')))).map ptB <;> rfl
          · cases hm : (affS (mulS (rows x') (ptOf (rows y')))).map ptB <;> rw [hm] at o2 <;> exact o2
      · rw [if_neg (show ¬ (Int32.ofNat (rows y').length) = 64 by rw [lit 64]; exact fun q => c2 ((n_eq (by omega) (by omega)).mp q)), decide_eq_false c2]
        exact bad
  · rw [if_neg (show ¬ (Int32.ofNat (rows x').length) = 32 by rw [lit 32]; exact fun q => c1 ((n_eq (by omega) (by omega)).mp q)), decide_eq_false c1]
    exact bad
end MULT
