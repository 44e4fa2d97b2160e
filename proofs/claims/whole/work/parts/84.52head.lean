/-! A SIGNED TOKEN'S HEAD: the class -/
/-- a head has what both sorts of tokens ask -/
def hdS (J : JT) : Bool := kB J (some 0) 6 && (kB J (fd J 56) 4 && (decide (fd J 55 = none ∨ kB J (fd J 55) 4 = true) && (match fd J 54 with | some c => crB J c | none => true)))
/-- what is named critical is known -/
def knB (J : JT) : Bool := match fd J 54 with
  | some c => decide (J.2.1 5 c = 1) && (sayB J (some (c + 1)) (str 57) && (kB J (fd J 57) 1 || kB J (fd J 57) 2))
  | none => true
def sgA (J : JT) : Option Nat := lsF J (fd J 56) (fun a => 33 + (0 + a)) 5 0
/-- the payload stands as it is -/
def brB (J : JT) : Bool := (fd J 54).isSome && kB J (fd J 57) 1
def sgR (J : JT) : Int32 := if hdS J = true then (if knB J = true then (if sgA J = none then -25 else 0) else -24) else -23
theorem oI_n {o : Option Nat} (h : ∀ i, o = some i → i < 2 ^ 31) : (oI o = (-1 : Int32)) = (o = none) := by
  cases o with
  | none => exact propext ⟨fun _ => rfl, fun _ => rfl⟩
  | some i => exact propext ⟨fun q => absurd q (n_nm (h i rfl)), fun q => absurd q (by simp)⟩
theorem ls_lt {J : JT} {o : Option Nat} {f : Nat → Nat} : ∀ {m a i : Nat}, lsF J o f m a = some i → a ≤ i ∧ i < a + m := by
  intro m
  induction m with
  | zero => exact fun h => absurd h (by simp [lsF])
  | succ m ih =>
    intro a i h
    have h : (if sayB J o (str (f a)) = true then some a else lsF J o f m (a + 1)) = some i := h
    split at h
    · have := Option.some.inj h
      omega
    · have := ih h
      omega
section HDS
variable {W : WR} {G : mG} {F : Nat} {S : ST} {t ip : Nat} {J : JT} {lp : Bool}
theorem Q9_isKind' {o : Option Nat} {kd : Nat} {x y : Int32} (K : isTx W t ip) (C : TbC (S 9 t) J) (Y : JX J) (hi : ∀ i, o = some i → i < 2 ^ 31) (hx : x = oI o) (hk : kd < 100) (hy : y = (Int32.ofNat kd)) : P_X9_isKind G F (W.ad (.o 9 t)) x y (mem W S) = some (if kB J o kd = true then 1 else 0, mem W S) := by
  subst hx hy
  exact Q9_isKind K C Y hi hk
theorem Q10_headSound (X : Cx G F W) (h : isTk W) (K : isTx W t ip) (C : TbC (S 9 t) J) (Y : JX J) (bp : Byt 8192 (S 0 ip) J.2.2 lp) : P_X10_isHeadSound G F (W.ad (.o 10 0)) (W.ad (.o 9 t)) (oI (fd J 54)) (mem W S) = some (if hdS J = true then 1 else 0, mem W (S.so 10 0 ((S 10 0).sf 15 (oI (fd J 55))))) := by
  have C' : ∀ o, TbC ((S.so 10 0 o) 9 t) J := fun o => by rw [so_ne (by omega)]; exact C
  have bp' : ∀ o, Byt 8192 ((S.so 10 0 o) 0 ip) J.2.2 lp := fun o => by rw [so_ne (by omega)]; exact bp
  unfold P_X10_isHeadSound
  rw [rcv_m K.1, bO_s, Q9_find0 X K C Y bp (by decide), bP_s, pfI_m h.1 rfl, bO_s, rcv_m K.1, bO_s, Q9_isKind' (x := 0) (y := 6) (o := some 0) (kd := 6) K (C' _) Y (fun i hi => by have := Option.some.inj hi; omega) rfl (by decide) rfl, bP_s]
  unfold hdS
  by_cases e1 : kB J (some 0) 6 = true
  · rw [if_pos e1, if_neg (by decide), rcv_m K.1, bO_s, Q9_find0 X K (C' _) Y (bp' _) (by decide), bP_s, rcv_m K.1, bO_s, Q9_isKind' (x := oI (fd J 56)) (y := 4) (o := fd J 56) (kd := 4) K (C' _) Y (fN_b Y) rfl (by decide) rfl, bP_s, e1, Bool.true_and]
    by_cases e2 : kB J (fd J 56) 4 = true
    · rw [if_pos e2, if_neg (by decide), gfI_m h.1 rfl, bO_s, rcv_m K.1, bO_s, so_eq, sf_eq, Q9_strNone K (C' _) Y (fN_b Y), bP_s, e2, Bool.true_and]
      by_cases e3 : fd J 55 = none ∨ kB J (fd J 55) 4 = true
      · rw [if_pos e3, if_neg (by decide), decide_eq_true e3, Bool.true_and]
        simp only [(show (oI (fd J 54) = (-1 : Int32)) = (fd J 54 = none) from oI_n (fN_b Y))]
        cases e4 : fd J 54 with
        | none => 
          rw [if_pos rfl]
          rfl
        | some c =>
          have hc := fN_lt e4
          rw [if_neg (by simp), rcv_m h.1, bO_s, show oI (some c) = (Int32.ofNat c) from rfl, Q10_crit X h K (C' _) Y (bp' _) hc, bP_s]
          by_cases e5 : crB J c = true
          · rw [if_pos e5, if_neg (by decide)]
            rfl
          · rw [if_neg e5, if_pos rfl]
            rfl
      · rw [if_neg e3, if_pos rfl, decide_eq_false e3]
        rfl
    · rw [if_neg e2, if_pos rfl, Bool.eq_false_iff.mpr e2]
      rfl
  · rw [if_neg e1, if_pos rfl, Bool.eq_false_iff.mpr e1]
    rfl
theorem Q10_sgn111 {o : Ob} (X : Cx G F W) (h : isTk W) (K : isTx W t ip) (C : TbC (S 9 t) J) (Y : JX J) (bp : Byt 8192 (S 0 ip) J.2.2 lp) : B_X10_signedHeadReason_111 G F (W.ad (.o 10 0)) (W.ad (.o 9 t)) (mem W (S.so 10 0 o)) = some (if sgA J = none then -25 else 0, mem W (S.so 10 0 (o.sf 1 (oI (sgA J))))) := by
  have C' : TbC ((S.so 10 0 o) 9 t) J := by rw [so_ne (by omega)]; exact C
  have bp' : Byt 8192 ((S.so 10 0 o) 0 ip) J.2.2 lp := by rw [so_ne (by omega)]; exact bp
  have sb : ∀ i, sgA J = some i → i < 2 ^ 31 := fun i hi => by have := ls_lt hi; omega
  have q := Q10_listed (G := G) (F := F) (from_ := 0) (many := 5) X K C' Y bp' (fN_b (w := str 56) (o := some 0) Y) (by decide)
  have q : P_X10_listed G F (W.ad (.o 9 t)) (oI (fd J 56)) 0 5 (mem W (S.so 10 0 o)) = some (oI (sgA J), mem W (S.so 10 0 o)) := q
  unfold B_X10_signedHeadReason_111
  rw [rcv_m K.1, bO_s, Q9_find0 X K C' Y bp' (by decide), bP_s, q, bP_s, pfI_m h.1 rfl, bO_s, gfI_m h.1 rfl, bO_s, so_eq, so_eq, so_so, sf_eq]
  simp only [oI_n sb]
  split <;> rfl
theorem Q10_sgn83 {o : Ob} {x : Int32} {z : Bool} (X : Cx G F W) (h : isTk W) (K : isTx W t ip) (C : TbC (S 9 t) J) (Y : JX J) (bp : Byt 8192 (S 0 ip) J.2.2 lp) (hx : x = if z = true then 1 else 0) : B_X10_signedHeadReason_83 G F (W.ad (.o 10 0)) (W.ad (.o 9 t)) (oI (fd J 57)) x (mem W (S.so 10 0 o)) = some (if (z && (kB J (fd J 57) 1 || kB J (fd J 57) 2)) = true then (if sgA J = none then -25 else 0) else -24, mem W (S.so 10 0 (if (z && (kB J (fd J 57) 1 || kB J (fd J 57) 2)) = true then o.sf 1 (oI (sgA J)) else o))) := by
  have C' : TbC ((S.so 10 0 o) 9 t) J := by rw [so_ne (by omega)]; exact C
  unfold B_X10_signedHeadReason_83
  cases z with
  | false =>
    rw [if_pos (by rw [hx]; rfl)]
    rfl
  | true =>
    rw [if_neg (by rw [hx]; decide), rcv_m K.1, bO_s, Q9_isKind' (x := oI (fd J 57)) (y := 1) (o := fd J 57) (kd := 1) K C' Y (fN_b Y) rfl (by decide) rfl, bP_s, Bool.true_and]
    by_cases e1 : kB J (fd J 57) 1 = true
    · rw [if_pos e1, if_neg (by decide), Q10_sgn111 X h K C Y bp, e1, Bool.true_or, if_pos rfl, if_pos rfl]
    · rw [if_neg e1, if_pos rfl, rcv_m K.1, bO_s, Q9_isKind' (x := oI (fd J 57)) (y := 2) (o := fd J 57) (kd := 2) K C' Y (fN_b Y) rfl (by decide) rfl, bP_s, Bool.eq_false_iff.mpr e1, Bool.false_or]
      by_cases e2 : kB J (fd J 57) 2 = true
      · rw [if_pos e2, if_neg (by decide), Q10_sgn111 X h K C Y bp, if_pos e2, if_pos e2]
      · rw [if_neg e2, if_pos rfl, if_neg e2, if_neg e2]
theorem Q10_sgn48 {o : Ob} {x : Int32} (X : Cx G F W) (h : isTk W) (K : isTx W t ip) (C : TbC (S 9 t) J) (Y : JX J) (bp : Byt 8192 (S 0 ip) J.2.2 lp) (hx : x = 0 ∨ x = 1) : ∃ o', B_X10_signedHeadReason_48 G F (W.ad (.o 10 0)) (W.ad (.o 9 t)) (oI (fd J 54)) (oI (fd J 57)) (W.ad (.o 10 0)) x (mem W (S.so 10 0 o)) = some (if knB J = true then (if sgA J = none then -25 else 0) else -24, mem W (S.so 10 0 o')) ∧ o' = if knB J = true then (o.sf 3 x).sf 1 (oI (sgA J)) else o.sf 3 x := by
  have C' : TbC ((S.so 10 0 (o.sf 3 x)) 9 t) J := by rw [so_ne (by omega)]; exact C
  have bp' : Byt 8192 ((S.so 10 0 (o.sf 3 x)) 0 ip) J.2.2 lp := by rw [so_ne (by omega)]; exact bp
  have Y2 := Y.2.1
  unfold B_X10_signedHeadReason_48
  rw [pfZ_m h.1 rfl hx, bO_s, so_eq, so_so]
  simp only [(show (oI (fd J 54) = (-1 : Int32)) = (fd J 54 = none) from oI_n (fN_b Y))]
  cases e4 : fd J 54 with
  | none =>
    have kn : knB J = true := by unfold knB; rw [e4]
    rw [if_pos rfl, Q10_sgn111 X h K C Y bp, if_pos kn, if_pos kn]
    exact ⟨_, rfl, rfl⟩
  | some c =>
    have hc := fN_lt e4
    obtain ⟨c1, c2, c3, c4, c5, c6, c7, c8⟩ := C'.2 c hc
    have yk := Y.2.2 c hc
    have e1 : ((Int32.ofNat (J.2.1 5 c)) = (1 : Int32)) = (J.2.1 5 c = 1) := propext (n_eq (b := 1) (by omega) (by omega))
    have kn : knB J = (decide (J.2.1 5 c = 1) && (sayB J (some (c + 1)) (str 57) && (kB J (fd J 57) 1 || kB J (fd J 57) 2))) := by unfold knB; rw [e4]
    rw [if_neg (by simp), t9r K 5, bO_s, show oI (some c) = (Int32.ofNat c) from rfl, t9a K 5 c (by omega), bO_s, c5, kn]
    simp only [e1]
    by_cases z : J.2.1 5 c = 1
    · have sy := Q9_says (G := G) (F := F) (o := some (c + 1)) (j := 57) X K C' Y bp' (by decide) (fun i hi => by have := Option.some.inj hi; omega)
      have sy : P_X9_says G F (W.ad (.o 9 t)) (Int32.ofNat (c + 1)) (G.1 57) (mem W (S.so 10 0 (o.sf 3 x))) = _ := sy
      rw [if_pos z, decide_eq_true z, Bool.true_and, rcv_m K.1, bO_s, show (Int32.ofNat c) + (1 : Int32) = (Int32.ofNat (c + 1)) from n_i1 _, sy, bP_s]
      by_cases s1 : sayB J (some (c + 1)) (str 57) = true
      · rw [if_pos s1, if_neg (by decide), Q10_sgn83 (x := 1) (z := true) X h K C Y bp rfl, s1]
        exact ⟨_, rfl, rfl⟩
      · rw [if_neg s1, if_pos rfl, Q10_sgn83 (x := 0) (z := false) X h K C Y bp rfl, Bool.eq_false_iff.mpr s1]
        exact ⟨_, rfl, rfl⟩
    · rw [if_neg z, Q10_sgn83 (x := 0) (z := false) X h K C Y bp rfl, decide_eq_false z]
      exact ⟨_, rfl, rfl⟩
theorem Q10_signedHead (X : Cx G F W) (h : isTk W) (K : isTx W t ip) (C : TbC (S 9 t) J) (Y : JX J) (bp : Byt 8192 (S 0 ip) J.2.2 lp) : ∃ o, P_X10_signedHeadReason G F (W.ad (.o 10 0)) (W.ad (.o 9 t)) (mem W S) = some (sgR J, mem W (S.so 10 0 o)) ∧ agr [1, 3, 15] [] [] [] (S 10 0) o ∧ (sgR J = 0 → o.f 1 = oI (sgA J) ∧ o.f 3 = (if brB J = true then 1 else 0) ∧ o.f 15 = oI (fd J 55)) := by
  have C' : ∀ o, TbC ((S.so 10 0 o) 9 t) J := fun o => by rw [so_ne (by omega)]; exact C
  have bp' : ∀ o, Byt 8192 ((S.so 10 0 o) 0 ip) J.2.2 lp := fun o => by rw [so_ne (by omega)]; exact bp
  unfold P_X10_signedHeadReason sgR
  rw [rcv_m K.1, bO_s, Q9_find0 X K C Y bp (by decide), bP_s, rcv_m h.1, bO_s, Q10_headSound X h K C Y bp, bP_s]
  obtain ⟨o1, ho1⟩ : ∃ o1, o1 = (S 10 0).sf 15 (oI (fd J 55)) := ⟨_, rfl⟩
  have a1 : agr [1, 3, 15] [] [] [] (S 10 0) o1 := by rw [ho1]; exact agr_sf (by decide)
  have f15 : o1.f 15 = oI (fd J 55) := by rw [ho1, sf_eq]
  rw [← ho1]
  by_cases e : hdS J = true
  · rw [if_pos e, if_neg (by decide), if_pos e, rcv_m K.1, bO_s, Q9_find0 X K (C' _) Y (bp' _) (by decide), bP_s]
    have fin : ∀ x : Int32, x = (if brB J = true then 1 else 0) → ∃ o, B_X10_signedHeadReason_48 G F (W.ad (.o 10 0)) (W.ad (.o 9 t)) (oI (fd J 54)) (oI (fd J 57)) (W.ad (.o 10 0)) x (mem W (S.so 10 0 o1)) = some (if knB J = true then (if sgA J = none then -25 else 0) else -24, mem W (S.so 10 0 o)) ∧ agr [1, 3, 15] [] [] [] (S 10 0) o ∧ ((if knB J = true then (if sgA J = none then (-25 : Int32) else 0) else -24) = 0 → o.f 1 = oI (sgA J) ∧ o.f 3 = (if brB J = true then 1 else 0) ∧ o.f 15 = oI (fd J 55)) := by
      intro x hx
      obtain ⟨o, g, q⟩ := Q10_sgn48 (G := G) (F := F) (S := S) (o := o1) (x := x) X h K C Y bp (by rw [hx]; split <;> simp)
      refine ⟨o, g, ?_, ?_⟩
      · rw [q]
        split
        · exact (a1.trans (agr_sf (by decide))).trans (agr_sf (by decide))
        · exact a1.trans (agr_sf (by decide))
      · intro z
        by_cases kn : knB J = true
        · rw [q, if_pos kn, sf_eq, sf_ne (by decide), sf_eq, sf_ne (by decide), sf_ne (by decide)]
          exact ⟨rfl, hx, f15⟩
        · rw [if_neg kn] at z
          exact absurd z (by decide)
    simp only [(show (oI (fd J 54) = (-1 : Int32)) = (fd J 54 = none) from oI_n (fN_b Y))]
    by_cases e4 : fd J 54 = none
    · rw [if_pos e4]
      exact fin 0 (by unfold brB; rw [e4]; rfl)
    · rw [if_neg e4, rcv_m K.1, bO_s, Q9_isKind' (x := oI (fd J 57)) (y := 1) (o := fd J 57) (kd := 1) K (C' _) Y (fN_b Y) rfl (by decide) rfl, bP_s]
      have is : (fd J 54).isSome = true := Option.isSome_iff_ne_none.mpr e4
      by_cases e5 : kB J (fd J 57) 1 = true
      · rw [if_pos e5, if_neg (by decide)]
        exact fin 1 (by unfold brB; rw [is, e5]; rfl)
      · rw [if_neg e5, if_pos rfl]
        exact fin 0 (by unfold brB; rw [is, Bool.eq_false_iff.mpr e5]; rfl)
  · rw [if_neg e, if_pos rfl, if_neg e]
    exact ⟨o1, rfl, a1, fun q => absurd q (by decide)⟩
end HDS
