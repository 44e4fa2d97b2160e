/-! A SEALED TOKEN'S HEAD: the class -/
def tkR (k : Nat) : Nat := if k = 4 then 4608 else if k = 5 then 4608 else if k = 6 then 64 else if k = 7 then 32 else if k = 8 then 32 else if k = 9 then 64 else if k = 10 then 128 else if k = 11 then 16 else if k = 12 then 64 else 16
abbrev isTK (W : WR) : Prop := isTk W ∧ (W.r 10 0 0 = some (.o 0 83) ∧ isB W 83 8192) ∧ ∀ k, 4 ≤ k → k ≤ 13 → W.r 10 0 k = some (.o 0 (80 + k)) ∧ isB W (80 + k) (tkR k)
/-- what a party's member tells -/
def paB (J : JT) (o : Option Nat) : Option (List UInt8) := match o with
  | none => some []
  | some i => ltB J (some i)
def agB (J : JT) : Bool := kB J (fd J 68) 6 && (sayB J (fN J (str 69) (fd J 68)) (str 70) && (ptL J (fd J 68) && (decide (inL (lB J (fN J (str 29) (fd J 68))) 32 32 = true ∧ inL (lB J (fN J (str 30) (fd J 68))) 32 32 = true) && ((paB J (fd J 71)).isSome && (paB J (fd J 72)).isSome))))
def epB (J : JT) : List UInt8 := lB J (fN J (str 29) (fd J 68)) ++ lB J (fN J (str 30) (fd J 68))
def slA (J : JT) : Option Nat := lsF J (fd J 56) (fun a => 33 + (5 + a)) 6 0
def slW (J : JT) : Option Nat := lsF J (fd J 66) (fun a => 59 + a) 4 0
def slR (J : JT) : Int32 := if (hdS J && (kB J (fd J 66) 4 && (fd J 67).isNone)) = true then (if fd J 54 = none then (if slA J = none ∨ slW J = none then -25 else if (slA J).getD 0 < 4 ∨ agB J = true then 0 else -23) else -24) else -23
theorem ltB_len {J : JT} {o : Option Nat} {d : List UInt8} (Y : JX J) (h : ltB J o = some d) : d.length ≤ J.2.2.length * 3 / 4 := by
  cases o with
  | none => exact absurd h (by simp [ltB])
  | some i =>
    have h : (if kB J (some i) 4 = true ∧ fltF (seg J.2.2 (J.2.1 6 i) (J.2.1 7 i)) = none then some (dec (seg J.2.2 (J.2.1 6 i) (J.2.1 7 i))) else none) = some d := h
    split at h
    · rename_i q
      have y := (Y.2.2 i (kB_lt q.1 rfl).1).2.2.2.2.2.1
      rw [← Option.some.inj h, dec_len, seg_len y]
      omega
    · exact absurd h (by simp)
section SLH
variable {W : WR} {G : mG} {F : Nat} {S : ST} {t ip : Nat} {J : JT} {lp : Bool}
theorem Q10_party {o : Option Nat} {it : Nat} {tt : List UInt8} {l : Bool} (X : Cx G F W) (K : isTx W t ip) (C : TbC (S 9 t) J) (Y : JX J) (bp : Byt 8192 (S 0 ip) J.2.2 lp) (hp : J.2.2.length ≤ 6144) (ho : ∀ i, o = some i → i < 2 ^ 31) (hT : isB W it 4608) (bt : Byt 4608 (S 0 it) tt l) (hne : it ≠ ip) : ∃ o', P_X10_takeParty G F (W.ad (.o 9 t)) (oI o) (W.ad (.o 0 it)) (mem W S) = some (if (paB J o).isSome = true then 1 else 0, mem W (S.so 0 it o')) ∧ (∃ xs l, Byt 4608 o' xs l) ∧ ∀ d, paB J o = some d → Byt 4608 o' d false := by
  obtain ⟨o1, g1, b1⟩ := Q0_clear (G := G) (F := F) (S := S) hT bt
  have C1 : TbC ((S.so 0 it o1) 9 t) J := by rw [so_ne (by omega)]; exact C
  have bp1 : Byt 8192 ((S.so 0 it o1) 0 ip) J.2.2 lp := by rw [so_ne (by omega)]; exact bp
  unfold P_X10_takeParty
  rw [rcv_m hT.lo, bO_s, g1, bO_s]
  simp only [oI_n ho]
  cases o with
  | none =>
    rw [if_pos rfl]
    exact ⟨o1, rfl, ⟨_, _, b1⟩, fun d hd => by rw [← Option.some.inj hd]; exact b1⟩
  | some i =>
    rw [if_neg (by simp), rcv_m K.1, bO_s, Q9_areLetters X K C1 Y bp1 ho, bP_s]
    show ∃ o', _ = some (if (ltB J (some i)).isSome = true then 1 else 0, _) ∧ _ ∧ ∀ d, ltB J (some i) = some d → _
    by_cases e : (ltB J (some i)).isSome = true
    · obtain ⟨d, hd⟩ := Option.isSome_iff_exists.mp e
      have dl := ltB_len Y hd
      have il : inL d 0 4608 = true := by
        unfold inL
        rw [decide_eq_true (Nat.zero_le _), decide_eq_true (show d.length ≤ 4608 by omega)]
        rfl
      obtain ⟨o2, g2, b2⟩ := Q9_putLettered (G := G) (F := F) (S := S.so 0 it o1) (lo := 0) (hi := 4608) X K C1 Y bp1 ho hT (by rw [so_eq]; exact b1) hne (by decide) (by decide) hd
      rw [if_pos il, so_so] at g2
      rw [if_pos il, tkl_fit (by rw [List.length_nil]; omega), lsl_fit (by rw [List.length_nil]; omega), List.nil_append] at b2
      have g2 : P_X9_putLettered G F (W.ad (.o 9 t)) (oI (some i)) 0 4608 (W.ad (.o 0 it)) (mem W (S.so 0 it o1)) = _ := g2
      rw [if_pos e, if_neg (by decide), rcv_m K.1, bO_s, g2, bP_s, if_neg (by decide)]
      exact ⟨o2, rfl, ⟨_, _, b2⟩, fun d' hd' => by rw [hd] at hd'; rw [← Option.some.inj hd']; exact b2⟩
    · rw [if_neg e, if_pos rfl]
      exact ⟨o1, rfl, ⟨_, _, b1⟩, fun d' hd' => absurd (by rw [hd']; rfl) e⟩
abbrev BK (S : ST) : Prop := (∃ xs l, Byt 4608 (S 0 84) xs l) ∧ (∃ xs l, Byt 4608 (S 0 85) xs l) ∧ ∃ xs l, Byt 64 (S 0 86) xs l
theorem Q10_agreement (X : Cx G F W) (h : isTK W) (K : isTx W t ip) (C : TbC (S 9 t) J) (Y : JX J) (bp : Byt 8192 (S 0 ip) J.2.2 lp) (hip : ip < 16) (hp : J.2.2.length ≤ 6144) (B : BK S) : ∃ S', P_X10_takeAgreement G F (W.ad (.o 10 0)) (W.ad (.o 9 t)) (mem W S) = some (if agB J = true then 1 else 0, mem W S') ∧ fr [(0, 84), (0, 85), (0, 86)] S S' ∧ BK S' ∧ (agB J = true → Byt 64 (S' 0 86) (epB J) false ∧ (∀ d, paB J (fd J 71) = some d → Byt 4608 (S' 0 84) d false) ∧ ∀ d, paB J (fd J 72) = some d → Byt 4608 (S' 0 85) d false) := by
  obtain ⟨⟨u0, lu, bu⟩, ⟨v0, lv, bv⟩, p0, lq, bq⟩ := B
  obtain ⟨w4, B4⟩ := h.2.2 4 (by decide) (by decide)
  obtain ⟨w5, B5⟩ := h.2.2 5 (by decide) (by decide)
  obtain ⟨w6, B6⟩ := h.2.2 6 (by decide) (by decide)
  have B4 : isB W 84 4608 := B4
  have B5 : isB W 85 4608 := B5
  have B6 : isB W 86 64 := B6
  have g4 : ∀ S : ST, gfR (mem W S) (W.ad (.o 10 0)) 10 4 = some (W.ad (.o 0 84)) := fun S => gfR_m h.1.1 rfl w4
  have g5 : ∀ S : ST, gfR (mem W S) (W.ad (.o 10 0)) 10 5 = some (W.ad (.o 0 85)) := fun S => gfR_m h.1.1 rfl w5
  have g6 : ∀ S : ST, gfR (mem W S) (W.ad (.o 10 0)) 10 6 = some (W.ad (.o 0 86)) := fun S => gfR_m h.1.1 rfl w6
  have no : agB J = false → ∃ S', (some ((0 : Int32), mem W S)) = some (if agB J = true then (1 : Int32) else 0, mem W S') ∧ fr [(0, 84), (0, 85), (0, 86)] S S' ∧ BK S' ∧ (agB J = true → Byt 64 (S' 0 86) (epB J) false ∧ (∀ d, paB J (fd J 71) = some d → Byt 4608 (S' 0 84) d false) ∧ ∀ d, paB J (fd J 72) = some d → Byt 4608 (S' 0 85) d false) := by
    intro e
    exact ⟨S, by rw [e]; rfl, fr.refl _ _, ⟨⟨_, _, bu⟩, ⟨_, _, bv⟩, _, _, bq⟩, fun q => absurd q (by rw [e]; decide)⟩
  unfold P_X10_takeAgreement
  rw [rcv_m K.1, bO_s, Q9_find0 X K C Y bp (by decide), bP_s, rcv_m K.1, bO_s, Q9_isKind' (x := oI (fd J 68)) (y := 6) (o := fd J 68) (kd := 6) K C Y (fN_b Y) rfl (by decide) rfl, bP_s]
  by_cases e1 : kB J (fd J 68) 6 = true
  · rw [if_pos e1, if_neg (by decide), rcv_m K.1, bO_s, Q9_find X K C Y bp (by decide) (fN_b Y), bP_s, rcv_m K.1, bO_s, Q9_says X K C Y bp (by decide) (fN_b Y), bP_s]
    by_cases e2 : sayB J (fN J (str 69) (fd J 68)) (str 70) = true
    · rw [if_pos e2, if_neg (by decide), Q5_pointThere X K C Y bp (fN_b Y), bP_s]
      by_cases e3 : ptL J (fd J 68) = true
      · have e3' := e3
        unfold ptL at e3'
        rw [Bool.and_eq_true, Bool.and_eq_true] at e3'
        obtain ⟨o1, q1, b1⟩ := Q0_clear (G := G) (F := F) (S := S) B6 bq
        have C1 : TbC ((S.so 0 86 o1) 9 t) J := by rw [so_ne (by omega)]; exact C
        have bp1 : Byt 8192 ((S.so 0 86 o1) 0 ip) J.2.2 lp := by rw [so_ne (by omega)]; exact bp
        obtain ⟨o2, q2, b2⟩ := Q5_takePoint (G := G) (F := F) (S := S.so 0 86 o1) (o := fd J 68) (it := 86) (rt := 64) (x := oI (fd J 68)) X K C1 Y bp1 (fN_b Y) rfl B6 (by decide) (by rw [so_eq]; exact b1) (by omega) e3'.2.1 e3'.2.2
        rw [so_so] at q2
        have C2 : TbC ((S.so 0 86 o2) 9 t) J := by rw [so_ne (by omega)]; exact C
        have bp2 : Byt 8192 ((S.so 0 86 o2) 0 ip) J.2.2 lp := by rw [so_ne (by omega)]; exact bp
        rw [if_pos e3, if_neg (by decide), g6, bO_s, rcv_m B6.lo, bO_s, q1, bO_s, g6, bO_s, q2, bP_s]
        by_cases e4 : inL (lB J (fN J (str 29) (fd J 68))) 32 32 = true ∧ inL (lB J (fN J (str 30) (fd J 68))) 32 32 = true
        · rw [if_pos e4] at b2
          obtain ⟨o3, q3, b3, c3⟩ := Q10_party (G := G) (F := F) (S := S.so 0 86 o2) (o := fd J 71) (it := 84) X K C2 Y bp2 hp (fN_b Y) B4 (by rw [so_ne (by omega)]; exact bu) (by omega)
          have C3 : TbC (((S.so 0 86 o2).so 0 84 o3) 9 t) J := by rw [so_ne (by omega)]; exact C2
          have bp3 : Byt 8192 (((S.so 0 86 o2).so 0 84 o3) 0 ip) J.2.2 lp := by rw [so_ne (by omega)]; exact bp2
          rw [if_pos e4, if_neg (by decide), rcv_m K.1, bO_s, Q9_find0 X K C2 Y bp2 (by decide), bP_s, g4, bO_s, q3, bP_s]
          have f3 : fr [(0, 84), (0, 85), (0, 86)] S ((S.so 0 86 o2).so 0 84 o3) := (fr_so (by simp)).trans (fr_so (by simp))
          by_cases e5 : (paB J (fd J 71)).isSome = true
          · obtain ⟨o4, q4, b4, c4⟩ := Q10_party (G := G) (F := F) (S := (S.so 0 86 o2).so 0 84 o3) (o := fd J 72) (it := 85) X K C3 Y bp3 hp (fN_b Y) B5 (by rw [so_ne (by omega), so_ne (by omega)]; exact bv) (by omega)
            rw [if_pos e5, if_neg (by decide), rcv_m K.1, bO_s, Q9_find0 X K C3 Y bp3 (by decide), bP_s, g5, bO_s, q4, bP_s]
            have f4 : fr [(0, 84), (0, 85), (0, 86)] S (((S.so 0 86 o2).so 0 84 o3).so 0 85 o4) := f3.trans (fr_so (by simp))
            have ag : agB J = (paB J (fd J 72)).isSome := by
              unfold agB
              rw [e1, e2, e3, decide_eq_true e4, e5]
              rfl
            have x4 : (((S.so 0 86 o2).so 0 84 o3).so 0 85 o4) 0 84 = o3 := by rw [so_ne (by omega), so_eq]
            have x5 : (((S.so 0 86 o2).so 0 84 o3).so 0 85 o4) 0 85 = o4 := by rw [so_eq]
            have x6 : (((S.so 0 86 o2).so 0 84 o3).so 0 85 o4) 0 86 = o2 := by rw [so_ne (by omega), so_ne (by omega), so_eq]
            refine ⟨((S.so 0 86 o2).so 0 84 o3).so 0 85 o4, ?_, f4, ?_, ?_⟩
            · rw [ag]
              split <;> rfl
            · unfold BK
              rw [x4, x5, x6]
              exact ⟨b3, b4, _, _, b2⟩
            · intro _
              rw [x4, x5, x6]
              exact ⟨b2, c3, c4⟩
          · have ag : agB J = false := by
              unfold agB
              rw [e1, e2, e3, decide_eq_true e4, Bool.eq_false_iff.mpr e5]
              rfl
            rw [if_neg e5, if_pos rfl]
            refine ⟨(S.so 0 86 o2).so 0 84 o3, by rw [ag]; rfl, f3, ?_, fun q => absurd q (by rw [ag]; decide)⟩
            unfold BK
            rw [so_eq, so_ne (by omega), so_ne (by omega), so_ne (by omega), so_eq]
            exact ⟨b3, ⟨_, _, bv⟩, _, _, b2⟩
        · rw [if_neg e4] at b2
          have ag : agB J = false := by
            unfold agB
            rw [e1, e2, e3, decide_eq_false e4]
            rfl
          rw [if_neg e4, if_pos rfl]
          refine ⟨S.so 0 86 o2, by rw [ag]; rfl, fr_so (by simp), ?_, fun q => absurd q (by rw [ag]; decide)⟩
          unfold BK
          rw [so_eq, so_ne (by omega), so_ne (by omega)]
          exact ⟨⟨_, _, bu⟩, ⟨_, _, bv⟩, b2⟩
      · rw [if_neg e3, if_pos rfl]
        exact no (by unfold agB; rw [e1, e2, Bool.eq_false_iff.mpr e3]; rfl)
    · rw [if_neg e2, if_pos rfl]
      exact no (by unfold agB; rw [e1, Bool.eq_false_iff.mpr e2]; rfl)
  · rw [if_neg e1, if_pos rfl]
    exact no (by unfold agB; rw [Bool.eq_false_iff.mpr e1]; rfl)
theorem Q11_way {k : Nat} {M : mM} (hk : k < 4) : P_X11_wayName G F (Int32.ofNat k) M = some (G.1 (59 + k), M) := by
  have h : k = 0 ∨ k = 1 ∨ k = 2 ∨ k = 3 := by omega
  rcases h with rfl | rfl | rfl | rfl <;> rfl
theorem Q10_way_l {n : Option Nat} (X : Cx G F W) (K : isTx W t ip) (C : TbC (S 9 t) J) (Y : JX J) (bp : Byt 8192 (S 0 ip) J.2.2 lp) (hn : ∀ i, n = some i → i < 2 ^ 31) : ∀ (m a fuel : Nat), m < fuel → a + m = 4 → B_X10_listedWay_2 G F fuel (W.ad (.o 9 t)) (oI n) (Int32.ofNat a) (mem W S) = some (oI (lsF J n (fun a => 59 + a) m a), mem W S) := by
  intro m
  induction m with
  | zero =>
    intro a fuel hf ha
    obtain ⟨fuel, rfl⟩ : ∃ q, fuel = q + 1 := ⟨fuel - 1, by omega⟩
    rw [B_X10_listedWay_2, if_pos (show (4 : Int32) ≤ (Int32.ofNat a) from (n_le (a := 4) (by omega) (by omega)).mpr (by omega))]
    rfl
  | succ m ih =>
    intro a fuel hf ha
    obtain ⟨fuel, rfl⟩ : ∃ q, fuel = q + 1 := ⟨fuel - 1, by omega⟩
    rw [B_X10_listedWay_2, if_neg (show ¬ (4 : Int32) ≤ (Int32.ofNat a) from fun z => by have := (n_le (a := 4) (by omega) (by omega)).mp z; omega), Q11_way (by omega), bP_s, rcv_m K.1, bO_s, Q9_says X K C Y bp (by omega) hn, bP_s]
    show _ = some (oI (if sayB J n (str (59 + a)) = true then some a else lsF J n (fun a => 59 + a) m (a + 1)), mem W S)
    by_cases c : sayB J n (str (59 + a)) = true
    · rw [if_pos c, if_neg (by decide), if_pos c]
      rfl
    · rw [if_neg c, if_pos rfl, if_neg c, n_i1]
      exact ih (a + 1) fuel (by omega) (by omega)
theorem Q10_sealedHead (X : Cx G F W) (h : isTK W) (K : isTx W t ip) (C : TbC (S 9 t) J) (Y : JX J) (bp : Byt 8192 (S 0 ip) J.2.2 lp) (hip : ip < 16) (hp : J.2.2.length ≤ 6144) (B : BK S) : ∃ S', P_X10_sealedHeadReason G F (W.ad (.o 10 0)) (W.ad (.o 9 t)) (mem W S) = some (slR J, mem W S') ∧ fr [(10, 0), (0, 84), (0, 85), (0, 86)] S S' ∧ agr [1, 2, 15] [] [] [] (S 10 0) (S' 10 0) ∧ BK S' ∧ (slR J = 0 → (S' 10 0).f 1 = oI (slA J) ∧ (S' 10 0).f 2 = oI (slW J) ∧ (S' 10 0).f 15 = oI (fd J 55) ∧ (4 ≤ (slA J).getD 0 → Byt 64 (S' 0 86) (epB J) false ∧ (∀ d, paB J (fd J 71) = some d → Byt 4608 (S' 0 84) d false) ∧ ∀ d, paB J (fd J 72) = some d → Byt 4608 (S' 0 85) d false)) := by
  have hF := X.hF
  have C' : ∀ o, TbC ((S.so 10 0 o) 9 t) J := fun o => by rw [so_ne (by omega)]; exact C
  have bp' : ∀ o, Byt 8192 ((S.so 10 0 o) 0 ip) J.2.2 lp := fun o => by rw [so_ne (by omega)]; exact bp
  have B' : ∀ o, BK (S.so 10 0 o) := fun o => by
    show (∃ xs l, Byt 4608 ((S.so 10 0 o) 0 84) xs l) ∧ (∃ xs l, Byt 4608 ((S.so 10 0 o) 0 85) xs l) ∧ ∃ xs l, Byt 64 ((S.so 10 0 o) 0 86) xs l
    rw [so_ne (by omega), so_ne (by omega), so_ne (by omega)]
    exact B
  have hA : ∀ i, slA J = some i → i < 2 ^ 31 := fun i hi => by have := ls_lt hi; omega
  have hW : ∀ i, slW J = some i → i < 2 ^ 31 := fun i hi => by have := ls_lt hi; omega
  unfold P_X10_sealedHeadReason
  rw [rcv_m K.1, bO_s, Q9_find0 X K C Y bp (by decide), bP_s, rcv_m h.1.1, bO_s, Q10_headSound X h.1 K C Y bp, bP_s]
  obtain ⟨o1, ho1⟩ : ∃ o1, o1 = (S 10 0).sf 15 (oI (fd J 55)) := ⟨_, rfl⟩
  have a1 : agr [1, 2, 15] [] [] [] (S 10 0) o1 := by rw [ho1]; exact agr_sf (by decide)
  have f15 : o1.f 15 = oI (fd J 55) := by rw [ho1, sf_eq]
  rw [← ho1]
  have no : ∀ (o : Ob) (v : Int32), slR J = v → v ≠ 0 → agr [1, 2, 15] [] [] [] (S 10 0) o → ∃ S', some (v, mem W (S.so 10 0 o)) = some (slR J, mem W S') ∧ fr [(10, 0), (0, 84), (0, 85), (0, 86)] S S' ∧ agr [1, 2, 15] [] [] [] (S 10 0) (S' 10 0) ∧ BK S' ∧ (slR J = 0 → (S' 10 0).f 1 = oI (slA J) ∧ (S' 10 0).f 2 = oI (slW J) ∧ (S' 10 0).f 15 = oI (fd J 55) ∧ (4 ≤ (slA J).getD 0 → Byt 64 (S' 0 86) (epB J) false ∧ (∀ d, paB J (fd J 71) = some d → Byt 4608 (S' 0 84) d false) ∧ ∀ d, paB J (fd J 72) = some d → Byt 4608 (S' 0 85) d false)) := by
    intro o v hv h0 ha
    exact ⟨S.so 10 0 o, by rw [hv], fr_so (by simp), by rw [so_eq]; exact ha, B' o, fun q => absurd (hv.symm.trans q) h0⟩
  by_cases e1 : hdS J = true
  · rw [if_pos e1, if_neg (by decide), rcv_m K.1, bO_s, Q9_find0 X K (C' _) Y (bp' _) (by decide), bP_s, rcv_m K.1, bO_s, Q9_isKind' (x := oI (fd J 66)) (y := 4) (o := fd J 66) (kd := 4) K (C' _) Y (fN_b Y) rfl (by decide) rfl, bP_s]
    by_cases e2 : kB J (fd J 66) 4 = true
    · rw [if_pos e2, if_neg (by decide), rcv_m K.1, bO_s, Q9_find0 X K (C' _) Y (bp' _) (by decide), bP_s]
      simp only [(show (oI (fd J 67) = (-1 : Int32)) = (fd J 67 = none) from oI_n (fN_b Y)), (show (oI (fd J 54) = (-1 : Int32)) = (fd J 54 = none) from oI_n (fN_b Y))]
      by_cases e3 : fd J 67 = none
      · have q1 : (hdS J && (kB J (fd J 66) 4 && (fd J 67).isNone)) = true := by rw [e1, e2, e3]; rfl
        rw [if_pos e3]
        by_cases e4 : fd J 54 = none
        · have R : slR J = if slA J = none ∨ slW J = none then -25 else if (slA J).getD 0 < 4 ∨ agB J = true then 0 else -23 := by
            unfold slR
            rw [if_pos q1, if_pos e4]
          have l1 := Q10_listed (G := G) (F := F) (from_ := 5) (many := 6) X K (C' o1) Y (bp' o1) (fN_b (w := str 56) (o := some 0) Y) (by decide)
          have l1 : P_X10_listed G F (W.ad (.o 9 t)) (oI (fd J 56)) 5 6 (mem W (S.so 10 0 o1)) = some (oI (slA J), mem W (S.so 10 0 o1)) := l1
          have l2 : ∀ o, P_X10_listedWay G F (W.ad (.o 9 t)) (oI (fd J 66)) (mem W (S.so 10 0 o)) = some (oI (slW J), mem W (S.so 10 0 o)) := fun o => Q10_way_l X K (C' o) Y (bp' o) (fN_b (w := str 66) (o := some 0) Y) 4 0 F (by omega) (by omega)
          rw [if_pos e4, rcv_m K.1, bO_s, Q9_find0 X K (C' _) Y (bp' _) (by decide), bP_s, l1, bP_s, pfI_m h.1.1 rfl, bO_s, so_eq, so_so, rcv_m K.1, bO_s, Q9_find0 X K (C' _) Y (bp' _) (by decide), bP_s, l2, bP_s, pfI_m h.1.1 rfl, bO_s, so_eq, so_so]
          obtain ⟨o2, ho2⟩ : ∃ o2, o2 = (o1.sf 1 (oI (slA J))).sf 2 (oI (slW J)) := ⟨_, rfl⟩
          have a2 : agr [1, 2, 15] [] [] [] (S 10 0) o2 := by rw [ho2]; exact (a1.trans (agr_sf (by decide))).trans (agr_sf (by decide))
          have v1 : o2.f 1 = oI (slA J) := by rw [ho2, sf_ne (by decide), sf_eq]
          have v2 : o2.f 2 = oI (slW J) := by rw [ho2, sf_eq]
          have v15 : o2.f 15 = oI (fd J 55) := by rw [ho2, sf_ne (by decide), sf_ne (by decide)]; exact f15
          rw [← ho2]
          have g1 : gfI (mem W (S.so 10 0 o2)) (W.ad (.o 10 0)) 10 1 = some (oI (slA J)) := by rw [gfI_m h.1.1 rfl, so_eq, v1]
          have g2 : gfI (mem W (S.so 10 0 o2)) (W.ad (.o 10 0)) 10 2 = some (oI (slW J)) := by rw [gfI_m h.1.1 rfl, so_eq, v2]
          rw [g1, bO_s, g2]
          simp only [oI_n hA]
          by_cases z1 : slA J = none
          · rw [if_pos z1]
            exact no o2 (-25) (by rw [R, if_pos (Or.inl z1)]) (by decide) a2
          · rw [if_neg z1, bO_s]
            simp only [oI_n hW]
            by_cases z2 : slW J = none
            · rw [if_pos z2]
              exact no o2 (-25) (by rw [R, if_pos (Or.inr z2)]) (by decide) a2
            · obtain ⟨a, ha⟩ := Option.ne_none_iff_exists'.mp z1
              have al := ls_lt ha
              have ga : (slA J).getD 0 = a := by rw [ha]; rfl
              have R : slR J = if a < 4 ∨ agB J = true then 0 else -23 := by rw [R, if_neg (fun q => q.elim z1 z2), ga]
              have e4' : (oI (slA J) < (4 : Int32)) = (a < 4) := by rw [ha]; exact propext (n_lt (b := 4) (by omega) (by omega))
              rw [if_neg z2, bO_s]
              simp only [e4']
              by_cases z3 : a < 4
              · rw [if_pos z3]
                have R0 : slR J = 0 := by rw [R, if_pos (Or.inl z3)]
                refine ⟨S.so 10 0 o2, by rw [R0], fr_so (by simp), by rw [so_eq]; exact a2, B' o2, fun _ => ?_⟩
                rw [so_eq, ga]
                exact ⟨v1, v2, v15, fun q => by omega⟩
              · obtain ⟨S', w1, w2, w3, w4⟩ := Q10_agreement (G := G) (F := F) (S := S.so 10 0 o2) X h K (C' o2) Y (bp' o2) hip hp (B' o2)
                have s10 : S' 10 0 = o2 := by rw [w2 10 0 (by simp), so_eq]
                rw [if_neg z3, rcv_m h.1.1, bO_s, w1, bP_s]
                refine ⟨S', ?_, (fr_so (by simp)).trans (w2.mono (by simp)), by rw [s10]; exact a2, w3, fun q => ?_⟩
                · rw [R]
                  by_cases z4 : agB J = true
                  · rw [if_pos z4, if_neg (by decide), if_pos (Or.inr z4)]
                  · rw [if_neg z4, if_pos rfl, if_neg (fun q => q.elim z3 z4)]
                · have z4 : agB J = true := by
                    refine Classical.byContradiction fun z4 => ?_
                    rw [R, if_neg (fun q => q.elim z3 z4)] at q
                    exact absurd q (by decide)
                  rw [s10]
                  exact ⟨v1, v2, v15, fun _ => w4 z4⟩
        · rw [if_neg e4]
          exact no o1 (-24) (by unfold slR; rw [if_pos q1, if_neg e4]) (by decide) a1
      · rw [if_neg e3]
        have q1 : (hdS J && (kB J (fd J 66) 4 && (fd J 67).isNone)) = false := by
          rw [e1, e2, show (fd J 67).isNone = false by cases hh : fd J 67 with | none => exact absurd hh e3 | some _ => rfl]
          rfl
        exact no o1 (-23) (by unfold slR; rw [q1]; rfl) (by decide) a1
    · rw [if_neg e2, if_pos rfl]
      exact no o1 (-23) (by unfold slR; rw [e1, Bool.eq_false_iff.mpr e2]; rfl) (by decide) a1
  · rw [if_neg e1, if_pos rfl]
    exact no o1 (-23) (by unfold slR; rw [Bool.eq_false_iff.mpr e1]; rfl) (by decide) a1
end SLH
