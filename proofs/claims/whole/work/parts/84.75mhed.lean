/-! A HEAD SAID: the model -/
abbrev tkF : List Nat := [5, 20, 21, 22, 23, 24, 25, 26, 28, 29, 37, 39, 44, 50, 73, 102, 103, 104, 105, 106, 110, 111, 113, 120, 122, 127, 129]
abbrev tkG : List Nat := [53, 54, 55, 56]
abbrev tkA : List Nat := [4, 6, 7, 8, 9, 10, 11, 12, 13, 14, 15, 16, 27, 31, 32, 35, 36, 38, 40, 43, 45, 46, 47, 48, 49, 51, 52, 60, 61, 62, 67, 68, 69, 70, 71, 72, 74, 75, 76, 77, 78, 79, 80, 81, 82, 96, 97, 107, 108, 109, 112, 114, 115, 116, 117, 118, 119, 121, 123, 124, 125, 126, 128, 130, 131, 132, 133]
/-- what a call with tokens leaves of the model -/
def MT (S S' : ST) : Prop := fr [(12, 0), (12, 1), (12, 2), (13, 0)] S S' ∧ agr tkF tkG tkA [33, 34] (S 13 0) (S' 13 0) ∧ MK S' ∧ mDig (S' 13 0) ∧ mEv (S' 13 0)
theorem MT.trans {S S1 S2 : ST} (h1 : MT S S1) (h2 : MT S1 S2) : MT S S2 := ⟨h1.1.trans h2.1, h1.2.1.trans h2.2.1, h2.2.2⟩
theorem MT.refl {S : ST} (mk : MK S) (d : mDig (S 13 0)) (E : mEv (S 13 0)) : MT S S := ⟨fr.refl _ _, agr.refl _ _ _ _ _, mk, d, E⟩
/-- an object of the model's own -/
def MO (S : ST) (o : Ob) : Prop := MK (S.so 13 0 o) ∧ mDig o ∧ mEv o
theorem MO.of {S : ST} (mk : MK S) (d : mDig (S 13 0)) (E : mEv (S 13 0)) : MO S (S 13 0) := ⟨by rw [so_self]; exact mk, d, E⟩
theorem MO.ag {S : ST} {o o' : Ob} {fs gs as ls : List Nat} (h : MO S o) (a : agr fs gs as ls o o') (ha : ∀ k ∈ [63, 64, 65, 66, 67, 68, 69, 70, 71, 72, 74, 75, 76, 77, 78], k ∉ as) (hd : ∀ k ∈ [35, 36, 40, 38], k ∉ as) (he : ∀ k ∈ as, (kdA 13)[k]? = some 1 → ∃ β, mB o' k β) : MO S o' := ⟨h.1.agL a ha, a.mDig h.2.1 hd, h.2.2.keep a he⟩
/-- an object of the model's own, touched but a little -/
theorem MO.t {S : ST} {o : Ob} (h : MO S o) (a : agr tkF tkG tkA [33, 34] (S 13 0) o) : MT S (S.so 13 0 o) := ⟨fr_so (by simp), by rw [so_eq]; exact a, h.1, by rw [so_eq]; exact h.2.1, by rw [so_eq]; exact h.2.2⟩
/-- what is shown -/
def outM (o o' : Ob) (r : Int32 ⊕ List UInt8) : Prop := match r with
  | .inl _ => o'.f 5 = o.f 5 ∧ o'.a 4 = o.a 4
  | .inr t => mOut o' t
theorem outM.of {o o' : Ob} {fs gs as ls : List Nat} {v : Int32} (a : agr fs gs as ls o o') (h1 : 5 ∉ fs) (h2 : 4 ∉ as) : outM o o' (.inl v) := ⟨a.1 5 h1, a.2.2.1 4 h2⟩
theorem st_109 : str 109 = str 52 ∧ str 110 = str 58 ∧ str 112 = str 53 ∧ str 121 = str 63 ++ str 50 ∧ str 122 = str 64 ∧ str 123 = str 65 := by decide +kernel
section MHE
variable {W : WR} {G : mG} {F : Nat} {S : ST} {A : Nat → Option KY} {K : KY}
theorem kid_len (V : KyV K) : ∀ d, K.2.2.2.2 = some d → d.length ≤ 8192 := by
  obtain ⟨s, J, kd, k, h1, h2, h3, h4, rfl⟩ := V
  intro d hd
  have pl := rd_pl h2
  have Y := rd_X h1 h2
  have hd : kiB J = some d := hd
  unfold kiB at hd
  cases e : fd J 20 with
  | none => rw [e] at hd; exact absurd hd (by simp)
  | some i =>
    rw [e] at hd
    have hd : some (seg J.2.2 (J.2.1 6 i) (J.2.1 7 i)) = some d := hd
    have y := (Y.2.2 i (fN_lt e)).2.2.2.2.2.1
    rw [← Option.some.inj hd, seg_len y]
    have := Y.1
    omega
theorem escP_len (ys : List UInt8) : (strP ys).length ≤ 6 * ys.length + 2 := by
  have q : ∀ ys : List UInt8, (ys.flatMap escF).length ≤ 6 * ys.length := by
    intro ys
    induction ys with
    | nil => exact Nat.le_refl _
    | cons c ys ih =>
      rw [List.flatMap_cons, List.length_append, List.length_cons]
      have := escF_len c
      omega
  unfold strP
  rw [List.length_cons, List.length_append]
  have := q ys
  show (ys.flatMap escF).length + 1 + 1 ≤ _
  omega
theorem oM_kid51 {o : Ob} {k : Nat} {ys : List UInt8} (X : Cx G F W) (h : isM W) (KK : KM o A) (hk : k < 16) (e : A k = some K) (hd : mDr o ys) (hy : ys.length < 10000) : ∃ o', B_X13_sayHead_51 G F (W.ad (.o 13 0)) (Int32.ofNat k) (mem W (S.so 13 0 o)) = some (mem W (S.so 13 0 o')) ∧ mDr o' (ys ++ kidP K) ∧ agr [28] [] [27] [] o o' := by
  obtain ⟨α85, α87, α89, α92, α94, bb, q⟩ := id KK
  have q := q k hk
  rw [e] at q
  obtain ⟨q0, ⟨⟨z1, z2, z3, z4, z5, z6⟩, y1, y2, y3, y4, wd, y5, y6, y7⟩, V⟩ := q
  have rd : ∀ o1 : Ob, agr [28] [] [27] [] o o1 → aI G (mem W (S.so 13 0 o1)) 0 (W.ad (.a 13 0 93)) (Int32.ofNat k) = some (oLn (K.2.2.2.2.map List.length)) := fun o1 a1 => by
    rw [h.aN rfl (show k < mLen 93 from hk) (by decide), so_eq, a1.2.2.1 93 (by decide), z6]
  unfold B_X13_sayHead_51 kidP
  rw [h.gR 93 rfl (by decide), bO_s, rd o (agr.refl _ _ _ _ _), bO_s]
  cases ek : K.2.2.2.2 with
  | none =>
    rw [if_pos (show oLn ((none : Option (List UInt8)).map List.length) < 0 from (by decide : (-1 : Int32) < 0))]
    exact ⟨o, rfl, by rw [List.append_nil]; exact hd, agr.refl _ _ _ _ _⟩
  | some d =>
    obtain ⟨l, r⟩ := y4 d ek
    have l53 : (str 53).length = 7 := by decide +kernel
    obtain ⟨o1, g1, d1, a1⟩ := oM_say (G := G) (F := F) (S := S) (o := o) (j := 112) X h (by decide) hd (by omega)
    rw [st_109.2.2.1] at d1
    obtain ⟨o2, g2, d2, a2⟩ := oM_sayString (G := G) (F := F) (S := S) (o := o1) (kb := 92) (p := 8200 * k) (n := d.length) X h rfl (by decide) (by show _ ≤ 131200; omega) (by decide) d1 (a1.mB bb.2.2.2.1 (by decide)) (by rw [List.length_append, l53]; omega) (by omega)
    rw [r, List.append_assoc] at d2
    have rd1 := rd o1 a1
    rw [ek] at rd1
    rw [if_neg (show ¬ oLn ((some d).map List.length) < 0 from nn (by omega)), rcv_m h.lo, bO_s, g1, bO_s, h.gR 92 rfl (by decide), bO_s, h.gR 93 rfl (by decide), bO_s, rd1, bO_s, rcv_m h.lo, bO_s, show (8200 : Int32) * (Int32.ofNat k) = (Int32.ofNat (8200 * k)) from n_mul 8200 k]
    show ∃ o', bO (P_X13_sayString G F (W.ad (.o 13 0)) (W.ad (.a 13 0 92)) (Int32.ofNat (8200 * k)) (Int32.ofNat d.length) (mem W (S.so 13 0 o1))) _ = _ ∧ _
    rw [g2, bO_s]
    exact ⟨o2, rfl, d2, a1.trans a2⟩
/-- a head up to its kid; with the name of a way or without -/
def hdP (w : List UInt8) (en : Option Nat) (K : KY) : List UInt8 := str 52 ++ (w ++ ([34] ++ ((match en with | none => [] | some e => str 58 ++ (str (59 + e) ++ [34])) ++ kidP K)))
theorem oM_sayHead {o : Ob} {k j a : Nat} {en : Option Nat} {ws : List (List UInt8)} {w : List UInt8} (X : Cx G F W) (h : isM W) (KK : KM o A) (hk : k < 16) (e : A k = some K) (E : mEv o) (hj : j < 124) (hR : str j = rwW ws) (hx : ∀ w ∈ ws, ∀ x ∈ w, x ≠ 32) (hw : ws[a]? = some w) (ha : a < 100) (wl : w.length ≤ 32) (he : ∀ n, en = some n → n < 4) : ∃ o', P_X13_sayHead G F (W.ad (.o 13 0)) (Int32.ofNat k) (G.1 j) (Int32.ofNat a) (oI en) (mem W (S.so 13 0 o)) = some (mem W (S.so 13 0 o')) ∧ mDr o' (hdP w en K) ∧ agr [28] [] [27] [] o o' := by
  obtain ⟨β27, b27⟩ := E 27 rfl
  have l52 : (str 52).length = 8 := by decide +kernel
  have d0 : mDr (o.sf 28 0) [] := ⟨by rw [sf_eq]; rfl, β27, b27, rfl⟩
  have a0 : agr [28] [] [27] [] o (o.sf 28 0) := agr_sf (by simp)
  obtain ⟨o1, g1, d1, a1⟩ := oM_say (G := G) (F := F) (S := S) (o := o.sf 28 0) (j := 109) X h (by decide) d0 (by decide)
  rw [st_109.1, List.nil_append] at d1
  obtain ⟨o2, g2, d2, a2⟩ := oM_sayWord (G := G) (F := F) (S := S) (o := o1) (j := j) (k := a) X h hj hR hx hw ha d1 (by rw [l52]; decide)
  obtain ⟨o3, g3, d3, a3⟩ := oM_sayc (G := G) (F := F) (S := S) (o := o2) (x := 34) (y := 34) h d2 (by rw [List.length_append, l52]; omega) rfl
  have ln3 : (str 52 ++ w ++ [34]).length ≤ 41 := by
    rw [List.length_append, List.length_append, l52]
    show 8 + w.length + 1 ≤ 41
    omega
  have a3' : agr [28] [] [27] [] o o3 := ((a0.trans a1).trans a2).trans a3
  unfold P_X13_sayHead
  rw [pfI_m h.lo rfl, bO_s, so_eq, so_so, rcv_m h.lo, bO_s, g1, bO_s, rcv_m h.lo, bO_s, g2, bO_s, rcv_m h.lo, bO_s, g3, bO_s]
  have x0 : (oI en < (0 : Int32)) = (en = none) := oI_lt (fun i hi => by have := he i hi; omega)
  simp only [x0]
  cases en with
  | none =>
    obtain ⟨o4, g4, d4, a4⟩ := oM_kid51 (G := G) (F := F) (S := S) (o := o3) X h (KK.agr a3' (by decide)) hk e d3 (by omega)
    rw [if_pos rfl, g4]
    refine ⟨o4, rfl, ?_, a3'.trans a4⟩
    have es : str 52 ++ w ++ [34] ++ kidP K = hdP w none K := by
      unfold hdP
      simp only [List.append_assoc, List.nil_append]
    rw [← es]
    exact d4
  | some n =>
    have n4 := he n rfl
    have wrw : ∀ n, n < 4 → wrW[n]? = some (str (59 + n)) ∧ (str (59 + n)).length ≤ 13 ∧ (str 58).length = 8 := by decide +kernel
    obtain ⟨v1, v2, v3⟩ := wrw n n4
    obtain ⟨o4, g4, d4, a4⟩ := oM_say (G := G) (F := F) (S := S) (o := o3) (j := 110) X h (by decide) d3 (by omega)
    rw [st_109.2.1] at d4
    obtain ⟨o5, g5, d5, a5⟩ := oM_sayWord (G := G) (F := F) (S := S) (o := o4) (j := 111) (k := n) X h (by decide) wrW_r wrW_x v1 (by omega) d4 (by rw [List.length_append, v3]; omega)
    obtain ⟨o6, g6, d6, a6⟩ := oM_sayc (G := G) (F := F) (S := S) (o := o5) (x := 34) (y := 34) h d5 (by rw [List.length_append, List.length_append, v3]; omega) rfl
    have a6' : agr [28] [] [27] [] o o6 := ((a3'.trans a4).trans a5).trans a6
    obtain ⟨o7, g7, d7, a7⟩ := oM_kid51 (G := G) (F := F) (S := S) (o := o6) X h (KK.agr a6' (by decide)) hk e d6 (by rw [List.length_append, List.length_append, List.length_append, v3]; show _ + 8 + _ + 1 < 10000; omega)
    rw [if_neg (by simp), rcv_m h.lo, bO_s, g4, bO_s, rcv_m h.lo, bO_s, show oI (some n) = (Int32.ofNat n) from rfl, g5, bO_s, rcv_m h.lo, bO_s, g6, bO_s, g7]
    refine ⟨o7, rfl, ?_, a6'.trans a7⟩
    have es : str 52 ++ w ++ [34] ++ str 58 ++ str (59 + n) ++ [34] ++ kidP K = hdP w (some n) K := by
      unfold hdP
      simp only [List.append_assoc]
    rw [← es]
    exact d7
end MHE
