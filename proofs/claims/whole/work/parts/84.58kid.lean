/-! THE KID THAT A HEAD ASKS FOR; NO KEY MAY WHERE NONE IS -/
/-- a key has the kid that a head asks for -/
def kdS (J : JT) (K : KY) : Bool := match fd J 55 with
  | none => true
  | some i => decide (K.2.2.2.2 = some (seg J.2.2 (J.2.1 6 i) (J.2.1 7 i)))
section KDC
variable {W : WR} {G : mG} {F : Nat} {S : ST} {t ip j κ rk : Nat} {J : JT} {lp : Bool} {K : KY}
theorem Q10_kidSuits (X : Cx G F W) (h : isTk W) (T : isTx W t ip) (C : TbC (S 9 t) J) (Y : JX J) (bp : Byt 8192 (S 0 ip) J.2.2 lp) (H : isKo W j) (O : KyO S j κ rk K) (h9 : W.r 5 j 9 = some (.o 0 κ)) (hB : isB W κ rk) (hr : rk < 2 ^ 20) (h15 : (S 10 0).f 15 = oI (fd J 55)) (hd : fd J 55 = none ∨ kB J (fd J 55) 4 = true) : P_X10_kidSuits G F (W.ad (.o 10 0)) (W.ad (.o 9 t)) (W.ad (.o 5 j)) (mem W S) = some (if kdS J K = true then 1 else 0, mem W S) := by
  obtain ⟨o1, o2, o3, o4, o5, o6, o7⟩ := O
  have Y2 := Y.2.1
  have Y1 := Y.1
  have hk := o7.le
  unfold P_X10_kidSuits kdS
  rw [gfI_m h.1 rfl, bO_s, h15]
  simp only [(show (oI (fd J 55) = (-1 : Int32)) = (fd J 55 = none) from oI_n (fN_b Y))]
  cases e : fd J 55 with
  | none =>
    rw [if_pos rfl]
    rfl
  | some i =>
    have hi := fN_lt e
    have k4 : kB J (some i) 4 = true := by
      rw [e] at hd
      exact hd.resolve_left (by simp)
    obtain ⟨c1, c2, c3, c4, c5, c6, c7, c8⟩ := C.2 i hi
    have y := Y.2.2 i hi
    rw [if_neg (by simp), gfI_m H.1 rfl, bO_s, o5]
    cases ek : K.2.2.2.2 with
    | none =>
      rw [if_pos (show (if (none : Option (List UInt8)).isSome = true then (1 : Int32) else 0) = 0 from rfl)]
      show retZ 0 _ = some (if decide (none = some _) = true then 1 else 0, _)
      rw [decide_eq_false (by simp)]
      rfl
    | some d =>
      rw [ek] at o7 hk
      have o7 : Byt rk (S 0 κ) d false := o7
      have hk : d.length ≤ rk := hk
      have l6 : i < 600 := by omega
      have ds : seg d 0 d.length = d := seg_all rfl
      have ps := Q9_poolSays (G := G) (F := F) (S := S) (J := J) (a := J.2.1 6 i) (m := J.2.1 7 i) (fr := 0) (c := d.length) X T bp hB o7 (by omega) (by omega) ds (by omega)
      have ps : P_X9_poolSays G F (W.ad (.o 9 t)) (Int32.ofNat (J.2.1 6 i)) (Int32.ofNat (J.2.1 7 i)) (W.ad (.o 0 κ)) 0 (Int32.ofNat d.length) (mem W S) = _ := ps
      have sm : P_X9_saysSame G F (W.ad (.o 9 t)) (Int32.ofNat i) (W.ad (.o 0 κ)) (mem W S) = some (if J.2.1 7 i = d.length ∧ seg J.2.2 (J.2.1 6 i) d.length = d then 1 else 0, mem W S) := by
        unfold P_X9_saysSame
        rw [rcv_m T.1, bO_s, Q9_isKind' (x := (Int32.ofNat i)) (y := 4) (o := some i) (kd := 4) T C Y (fun k hk => by have := Option.some.inj hk; omega) rfl (by decide) rfl, bP_s, if_pos k4, if_neg (by decide)]
        simp only [t9r T 6, t9r T 7, bO_s, t9a T 6 i l6, t9a T 7 i l6, c6, c7]
        rw [gfI_m hB.lo rfl, bO_s, rcv_m T.1, bO_s, o7.many, ps, bP_s]
        by_cases z : J.2.1 7 i = d.length ∧ seg J.2.2 (J.2.1 6 i) d.length = d
        · rw [if_pos z, if_neg (by decide)]
          rfl
        · rw [if_neg z, if_pos rfl]
          rfl
      rw [if_pos (show (some d).isSome = true from rfl), if_neg (by decide), gfR_m H.1 rfl h9, bO_s, rcv_m T.1, bO_s, show oI (some i) = (Int32.ofNat i) from rfl, sm, bP_s]
      show _ = some (if decide (some d = some (seg J.2.2 (J.2.1 6 i) (J.2.1 7 i))) = true then 1 else 0, _)
      have iff : (J.2.1 7 i = d.length ∧ seg J.2.2 (J.2.1 6 i) d.length = d) ↔ (some d = some (seg J.2.2 (J.2.1 6 i) (J.2.1 7 i))) := by
        constructor
        · intro q
          rw [q.1, q.2]
        · intro q
          have q := Option.some.inj q
          have l : J.2.1 7 i = d.length := by rw [q, seg_len (by omega)]
          exact ⟨l, by rw [← l]; exact q.symm⟩
      by_cases z : J.2.1 7 i = d.length ∧ seg J.2.2 (J.2.1 6 i) d.length = d
      · rw [if_pos z, if_neg (by decide), decide_eq_true (iff.mp z)]
        rfl
      · rw [if_neg z, if_pos rfl, decide_eq_false (fun q => z (iff.mpr q))]
        rfl
end KDC
section KDM
variable {W : WR} {G : mG} {F : Nat} {S : ST} {o : Ob} {A : Nat → Option KY} {bk : Nat} {J : JT}
theorem oM_hasKid {k : Nat} {K : KY} (X : Cx G F W) (h : isM W) (KK : KM o A) (hk : k < 16) (e : A k = some K) (M : MTx o bk J) (hbk : bk ≤ 1) (Y : JX J) (H : kdH o bk J) : P_X13_hasKid G F (W.ad (.o 13 0)) (Int32.ofNat k) (mem W (S.so 13 0 o)) = some (if kdS J K = true then 1 else 0, mem W (S.so 13 0 o)) := by
  have Y2 := Y.2.1
  have Y1 := Y.1
  obtain ⟨α85, α87, α89, α92, α94, bb, q⟩ := id KK
  have q := q k hk
  rw [e] at q
  obtain ⟨q0, ⟨⟨z1, z2, z3, z4, z5, z6⟩, y1, y2, y3, y4, wd, y5, y6, y7⟩, V⟩ := q
  obtain ⟨m1, m2, β, m3, m4⟩ := M
  obtain ⟨h6, h5⟩ := H
  have g6 : gfI (mem W (S.so 13 0 o)) (W.ad (.o 13 0)) 13 106 = some (oLn ((fd J 55).map (J.2.1 7))) := by rw [gfI_m h.lo rfl, so_eq, h6]
  unfold P_X13_hasKid kdS
  rw [g6, bO_s]
  cases e5 : fd J 55 with
  | none =>
    rw [if_pos (show oLn ((none : Option Nat).map (J.2.1 7)) < 0 from (by decide : (-1 : Int32) < 0))]
    rfl
  | some i =>
    have hi := fN_lt e5
    have y := Y.2.2 i hi
    have g5 : gfI (mem W (S.so 13 0 o)) (W.ad (.o 13 0)) 13 105 = some (Int32.ofNat (8200 * bk + J.2.1 6 i)) := by rw [gfI_m h.lo rfl, so_eq, h5 i e5]
    show (if (Int32.ofNat (J.2.1 7 i)) < (0 : Int32) then _ else _) = _
    have rd : aI G (mem W (S.so 13 0 o)) 0 (W.ad (.a 13 0 93)) (Int32.ofNat k) = some (oLn (K.2.2.2.2.map List.length)) := by
      rw [h.aN rfl (show k < mLen 93 from hk) (by decide), so_eq, z6]
    rw [if_neg (nn (by omega)), h.gR 93 rfl (by decide), bO_s, rd, bO_s, bO_s]
    show (if _ = (Int32.ofNat (J.2.1 7 i)) then _ else _) = _
    cases ek : K.2.2.2.2 with
    | none =>
      rw [if_neg (show ¬ oLn ((none : Option (List UInt8)).map List.length) = (Int32.ofNat (J.2.1 7 i)) from fun z => n_nm (by omega) z.symm)]
      show retZ 0 _ = some (if decide (none = some _) = true then 1 else 0, _)
      rw [decide_eq_false (by simp)]
      rfl
    | some d =>
      obtain ⟨l, r⟩ := y4 d ek
      show (if (Int32.ofNat d.length) = (Int32.ofNat (J.2.1 7 i)) then _ else _) = some (if decide (some d = some (seg J.2.2 (J.2.1 6 i) (J.2.1 7 i))) = true then 1 else 0, _)
      by_cases c : d.length = J.2.1 7 i
      · have sm := QM_same (G := G) (F := F) (S := S.so 13 0 o) (k1 := 92) (k2 := 15) (p1 := 8200 * k) (p2 := 8200 * bk + J.2.1 6 i) (n := J.2.1 7 i) (β1 := α92) (β2 := β) X h rfl rfl (by decide) (by decide) (by show _ ≤ 131200; omega) (by show _ ≤ 16400; omega) (by rw [so_eq]; exact bb.2.2.2.1) (by rw [so_eq]; exact m3) (by omega)
        have es : rdB β (8200 * bk + J.2.1 6 i) (J.2.1 7 i) = seg J.2.2 (J.2.1 6 i) (J.2.1 7 i) := by rw [← m4, seg_rd (by omega)]
        rw [← c, r, c, es] at sm
        rw [if_pos (by rw [c]), h.gR 92 rfl (by decide), bO_s, h.gR 15 rfl (by decide), bO_s, g5, bO_s, bO_s, show (8200 : Int32) * (Int32.ofNat k) = (Int32.ofNat (8200 * k)) from n_mul 8200 k]
        show bP (P_X13_same G F (W.ad (.a 13 0 92)) (Int32.ofNat (8200 * k)) (W.ad (.a 13 0 15)) (Int32.ofNat (8200 * bk + J.2.1 6 i)) (Int32.ofNat (J.2.1 7 i)) (mem W (S.so 13 0 o))) _ = _
        rw [sm, bP_s]
        by_cases z : d = seg J.2.2 (J.2.1 6 i) (J.2.1 7 i)
        · rw [if_pos z, if_neg (by decide), decide_eq_true (by rw [← z])]
          rfl
        · rw [if_neg z, if_pos rfl, decide_eq_false (fun q => z (Option.some.inj q))]
          rfl
      · rw [if_neg (fun z => c ((n_eq (by omega) (by omega)).mp z)), decide_eq_false (fun q => c (by rw [Option.some.inj q, seg_len (by omega)]))]
        rfl
theorem oM_lets_n {j k : Nat} {x y : Int32} {ws : List (List UInt8)} (X : Cx G F W) (h : isM W) (KK : KM o A) (hk : k < 16) (e : A k = none) (hj : j < 124) (hR : str j = rwW ws) (hl : ws.length < 100) (hx : ∀ w ∈ ws, ∀ x ∈ w, x ≠ 32) : P_X13_lets G F (W.ad (.o 13 0)) (Int32.ofNat k) (G.1 j) x y (mem W (S.so 13 0 o)) = some (0, mem W (S.so 13 0 o)) := by
  obtain ⟨α85, α87, α89, α92, α94, bb, q⟩ := id KK
  have q := q k hk
  rw [e] at q
  obtain ⟨q0, w, q1, q2⟩ := q
  have e37 : ∀ g : Int32, B_X13_lets_37 G F (W.ad (.o 13 0)) (Int32.ofNat k) y g (mem W (S.so 13 0 o)) = some (0, mem W (S.so 13 0 o)) := by
    intro g
    unfold B_X13_lets_37
    rw [h.gR 83 rfl (by decide), bO_s, oM_a83 h hk, bO_s, q0, if_pos rfl]
    rfl
  have rd : aI G (mem W (S.so 13 0 o)) 0 (W.ad (.a 13 0 95)) (Int32.ofNat k) = some (oLn w) := by
    rw [h.aN rfl (show k < mLen 95 from hk) (by decide), so_eq, q1]
  unfold P_X13_lets
  rw [h.gR 95 rfl (by decide), bO_s, rd, bO_s]
  cases w with
  | none =>
    rw [if_pos (show oLn none < 0 by decide)]
    exact e37 _
  | some n =>
    have hn := q2 n rfl
    have wo := QM_wordOf (G := G) (F := F) (S := S.so 13 0 o) (j := j) (n := n) (kb := 94) (p := 8200 * k) (β := α94) X h hj rfl (by decide) (by rw [so_eq]; exact bb.2.2.2.2) (by omega) (by show _ ≤ 131200; omega) hR hl hx
    rw [if_neg (show ¬ oLn (some n) < 0 from nn (by omega)), h.gR 94 rfl (by decide), bO_s, bO_s, rd, bO_s, show (8200 : Int32) * (Int32.ofNat k) = (Int32.ofNat (8200 * k)) from n_mul 8200 k]
    show bP (P_X13_wordOf G F (G.1 j) (W.ad (.a 13 0 94)) (Int32.ofNat (8200 * k)) (Int32.ofNat n) (mem W (S.so 13 0 o))) _ = _
    rw [wo, bP_s, e37, e37]
    split <;> rfl
theorem oM_maySign_n {k : Nat} {x y : Int32} (X : Cx G F W) (h : isM W) (KK : KM o A) (hk : k < 16) (e : A k = none) : P_X13_maySign G F (W.ad (.o 13 0)) (Int32.ofNat k) x y (mem W (S.so 13 0 o)) = some (0, mem W (S.so 13 0 o)) := by
  have b51 : ∀ a b c d : Int32, B_X13_maySign_51 G F (W.ad (.o 13 0)) (Int32.ofNat k) a b c d (mem W (S.so 13 0 o)) = some (0, mem W (S.so 13 0 o)) := by
    intro a b c d
    unfold B_X13_maySign_51
    rw [rcv_m h.lo, bO_s, oM_lets_n X h KK hk e (by decide) (show str 108 = rwW wrS by decide +kernel) (by decide) wrS_x, bP_s, if_pos rfl]
    rfl
  have b19 : ∀ a b c : Int32, B_X13_maySign_19 G F (W.ad (.o 13 0)) (Int32.ofNat k) a b c (mem W (S.so 13 0 o)) = some (0, mem W (S.so 13 0 o)) := by
    intro a b c
    unfold B_X13_maySign_19
    rw [b51, b51, b51, b51]
    repeat' split
    all_goals rfl
  unfold P_X13_maySign
  rw [b19, b19, b19]
  repeat' split
  all_goals rfl
theorem oM_maySeal_n {k : Nat} {x y z : Int32} (X : Cx G F W) (h : isM W) (KK : KM o A) (hk : k < 16) (e : A k = none) : P_X13_maySeal G F (W.ad (.o 13 0)) (Int32.ofNat k) x y z (mem W (S.so 13 0 o)) = some (0, mem W (S.so 13 0 o)) := by
  unfold P_X13_maySeal
  rw [rcv_m h.lo, bO_s, oM_lets_n X h KK hk e (by decide) (show str 117 = rwW wrE by decide +kernel) (by decide) wrE_x, bP_s, if_pos rfl]
  rfl
end KDM
