/-! A SEALED TOKEN MADE: what is drawn, and its head: the class -/
def fmN (a : Nat) : Nat := if a < 4 then 0 else 32
def kmN (a w : Nat) : Nat := if a = 0 ∨ a = 4 then 0 else wayK w
def smN (a : Nat) : Nat := if a = 3 then 32 else 0
def ndN (a w : Nat) : Nat := fmN a + kmN a w + smN a + ivOf w
theorem wayK_le (w : Nat) : wayK w ≤ 64 := by unfold wayK; split <;> (try split) <;> (try split) <;> omega
theorem ivOf_le (w : Nat) : ivOf w ≤ 16 := by unfold ivOf; split <;> omega
theorem fmN_le (a : Nat) : fmN a ≤ 32 := by unfold fmN; split <;> omega
theorem kmN_le (a w : Nat) : kmN a w ≤ 64 := by have := wayK_le w; unfold kmN; split <;> omega
theorem smN_le (a : Nat) : smN a ≤ 32 := by unfold smN; split <;> omega
/-- a party's member, as it is written -/
def pyP (n : Nat) (u : Option (List UInt8)) : List UInt8 := match u with
  | none => []
  | some xs => str n ++ (enc xs ++ [34])
/-- the head of a sealed token, as it is written -/
def slP (a w : Nat) (K : KY) (pt : List UInt8) (u v : Option (List UInt8)) : List UInt8 := str 52 ++ (str (38 + a) ++ [34]) ++ (str 58 ++ (str (59 + w) ++ ([34] ++ (kidP K ++ ((if a < 4 then [] else str 63 ++ (pmF pt ++ ([125] ++ (pyP 64 u ++ pyP 65 v)))) ++ [125])))))
section DRW
variable {W : WR} {G : mG} {F : Nat} {S : ST} {j κ rk : Nat} {K : KY}
theorem Q10_drw69 {a w r f1 f2 f3 : Nat} {rnd : List UInt8} {l : Bool} (X : Cx G F W) (h : isTK W) (ab : AB W S) (hw : w < 4) (hr : r < 8) (hB : isB W r 8192) (b : Byt 8192 (S 0 r) rnd l) (e1 : f1 ≤ 32) (e2 : f2 ≤ 64) (e3 : f3 ≤ 32) (h2 : (S 10 0).f 2 = (Int32.ofNat w)) (n : Nat) (hn : n = f1 + f2 + f3 + ivOf w) : ∃ S', B_X10_draw_69 G F (W.ad (.o 10 0)) (W.ad (.o 0 r)) (Int32.ofNat f1) (Int32.ofNat f2) (Int32.ofNat f3) (mem W S) = some (if n ≤ rnd.length then 1 else 0, mem W S') ∧ fr [(0, 87), (0, 88), (0, 89), (0, 91)] S S' ∧ AB W S' ∧ (n ≤ rnd.length → Byt 32 (S' 0 87) (seg rnd 0 f1) false ∧ Byt 64 (S' 0 89) (seg rnd f1 f2) false ∧ Byt 32 (S' 0 88) (seg rnd (f1 + f2) f3) false ∧ Byt 16 (S' 0 91) (seg rnd (f1 + f2 + f3) (ivOf w)) false) := by
  have rl := b.le
  have il := ivOf_le w
  have g7 : ∀ S, gfR (mem W S) (W.ad (.o 10 0)) 10 7 = some (W.ad (.o 0 87)) := fun S => gfR_m h.1.1 rfl (h.2.2 7 (by decide) (by decide)).1
  have g8 : ∀ S, gfR (mem W S) (W.ad (.o 10 0)) 10 8 = some (W.ad (.o 0 88)) := fun S => gfR_m h.1.1 rfl (h.2.2 8 (by decide) (by decide)).1
  have g9 : ∀ S, gfR (mem W S) (W.ad (.o 10 0)) 10 9 = some (W.ad (.o 0 89)) := fun S => gfR_m h.1.1 rfl (h.2.2 9 (by decide) (by decide)).1
  have g11 : ∀ S, gfR (mem W S) (W.ad (.o 10 0)) 10 11 = some (W.ad (.o 0 91)) := fun S => gfR_m h.1.1 rfl (h.2.2 11 (by decide) (by decide)).1
  have B7 : isB W 87 32 := (h.2.2 7 (by decide) (by decide)).2
  have B8 : isB W 88 32 := (h.2.2 8 (by decide) (by decide)).2
  have B9 : isB W 89 64 := (h.2.2 9 (by decide) (by decide)).2
  have B11 : isB W 91 16 := (h.2.2 11 (by decide) (by decide)).2
  unfold B_X10_draw_69
  rw [hB.gI 1 rfl, bO_s, b.many, gfI_m h.1.1 rfl, bO_s, h2, way_t6 X hw, bO_s, n_add, n_add, n_add, ← hn]
  have xl : ((Int32.ofNat n) ≤ (Int32.ofNat rnd.length)) = (n ≤ rnd.length) := propext (n_le (by omega) (by omega))
  simp only [xl]
  by_cases c : n ≤ rnd.length
  · rw [if_pos c, if_pos c]
    have put : ∀ (S : ST) (it room p n : Nat), isB W it room → AB W S → (it ≠ r ∧ it < 94) → Byt 8192 (S 0 r) rnd l → p + n ≤ rnd.length → n ≤ room → ∃ o1 o2, P_X0_clear G F (W.ad (.o 0 it)) (mem W S) = some (mem W (S.so 0 it o1)) ∧ P_X0_putPart G F (W.ad (.o 0 it)) (W.ad (.o 0 r)) (Int32.ofNat p) (Int32.ofNat n) (mem W (S.so 0 it o1)) = some (mem W (S.so 0 it o2)) ∧ Byt room o2 (seg rnd p n) false ∧ AB W (S.so 0 it o2) ∧ Byt 8192 ((S.so 0 it o2) 0 r) rnd l := by
      intro S it room p n hT ab hne b hle hnr
      obtain ⟨xs, lx, bx⟩ := ab it room hne.2 hT
      obtain ⟨o1, g1, b1⟩ := Q0_clear (G := G) (F := F) (S := S) hT bx
      obtain ⟨o2, g2, b2⟩ := Q0_putPart (G := G) (F := F) (S := S.so 0 it o1) (i := it) (i2 := r) (p := p) (n := n) hT (by rw [so_eq]; exact b1) hB (by rw [so_ne (by omega)]; exact b) hle
      have sl : ((rnd.drop p).take n).length = n := by rw [List.length_take, List.length_drop]; omega
      rw [so_so] at g2
      rw [tkl_fit (by rw [List.length_nil]; omega), lsl_fit (by rw [List.length_nil]; omega), List.nil_append] at b2
      exact ⟨o1, o2, g1, g2, b2, ab.so hT b2, by rw [so_ne (by omega)]; exact b⟩
    obtain ⟨p1, p2, u1, u2, u3, u4, u5⟩ := put S 87 32 0 f1 B7 ab (by omega) b (by omega) (by omega)
    obtain ⟨p3, p4, v1, v2, v3, v4, v5⟩ := put (S.so 0 87 p2) 89 64 f1 f2 B9 u4 (by omega) u5 (by omega) (by omega)
    obtain ⟨p5, p6, w1, w2, w3, w4, w5⟩ := put ((S.so 0 87 p2).so 0 89 p4) 88 32 (f1 + f2) f3 B8 v4 (by omega) v5 (by omega) (by omega)
    obtain ⟨p7, p8, x1, x2, x3, x4, x5⟩ := put (((S.so 0 87 p2).so 0 89 p4).so 0 88 p6) 91 16 (f1 + f2 + f3) (ivOf w) B11 w4 (by omega) w5 (by omega) (by omega)
    have u2 : P_X0_putPart G F (W.ad (.o 0 87)) (W.ad (.o 0 r)) 0 (Int32.ofNat f1) (mem W (S.so 0 87 p1)) = _ := u2
    have f2' : gfI (mem W ((((S.so 0 87 p2).so 0 89 p4).so 0 88 p6).so 0 91 p7)) (W.ad (.o 10 0)) 10 2 = some (Int32.ofNat w) := by
      rw [gfI_m h.1.1 rfl, so_ne (by omega), so_ne (by omega), so_ne (by omega), so_ne (by omega), h2]
    rw [g7, bO_s, rcv_m B7.lo, bO_s, u1, bO_s, g7, bO_s, rcv_m B7.lo, bO_s, u2, bO_s, g9, bO_s, rcv_m B9.lo, bO_s, v1, bO_s, g9, bO_s, rcv_m B9.lo, bO_s, v2, bO_s, g8, bO_s, rcv_m B8.lo, bO_s, w1, bO_s, g8, bO_s, rcv_m B8.lo, bO_s, w2, bO_s, g11, bO_s, rcv_m B11.lo, bO_s, x1, bO_s, g11, bO_s, f2', bO_s, way_t6 X hw, bO_s, rcv_m B11.lo, bO_s, x2, bO_s, rz1]
    refine ⟨_, rfl, (((fr_so (by simp)).trans (fr_so (by simp))).trans (fr_so (by simp))).trans (fr_so (by simp)), x4, fun _ => ⟨?_, ?_, ?_, ?_⟩⟩
    · rw [so_ne (by omega), so_ne (by omega), so_ne (by omega), so_eq]; exact u3
    · rw [so_ne (by omega), so_ne (by omega), so_eq]; exact v3
    · rw [so_ne (by omega), so_eq]; exact w3
    · rw [so_eq]; exact x3
  · rw [if_neg c, if_neg c, rz0]
    exact ⟨S, rfl, fr.refl _ _, ab, fun q => absurd q c⟩
theorem Q10_draw {a w r : Nat} {rnd : List UInt8} {l : Bool} (X : Cx G F W) (h : isTK W) (ab : AB W S) (ha : a < 6) (hw : w < 4) (hr : r < 8) (hB : isB W r 8192) (b : Byt 8192 (S 0 r) rnd l) : ∃ S', P_X10_draw G F (W.ad (.o 10 0)) (Int32.ofNat a) (Int32.ofNat w) (W.ad (.o 0 r)) (mem W S) = some (if ndN a w ≤ rnd.length then 1 else 0, mem W S') ∧ fr [(10, 0), (0, 87), (0, 88), (0, 89), (0, 91)] S S' ∧ AB W S' ∧ S' 10 0 = ((S 10 0).sf 1 (Int32.ofNat a)).sf 2 (Int32.ofNat w) ∧ (ndN a w ≤ rnd.length → Byt 32 (S' 0 87) (seg rnd 0 (fmN a)) false ∧ Byt 64 (S' 0 89) (seg rnd (fmN a) (kmN a w)) false ∧ Byt 32 (S' 0 88) (seg rnd (fmN a + kmN a w) (smN a)) false ∧ Byt 16 (S' 0 91) (seg rnd (fmN a + kmN a w + smN a) (ivOf w)) false) := by
  obtain ⟨t, ht⟩ : ∃ t, t = ((S 10 0).sf 1 (Int32.ofNat a)).sf 2 (Int32.ofNat w) := ⟨_, rfl⟩
  have ab1 : AB W (S.so 10 0 t) := ab.keep (L := [(10, 0)]) (fr_so (by simp)) (fun i room q => absurd q (by simp))
  have f1 : gfI (mem W (S.so 10 0 t)) (W.ad (.o 10 0)) 10 1 = some (Int32.ofNat a) := by rw [gfI_m h.1.1 rfl, so_eq, ht, sf_ne (by omega), sf_eq]
  have f2 : gfI (mem W (S.so 10 0 t)) (W.ad (.o 10 0)) 10 2 = some (Int32.ofNat w) := by rw [gfI_m h.1.1 rfl, so_eq, ht, sf_eq]
  obtain ⟨S', g, q1, q2, q3⟩ := Q10_drw69 (G := G) (F := F) (S := S.so 10 0 t) (a := a) (f1 := fmN a) (f2 := kmN a w) (f3 := smN a) X h ab1 hw hr hB (by rw [so_ne (by omega)]; exact b) (fmN_le a) (kmN_le a w) (smN_le a) (by rw [so_eq, ht, sf_eq]) (ndN a w) rfl
  refine ⟨S', ?_, (fr_so (by simp) : fr [(10, 0), (0, 87), (0, 88), (0, 89), (0, 91)] S (S.so 10 0 t)).trans (q1.mono (by simp)), q2, by rw [q1 10 0 (by simp), so_eq, ht], q3⟩
  rw [← g]
  unfold P_X10_draw B_X10_draw_24
  rw [pfI_m h.1.1 rfl, bO_s, pfI_m h.1.1 rfl, bO_s, so_eq, so_so, ← ht]
  have h6 : a = 0 ∨ a = 1 ∨ a = 2 ∨ a = 3 ∨ a = 4 ∨ a = 5 := by omega
  rcases h6 with rfl | rfl | rfl | rfl | rfl | rfl
  · rw [f1, bO_s, if_pos (by decide), bO_s, if_pos (by decide), bO_s, if_neg (by decide)]
    rfl
  · rw [f1, bO_s, if_pos (by decide), bO_s, if_neg (by decide), bO_s, if_neg (by decide), f2, bO_s, way_t5 X hw, bO_s, bO_s, if_neg (by decide)]
    rfl
  · rw [f1, bO_s, if_pos (by decide), bO_s, if_neg (by decide), bO_s, if_neg (by decide), f2, bO_s, way_t5 X hw, bO_s, bO_s, if_neg (by decide)]
    rfl
  · rw [f1, bO_s, if_pos (by decide), bO_s, if_neg (by decide), bO_s, if_neg (by decide), f2, bO_s, way_t5 X hw, bO_s, bO_s, if_pos (by decide)]
    rfl
  · rw [f1, bO_s, if_neg (by decide), bO_s, if_neg (by decide), bO_s, if_pos (by decide), bO_s, if_neg (by decide)]
    rfl
  · rw [f1, bO_s, if_neg (by decide), bO_s, if_neg (by decide), bO_s, if_neg (by decide), f2, bO_s, way_t5 X hw, bO_s, bO_s, if_neg (by decide)]
    rfl
theorem Q10_putParty {n r room : Nat} {xs ys : List UInt8} {l ly : Bool} (X : Cx G F W) (h : isTK W) (hn : n < 124) (hr : r ≠ 83) (hB : isB W r room) (hrm : room < 90000) (b : Byt 8192 (S 0 83) xs l) (by_ : Byt room (S 0 r) ys ly) : ∃ o, P_X10_putParty G F (W.ad (.o 10 0)) (G.1 n) (W.ad (.o 0 r)) (mem W S) = some (mem W (S.so 0 83 o)) ∧ Byt 8192 o (tkl 8192 xs (pyP n (some ys))) (lsl 8192 xs (pyP n (some ys)) l) := by
  have hH := h.2.1.2
  have yl := by_.le
  obtain ⟨o1, g1, b1⟩ := Q0_putText (G := G) (F := F) (S := S) (j := n) X hH hn b
  have by1 : Byt room ((S.so 0 83 o1) 0 r) ys ly := by rw [so_ne (by omega)]; exact by_
  obtain ⟨o2, g2, b2⟩ := Q0_putLetters (G := G) (F := F) (S := S.so 0 83 o1) (i := 83) (i2 := r) (st := 0) (stop := ys.length) X hH (by rw [so_eq]; exact b1) hB by1 hr (by omega) (by omega) (by omega)
  rw [so_so] at g2
  rw [List.drop_zero, Nat.sub_zero, List.take_length, tkl_tkl, lsl_lsl] at b2
  obtain ⟨o3, g3, b3⟩ := Q0_putc (G := G) (F := F) (S := S.so 0 83 o2) (x := 34) (y := 34) hH (by rw [so_eq]; exact b2) rfl
  rw [so_so] at g3
  rw [tkl_tkl, lsl_lsl, List.append_assoc] at b3
  have g2 : P_X0_putLetters G F (W.ad (.o 0 83)) (W.ad (.o 0 r)) 0 (Int32.ofNat ys.length) (mem W (S.so 0 83 o1)) = _ := g2
  refine ⟨o3, ?_, b3⟩
  unfold P_X10_putParty
  rw [tk0 h, bO_s, rcv_m hH.lo, bO_s, g1, bO_s, tk0 h, bO_s, hB.gI 1 rfl, bO_s, by1.many, rcv_m hH.lo, bO_s, g2, bO_s, tk0 h, bO_s, rcv_m hH.lo, bO_s, g3, bO_s]
/-- makeSealedHead, whatever the parties are -/
def mshF (G : mG) (F : Nat) (l0 l1 : Nat) (k2 k3 : mM → Option mM) (M : mM) : Option mM :=
  bO (gfI M l0 10 1) fun v3 =>
  bP (P_X11_algName G F ((5 : Int32) + v3) M) fun v7 M7 =>
  bO (rcv M7 l0 10) fun _ =>
  bO (P_X10_startHead G F l0 v7 M7) fun M10 =>
  bO (gfR M10 l0 10 0) fun v14 =>
  bO (rcv M10 v14 0) fun _ =>
  bO (P_X0_putText G F v14 (G.1 58) M10) fun M20 =>
  bO (gfR M20 l0 10 0) fun v24 =>
  bO (gfI M20 l0 10 2) fun v28 =>
  bP (P_X11_wayName G F v28 M20) fun v31 M31 =>
  bO (rcv M31 v24 0) fun _ =>
  bO (P_X0_putText G F v24 v31 M31) fun M34 =>
  bO (gfR M34 l0 10 0) fun v38 =>
  bO (rcv M34 v38 0) fun _ =>
  bO (P_X0_put G F v38 (34 : Int32) M34) fun M43 =>
  bO (rcv M43 l0 10) fun _ =>
  bO (P_X10_putKid G F l0 l1 M43) fun M48 =>
  bO (gfI M48 l0 10 1) fun v52 =>
  if v52 < (4 : Int32) then (bO (gfR M48 l0 10 0) fun v106 =>
  bO (rcv M48 v106 0) fun _ =>
  bO (P_X0_put G F v106 (125 : Int32) M48) fun M111 =>
  some M111)
  else (bO (gfR M48 l0 10 0) fun v60 =>
  bO (rcv M48 v60 0) fun _ =>
  bO (P_X0_putText G F v60 (G.1 63) M48) fun M66 =>
  bO (gfR M66 l0 10 6) fun v70 =>
  bO (gfR M66 l0 10 0) fun v74 =>
  bO (P_X5_putPointMembers G F v70 v74 M66) fun M77 =>
  bO (gfR M77 l0 10 0) fun v81 =>
  bO (rcv M77 v81 0) fun _ =>
  bO (P_X0_put G F v81 (125 : Int32) M77) fun M86 =>
  bO (rcv M86 l0 10) fun _ =>
  bO (k2 M86) fun M94 =>
  bO (rcv M94 l0 10) fun _ =>
  bO (k3 M94) fun M102 =>
  bO (gfR M102 l0 10 0) fun v106 =>
  bO (rcv M102 v106 0) fun _ =>
  bO (P_X0_put G F v106 (125 : Int32) M102) fun M111 =>
  some M111)
/-- a part of it that says so much -/
def saysH (W : WR) (S : ST) (k : mM → Option mM) (p : List UInt8) : Prop := ∀ (o : Ob) (xs : List UInt8) (l : Bool), Byt 8192 o xs l → ∃ o', k (mem W (S.so 0 83 o)) = some (mem W (S.so 0 83 o')) ∧ Byt 8192 o' (tkl 8192 xs p) (lsl 8192 xs p l)
theorem Q10_makeSealed {a w : Nat} {u v : Option (List UInt8)} {k2 k3 : mM → Option mM} {pt xs : List UInt8} {l lp : Bool} (X : Cx G F W) (h : isTK W) (ha : a < 6) (hw : w < 4) (hj : j ≤ 16) (H : isKo W j) (O : KyO S j κ rk K) (h9 : W.r 5 j 9 = some (.o 0 κ)) (hB : isB W κ rk) (hr : rk < 100000) (hκ : 94 ≤ κ) (b : Byt 8192 (S 0 83) xs l) (f1 : (S 10 0).f 1 = (Int32.ofNat a)) (f2 : (S 10 0).f 2 = (Int32.ofNat w)) (bq : 4 ≤ a → Byt 64 (S 0 86) pt lp ∧ pt.length = 64) (q2 : saysH W S k2 (pyP 64 u)) (q3 : saysH W S k3 (pyP 65 v)) : ∃ o, mshF G F (W.ad (.o 10 0)) (W.ad (.o 5 j)) k2 k3 (mem W S) = some (mem W (S.so 0 83 o)) ∧ Byt 8192 o (tkl 8192 [] (slP a w K pt u v)) (lsl 8192 [] (slP a w K pt u v) false) := by
  have hH := h.2.1.2
  have O1 : ∀ o, KyO (S.so 0 83 o) j κ rk K := fun o => O.same (fun k _ => by rw [so_ne (by omega)]) (by rw [so_ne (by omega)]) (by rw [so_ne (by omega)]) (by rw [so_ne (by omega)]) (by rw [so_ne (by omega)])
  have x1 : ∀ o, gfI (mem W (S.so 0 83 o)) (W.ad (.o 10 0)) 10 1 = some (Int32.ofNat a) := fun o => by rw [gfI_m h.1.1 rfl, so_ne (by omega), f1]
  have x2 : ∀ o, gfI (mem W (S.so 0 83 o)) (W.ad (.o 10 0)) 10 2 = some (Int32.ofNat w) := fun o => by rw [gfI_m h.1.1 rfl, so_ne (by omega), f2]
  have x10 : gfI (mem W S) (W.ad (.o 10 0)) 10 1 = some (Int32.ofNat a) := by rw [gfI_m h.1.1 rfl, f1]
  have puc : ∀ (o : Ob) (xs : List UInt8) (l : Bool) (x : Int32) (y : UInt8), lo8 x = y → Byt 8192 o xs l → ∃ o', P_X0_put G F (W.ad (.o 0 83)) x (mem W (S.so 0 83 o)) = some (mem W (S.so 0 83 o')) ∧ Byt 8192 o' (tkl 8192 xs [y]) (lsl 8192 xs [y] l) := fun o xs l x y hy bo => by
    obtain ⟨o', g, b'⟩ := Q0_putc (G := G) (F := F) (S := S.so 0 83 o) (x := x) (y := y) hH (by rw [so_eq]; exact bo) hy
    rw [so_so] at g
    exact ⟨o', g, b'⟩
  have put : ∀ (o : Ob) (xs : List UInt8) (l : Bool) (n : Nat), n < 124 → Byt 8192 o xs l → ∃ o', P_X0_putText G F (W.ad (.o 0 83)) (G.1 n) (mem W (S.so 0 83 o)) = some (mem W (S.so 0 83 o')) ∧ Byt 8192 o' (tkl 8192 xs (str n)) (lsl 8192 xs (str n) l) := fun o xs l n hn bo => by
    obtain ⟨o', g, b'⟩ := Q0_putText (G := G) (F := F) (S := S.so 0 83 o) (j := n) X hH hn (by rw [so_eq]; exact bo)
    rw [so_so] at g
    exact ⟨o', g, b'⟩
  obtain ⟨p1, g1, b1⟩ := Q10_startHead (G := G) (F := F) (S := S) (n := 38 + a) X h (by omega) b
  obtain ⟨p2, g2, b2⟩ := put p1 _ _ 58 (by decide) b1
  obtain ⟨p3, g3, b3⟩ := put p2 _ _ (59 + w) (by omega) b2
  obtain ⟨p4, g4, b4⟩ := puc p3 _ _ 34 34 rfl b3
  obtain ⟨p5, g5, b5⟩ := Q10_putKid (G := G) (F := F) (S := S.so 0 83 p4) X h H (O1 p4) h9 hB hr hκ (by rw [so_eq]; exact b4)
  rw [so_so] at g5
  unfold mshF
  rw [x10, bO_s, show (5 : Int32) + (Int32.ofNat a) = (Int32.ofNat (5 + a)) from n_add 5 a, Q11_alg (by omega), bP_s, rcv_m h.1.1, bO_s, show 33 + (5 + a) = 38 + a by omega, g1, bO_s, tk0 h, bO_s, rcv_m hH.lo, bO_s, g2, bO_s, tk0 h, bO_s, x2, bO_s, Q11_way hw, bP_s, rcv_m hH.lo, bO_s, g3, bO_s, tk0 h, bO_s, rcv_m hH.lo, bO_s, g4, bO_s, rcv_m h.1.1, bO_s, g5, bO_s, x1, bO_s]
  have x4 : ((Int32.ofNat a) < (4 : Int32)) = (a < 4) := propext (n_lt (b := 4) (by omega) (by omega))
  simp only [x4]
  by_cases c : a < 4
  · obtain ⟨p6, g6, b6⟩ := puc p5 _ _ 125 125 rfl b5
    simp only [tkl_tkl, lsl_lsl] at b6
    rw [if_pos c, tk0 h, bO_s, rcv_m hH.lo, bO_s, g6, bO_s]
    refine ⟨p6, rfl, ?_⟩
    unfold slP
    rw [if_pos c]
    simpa only [List.append_assoc, List.nil_append] using b6
  · obtain ⟨bq, hl⟩ := bq (by omega)
    have B6 : isB W 86 64 := (h.2.2 6 (by decide) (by decide)).2
    have g6r : ∀ S, gfR (mem W S) (W.ad (.o 10 0)) 10 6 = some (W.ad (.o 0 86)) := fun S => gfR_m h.1.1 rfl (h.2.2 6 (by decide) (by decide)).1
    obtain ⟨p6, g6, b6⟩ := put p5 _ _ 63 (by decide) b5
    obtain ⟨p7, g7, b7⟩ := Q5_putPoint (G := G) (F := F) (S := S.so 0 83 p6) (ix := 86) (it := 83) X B6 (by rw [so_ne (by omega)]; exact bq) hH (by rw [so_eq]; exact b6) (by omega) (by omega)
    rw [so_so] at g7
    obtain ⟨p8, g8, b8⟩ := puc p7 _ _ 125 125 rfl b7
    obtain ⟨p9, g9, b9⟩ := q2 p8 _ _ b8
    obtain ⟨p10, g10, b10⟩ := q3 p9 _ _ b9
    obtain ⟨p11, g11, b11⟩ := puc p10 _ _ 125 125 rfl b10
    simp only [tkl_tkl, lsl_lsl] at b11
    rw [if_neg c, tk0 h, bO_s, rcv_m hH.lo, bO_s, g6, bO_s, g6r, bO_s, tk0 h, bO_s, g7, bO_s, tk0 h, bO_s, rcv_m hH.lo, bO_s, g8, bO_s, rcv_m h.1.1, bO_s, g9, bO_s, rcv_m h.1.1, bO_s, g10, bO_s, tk0 h, bO_s, rcv_m hH.lo, bO_s, g11, bO_s]
    refine ⟨p11, rfl, ?_⟩
    unfold slP
    rw [if_neg c]
    simpa only [List.append_assoc, List.nil_append] using b11
theorem saysH.none {n : Nat} : saysH W S (fun M => P_X10_putParty_n2 G F (W.ad (.o 10 0)) (G.1 n) M) (pyP n none) := by
  intro o xs l b
  exact ⟨o, rfl, by show Byt 8192 o (tkl 8192 xs []) (lsl 8192 xs [] l); rw [tkl_nil b.le, lsl_nil b.le]; exact b⟩
theorem saysH.some {n r room : Nat} {ys : List UInt8} {ly : Bool} (X : Cx G F W) (h : isTK W) (hn : n < 124) (hr : r ≠ 83) (hB : isB W r room) (hrm : room < 90000) (by_ : Byt room (S 0 r) ys ly) : saysH W S (fun M => P_X10_putParty G F (W.ad (.o 10 0)) (G.1 n) (W.ad (.o 0 r)) M) (pyP n (some ys)) := by
  intro o xs l b
  obtain ⟨o', g, b'⟩ := Q10_putParty (G := G) (F := F) (S := S.so 0 83 o) (n := n) (r := r) X h hn hr hB hrm (by rw [so_eq]; exact b) (by rw [so_ne (by omega)]; exact by_)
  rw [so_so] at g
  exact ⟨o', g, b'⟩
end DRW
