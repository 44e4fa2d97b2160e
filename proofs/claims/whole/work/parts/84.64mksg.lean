/-! THE HEAD OF A SIGNED TOKEN MADE: the class -/
section MSG
variable {W : WR} {G : mG} {F : Nat} {S : ST} {j κ rk : Nat} {K : KY}
theorem tk0 (h : isTK W) (S : ST) : gfR (mem W S) (W.ad (.o 10 0)) 10 0 = some (W.ad (.o 0 83)) := gfR_m h.1.1 rfl h.2.1.1
theorem Q10_startHead {n : Nat} {xs : List UInt8} {l : Bool} (X : Cx G F W) (h : isTK W) (hn : n < 124) (b : Byt 8192 (S 0 83) xs l) : ∃ o, P_X10_startHead G F (W.ad (.o 10 0)) (G.1 n) (mem W S) = some (mem W (S.so 0 83 o)) ∧ Byt 8192 o (tkl 8192 [] (str 52 ++ (str n ++ [34]))) (lsl 8192 [] (str 52 ++ (str n ++ [34])) false) := by
  have hB := h.2.1.2
  obtain ⟨o1, g1, b1⟩ := Q0_clear (G := G) (F := F) (S := S) hB b
  obtain ⟨o2, g2, b2⟩ := Q0_putText (G := G) (F := F) (S := S.so 0 83 o1) (j := 52) X hB (by decide) (by rw [so_eq]; exact b1)
  obtain ⟨o3, g3, b3⟩ := Q0_putText (G := G) (F := F) (S := S.so 0 83 o2) (j := n) X hB hn (by rw [so_eq]; exact b2)
  obtain ⟨o4, g4, b4⟩ := Q0_putc (G := G) (F := F) (S := S.so 0 83 o3) (x := 34) (y := 34) hB (by rw [so_eq]; exact b3) rfl
  rw [so_so] at g2 g3 g4
  rw [tkl_tkl, lsl_lsl, tkl_tkl, lsl_lsl] at b4
  refine ⟨o4, ?_, b4⟩
  unfold P_X10_startHead
  rw [tk0 h, bO_s, rcv_m hB.lo, bO_s, g1, bO_s, tk0 h, bO_s, rcv_m hB.lo, bO_s, g2, bO_s, tk0 h, bO_s, rcv_m hB.lo, bO_s, g3, bO_s, tk0 h, bO_s, rcv_m hB.lo, bO_s, g4, bO_s]
theorem Q10_putKid {xs : List UInt8} {l : Bool} (X : Cx G F W) (h : isTK W) (H : isKo W j) (O : KyO S j κ rk K) (h9 : W.r 5 j 9 = some (.o 0 κ)) (hB : isB W κ rk) (hr : rk < 100000) (hκ : 94 ≤ κ) (b : Byt 8192 (S 0 83) xs l) : ∃ o, P_X10_putKid G F (W.ad (.o 10 0)) (W.ad (.o 5 j)) (mem W S) = some (mem W (S.so 0 83 o)) ∧ Byt 8192 o (tkl 8192 xs (kidP K)) (lsl 8192 xs (kidP K) l) := by
  have hH := h.2.1.2
  obtain ⟨o1, o2, o3, o4, o5, o6, o7⟩ := O
  have hk := o7.le
  unfold P_X10_putKid kidP
  rw [gfI_m H.1 rfl, bO_s, o5]
  cases ek : K.2.2.2.2 with
  | none =>
    rw [if_pos (show (if (none : Option (List UInt8)).isSome = true then (1 : Int32) else 0) = 0 from rfl)]
    exact ⟨S 0 83, by rw [so_self], by rw [tkl_nil b.le, lsl_nil b.le]; exact b⟩
  | some d =>
    rw [ek] at o7 hk
    have o7 : Byt rk (S 0 κ) d false := o7
    have hk : d.length ≤ rk := hk
    obtain ⟨p1, g1, b1⟩ := Q0_putText (G := G) (F := F) (S := S) (j := 53) X hH (by decide) b
    have o7' : Byt rk ((S.so 0 83 p1) 0 κ) d false := by rw [so_ne (by omega)]; exact o7
    obtain ⟨p2, g2, b2⟩ := Q9_putString (G := G) (F := F) (S := S.so 0 83 p1) (st := 0) (many := d.length) X hB hH (by omega) (by omega) (by omega) o7' (by rw [so_eq]; exact b1)
    rw [so_so] at g2
    rw [tkl_tkl, lsl_lsl, seg_all rfl] at b2
    have g2 : P_X9_putString G F (W.ad (.o 0 κ)) 0 (Int32.ofNat d.length) (W.ad (.o 0 83)) (mem W (S.so 0 83 p1)) = _ := g2
    rw [if_neg (show ¬ (if (some d : Option (List UInt8)).isSome = true then (1 : Int32) else 0) = 0 by rw [if_pos (show (some d : Option (List UInt8)).isSome = true from rfl)]; decide), tk0 h, bO_s, rcv_m hH.lo, bO_s, g1, bO_s, gfR_m H.1 rfl h9, bO_s, bO_s, gfI_m hB.lo rfl, bO_s, o7'.many, tk0 h, bO_s, g2, bO_s]
    exact ⟨p2, rfl, b2⟩
theorem Q10_makeSigned {a : Nat} {xs : List UInt8} {l : Bool} (X : Cx G F W) (h : isTK W) (ha : a < 5) (hj : j ≤ 16) (H : isKo W j) (O : KyO S j κ rk K) (V : KyV K) (h9 : W.r 5 j 9 = some (.o 0 κ)) (hB : isB W κ rk) (hr : rk < 100000) (hκ : 94 ≤ κ) (b : Byt 8192 (S 0 83) xs l) : ∃ o t, P_X10_makeSignedHead G F (W.ad (.o 10 0)) (Int32.ofNat a) (W.ad (.o 5 j)) (mem W S) = some (mem W ((S.so 10 0 t).so 0 83 o)) ∧ t = (S 10 0).sf 3 0 ∧ Byt 8192 o (sgnP a K) false := by
  have hH := h.2.1.2
  have kf := kid_fit V ha
  obtain ⟨t, ht⟩ : ∃ t, t = (S 10 0).sf 3 0 := ⟨_, rfl⟩
  obtain ⟨p1, g1, b1⟩ := Q10_startHead (G := G) (F := F) (S := S.so 10 0 t) (n := 33 + a) X h (by omega) (by rw [so_ne (by omega)]; exact b)
  have O1 : KyO ((S.so 10 0 t).so 0 83 p1) j κ rk K := O.same (fun k _ => by rw [so_ne (by omega), so_ne (by omega)]) (by rw [so_ne (by omega), so_ne (by omega)]) (by rw [so_ne (by omega), so_ne (by omega)]) (by rw [so_ne (by omega), so_ne (by omega)]) (by rw [so_ne (by omega), so_ne (by omega)])
  obtain ⟨p2, g2, b2⟩ := Q10_putKid (G := G) (F := F) (S := (S.so 10 0 t).so 0 83 p1) X h H O1 h9 hB hr hκ (by rw [so_eq]; exact b1)
  rw [so_so] at g2
  obtain ⟨p3, g3, b3⟩ := Q0_putc (G := G) (F := F) (S := (S.so 10 0 t).so 0 83 p2) (x := 125) (y := 125) hH (by rw [so_eq]; exact b2) rfl
  rw [so_so] at g3
  rw [tkl_tkl, lsl_lsl, tkl_tkl, lsl_lsl] at b3
  have es : str 52 ++ (str (33 + a) ++ [34]) ++ (kidP K ++ [125]) = sgnP a K := by
    unfold sgnP
    simp only [List.append_assoc]
  have es' : str 52 ++ (str (33 + a) ++ [34]) ++ kidP K ++ [125] = sgnP a K := by
    unfold sgnP
    simp only [List.append_assoc]
  first | rw [es] at b3 | rw [es'] at b3
  rw [tkl_fit (by rw [List.length_nil]; omega), lsl_fit (by rw [List.length_nil]; omega), List.nil_append] at b3
  refine ⟨p3, t, ?_, ht, b3⟩
  unfold P_X10_makeSignedHead
  rw [pfZ_m h.1.1 rfl (Or.inl rfl), bO_s, ← ht, Q11_alg (by omega), bP_s, rcv_m h.1.1, bO_s, g1, bO_s, rcv_m h.1.1, bO_s, g2, bO_s, tk0 h, bO_s, rcv_m hH.lo, bO_s, g3, bO_s]
end MSG
