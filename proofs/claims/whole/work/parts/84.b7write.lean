/-! THE CALL write -/
/-- what is written of a value: a list that the table's tree says -/
def wtS (J : JT) (v : Nat) (L : List UInt8) : Prop := ∃ e, ouV J.2.1 J.2.2 45 v e L ∧ e ≤ J.1 ∧ (e = J.1 ∨ J.2.1 2 e ≤ v)
theorem JTr.wr {J : JT} (h : JTr J) {v : Nat} (hv : v < J.1) : ∃ L, wtS J v L := by
  obtain ⟨e, L, h1, h2⟩ := h v hv
  exact ⟨L, e, h1, h2⟩
theorem wtS_len {J : JT} {v : Nat} {L : List UInt8} (Y : JX J) (h : wtS J v L) : L.length < 2 ^ 27 := by
  obtain ⟨e, h1, h2, _⟩ := h
  have := ouV_len Y.1 h1
  have := Y.2.1
  have : (e - v) * 98320 ≤ 600 * 98320 := Nat.mul_le_mul_right _ (by omega)
  omega
section WRT
variable {W : WR} {G : mG} {F : Nat} {S : ST} {t ip bk : Nat} {J : JT}
theorem ix_some {x : Int32} {v : Nat} (e : ix J x = some v) : v < J.1 ∧ x = (Int32.ofNat v) := by
  rcases i_cases x with hx | ⟨j, hj, rfl⟩
  · rw [ix_neg hx] at e
    exact absurd e (by simp)
  · rw [ix_n hj] at e
    split at e
    · have := Option.some.inj e
      subst this
      exact ⟨by assumption, rfl⟩
    · exact absurd e (by simp)
theorem Q11_write_bad {x : Int32} (h : isT W) (h7 : W.r 11 0 7 = some (.o 9 t)) (K : isTx W t ip) (C : TbC (S 9 t) J) (Y : JX J) (e : ix J x = none) : P_X11_write G F (W.ad (.o 11 0)) x (mem W S) = some (-2, mem W S) := by
  unfold P_X11_write
  rw [h.gR rfl h7, bO_s, rcv_m K.1, bO_s]
  rcases i_cases x with hx | ⟨j, hj, rfl⟩
  · rw [Q9_has_n hx, bP_s, if_pos rfl]
  · rw [ix_n hj] at e
    have : ¬ j < J.1 := fun q => by rw [if_pos q] at e; exact absurd e (by simp)
    rw [Q9_has K C Y hj, bP_s, if_neg this, if_pos rfl]
theorem Q11_write {v : Nat} {L tt pl : List UInt8} {l lp l3 : Bool} (X : Cx G F W) (h : isT W) (h7 : W.r 11 0 7 = some (.o 9 t)) (K : isTx W t ip) (C : TbC (S 9 t) J) (Y : JX J) (bp : Byt 8192 (S 0 ip) J.2.2 lp) (hip : ip ≠ 9 ∧ ip ≠ 13) (hs : Byt 8192 (S 0 9) tt l) (b13 : Byt 8192 (S 0 13) pl l3) (hv : v < J.1) (hL : wtS J v L) : ∃ S', P_X11_write G F (W.ad (.o 11 0)) (Int32.ofNat v) (mem W S) = some (if L.length ≤ 8192 then (Int32.ofNat L.length) else -3, mem W S') ∧ fr [(0, 13), (0, 9)] S S' ∧ (∃ l', Byt 8192 (S' 0 9) (if L.length ≤ 8192 then L else tt) l') ∧ ∃ xs l', Byt 8192 (S' 0 13) xs l' := by
  have Y2 := Y.2.1
  obtain ⟨e, hL, he, hE⟩ := hL
  obtain ⟨o1, g1, b1⟩ := Q0_clear (G := G) (F := F) (S := S) h.pb b13
  have w1 : wrO o1 [] := b1
  obtain ⟨o2, g2, w2⟩ := Q9_putValue (G := G) (F := F) (S := S) X K C Y h.pb hip.2 bp hL he hE w1
  rw [List.nil_append] at w2
  have gl : gfI (mem W (S.so 0 13 o2)) (W.ad (.o 0 13)) 0 2 = some (if lsl 8192 [] L false = true then 1 else 0) := by
    have := h.pb.gI (S := S.so 0 13 o2) 2 rfl
    rw [so_eq] at this
    rw [this]
    exact congrArg some w2.lost
  have gm : gfI (mem W (S.so 0 13 o2)) (W.ad (.o 0 13)) 0 1 = some (Int32.ofNat (tkl 8192 [] L).length) := by
    have := h.pb.gI (S := S.so 0 13 o2) 1 rfl
    rw [so_eq] at this
    rw [this]
    exact congrArg some w2.many
  have pre : P_X11_write G F (W.ad (.o 11 0)) (Int32.ofNat v) (mem W S) = if (if lsl 8192 [] L false = true then (1 : Int32) else 0) = 0 then (bP (P_X11_show G F (W.ad (.o 11 0)) (W.ad (.o 0 13)) (0 : Int32) (Int32.ofNat (tkl 8192 [] L).length) (mem W (S.so 0 13 o2))) fun v61 M61 => some (v61, M61)) else some ((-3 : Int32), mem W (S.so 0 13 o2)) := by
    unfold P_X11_write
    rw [h.gR rfl h7, bO_s, rcv_m K.1, bO_s, Q9_has K C Y (by omega), bP_s, if_pos hv, if_neg (show ¬ (1 : Int32) = 0 by decide), h.gR rfl h.plain, bO_s, rcv_m h.pb.1, bO_s, g1, bO_s, h.gR rfl h7, bO_s, h.gR rfl h.plain, bO_s, rcv_m K.1, bO_s, g2, bO_s, h.gR rfl h.plain, bO_s, gl, bO_s, bO_s, bO_s, gm, bO_s, rcv_m h.lo, bO_s]
  have f1 : fr [(0, 13), (0, 9)] S (S.so 0 13 o2) := fun c i hm => so_ne (fun q => hm (by rw [q.1, q.2]; simp))
  rw [pre]
  by_cases hl : L.length ≤ 8192
  · have e1 : lsl 8192 [] L false = false := lsl_fit (by show 0 + L.length ≤ _; omega)
    have e2 : tkl 8192 [] L = L := tkl_fit (by show 0 + L.length ≤ _; omega)
    rw [e1, e2, if_pos (show (if false = true then (1 : Int32) else 0) = 0 from rfl), if_pos hl]
    unfold wrO at w2
    rw [e1, e2] at w2
    obtain ⟨o3, g3, b3⟩ := Q11_show (G := G) (F := F) (S := S.so 0 13 o2) (p := 0) (n := L.length) h (by rw [so_ne (by decide)]; exact hs) h.pb (by rw [so_eq]; exact w2) (by decide) (by omega) hl
    have g3 : P_X11_show G F (W.ad (.o 11 0)) (W.ad (.o 0 13)) 0 (Int32.ofNat L.length) (mem W (S.so 0 13 o2)) = _ := g3
    rw [List.drop_zero, List.take_length] at b3
    refine ⟨(S.so 0 13 o2).so 0 9 o3, by rw [g3, bP_s], fun c i hm => ?_, ⟨false, ?_⟩, L, false, ?_⟩
    · rw [so_ne (fun q => hm (by rw [q.1, q.2]; simp))]
      exact f1 c i hm
    · rw [so_eq, if_pos hl]
      exact b3
    · rw [so_ne (by decide), so_eq]
      exact w2
  · have e1 : lsl 8192 [] L false = true := by
      show (false || decide (8192 < 0 + L.length)) = true
      rw [Bool.false_or, decide_eq_true_iff]
      omega
    rw [e1, if_neg (show ¬ (if true = true then (1 : Int32) else 0) = 0 by decide), if_neg hl, if_neg hl]
    exact ⟨S.so 0 13 o2, rfl, f1, ⟨l, by rw [so_ne (by decide)]; exact hs⟩, _, _, by rw [so_eq]; exact w2⟩
theorem QM_write_bad {x : Int32} (h : isM W) (H : HM (S 13 0) bk J) (Y : JX J) (e : ix J x = none) : P_X13_write G F (W.ad (.o 13 0)) x (mem W S) = some (-2, mem W S) := by
  unfold P_X13_write
  rw [rcv_m h.lo, bO_s, QM_isValue h H Y, bP_s, e, if_pos (show (if (none : Option Nat).isSome = true then (1 : Int32) else 0) = 0 from rfl)]
theorem QM_write {v : Nat} {L tt : List UInt8} (X : Cx G F W) (h : isM W) (H : HM (S 13 0) bk J) (Y : JX J) (ho : mOut (S 13 0) tt) (h27 : ∃ β, mB (S 13 0) 27 β) (hv : v < J.1) (hL : wtS J v L) : ∃ o', P_X13_write G F (W.ad (.o 13 0)) (Int32.ofNat v) (mem W S) = some (if L.length ≤ 8192 then (Int32.ofNat L.length) else -3, mem W (S.so 13 0 o')) ∧ mOut o' (if L.length ≤ 8192 then L else tt) ∧ agr [28, 5] [] [27, 4] [] (S 13 0) o' ∧ ∃ β, mB o' 27 β := by
  have Y2 := Y.2.1
  have hlen := wtS_len Y hL
  obtain ⟨e, hL, he, hE⟩ := hL
  obtain ⟨β, b27⟩ := h27
  have eix : ix J (Int32.ofNat v) = some v := by rw [ix_n (by omega), if_pos hv]
  obtain ⟨M, _, _⟩ := hm_some H eix
  have a0 : agr [28] [] [27] [] (S 13 0) ((S 13 0).sf 28 0) := agr_sf (by decide)
  have d0 : mDr ((S 13 0).sf 28 0) [] := ⟨by rw [sf_eq]; rfl, β, b27, rfl⟩
  obtain ⟨o1, g1, d1, a1⟩ := oM_sayV (G := G) (F := F) (S := S) (bk := bk) X h H.2.1 Y 45 v e L _ [] hL he (M.agr a0 (by decide)) d0 (by show 0 + L.length < _; omega)
  rw [List.nil_append] at d1
  have a2 := a0.trans a1
  obtain ⟨f, w, g2, m2⟩ := QM_saved (G := G) (F := F) (S := S.so 13 0 o1) (ys := L) (t := tt) X h (by rw [so_eq]; exact d1) (by omega) (by rw [so_eq]; exact a2.mOut ho (by decide) (by decide))
  rw [so_eq, so_so] at g2
  rw [so_eq] at m2
  have p28 : pfv (mem W S) (W.ad (.o 13 0)) 13 28 (.int 0) = some (mem W (S.so 13 0 ((S 13 0).sf 28 0))) := h.pI 28 0 rfl
  have g17 : gfI (mem W (S.so 13 0 ((S 13 0).sf 28 0))) (W.ad (.o 13 0)) 13 17 = some (Int32.ofNat bk) := by
    have := h.gI (S := S.so 13 0 ((S 13 0).sf 28 0)) 17 rfl
    rw [so_eq, sf_ne (by decide), H.1] at this
    exact this
  obtain ⟨_, β1, b1, _⟩ := d1
  refine ⟨_, ?_, m2, (a2.mono (by decide) (by decide) (by decide) (by decide)).trans ((agr_sA (by decide)).trans (agr_sf (by decide))), β1, (show agr [5] [] [4] [] o1 ((o1.sA 4 f).sf 5 w) from (agr_sA (by decide)).trans (agr_sf (by decide))).mB b1 (by decide)⟩
  unfold P_X13_write
  rw [rcv_m h.lo, bO_s, QM_isValue h H Y, bP_s, eix, if_neg (show ¬ (if (some v).isSome = true then (1 : Int32) else 0) = 0 from (by decide : ¬ (1 : Int32) = 0)), p28, bO_s, g17, bO_s, rcv_m h.lo, bO_s, m600]
  unfold P_X13_sayValue
  rw [g1, bO_s, rcv_m h.lo, bO_s, g2, bP_s]
end WRT
