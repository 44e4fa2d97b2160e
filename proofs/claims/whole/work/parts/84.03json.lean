/-! THE CALL json -/
section JSON
variable {W : WR} {G : mG} {F : Nat} {S : ST}
abbrev WJ (W : WR) (r t2 : Nat) : WR := (W.sr 7 0 0 (.o 0 r)).sr 7 0 1 (.o 9 t2)
abbrev WJ2 (W : WR) (r t t2 : Nat) : WR := ((WJ W r t2).sr 11 0 8 (.o 9 t)).sr 11 0 7 (.o 9 t2)
theorem json_bad {x : Int32} (A : Nat) (M : mM) (hA : rcv M A 11 = some ()) (hx : isr x = false) : P_X11_json G F A x M = some (-2, M) := by
  unfold P_X11_json
  rw [hA, bO_s, Q11_isRow, bP_s, hx, if_pos (by rfl)]
theorem mjson_bad {x : Int32} (A : Nat) (M : mM) (hx : isr x = false) : P_X13_json G F A x M = some (-2, M) := by
  unfold P_X13_json
  rw [Q13_isRow, bP_s, hx, if_pos (by rfl)]
theorem Q11_json {r t t2 : Nat} {rows : Nat → List UInt8} {pl : List UInt8} {lp : Bool} (X : Cx G F W) (h : isT W) (h7 : W.r 11 0 7 = some (.o 9 t)) (h8 : W.r 11 0 8 = some (.o 9 t2)) (h9 : W.r 11 0 9 = some (.o 7 0)) (hl : W.live (.o 7 0) = true) (K2 : isTx W t2 (14 + t2)) (hr : r < 8) (hR : ∀ r, r < 8 → ∃ l, Byt 8192 (S 0 r) (rows r) l) (bp : Byt 8192 (S 0 (14 + t2)) pl lp) : ∃ S', fr [(7, 0), (0, 14 + t2), (9, t2)] S S' ∧ match rdT (rows r) with | .inl q => P_X11_json G F (W.ad (.o 11 0)) (Int32.ofNat r) (mem W S) = some (-100 - (Int32.ofNat q), mem (WJ W r t2) S') ∧ ∃ xs l, Byt 8192 (S' 0 (14 + t2)) xs l | .inr J => P_X11_json G F (W.ad (.o 11 0)) (Int32.ofNat r) (mem W S) = some ((Int32.ofNat J.1), mem (WJ2 W r t t2) S') ∧ TbC (S' 9 t2) J ∧ Byt 8192 (S' 0 (14 + t2)) J.2.2 false ∧ JX J := by
  obtain ⟨lr, br⟩ := hR r hr
  have hle := br.le
  obtain ⟨S', g, f, q⟩ := Q7_read (G := G) (F := F) X hl (h.rb r hr) K2 (by omega) br hle bp
  refine ⟨S', f, ?_⟩
  cases e : rdT (rows r) with
  | inl y =>
    rw [e] at g q
    have hy : y < 2 ^ 31 := by
      unfold rdT at e
      have w0 : JW (rows r) (skb (rows r) 0) (0, (fun _ _ => 0), []) := ⟨Nat.zero_le _, skb_len (Nat.zero_le _), Nat.zero_le _, fun i hi => absurd hi (Nat.not_lt_zero _)⟩
      cases hv : rv (rows r) 45 (skb (rows r) 0) (0, (fun _ _ => 0), []) 0 0 0 0 with
      | inl z =>
        rw [hv] at e
        have := Sum.inl.inj (α := Nat) (β := JT) e
        have := rv_bad w0 (Nat.le_refl _) (Nat.le_refl _) hv
        omega
      | inr z =>
        rw [hv] at e
        obtain ⟨k1, k2, k3, k4⟩ := rv_ok w0 (Nat.le_refl _) (Nat.le_refl _) hv
        have k5 := skb_len k2.2.1
        have e : (if skb (rows r) z.1 < (rows r).length then Sum.inl (skb (rows r) z.1) else Sum.inr z.2 : Nat ⊕ JT) = .inl y := e
        split at e
        · have := Sum.inl.inj e
          omega
        · exact absurd e (by simp)
    refine ⟨?_, q⟩
    unfold P_X11_json
    rw [rcv_m h.lo, bO_s, Q11_isRow, bP_s, isr_i hr, if_neg (by decide), h.gR rfl h9, bO_s, h.gR rfl h.ra, bO_s, h.row hr, bO_s, h.gR rfl h8, bO_s, rcv_m hl, bO_s, g, bP_s, if_neg (n_nm hy)]
  | inr J =>
    rw [e] at g q
    refine ⟨?_, q⟩
    have g1 : gfR (mem (WJ W r t2) S') (W.ad (.o 11 0)) 11 8 = some (W.ad (.o 9 t2)) := gfR_m (W := WJ W r t2) h.lo rfl (by rw [sr_ne (by omega), sr_ne (by omega)]; exact h8)
    have g2 : gfR (mem (WJ W r t2) S') (W.ad (.o 11 0)) 11 7 = some (W.ad (.o 9 t)) := gfR_m (W := WJ W r t2) h.lo rfl (by rw [sr_ne (by omega), sr_ne (by omega)]; exact h7)
    have g3 : pfv (mem (WJ W r t2) S') (W.ad (.o 11 0)) 11 8 (.ref (W.ad (.o 9 t))) = some (mem ((WJ W r t2).sr 11 0 8 (.o 9 t)) S') := pfR_m (W := WJ W r t2) h.lo rfl
    have g4 : pfv (mem ((WJ W r t2).sr 11 0 8 (.o 9 t)) S') (W.ad (.o 11 0)) 11 7 (.ref (W.ad (.o 9 t2))) = some (mem (WJ2 W r t t2) S') := pfR_m (W := (WJ W r t2).sr 11 0 8 (.o 9 t)) h.lo rfl
    have g5 : gfR (mem (WJ2 W r t t2) S') (W.ad (.o 11 0)) 11 7 = some (W.ad (.o 9 t2)) := gfR_m (W := WJ2 W r t t2) h.lo rfl (sr_eq _ _ _ _ _)
    have g6 : gfI (mem (WJ2 W r t t2) S') (W.ad (.o 9 t2)) 9 0 = some (Int32.ofNat J.1) := by
      have := gfI_m (W := WJ2 W r t t2) (S := S') (c := 9) (i := t2) (k := 0) K2.1 rfl
      rw [q.1.1] at this
      exact this
    unfold P_X11_json
    rw [rcv_m h.lo, bO_s, Q11_isRow, bP_s, isr_i hr, if_neg (by decide), h.gR rfl h9, bO_s, h.gR rfl h.ra, bO_s, h.row hr, bO_s, h.gR rfl h8, bO_s, rcv_m hl, bO_s, g, bP_s, if_pos rfl, g1, bO_s, g2, bO_s, g3, bO_s, g4, bO_s, g5, bO_s, g6, bO_s]
theorem QM_json {r bk : Nat} {rows : Nat → List UInt8} (X : Cx G F W) (h : isM W) (h17 : (S 13 0).f 17 = (Int32.ofNat bk)) (hbk : bk ≤ 1) (hr : r < 8) (hR : mRows (S 13 0) rows) (h15 : ∃ β, mB (S 13 0) 15 β) : ∃ o', kpT (1 - bk) (S 13 0) o' ∧ (∃ β', mB o' 15 β') ∧ match rdT (rows r) with | .inl q => P_X13_json G F (W.ad (.o 13 0)) (Int32.ofNat r) (mem W S) = some (-100 - (Int32.ofNat q), mem (W.sr 13 0 19 (.a 13 0 2)) (S.so 13 0 o')) ∧ agr [20, 21, 22, 23, 24, 25, 26] [] rdAr [] (S 13 0) o' | .inr J => P_X13_json G F (W.ad (.o 13 0)) (Int32.ofNat r) (mem W S) = some ((Int32.ofNat J.1), mem (W.sr 13 0 19 (.a 13 0 2)) (S.so 13 0 o')) ∧ agr [17, 18, 20, 21, 22, 23, 24, 25, 26] [] rdAr [] (S 13 0) o' ∧ HM o' (1 - bk) J ∧ JX J := by
  obtain ⟨α, r1, r2⟩ := hR
  obtain ⟨r3, r4, r5⟩ := r2 r hr
  obtain ⟨β, h15⟩ := h15
  obtain ⟨o', g, a, k, b, q⟩ := QM_read (G := G) (F := F) (ks := 2) (p0 := 8192 * r) (s := rows r) (bk := 1 - bk) X h rfl (by decide) (by decide) (by omega) r4 r1 r5 (by show _ ≤ 65536; omega) h15
  have e1 : (1 : Int32) - (Int32.ofNat bk) = (Int32.ofNat (1 - bk)) := n_sub (a := 1) hbk
  have e8 : (8192 : Int32) * (Int32.ofNat r) = (Int32.ofNat (8192 * r)) := n_mul 8192 r
  have h' : isM (W.sr 13 0 19 (.a 13 0 2)) := by
    refine ⟨h.1, h.2.1, fun k hk => ?_, h.2.2.2⟩
    rw [sr_ne (by rintro ⟨_, _, e⟩; rw [e] at hk; exact absurd hk (by decide))]
    exact h.r k hk
  have pre : P_X13_json G F (W.ad (.o 13 0)) (Int32.ofNat r) (mem W S) = bP (P_X13_read G F (W.ad (.o 13 0)) (W.ad (.a 13 0 2)) (Int32.ofNat (8192 * r)) (Int32.ofNat (rows r).length) (Int32.ofNat (1 - bk)) (mem W S)) fun v32 M32 => if v32 = 0 then (bO (gfI M32 (W.ad (.o 13 0)) 13 23) fun v41 => some (((-100 : Int32) - v41), M32)) else (bO (gfI M32 (W.ad (.o 13 0)) 13 17) fun v49 => bO (pfv M32 (W.ad (.o 13 0)) 13 17 (.int ((1 : Int32) - v49))) fun M53 => bO (pfZ M53 (W.ad (.o 13 0)) 13 18 (1 : Int32)) fun M58 => bO (gfR M58 (W.ad (.o 13 0)) 13 16) fun v62 => bO (gfI M58 (W.ad (.o 13 0)) 13 17) fun v66 => bO (aI G M58 0 v62 v66) fun v69 => some (v69, M58)) := by
    unfold P_X13_json
    rw [Q13_isRow, bP_s, isr_i hr, if_neg (by decide), h.gR 2 rfl (by decide), bO_s, h.gR 3 rfl (by decide), bO_s, h.aN rfl (show r < 8 from hr) (by decide), bO_s, r3, h.gI 17 rfl, bO_s, h17, rcv_m h.lo, bO_s, e8, e1]
  have f17 : o'.f 17 = (Int32.ofNat bk) := (a.1 17 (by decide)).trans h17
  cases e : rdT (rows r) with
  | inl y =>
    rw [e] at g q
    refine ⟨o', k, b, ?_, a⟩
    have g23 : gfI (mem (W.sr 13 0 19 (.a 13 0 2)) (S.so 13 0 o')) (W.ad (.o 13 0)) 13 23 = some (Int32.ofNat y) := by
      have := h'.gI (S := S.so 13 0 o') 23 rfl
      rw [so_eq, q] at this
      exact this
    rw [pre, g, bP_s, if_pos rfl, g23, bO_s]
  | inr J =>
    rw [e] at g q
    obtain ⟨q1, q2⟩ := q
    have t1 : gfI (mem (W.sr 13 0 19 (.a 13 0 2)) (S.so 13 0 o')) (W.ad (.o 13 0)) 13 17 = some (Int32.ofNat bk) := by
      have := h'.gI (S := S.so 13 0 o') 17 rfl
      rw [so_eq, f17] at this
      exact this
    have t2 : pfv (mem (W.sr 13 0 19 (.a 13 0 2)) (S.so 13 0 o')) (W.ad (.o 13 0)) 13 17 (.int (Int32.ofNat (1 - bk))) = some (mem (W.sr 13 0 19 (.a 13 0 2)) (S.so 13 0 (o'.sf 17 (Int32.ofNat (1 - bk))))) := by
      have := h'.pI (S := S.so 13 0 o') 17 (Int32.ofNat (1 - bk)) rfl
      rw [so_eq, so_so] at this
      exact this
    have t3 : pfZ (mem (W.sr 13 0 19 (.a 13 0 2)) (S.so 13 0 (o'.sf 17 (Int32.ofNat (1 - bk))))) (W.ad (.o 13 0)) 13 18 1 = some (mem (W.sr 13 0 19 (.a 13 0 2)) (S.so 13 0 ((o'.sf 17 (Int32.ofNat (1 - bk))).sf 18 1))) := by
      have := pfZ_m (W := W.sr 13 0 19 (.a 13 0 2)) (S := S.so 13 0 (o'.sf 17 (Int32.ofNat (1 - bk)))) (c := 13) (i := 0) (k := 18) (v := 1) h.lo rfl (Or.inr rfl)
      rw [so_eq, so_so] at this
      exact this
    have t4 : gfR (mem (W.sr 13 0 19 (.a 13 0 2)) (S.so 13 0 ((o'.sf 17 (Int32.ofNat (1 - bk))).sf 18 1))) (W.ad (.o 13 0)) 13 16 = some (W.ad (.a 13 0 16)) := h'.gR 16 rfl (by decide)
    have t5 : gfI (mem (W.sr 13 0 19 (.a 13 0 2)) (S.so 13 0 ((o'.sf 17 (Int32.ofNat (1 - bk))).sf 18 1))) (W.ad (.o 13 0)) 13 17 = some (Int32.ofNat (1 - bk)) := by
      have := h'.gI (S := S.so 13 0 ((o'.sf 17 (Int32.ofNat (1 - bk))).sf 18 1)) 17 rfl
      rw [so_eq] at this
      exact this
    have t6 : aI G (mem (W.sr 13 0 19 (.a 13 0 2)) (S.so 13 0 ((o'.sf 17 (Int32.ofNat (1 - bk))).sf 18 1))) 0 (W.ad (.a 13 0 16)) (Int32.ofNat (1 - bk)) = some (Int32.ofNat J.1) := by
      have := h'.aN (G := G) (S := S.so 13 0 ((o'.sf 17 (Int32.ofNat (1 - bk))).sf 18 1)) (k := 16) (j := 1 - bk) rfl (by show 1 - bk < 2; omega) (by decide)
      rw [so_eq, sf_a, sf_a, q1.1] at this
      exact this
    refine ⟨(o'.sf 17 (Int32.ofNat (1 - bk))).sf 18 1, ?_, ?_, ?_, ?_, ⟨?_, by omega, Or.inr ⟨rfl, q1⟩⟩, q2⟩
    · exact fun b2 J2 x1 x2 x3 x4 => k b2 J2 x1 x2 x3 x4
    · exact b
    · rw [pre, g, bP_s]
      show (if (1 : Int32) = 0 then _ else _) = _
      rw [if_neg (by decide), t1, bO_s, e1, t2, bO_s, t3, bO_s, t4, bO_s, t5, bO_s, t6, bO_s]
    · exact (a.mono (by decide) (by decide) (fun _ h => h) (by decide)).trans ((agr_sf (by decide)).trans (agr_sf (by decide)))
    · rfl
end JSON
