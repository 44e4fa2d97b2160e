/-! CALL verify: the class, from its row on -/
/-- a token's first two parts as they stand -/
def msgB (xs : List UInt8) : List UInt8 := xs.take (peP xs 1)
/-- what verify answers, and what it shows -/
def vrfW (A : Nat → Option KY) (xs : List UInt8) : Int32 × Option (List UInt8) := if (ptA xs).length = 2 then (if fltF (ptX xs 0) = none then (match rdT (dec (ptX xs 0)) with
  | .inl _ => (-22, none)
  | .inr J => if sgR J = 0 then (if (brB J = true ∨ fltF (ptX xs 1) = none) ∧ fltF (ptX xs 2) = none then (ansK (vrK A J ((sgA J).getD 0) (msgB xs) (dec (ptX xs 2)) 16 0 false), match vrK A J ((sgA J).getD 0) (msgB xs) (dec (ptX xs 2)) 16 0 false with | .inl _ => none | .inr _ => some (payB xs (brB J))) else (-21, none)) else (sgR J, none)) else (-21, none)) else (-20, none)
def shwO (S S' : ST) (r : Option (List UInt8)) : Prop := match r with
  | none => S' 0 9 = S 0 9
  | some t => Byt 8192 (S' 0 9) t false
section CV2
variable {W : WR} {G : mG} {F : Nat} {S : ST} {z sl z0 s0 t : Nat} {σ κ rk : Nat → Nat} {A : Nat → Option KY} {V : Nat → Int}
theorem Q11_verify {r : Nat} {xs : List UInt8} {l : Bool} (X : Cx G F W) (w : isW W t) (ab : AB W S) (C : CK S V) (hK : KHS W S z sl z0 s0 σ κ rk A) (hr : r < 8) (bx : Byt 8192 (S 0 r) xs l) : ∃ W' S' V', P_X11_verify G F (W.ad (.o 11 0)) (Int32.ofNat r) (mem W S) = some ((vrfW A xs).1, mem W' S') ∧ (W' = W ∨ ∃ n, W' = rdW W n t) ∧ isW W' t ∧ fr (tkL t) S S' ∧ AB W' S' ∧ CK S' V' ∧ KHS W' S' z sl z0 s0 σ κ rk A ∧ shwO S S' (vrfW A xs).2 := by
  obtain ⟨A_, w8, w9, w7, wt, tl⟩ := id w
  obtain ⟨h, hd, hrs, hcu, htk, hci, hco, h12, h13, h14, h15, h16, h17⟩ := id A_
  have nk := tkL_k tl
  have hF := X.hF
  have xl := bx.le
  have hin := h.rb r hr
  obtain ⟨o1, g1, a1, q1⟩ := Q10_split (G := G) (F := F) (S := S) (parts := 3) X htk.1 hin bx (by decide) (by decide)
  have g1 : P_X10_split G F (W.ad (.o 10 0)) (W.ad (.o 0 r)) 3 (mem W S) = _ := g1
  obtain ⟨S1, hS1⟩ : ∃ S1, S1 = S.so 10 0 o1 := ⟨_, rfl⟩
  rw [← hS1] at g1
  have f1 : fr [(10, 0)] S S1 := by rw [hS1]; exact fr_so (by simp)
  have f1L : fr (tkL t) S S1 := f1.mono (by simp [tkL])
  have ab1 : AB W S1 := ab.keep f1 (fun i room q => absurd q (by simp))
  have C1 : CK S1 V := C.fr f1 (by simp)
  have k1 : KHS W S1 z sl z0 s0 σ κ rk A := hK.fm f1L nk
  have bx1 : Byt 8192 (S1 0 r) xs l := by rw [f1 0 r (by simp)]; exact bx
  unfold P_X11_verify
  rw [rcv_m h.lo, bO_s, Q11_isRow, bP_s, isr_i hr, if_pos rfl, if_neg (by decide), h.gR rfl h.ra, bO_s, h.row hr, bO_s, h.gR rfl h17, bO_s, rcv_m htk.1.1, bO_s, g1, bP_s]
  by_cases c2 : (ptA xs).length = 2
  · have T : SPT (S1 10 0) xs := by
      obtain ⟨t1, t2⟩ := q1 (by omega)
      rw [hS1, so_eq]
      refine ⟨by omega, fun t ht => t1 t (by omega), ?_⟩
      rw [c2]
      exact t2
    have lt := Q10_isFaulty (G := G) (F := F) (S := S1) (p := 0) X htk.1 T (Nat.zero_le _) hin bx1
    have lt : P_X10_isFaulty G F (W.ad (.o 10 0)) (W.ad (.o 0 r)) 0 (mem W S1) = _ := lt
    rw [if_pos (show (ptA xs).length + 1 = 3 by omega), if_neg (by decide), h.gR rfl h17, bO_s, rcv_m htk.1.1, bO_s, lt, bP_s]
    by_cases c0 : fltF (ptX xs 0) = none
    · -- the head
      have pl0 : (ptX xs 0).length ≤ xs.length := by
        unfold ptX
        rw [List.length_take, List.length_drop]
        omega
      obtain ⟨x83, l83, b83⟩ := ab1 83 8192 (by decide) htk.2.1.2
      obtain ⟨o2, g2, b2⟩ := Q10_readPart (G := G) (F := F) (S := S1) (p := 0) (it := 83) (rt := 8192) X htk.1 T (Nat.zero_le _) hin bx1 htk.2.1.2 b83 (by omega) c0 (by omega)
      have g2 : P_X10_readPart G F (W.ad (.o 10 0)) (W.ad (.o 0 r)) 0 (W.ad (.o 0 83)) (mem W S1) = _ := g2
      obtain ⟨S2, hS2⟩ : ∃ S2, S2 = S1.so 0 83 o2 := ⟨_, rfl⟩
      rw [← hS2] at g2
      have f2 : fr [(0, 83)] S1 S2 := by rw [hS2]; exact fr_so (by simp)
      have f2L : fr (tkL t) S S2 := f1L.trans (f2.mono (by simp [tkL]))
      have ab2 : AB W S2 := by rw [hS2]; exact ab1.so htk.2.1.2 b2
      have b2' : Byt 8192 (S2 0 83) (dec (ptX xs 0)) false := by rw [hS2, so_eq]; exact b2
      have dl := dec_len (ptX xs 0)
      obtain ⟨hb, hhb⟩ : ∃ hb, hb = dec (ptX xs 0) := ⟨_, rfl⟩
      rw [← hhb] at b2' dl
      obtain ⟨xp, lp, bp⟩ := ab2 (14 + t) 8192 (by have := w.2.2.2.2.2; omega) wt.2.2.1
      obtain ⟨S3, g3, f3, q3⟩ := Q7_read (G := G) (F := F) (S := S2) (is_ := 83) X w7 htk.2.1.2 wt (by omega) b2' (by omega) bp
      obtain ⟨W1, hW1⟩ : ∃ W1, W1 = rdW W 83 t := ⟨_, rfl⟩
      have y1 : WY W W1 := by rw [hW1]; exact rdW_y W 83 t
      have w1 : isW W1 t := by rw [hW1]; exact w.rd
      have ad : W1.ad = W.ad := by rw [hW1]; rfl
      have g3 : P_X7_read G F (W.ad (.o 7 0)) (W.ad (.o 0 83)) (W.ad (.o 9 t)) (mem W S2) = some (match rdT hb with | .inl q => (Int32.ofNat q) | .inr _ => -1, mem W1 S3) := by
        rw [hW1]
        exact g3
      have X1 := y1.cx X
      have f3L : fr (tkL t) S S3 := f2L.trans (f3.mono (by simp [tkL]))
      have bp3 : ∃ xs l, Byt 8192 (S3 0 (14 + t)) xs l := by
        revert q3
        cases rdT hb with
        | inl _ => exact id
        | inr J => exact fun q => ⟨_, _, q.2.1⟩
      have ab3 : AB W1 S3 := by
        have q : AB W S3 := ab2.keep f3 (fun i room q hB => by
          simp only [List.mem_cons, Prod.mk.injEq, List.not_mem_nil, or_false] at q
          rcases q with q | q | q
          · omega
          · rw [q.2] at hB ⊢
            rw [hB.one wt.2.2.1]
            exact bp3
          · omega)
        rw [hW1]
        exact q.rd
      have C3 : CK S3 V := (C1.fr f2 (by simp)).fr f3 (by simp; omega)
      have k3 : KHS W1 S3 z sl z0 s0 σ κ rk A := by
        rw [hW1]
        exact ((hK.fm f3L nk).wr (Or.inl rfl) htk.2.1.2.lo).wr (Or.inl rfl) wt.1
      have s9 : S3 0 9 = S 0 9 := by rw [f3 0 9 (by simp; omega), f2 0 9 (by simp), f1 0 9 (by simp)]
      have bx3 : Byt 8192 (S3 0 r) xs l := by rw [f3 0 r (by simp; omega), f2 0 r (by simp; omega)]; exact bx1
      have T3 : SPT (S3 10 0) xs := by rw [f3 10 0 (by simp), f2 10 0 (by simp)]; exact T
      rw [if_pos c0, if_pos rfl, h.gR rfl h17, bO_s, bO_s, tk0 htk, bO_s, rcv_m htk.1.1, bO_s, g2, bO_s, h.gR rfl w9, bO_s, h.gR rfl h17, bO_s, tk0 htk, bO_s, h.gR rfl w8, bO_s, rcv_m w7, bO_s, g3, bP_s]
      obtain ⟨A1, w18, w19, w17, w1t, _⟩ := id w1
      obtain ⟨h1, hd1, hrs1, hcu1, htk1, hci1, hco1, h112, h113, h114, h115, h116, h117⟩ := id A1
      have two : (∃ p, rdT hb = .inl p) ∨ ∃ J, rdT hb = .inr J := by
        cases rdT hb with
        | inl p => exact Or.inl ⟨p, rfl⟩
        | inr J => exact Or.inr ⟨J, rfl⟩
      rcases two with ⟨pp, er⟩ | ⟨J, er⟩
      · have hv : vrfW A xs = (-22, none) := by
          unfold vrfW
          rw [if_pos c2, if_pos c0, ← hhb, er]
        rw [er, hv]
        show ∃ W' S' V', (if (Int32.ofNat pp) = (-1 : Int32) then _ else some ((-22 : Int32), mem W1 S3)) = _ ∧ _
        rw [if_neg (n_nm (rdT_b (by omega) er))]
        exact ⟨W1, S3, V, rfl, Or.inr ⟨83, hW1⟩, w1, f3L, ab3, C3, k3, s9⟩
      · rw [er] at q3
        obtain ⟨u1, u2, u3⟩ := q3
        have hv : vrfW A xs = if sgR J = 0 then (if (brB J = true ∨ fltF (ptX xs 1) = none) ∧ fltF (ptX xs 2) = none then (ansK (vrK A J ((sgA J).getD 0) (msgB xs) (dec (ptX xs 2)) 16 0 false), match vrK A J ((sgA J).getD 0) (msgB xs) (dec (ptX xs 2)) 16 0 false with | .inl _ => none | .inr _ => some (payB xs (brB J))) else (-21, none)) else (sgR J, none) := by
          unfold vrfW
          rw [if_pos c2, if_pos c0, ← hhb, er]
        obtain ⟨o4, g4, a4, v4⟩ := Q10_signedHead (G := G) (F := F) (W := W1) (S := S3) X1 htk1.1 w1t u1 u3 u2
        obtain ⟨S4, hS4⟩ : ∃ S4, S4 = S3.so 10 0 o4 := ⟨_, rfl⟩
        rw [← hS4] at g4
        have f4 : fr [(10, 0)] S3 S4 := by rw [hS4]; exact fr_so (by simp)
        have f4L : fr (tkL t) S S4 := f3L.trans (f4.mono (by simp [tkL]))
        have ab4 : AB W1 S4 := ab3.keep f4 (fun i room q => absurd q (by simp))
        have C4 : CK S4 V := C3.fr f4 (by simp)
        have k4 : KHS W1 S4 z sl z0 s0 σ κ rk A := k3.fm f4 (by intro x hx; simp at hx; rw [hx]; simp)
        have s49 : S4 0 9 = S 0 9 := by rw [f4 0 9 (by simp)]; exact s9
        have bx4 : Byt 8192 (S4 0 r) xs l := by rw [f4 0 r (by simp)]; exact bx3
        have s410 : S4 10 0 = o4 := by rw [hS4, so_eq]
        have T4 : SPT (S4 10 0) xs := by
          rw [s410]
          obtain ⟨z1, z2, z3⟩ := T3
          exact ⟨z1, fun q hq => by rw [a4.2.2.1 14 (by decide)]; exact z2 q hq, by rw [a4.2.2.1 14 (by decide)]; exact z3⟩
        rw [er, ← ad]
        show ∃ W' S' V', (if (-1 : Int32) = (-1 : Int32) then _ else _) = _ ∧ _
        rw [if_pos rfl, h1.gR rfl h117, bO_s, h1.gR rfl w18, bO_s, rcv_m htk1.1.1, bO_s, g4, bP_s]
        by_cases c3 : sgR J = 0
        · rw [if_pos c3] at hv
          obtain ⟨v1, v3, v15⟩ := v4 c3
          have x3 : gfI (mem W1 S4) (W1.ad (.o 10 0)) 10 3 = some (if brB J = true then 1 else 0) := by rw [gfI_m htk1.1.1 rfl, s410, v3]
          have hin1 := h1.rb r hr
          have bad : vrfW A xs = (-21, none) → ∃ W' S' V', some ((-21 : Int32), mem W1 S4) = some ((vrfW A xs).1, mem W' S') ∧ (W' = W ∨ ∃ n, W' = rdW W n t) ∧ isW W' t ∧ fr (tkL t) S S' ∧ AB W' S' ∧ CK S' V' ∧ KHS W' S' z sl z0 s0 σ κ rk A ∧ shwO S S' (vrfW A xs).2 := by
            intro q
            rw [q]
            exact ⟨W1, S4, V, rfl, Or.inr ⟨83, hW1⟩, w1, f4L, ab4, C4, k4, s49⟩
          -- from the third part on
          have go : (brB J = true ∨ fltF (ptX xs 1) = none) → ∃ W' S' V', B_X11_verify_129 G F (W1.ad (.o 11 0)) (W1.ad (.o 0 r)) (mem W1 S4) = some ((vrfW A xs).1, mem W' S') ∧ (W' = W ∨ ∃ n, W' = rdW W n t) ∧ isW W' t ∧ fr (tkL t) S S' ∧ AB W' S' ∧ CK S' V' ∧ KHS W' S' z sl z0 s0 σ κ rk A ∧ shwO S S' (vrfW A xs).2 := by
            intro hb1
            have l2 := Q10_isFaulty (G := G) (F := F) (W := W1) (S := S4) (p := 2) X1 htk1.1 T4 (by omega) hin1 bx4
            have l2 : P_X10_isFaulty G F (W1.ad (.o 10 0)) (W1.ad (.o 0 r)) 2 (mem W1 S4) = _ := l2
            unfold B_X11_verify_129
            rw [h1.gR rfl h117, bO_s, rcv_m htk1.1.1, bO_s, l2, bP_s]
            by_cases c5 : fltF (ptX xs 2) = none
            · rw [if_pos ⟨hb1, c5⟩] at hv
              obtain ⟨w14, B4, w15, B5, _⟩ := h1.wk
              obtain ⟨x11, l11, b11⟩ := ab4 11 22528 (by decide) B4
              obtain ⟨o5, g5, b5⟩ := Q0_clear (G := G) (F := F) (W := W1) (S := S4) B4 b11
              have pe := part_le (xs := xs) (p := 1) (by omega)
              have bx5 : Byt 8192 ((S4.so 0 11 o5) 0 r) xs l := by rw [so_ne (by omega)]; exact bx4
              have T5 : SPT ((S4.so 0 11 o5) 10 0) xs := by rw [so_ne (by omega)]; exact T4
              have pe1 : P_X10_partEnd G F (W1.ad (.o 10 0)) 1 (mem W1 (S4.so 0 11 o5)) = some ((Int32.ofNat (peP xs 1)), mem W1 (S4.so 0 11 o5)) := Q10_end (p := 1) htk1.1 T5 (by omega)
              obtain ⟨o6, g6, b6⟩ := Q0_putPart (G := G) (F := F) (W := W1) (S := S4.so 0 11 o5) (i := 11) (i2 := r) (p := 0) (n := peP xs 1) B4 (by rw [so_eq]; exact b5) hin1 bx5 (by omega)
              rw [so_so] at g6
              have ml : (msgB xs).length ≤ 8192 := by
                unfold msgB
                rw [List.length_take]
                omega
              rw [List.drop_zero] at b6
              have b6 : Byt 22528 o6 (tkl 22528 [] (msgB xs)) (lsl 22528 [] (msgB xs) false) := b6
              rw [tkl_fit (by rw [List.length_nil]; omega), lsl_fit (by rw [List.length_nil]; omega), List.nil_append] at b6
              have g6 : P_X0_putPart G F (W1.ad (.o 0 11)) (W1.ad (.o 0 r)) 0 (Int32.ofNat (peP xs 1)) (mem W1 (S4.so 0 11 o5)) = _ := g6
              obtain ⟨S6, hS6⟩ : ∃ S6, S6 = S4.so 0 11 o6 := ⟨_, rfl⟩
              rw [← hS6] at g6
              have f6 : fr [(0, 11)] S4 S6 := by rw [hS6]; exact fr_so (by simp)
              have ab6 : AB W1 S6 := by rw [hS6]; exact ab4.so B4 b6
              obtain ⟨x12, l12, b12⟩ := ab6 12 8192 (by decide) B5
              have pl2 : (ptX xs 2).length ≤ xs.length := by
                unfold ptX
                rw [List.length_take, List.length_drop]
                omega
              obtain ⟨o7, g7, b7⟩ := Q10_readPart (G := G) (F := F) (W := W1) (S := S6) (p := 2) (it := 12) (rt := 8192) X1 htk1.1 (by rw [f6 10 0 (by simp)]; exact T4) (by omega) hin1 (by rw [f6 0 r (by simp; omega)]; exact bx4) B5 b12 (by omega) c5 (by omega)
              have g7 : P_X10_readPart G F (W1.ad (.o 10 0)) (W1.ad (.o 0 r)) 2 (W1.ad (.o 0 12)) (mem W1 S6) = _ := g7
              obtain ⟨S7, hS7⟩ : ∃ S7, S7 = S6.so 0 12 o7 := ⟨_, rfl⟩
              rw [← hS7] at g7
              have f7 : fr [(0, 12)] S6 S7 := by rw [hS7]; exact fr_so (by simp)
              have f47 : fr [(0, 11), (0, 12)] S4 S7 := (f6.mono (by simp)).trans (f7.mono (by simp))
              have ab7 : AB W1 S7 := by rw [hS7]; exact ab6.so B5 b7
              have sgs : sgA J ≠ none := by
                intro q
                unfold sgR at c3
                split at c3
                · split at c3
                  · exact absurd c3 (by decide)
                  · exact absurd c3 (by decide)
                · exact absurd c3 (by decide)
              obtain ⟨a, ea⟩ := Option.ne_none_iff_exists'.mp sgs
              have al := ls_lt ea
              have ga : (sgA J).getD 0 = a := by rw [ea]; rfl
              rw [ga] at hv
              have kd : fd J 55 = none ∨ kB J (fd J 55) 4 = true := by
                unfold sgR at c3
                split at c3
                · rename_i q
                  unfold hdS at q
                  rw [Bool.and_eq_true, Bool.and_eq_true, Bool.and_eq_true, decide_eq_true_iff] at q
                  exact q.2.2.1
                · exact absurd c3 (by decide)
              obtain ⟨S8, V8, z1, z2, z3, z4, z5, z6⟩ := Q11_vrf187 (G := G) (F := F) (W := W1) (r := r) (a := a) (xs := xs) (msg := msgB xs) (sg := dec (ptX xs 2)) (bare := brB J) (A := A) (J := J) X1 A1 w18 w1t tl u3 (by omega) c2 hr kd (fun q => hb1.resolve_left (by rw [q]; decide)) 16 0 F false S7 V (by omega) rfl ab7 ((C4.fr f6 (by simp)).fr f7 (by simp)) (k4.fm f47 (by intro x hx; simp at hx; rcases hx with q | q <;> rw [q] <;> simp)) (by rw [f47 9 t (by simp), f4 9 t (by simp)]; exact u1) (by rw [f47 0 (14 + t) (by simp; omega), f4 0 (14 + t) (by simp)]; exact u2) (by rw [f47 10 0 (by simp), s410]; exact v15) (by rw [f47 10 0 (by simp), s410, v1, ea]; rfl) (by rw [f47 10 0 (by simp), s410]; exact v3) (by rw [f47 10 0 (by simp)]; exact T4) (by rw [f7 0 11 (by simp), hS6, so_eq]; exact b6) (by rw [hS7, so_eq]; exact b7) (by rw [f47 0 r (by simp; omega)]; exact bx4)
              have z1 : B_X11_verify_187 G F F (W1.ad (.o 11 0)) (W1.ad (.o 0 r)) 0 0 (mem W1 S7) = _ := z1
              rw [if_pos c5, if_pos rfl, h1.gR rfl w14, bO_s, rcv_m B4.lo, bO_s, g5, bO_s, h1.gR rfl w14, bO_s, h1.gR rfl h117, bO_s, rcv_m htk1.1.1, bO_s, pe1, bP_s, rcv_m B4.lo, bO_s, g6, bO_s, h1.gR rfl h117, bO_s, h1.gR rfl w15, bO_s, rcv_m htk1.1.1, bO_s, g7, bO_s, z1, hv]
              refine ⟨W1, S8, V8, rfl, Or.inr ⟨83, hW1⟩, w1, (f4L.trans (f47.mono (by simp [tkL]))).trans (z2.mono (by simp [vfL, svL, tkL])), z3, z4, z5, ?_⟩
              revert z6
              show shwK S7 S8 _ _ → shwO S S8 (match vrK A J a (msgB xs) (dec (ptX xs 2)) 16 0 false with | .inl _ => none | .inr _ => some (payB xs (brB J)))
              cases vrK A J a (msgB xs) (dec (ptX xs 2)) 16 0 false with
              | inl b => intro z6; exact (show S8 0 9 = S7 0 9 from z6).trans ((f47 0 9 (by simp)).trans s49)
              | inr b => exact id
            · rw [if_neg (fun q => c5 q.2)] at hv
              rw [if_neg c5, if_neg (by decide)]
              exact bad hv
          rw [if_pos c3, h1.gR rfl h117, bO_s, x3, bO_s]
          cases cb : brB J with
          | true =>
            rw [if_neg (show ¬ (if true = true then (1 : Int32) else 0) = 0 by decide)]
            exact go (Or.inl cb)
          | false =>
            have l1 := Q10_isFaulty (G := G) (F := F) (W := W1) (S := S4) (p := 1) X1 htk1.1 T4 (by omega) hin1 bx4
            have l1 : P_X10_isFaulty G F (W1.ad (.o 10 0)) (W1.ad (.o 0 r)) 1 (mem W1 S4) = _ := l1
            rw [if_pos (show (if false = true then (1 : Int32) else 0) = 0 from rfl), bO_s, rcv_m htk1.1.1, bO_s, l1, bP_s]
            by_cases c6 : fltF (ptX xs 1) = none
            · rw [if_pos c6, if_pos rfl]
              exact go (Or.inr c6)
            · rw [if_neg c6, if_neg (by decide)]
              rw [if_neg (fun q => q.1.elim (by rw [cb]; decide) c6)] at hv
              exact bad hv
        · rw [if_neg c3] at hv
          rw [if_neg c3, hv]
          exact ⟨W1, S4, V, rfl, Or.inr ⟨83, hW1⟩, w1, f4L, ab4, C4, k4, s49⟩
    · have hv : vrfW A xs = (-21, none) := by
        unfold vrfW
        rw [if_pos c2, if_neg c0]
      rw [if_neg c0, if_neg (by decide), hv]
      exact ⟨W, S1, V, rfl, Or.inl rfl, w, f1L, ab1, C1, k1, f1 0 9 (by simp)⟩
  · have hv : vrfW A xs = (-20, none) := by
      unfold vrfW
      rw [if_neg c2]
    rw [if_neg (show ¬ (ptA xs).length + 1 = 3 by omega), if_pos rfl, hv]
    exact ⟨W, S1, V, rfl, Or.inl rfl, w, f1L, ab1, C1, k1, f1 0 9 (by simp)⟩
theorem Q11_verify_bad {x : Int32} (hl : W.live (.o 11 0) = true) (hx : isr x = false) : P_X11_verify G F (W.ad (.o 11 0)) x (mem W S) = some (-2, mem W S) := by
  unfold P_X11_verify
  rw [rcv_m hl, bO_s, Q11_isRow, bP_s, hx, if_pos (by rfl)]
end CV2
