/-! CALL encrypt: the class, from its key on -/
/-- what encrypt and decrypt touch -/
abbrev tkE (t : Nat) : List (Nat × Nat) := (1, 0) :: (2, 0) :: tkL t
theorem tkE_k {t : Nat} (ht : t < 2) : noK (tkE t) := by
  intro x hx
  rcases List.mem_cons.mp hx with e | hx
  · rw [e]
    simp
  · rcases List.mem_cons.mp hx with e | hx
    · rw [e]
      simp
    · exact tkL_k ht x hx
section CE3
variable {W : WR} {G : mG} {F : Nat} {S : ST} {z sl z0 s0 t : Nat} {σ κ rk : Nat → Nat} {A : Nat → Option KY} {K : KY} {V : Nat → Int}
theorem Q11_enc74 {k a wy p q : Nat} {x6 x7 : Int32} {rows : Nat → List UInt8} (X : Cx G F W) (w : isW W t) (ab : AB W S) (C : CK S V) (hK : KHS W S z sl z0 s0 σ κ rk A) (hR : ∀ r, r < 8 → ∃ l, Byt 8192 (S 0 r) (rows r) l) (hk : k < 16) (e : A k = some K) (ha : a < 6) (hw : wy < 4) (hp : p < 8) (hq : q < 8) (r : Int32 ⊕ List UInt8) (hr : r = encV a wy K (rows q) (rows p) (rwO rows x6) (rwO rows x7)) : ∃ S' V', B_X11_encrypt_74 G F (W.ad (.o 11 0)) (Int32.ofNat k) (Int32.ofNat a) (Int32.ofNat wy) (Int32.ofNat p) (Int32.ofNat q) x6 x7 (mem W S) = some (ansT r, mem W S') ∧ fr (tkE t) S S' ∧ AB W S' ∧ CK S' V' ∧ cW S S' ∧ KHS W S' z sl z0 s0 σ κ rk A ∧ shwT S S' r := by
  obtain ⟨A_, w8, w9, w7, wt, tl⟩ := id w
  obtain ⟨h, hd_, hrs, hcu, htk, hci, hco, h12, h13, h14, h15, h16, h17⟩ := id A_
  obtain ⟨H, hj, O, V_, x2, x3, x4⟩ := hK.at_ hk e
  have rk9 : rk (σ k) < 100000 := by
    have := (hK.2.2.1 (σ k) hj).2.2.2.1
    obtain ⟨q, q1, q2, q3⟩ := rmK_q this
    omega
  have g10 : gfR (mem W S) (W.ad (.o 11 0)) 11 10 = some (W.ad (.a 11 0 10)) := gfR_m h.lo rfl hK.2.1.1
  have ms := Q5_maySeal (G := G) (F := F) (w := a) (way := wy) false X H O V_ (by omega) hw
  have ms : P_X5_maySeal G F (W.ad (.o 5 (σ k))) (Int32.ofNat a) (Int32.ofNat wy) 0 (mem W S) = _ := ms
  have nk := tkE_k tl
  unfold B_X11_encrypt_74
  rw [g10, bO_s, hK.ky hk, bO_s, rcv_m H.1, bO_s, ms, bP_s]
  by_cases c : maySl K a wy false = true
  · have hr : r = encT a wy K (rows q) (rows p) (rwO rows x6) (rwO rows x7) := by
      rw [hr]
      unfold encV
      rw [if_pos c]
    obtain ⟨lq, bq⟩ := hR q hq
    obtain ⟨S1, g1, f1, ab1, e10, r1⟩ := Q10_draw (G := G) (F := F) (S := S) (a := a) (w := wy) (r := q) X htk ab ha hw hq (h.rb q hq) bq
    have f1L : fr (tkE t) S S1 := f1.mono (by simp [tkE, tkL])
    have C1 : CK S1 V := C.fr f1 (by simp)
    have k1 : KHS W S1 z sl z0 s0 σ κ rk A := hK.fm f1L nk
    have s9 : S1 0 9 = S 0 9 := f1 0 9 (by simp)
    rw [if_pos c, if_neg (by decide), h.gR rfl h17, bO_s, h.gR rfl h.ra, bO_s, h.row hq, bO_s, rcv_m htk.1.1, bO_s, g1, bP_s]
    by_cases c1 : ndN a wy ≤ (rows q).length
    · rw [if_pos c1, if_neg (by decide)]
      obtain ⟨b87, b89, b88, b91⟩ := r1 c1
      have x4' : ((Int32.ofNat a) < (4 : Int32)) = (a < 4) := propext (n_lt (b := 4) (by omega) (by omega))
      have y1 : (S1 10 0).f 1 = (Int32.ofNat a) := by rw [e10, sf_ne (by omega), sf_eq]
      have y2 : (S1 10 0).f 2 = (Int32.ofNat wy) := by rw [e10, sf_eq]
      have O1 : KyO S1 (σ k) (κ (σ k)) (rk (σ k)) K := O.same (fun k _ => by rw [f1 5 _ (by simp)]) (by rw [f1 0 _ (by simp; omega)]) (by rw [f1 0 _ (by simp; omega)]) (by rw [f1 0 _ (by simp; omega)]) (by rw [f1 0 _ (by simp; omega)])
      have hR1 : ∀ r, r < 8 → ∃ l, Byt 8192 (S1 0 r) (rows r) l := fun r hr => by
        rw [f1 0 r (by simp; omega)]
        exact hR r hr
      have nd : fmN a + kmN a wy + smN a + ivOf wy ≤ (rows q).length := c1
      have fl : (seg (rows q) 0 (fmN a)).length = fmN a := seg_len (by omega)
      have kl : (seg (rows q) (fmN a) (kmN a wy)).length = kmN a wy := seg_len (by omega)
      have sdl : (seg (rows q) (fmN a + kmN a wy) (smN a)).length = smN a := seg_len (by omega)
      have go : (a < 4 ∨ secF (seg (rows q) 0 (fmN a)) = true) → ∃ S' V', B_X11_encrypt_141 G F (W.ad (.o 11 0)) (Int32.ofNat a) (Int32.ofNat wy) (Int32.ofNat p) x6 x7 (W.ad (.o 5 (σ k))) (mem W S1) = some (ansT r, mem W S') ∧ fr (tkE t) S S' ∧ AB W S' ∧ CK S' V' ∧ cW S S' ∧ KHS W S' z sl z0 s0 σ κ rk A ∧ shwT S S' r := by
        intro hs
        unfold encT at hr
        rw [if_pos ⟨c1, hs⟩] at hr
        obtain ⟨S2, V2, z1, z2, z3, z4, zc, z5⟩ := Q11_enc141 (G := G) (F := F) (S := S1) (K := K) (a := a) (w := wy) (p := p) (x6 := x6) (x7 := x7) (rows := rows) X A_ ab1 C1 H hj O1 x2 x3 rk9 x4 V_ ha hw c y1 y2 b87 b89 b88 b91 (fun h4 => ⟨by rw [fl]; unfold fmN; rw [if_neg (by omega)], hs.resolve_left (by omega)⟩) (fun q1 q2 => by rw [kl]; unfold kmN; rw [if_neg (by omega)]) (fun q1 => by rw [sdl]; unfold smN; rw [if_pos q1]) hp hR1 r hr
        have fL : fr (tkE t) S1 S2 := z2.mono (by simp [tkE, tkL])
        refine ⟨S2, V2, z1, f1L.trans fL, z3, z4, (cW.of f1 (by simp)).trans zc, k1.fm fL nk, ?_⟩
        revert z5
        cases r with
        | inl v => intro z5; exact (show S2 0 9 = S1 0 9 from z5).trans s9
        | inr tok => exact id
      simp only [x4']
      by_cases c4 : a < 4
      · rw [if_pos c4]
        exact go (Or.inl c4)
      · have f32 : fmN a = 32 := by unfold fmN; rw [if_neg c4]
        have g7 : ∀ S, gfR (mem W S) (W.ad (.o 10 0)) 10 7 = some (W.ad (.o 0 87)) := fun S => gfR_m htk.1.1 rfl (htk.2.2 7 (by decide) (by decide)).1
        have B87 : isB W 87 32 := (htk.2.2 7 (by decide) (by decide)).2
        have is_ := Q3_isSecret (G := G) (F := F) (S := S1) (at_ := 0) X hcu C1 B87 b87 (by omega)
        rw [seg_all (by omega)] at is_
        have is_ : P_X3_isSecret G F (W.ad (.o 3 0)) (W.ad (.o 0 87)) 0 (mem W S1) = _ := is_
        rw [if_neg c4, h.gR rfl h16, bO_s, h.gR rfl h17, bO_s, g7, bO_s, rcv_m hcu.1, bO_s, is_, bP_s]
        cases cs : secF (seg (rows q) 0 (fmN a)) with
        | false =>
          have hr : r = .inl (-4) := by
            rw [hr]
            unfold encT
            rw [if_neg (fun q => q.2.elim c4 (by rw [cs]; decide))]
          rw [if_pos (show (if false = true then (1 : Int32) else 0) = 0 from rfl), hr]
          exact ⟨S1, V, rfl, f1L, ab1, C1, cW.of f1 (by simp), k1, s9⟩
        | true =>
          rw [if_neg (show ¬ (if true = true then (1 : Int32) else 0) = 0 by decide)]
          exact go (Or.inr cs)
    · have hr : r = .inl (-4) := by
        rw [hr]
        unfold encT
        rw [if_neg (fun q => c1 q.1)]
      rw [if_neg c1, if_pos rfl, hr]
      exact ⟨S1, V, rfl, f1L, ab1, C1, cW.of f1 (by simp), k1, s9⟩
  · have hr : r = .inl (-26) := by
      rw [hr]
      unfold encV
      rw [if_neg c]
    rw [if_neg c, if_pos rfl, hr]
    exact ⟨S, V, rfl, fr.refl _ _, ab, C, agr.refl _ _ _ _ _, hK, rfl⟩
/-- a row or none -/
abbrev ron (x : Int32) : Bool := decide (x = -1) || isr x
theorem Q11_encrypt {k a wy p q : Nat} {x6 x7 : Int32} {rows : Nat → List UInt8} (X : Cx G F W) (w : isW W t) (ab : AB W S) (C : CK S V) (hK : KHS W S z sl z0 s0 σ κ rk A) (hR : ∀ r, r < 8 → ∃ l, Byt 8192 (S 0 r) (rows r) l) (hk : k < 16) (e : A k = some K) (ha : a < 6) (hw : wy < 4) (hp : p < 8) (hq : q < 8) (h6 : 4 ≤ a → ron x6 = true) (h7 : 4 ≤ a → ron x7 = true) (r : Int32 ⊕ List UInt8) (hr : r = encV a wy K (rows q) (rows p) (rwO rows x6) (rwO rows x7)) : ∃ S' V', P_X11_encrypt G F (W.ad (.o 11 0)) (Int32.ofNat k) (Int32.ofNat a) (Int32.ofNat wy) (Int32.ofNat p) (Int32.ofNat q) x6 x7 (mem W S) = some (ansT r, mem W S') ∧ fr (tkE t) S S' ∧ AB W S' ∧ CK S' V' ∧ cW S S' ∧ KHS W S' z sl z0 s0 σ κ rk A ∧ shwT S S' r := by
  have h := w.1.1
  obtain ⟨S', V', g, rest⟩ := Q11_enc74 (G := G) (F := F) (x6 := x6) (x7 := x7) X w ab C hK hR hk e ha hw hp hq r hr
  refine ⟨S', V', ?_, rest⟩
  have ik : isk A (Int32.ofNat k) = true := by
    rcases isk_cases A (Int32.ofNat k) with ⟨q, _⟩ | ⟨k', hk', ek, e'⟩
    · rcases q with q | q
      · exact absurd q (nn (by omega))
      · have := (n_le (a := 16) (b := k) (by omega) (by omega)).mp q
        omega
    · have := (n_eq (by omega) (by omega)).mp ek
      subst this
      rw [e', e]
      rfl
  have x4' : ((Int32.ofNat a) < (4 : Int32)) = (a < 4) := propext (n_lt (b := 4) (by omega) (by omega))
  unfold P_X11_encrypt
  rw [rcv_m h.lo, bO_s, Q11_isKey hK h.lo, bP_s, ik, if_pos rfl, if_neg (by decide), if_neg (nn (by omega)), if_neg (show ¬ (6 : Int32) ≤ (Int32.ofNat a) from fun q => by have := (n_le (a := 6) (by omega) (by omega)).mp q; omega), if_neg (nn (by omega)), if_neg (show ¬ (4 : Int32) ≤ (Int32.ofNat wy) from fun q => by have := (n_le (a := 4) (by omega) (by omega)).mp q; omega), rcv_m h.lo, bO_s, Q11_isRow, bP_s, isr_i hp, if_pos rfl, if_neg (by decide), rcv_m h.lo, bO_s, Q11_isRow, bP_s, isr_i hq, if_pos rfl, if_neg (by decide)]
  simp only [x4']
  by_cases c : a < 4
  · rw [if_pos c, g]
  · have r6 : (decide (x6 = -1) || isr x6) = true := h6 (by omega)
    have r7 : (decide (x7 = -1) || isr x7) = true := h7 (by omega)
    rw [if_neg c, rcv_m h.lo, bO_s, Q11_rowNone (rcv_m h.lo), bP_s, r6, if_neg (by decide), rcv_m h.lo, bO_s, Q11_rowNone (rcv_m h.lo), bP_s, r7, if_neg (by decide), g]
/-- what encrypt refuses outright -/
def encBad (A : Nat → Option KY) (k alg way pay rnd x6 x7 : Int32) : Bool := !isk A k || (decide (alg < 0) || (decide (6 ≤ alg) || (decide (way < 0) || (decide (4 ≤ way) || (!isr pay || (!isr rnd || (!decide (alg < 4) && (!ron x6 || !ron x7))))))))
theorem Q11_encrypt_bad {k alg way pay rnd x6 x7 : Int32} (hl : W.live (.o 11 0) = true) (hK : KHS W S z sl z0 s0 σ κ rk A) (hb : encBad A k alg way pay rnd x6 x7 = true) : P_X11_encrypt G F (W.ad (.o 11 0)) k alg way pay rnd x6 x7 (mem W S) = some (-2, mem W S) := by
  unfold P_X11_encrypt
  unfold encBad at hb
  rw [rcv_m hl, bO_s, Q11_isKey hK hl, bP_s]
  cases c1 : isk A k with
  | false => rw [if_neg Bool.false_ne_true, if_pos rfl]
  | true =>
    rw [c1] at hb
    rw [if_pos rfl, if_neg (by decide)]
    by_cases c2 : alg < 0
    · rw [if_pos c2]
    rw [if_neg c2]
    rw [decide_eq_false c2] at hb
    by_cases c3 : (6 : Int32) ≤ alg
    · rw [if_pos c3]
    rw [if_neg c3]
    rw [decide_eq_false c3] at hb
    by_cases c4 : way < 0
    · rw [if_pos c4]
    rw [if_neg c4]
    rw [decide_eq_false c4] at hb
    by_cases c5 : (4 : Int32) ≤ way
    · rw [if_pos c5]
    rw [if_neg c5, rcv_m hl, bO_s, Q11_isRow, bP_s]
    rw [decide_eq_false c5] at hb
    cases c6 : isr pay with
    | false => rw [if_neg Bool.false_ne_true, if_pos rfl]
    | true =>
      rw [c6] at hb
      rw [if_pos rfl, if_neg (by decide), rcv_m hl, bO_s, Q11_isRow, bP_s]
      cases c7 : isr rnd with
      | false => rw [if_neg Bool.false_ne_true, if_pos rfl]
      | true =>
        rw [c7] at hb
        have hb : (!decide (alg < 4) && (!ron x6 || !ron x7)) = true := hb
        rw [Bool.and_eq_true] at hb
        have c8 : ¬ alg < 4 := fun q => by rw [decide_eq_true q] at hb; exact absurd hb.1 (by decide)
        rw [if_pos rfl, if_neg (by decide), if_neg c8, rcv_m hl, bO_s, Q11_rowNone (rcv_m hl), bP_s]
        have hb := hb.2
        have e6 : (decide (x6 = -1) || isr x6) = ron x6 := rfl
        have e7 : (decide (x7 = -1) || isr x7) = ron x7 := rfl
        rw [e6]
        cases c9 : ron x6 with
        | false => rw [if_neg Bool.false_ne_true, if_pos rfl]
        | true =>
          rw [c9] at hb
          rw [if_pos rfl, if_neg (by decide), rcv_m hl, bO_s, Q11_rowNone (rcv_m hl), bP_s, e7]
          cases c10 : ron x7 with
          | false => rw [if_neg Bool.false_ne_true, if_pos rfl]
          | true => rw [c10] at hb; exact absurd hb (by decide)
end CE3
