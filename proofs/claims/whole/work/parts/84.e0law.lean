/-! THE LAW: each round of its loop -/
def LwS (G : mG) (F : Nat) (W : WR) (S : ST) (z sl z0 s0 A1 A2 L0 b : Nat) (l3 sk0 : Int32) : Prop := ∃ W2 S2 z2 sl2, (∀ r18, B_L_law_33 G F r18 b A1 A2 l3 sk0 (mem W S) z sl = r18 b A1 A2 (l3 + 8) (mem W2 S2) z2 sl2) ∧ Rl G F W2 S2 z2 sl2 z0 s0 A1 A2 L0
section LAW
variable {W : WR} {G : mG} {F : Nat} {S : ST} {z sl z0 s0 A1 A2 L0 b L i : Nat} {xs : Nat → Int32}
theorem Rl.o (R : Rl G F W S z sl z0 s0 A1 A2 L0) : W.live (.o 11 0) = true ∧ W.ad (.o 11 0) = A1 ∧ W.lo = L0 := by
  obtain ⟨τ, rows, t, h, bk, J, A, c, m, j, X, a1, a2, lo⟩ := R
  exact ⟨c.isa.1.lo, a1, lo⟩
theorem rc11 {c j A : Nat} (h : W.live (.o c j) = true) (e : W.ad (.o c j) = A) : rcv (mem W S) A c = some () := rcv_m' h e
/-- a cell of the script -/
theorem scr {W' : WR} {S' : ST} (hG : G.2.2.1 b = some (L, xs)) (hb : b < L0) (hL : L ≤ 4096) (e : W'.lo = L0) (j : Nat) (hj : i + j < L) : aI G (mem W' S') 0 b ((Int32.ofNat i) + (Int32.ofNat j)) = some (xs (i + j)) := by
  rw [n_add]
  unfold aI
  rw [mem_lo (by rw [e]; exact hb)]
  simp only [if_true, hG]
  rw [if_pos (inB_n hj (by omega)), n_at (by omega)]

theorem L_0 (hG : G.2.2.1 b = some (L, xs)) (hb : b < L0) (hL : L ≤ 4096) (hi : i + 8 ≤ L) (R : Rl G F W S z sl z0 s0 A1 A2 L0) : LwS G F W S z sl z0 s0 A1 A2 L0 b (Int32.ofNat i) 0 := by
  obtain ⟨l11, a1, lo⟩ := R.o
  have r1 : ∀ (W' : WR) (S' : ST), W'.lo = L0 → aI G (mem W' S') 0 b ((Int32.ofNat i) + (1 : Int32)) = some (xs (i + 1)) := fun W' S' e => scr hG hb hL e 1 (by omega)
  have r2 : ∀ (W' : WR) (S' : ST), W'.lo = L0 → aI G (mem W' S') 0 b ((Int32.ofNat i) + (2 : Int32)) = some (xs (i + 2)) := fun W' S' e => scr hG hb hL e 2 (by omega)
  have r3 : ∀ (W' : WR) (S' : ST), W'.lo = L0 → aI G (mem W' S') 0 b ((Int32.ofNat i) + (3 : Int32)) = some (xs (i + 3)) := fun W' S' e => scr hG hb hL e 3 (by omega)
  have r4 : ∀ (W' : WR) (S' : ST), W'.lo = L0 → aI G (mem W' S') 0 b ((Int32.ofNat i) + (4 : Int32)) = some (xs (i + 4)) := fun W' S' e => scr hG hb hL e 4 (by omega)
  have r5 : ∀ (W' : WR) (S' : ST), W'.lo = L0 → aI G (mem W' S') 0 b ((Int32.ofNat i) + (5 : Int32)) = some (xs (i + 5)) := fun W' S' e => scr hG hb hL e 5 (by omega)
  obtain ⟨v, W1, S1, W2, S2, g1, ⟨l13, ad2, lo1⟩, g2, R2⟩ := B_feed R (xs (i + 1)) (xs (i + 2)) (xs (i + 3)) (xs (i + 4)) (xs (i + 5))
  refine ⟨W2, S2, z, sl, fun r18 => ?_, R2⟩
  unfold B_L_law_33
  rw [if_pos (show (0 : Int32) = 0 from rfl), r1 W S lo, bO_s, r2 W S lo, bO_s, r3 W S lo, bO_s, r4 W S lo, bO_s, r5 W S lo, bO_s, rc11 l11 a1, bO_s, g1, bP_s, r1 W1 S1 lo1, bO_s, r2 W1 S1 lo1, bO_s, r3 W1 S1 lo1, bO_s, r4 W1 S1 lo1, bO_s, r5 W1 S1 lo1, bO_s, rc11 l13 ad2, bO_s, g2, bP_s]
  unfold B_L_law_238
  rw [if_pos rfl]
theorem L_1 (hG : G.2.2.1 b = some (L, xs)) (hb : b < L0) (hL : L ≤ 4096) (hi : i + 8 ≤ L) (R : Rl G F W S z sl z0 s0 A1 A2 L0) : LwS G F W S z sl z0 s0 A1 A2 L0 b (Int32.ofNat i) 1 := by
  obtain ⟨l11, a1, lo⟩ := R.o
  have r1 : ∀ (W' : WR) (S' : ST), W'.lo = L0 → aI G (mem W' S') 0 b ((Int32.ofNat i) + (1 : Int32)) = some (xs (i + 1)) := fun W' S' e => scr hG hb hL e 1 (by omega)
  obtain ⟨v, W1, S1, W2, S2, g1, ⟨l13, ad2, lo1⟩, g2, R2⟩ := B_end R (xs (i + 1))
  refine ⟨W2, S2, z, sl, fun r18 => ?_, R2⟩
  unfold B_L_law_33
  rw [if_neg (show ¬ (1 : Int32) = 0 by decide), if_pos (show (1 : Int32) = 1 from rfl), r1 W S lo, bO_s, rc11 l11 a1, bO_s, g1, bP_s, r1 W1 S1 lo1, bO_s, rc11 l13 ad2, bO_s, g2, bP_s]
  unfold B_L_law_261
  rw [if_pos rfl]
theorem L_2 (hG : G.2.2.1 b = some (L, xs)) (hb : b < L0) (hL : L ≤ 4096) (hi : i + 8 ≤ L) (R : Rl G F W S z sl z0 s0 A1 A2 L0) : LwS G F W S z sl z0 s0 A1 A2 L0 b (Int32.ofNat i) 2 := by
  obtain ⟨l11, a1, lo⟩ := R.o
  have r1 : ∀ (W' : WR) (S' : ST), W'.lo = L0 → aI G (mem W' S') 0 b ((Int32.ofNat i) + (1 : Int32)) = some (xs (i + 1)) := fun W' S' e => scr hG hb hL e 1 (by omega)
  obtain ⟨v, W1, S1, W2, S2, g1, ⟨l13, ad2, lo1⟩, g2, R2⟩ := B_row R (xs (i + 1))
  refine ⟨W2, S2, z, sl, fun r18 => ?_, R2⟩
  unfold B_L_law_33
  rw [if_neg (show ¬ (2 : Int32) = 0 by decide), if_neg (show ¬ (2 : Int32) = 1 by decide), if_pos (show (2 : Int32) = 2 from rfl), r1 W S lo, bO_s, rc11 l11 a1, bO_s, g1, bP_s, r1 W1 S1 lo1, bO_s, rc11 l13 ad2, bO_s, g2, bP_s]
  unfold B_L_law_284
  rw [if_pos rfl]
theorem L_3 (hG : G.2.2.1 b = some (L, xs)) (hb : b < L0) (hL : L ≤ 4096) (hi : i + 8 ≤ L) (R : Rl G F W S z sl z0 s0 A1 A2 L0) : LwS G F W S z sl z0 s0 A1 A2 L0 b (Int32.ofNat i) 3 := by
  obtain ⟨l11, a1, lo⟩ := R.o
  have r1 : ∀ (W' : WR) (S' : ST), W'.lo = L0 → aI G (mem W' S') 0 b ((Int32.ofNat i) + (1 : Int32)) = some (xs (i + 1)) := fun W' S' e => scr hG hb hL e 1 (by omega)
  obtain ⟨v, W1, S1, W2, S2, g1, ⟨l13, ad2, lo1⟩, g2, R2⟩ := B_keep R (xs (i + 1))
  refine ⟨W2, S2, z, sl, fun r18 => ?_, R2⟩
  unfold B_L_law_33
  rw [if_neg (show ¬ (3 : Int32) = 0 by decide), if_neg (show ¬ (3 : Int32) = 1 by decide), if_neg (show ¬ (3 : Int32) = 2 by decide), if_pos (show (3 : Int32) = 3 from rfl), r1 W S lo, bO_s, rc11 l11 a1, bO_s, g1, bP_s, r1 W1 S1 lo1, bO_s, rc11 l13 ad2, bO_s, g2, bP_s]
  unfold B_L_law_307
  rw [if_pos rfl]
theorem L_4 (hG : G.2.2.1 b = some (L, xs)) (hb : b < L0) (hL : L ≤ 4096) (hi : i + 8 ≤ L) (R : Rl G F W S z sl z0 s0 A1 A2 L0) : LwS G F W S z sl z0 s0 A1 A2 L0 b (Int32.ofNat i) 4 := by
  obtain ⟨l11, a1, lo⟩ := R.o
  have r1 : ∀ (W' : WR) (S' : ST), W'.lo = L0 → aI G (mem W' S') 0 b ((Int32.ofNat i) + (1 : Int32)) = some (xs (i + 1)) := fun W' S' e => scr hG hb hL e 1 (by omega)
  have r2 : ∀ (W' : WR) (S' : ST), W'.lo = L0 → aI G (mem W' S') 0 b ((Int32.ofNat i) + (2 : Int32)) = some (xs (i + 2)) := fun W' S' e => scr hG hb hL e 2 (by omega)
  have r3 : ∀ (W' : WR) (S' : ST), W'.lo = L0 → aI G (mem W' S') 0 b ((Int32.ofNat i) + (3 : Int32)) = some (xs (i + 3)) := fun W' S' e => scr hG hb hL e 3 (by omega)
  obtain ⟨v, W1, S1, W2, S2, g1, ⟨l13, ad2, lo1⟩, g2, R2⟩ := B_poke R (xs (i + 1)) (xs (i + 2)) (xs (i + 3))
  refine ⟨W2, S2, z, sl, fun r18 => ?_, R2⟩
  unfold B_L_law_33
  rw [if_neg (show ¬ (4 : Int32) = 0 by decide), if_neg (show ¬ (4 : Int32) = 1 by decide), if_neg (show ¬ (4 : Int32) = 2 by decide), if_neg (show ¬ (4 : Int32) = 3 by decide), if_pos (show (4 : Int32) = 4 from rfl), r1 W S lo, bO_s, r2 W S lo, bO_s, r3 W S lo, bO_s, rc11 l11 a1, bO_s, g1, bP_s, r1 W1 S1 lo1, bO_s, r2 W1 S1 lo1, bO_s, r3 W1 S1 lo1, bO_s, rc11 l13 ad2, bO_s, g2, bP_s]
  unfold B_L_law_350
  rw [if_pos rfl]
theorem L_5 (hG : G.2.2.1 b = some (L, xs)) (hb : b < L0) (hL : L ≤ 4096) (hi : i + 8 ≤ L) (R : Rl G F W S z sl z0 s0 A1 A2 L0) : LwS G F W S z sl z0 s0 A1 A2 L0 b (Int32.ofNat i) 5 := by
  obtain ⟨l11, a1, lo⟩ := R.o
  have r1 : ∀ (W' : WR) (S' : ST), W'.lo = L0 → aI G (mem W' S') 0 b ((Int32.ofNat i) + (1 : Int32)) = some (xs (i + 1)) := fun W' S' e => scr hG hb hL e 1 (by omega)
  obtain ⟨v, W1, S1, W2, S2, g1, ⟨l13, ad2, lo1⟩, g2, R2⟩ := B_size R (xs (i + 1))
  refine ⟨W2, S2, z, sl, fun r18 => ?_, R2⟩
  unfold B_L_law_33
  rw [if_neg (show ¬ (5 : Int32) = 0 by decide), if_neg (show ¬ (5 : Int32) = 1 by decide), if_neg (show ¬ (5 : Int32) = 2 by decide), if_neg (show ¬ (5 : Int32) = 3 by decide), if_neg (show ¬ (5 : Int32) = 4 by decide), if_pos (show (5 : Int32) = 5 from rfl), r1 W S lo, bO_s, rc11 l11 a1, bO_s, g1, bP_s, r1 W1 S1 lo1, bO_s, rc11 l13 ad2, bO_s, g2, bP_s]
  unfold B_L_law_373
  rw [if_pos rfl]
theorem L_6 (hG : G.2.2.1 b = some (L, xs)) (hb : b < L0) (hL : L ≤ 4096) (hi : i + 8 ≤ L) (R : Rl G F W S z sl z0 s0 A1 A2 L0) : LwS G F W S z sl z0 s0 A1 A2 L0 b (Int32.ofNat i) 6 := by
  obtain ⟨l11, a1, lo⟩ := R.o
  have r1 : ∀ (W' : WR) (S' : ST), W'.lo = L0 → aI G (mem W' S') 0 b ((Int32.ofNat i) + (1 : Int32)) = some (xs (i + 1)) := fun W' S' e => scr hG hb hL e 1 (by omega)
  obtain ⟨v, W1, S1, W2, S2, g1, ⟨l13, ad2, lo1⟩, g2, R2⟩ := B_out R (xs (i + 1))
  refine ⟨W2, S2, z, sl, fun r18 => ?_, R2⟩
  unfold B_L_law_33
  rw [if_neg (show ¬ (6 : Int32) = 0 by decide), if_neg (show ¬ (6 : Int32) = 1 by decide), if_neg (show ¬ (6 : Int32) = 2 by decide), if_neg (show ¬ (6 : Int32) = 3 by decide), if_neg (show ¬ (6 : Int32) = 4 by decide), if_neg (show ¬ (6 : Int32) = 5 by decide), if_pos (show (6 : Int32) = 6 from rfl), r1 W S lo, bO_s, rc11 l11 a1, bO_s, g1, bP_s, r1 W1 S1 lo1, bO_s, rc11 l13 ad2, bO_s, g2, bP_s]
  unfold B_L_law_396
  rw [if_pos rfl]
theorem L_7 (hG : G.2.2.1 b = some (L, xs)) (hb : b < L0) (hL : L ≤ 4096) (hi : i + 8 ≤ L) (R : Rl G F W S z sl z0 s0 A1 A2 L0) : LwS G F W S z sl z0 s0 A1 A2 L0 b (Int32.ofNat i) 7 := by
  obtain ⟨l11, a1, lo⟩ := R.o
  have r1 : ∀ (W' : WR) (S' : ST), W'.lo = L0 → aI G (mem W' S') 0 b ((Int32.ofNat i) + (1 : Int32)) = some (xs (i + 1)) := fun W' S' e => scr hG hb hL e 1 (by omega)
  obtain ⟨v, W1, S1, W2, S2, g1, ⟨l13, ad2, lo1⟩, g2, R2⟩ := B_json R (xs (i + 1))
  refine ⟨W2, S2, z, sl, fun r18 => ?_, R2⟩
  unfold B_L_law_33
  rw [if_neg (show ¬ (7 : Int32) = 0 by decide), if_neg (show ¬ (7 : Int32) = 1 by decide), if_neg (show ¬ (7 : Int32) = 2 by decide), if_neg (show ¬ (7 : Int32) = 3 by decide), if_neg (show ¬ (7 : Int32) = 4 by decide), if_neg (show ¬ (7 : Int32) = 5 by decide), if_neg (show ¬ (7 : Int32) = 6 by decide), if_pos (show (7 : Int32) = 7 from rfl), r1 W S lo, bO_s, rc11 l11 a1, bO_s, g1, bP_s, r1 W1 S1 lo1, bO_s, rc11 l13 ad2, bO_s, g2, bP_s]
  unfold B_L_law_419
  rw [if_pos rfl]
theorem L_8 (hG : G.2.2.1 b = some (L, xs)) (hb : b < L0) (hL : L ≤ 4096) (hi : i + 8 ≤ L) (R : Rl G F W S z sl z0 s0 A1 A2 L0) : LwS G F W S z sl z0 s0 A1 A2 L0 b (Int32.ofNat i) 8 := by
  obtain ⟨l11, a1, lo⟩ := R.o
  have r1 : ∀ (W' : WR) (S' : ST), W'.lo = L0 → aI G (mem W' S') 0 b ((Int32.ofNat i) + (1 : Int32)) = some (xs (i + 1)) := fun W' S' e => scr hG hb hL e 1 (by omega)
  have r2 : ∀ (W' : WR) (S' : ST), W'.lo = L0 → aI G (mem W' S') 0 b ((Int32.ofNat i) + (2 : Int32)) = some (xs (i + 2)) := fun W' S' e => scr hG hb hL e 2 (by omega)
  obtain ⟨v, W1, S1, W2, S2, g1, ⟨l13, ad2, lo1⟩, g2, R2⟩ := B_value R (xs (i + 1)) (xs (i + 2))
  refine ⟨W2, S2, z, sl, fun r18 => ?_, R2⟩
  unfold B_L_law_33
  rw [if_neg (show ¬ (8 : Int32) = 0 by decide), if_neg (show ¬ (8 : Int32) = 1 by decide), if_neg (show ¬ (8 : Int32) = 2 by decide), if_neg (show ¬ (8 : Int32) = 3 by decide), if_neg (show ¬ (8 : Int32) = 4 by decide), if_neg (show ¬ (8 : Int32) = 5 by decide), if_neg (show ¬ (8 : Int32) = 6 by decide), if_neg (show ¬ (8 : Int32) = 7 by decide), if_pos (show (8 : Int32) = 8 from rfl), r1 W S lo, bO_s, r2 W S lo, bO_s, rc11 l11 a1, bO_s, g1, bP_s, r1 W1 S1 lo1, bO_s, r2 W1 S1 lo1, bO_s, rc11 l13 ad2, bO_s, g2, bP_s]
  unfold B_L_law_452
  rw [if_pos rfl]
theorem L_9 (hG : G.2.2.1 b = some (L, xs)) (hb : b < L0) (hL : L ≤ 4096) (hi : i + 8 ≤ L) (R : Rl G F W S z sl z0 s0 A1 A2 L0) : LwS G F W S z sl z0 s0 A1 A2 L0 b (Int32.ofNat i) 9 := by
  obtain ⟨l11, a1, lo⟩ := R.o
  have r1 : ∀ (W' : WR) (S' : ST), W'.lo = L0 → aI G (mem W' S') 0 b ((Int32.ofNat i) + (1 : Int32)) = some (xs (i + 1)) := fun W' S' e => scr hG hb hL e 1 (by omega)
  obtain ⟨v, W1, S1, W2, S2, g1, ⟨l13, ad2, lo1⟩, g2, R2⟩ := B_text R (xs (i + 1))
  refine ⟨W2, S2, z, sl, fun r18 => ?_, R2⟩
  unfold B_L_law_33
  rw [if_neg (show ¬ (9 : Int32) = 0 by decide), if_neg (show ¬ (9 : Int32) = 1 by decide), if_neg (show ¬ (9 : Int32) = 2 by decide), if_neg (show ¬ (9 : Int32) = 3 by decide), if_neg (show ¬ (9 : Int32) = 4 by decide), if_neg (show ¬ (9 : Int32) = 5 by decide), if_neg (show ¬ (9 : Int32) = 6 by decide), if_neg (show ¬ (9 : Int32) = 7 by decide), if_neg (show ¬ (9 : Int32) = 8 by decide), if_pos (show (9 : Int32) = 9 from rfl), r1 W S lo, bO_s, rc11 l11 a1, bO_s, g1, bP_s, r1 W1 S1 lo1, bO_s, rc11 l13 ad2, bO_s, g2, bP_s]
  unfold B_L_law_475
  rw [if_pos rfl]
theorem L_10 (hG : G.2.2.1 b = some (L, xs)) (hb : b < L0) (hL : L ≤ 4096) (hi : i + 8 ≤ L) (R : Rl G F W S z sl z0 s0 A1 A2 L0) : LwS G F W S z sl z0 s0 A1 A2 L0 b (Int32.ofNat i) 10 := by
  obtain ⟨l11, a1, lo⟩ := R.o
  have r1 : ∀ (W' : WR) (S' : ST), W'.lo = L0 → aI G (mem W' S') 0 b ((Int32.ofNat i) + (1 : Int32)) = some (xs (i + 1)) := fun W' S' e => scr hG hb hL e 1 (by omega)
  obtain ⟨v, W1, S1, W2, S2, g1, ⟨l13, ad2, lo1⟩, g2, R2⟩ := B_name R (xs (i + 1))
  refine ⟨W2, S2, z, sl, fun r18 => ?_, R2⟩
  unfold B_L_law_33
  rw [if_neg (show ¬ (10 : Int32) = 0 by decide), if_neg (show ¬ (10 : Int32) = 1 by decide), if_neg (show ¬ (10 : Int32) = 2 by decide), if_neg (show ¬ (10 : Int32) = 3 by decide), if_neg (show ¬ (10 : Int32) = 4 by decide), if_neg (show ¬ (10 : Int32) = 5 by decide), if_neg (show ¬ (10 : Int32) = 6 by decide), if_neg (show ¬ (10 : Int32) = 7 by decide), if_neg (show ¬ (10 : Int32) = 8 by decide), if_neg (show ¬ (10 : Int32) = 9 by decide), if_pos (show (10 : Int32) = 10 from rfl), r1 W S lo, bO_s, rc11 l11 a1, bO_s, g1, bP_s, r1 W1 S1 lo1, bO_s, rc11 l13 ad2, bO_s, g2, bP_s]
  unfold B_L_law_498
  rw [if_pos rfl]
theorem L_11 (hG : G.2.2.1 b = some (L, xs)) (hb : b < L0) (hL : L ≤ 4096) (hi : i + 8 ≤ L) (R : Rl G F W S z sl z0 s0 A1 A2 L0) : LwS G F W S z sl z0 s0 A1 A2 L0 b (Int32.ofNat i) 11 := by
  obtain ⟨l11, a1, lo⟩ := R.o
  have r1 : ∀ (W' : WR) (S' : ST), W'.lo = L0 → aI G (mem W' S') 0 b ((Int32.ofNat i) + (1 : Int32)) = some (xs (i + 1)) := fun W' S' e => scr hG hb hL e 1 (by omega)
  have r2 : ∀ (W' : WR) (S' : ST), W'.lo = L0 → aI G (mem W' S') 0 b ((Int32.ofNat i) + (2 : Int32)) = some (xs (i + 2)) := fun W' S' e => scr hG hb hL e 2 (by omega)
  obtain ⟨v, W1, S1, W2, S2, g1, ⟨l13, ad2, lo1⟩, g2, R2⟩ := B_member R (xs (i + 1)) (xs (i + 2))
  refine ⟨W2, S2, z, sl, fun r18 => ?_, R2⟩
  unfold B_L_law_33
  rw [if_neg (show ¬ (11 : Int32) = 0 by decide), if_neg (show ¬ (11 : Int32) = 1 by decide), if_neg (show ¬ (11 : Int32) = 2 by decide), if_neg (show ¬ (11 : Int32) = 3 by decide), if_neg (show ¬ (11 : Int32) = 4 by decide), if_neg (show ¬ (11 : Int32) = 5 by decide), if_neg (show ¬ (11 : Int32) = 6 by decide), if_neg (show ¬ (11 : Int32) = 7 by decide), if_neg (show ¬ (11 : Int32) = 8 by decide), if_neg (show ¬ (11 : Int32) = 9 by decide), if_neg (show ¬ (11 : Int32) = 10 by decide), if_pos (show (11 : Int32) = 11 from rfl), r1 W S lo, bO_s, r2 W S lo, bO_s, rc11 l11 a1, bO_s, g1, bP_s, r1 W1 S1 lo1, bO_s, r2 W1 S1 lo1, bO_s, rc11 l13 ad2, bO_s, g2, bP_s]
  unfold B_L_law_531
  rw [if_pos rfl]
theorem L_12 (hG : G.2.2.1 b = some (L, xs)) (hb : b < L0) (hL : L ≤ 4096) (hi : i + 8 ≤ L) (R : Rl G F W S z sl z0 s0 A1 A2 L0) : LwS G F W S z sl z0 s0 A1 A2 L0 b (Int32.ofNat i) 12 := by
  obtain ⟨l11, a1, lo⟩ := R.o
  have r1 : ∀ (W' : WR) (S' : ST), W'.lo = L0 → aI G (mem W' S') 0 b ((Int32.ofNat i) + (1 : Int32)) = some (xs (i + 1)) := fun W' S' e => scr hG hb hL e 1 (by omega)
  obtain ⟨v, W1, S1, W2, S2, g1, ⟨l13, ad2, lo1⟩, g2, R2⟩ := B_write R (xs (i + 1))
  refine ⟨W2, S2, z, sl, fun r18 => ?_, R2⟩
  unfold B_L_law_33
  rw [if_neg (show ¬ (12 : Int32) = 0 by decide), if_neg (show ¬ (12 : Int32) = 1 by decide), if_neg (show ¬ (12 : Int32) = 2 by decide), if_neg (show ¬ (12 : Int32) = 3 by decide), if_neg (show ¬ (12 : Int32) = 4 by decide), if_neg (show ¬ (12 : Int32) = 5 by decide), if_neg (show ¬ (12 : Int32) = 6 by decide), if_neg (show ¬ (12 : Int32) = 7 by decide), if_neg (show ¬ (12 : Int32) = 8 by decide), if_neg (show ¬ (12 : Int32) = 9 by decide), if_neg (show ¬ (12 : Int32) = 10 by decide), if_neg (show ¬ (12 : Int32) = 11 by decide), if_pos (show (12 : Int32) = 12 from rfl), r1 W S lo, bO_s, rc11 l11 a1, bO_s, g1, bP_s, r1 W1 S1 lo1, bO_s, rc11 l13 ad2, bO_s, g2, bP_s]
  unfold B_L_law_554
  rw [if_pos rfl]
theorem L_13 (hG : G.2.2.1 b = some (L, xs)) (hb : b < L0) (hL : L ≤ 4096) (hi : i + 8 ≤ L) (R : Rl G F W S z sl z0 s0 A1 A2 L0) : LwS G F W S z sl z0 s0 A1 A2 L0 b (Int32.ofNat i) 13 := by
  obtain ⟨l11, a1, lo⟩ := R.o
  have r1 : ∀ (W' : WR) (S' : ST), W'.lo = L0 → aI G (mem W' S') 0 b ((Int32.ofNat i) + (1 : Int32)) = some (xs (i + 1)) := fun W' S' e => scr hG hb hL e 1 (by omega)
  obtain ⟨v, W1, S1, W2, S2, g1, ⟨l13, ad2, lo1⟩, g2, R2⟩ := B_encode R (xs (i + 1))
  refine ⟨W2, S2, z, sl, fun r18 => ?_, R2⟩
  unfold B_L_law_33
  rw [if_neg (show ¬ (13 : Int32) = 0 by decide), if_neg (show ¬ (13 : Int32) = 1 by decide), if_neg (show ¬ (13 : Int32) = 2 by decide), if_neg (show ¬ (13 : Int32) = 3 by decide), if_neg (show ¬ (13 : Int32) = 4 by decide), if_neg (show ¬ (13 : Int32) = 5 by decide), if_neg (show ¬ (13 : Int32) = 6 by decide), if_neg (show ¬ (13 : Int32) = 7 by decide), if_neg (show ¬ (13 : Int32) = 8 by decide), if_neg (show ¬ (13 : Int32) = 9 by decide), if_neg (show ¬ (13 : Int32) = 10 by decide), if_neg (show ¬ (13 : Int32) = 11 by decide), if_neg (show ¬ (13 : Int32) = 12 by decide), if_pos (show (13 : Int32) = 13 from rfl), r1 W S lo, bO_s, rc11 l11 a1, bO_s, g1, bP_s, r1 W1 S1 lo1, bO_s, rc11 l13 ad2, bO_s, g2, bP_s]
  unfold B_L_law_577
  rw [if_pos rfl]
theorem L_14 (hG : G.2.2.1 b = some (L, xs)) (hb : b < L0) (hL : L ≤ 4096) (hi : i + 8 ≤ L) (R : Rl G F W S z sl z0 s0 A1 A2 L0) : LwS G F W S z sl z0 s0 A1 A2 L0 b (Int32.ofNat i) 14 := by
  obtain ⟨l11, a1, lo⟩ := R.o
  have r1 : ∀ (W' : WR) (S' : ST), W'.lo = L0 → aI G (mem W' S') 0 b ((Int32.ofNat i) + (1 : Int32)) = some (xs (i + 1)) := fun W' S' e => scr hG hb hL e 1 (by omega)
  obtain ⟨v, W1, S1, W2, S2, g1, ⟨l13, ad2, lo1⟩, g2, R2⟩ := B_decode R (xs (i + 1))
  refine ⟨W2, S2, z, sl, fun r18 => ?_, R2⟩
  unfold B_L_law_33
  rw [if_neg (show ¬ (14 : Int32) = 0 by decide), if_neg (show ¬ (14 : Int32) = 1 by decide), if_neg (show ¬ (14 : Int32) = 2 by decide), if_neg (show ¬ (14 : Int32) = 3 by decide), if_neg (show ¬ (14 : Int32) = 4 by decide), if_neg (show ¬ (14 : Int32) = 5 by decide), if_neg (show ¬ (14 : Int32) = 6 by decide), if_neg (show ¬ (14 : Int32) = 7 by decide), if_neg (show ¬ (14 : Int32) = 8 by decide), if_neg (show ¬ (14 : Int32) = 9 by decide), if_neg (show ¬ (14 : Int32) = 10 by decide), if_neg (show ¬ (14 : Int32) = 11 by decide), if_neg (show ¬ (14 : Int32) = 12 by decide), if_neg (show ¬ (14 : Int32) = 13 by decide), if_pos (show (14 : Int32) = 14 from rfl), r1 W S lo, bO_s, rc11 l11 a1, bO_s, g1, bP_s, r1 W1 S1 lo1, bO_s, rc11 l13 ad2, bO_s, g2, bP_s]
  unfold B_L_law_600
  rw [if_pos rfl]
theorem L_15 (hG : G.2.2.1 b = some (L, xs)) (hb : b < L0) (hL : L ≤ 4096) (hi : i + 8 ≤ L) (R : Rl G F W S z sl z0 s0 A1 A2 L0) : LwS G F W S z sl z0 s0 A1 A2 L0 b (Int32.ofNat i) 15 := by
  obtain ⟨l11, a1, lo⟩ := R.o
  have r1 : ∀ (W' : WR) (S' : ST), W'.lo = L0 → aI G (mem W' S') 0 b ((Int32.ofNat i) + (1 : Int32)) = some (xs (i + 1)) := fun W' S' e => scr hG hb hL e 1 (by omega)
  have r2 : ∀ (W' : WR) (S' : ST), W'.lo = L0 → aI G (mem W' S') 0 b ((Int32.ofNat i) + (2 : Int32)) = some (xs (i + 2)) := fun W' S' e => scr hG hb hL e 2 (by omega)
  obtain ⟨v, W1, S1, W2, S2, g1, ⟨l13, ad2, lo1⟩, g2, R2⟩ := B_hash R (xs (i + 1)) (xs (i + 2))
  refine ⟨W2, S2, z, sl, fun r18 => ?_, R2⟩
  unfold B_L_law_33
  rw [if_neg (show ¬ (15 : Int32) = 0 by decide), if_neg (show ¬ (15 : Int32) = 1 by decide), if_neg (show ¬ (15 : Int32) = 2 by decide), if_neg (show ¬ (15 : Int32) = 3 by decide), if_neg (show ¬ (15 : Int32) = 4 by decide), if_neg (show ¬ (15 : Int32) = 5 by decide), if_neg (show ¬ (15 : Int32) = 6 by decide), if_neg (show ¬ (15 : Int32) = 7 by decide), if_neg (show ¬ (15 : Int32) = 8 by decide), if_neg (show ¬ (15 : Int32) = 9 by decide), if_neg (show ¬ (15 : Int32) = 10 by decide), if_neg (show ¬ (15 : Int32) = 11 by decide), if_neg (show ¬ (15 : Int32) = 12 by decide), if_neg (show ¬ (15 : Int32) = 13 by decide), if_neg (show ¬ (15 : Int32) = 14 by decide), if_pos (show (15 : Int32) = 15 from rfl), r1 W S lo, bO_s, r2 W S lo, bO_s, rc11 l11 a1, bO_s, g1, bP_s, r1 W1 S1 lo1, bO_s, r2 W1 S1 lo1, bO_s, rc11 l13 ad2, bO_s, g2, bP_s]
  unfold B_L_law_633
  rw [if_pos rfl]
theorem L_16 (hG : G.2.2.1 b = some (L, xs)) (hb : b < L0) (hL : L ≤ 4096) (hi : i + 8 ≤ L) (R : Rl G F W S z sl z0 s0 A1 A2 L0) : LwS G F W S z sl z0 s0 A1 A2 L0 b (Int32.ofNat i) 16 := by
  obtain ⟨l11, a1, lo⟩ := R.o
  have r1 : ∀ (W' : WR) (S' : ST), W'.lo = L0 → aI G (mem W' S') 0 b ((Int32.ofNat i) + (1 : Int32)) = some (xs (i + 1)) := fun W' S' e => scr hG hb hL e 1 (by omega)
  have r2 : ∀ (W' : WR) (S' : ST), W'.lo = L0 → aI G (mem W' S') 0 b ((Int32.ofNat i) + (2 : Int32)) = some (xs (i + 2)) := fun W' S' e => scr hG hb hL e 2 (by omega)
  have r3 : ∀ (W' : WR) (S' : ST), W'.lo = L0 → aI G (mem W' S') 0 b ((Int32.ofNat i) + (3 : Int32)) = some (xs (i + 3)) := fun W' S' e => scr hG hb hL e 3 (by omega)
  obtain ⟨v, W1, S1, W2, S2, g1, ⟨l13, ad2, lo1⟩, g2, R2⟩ := B_code R (xs (i + 1)) (xs (i + 2)) (xs (i + 3))
  refine ⟨W2, S2, z, sl, fun r18 => ?_, R2⟩
  unfold B_L_law_33
  rw [if_neg (show ¬ (16 : Int32) = 0 by decide), if_neg (show ¬ (16 : Int32) = 1 by decide), if_neg (show ¬ (16 : Int32) = 2 by decide), if_neg (show ¬ (16 : Int32) = 3 by decide), if_neg (show ¬ (16 : Int32) = 4 by decide), if_neg (show ¬ (16 : Int32) = 5 by decide), if_neg (show ¬ (16 : Int32) = 6 by decide), if_neg (show ¬ (16 : Int32) = 7 by decide), if_neg (show ¬ (16 : Int32) = 8 by decide), if_neg (show ¬ (16 : Int32) = 9 by decide), if_neg (show ¬ (16 : Int32) = 10 by decide), if_neg (show ¬ (16 : Int32) = 11 by decide), if_neg (show ¬ (16 : Int32) = 12 by decide), if_neg (show ¬ (16 : Int32) = 13 by decide), if_neg (show ¬ (16 : Int32) = 14 by decide), if_neg (show ¬ (16 : Int32) = 15 by decide), if_pos (show (16 : Int32) = 16 from rfl), r1 W S lo, bO_s, r2 W S lo, bO_s, r3 W S lo, bO_s, rc11 l11 a1, bO_s, g1, bP_s, r1 W1 S1 lo1, bO_s, r2 W1 S1 lo1, bO_s, r3 W1 S1 lo1, bO_s, rc11 l13 ad2, bO_s, g2, bP_s]
  unfold B_L_law_676
  rw [if_pos rfl]
theorem L_17 (hG : G.2.2.1 b = some (L, xs)) (hb : b < L0) (hL : L ≤ 4096) (hi : i + 8 ≤ L) (R : Rl G F W S z sl z0 s0 A1 A2 L0) : LwS G F W S z sl z0 s0 A1 A2 L0 b (Int32.ofNat i) 17 := by
  obtain ⟨l11, a1, lo⟩ := R.o
  have r1 : ∀ (W' : WR) (S' : ST), W'.lo = L0 → aI G (mem W' S') 0 b ((Int32.ofNat i) + (1 : Int32)) = some (xs (i + 1)) := fun W' S' e => scr hG hb hL e 1 (by omega)
  have r2 : ∀ (W' : WR) (S' : ST), W'.lo = L0 → aI G (mem W' S') 0 b ((Int32.ofNat i) + (2 : Int32)) = some (xs (i + 2)) := fun W' S' e => scr hG hb hL e 2 (by omega)
  have r3 : ∀ (W' : WR) (S' : ST), W'.lo = L0 → aI G (mem W' S') 0 b ((Int32.ofNat i) + (3 : Int32)) = some (xs (i + 3)) := fun W' S' e => scr hG hb hL e 3 (by omega)
  by_cases h0 : xs (i + 3) = 0
  · obtain ⟨v, W1, S1, W2, S2, g1, ⟨l13, ad2, lo1⟩, g2, R2⟩ := B_block R (xs (i + 1)) (xs (i + 2)) false
    have g1 : P_X11_block G F A1 (xs (i + 1)) (xs (i + 2)) 0 (mem W S) = _ := g1
    have g2 : P_X13_block G F A2 (xs (i + 1)) (xs (i + 2)) 0 (mem W1 S1) = _ := g2
    refine ⟨W2, S2, z, sl, fun r18 => ?_, R2⟩
    unfold B_L_law_33
    rw [if_neg (show ¬ (17 : Int32) = 0 by decide), if_neg (show ¬ (17 : Int32) = 1 by decide), if_neg (show ¬ (17 : Int32) = 2 by decide), if_neg (show ¬ (17 : Int32) = 3 by decide), if_neg (show ¬ (17 : Int32) = 4 by decide), if_neg (show ¬ (17 : Int32) = 5 by decide), if_neg (show ¬ (17 : Int32) = 6 by decide), if_neg (show ¬ (17 : Int32) = 7 by decide), if_neg (show ¬ (17 : Int32) = 8 by decide), if_neg (show ¬ (17 : Int32) = 9 by decide), if_neg (show ¬ (17 : Int32) = 10 by decide), if_neg (show ¬ (17 : Int32) = 11 by decide), if_neg (show ¬ (17 : Int32) = 12 by decide), if_neg (show ¬ (17 : Int32) = 13 by decide), if_neg (show ¬ (17 : Int32) = 14 by decide), if_neg (show ¬ (17 : Int32) = 15 by decide), if_neg (show ¬ (17 : Int32) = 16 by decide), if_pos (show (17 : Int32) = 17 from rfl), r1 W S lo, bO_s, r2 W S lo, bO_s, r3 W S lo, bO_s]
    unfold B_L_law_697
    rw [if_pos h0]
    unfold B_L_law_705
    rw [rc11 l11 a1, bO_s, g1, bP_s, r1 W1 S1 lo1, bO_s, r2 W1 S1 lo1, bO_s, r3 W1 S1 lo1, bO_s]
    unfold B_L_law_724
    rw [if_pos h0, rc11 l13 ad2, bO_s, g2, bP_s]
    unfold B_L_law_735
    rw [if_pos rfl]
  · obtain ⟨v, W1, S1, W2, S2, g1, ⟨l13, ad2, lo1⟩, g2, R2⟩ := B_block R (xs (i + 1)) (xs (i + 2)) true
    have g1 : P_X11_block G F A1 (xs (i + 1)) (xs (i + 2)) 1 (mem W S) = _ := g1
    have g2 : P_X13_block G F A2 (xs (i + 1)) (xs (i + 2)) 1 (mem W1 S1) = _ := g2
    refine ⟨W2, S2, z, sl, fun r18 => ?_, R2⟩
    unfold B_L_law_33
    rw [if_neg (show ¬ (17 : Int32) = 0 by decide), if_neg (show ¬ (17 : Int32) = 1 by decide), if_neg (show ¬ (17 : Int32) = 2 by decide), if_neg (show ¬ (17 : Int32) = 3 by decide), if_neg (show ¬ (17 : Int32) = 4 by decide), if_neg (show ¬ (17 : Int32) = 5 by decide), if_neg (show ¬ (17 : Int32) = 6 by decide), if_neg (show ¬ (17 : Int32) = 7 by decide), if_neg (show ¬ (17 : Int32) = 8 by decide), if_neg (show ¬ (17 : Int32) = 9 by decide), if_neg (show ¬ (17 : Int32) = 10 by decide), if_neg (show ¬ (17 : Int32) = 11 by decide), if_neg (show ¬ (17 : Int32) = 12 by decide), if_neg (show ¬ (17 : Int32) = 13 by decide), if_neg (show ¬ (17 : Int32) = 14 by decide), if_neg (show ¬ (17 : Int32) = 15 by decide), if_neg (show ¬ (17 : Int32) = 16 by decide), if_pos (show (17 : Int32) = 17 from rfl), r1 W S lo, bO_s, r2 W S lo, bO_s, r3 W S lo, bO_s]
    unfold B_L_law_697
    rw [if_neg h0]
    unfold B_L_law_705
    rw [rc11 l11 a1, bO_s, g1, bP_s, r1 W1 S1 lo1, bO_s, r2 W1 S1 lo1, bO_s, r3 W1 S1 lo1, bO_s]
    unfold B_L_law_724
    rw [if_neg h0, rc11 l13 ad2, bO_s, g2, bP_s]
    unfold B_L_law_735
    rw [if_pos rfl]
theorem L_18 (hG : G.2.2.1 b = some (L, xs)) (hb : b < L0) (hL : L ≤ 4096) (hi : i + 8 ≤ L) (R : Rl G F W S z sl z0 s0 A1 A2 L0) : LwS G F W S z sl z0 s0 A1 A2 L0 b (Int32.ofNat i) 18 := by
  obtain ⟨l11, a1, lo⟩ := R.o
  have r1 : ∀ (W' : WR) (S' : ST), W'.lo = L0 → aI G (mem W' S') 0 b ((Int32.ofNat i) + (1 : Int32)) = some (xs (i + 1)) := fun W' S' e => scr hG hb hL e 1 (by omega)
  have r2 : ∀ (W' : WR) (S' : ST), W'.lo = L0 → aI G (mem W' S') 0 b ((Int32.ofNat i) + (2 : Int32)) = some (xs (i + 2)) := fun W' S' e => scr hG hb hL e 2 (by omega)
  obtain ⟨v, W1, S1, W2, S2, g1, ⟨l13, ad2, lo1⟩, g2, R2⟩ := B_wrap R (xs (i + 1)) (xs (i + 2))
  refine ⟨W2, S2, z, sl, fun r18 => ?_, R2⟩
  unfold B_L_law_33
  rw [if_neg (show ¬ (18 : Int32) = 0 by decide), if_neg (show ¬ (18 : Int32) = 1 by decide), if_neg (show ¬ (18 : Int32) = 2 by decide), if_neg (show ¬ (18 : Int32) = 3 by decide), if_neg (show ¬ (18 : Int32) = 4 by decide), if_neg (show ¬ (18 : Int32) = 5 by decide), if_neg (show ¬ (18 : Int32) = 6 by decide), if_neg (show ¬ (18 : Int32) = 7 by decide), if_neg (show ¬ (18 : Int32) = 8 by decide), if_neg (show ¬ (18 : Int32) = 9 by decide), if_neg (show ¬ (18 : Int32) = 10 by decide), if_neg (show ¬ (18 : Int32) = 11 by decide), if_neg (show ¬ (18 : Int32) = 12 by decide), if_neg (show ¬ (18 : Int32) = 13 by decide), if_neg (show ¬ (18 : Int32) = 14 by decide), if_neg (show ¬ (18 : Int32) = 15 by decide), if_neg (show ¬ (18 : Int32) = 16 by decide), if_neg (show ¬ (18 : Int32) = 17 by decide), if_pos (show (18 : Int32) = 18 from rfl), r1 W S lo, bO_s, r2 W S lo, bO_s, rc11 l11 a1, bO_s, g1, bP_s, r1 W1 S1 lo1, bO_s, r2 W1 S1 lo1, bO_s, rc11 l13 ad2, bO_s, g2, bP_s]
  unfold B_L_law_768
  rw [if_pos rfl]
theorem L_19 (hG : G.2.2.1 b = some (L, xs)) (hb : b < L0) (hL : L ≤ 4096) (hi : i + 8 ≤ L) (R : Rl G F W S z sl z0 s0 A1 A2 L0) : LwS G F W S z sl z0 s0 A1 A2 L0 b (Int32.ofNat i) 19 := by
  obtain ⟨l11, a1, lo⟩ := R.o
  have r1 : ∀ (W' : WR) (S' : ST), W'.lo = L0 → aI G (mem W' S') 0 b ((Int32.ofNat i) + (1 : Int32)) = some (xs (i + 1)) := fun W' S' e => scr hG hb hL e 1 (by omega)
  have r2 : ∀ (W' : WR) (S' : ST), W'.lo = L0 → aI G (mem W' S') 0 b ((Int32.ofNat i) + (2 : Int32)) = some (xs (i + 2)) := fun W' S' e => scr hG hb hL e 2 (by omega)
  obtain ⟨v, W1, S1, W2, S2, g1, ⟨l13, ad2, lo1⟩, g2, R2⟩ := B_unwrap R (xs (i + 1)) (xs (i + 2))
  refine ⟨W2, S2, z, sl, fun r18 => ?_, R2⟩
  unfold B_L_law_33
  rw [if_neg (show ¬ (19 : Int32) = 0 by decide), if_neg (show ¬ (19 : Int32) = 1 by decide), if_neg (show ¬ (19 : Int32) = 2 by decide), if_neg (show ¬ (19 : Int32) = 3 by decide), if_neg (show ¬ (19 : Int32) = 4 by decide), if_neg (show ¬ (19 : Int32) = 5 by decide), if_neg (show ¬ (19 : Int32) = 6 by decide), if_neg (show ¬ (19 : Int32) = 7 by decide), if_neg (show ¬ (19 : Int32) = 8 by decide), if_neg (show ¬ (19 : Int32) = 9 by decide), if_neg (show ¬ (19 : Int32) = 10 by decide), if_neg (show ¬ (19 : Int32) = 11 by decide), if_neg (show ¬ (19 : Int32) = 12 by decide), if_neg (show ¬ (19 : Int32) = 13 by decide), if_neg (show ¬ (19 : Int32) = 14 by decide), if_neg (show ¬ (19 : Int32) = 15 by decide), if_neg (show ¬ (19 : Int32) = 16 by decide), if_neg (show ¬ (19 : Int32) = 17 by decide), if_neg (show ¬ (19 : Int32) = 18 by decide), if_pos (show (19 : Int32) = 19 from rfl), r1 W S lo, bO_s, r2 W S lo, bO_s, rc11 l11 a1, bO_s, g1, bP_s, r1 W1 S1 lo1, bO_s, r2 W1 S1 lo1, bO_s, rc11 l13 ad2, bO_s, g2, bP_s]
  unfold B_L_law_801
  rw [if_pos rfl]
theorem L_20 (hG : G.2.2.1 b = some (L, xs)) (hb : b < L0) (hL : L ≤ 4096) (hi : i + 8 ≤ L) (R : Rl G F W S z sl z0 s0 A1 A2 L0) : LwS G F W S z sl z0 s0 A1 A2 L0 b (Int32.ofNat i) 20 := by
  obtain ⟨l11, a1, lo⟩ := R.o
  have r1 : ∀ (W' : WR) (S' : ST), W'.lo = L0 → aI G (mem W' S') 0 b ((Int32.ofNat i) + (1 : Int32)) = some (xs (i + 1)) := fun W' S' e => scr hG hb hL e 1 (by omega)
  have r2 : ∀ (W' : WR) (S' : ST), W'.lo = L0 → aI G (mem W' S') 0 b ((Int32.ofNat i) + (2 : Int32)) = some (xs (i + 2)) := fun W' S' e => scr hG hb hL e 2 (by omega)
  have r3 : ∀ (W' : WR) (S' : ST), W'.lo = L0 → aI G (mem W' S') 0 b ((Int32.ofNat i) + (3 : Int32)) = some (xs (i + 3)) := fun W' S' e => scr hG hb hL e 3 (by omega)
  have r4 : ∀ (W' : WR) (S' : ST), W'.lo = L0 → aI G (mem W' S') 0 b ((Int32.ofNat i) + (4 : Int32)) = some (xs (i + 4)) := fun W' S' e => scr hG hb hL e 4 (by omega)
  have r5 : ∀ (W' : WR) (S' : ST), W'.lo = L0 → aI G (mem W' S') 0 b ((Int32.ofNat i) + (5 : Int32)) = some (xs (i + 5)) := fun W' S' e => scr hG hb hL e 5 (by omega)
  obtain ⟨v, W1, S1, W2, S2, g1, ⟨l13, ad2, lo1⟩, g2, R2⟩ := B_seal R (xs (i + 1)) (xs (i + 2)) (xs (i + 3)) (xs (i + 4)) (xs (i + 5))
  refine ⟨W2, S2, z, sl, fun r18 => ?_, R2⟩
  unfold B_L_law_33
  rw [if_neg (show ¬ (20 : Int32) = 0 by decide), if_neg (show ¬ (20 : Int32) = 1 by decide), if_neg (show ¬ (20 : Int32) = 2 by decide), if_neg (show ¬ (20 : Int32) = 3 by decide), if_neg (show ¬ (20 : Int32) = 4 by decide), if_neg (show ¬ (20 : Int32) = 5 by decide), if_neg (show ¬ (20 : Int32) = 6 by decide), if_neg (show ¬ (20 : Int32) = 7 by decide), if_neg (show ¬ (20 : Int32) = 8 by decide), if_neg (show ¬ (20 : Int32) = 9 by decide), if_neg (show ¬ (20 : Int32) = 10 by decide), if_neg (show ¬ (20 : Int32) = 11 by decide), if_neg (show ¬ (20 : Int32) = 12 by decide), if_neg (show ¬ (20 : Int32) = 13 by decide), if_neg (show ¬ (20 : Int32) = 14 by decide), if_neg (show ¬ (20 : Int32) = 15 by decide), if_neg (show ¬ (20 : Int32) = 16 by decide), if_neg (show ¬ (20 : Int32) = 17 by decide), if_neg (show ¬ (20 : Int32) = 18 by decide), if_neg (show ¬ (20 : Int32) = 19 by decide), if_pos (show (20 : Int32) = 20 from rfl), r1 W S lo, bO_s, r2 W S lo, bO_s, r3 W S lo, bO_s, r4 W S lo, bO_s, r5 W S lo, bO_s, rc11 l11 a1, bO_s, g1, bP_s, r1 W1 S1 lo1, bO_s, r2 W1 S1 lo1, bO_s, r3 W1 S1 lo1, bO_s, r4 W1 S1 lo1, bO_s, r5 W1 S1 lo1, bO_s, rc11 l13 ad2, bO_s, g2, bP_s]
  unfold B_L_law_864
  rw [if_pos rfl]
theorem L_21 (hG : G.2.2.1 b = some (L, xs)) (hb : b < L0) (hL : L ≤ 4096) (hi : i + 8 ≤ L) (R : Rl G F W S z sl z0 s0 A1 A2 L0) : LwS G F W S z sl z0 s0 A1 A2 L0 b (Int32.ofNat i) 21 := by
  obtain ⟨l11, a1, lo⟩ := R.o
  have r1 : ∀ (W' : WR) (S' : ST), W'.lo = L0 → aI G (mem W' S') 0 b ((Int32.ofNat i) + (1 : Int32)) = some (xs (i + 1)) := fun W' S' e => scr hG hb hL e 1 (by omega)
  have r2 : ∀ (W' : WR) (S' : ST), W'.lo = L0 → aI G (mem W' S') 0 b ((Int32.ofNat i) + (2 : Int32)) = some (xs (i + 2)) := fun W' S' e => scr hG hb hL e 2 (by omega)
  have r3 : ∀ (W' : WR) (S' : ST), W'.lo = L0 → aI G (mem W' S') 0 b ((Int32.ofNat i) + (3 : Int32)) = some (xs (i + 3)) := fun W' S' e => scr hG hb hL e 3 (by omega)
  have r4 : ∀ (W' : WR) (S' : ST), W'.lo = L0 → aI G (mem W' S') 0 b ((Int32.ofNat i) + (4 : Int32)) = some (xs (i + 4)) := fun W' S' e => scr hG hb hL e 4 (by omega)
  have r5 : ∀ (W' : WR) (S' : ST), W'.lo = L0 → aI G (mem W' S') 0 b ((Int32.ofNat i) + (5 : Int32)) = some (xs (i + 5)) := fun W' S' e => scr hG hb hL e 5 (by omega)
  obtain ⟨v, W1, S1, W2, S2, g1, ⟨l13, ad2, lo1⟩, g2, R2⟩ := B_open R (xs (i + 1)) (xs (i + 2)) (xs (i + 3)) (xs (i + 4)) (xs (i + 5))
  refine ⟨W2, S2, z, sl, fun r18 => ?_, R2⟩
  unfold B_L_law_33
  rw [if_neg (show ¬ (21 : Int32) = 0 by decide), if_neg (show ¬ (21 : Int32) = 1 by decide), if_neg (show ¬ (21 : Int32) = 2 by decide), if_neg (show ¬ (21 : Int32) = 3 by decide), if_neg (show ¬ (21 : Int32) = 4 by decide), if_neg (show ¬ (21 : Int32) = 5 by decide), if_neg (show ¬ (21 : Int32) = 6 by decide), if_neg (show ¬ (21 : Int32) = 7 by decide), if_neg (show ¬ (21 : Int32) = 8 by decide), if_neg (show ¬ (21 : Int32) = 9 by decide), if_neg (show ¬ (21 : Int32) = 10 by decide), if_neg (show ¬ (21 : Int32) = 11 by decide), if_neg (show ¬ (21 : Int32) = 12 by decide), if_neg (show ¬ (21 : Int32) = 13 by decide), if_neg (show ¬ (21 : Int32) = 14 by decide), if_neg (show ¬ (21 : Int32) = 15 by decide), if_neg (show ¬ (21 : Int32) = 16 by decide), if_neg (show ¬ (21 : Int32) = 17 by decide), if_neg (show ¬ (21 : Int32) = 18 by decide), if_neg (show ¬ (21 : Int32) = 19 by decide), if_neg (show ¬ (21 : Int32) = 20 by decide), if_pos (show (21 : Int32) = 21 from rfl), r1 W S lo, bO_s, r2 W S lo, bO_s, r3 W S lo, bO_s, r4 W S lo, bO_s, r5 W S lo, bO_s, rc11 l11 a1, bO_s, g1, bP_s, r1 W1 S1 lo1, bO_s, r2 W1 S1 lo1, bO_s, r3 W1 S1 lo1, bO_s, r4 W1 S1 lo1, bO_s, r5 W1 S1 lo1, bO_s, rc11 l13 ad2, bO_s, g2, bP_s]
  unfold B_L_law_927
  rw [if_pos rfl]
theorem L_22 (hG : G.2.2.1 b = some (L, xs)) (hb : b < L0) (hL : L ≤ 4096) (hi : i + 8 ≤ L) (R : Rl G F W S z sl z0 s0 A1 A2 L0) : LwS G F W S z sl z0 s0 A1 A2 L0 b (Int32.ofNat i) 22 := by
  obtain ⟨l11, a1, lo⟩ := R.o
  have r1 : ∀ (W' : WR) (S' : ST), W'.lo = L0 → aI G (mem W' S') 0 b ((Int32.ofNat i) + (1 : Int32)) = some (xs (i + 1)) := fun W' S' e => scr hG hb hL e 1 (by omega)
  have r2 : ∀ (W' : WR) (S' : ST), W'.lo = L0 → aI G (mem W' S') 0 b ((Int32.ofNat i) + (2 : Int32)) = some (xs (i + 2)) := fun W' S' e => scr hG hb hL e 2 (by omega)
  have r3 : ∀ (W' : WR) (S' : ST), W'.lo = L0 → aI G (mem W' S') 0 b ((Int32.ofNat i) + (3 : Int32)) = some (xs (i + 3)) := fun W' S' e => scr hG hb hL e 3 (by omega)
  obtain ⟨v, W1, S1, W2, S2, g1, ⟨l13, ad2, lo1⟩, g2, R2⟩ := B_power R (xs (i + 1)) (xs (i + 2)) (xs (i + 3))
  refine ⟨W2, S2, z, sl, fun r18 => ?_, R2⟩
  unfold B_L_law_33
  rw [if_neg (show ¬ (22 : Int32) = 0 by decide), if_neg (show ¬ (22 : Int32) = 1 by decide), if_neg (show ¬ (22 : Int32) = 2 by decide), if_neg (show ¬ (22 : Int32) = 3 by decide), if_neg (show ¬ (22 : Int32) = 4 by decide), if_neg (show ¬ (22 : Int32) = 5 by decide), if_neg (show ¬ (22 : Int32) = 6 by decide), if_neg (show ¬ (22 : Int32) = 7 by decide), if_neg (show ¬ (22 : Int32) = 8 by decide), if_neg (show ¬ (22 : Int32) = 9 by decide), if_neg (show ¬ (22 : Int32) = 10 by decide), if_neg (show ¬ (22 : Int32) = 11 by decide), if_neg (show ¬ (22 : Int32) = 12 by decide), if_neg (show ¬ (22 : Int32) = 13 by decide), if_neg (show ¬ (22 : Int32) = 14 by decide), if_neg (show ¬ (22 : Int32) = 15 by decide), if_neg (show ¬ (22 : Int32) = 16 by decide), if_neg (show ¬ (22 : Int32) = 17 by decide), if_neg (show ¬ (22 : Int32) = 18 by decide), if_neg (show ¬ (22 : Int32) = 19 by decide), if_neg (show ¬ (22 : Int32) = 20 by decide), if_neg (show ¬ (22 : Int32) = 21 by decide), if_pos (show (22 : Int32) = 22 from rfl), r1 W S lo, bO_s, r2 W S lo, bO_s, r3 W S lo, bO_s, rc11 l11 a1, bO_s, g1, bP_s, r1 W1 S1 lo1, bO_s, r2 W1 S1 lo1, bO_s, r3 W1 S1 lo1, bO_s, rc11 l13 ad2, bO_s, g2, bP_s]
  unfold B_L_law_970
  rw [if_pos rfl]
theorem L_23 (hG : G.2.2.1 b = some (L, xs)) (hb : b < L0) (hL : L ≤ 4096) (hi : i + 8 ≤ L) (R : Rl G F W S z sl z0 s0 A1 A2 L0) : LwS G F W S z sl z0 s0 A1 A2 L0 b (Int32.ofNat i) 23 := by
  obtain ⟨l11, a1, lo⟩ := R.o
  have r1 : ∀ (W' : WR) (S' : ST), W'.lo = L0 → aI G (mem W' S') 0 b ((Int32.ofNat i) + (1 : Int32)) = some (xs (i + 1)) := fun W' S' e => scr hG hb hL e 1 (by omega)
  have r2 : ∀ (W' : WR) (S' : ST), W'.lo = L0 → aI G (mem W' S') 0 b ((Int32.ofNat i) + (2 : Int32)) = some (xs (i + 2)) := fun W' S' e => scr hG hb hL e 2 (by omega)
  obtain ⟨v, W1, S1, W2, S2, g1, ⟨l13, ad2, lo1⟩, g2, R2⟩ := B_multiply R (xs (i + 1)) (xs (i + 2))
  refine ⟨W2, S2, z, sl, fun r18 => ?_, R2⟩
  unfold B_L_law_33
  rw [if_neg (show ¬ (23 : Int32) = 0 by decide), if_neg (show ¬ (23 : Int32) = 1 by decide), if_neg (show ¬ (23 : Int32) = 2 by decide), if_neg (show ¬ (23 : Int32) = 3 by decide), if_neg (show ¬ (23 : Int32) = 4 by decide), if_neg (show ¬ (23 : Int32) = 5 by decide), if_neg (show ¬ (23 : Int32) = 6 by decide), if_neg (show ¬ (23 : Int32) = 7 by decide), if_neg (show ¬ (23 : Int32) = 8 by decide), if_neg (show ¬ (23 : Int32) = 9 by decide), if_neg (show ¬ (23 : Int32) = 10 by decide), if_neg (show ¬ (23 : Int32) = 11 by decide), if_neg (show ¬ (23 : Int32) = 12 by decide), if_neg (show ¬ (23 : Int32) = 13 by decide), if_neg (show ¬ (23 : Int32) = 14 by decide), if_neg (show ¬ (23 : Int32) = 15 by decide), if_neg (show ¬ (23 : Int32) = 16 by decide), if_neg (show ¬ (23 : Int32) = 17 by decide), if_neg (show ¬ (23 : Int32) = 18 by decide), if_neg (show ¬ (23 : Int32) = 19 by decide), if_neg (show ¬ (23 : Int32) = 20 by decide), if_neg (show ¬ (23 : Int32) = 21 by decide), if_neg (show ¬ (23 : Int32) = 22 by decide), if_pos (show (23 : Int32) = 23 from rfl), r1 W S lo, bO_s, r2 W S lo, bO_s, rc11 l11 a1, bO_s, g1, bP_s, r1 W1 S1 lo1, bO_s, r2 W1 S1 lo1, bO_s, rc11 l13 ad2, bO_s, g2, bP_s]
  unfold B_L_law_1003
  rw [if_pos rfl]
theorem L_24 (hG : G.2.2.1 b = some (L, xs)) (hb : b < L0) (hL : L ≤ 4096) (hi : i + 8 ≤ L) (R : Rl G F W S z sl z0 s0 A1 A2 L0) : LwS G F W S z sl z0 s0 A1 A2 L0 b (Int32.ofNat i) 24 := by
  obtain ⟨l11, a1, lo⟩ := R.o
  have r1 : ∀ (W' : WR) (S' : ST), W'.lo = L0 → aI G (mem W' S') 0 b ((Int32.ofNat i) + (1 : Int32)) = some (xs (i + 1)) := fun W' S' e => scr hG hb hL e 1 (by omega)
  have r2 : ∀ (W' : WR) (S' : ST), W'.lo = L0 → aI G (mem W' S') 0 b ((Int32.ofNat i) + (2 : Int32)) = some (xs (i + 2)) := fun W' S' e => scr hG hb hL e 2 (by omega)
  have r3 : ∀ (W' : WR) (S' : ST), W'.lo = L0 → aI G (mem W' S') 0 b ((Int32.ofNat i) + (3 : Int32)) = some (xs (i + 3)) := fun W' S' e => scr hG hb hL e 3 (by omega)
  have r4 : ∀ (W' : WR) (S' : ST), W'.lo = L0 → aI G (mem W' S') 0 b ((Int32.ofNat i) + (4 : Int32)) = some (xs (i + 4)) := fun W' S' e => scr hG hb hL e 4 (by omega)
  have r5 : ∀ (W' : WR) (S' : ST), W'.lo = L0 → aI G (mem W' S') 0 b ((Int32.ofNat i) + (5 : Int32)) = some (xs (i + 5)) := fun W' S' e => scr hG hb hL e 5 (by omega)
  obtain ⟨v, W1, S1, W2, S2, g1, ⟨l13, ad2, lo1⟩, g2, R2⟩ := B_derive R (xs (i + 1)) (xs (i + 2)) (xs (i + 3)) (xs (i + 4)) (xs (i + 5))
  refine ⟨W2, S2, z, sl, fun r18 => ?_, R2⟩
  unfold B_L_law_33
  rw [if_neg (show ¬ (24 : Int32) = 0 by decide), if_neg (show ¬ (24 : Int32) = 1 by decide), if_neg (show ¬ (24 : Int32) = 2 by decide), if_neg (show ¬ (24 : Int32) = 3 by decide), if_neg (show ¬ (24 : Int32) = 4 by decide), if_neg (show ¬ (24 : Int32) = 5 by decide), if_neg (show ¬ (24 : Int32) = 6 by decide), if_neg (show ¬ (24 : Int32) = 7 by decide), if_neg (show ¬ (24 : Int32) = 8 by decide), if_neg (show ¬ (24 : Int32) = 9 by decide), if_neg (show ¬ (24 : Int32) = 10 by decide), if_neg (show ¬ (24 : Int32) = 11 by decide), if_neg (show ¬ (24 : Int32) = 12 by decide), if_neg (show ¬ (24 : Int32) = 13 by decide), if_neg (show ¬ (24 : Int32) = 14 by decide), if_neg (show ¬ (24 : Int32) = 15 by decide), if_neg (show ¬ (24 : Int32) = 16 by decide), if_neg (show ¬ (24 : Int32) = 17 by decide), if_neg (show ¬ (24 : Int32) = 18 by decide), if_neg (show ¬ (24 : Int32) = 19 by decide), if_neg (show ¬ (24 : Int32) = 20 by decide), if_neg (show ¬ (24 : Int32) = 21 by decide), if_neg (show ¬ (24 : Int32) = 22 by decide), if_neg (show ¬ (24 : Int32) = 23 by decide), if_pos (show (24 : Int32) = 24 from rfl), r1 W S lo, bO_s, r2 W S lo, bO_s, r3 W S lo, bO_s, r4 W S lo, bO_s, r5 W S lo, bO_s, rc11 l11 a1, bO_s, g1, bP_s, r1 W1 S1 lo1, bO_s, r2 W1 S1 lo1, bO_s, r3 W1 S1 lo1, bO_s, r4 W1 S1 lo1, bO_s, r5 W1 S1 lo1, bO_s, rc11 l13 ad2, bO_s, g2, bP_s]
  unfold B_L_law_1066
  rw [if_pos rfl]
theorem L_25 (hG : G.2.2.1 b = some (L, xs)) (hb : b < L0) (hL : L ≤ 4096) (hi : i + 8 ≤ L) (R : Rl G F W S z sl z0 s0 A1 A2 L0) : LwS G F W S z sl z0 s0 A1 A2 L0 b (Int32.ofNat i) 25 := by
  obtain ⟨l11, a1, lo⟩ := R.o
  have r1 : ∀ (W' : WR) (S' : ST), W'.lo = L0 → aI G (mem W' S') 0 b ((Int32.ofNat i) + (1 : Int32)) = some (xs (i + 1)) := fun W' S' e => scr hG hb hL e 1 (by omega)
  obtain ⟨v, W1, S1, z1, sl1, W2, S2, g1, ⟨l13, ad2, lo1⟩, g2, R2⟩ := B_key R (xs (i + 1))
  refine ⟨W2, S2, z1, sl1, fun r18 => ?_, R2⟩
  unfold B_L_law_33
  rw [if_neg (show ¬ (25 : Int32) = 0 by decide), if_neg (show ¬ (25 : Int32) = 1 by decide), if_neg (show ¬ (25 : Int32) = 2 by decide), if_neg (show ¬ (25 : Int32) = 3 by decide), if_neg (show ¬ (25 : Int32) = 4 by decide), if_neg (show ¬ (25 : Int32) = 5 by decide), if_neg (show ¬ (25 : Int32) = 6 by decide), if_neg (show ¬ (25 : Int32) = 7 by decide), if_neg (show ¬ (25 : Int32) = 8 by decide), if_neg (show ¬ (25 : Int32) = 9 by decide), if_neg (show ¬ (25 : Int32) = 10 by decide), if_neg (show ¬ (25 : Int32) = 11 by decide), if_neg (show ¬ (25 : Int32) = 12 by decide), if_neg (show ¬ (25 : Int32) = 13 by decide), if_neg (show ¬ (25 : Int32) = 14 by decide), if_neg (show ¬ (25 : Int32) = 15 by decide), if_neg (show ¬ (25 : Int32) = 16 by decide), if_neg (show ¬ (25 : Int32) = 17 by decide), if_neg (show ¬ (25 : Int32) = 18 by decide), if_neg (show ¬ (25 : Int32) = 19 by decide), if_neg (show ¬ (25 : Int32) = 20 by decide), if_neg (show ¬ (25 : Int32) = 21 by decide), if_neg (show ¬ (25 : Int32) = 22 by decide), if_neg (show ¬ (25 : Int32) = 23 by decide), if_neg (show ¬ (25 : Int32) = 24 by decide), if_pos (show (25 : Int32) = 25 from rfl), r1 W S lo, bO_s, rc11 l11 a1, bO_s, g1, bAP_s, r1 W1 S1 lo1, bO_s, rc11 l13 ad2, bO_s, g2, bP_s]
  unfold B_L_law_1089
  rw [if_pos rfl]
theorem L_26 (hG : G.2.2.1 b = some (L, xs)) (hb : b < L0) (hL : L ≤ 4096) (hi : i + 8 ≤ L) (R : Rl G F W S z sl z0 s0 A1 A2 L0) : LwS G F W S z sl z0 s0 A1 A2 L0 b (Int32.ofNat i) 26 := by
  obtain ⟨l11, a1, lo⟩ := R.o
  have r1 : ∀ (W' : WR) (S' : ST), W'.lo = L0 → aI G (mem W' S') 0 b ((Int32.ofNat i) + (1 : Int32)) = some (xs (i + 1)) := fun W' S' e => scr hG hb hL e 1 (by omega)
  obtain ⟨v, W1, S1, W2, S2, g1, ⟨l13, ad2, lo1⟩, g2, R2⟩ := B_drop R (xs (i + 1))
  refine ⟨W2, S2, z, sl, fun r18 => ?_, R2⟩
  unfold B_L_law_33
  rw [if_neg (show ¬ (26 : Int32) = 0 by decide), if_neg (show ¬ (26 : Int32) = 1 by decide), if_neg (show ¬ (26 : Int32) = 2 by decide), if_neg (show ¬ (26 : Int32) = 3 by decide), if_neg (show ¬ (26 : Int32) = 4 by decide), if_neg (show ¬ (26 : Int32) = 5 by decide), if_neg (show ¬ (26 : Int32) = 6 by decide), if_neg (show ¬ (26 : Int32) = 7 by decide), if_neg (show ¬ (26 : Int32) = 8 by decide), if_neg (show ¬ (26 : Int32) = 9 by decide), if_neg (show ¬ (26 : Int32) = 10 by decide), if_neg (show ¬ (26 : Int32) = 11 by decide), if_neg (show ¬ (26 : Int32) = 12 by decide), if_neg (show ¬ (26 : Int32) = 13 by decide), if_neg (show ¬ (26 : Int32) = 14 by decide), if_neg (show ¬ (26 : Int32) = 15 by decide), if_neg (show ¬ (26 : Int32) = 16 by decide), if_neg (show ¬ (26 : Int32) = 17 by decide), if_neg (show ¬ (26 : Int32) = 18 by decide), if_neg (show ¬ (26 : Int32) = 19 by decide), if_neg (show ¬ (26 : Int32) = 20 by decide), if_neg (show ¬ (26 : Int32) = 21 by decide), if_neg (show ¬ (26 : Int32) = 22 by decide), if_neg (show ¬ (26 : Int32) = 23 by decide), if_neg (show ¬ (26 : Int32) = 24 by decide), if_neg (show ¬ (26 : Int32) = 25 by decide), if_pos (show (26 : Int32) = 26 from rfl), r1 W S lo, bO_s, rc11 l11 a1, bO_s, g1, bP_s, r1 W1 S1 lo1, bO_s, rc11 l13 ad2, bO_s, g2, bP_s]
  unfold B_L_law_1112
  rw [if_pos rfl]
theorem L_27 (hG : G.2.2.1 b = some (L, xs)) (hb : b < L0) (hL : L ≤ 4096) (hi : i + 8 ≤ L) (R : Rl G F W S z sl z0 s0 A1 A2 L0) : LwS G F W S z sl z0 s0 A1 A2 L0 b (Int32.ofNat i) 27 := by
  obtain ⟨l11, a1, lo⟩ := R.o
  have r1 : ∀ (W' : WR) (S' : ST), W'.lo = L0 → aI G (mem W' S') 0 b ((Int32.ofNat i) + (1 : Int32)) = some (xs (i + 1)) := fun W' S' e => scr hG hb hL e 1 (by omega)
  have r2 : ∀ (W' : WR) (S' : ST), W'.lo = L0 → aI G (mem W' S') 0 b ((Int32.ofNat i) + (2 : Int32)) = some (xs (i + 2)) := fun W' S' e => scr hG hb hL e 2 (by omega)
  obtain ⟨v, W1, S1, W2, S2, g1, ⟨l13, ad2, lo1⟩, g2, R2⟩ := B_told R (xs (i + 1)) (xs (i + 2))
  refine ⟨W2, S2, z, sl, fun r18 => ?_, R2⟩
  unfold B_L_law_33
  rw [if_neg (show ¬ (27 : Int32) = 0 by decide), if_neg (show ¬ (27 : Int32) = 1 by decide), if_neg (show ¬ (27 : Int32) = 2 by decide), if_neg (show ¬ (27 : Int32) = 3 by decide), if_neg (show ¬ (27 : Int32) = 4 by decide), if_neg (show ¬ (27 : Int32) = 5 by decide), if_neg (show ¬ (27 : Int32) = 6 by decide), if_neg (show ¬ (27 : Int32) = 7 by decide), if_neg (show ¬ (27 : Int32) = 8 by decide), if_neg (show ¬ (27 : Int32) = 9 by decide), if_neg (show ¬ (27 : Int32) = 10 by decide), if_neg (show ¬ (27 : Int32) = 11 by decide), if_neg (show ¬ (27 : Int32) = 12 by decide), if_neg (show ¬ (27 : Int32) = 13 by decide), if_neg (show ¬ (27 : Int32) = 14 by decide), if_neg (show ¬ (27 : Int32) = 15 by decide), if_neg (show ¬ (27 : Int32) = 16 by decide), if_neg (show ¬ (27 : Int32) = 17 by decide), if_neg (show ¬ (27 : Int32) = 18 by decide), if_neg (show ¬ (27 : Int32) = 19 by decide), if_neg (show ¬ (27 : Int32) = 20 by decide), if_neg (show ¬ (27 : Int32) = 21 by decide), if_neg (show ¬ (27 : Int32) = 22 by decide), if_neg (show ¬ (27 : Int32) = 23 by decide), if_neg (show ¬ (27 : Int32) = 24 by decide), if_neg (show ¬ (27 : Int32) = 25 by decide), if_neg (show ¬ (27 : Int32) = 26 by decide), if_pos (show (27 : Int32) = 27 from rfl), r1 W S lo, bO_s, r2 W S lo, bO_s, rc11 l11 a1, bO_s, g1, bP_s, r1 W1 S1 lo1, bO_s, r2 W1 S1 lo1, bO_s, rc11 l13 ad2, bO_s, g2, bP_s]
  unfold B_L_law_1145
  rw [if_pos rfl]
theorem L_28 (hG : G.2.2.1 b = some (L, xs)) (hb : b < L0) (hL : L ≤ 4096) (hi : i + 8 ≤ L) (R : Rl G F W S z sl z0 s0 A1 A2 L0) : LwS G F W S z sl z0 s0 A1 A2 L0 b (Int32.ofNat i) 28 := by
  obtain ⟨l11, a1, lo⟩ := R.o
  have r1 : ∀ (W' : WR) (S' : ST), W'.lo = L0 → aI G (mem W' S') 0 b ((Int32.ofNat i) + (1 : Int32)) = some (xs (i + 1)) := fun W' S' e => scr hG hb hL e 1 (by omega)
  obtain ⟨v, W1, S1, W2, S2, g1, ⟨l13, ad2, lo1⟩, g2, R2⟩ := B_print R (xs (i + 1))
  refine ⟨W2, S2, z, sl, fun r18 => ?_, R2⟩
  unfold B_L_law_33
  rw [if_neg (show ¬ (28 : Int32) = 0 by decide), if_neg (show ¬ (28 : Int32) = 1 by decide), if_neg (show ¬ (28 : Int32) = 2 by decide), if_neg (show ¬ (28 : Int32) = 3 by decide), if_neg (show ¬ (28 : Int32) = 4 by decide), if_neg (show ¬ (28 : Int32) = 5 by decide), if_neg (show ¬ (28 : Int32) = 6 by decide), if_neg (show ¬ (28 : Int32) = 7 by decide), if_neg (show ¬ (28 : Int32) = 8 by decide), if_neg (show ¬ (28 : Int32) = 9 by decide), if_neg (show ¬ (28 : Int32) = 10 by decide), if_neg (show ¬ (28 : Int32) = 11 by decide), if_neg (show ¬ (28 : Int32) = 12 by decide), if_neg (show ¬ (28 : Int32) = 13 by decide), if_neg (show ¬ (28 : Int32) = 14 by decide), if_neg (show ¬ (28 : Int32) = 15 by decide), if_neg (show ¬ (28 : Int32) = 16 by decide), if_neg (show ¬ (28 : Int32) = 17 by decide), if_neg (show ¬ (28 : Int32) = 18 by decide), if_neg (show ¬ (28 : Int32) = 19 by decide), if_neg (show ¬ (28 : Int32) = 20 by decide), if_neg (show ¬ (28 : Int32) = 21 by decide), if_neg (show ¬ (28 : Int32) = 22 by decide), if_neg (show ¬ (28 : Int32) = 23 by decide), if_neg (show ¬ (28 : Int32) = 24 by decide), if_neg (show ¬ (28 : Int32) = 25 by decide), if_neg (show ¬ (28 : Int32) = 26 by decide), if_neg (show ¬ (28 : Int32) = 27 by decide), if_pos (show (28 : Int32) = 28 from rfl), r1 W S lo, bO_s, rc11 l11 a1, bO_s, g1, bP_s, r1 W1 S1 lo1, bO_s, rc11 l13 ad2, bO_s, g2, bP_s]
  unfold B_L_law_1168
  rw [if_pos rfl]
theorem L_29 (hG : G.2.2.1 b = some (L, xs)) (hb : b < L0) (hL : L ≤ 4096) (hi : i + 8 ≤ L) (R : Rl G F W S z sl z0 s0 A1 A2 L0) : LwS G F W S z sl z0 s0 A1 A2 L0 b (Int32.ofNat i) 29 := by
  obtain ⟨l11, a1, lo⟩ := R.o
  have r1 : ∀ (W' : WR) (S' : ST), W'.lo = L0 → aI G (mem W' S') 0 b ((Int32.ofNat i) + (1 : Int32)) = some (xs (i + 1)) := fun W' S' e => scr hG hb hL e 1 (by omega)
  have r2 : ∀ (W' : WR) (S' : ST), W'.lo = L0 → aI G (mem W' S') 0 b ((Int32.ofNat i) + (2 : Int32)) = some (xs (i + 2)) := fun W' S' e => scr hG hb hL e 2 (by omega)
  have r3 : ∀ (W' : WR) (S' : ST), W'.lo = L0 → aI G (mem W' S') 0 b ((Int32.ofNat i) + (3 : Int32)) = some (xs (i + 3)) := fun W' S' e => scr hG hb hL e 3 (by omega)
  have r4 : ∀ (W' : WR) (S' : ST), W'.lo = L0 → aI G (mem W' S') 0 b ((Int32.ofNat i) + (4 : Int32)) = some (xs (i + 4)) := fun W' S' e => scr hG hb hL e 4 (by omega)
  have r5 : ∀ (W' : WR) (S' : ST), W'.lo = L0 → aI G (mem W' S') 0 b ((Int32.ofNat i) + (5 : Int32)) = some (xs (i + 5)) := fun W' S' e => scr hG hb hL e 5 (by omega)
  obtain ⟨v, W1, S1, W2, S2, g1, ⟨l13, ad2, lo1⟩, g2, R2⟩ := B_sign R (xs (i + 1)) (xs (i + 2)) (xs (i + 3)) (xs (i + 4)) (xs (i + 5))
  refine ⟨W2, S2, z, sl, fun r18 => ?_, R2⟩
  unfold B_L_law_33
  rw [if_neg (show ¬ (29 : Int32) = 0 by decide), if_neg (show ¬ (29 : Int32) = 1 by decide), if_neg (show ¬ (29 : Int32) = 2 by decide), if_neg (show ¬ (29 : Int32) = 3 by decide), if_neg (show ¬ (29 : Int32) = 4 by decide), if_neg (show ¬ (29 : Int32) = 5 by decide), if_neg (show ¬ (29 : Int32) = 6 by decide), if_neg (show ¬ (29 : Int32) = 7 by decide), if_neg (show ¬ (29 : Int32) = 8 by decide), if_neg (show ¬ (29 : Int32) = 9 by decide), if_neg (show ¬ (29 : Int32) = 10 by decide), if_neg (show ¬ (29 : Int32) = 11 by decide), if_neg (show ¬ (29 : Int32) = 12 by decide), if_neg (show ¬ (29 : Int32) = 13 by decide), if_neg (show ¬ (29 : Int32) = 14 by decide), if_neg (show ¬ (29 : Int32) = 15 by decide), if_neg (show ¬ (29 : Int32) = 16 by decide), if_neg (show ¬ (29 : Int32) = 17 by decide), if_neg (show ¬ (29 : Int32) = 18 by decide), if_neg (show ¬ (29 : Int32) = 19 by decide), if_neg (show ¬ (29 : Int32) = 20 by decide), if_neg (show ¬ (29 : Int32) = 21 by decide), if_neg (show ¬ (29 : Int32) = 22 by decide), if_neg (show ¬ (29 : Int32) = 23 by decide), if_neg (show ¬ (29 : Int32) = 24 by decide), if_neg (show ¬ (29 : Int32) = 25 by decide), if_neg (show ¬ (29 : Int32) = 26 by decide), if_neg (show ¬ (29 : Int32) = 27 by decide), if_neg (show ¬ (29 : Int32) = 28 by decide), if_pos (show (29 : Int32) = 29 from rfl), r1 W S lo, bO_s, r2 W S lo, bO_s, r3 W S lo, bO_s, r4 W S lo, bO_s, r5 W S lo, bO_s, rc11 l11 a1, bO_s, g1, bP_s, r1 W1 S1 lo1, bO_s, r2 W1 S1 lo1, bO_s, r3 W1 S1 lo1, bO_s, r4 W1 S1 lo1, bO_s, r5 W1 S1 lo1, bO_s, rc11 l13 ad2, bO_s, g2, bP_s]
  unfold B_L_law_1231
  rw [if_pos rfl]
theorem L_30 (hG : G.2.2.1 b = some (L, xs)) (hb : b < L0) (hL : L ≤ 4096) (hi : i + 8 ≤ L) (R : Rl G F W S z sl z0 s0 A1 A2 L0) : LwS G F W S z sl z0 s0 A1 A2 L0 b (Int32.ofNat i) 30 := by
  obtain ⟨l11, a1, lo⟩ := R.o
  have r1 : ∀ (W' : WR) (S' : ST), W'.lo = L0 → aI G (mem W' S') 0 b ((Int32.ofNat i) + (1 : Int32)) = some (xs (i + 1)) := fun W' S' e => scr hG hb hL e 1 (by omega)
  obtain ⟨v, W1, S1, W2, S2, g1, ⟨l13, ad2, lo1⟩, g2, R2⟩ := B_verify R (xs (i + 1))
  refine ⟨W2, S2, z, sl, fun r18 => ?_, R2⟩
  unfold B_L_law_33
  rw [if_neg (show ¬ (30 : Int32) = 0 by decide), if_neg (show ¬ (30 : Int32) = 1 by decide), if_neg (show ¬ (30 : Int32) = 2 by decide), if_neg (show ¬ (30 : Int32) = 3 by decide), if_neg (show ¬ (30 : Int32) = 4 by decide), if_neg (show ¬ (30 : Int32) = 5 by decide), if_neg (show ¬ (30 : Int32) = 6 by decide), if_neg (show ¬ (30 : Int32) = 7 by decide), if_neg (show ¬ (30 : Int32) = 8 by decide), if_neg (show ¬ (30 : Int32) = 9 by decide), if_neg (show ¬ (30 : Int32) = 10 by decide), if_neg (show ¬ (30 : Int32) = 11 by decide), if_neg (show ¬ (30 : Int32) = 12 by decide), if_neg (show ¬ (30 : Int32) = 13 by decide), if_neg (show ¬ (30 : Int32) = 14 by decide), if_neg (show ¬ (30 : Int32) = 15 by decide), if_neg (show ¬ (30 : Int32) = 16 by decide), if_neg (show ¬ (30 : Int32) = 17 by decide), if_neg (show ¬ (30 : Int32) = 18 by decide), if_neg (show ¬ (30 : Int32) = 19 by decide), if_neg (show ¬ (30 : Int32) = 20 by decide), if_neg (show ¬ (30 : Int32) = 21 by decide), if_neg (show ¬ (30 : Int32) = 22 by decide), if_neg (show ¬ (30 : Int32) = 23 by decide), if_neg (show ¬ (30 : Int32) = 24 by decide), if_neg (show ¬ (30 : Int32) = 25 by decide), if_neg (show ¬ (30 : Int32) = 26 by decide), if_neg (show ¬ (30 : Int32) = 27 by decide), if_neg (show ¬ (30 : Int32) = 28 by decide), if_neg (show ¬ (30 : Int32) = 29 by decide), if_pos (show (30 : Int32) = 30 from rfl), r1 W S lo, bO_s, rc11 l11 a1, bO_s, g1, bP_s, r1 W1 S1 lo1, bO_s, rc11 l13 ad2, bO_s, g2, bP_s]
  unfold B_L_law_1254
  rw [if_pos rfl]
theorem L_31 (hG : G.2.2.1 b = some (L, xs)) (hb : b < L0) (hL : L ≤ 4096) (hi : i + 8 ≤ L) (R : Rl G F W S z sl z0 s0 A1 A2 L0) : LwS G F W S z sl z0 s0 A1 A2 L0 b (Int32.ofNat i) 31 := by
  obtain ⟨l11, a1, lo⟩ := R.o
  have r1 : ∀ (W' : WR) (S' : ST), W'.lo = L0 → aI G (mem W' S') 0 b ((Int32.ofNat i) + (1 : Int32)) = some (xs (i + 1)) := fun W' S' e => scr hG hb hL e 1 (by omega)
  have r2 : ∀ (W' : WR) (S' : ST), W'.lo = L0 → aI G (mem W' S') 0 b ((Int32.ofNat i) + (2 : Int32)) = some (xs (i + 2)) := fun W' S' e => scr hG hb hL e 2 (by omega)
  have r3 : ∀ (W' : WR) (S' : ST), W'.lo = L0 → aI G (mem W' S') 0 b ((Int32.ofNat i) + (3 : Int32)) = some (xs (i + 3)) := fun W' S' e => scr hG hb hL e 3 (by omega)
  have r4 : ∀ (W' : WR) (S' : ST), W'.lo = L0 → aI G (mem W' S') 0 b ((Int32.ofNat i) + (4 : Int32)) = some (xs (i + 4)) := fun W' S' e => scr hG hb hL e 4 (by omega)
  have r5 : ∀ (W' : WR) (S' : ST), W'.lo = L0 → aI G (mem W' S') 0 b ((Int32.ofNat i) + (5 : Int32)) = some (xs (i + 5)) := fun W' S' e => scr hG hb hL e 5 (by omega)
  have r6 : ∀ (W' : WR) (S' : ST), W'.lo = L0 → aI G (mem W' S') 0 b ((Int32.ofNat i) + (6 : Int32)) = some (xs (i + 6)) := fun W' S' e => scr hG hb hL e 6 (by omega)
  have r7 : ∀ (W' : WR) (S' : ST), W'.lo = L0 → aI G (mem W' S') 0 b ((Int32.ofNat i) + (7 : Int32)) = some (xs (i + 7)) := fun W' S' e => scr hG hb hL e 7 (by omega)
  obtain ⟨v, W1, S1, W2, S2, g1, ⟨l13, ad2, lo1⟩, g2, R2⟩ := B_encrypt R (xs (i + 1)) (xs (i + 2)) (xs (i + 3)) (xs (i + 4)) (xs (i + 5)) (xs (i + 6)) (xs (i + 7))
  refine ⟨W2, S2, z, sl, fun r18 => ?_, R2⟩
  unfold B_L_law_33
  rw [if_neg (show ¬ (31 : Int32) = 0 by decide), if_neg (show ¬ (31 : Int32) = 1 by decide), if_neg (show ¬ (31 : Int32) = 2 by decide), if_neg (show ¬ (31 : Int32) = 3 by decide), if_neg (show ¬ (31 : Int32) = 4 by decide), if_neg (show ¬ (31 : Int32) = 5 by decide), if_neg (show ¬ (31 : Int32) = 6 by decide), if_neg (show ¬ (31 : Int32) = 7 by decide), if_neg (show ¬ (31 : Int32) = 8 by decide), if_neg (show ¬ (31 : Int32) = 9 by decide), if_neg (show ¬ (31 : Int32) = 10 by decide), if_neg (show ¬ (31 : Int32) = 11 by decide), if_neg (show ¬ (31 : Int32) = 12 by decide), if_neg (show ¬ (31 : Int32) = 13 by decide), if_neg (show ¬ (31 : Int32) = 14 by decide), if_neg (show ¬ (31 : Int32) = 15 by decide), if_neg (show ¬ (31 : Int32) = 16 by decide), if_neg (show ¬ (31 : Int32) = 17 by decide), if_neg (show ¬ (31 : Int32) = 18 by decide), if_neg (show ¬ (31 : Int32) = 19 by decide), if_neg (show ¬ (31 : Int32) = 20 by decide), if_neg (show ¬ (31 : Int32) = 21 by decide), if_neg (show ¬ (31 : Int32) = 22 by decide), if_neg (show ¬ (31 : Int32) = 23 by decide), if_neg (show ¬ (31 : Int32) = 24 by decide), if_neg (show ¬ (31 : Int32) = 25 by decide), if_neg (show ¬ (31 : Int32) = 26 by decide), if_neg (show ¬ (31 : Int32) = 27 by decide), if_neg (show ¬ (31 : Int32) = 28 by decide), if_neg (show ¬ (31 : Int32) = 29 by decide), if_neg (show ¬ (31 : Int32) = 30 by decide), if_pos (show (31 : Int32) = 31 from rfl), r1 W S lo, bO_s, r2 W S lo, bO_s, r3 W S lo, bO_s, r4 W S lo, bO_s, r5 W S lo, bO_s, r6 W S lo, bO_s, r7 W S lo, bO_s, rc11 l11 a1, bO_s, g1, bP_s, r1 W1 S1 lo1, bO_s, r2 W1 S1 lo1, bO_s, r3 W1 S1 lo1, bO_s, r4 W1 S1 lo1, bO_s, r5 W1 S1 lo1, bO_s, r6 W1 S1 lo1, bO_s, r7 W1 S1 lo1, bO_s, rc11 l13 ad2, bO_s, g2, bP_s]
  unfold B_L_law_1341
  rw [if_pos rfl]
theorem L_32 (hG : G.2.2.1 b = some (L, xs)) (hb : b < L0) (hL : L ≤ 4096) (hi : i + 8 ≤ L) (R : Rl G F W S z sl z0 s0 A1 A2 L0) : LwS G F W S z sl z0 s0 A1 A2 L0 b (Int32.ofNat i) 32 := by
  obtain ⟨l11, a1, lo⟩ := R.o
  have r1 : ∀ (W' : WR) (S' : ST), W'.lo = L0 → aI G (mem W' S') 0 b ((Int32.ofNat i) + (1 : Int32)) = some (xs (i + 1)) := fun W' S' e => scr hG hb hL e 1 (by omega)
  obtain ⟨v, W1, S1, W2, S2, g1, ⟨l13, ad2, lo1⟩, g2, R2⟩ := B_decrypt R (xs (i + 1))
  refine ⟨W2, S2, z, sl, fun r18 => ?_, R2⟩
  unfold B_L_law_33
  rw [if_neg (show ¬ (32 : Int32) = 0 by decide), if_neg (show ¬ (32 : Int32) = 1 by decide), if_neg (show ¬ (32 : Int32) = 2 by decide), if_neg (show ¬ (32 : Int32) = 3 by decide), if_neg (show ¬ (32 : Int32) = 4 by decide), if_neg (show ¬ (32 : Int32) = 5 by decide), if_neg (show ¬ (32 : Int32) = 6 by decide), if_neg (show ¬ (32 : Int32) = 7 by decide), if_neg (show ¬ (32 : Int32) = 8 by decide), if_neg (show ¬ (32 : Int32) = 9 by decide), if_neg (show ¬ (32 : Int32) = 10 by decide), if_neg (show ¬ (32 : Int32) = 11 by decide), if_neg (show ¬ (32 : Int32) = 12 by decide), if_neg (show ¬ (32 : Int32) = 13 by decide), if_neg (show ¬ (32 : Int32) = 14 by decide), if_neg (show ¬ (32 : Int32) = 15 by decide), if_neg (show ¬ (32 : Int32) = 16 by decide), if_neg (show ¬ (32 : Int32) = 17 by decide), if_neg (show ¬ (32 : Int32) = 18 by decide), if_neg (show ¬ (32 : Int32) = 19 by decide), if_neg (show ¬ (32 : Int32) = 20 by decide), if_neg (show ¬ (32 : Int32) = 21 by decide), if_neg (show ¬ (32 : Int32) = 22 by decide), if_neg (show ¬ (32 : Int32) = 23 by decide), if_neg (show ¬ (32 : Int32) = 24 by decide), if_neg (show ¬ (32 : Int32) = 25 by decide), if_neg (show ¬ (32 : Int32) = 26 by decide), if_neg (show ¬ (32 : Int32) = 27 by decide), if_neg (show ¬ (32 : Int32) = 28 by decide), if_neg (show ¬ (32 : Int32) = 29 by decide), if_neg (show ¬ (32 : Int32) = 30 by decide), if_neg (show ¬ (32 : Int32) = 31 by decide), if_pos (show (32 : Int32) = 32 from rfl), r1 W S lo, bO_s, rc11 l11 a1, bO_s, g1, bP_s, r1 W1 S1 lo1, bO_s, rc11 l13 ad2, bO_s, g2, bP_s]
  unfold B_L_law_1364
  rw [if_pos rfl]
theorem L_any (hG : G.2.2.1 b = some (L, xs)) (hb : b < L0) (hL : L ≤ 4096) (hi : i + 8 ≤ L) (R : Rl G F W S z sl z0 s0 A1 A2 L0) (sk0 : Int32) : LwS G F W S z sl z0 s0 A1 A2 L0 b (Int32.ofNat i) sk0 := by
  by_cases c0 : sk0 = 0
  · rw [c0]
    exact L_0 hG hb hL hi R
  by_cases c1 : sk0 = 1
  · rw [c1]
    exact L_1 hG hb hL hi R
  by_cases c2 : sk0 = 2
  · rw [c2]
    exact L_2 hG hb hL hi R
  by_cases c3 : sk0 = 3
  · rw [c3]
    exact L_3 hG hb hL hi R
  by_cases c4 : sk0 = 4
  · rw [c4]
    exact L_4 hG hb hL hi R
  by_cases c5 : sk0 = 5
  · rw [c5]
    exact L_5 hG hb hL hi R
  by_cases c6 : sk0 = 6
  · rw [c6]
    exact L_6 hG hb hL hi R
  by_cases c7 : sk0 = 7
  · rw [c7]
    exact L_7 hG hb hL hi R
  by_cases c8 : sk0 = 8
  · rw [c8]
    exact L_8 hG hb hL hi R
  by_cases c9 : sk0 = 9
  · rw [c9]
    exact L_9 hG hb hL hi R
  by_cases c10 : sk0 = 10
  · rw [c10]
    exact L_10 hG hb hL hi R
  by_cases c11 : sk0 = 11
  · rw [c11]
    exact L_11 hG hb hL hi R
  by_cases c12 : sk0 = 12
  · rw [c12]
    exact L_12 hG hb hL hi R
  by_cases c13 : sk0 = 13
  · rw [c13]
    exact L_13 hG hb hL hi R
  by_cases c14 : sk0 = 14
  · rw [c14]
    exact L_14 hG hb hL hi R
  by_cases c15 : sk0 = 15
  · rw [c15]
    exact L_15 hG hb hL hi R
  by_cases c16 : sk0 = 16
  · rw [c16]
    exact L_16 hG hb hL hi R
  by_cases c17 : sk0 = 17
  · rw [c17]
    exact L_17 hG hb hL hi R
  by_cases c18 : sk0 = 18
  · rw [c18]
    exact L_18 hG hb hL hi R
  by_cases c19 : sk0 = 19
  · rw [c19]
    exact L_19 hG hb hL hi R
  by_cases c20 : sk0 = 20
  · rw [c20]
    exact L_20 hG hb hL hi R
  by_cases c21 : sk0 = 21
  · rw [c21]
    exact L_21 hG hb hL hi R
  by_cases c22 : sk0 = 22
  · rw [c22]
    exact L_22 hG hb hL hi R
  by_cases c23 : sk0 = 23
  · rw [c23]
    exact L_23 hG hb hL hi R
  by_cases c24 : sk0 = 24
  · rw [c24]
    exact L_24 hG hb hL hi R
  by_cases c25 : sk0 = 25
  · rw [c25]
    exact L_25 hG hb hL hi R
  by_cases c26 : sk0 = 26
  · rw [c26]
    exact L_26 hG hb hL hi R
  by_cases c27 : sk0 = 27
  · rw [c27]
    exact L_27 hG hb hL hi R
  by_cases c28 : sk0 = 28
  · rw [c28]
    exact L_28 hG hb hL hi R
  by_cases c29 : sk0 = 29
  · rw [c29]
    exact L_29 hG hb hL hi R
  by_cases c30 : sk0 = 30
  · rw [c30]
    exact L_30 hG hb hL hi R
  by_cases c31 : sk0 = 31
  · rw [c31]
    exact L_31 hG hb hL hi R
  by_cases c32 : sk0 = 32
  · rw [c32]
    exact L_32 hG hb hL hi R
  refine ⟨W, S, z, sl, fun r18 => ?_, R⟩
  unfold B_L_law_33
  rw [if_neg c0, if_neg c1, if_neg c2, if_neg c3, if_neg c4, if_neg c5, if_neg c6, if_neg c7, if_neg c8, if_neg c9, if_neg c10, if_neg c11, if_neg c12, if_neg c13, if_neg c14, if_neg c15, if_neg c16, if_neg c17, if_neg c18, if_neg c19, if_neg c20, if_neg c21, if_neg c22, if_neg c23, if_neg c24, if_neg c25, if_neg c26, if_neg c27, if_neg c28, if_neg c29, if_neg c30, if_neg c31, if_neg c32]
theorem L_end {L i : Nat} (hL : L ≤ 4096) (hi : i ≤ 4104) : ((Int32.ofNat L) - (8 : Int32) < (Int32.ofNat i)) = (L < i + 8) := by
  rcases Nat.lt_or_ge L 8 with h | h
  · have e : (Int32.ofNat L) - (8 : Int32) < 0 := (by decide : ∀ L, L < 8 → (Int32.ofNat L) - (8 : Int32) < 0) L h
    exact propext ⟨fun _ => by omega, fun _ => Int32.lt_of_lt_of_le e (Int32.not_lt.mp (nn (by omega)))⟩
  · rw [show (Int32.ofNat L) - (8 : Int32) = (Int32.ofNat (L - 8)) from n_sub (a := L) (b := 8) h]
    exact propext ((n_lt (by omega) (by omega)).trans ⟨fun q => by omega, fun q => by omega⟩)
theorem L_loop (hG : G.2.2.1 b = some (L, xs)) (hb : b < L0) (hL : L ≤ 4096) : ∀ (m i f : Nat) (W : WR) (S : ST) (z sl : Nat), m < f → L < i + 8 * (m + 1) → i ≤ 4104 → Rl G F W S z sl z0 s0 A1 A2 L0 → ∃ M Z T, B_L_law_18 G F f b A1 A2 (Int32.ofNat i) (mem W S) z sl = some (1, M, Z, T) ∧ Z ≤ z0 + 4352 ∧ T ≤ s0 + 285056 := by
  intro m
  induction m with
  | zero =>
    intro i f W S z sl hf hm hi R
    obtain ⟨f, rfl⟩ : ∃ q, f = q + 1 := ⟨f - 1, by omega⟩
    obtain ⟨l11, a1, lo⟩ := R.o
    have al : aln G (mem W S) b = some (Int32.ofNat L) := by
      unfold aln roN
      rw [mem_lo (by rw [lo]; exact hb), hG]
      rfl
    refine ⟨mem W S, z, sl, ?_, R.bd⟩
    rw [B_L_law_18, al, bO_s]
    unfold B_L_law_24
    rw [if_pos ((L_end hL hi).mpr (by omega))]
    rfl
  | succ m ih =>
    intro i f W S z sl hf hm hi R
    obtain ⟨f, rfl⟩ : ∃ q, f = q + 1 := ⟨f - 1, by omega⟩
    obtain ⟨l11, a1, lo⟩ := R.o
    have al : aln G (mem W S) b = some (Int32.ofNat L) := by
      unfold aln roN
      rw [mem_lo (by rw [lo]; exact hb), hG]
      rfl
    by_cases h : L < i + 8
    · refine ⟨mem W S, z, sl, ?_, R.bd⟩
      rw [B_L_law_18, al, bO_s]
      unfold B_L_law_24
      rw [if_pos ((L_end hL hi).mpr h)]
      rfl
    · have r0 : aI G (mem W S) 0 b (Int32.ofNat i) = some (xs i) := by
        have := scr (W' := W) (S' := S) (i := i) hG hb hL lo 0 (by omega)
        rw [n_add] at this
        exact this
      obtain ⟨W2, S2, z2, sl2, g, R2⟩ := L_any hG hb hL (show i + 8 ≤ L by omega) R (xs i &&& 63)
      obtain ⟨M, Z, T, g2, q⟩ := ih (i + 8) f W2 S2 z2 sl2 (by omega) (by omega) (by omega) R2
      refine ⟨M, Z, T, ?_, q⟩
      rw [B_L_law_18, al, bO_s]
      unfold B_L_law_24
      rw [if_neg (fun q => h ((L_end hL hi).mp q)), r0, bO_s, g, show (Int32.ofNat i) + (8 : Int32) = (Int32.ofNat (i + 8)) from n_add i 8]
      exact g2
end LAW
