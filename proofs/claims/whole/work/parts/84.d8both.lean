/-! BOTH SIDES: each call answers alike -/
def Rl (G : mG) (F : Nat) (W : WR) (S : ST) (z sl z0 s0 A1 A2 L0 : Nat) : Prop := ∃ τ rows t h bk J A, CI W S z sl z0 s0 τ rows t h J A ∧ MI W S τ rows t bk J A ∧ JOk J ∧ Cx G F W ∧ W.ad (.o 11 0) = A1 ∧ W.ad (.o 13 0) = A2 ∧ W.lo = L0
def BOTH (G : mG) (F : Nat) (p q : mM → Option (Int32 × mM)) (W : WR) (S : ST) (z sl z0 s0 A1 A2 L0 : Nat) : Prop := ∃ v W1 S1 W2 S2, p (mem W S) = some (v, mem W1 S1) ∧ (W1.live (.o 13 0) = true ∧ W1.ad (.o 13 0) = A2 ∧ W1.lo = L0) ∧ q (mem W1 S1) = some (v, mem W2 S2) ∧ Rl G F W2 S2 z sl z0 s0 A1 A2 L0
section BTH
variable {W : WR} {G : mG} {F : Nat} {S : ST} {z sl z0 s0 h bk A1 A2 L0 : Nat} {τ t τ' t' : List UInt8} {rows rows' : Nat → List UInt8} {J J' : JT} {A A' : Nat → Option KY}
theorem aft {W1 W2 : WR} {S1 S2 : ST} {bk' h' z' sl' : Nat} (c : CI W1 S1 z' sl' z0 s0 τ' rows' t' h' J' A') (m : MI W2 S2 τ' rows' t' bk' J' A') (hW : W2 = W1 ∨ ∃ k, W2 = W1.sr 13 0 19 (.a 13 0 k) ∧ 0 < mLen k) (f : fr [(12, 0), (12, 1), (12, 2), (13, 0)] S1 S2) (j : JOk J') (X : Cx G F W1) (a1 : W1.ad (.o 11 0) = A1) (a2 : W1.ad (.o 13 0) = A2) (lo : W1.lo = L0) (m1 : isM W1) : Rl G F W2 S2 z' sl' z0 s0 A1 A2 L0 := by
  have c2 := c.m f
  rcases hW with e | ⟨k, e, hk⟩
  · subst e
    exact ⟨τ', rows', t', h', bk', J', A', c2, m, j, X, a1, a2, lo⟩
  · subst e
    exact ⟨τ', rows', t', h', bk', J', A', c2.w (m1.la k hk), m, j, X, a1, a2, lo⟩
theorem join {p q : Nat → mM → Option (Int32 × mM)} {v : Int32} (c : CI W S z sl z0 s0 τ rows t h J A) (m : MI W S τ rows t bk J A) (X : Cx G F W) (a1 : W.ad (.o 11 0) = A1) (a2 : W.ad (.o 13 0) = A2) (lo : W.lo = L0) (j : JOk J') (cs : CSt (p (W.ad (.o 11 0))) v W S z sl z0 s0 τ' rows' t' J' A') (ms : ∀ W1 S1, Cx G F W1 → MI W1 S1 τ rows t bk J A → MSt (q (W1.ad (.o 13 0))) v W1 S1 τ' rows' t' J' A') : BOTH G F (p A1) (q A2) W S z sl z0 s0 A1 A2 L0 := by
  obtain ⟨W1, S1, h', g1, c1, y, e12, e13⟩ := cs
  have m1 := m.c y e12 e13
  have X1 := y.cx X
  have l13 := m.1.1
  have l11 := c.isa.1.lo
  have b2 : W1.ad (.o 13 0) = A2 := (y.1 _ l13).2.1.trans a2
  have b1 : W1.ad (.o 11 0) = A1 := (y.1 _ l11).2.1.trans a1
  obtain ⟨W2, S2, bk', g2, m2, hW, f⟩ := ms W1 S1 X1 m1
  rw [a1] at g1
  rw [b2] at g2
  exact ⟨v, W1, S1, W2, S2, g1, ⟨m1.1.1, b2, y.2.2.2.trans lo⟩, g2, aft c1 m2 hW f j X1 b1 b2 (y.2.2.2.trans lo) m1.1⟩
/-- a call that both refuse, or that changes nothing -/
theorem join0 {p q : Nat → mM → Option (Int32 × mM)} {v : Int32} (c : CI W S z sl z0 s0 τ rows t h J A) (m : MI W S τ rows t bk J A) (j : JOk J) (X : Cx G F W) (a1 : W.ad (.o 11 0) = A1) (a2 : W.ad (.o 13 0) = A2) (lo : W.lo = L0) (g1 : p (W.ad (.o 11 0)) (mem W S) = some (v, mem W S)) (g2 : q (W.ad (.o 13 0)) (mem W S) = some (v, mem W S)) : BOTH G F (p A1) (q A2) W S z sl z0 s0 A1 A2 L0 := by
  rw [a1] at g1
  rw [a2] at g2
  exact ⟨v, W, S, W, S, g1, ⟨m.1.1, a2, lo⟩, g2, τ, rows, t, h, bk, J, A, c, m, j, X, a1, a2, lo⟩
theorem B_feed (R : Rl G F W S z sl z0 s0 A1 A2 L0) (a b d e g : Int32) : BOTH G F (P_X11_feed G F A1 a b d e g) (P_X13_feed G F A2 a b d e g) W S z sl z0 s0 A1 A2 L0 := by
  obtain ⟨τ, rows, t, h, bk, J, A, c, m, j, X, a1, a2, lo⟩ := R
  exact join (p := fun x => P_X11_feed G F x a b d e g) (q := fun x => P_X13_feed G F x a b d e g) c m X a1 a2 lo j (C_feed c a b d e g) (fun W1 S1 X1 m1 => M_feed X1 m1 a b d e g)
theorem B_end (R : Rl G F W S z sl z0 s0 A1 A2 L0) (n : Int32) : BOTH G F (P_X11_end G F A1 n) (P_X13_end G F A2 n) W S z sl z0 s0 A1 A2 L0 := by
  obtain ⟨τ, rows, t, h, bk, J, A, c, m, j, X, a1, a2, lo⟩ := R
  exact join (p := fun x => P_X11_end G F x n) (q := fun x => P_X13_end G F x n) c m X a1 a2 lo j (C_end c n) (fun W1 S1 X1 m1 => M_end m1 n)
theorem B_row (R : Rl G F W S z sl z0 s0 A1 A2 L0) (x : Int32) : BOTH G F (P_X11_row G F A1 x) (P_X13_row G F A2 x) W S z sl z0 s0 A1 A2 L0 := by
  obtain ⟨τ, rows, t, h, bk, J, A, c, m, j, X, a1, a2, lo⟩ := R
  rcases isr_cases x with hx | ⟨r, hr, rfl, _⟩
  · exact join0 (p := fun y => P_X11_row G F y x) (q := fun y => P_X13_row G F y x) c m j X a1 a2 lo (Q11_noRow hx _ _ (rcv_m c.isa.1.lo)).1 (QM_noRow hx _ _).1
  · exact join (p := fun x => P_X11_row G F x (Int32.ofNat r)) (q := fun x => P_X13_row G F x (Int32.ofNat r)) c m X a1 a2 lo j (C_row c hr) (fun W1 S1 X1 m1 => M_row X1 m1 hr)
theorem B_keep (R : Rl G F W S z sl z0 s0 A1 A2 L0) (x : Int32) : BOTH G F (P_X11_keep G F A1 x) (P_X13_keep G F A2 x) W S z sl z0 s0 A1 A2 L0 := by
  obtain ⟨τ, rows, t, h, bk, J, A, c, m, j, X, a1, a2, lo⟩ := R
  rcases isr_cases x with hx | ⟨r, hr, rfl, _⟩
  · exact join0 (p := fun y => P_X11_keep G F y x) (q := fun y => P_X13_keep G F y x) c m j X a1 a2 lo (Q11_noRow hx _ _ (rcv_m c.isa.1.lo)).2 (QM_noRow hx _ _).2
  · exact join (p := fun x => P_X11_keep G F x (Int32.ofNat r)) (q := fun x => P_X13_keep G F x (Int32.ofNat r)) c m X a1 a2 lo j (C_keep c hr) (fun W1 S1 X1 m1 => M_keep X1 m1 hr)
theorem B_poke (R : Rl G F W S z sl z0 s0 A1 A2 L0) (x i v : Int32) : BOTH G F (P_X11_poke G F A1 x i v) (P_X13_poke G F A2 x i v) W S z sl z0 s0 A1 A2 L0 := by
  obtain ⟨τ, rows, t, h, bk, J, A, c, m, j, X, a1, a2, lo⟩ := R
  by_cases ok : ∃ r, r < 8 ∧ x = (Int32.ofNat r) ∧ (0 ≤ v ∧ v ≤ 255 ∧ 0 ≤ i ∧ i < (Int32.ofNat (rows r).length))
  · obtain ⟨r, hr, rfl, v1, v2, i1, i2⟩ := ok
    rcases i_cases i with hi | ⟨n, hn, rfl⟩
    · exact absurd hi (Int32.not_lt.mpr i1)
    rcases i_cases v with hv | ⟨y, hy, rfl⟩
    · exact absurd hv (Int32.not_lt.mpr v1)
    obtain ⟨_, br⟩ := c.2.2.2.2.1 r hr
    have lr := br.le
    have y2 : y < 256 := by have := (n_le (b := 255) hy (by decide)).mp v2; omega
    have n2 : n < (rows r).length := (n_lt hn (by omega)).mp i2
    exact join (p := fun x => P_X11_poke G F x (Int32.ofNat r) (Int32.ofNat n) (Int32.ofNat y)) (q := fun x => P_X13_poke G F x (Int32.ofNat r) (Int32.ofNat n) (Int32.ofNat y)) c m X a1 a2 lo j (C_poke c hr n2 y2) (fun W1 S1 X1 m1 => M_poke m1 hr n2 y2)
  · refine join0 (p := fun y => P_X11_poke G F y x i v) (q := fun y => P_X13_poke G F y x i v) c m j X a1 a2 lo (Q11_poke_bad c.isa.1 (fun r hr e => ?_)) (QM_poke_bad m.1 m.2.2.2.2.2.2.2.1 (fun r hr e q => ok ⟨r, hr, e, q⟩))
    obtain ⟨l, br⟩ := c.2.2.2.2.1 r hr
    exact ⟨_, l, br, fun q => ok ⟨r, hr, e, q⟩⟩
theorem B_size (R : Rl G F W S z sl z0 s0 A1 A2 L0) (x : Int32) : BOTH G F (P_X11_size G F A1 x) (P_X13_size G F A2 x) W S z sl z0 s0 A1 A2 L0 := by
  obtain ⟨τ, rows, t, h, bk, J, A, c, m, j, X, a1, a2, lo⟩ := R
  obtain ⟨l, bt⟩ := c.2.2.2.2.2.1
  exact join0 (p := fun y => P_X11_size G F y x) (q := fun y => P_X13_size G F y x) c m j X a1 a2 lo (Q11_size c.isa.1 bt c.2.2.2.2.1) (QM_size m.1 m.2.2.2.2.2.2.2.2.1 m.2.2.2.2.2.2.2.1)
theorem B_out (R : Rl G F W S z sl z0 s0 A1 A2 L0) (x : Int32) : BOTH G F (P_X11_out G F A1 x) (P_X13_out G F A2 x) W S z sl z0 s0 A1 A2 L0 := by
  obtain ⟨τ, rows, t, h, bk, J, A, c, m, j, X, a1, a2, lo⟩ := R
  obtain ⟨l, bt⟩ := c.2.2.2.2.2.1
  exact join0 (p := fun y => P_X11_out G F y x) (q := fun y => P_X13_out G F y x) c m j X a1 a2 lo (Q11_out c.isa.1 bt) (QM_out m.1 m.2.2.2.2.2.2.2.2.1)
theorem rd_Ok {s : List UInt8} (hs : s.length ≤ 8192) {J : JT} (e : rdT s = .inr J) (Y : JX J) : JOk J := ⟨Y, rd_Z e, rd_R e⟩
theorem B_json (R : Rl G F W S z sl z0 s0 A1 A2 L0) (x : Int32) : BOTH G F (P_X11_json G F A1 x) (P_X13_json G F A2 x) W S z sl z0 s0 A1 A2 L0 := by
  obtain ⟨τ, rows, t, h, bk, J, A, c, m, j, X, a1, a2, lo⟩ := R
  rcases isr_cases x with hx | ⟨r, hr, rfl, _⟩
  · exact join0 (p := fun y => P_X11_json G F y x) (q := fun y => P_X13_json G F y x) c m j X a1 a2 lo (json_bad _ _ (rcv_m c.isa.1.lo) hx) (mjson_bad _ _ hx)
  · have cj := C_json (G := G) (F := F) X c hr
    have mj := fun W1 S1 (X1 : Cx G F W1) (m1 : MI W1 S1 τ rows t bk J A) => M_json (G := G) (F := F) X1 m1 j.1 hr
    cases e : rdT (rows r) with
    | inl q =>
      rw [e] at cj
      refine join (p := fun x => P_X11_json G F x (Int32.ofNat r)) (q := fun x => P_X13_json G F x (Int32.ofNat r)) c m X a1 a2 lo j cj (fun W1 S1 X1 m1 => ?_)
      have := mj W1 S1 X1 m1
      rw [e] at this
      exact this
    | inr J' =>
      rw [e] at cj
      obtain ⟨l, br⟩ := c.2.2.2.2.1 r hr
      have Y' : JX J' := by
        unfold rdT at e
        have w0 : JW (rows r) (skb (rows r) 0) (0, (fun _ _ => 0), []) := ⟨Nat.zero_le _, skb_len (Nat.zero_le _), Nat.zero_le _, fun i hi => absurd hi (Nat.not_lt_zero _)⟩
        cases hv : rv (rows r) 45 (skb (rows r) 0) (0, (fun _ _ => 0), []) 0 0 0 0 with
        | inl y =>
          rw [hv] at e
          exact absurd e (by simp [sB])
        | inr y =>
          rw [hv] at e
          obtain ⟨k1, k2, k3, k4⟩ := rv_ok w0 (Nat.le_refl _) (Nat.le_refl _) hv
          have e : (if skb (rows r) y.1 < (rows r).length then Sum.inl (skb (rows r) y.1) else Sum.inr y.2 : Nat ⊕ JT) = .inr J' := e
          split at e
          · exact absurd e (by simp)
          · rw [← Sum.inr.inj e]
            exact k2.x br.le
      refine join (p := fun x => P_X11_json G F x (Int32.ofNat r)) (q := fun x => P_X13_json G F x (Int32.ofNat r)) c m X a1 a2 lo (rd_Ok br.le e Y') cj (fun W1 S1 X1 m1 => ?_)
      have := mj W1 S1 X1 m1
      rw [e] at this
      exact this
theorem B_value (R : Rl G F W S z sl z0 s0 A1 A2 L0) (x w : Int32) : BOTH G F (P_X11_value G F A1 x w) (P_X13_value G F A2 x w) W S z sl z0 s0 A1 A2 L0 := by
  obtain ⟨τ, rows, t, h, bk, J, A, c, m, j, X, a1, a2, lo⟩ := R
  exact join0 (p := fun y => P_X11_value G F y x w) (q := fun y => P_X13_value G F y x w) c m j X a1 a2 lo (Q11_value c.isa.1 c.h7 c.tx c.2.2.1.1 j.1) (QM_value m.1 m.2.2.2.2.2.2.2.2.2 j.1 j.2.1)
theorem B_text (R : Rl G F W S z sl z0 s0 A1 A2 L0) (x : Int32) : BOTH G F (P_X11_text G F A1 x) (P_X13_text G F A2 x) W S z sl z0 s0 A1 A2 L0 := by
  obtain ⟨τ, rows, t, h, bk, J, A, c, m, j, X, a1, a2, lo⟩ := R
  exact join (p := fun y => P_X11_text G F y x) (q := fun y => P_X13_text G F y x) c m X a1 a2 lo j (C_text c j.1 x) (fun W1 S1 X1 m1 => M_text X1 m1 j.1 x)
theorem B_name (R : Rl G F W S z sl z0 s0 A1 A2 L0) (x : Int32) : BOTH G F (P_X11_name G F A1 x) (P_X13_name G F A2 x) W S z sl z0 s0 A1 A2 L0 := by
  obtain ⟨τ, rows, t, h, bk, J, A, c, m, j, X, a1, a2, lo⟩ := R
  exact join (p := fun y => P_X11_name G F y x) (q := fun y => P_X13_name G F y x) c m X a1 a2 lo j (C_name c j.1 x) (fun W1 S1 X1 m1 => M_name X1 m1 j.1 x)
theorem B_member (R : Rl G F W S z sl z0 s0 A1 A2 L0) (x w : Int32) : BOTH G F (P_X11_member G F A1 x w) (P_X13_member G F A2 x w) W S z sl z0 s0 A1 A2 L0 := by
  obtain ⟨τ, rows, t, h, bk, J, A, c, m, j, X, a1, a2, lo⟩ := R
  obtain ⟨tb, lp, bp⟩ := c.2.2.1
  exact join0 (p := fun y => P_X11_member G F y x w) (q := fun y => P_X13_member G F y x w) c m j X a1 a2 lo (Q11_member X c.isa.1 c.h7 c.tx tb j.1 bp c.2.2.2.2.1) (QM_member X m.1 m.2.2.2.2.2.2.2.2.2 j.1 m.2.2.2.2.2.2.2.1)
theorem B_write (R : Rl G F W S z sl z0 s0 A1 A2 L0) (x : Int32) : BOTH G F (P_X11_write G F A1 x) (P_X13_write G F A2 x) W S z sl z0 s0 A1 A2 L0 := by
  obtain ⟨τ, rows, t, h, bk, J, A, c, m, j, X, a1, a2, lo⟩ := R
  cases e : ix J x with
  | none => exact join0 (p := fun y => P_X11_write G F y x) (q := fun y => P_X13_write G F y x) c m j X a1 a2 lo (Q11_write_bad c.isa.1 c.h7 c.tx c.2.2.1.1 j.1 e) (QM_write_bad m.1 m.2.2.2.2.2.2.2.2.2 j.1 e)
  | some v =>
    obtain ⟨hv, rfl⟩ := ix_some e
    obtain ⟨L, hL⟩ := j.2.2.wr hv
    exact join (p := fun y => P_X11_write G F y (Int32.ofNat v)) (q := fun y => P_X13_write G F y (Int32.ofNat v)) c m X a1 a2 lo j (C_write X c j.1 hv hL) (fun W1 S1 X1 m1 => M_write X1 m1 j.1 hv hL)
theorem B_encode (R : Rl G F W S z sl z0 s0 A1 A2 L0) (x : Int32) : BOTH G F (P_X11_encode G F A1 x) (P_X13_encode G F A2 x) W S z sl z0 s0 A1 A2 L0 := by
  obtain ⟨τ, rows, t, h, bk, J, A, c, m, j, X, a1, a2, lo⟩ := R
  rcases isr_cases x with hx | ⟨r, hr, rfl, _⟩
  · exact join0 (p := fun y => P_X11_encode G F y x) (q := fun y => P_X13_encode G F y x) c m j X a1 a2 lo (Q11_noRow2 hx _ _ (rcv_m c.isa.1.lo)).1 (QM_noRow2 hx _ _).1
  · exact join (p := fun x => P_X11_encode G F x (Int32.ofNat r)) (q := fun x => P_X13_encode G F x (Int32.ofNat r)) c m X a1 a2 lo j (C_encode X c hr) (fun W1 S1 X1 m1 => M_encode X1 m1 hr)
theorem B_decode (R : Rl G F W S z sl z0 s0 A1 A2 L0) (x : Int32) : BOTH G F (P_X11_decode G F A1 x) (P_X13_decode G F A2 x) W S z sl z0 s0 A1 A2 L0 := by
  obtain ⟨τ, rows, t, h, bk, J, A, c, m, j, X, a1, a2, lo⟩ := R
  rcases isr_cases x with hx | ⟨r, hr, rfl, _⟩
  · exact join0 (p := fun y => P_X11_decode G F y x) (q := fun y => P_X13_decode G F y x) c m j X a1 a2 lo (Q11_noRow2 hx _ _ (rcv_m c.isa.1.lo)).2 (QM_noRow2 hx _ _).2
  · exact join (p := fun x => P_X11_decode G F x (Int32.ofNat r)) (q := fun x => P_X13_decode G F x (Int32.ofNat r)) c m X a1 a2 lo j (C_decode X c hr) (fun W1 S1 X1 m1 => M_decode X1 m1 hr)
theorem bits_c (b : Int32) : ¬ (b = 256 ∨ b = 512) ∨ ∃ w : Bool, b = if w then 512 else 256 := by
  by_cases h1 : b = 256
  · exact Or.inr ⟨false, h1⟩
  · by_cases h2 : b = 512
    · exact Or.inr ⟨true, h2⟩
    · exact Or.inl (fun q => q.elim h1 h2)
theorem B_hash (R : Rl G F W S z sl z0 s0 A1 A2 L0) (b x : Int32) : BOTH G F (P_X11_hash G F A1 b x) (P_X13_hash G F A2 b x) W S z sl z0 s0 A1 A2 L0 := by
  obtain ⟨τ, rows, t, h, bk, J, A, c, m, j, X, a1, a2, lo⟩ := R
  have bad : ¬ (b = 256 ∨ b = 512) ∨ isr x = false → BOTH G F (P_X11_hash G F A1 b x) (P_X13_hash G F A2 b x) W S z sl z0 s0 A1 A2 L0 := fun hx => join0 (p := fun y => P_X11_hash G F y b x) (q := fun y => P_X13_hash G F y b x) c m j X a1 a2 lo (hash_bad _ _ (rcv_m c.isa.1.lo) hx) (mhash_bad _ _ hx)
  rcases bits_c b with hb | ⟨w, rfl⟩
  · exact bad (Or.inl hb)
  rcases isr_cases x with hx | ⟨r, hr, rfl, _⟩
  · exact bad (Or.inr hx)
  · exact join (p := fun x => P_X11_hash G F x (if w then 512 else 256) (Int32.ofNat r)) (q := fun x => P_X13_hash G F x (if w then 512 else 256) (Int32.ofNat r)) c m X a1 a2 lo j (C_hash X c hr) (fun W1 S1 X1 m1 => M_hash X1 m1 hr)
theorem B_code (R : Rl G F W S z sl z0 s0 A1 A2 L0) (b x y : Int32) : BOTH G F (P_X11_code G F A1 b x y) (P_X13_code G F A2 b x y) W S z sl z0 s0 A1 A2 L0 := by
  obtain ⟨τ, rows, t, h, bk, J, A, c, m, j, X, a1, a2, lo⟩ := R
  have bad : ¬ (b = 256 ∨ b = 512) ∨ isr x = false ∨ isr y = false → BOTH G F (P_X11_code G F A1 b x y) (P_X13_code G F A2 b x y) W S z sl z0 s0 A1 A2 L0 := fun hx => join0 (p := fun u => P_X11_code G F u b x y) (q := fun u => P_X13_code G F u b x y) c m j X a1 a2 lo (code_bad _ _ (rcv_m c.isa.1.lo) hx) (mcode_bad _ _ hx)
  rcases bits_c b with hb | ⟨w, rfl⟩
  · exact bad (Or.inl hb)
  rcases isr_cases x with hx | ⟨rk, hrk, rfl, _⟩
  · exact bad (Or.inr (Or.inl hx))
  rcases isr_cases y with hy | ⟨r, hr, rfl, _⟩
  · exact bad (Or.inr (Or.inr hy))
  · exact join (p := fun x => P_X11_code G F x (if w then 512 else 256) (Int32.ofNat rk) (Int32.ofNat r)) (q := fun x => P_X13_code G F x (if w then 512 else 256) (Int32.ofNat rk) (Int32.ofNat r)) c m X a1 a2 lo j (C_code X c hr hrk) (fun W1 S1 X1 m1 => M_code X1 m1 hr hrk)
theorem B_block (R : Rl G F W S z sl z0 s0 A1 A2 L0) (x y : Int32) (back : Bool) : BOTH G F (P_X11_block G F A1 x y (if back then 1 else 0)) (P_X13_block G F A2 x y (if back then 1 else 0)) W S z sl z0 s0 A1 A2 L0 := by
  obtain ⟨τ, rows, t, h, bk, J, A, c, m, j, X, a1, a2, lo⟩ := R
  exact join (p := fun u => P_X11_block G F u x y (if back then 1 else 0)) (q := fun u => P_X13_block G F u x y (if back then 1 else 0)) c m X a1 a2 lo j (C_block rfl X c) (fun W1 S1 X1 m1 => M_block rfl X1 m1)
theorem B_wrap (R : Rl G F W S z sl z0 s0 A1 A2 L0) (x y : Int32) : BOTH G F (P_X11_wrap G F A1 x y) (P_X13_wrap G F A2 x y) W S z sl z0 s0 A1 A2 L0 := by
  obtain ⟨τ, rows, t, h, bk, J, A, c, m, j, X, a1, a2, lo⟩ := R
  exact join (p := fun u => P_X11_wrap G F u x y) (q := fun u => P_X13_wrap G F u x y) c m X a1 a2 lo j (C_wrap X c) (fun W1 S1 X1 m1 => M_wrap X1 m1)
theorem B_unwrap (R : Rl G F W S z sl z0 s0 A1 A2 L0) (x y : Int32) : BOTH G F (P_X11_unwrap G F A1 x y) (P_X13_unwrap G F A2 x y) W S z sl z0 s0 A1 A2 L0 := by
  obtain ⟨τ, rows, t, h, bk, J, A, c, m, j, X, a1, a2, lo⟩ := R
  exact join (p := fun u => P_X11_unwrap G F u x y) (q := fun u => P_X13_unwrap G F u x y) c m X a1 a2 lo j (C_unwrap X c) (fun W1 S1 X1 m1 => M_unwrap X1 m1)
theorem B_seal (R : Rl G F W S z sl z0 s0 A1 A2 L0) (w k b a r : Int32) : BOTH G F (P_X11_seal G F A1 w k b a r) (P_X13_seal G F A2 w k b a r) W S z sl z0 s0 A1 A2 L0 := by
  obtain ⟨τ, rows, t, h, bk, J, A, c, m, j, X, a1, a2, lo⟩ := R
  exact join (p := fun u => P_X11_seal G F u w k b a r) (q := fun u => P_X13_seal G F u w k b a r) c m X a1 a2 lo j (C_seal X c) (fun W1 S1 X1 m1 => M_seal X1 m1)
theorem B_open (R : Rl G F W S z sl z0 s0 A1 A2 L0) (w k b a r : Int32) : BOTH G F (P_X11_open G F A1 w k b a r) (P_X13_open G F A2 w k b a r) W S z sl z0 s0 A1 A2 L0 := by
  obtain ⟨τ, rows, t, h, bk, J, A, c, m, j, X, a1, a2, lo⟩ := R
  exact join (p := fun u => P_X11_open G F u w k b a r) (q := fun u => P_X13_open G F u w k b a r) c m X a1 a2 lo j (C_open X c) (fun W1 S1 X1 m1 => M_open X1 m1)
theorem B_power (R : Rl G F W S z sl z0 s0 A1 A2 L0) (x y w : Int32) : BOTH G F (P_X11_power G F A1 x y w) (P_X13_power G F A2 x y w) W S z sl z0 s0 A1 A2 L0 := by
  obtain ⟨τ, rows, t, h, bk, J, A, c, m, j, X, a1, a2, lo⟩ := R
  exact join (p := fun u => P_X11_power G F u x y w) (q := fun u => P_X13_power G F u x y w) c m X a1 a2 lo j (C_power X c) (fun W1 S1 X1 m1 => M_power X1 m1)
theorem B_multiply (R : Rl G F W S z sl z0 s0 A1 A2 L0) (x y : Int32) : BOTH G F (P_X11_multiply G F A1 x y) (P_X13_multiply G F A2 x y) W S z sl z0 s0 A1 A2 L0 := by
  obtain ⟨τ, rows, t, h, bk, J, A, c, m, j, X, a1, a2, lo⟩ := R
  exact join (p := fun u => P_X11_multiply G F u x y) (q := fun u => P_X13_multiply G F u x y) c m X a1 a2 lo j (C_multiply X c) (fun W1 S1 X1 m1 => M_multiply X1 m1)
theorem B_derive (R : Rl G F W S z sl z0 s0 A1 A2 L0) (a b d e n : Int32) : BOTH G F (P_X11_derive G F A1 a b d e n) (P_X13_derive G F A2 a b d e n) W S z sl z0 s0 A1 A2 L0 := by
  obtain ⟨τ, rows, t, h, bk, J, A, c, m, j, X, a1, a2, lo⟩ := R
  have bad : isr a = false ∨ isr b = false ∨ isr d = false ∨ isr e = false ∨ ¬ (n = 16 ∨ n = 32 ∨ n = 64) → BOTH G F (P_X11_derive G F A1 a b d e n) (P_X13_derive G F A2 a b d e n) W S z sl z0 s0 A1 A2 L0 := fun hx => join0 (p := fun u => P_X11_derive G F u a b d e n) (q := fun u => P_X13_derive G F u a b d e n) c m j X a1 a2 lo (derive_bad _ _ (rcv_m c.isa.1.lo) hx) (mderive_bad _ _ hx)
  rcases isr_cases a with hx | ⟨ra, h1, rfl, _⟩
  · exact bad (Or.inl hx)
  rcases isr_cases b with hx | ⟨rb, h2, rfl, _⟩
  · exact bad (Or.inr (Or.inl hx))
  rcases isr_cases d with hx | ⟨rc, h3, rfl, _⟩
  · exact bad (Or.inr (Or.inr (Or.inl hx)))
  rcases isr_cases e with hx | ⟨rd, h4, rfl, _⟩
  · exact bad (Or.inr (Or.inr (Or.inr (Or.inl hx))))
  by_cases hn : n = 16 ∨ n = 32 ∨ n = 64
  · obtain ⟨many, hm, rfl⟩ : ∃ many : Nat, (many = 16 ∨ many = 32 ∨ many = 64) ∧ n = (Int32.ofNat many) := by
      rcases hn with e | e | e
      · exact ⟨16, by omega, e⟩
      · exact ⟨32, by omega, e⟩
      · exact ⟨64, by omega, e⟩
    exact join (p := fun x => P_X11_derive G F x (Int32.ofNat ra) (Int32.ofNat rb) (Int32.ofNat rc) (Int32.ofNat rd) (Int32.ofNat many)) (q := fun x => P_X13_derive G F x (Int32.ofNat ra) (Int32.ofNat rb) (Int32.ofNat rc) (Int32.ofNat rd) (Int32.ofNat many)) c m X a1 a2 lo j (C_derive X c h1 h2 h3 h4 hm) (fun W1 S1 X1 m1 => M_derive X1 m1 h1 h2 h3 h4 hm)
  · exact bad (Or.inr (Or.inr (Or.inr (Or.inr hn))))
theorem B_drop (R : Rl G F W S z sl z0 s0 A1 A2 L0) (x : Int32) : BOTH G F (P_X11_drop G F A1 x) (P_X13_drop G F A2 x) W S z sl z0 s0 A1 A2 L0 := by
  obtain ⟨τ, rows, t, h, bk, J, A, c, m, j, X, a1, a2, lo⟩ := R
  exact join (p := fun u => P_X11_drop G F u x) (q := fun u => P_X13_drop G F u x) c m X a1 a2 lo j (C_drop c x) (fun W1 S1 X1 m1 => M_drop m1 x)
theorem B_told (R : Rl G F W S z sl z0 s0 A1 A2 L0) (x w : Int32) : BOTH G F (P_X11_told G F A1 x w) (P_X13_told G F A2 x w) W S z sl z0 s0 A1 A2 L0 := by
  obtain ⟨τ, rows, t, h, bk, J, A, c, m, j, X, a1, a2, lo⟩ := R
  obtain ⟨σ, κ, rk, K⟩ := c.2.2.2.2.2.2.2.2.2
  have g2 := oM_told (G := G) (F := F) (S := S) (o := S 13 0) m.1 m.2.2.2.2.2.1 x w
  rw [so_self] at g2
  exact join0 (p := fun u => P_X11_told G F u x w) (q := fun u => P_X13_told G F u x w) c m j X a1 a2 lo (Q11_told K c.isa.1.lo x w) g2
theorem B_print (R : Rl G F W S z sl z0 s0 A1 A2 L0) (x : Int32) : BOTH G F (P_X11_print G F A1 x) (P_X13_print G F A2 x) W S z sl z0 s0 A1 A2 L0 := by
  obtain ⟨τ, rows, t, h, bk, J, A, c, m, j, X, a1, a2, lo⟩ := R
  cases e : prtW A x with
  | none => exact join0 (p := fun u => P_X11_print G F u x) (q := fun u => P_X13_print G F u x) c m j X a1 a2 lo (C_print_bad X c e) (M_print_bad X m e)
  | some K => exact join (p := fun u => P_X11_print G F u x) (q := fun u => P_X13_print G F u x) c m X a1 a2 lo j (C_print X c e) (fun W1 S1 X1 m1 => M_print X1 m1 e)
theorem B_verify (R : Rl G F W S z sl z0 s0 A1 A2 L0) (x : Int32) : BOTH G F (P_X11_verify G F A1 x) (P_X13_verify G F A2 x) W S z sl z0 s0 A1 A2 L0 := by
  obtain ⟨τ, rows, t, h, bk, J, A, c, m, j, X, a1, a2, lo⟩ := R
  rcases isr_cases x with hx | ⟨r, hr, rfl, _⟩
  · exact join0 (p := fun y => P_X11_verify G F y x) (q := fun y => P_X13_verify G F y x) c m j X a1 a2 lo (Q11_verify_bad c.isa.1.lo hx) (QM_verify_bad _ _ hx)
  · exact join (p := fun x => P_X11_verify G F x (Int32.ofNat r)) (q := fun x => P_X13_verify G F x (Int32.ofNat r)) c m X a1 a2 lo j (C_verify X c hr) (fun W1 S1 X1 m1 => M_verify X1 m1 j.1 hr)
theorem B_decrypt (R : Rl G F W S z sl z0 s0 A1 A2 L0) (x : Int32) : BOTH G F (P_X11_decrypt G F A1 x) (P_X13_decrypt G F A2 x) W S z sl z0 s0 A1 A2 L0 := by
  obtain ⟨τ, rows, t, h, bk, J, A, c, m, j, X, a1, a2, lo⟩ := R
  rcases isr_cases x with hx | ⟨r, hr, rfl, _⟩
  · exact join0 (p := fun y => P_X11_decrypt G F y x) (q := fun y => P_X13_decrypt G F y x) c m j X a1 a2 lo (Q11_decrypt_bad c.isa.1.lo hx) (QM_decrypt_bad _ _ hx)
  · exact join (p := fun x => P_X11_decrypt G F x (Int32.ofNat r)) (q := fun x => P_X13_decrypt G F x (Int32.ofNat r)) c m X a1 a2 lo j (C_decrypt X c hr) (fun W1 S1 X1 m1 => M_decrypt X1 m1 j.1 hr)
end BTH
