/-! BOTH SIDES: sign, encrypt, key -/
section BTH2
variable {W : WR} {G : mG} {F : Nat} {S : ST} {z sl z0 s0 h bk A1 A2 L0 : Nat} {τ t : List UInt8} {rows : Nat → List UInt8} {J : JT} {A : Nat → Option KY}
theorem B_sign (R : Rl G F W S z sl z0 s0 A1 A2 L0) (k alg head pay rnd : Int32) : BOTH G F (P_X11_sign G F A1 k alg head pay rnd) (P_X13_sign G F A2 k alg head pay rnd) W S z sl z0 s0 A1 A2 L0 := by
  obtain ⟨τ, rows, t, h, bk, J, A, c, m, j, X, a1, a2, lo⟩ := R
  obtain ⟨σ, κ, rk, KK⟩ := c.2.2.2.2.2.2.2.2.2
  have bad : sgnBad A k alg head pay rnd = true → BOTH G F (P_X11_sign G F A1 k alg head pay rnd) (P_X13_sign G F A2 k alg head pay rnd) W S z sl z0 s0 A1 A2 L0 := fun hb => join0 (p := fun u => P_X11_sign G F u k alg head pay rnd) (q := fun u => P_X13_sign G F u k alg head pay rnd) c m j X a1 a2 lo (Q11_sign_bad c.isa.1.lo KK hb) (QM_sign_bad m.1 m.2.2.2.2.2.1 hb)
  have go : ∀ (kk a p : Nat) (hd : Option Nat) (K : KY) (q : Nat), kk < 16 → A kk = some K → a < 5 → (∀ n, hd = some n → n < 8) → p < 8 → (3 ≤ a → q < 8) → (3 ≤ a → rnd = (Int32.ofNat q)) → BOTH G F (P_X11_sign G F A1 (Int32.ofNat kk) (Int32.ofNat a) (oI hd) (Int32.ofNat p) rnd) (P_X13_sign G F A2 (Int32.ofNat kk) (Int32.ofNat a) (oI hd) (Int32.ofNat p) rnd) W S z sl z0 s0 A1 A2 L0 := fun kk a p hd K q hk e ha hh hp hq hy => join (p := fun u => P_X11_sign G F u (Int32.ofNat kk) (Int32.ofNat a) (oI hd) (Int32.ofNat p) rnd) (q := fun u => P_X13_sign G F u (Int32.ofNat kk) (Int32.ofNat a) (oI hd) (Int32.ofNat p) rnd) c m X a1 a2 lo j (C_sign X c hk e ha hh hp hq rnd hy) (fun W1 S1 X1 m1 => M_sign X1 m1 j.1 hk e ha hh hp hq rnd hy)
  rcases isk_cases A k with ⟨_, e⟩ | ⟨kk, hk, rfl, e⟩
  · exact bad (by unfold sgnBad; rw [e]; rfl)
  cases eA : A kk with
  | none => exact bad (by unfold sgnBad; rw [e, eA]; rfl)
  | some K =>
    rw [eA] at e
    have e : isk A (Int32.ofNat kk) = true := e
    rcases i_cases alg with hn | ⟨a, ha, rfl⟩
    · exact bad (by unfold sgnBad; rw [e, decide_eq_true hn]; rfl)
    by_cases a5 : a < 5
    · have ng : ¬ (Int32.ofNat a) < 0 := nn ha
      have n5 : ¬ (5 : Int32) ≤ (Int32.ofNat a) := fun q => absurd ((n_le (a := 5) (by decide) ha).mp q) (by omega)
      have pre : ∀ b : Bool, sgnBad A (Int32.ofNat kk) (Int32.ofNat a) head pay rnd = (!(decide (head = -1) || isr head) || (!isr pay || (decide ((Int32.ofNat a) = 3 ∨ (Int32.ofNat a) = 4) && !isr rnd))) := fun _ => by
        unfold sgnBad
        rw [e, decide_eq_false ng, decide_eq_false n5]
        rfl
      rcases isr_cases pay with hp | ⟨p, hp, rfl, ep⟩
      · exact bad (by rw [pre true, hp]; cases (decide (head = -1) || isr head) <;> rfl)
      have fin : ∀ hd : Option Nat, (∀ n, hd = some n → n < 8) → head = oI hd → (decide (head = -1) || isr head) = true → BOTH G F (P_X11_sign G F A1 (Int32.ofNat kk) (Int32.ofNat a) head (Int32.ofNat p) rnd) (P_X13_sign G F A2 (Int32.ofNat kk) (Int32.ofNat a) head (Int32.ofNat p) rnd) W S z sl z0 s0 A1 A2 L0 := by
        intro hd hh eh eb
        by_cases a3 : 3 ≤ a
        · have d3 : decide ((Int32.ofNat a) = 3 ∨ (Int32.ofNat a) = 4) = true := by
            rw [decide_eq_true_iff]
            have : a = 3 ∨ a = 4 := by omega
            rcases this with rfl | rfl
            · exact Or.inl rfl
            · exact Or.inr rfl
          rcases isr_cases rnd with hr | ⟨q, hq, hr, _⟩
          · exact bad (by rw [pre true, eb, ep, d3, hr]; rfl)
          · rw [eh]
            exact go kk a p hd K q hk eA a5 hh hp (fun _ => hq) (fun _ => hr)
        · rw [eh]
          exact go kk a p hd K 0 hk eA a5 hh hp (fun q => absurd q a3) (fun q => absurd q a3)
      by_cases h1 : head = -1
      · exact fin none (fun n q => absurd q (by simp)) h1 (by rw [decide_eq_true h1]; rfl)
      · rcases isr_cases head with hh | ⟨n, hn, eh, er⟩
        · exact bad (by rw [pre true, decide_eq_false h1, hh]; rfl)
        · exact fin (some n) (fun n' q => by rw [← Option.some.inj q]; exact hn) eh (by rw [er, Bool.or_true])
    · exact bad (by
        unfold sgnBad
        rw [e, decide_eq_true (show (5 : Int32) ≤ (Int32.ofNat a) from (n_le (a := 5) (by decide) ha).mpr (by omega))]
        cases decide ((Int32.ofNat a) < 0) <;> rfl)
theorem B_encrypt (R : Rl G F W S z sl z0 s0 A1 A2 L0) (k alg way pay rnd x6 x7 : Int32) : BOTH G F (P_X11_encrypt G F A1 k alg way pay rnd x6 x7) (P_X13_encrypt G F A2 k alg way pay rnd x6 x7) W S z sl z0 s0 A1 A2 L0 := by
  obtain ⟨τ, rows, t, h, bk, J, A, c, m, j, X, a1, a2, lo⟩ := R
  obtain ⟨σ, κ, rk, KK⟩ := c.2.2.2.2.2.2.2.2.2
  have bad : encBad A k alg way pay rnd x6 x7 = true → BOTH G F (P_X11_encrypt G F A1 k alg way pay rnd x6 x7) (P_X13_encrypt G F A2 k alg way pay rnd x6 x7) W S z sl z0 s0 A1 A2 L0 := fun hb => join0 (p := fun u => P_X11_encrypt G F u k alg way pay rnd x6 x7) (q := fun u => P_X13_encrypt G F u k alg way pay rnd x6 x7) c m j X a1 a2 lo (Q11_encrypt_bad c.isa.1.lo KK hb) (QM_encrypt_bad m.1 m.2.2.2.2.2.1 hb)
  rcases isk_cases A k with ⟨_, e⟩ | ⟨kk, hk, rfl, e⟩
  · exact bad (by unfold encBad; rw [e]; rfl)
  cases eA : A kk with
  | none => exact bad (by unfold encBad; rw [e, eA]; rfl)
  | some K =>
    rw [eA] at e
    have e : isk A (Int32.ofNat kk) = true := e
    rcases i_cases alg with hn | ⟨a, ha, rfl⟩
    · exact bad (by unfold encBad; rw [e, decide_eq_true hn]; rfl)
    have ng : ¬ (Int32.ofNat a) < 0 := nn ha
    by_cases a6 : a < 6
    · have n6 : ¬ (6 : Int32) ≤ (Int32.ofNat a) := fun q => absurd ((n_le (a := 6) (by decide) ha).mp q) (by omega)
      rcases i_cases way with hn | ⟨w, hw, rfl⟩
      · exact bad (by unfold encBad; rw [e, decide_eq_false ng, decide_eq_false n6, decide_eq_true hn]; rfl)
      have nw : ¬ (Int32.ofNat w) < 0 := nn hw
      by_cases w4 : w < 4
      · have n4 : ¬ (4 : Int32) ≤ (Int32.ofNat w) := fun q => absurd ((n_le (a := 4) (by decide) hw).mp q) (by omega)
        have pre : encBad A (Int32.ofNat kk) (Int32.ofNat a) (Int32.ofNat w) pay rnd x6 x7 = (!isr pay || (!isr rnd || (!decide ((Int32.ofNat a) < 4) && (!ron x6 || !ron x7)))) := by
          unfold encBad
          rw [e, decide_eq_false ng, decide_eq_false n6, decide_eq_false nw, decide_eq_false n4]
          rfl
        rcases isr_cases pay with hp | ⟨p, hp, rfl, ep⟩
        · exact bad (by rw [pre, hp]; rfl)
        rcases isr_cases rnd with hr | ⟨q, hq, rfl, er⟩
        · exact bad (by rw [pre, ep, hr]; rfl)
        have d4 : decide ((Int32.ofNat a) < (4 : Int32)) = decide (a < 4) := decide_eq_decide.mpr (n_lt (b := 4) ha (by decide))
        have go : (4 ≤ a → ron x6 = true) → (4 ≤ a → ron x7 = true) → BOTH G F (P_X11_encrypt G F A1 (Int32.ofNat kk) (Int32.ofNat a) (Int32.ofNat w) (Int32.ofNat p) (Int32.ofNat q) x6 x7) (P_X13_encrypt G F A2 (Int32.ofNat kk) (Int32.ofNat a) (Int32.ofNat w) (Int32.ofNat p) (Int32.ofNat q) x6 x7) W S z sl z0 s0 A1 A2 L0 := fun h6 h7 => join (p := fun u => P_X11_encrypt G F u (Int32.ofNat kk) (Int32.ofNat a) (Int32.ofNat w) (Int32.ofNat p) (Int32.ofNat q) x6 x7) (q := fun u => P_X13_encrypt G F u (Int32.ofNat kk) (Int32.ofNat a) (Int32.ofNat w) (Int32.ofNat p) (Int32.ofNat q) x6 x7) c m X a1 a2 lo j (C_encrypt X c hk eA a6 w4 hp hq h6 h7) (fun W1 S1 X1 m1 => M_encrypt X1 m1 j.1 hk eA a6 w4 hp hq h6 h7)
        by_cases a4 : a < 4
        · exact go (fun q => absurd q (by omega)) (fun q => absurd q (by omega))
        · have f4 : decide ((Int32.ofNat a) < (4 : Int32)) = false := by rw [d4, decide_eq_false a4]
          cases e6 : ron x6 with
          | false => exact bad (by rw [pre, ep, er, f4, e6]; rfl)
          | true =>
            cases e7 : ron x7 with
            | false => exact bad (by rw [pre, ep, er, f4, e6, e7]; rfl)
            | true => exact go (fun _ => e6) (fun _ => e7)
      · exact bad (by
          unfold encBad
          rw [e, decide_eq_false ng, decide_eq_false n6, decide_eq_false nw, decide_eq_true (show (4 : Int32) ≤ (Int32.ofNat w) from (n_le (a := 4) (by decide) hw).mpr (by omega))]
          rfl)
    · exact bad (by
        unfold encBad
        rw [e, decide_eq_false ng, decide_eq_true (show (6 : Int32) ≤ (Int32.ofNat a) from (n_le (a := 6) (by decide) ha).mpr (by omega))]
        rfl)
def BOTHk (G : mG) (F : Nat) (p : mM → Nat → Nat → Option (Int32 × mM × Nat × Nat)) (q : mM → Option (Int32 × mM)) (W : WR) (S : ST) (z sl z0 s0 A1 A2 L0 : Nat) : Prop := ∃ v W1 S1 z1 sl1 W2 S2, p (mem W S) z sl = some (v, mem W1 S1, z1, sl1) ∧ (W1.live (.o 13 0) = true ∧ W1.ad (.o 13 0) = A2 ∧ W1.lo = L0) ∧ q (mem W1 S1) = some (v, mem W2 S2) ∧ Rl G F W2 S2 z1 sl1 z0 s0 A1 A2 L0
theorem B_key (R : Rl G F W S z sl z0 s0 A1 A2 L0) (x : Int32) : BOTHk G F (P_X11_key G F A1 x) (P_X13_key G F A2 x) W S z sl z0 s0 A1 A2 L0 := by
  obtain ⟨τ, rows, t, h, bk, J, A, c, m, j, X, a1, a2, lo⟩ := R
  rcases isr_cases x with hx | ⟨r, hr, rfl, _⟩
  · have g1 := key_bad (G := G) (F := F) (z := z) (s := sl) (x := x) (W.ad (.o 11 0)) (mem W S) (rcv_m c.isa.1.lo) hx
    have g2 := mkey_bad (G := G) (F := F) (x := x) (W.ad (.o 13 0)) (mem W S) hx
    rw [a1] at g1
    rw [a2] at g2
    exact ⟨_, W, S, z, sl, W, S, g1, ⟨m.1.1, a2, lo⟩, g2, τ, rows, t, h, bk, J, A, c, m, j, X, a1, a2, lo⟩
  · obtain ⟨W1, S1, h', z1, sl1, g1, c1, y, e12, e13⟩ := C_key (G := G) (F := F) X m.1.1 c hr
    have m1 := m.c y e12 e13
    have X1 := y.cx X
    have b2 : W1.ad (.o 13 0) = A2 := (y.1 _ m.1.1).2.1.trans a2
    have b1 : W1.ad (.o 11 0) = A1 := (y.1 _ c.isa.1.lo).2.1.trans a1
    obtain ⟨W2, S2, bk', g2, m2, hW, f⟩ := M_key (G := G) (F := F) X1 m1 j.1 hr
    rw [a1] at g1
    rw [b2] at g2
    exact ⟨_, W1, S1, z1, sl1, W2, S2, g1, ⟨m1.1.1, b2, y.2.2.2.trans lo⟩, g2, aft c1 m2 hW f j X1 b1 b2 (y.2.2.2.trans lo) m1.1⟩
/-- how much is made -/
theorem sN_le {f : Nat → Nat} {B : Nat} : ∀ n, (∀ j, j < n → f j ≤ B) → sN f n ≤ n * B := by
  intro n
  induction n with
  | zero => exact fun _ => Nat.zero_le _
  | succ n ih =>
    intro hf
    have h1 := ih (fun j hj => hf j (by omega))
    have h2 := hf n (by omega)
    show sN f n + f n ≤ (n + 1) * B
    rw [Nat.add_mul, Nat.one_mul]
    omega
theorem KHS.bd {σ κ rk : Nat → Nat} (K : KHS W S z sl z0 s0 σ κ rk A) : z ≤ z0 + 4352 ∧ sl ≤ s0 + 285056 := by
  have rb : ∀ j, j < 17 → rk j ≤ 8192 := fun j hj => by
    obtain ⟨q, hq, e⟩ := (K.2.2.1 j (by omega)).2.2.2.1
    rw [e]
    have : 2 ^ q ≤ 2 ^ 7 := Nat.pow_le_pow_right (by decide) hq
    omega
  have h1 := sN_le (f := fun j => coZ (rk j)) (B := 256) 17 (fun j hj => by
    have := rb j hj
    show 2 * (rk j / 64) ≤ 256
    omega)
  have h2 := sN_le (f := fun j => coS (rk j)) (B := 16768) 17 (fun j hj => by
    have := rb j hj
    show 2 * rk j + 3 * (rk j / 64) ≤ 16768
    omega)
  obtain ⟨_, _, _, b1, b2⟩ := K.2.2.2.2.2
  omega
theorem Rl.bd (R : Rl G F W S z sl z0 s0 A1 A2 L0) : z ≤ z0 + 4352 ∧ sl ≤ s0 + 285056 := by
  obtain ⟨τ, rows, t, h, bk, J, A, c, _⟩ := R
  obtain ⟨σ, κ, rk, K⟩ := c.2.2.2.2.2.2.2.2.2
  exact K.bd
end BTH2
