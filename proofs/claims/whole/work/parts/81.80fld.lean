/-! THE FIELD OF THE CURVE: values of cells as integers modulo p -/
def pP : Nat := 115792089210356248762697446949407573530086143415290314195533631308867097853951
def nP : Nat := 115792089210356248762697446949407573529996955224135760342422259061068512044369
def bP_ : Nat := 41058363725152142129326129780047268409114441015993725554835256314039467401291
def bX_ : Nat := 48439561293906451759052585252797914202762949526041747995844080717082404635286
def bY_ : Nat := 36134250956749795798585127919587881956611106672985015071877198253568414405109
theorem pP_1 : 1 < pP := by decide +kernel
theorem pP_2 : pP % 2 = 1 := by decide +kernel
theorem nP_1 : 1 < nP := by decide +kernel
theorem nP_2 : nP % 2 = 1 := by decide +kernel
theorem nP_pP : nP < pP := by decide +kernel
/-- the number of a residue -/
def rs (m : Nat) (A : Int) : Nat := (A % (m : Int)).toNat
theorem rs_lt {m : Nat} (h : 1 < m) (A : Int) : rs m A < m := by
  unfold rs
  have h1 := Int.emod_nonneg A (show (m : Int) ≠ 0 by omega)
  have h2 := Int.emod_lt_of_pos A (show (0 : Int) < m by omega)
  omega
theorem rs_cast {m : Nat} (h : 1 < m) (A : Int) : ((rs m A : Nat) : Int) = A % m := by
  unfold rs
  exact Int.toNat_of_nonneg (Int.emod_nonneg A (by omega))
theorem rs_congr {m : Nat} {A B : Int} (h : A % (m : Int) = B % (m : Int)) : rs m A = rs m B := by unfold rs; rw [h]
theorem rs_nat {m : Nat} (h : 1 < m) (a : Nat) : rs m (a : Int) = a % m := by
  have := rs_cast h (a : Int)
  omega
theorem rs_mul {m : Nat} (h : 1 < m) (A B : Int) : rs m (A * B) = rs m A * rs m B % m := by
  have e : ((rs m A * rs m B % m : Nat) : Int) = ((rs m (A * B) : Nat) : Int) := by
    rw [Int.natCast_emod, Int.natCast_mul, rs_cast h, rs_cast h, rs_cast h, ← Int.mul_emod]
  omega
theorem rs_add {m : Nat} (h : 1 < m) (A B : Int) : rs m (A + B) = (rs m A + rs m B) % m := by
  have e : ((((rs m A + rs m B) % m : Nat)) : Int) = ((rs m (A + B) : Nat) : Int) := by
    rw [Int.natCast_emod, Int.natCast_add, rs_cast h, rs_cast h, rs_cast h, ← Int.add_emod]
  omega
theorem rs_zero {m : Nat} (A : Int) : rs m A = 0 ↔ A % (m : Int) = 0 ∨ A % (m : Int) < 0 := by
  unfold rs
  omega
theorem rs_z {m : Nat} (h : 1 < m) (A : Int) : rs m A = 0 ↔ A % (m : Int) = 0 := by
  have := rs_cast h A
  omega
theorem rs_eq {m : Nat} (h : 1 < m) (A B : Int) : rs m A = rs m B ↔ A % (m : Int) = B % (m : Int) := by
  have := rs_cast h A
  have := rs_cast h B
  omega
/-- a residue in Montgomery's form -/
def mf (n m : Nat) (A : Int) : Nat := rs m A * 4294967296 ^ n % m
theorem mf_lt {n m : Nat} (h : 1 < m) (A : Int) : mf n m A < m := Nat.mod_lt _ (by omega)
theorem mf_mul {n m : Nat} (h1 : 1 < m) (h2 : m % 2 = 1) (A B : Int) : mf n m A * mf n m B * RI n m % m = mf n m (A * B) := by
  unfold mf
  rw [M_mul h1 h2, rs_mul h1, mc (a := rs m A * rs m B % m) (Nat.mod_mod _ _) rfl]
theorem mf_add {n m : Nat} (h1 : 1 < m) (A B : Int) : (mf n m A + mf n m B) % m = mf n m (A + B) := by
  unfold mf
  rw [← Nat.add_mod, ← Nat.add_mul, rs_add h1, mc (a := (rs m A + rs m B) % m) (Nat.mod_mod _ _) rfl]
theorem mf_sub {n m : Nat} (h1 : 1 < m) (A B : Int) : (mf n m A + (m - mf n m B)) % m = mf n m (A - B) := by
  have e := mf_add (n := n) h1 (A - B) B
  rw [Int.sub_add_cancel] at e
  have l1 := mf_lt (n := n) h1 A
  have l2 := mf_lt (n := n) h1 B
  have l3 := mf_lt (n := n) h1 (A - B)
  generalize mf n m A = u at *
  generalize mf n m B = v at *
  generalize mf n m (A - B) = w at *
  by_cases c : w + v < m
  · rw [Nat.mod_eq_of_lt c] at e
    rw [show u + (m - v) = w + m by omega, Nat.add_mod_right, Nat.mod_eq_of_lt l3]
  · rw [Nat.mod_eq_sub_mod (by omega), Nat.mod_eq_of_lt (by omega)] at e
    rw [show u + (m - v) = w by omega, Nat.mod_eq_of_lt l3]
theorem mf_back {n m : Nat} (h1 : 1 < m) (h2 : m % 2 = 1) (A : Int) : mf n m A * 1 * RI n m % m = rs m A := by
  unfold mf
  rw [M_back h1 h2, Nat.mod_eq_of_lt (rs_lt h1 A)]
theorem mf_inj {n m : Nat} (h1 : 1 < m) (h2 : m % 2 = 1) (A B : Int) : mf n m A = mf n m B ↔ A % (m : Int) = B % (m : Int) := by
  rw [← rs_eq h1]
  constructor
  · intro h
    rw [← mf_back (n := n) h1 h2, h, mf_back h1 h2]
  · intro h
    unfold mf
    rw [h]
theorem mf_zero {n m : Nat} (h1 : 1 < m) (h2 : m % 2 = 1) (A : Int) : mf n m A = 0 ↔ A % (m : Int) = 0 := by
  have e : mf n m 0 = 0 := by
    unfold mf rs
    simp
  have := mf_inj (n := n) h1 h2 A 0
  rw [e, Int.zero_emod] at this
  exact this
theorem mf_congr {n m : Nat} {A B : Int} (h : A % (m : Int) = B % (m : Int)) : mf n m A = mf n m B := by
  unfold mf
  rw [rs_congr h]
theorem mf_lead {n m : Nat} (h1 : 1 < m) (a : Nat) : a * 4294967296 ^ n % m = mf n m (a : Int) := by
  unfold mf
  rw [rs_nat h1, mc (a := a % m) (Nat.mod_mod _ _) rfl]
/-- each number below m is some residue in Montgomery's form -/
theorem mf_any {n m v : Nat} (h1 : 1 < m) (h2 : m % 2 = 1) (hv : v < m) : ∃ A, v = mf n m A := by
  refine ⟨((v * RI n m : Nat) : Int), ?_⟩
  rw [← mf_lead h1, Nat.mul_assoc, Nat.mul_comm (RI n m), RI_one h1 h2, Nat.mod_eq_of_lt hv]
/-- the working cells of the curve: the sum, t, the base, the other point, b, the unit -/
def wc : Nat → Cl
  | 0 => .b 3 0 10 0
  | 1 => .b 3 0 10 1
  | 2 => .b 3 0 10 2
  | 3 => .b 3 0 11 0
  | 4 => .b 3 0 11 1
  | 5 => .b 3 0 11 2
  | 6 => .b 3 0 11 3
  | 7 => .b 3 0 11 4
  | 8 => .b 3 0 11 5
  | 9 => .b 3 0 0 0
  | 10 => .b 3 0 0 1
  | 11 => .b 3 0 1 0
  | 12 => .b 3 0 1 1
  | 13 => .a 3 0 8
  | _ => .a 3 0 9
def wn : Cl → Nat
  | .inr (.inr (_, _, 10, j)) => j
  | .inr (.inr (_, _, 11, j)) => 3 + j
  | .inr (.inr (_, _, 0, j)) => 9 + j
  | .inr (.inr (_, _, _, j)) => 11 + j
  | .inr (.inl (_, _, 8)) => 13
  | _ => 14
theorem wn_wc : ∀ i, i < 15 → wn (wc i) = i := by decide
theorem wc_inj (i : Nat) (hi : i < 15) (k : Nat) (hk : k < 15) (h : wc i = wc k) : i = k := by
  have := congrArg wn h
  rw [wn_wc i hi, wn_wc k hk] at this
  exact this
theorem wc_ow : ∀ i, i < 15 → ow (wc i) = (3, 0) := by decide
abbrev isCu (W : WR) : Prop := W.live (.o 3 0) = true ∧ (∀ k, k ∈ [0, 1, 8, 9, 10, 11] → W.r 3 0 k = some (.a 3 0 k)) ∧ W.r 3 0 2 = some (.o 6 1) ∧ W.r 3 0 3 = some (.o 6 2) ∧ (∀ k, k < 4 → W.r 3 0 (4 + k) = some (.o 0 (72 + k)) ∧ isB W (72 + k) 32) ∧ W.r 3 0 12 = some (.o 0 76) ∧ isB W 76 64 ∧ W.r 3 0 13 = some (.o 0 77) ∧ isB W 77 32 ∧ W.r 3 0 14 = some (.o 0 78) ∧ isB W 78 32 ∧ W.r 3 0 15 = some (.o 0 79) ∧ isB W 79 0 ∧ isMo W 1 ∧ isMo W 2 ∧ (∀ k, k < 15 → lok W (wc k) 8) ∧ ∀ k j, (k = 0 ∧ j < 2) ∨ (k = 1 ∧ j < 2) ∨ (k = 10 ∧ j < 3) ∨ (k = 11 ∧ j < 6) → W.live (.a 3 0 k) = true ∧ j < W.n (.a 3 0 k) ∧ W.n (.a 3 0 k) < 2 ^ 30 ∧ W.e (.a 3 0 k) j = some (.b 3 0 k j)
/-- an int is set -/
def iu (V : Nat → Int) (k : Nat) (x : Int) : Nat → Int := fun j => if j = k then x else V j
def FV (S : ST) (c : Cl) (A : Int) : Prop := LV (lgt S c) 8 (mf 8 pP A)
def CS (S : ST) (V : Nat → Int) : Prop := MoS S 1 8 pP ∧ ∀ k, k < 15 → FV S (wc k) (V k)
theorem CS.congr {S : ST} {V V' : Nat → Int} (h : CS S V) (e : ∀ k, k < 15 → V' k % (pP : Int) = V k % (pP : Int)) : CS S V' := ⟨h.1, fun k hk => by
  have := h.2 k hk
  unfold FV at *
  rw [mf_congr (e k hk)]
  exact this⟩
theorem CS.fr {S S' : ST} {V : Nat → Int} {L : List (Nat × Nat)} (h : CS S V) (f : fr L S S') (h1 : (3, 0) ∉ L) (h2 : (6, 1) ∉ L) : CS S' V := by
  have e3 := f 3 0 h1
  have e6 := f 6 1 h2
  obtain ⟨⟨⟨m1, m2, m3, m4, m5⟩, ⟨tw, m6⟩, m7, m8⟩, h⟩ := h
  have g6 : ∀ k, lgt S' (.a 6 1 k) = lgt S (.a 6 1 k) := fun k => by show (S' 6 1).l k = _; rw [e6]; rfl
  refine ⟨⟨⟨by rw [e6]; exact m1, m2, m3, by rw [g6]; exact m4, m5⟩, ⟨tw, by rw [e6]; exact m6⟩, by rw [g6]; exact m7, by rw [g6]; exact m8⟩, fun k hk => ?_⟩
  have := h k hk
  have ew := wc_ow k hk
  have eg : lgt S' (wc k) = lgt S (wc k) := by
    generalize wc k = x at *
    rcases x with ⟨c, i⟩ | ⟨c, i, q⟩ | ⟨c, i, q, j⟩
    · rfl
    · obtain ⟨rfl, rfl⟩ : c = 3 ∧ i = 0 := by simpa [ow] using ew
      show (S' 3 0).l q = _
      rw [e3]; rfl
    · obtain ⟨rfl, rfl⟩ : c = 3 ∧ i = 0 := by simpa [ow] using ew
      show (S' 3 0).m q j = _
      rw [e3]; rfl
  unfold FV at *
  rw [eg]
  exact this
section FLD
variable {W : WR} {G : mG} {F : Nat} {S : ST} {V : Nat → Int}
theorem isCu.mo {W : WR} (h : isCu W) : isMo W 1 := h.2.2.2.2.2.2.2.2.2.2.2.2.2.1
theorem isCu.mn {W : WR} (h : isCu W) : isMo W 2 := h.2.2.2.2.2.2.2.2.2.2.2.2.2.2.1
theorem isCu.lk {W : WR} (h : isCu W) {k : Nat} (hk : k < 15) : lok W (wc k) 8 := h.2.2.2.2.2.2.2.2.2.2.2.2.2.2.2.1 k hk
theorem isCu.gA (h : isCu W) (k : Nat) (hk : k ∈ [0, 1, 8, 9, 10, 11]) (q : (kdF 3)[k]? = some 2) (S : ST) : gfR (mem W S) (W.ad (.o 3 0)) 3 k = some (W.ad (.a 3 0 k)) := gfR_m h.1 q (h.2.1 k hk)
theorem isCu.gf (h : isCu W) (S : ST) : gfR (mem W S) (W.ad (.o 3 0)) 3 2 = some (W.ad (.o 6 1)) := gfR_m h.1 rfl h.2.2.1
theorem isCu.gn (h : isCu W) (S : ST) : gfR (mem W S) (W.ad (.o 3 0)) 3 3 = some (W.ad (.o 6 2)) := gfR_m h.1 rfl h.2.2.2.1
theorem isCu.ge (h : isCu W) (k j : Nat) (hk : (k = 0 ∧ j < 2) ∨ (k = 1 ∧ j < 2) ∨ (k = 10 ∧ j < 3) ∨ (k = 11 ∧ j < 6)) (S : ST) : aR (mem W S) 6 (W.ad (.a 3 0 k)) (Int32.ofNat j) = some (W.ad (.b 3 0 k j)) := by
  obtain ⟨h1, h2, h3, h4⟩ := h.2.2.2.2.2.2.2.2.2.2.2.2.2.2.2.2 k j hk
  have q : (kdA 3)[k]? = some 6 := by
    have : k = 0 ∨ k = 1 ∨ k = 10 ∨ k = 11 := by omega
    rcases this with rfl | rfl | rfl | rfl <;> rfl
  exact aR_m (t := .b 3 0 k j) h1 q (by decide) (inB_n h2 (by omega)) (by rw [n_at (by omega)]; exact h4)
theorem wc_no (i : Nat) (hi : i < 15) (q k : Nat) : wc i ≠ .a 6 q k := fun e => by
  have := wc_ow i hi
  rw [e] at this
  exact absurd this (by simp [ow])
theorem CS.put {S' : ST} {k : Nat} {A : Int} (C : CS S V) (hk : k < 15) (f : lfr [wc k, .a 6 1 7] S S') (hv : LV (lgt S' (wc k)) 8 (mf 8 pP A)) : CS S' (iu V k A) := by
  refine ⟨C.1.lfr f (by simp; exact (wc_no k hk 1 2).symm) (by simp; exact (wc_no k hk 1 3).symm) (by simp; exact (wc_no k hk 1 4).symm), fun j hj => ?_⟩
  unfold FV iu
  by_cases c : j = k
  · rw [if_pos c, c]; exact hv
  · rw [if_neg c, f.2 _ (by simp; exact ⟨fun e => c (wc_inj j hj k hk e), wc_no j hj 1 7⟩)]
    exact C.2 j hj
theorem cu_times (X : Cx G F W) (h : isCu W) (C : CS S V) (i j k : Nat) (hi : i < 15) (hj : j < 15) (hk : k < 15) : ∃ S', P_X6_times G F (W.ad (.o 6 1)) (W.ad (wc i)) (W.ad (wc j)) (W.ad (wc k)) (mem W S) = some (mem W S') ∧ lfr [wc k, .a 6 1 7] S S' ∧ CS S' (iu V k (V i * V j)) := by
  obtain ⟨S1, g1, f1, v1⟩ := Q6_times (G := G) (F := F) X h.mo C.1.b C.1.tw (h.lk hi) (h.lk hj) (h.lk hk) (by omega) (by omega) (by omega) (wc_no i hi 1 7) (wc_no j hj 1 7) (wc_no k hk 1 7).symm (wc_no k hk 1 2).symm (C.2 i hi) (C.2 j hj) (mf_lt pP_1 _)
  rw [mf_mul pP_1 pP_2] at v1
  exact ⟨S1, g1, f1, C.put hk f1 v1⟩
theorem cu_plus (X : Cx G F W) (h : isCu W) (C : CS S V) (i j k : Nat) (hi : i < 15) (hj : j < 15) (hk : k < 15) : ∃ S', P_X6_plus G F (W.ad (.o 6 1)) (W.ad (wc i)) (W.ad (wc j)) (W.ad (wc k)) (mem W S) = some (mem W S') ∧ lfr [wc k, .a 6 1 7] S S' ∧ CS S' (iu V k (V i + V j)) := by
  have l1 := mf_lt (n := 8) pP_1 (V i)
  have l2 := mf_lt (n := 8) pP_1 (V j)
  obtain ⟨S1, g1, f1, v1⟩ := Q6_plus (G := G) (F := F) X h.mo C.1.b (h.lk hi) (h.lk hj) (h.lk hk) (by omega) (by omega) (by omega) (wc_no i hi 1 7) (wc_no j hj 1 7) (wc_no k hk 1 7).symm (wc_no k hk 1 2).symm (C.2 i hi) (C.2 j hj) (by omega)
  rw [mf_add pP_1] at v1
  exact ⟨S1, g1, f1, C.put hk f1 v1⟩
theorem cu_minus (X : Cx G F W) (h : isCu W) (C : CS S V) (i j k : Nat) (hi : i < 15) (hj : j < 15) (hk : k < 15) : ∃ S', P_X6_minus G F (W.ad (.o 6 1)) (W.ad (wc i)) (W.ad (wc j)) (W.ad (wc k)) (mem W S) = some (mem W S') ∧ lfr [wc k, .a 6 1 7] S S' ∧ CS S' (iu V k (V i - V j)) := by
  obtain ⟨S1, g1, f1, v1⟩ := Q6_minus (G := G) (F := F) X h.mo C.1.b (h.lk hi) (h.lk hj) (h.lk hk) (by omega) (by omega) (by omega) (wc_no k hk 1 2).symm (C.2 i hi) (C.2 j hj) (mf_lt pP_1 _) (mf_lt pP_1 _)
  rw [mf_sub pP_1] at v1
  exact ⟨S1, g1, f1.mono (by simp), C.put hk (f1.mono (by simp)) v1⟩
theorem cu_zero (X : Cx G F W) (h : isCu W) (C : CS S V) (i : Nat) (hi : i < 15) : P_X6_isZero G F (W.ad (.o 6 1)) (W.ad (wc i)) (mem W S) = some (if V i % (pP : Int) = 0 then 1 else 0, mem W S) := by
  rw [Q6_isZero X h.mo (h.lk hi) (by omega) (by omega) C.1.b.1 (C.2 i hi)]
  simp only [mf_zero pP_1 pP_2]
theorem cu_same (X : Cx G F W) (h : isCu W) (C : CS S V) (i j : Nat) (hi : i < 15) (hj : j < 15) : P_X6_areSame G F (W.ad (.o 6 1)) (W.ad (wc i)) (W.ad (wc j)) (mem W S) = some (if V i % (pP : Int) = V j % (pP : Int) then 1 else 0, mem W S) := by
  rw [Q6_areSame X h.mo (h.lk hi) (h.lk hj) (by omega) (by omega) (by omega) C.1.b.1 (C.2 i hi) (C.2 j hj)]
  simp only [mf_inj pP_1 pP_2]
end FLD
