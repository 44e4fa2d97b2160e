/-! THE CLASS'S CURVE: sumUp -/
/-- no two numbers that p does not divide have a product that it divides -/
abbrev PrP : Prop := ∀ a b : Int, a * b % (pP : Int) = 0 → a % (pP : Int) = 0 ∨ b % (pP : Int) = 0
def addS (s : JP) (P : Int × Int) : JP := match s with
  | none => some (P.1, P.2, 1)
  | some (x, y, z) => if aH P.1 x z % (pP : Int) = 0 then (if aJ P.2 y z % (pP : Int) = 0 then dblS (some (x, y, z)) else none) else some (aX' (aH P.1 x z) (aJ P.2 y z) x, aY' (aH P.1 x z) (aJ P.2 y z) x y, z * aH P.1 x z)
def adS (b : Bool) (s : JP) (P : Int × Int) : JP := if b then addS s P else s
def sumS (ms ns : List UInt8) (P Q : Int × Int) : Nat → JP
  | 0 => none
  | k + 1 => adS (bitA ns k) (adS (bitA ms k) (dblS (sumS ms ns P Q k)) P) Q
section SUMUP
variable {W : WR} {G : mG} {F : Nat} {S : ST} {V : Nat → Int}
theorem Q3_twiceS {s : JP} (X : Cx G F W) (h : isCu W) (C : CS S V) (J : CJ V s) : ∃ S' V', P_X3_twice G F (W.ad (.o 3 0)) (mem W S) = some (mem W S') ∧ lfr CuL S S' ∧ CS S' V' ∧ (∀ k, 9 ≤ k → V' k = V k) ∧ CJ V' (dblS s) := by
  obtain ⟨S1, V1, g1, f1, C1, k1, x1, y1, z1⟩ := Q3_twice (G := G) (F := F) X h C
  refine ⟨S1, V1, g1, f1, C1, k1, ?_⟩
  match s, J with
  | none, J =>
    show V1 2 % (pP : Int) = 0
    rw [z1]
    exact dz_0 J
  | some (x, y, z), J =>
    obtain ⟨rfl, rfl, rfl, hz⟩ := J
    unfold dblS
    by_cases c : dZ (V 1) (V 2) % (pP : Int) = 0
    · simp only [if_pos c]
      show V1 2 % (pP : Int) = 0
      rw [z1]; exact c
    · simp only [if_neg c]
      exact ⟨x1, y1, z1, c⟩
theorem Q3_addk {pk : Nat} (X : Cx G F W) (h : isCu W) (C : CS S V) (hpk : pk = 0 ∨ pk = 1) : ∃ S' V' b, P_X3_add G F (W.ad (.o 3 0)) (W.ad (.a 3 0 pk)) (mem W S) = some (b, mem W S') ∧ lfr CuL S S' ∧ CS S' V' ∧ (∀ k, 9 ≤ k → V' k = V k) ∧ (if V 2 % (pP : Int) = 0 then b = 1 ∧ V' 0 = V (9 + 2 * pk) ∧ V' 1 = V (10 + 2 * pk) ∧ V' 2 = V 14 else if aH (V (9 + 2 * pk)) (V 0) (V 2) % (pP : Int) = 0 ∧ aJ (V (10 + 2 * pk)) (V 1) (V 2) % (pP : Int) = 0 then b = 0 ∧ V' 0 = V 0 ∧ V' 1 = V 1 ∧ V' 2 = V 2 else b = 1 ∧ V' 0 = aX' (aH (V (9 + 2 * pk)) (V 0) (V 2)) (aJ (V (10 + 2 * pk)) (V 1) (V 2)) (V 0) ∧ V' 1 = aY' (aH (V (9 + 2 * pk)) (V 0) (V 2)) (aJ (V (10 + 2 * pk)) (V 1) (V 2)) (V 0) (V 1) ∧ V' 2 = V 2 * aH (V (9 + 2 * pk)) (V 0) (V 2)) := by
  rcases hpk with rfl | rfl
  · exact Q3_add_0 X h C
  · exact Q3_add_1 X h C
theorem Q3_adS {α : Type} {k : mM → Option α} {s : JP} {pk : Nat} (pr : PrP) (X : Cx G F W) (h : isCu W) (C : CS S V) (hpk : pk = 0 ∨ pk = 1) (h14 : V 14 = 1) (J : CJ V s) : ∃ S' V', (bP (P_X3_add G F (W.ad (.o 3 0)) (W.ad (.a 3 0 pk)) (mem W S)) fun v M => if v = 0 then (bO (rcv M (W.ad (.o 3 0)) 3) fun _ => bO (P_X3_twice G F (W.ad (.o 3 0)) M) fun M' => k M') else k M) = k (mem W S') ∧ lfr CuL S S' ∧ CS S' V' ∧ (∀ k, 9 ≤ k → V' k = V k) ∧ CJ V' (addS s (V (9 + 2 * pk), V (10 + 2 * pk))) := by
  obtain ⟨S1, V1, b, g1, f1, C1, k1, r1⟩ := Q3_addk (G := G) (F := F) X h C hpk
  have p1 : (1 : Int) % (pP : Int) ≠ 0 := by
    have : (1 : Int) % (pP : Int) = 1 := Int.emod_eq_of_lt (by omega) (by have := pP_1; omega)
    omega
  rw [g1, bP_s]
  match s, J with
  | none, J =>
    have J : V 2 % (pP : Int) = 0 := J
    rw [if_pos J] at r1
    obtain ⟨rfl, a, b, c⟩ := r1
    rw [if_neg (by decide)]
    exact ⟨S1, V1, rfl, f1, C1, k1, a, b, c.trans h14, p1⟩
  | some (x, y, z), J =>
    obtain ⟨rfl, rfl, rfl, hz⟩ := J
    rw [if_neg hz] at r1
    unfold addS
    by_cases c1 : aH (V (9 + 2 * pk)) (V 0) (V 2) % (pP : Int) = 0
    · simp only [if_pos c1]
      by_cases c2 : aJ (V (10 + 2 * pk)) (V 1) (V 2) % (pP : Int) = 0
      · rw [if_pos ⟨c1, c2⟩] at r1
        obtain ⟨rfl, a, b, c⟩ := r1
        simp only [if_pos c2]
        obtain ⟨S2, V2, g2, f2, C2, k2, J2⟩ := Q3_twiceS (G := G) (F := F) (s := some (V 0, V 1, V 2)) X h C1 ⟨a, b, c, hz⟩
        rw [rcv_m h.1, bO_s, g2, bO_s]
        exact ⟨S2, V2, rfl, f1.trans f2, C2, fun k hk => (k2 k hk).trans (k1 k hk), J2⟩
      · rw [if_neg (fun q => c2 q.2)] at r1
        obtain ⟨rfl, a, b, c⟩ := r1
        simp only [if_neg c2]
        rw [if_neg (by decide)]
        refine ⟨S1, V1, rfl, f1, C1, k1, ?_⟩
        show V1 2 % (pP : Int) = 0
        rw [c, Int.mul_emod, c1, Int.mul_zero, Int.zero_emod]
    · rw [if_neg (fun q => c1 q.1)] at r1
      obtain ⟨rfl, a, b, c⟩ := r1
      simp only [if_neg c1]
      rw [if_neg (by decide)]
      exact ⟨S1, V1, rfl, f1, C1, k1, a, b, c, fun q => by
        rcases pr _ _ q with q | q
        · exact hz q
        · exact c1 q⟩
theorem sh_t (a s : Nat) (ha : a < 256) (hs : s < 8) : (((Int32.ofNat a) >>> (((7 : Int32) - (Int32.ofNat s)) &&& 31)) &&& (1 : Int32) = (1 : Int32)) ↔ a / 2 ^ (7 - s) % 2 = 1 := bit_t a s ha hs
theorem Q3_sum29 {im in_ rm rn pk qk : Nat} {ms ns : List UInt8} {lm ln : Bool} (pr : PrP) (X : Cx G F W) (h : isCu W) (hm : isB W im rm) (hn : isB W in_ rn) (hpk : pk = 0 ∨ pk = 1) (hqk : qk = 0 ∨ qk = 1) {V0 : Nat → Int} (h14 : V0 14 = 1) : ∀ (q k fuel : Nat) (S : ST) (V : Nat → Int), q < fuel → k + q = 256 → CS S V → (∀ k, 9 ≤ k → V k = V0 k) → Byt rm (S 0 im) ms lm → Byt rn (S 0 in_) ns ln → CJ V (sumS ms ns (V0 (9 + 2 * pk), V0 (10 + 2 * pk)) (V0 (9 + 2 * qk), V0 (10 + 2 * qk)) k) → ∃ S' V', B_X3_sumUp_29 G F fuel (W.ad (.o 3 0)) (W.ad (.o 0 im)) (W.ad (.a 3 0 pk)) (W.ad (.o 0 in_)) (W.ad (.a 3 0 qk)) (Int32.ofNat k) (mem W S) = some (mem W S') ∧ lfr CuL S S' ∧ CS S' V' ∧ (∀ k, 9 ≤ k → V' k = V0 k) ∧ CJ V' (sumS ms ns (V0 (9 + 2 * pk), V0 (10 + 2 * pk)) (V0 (9 + 2 * qk), V0 (10 + 2 * qk)) 256) := by
  intro q
  induction q with
  | zero =>
    intro k fuel S V hf hk C hV bm bn J
    obtain ⟨fuel, rfl⟩ : ∃ q, fuel = q + 1 := ⟨fuel - 1, by omega⟩
    obtain rfl : k = 256 := by omega
    rw [B_X3_sumUp_29, if_pos (by decide)]
    exact ⟨S, V, rfl, lfr.refl _ _, C, hV, J⟩
  | succ q ih =>
    intro k fuel S V hf hk C hV bm bn J
    obtain ⟨fuel, rfl⟩ : ∃ q, fuel = q + 1 := ⟨fuel - 1, by omega⟩
    obtain ⟨S1, V1, g1, f1, C1, k1, J1⟩ := Q3_twiceS (G := G) (F := F) X h C J
    have e8 : (Int32.ofNat k) / (8 : Int32) = (Int32.ofNat (k / 8)) := n_div (b := 8) (by omega) (by decide)
    have gm : ∀ S2 : ST, Byt rm (S2 0 im) ms lm → P_X0_get G F (W.ad (.o 0 im)) (Int32.ofNat (k / 8)) (mem W S2) = some ((Int32.ofNat (gN ms (k / 8))), mem W S2) := fun S2 b => by rw [← gB_gN]; exact Q0_get hm b (by omega)
    have gn : ∀ S2 : ST, Byt rn (S2 0 in_) ns ln → P_X0_get G F (W.ad (.o 0 in_)) (Int32.ofNat (k / 8)) (mem W S2) = some ((Int32.ofNat (gN ns (k / 8))), mem W S2) := fun S2 b => by rw [← gB_gN]; exact Q0_get hn b (by omega)
    have bt := bit_t (gN ms (k / 8)) (k % 8) (gN_lt _ _) (by omega)
    have bt2 := bit_t (gN ns (k / 8)) (k % 8) (gN_lt _ _) (by omega)
    have second : ∀ (S2 : ST) (V2 : Nat → Int), lfr CuL S S2 → CS S2 V2 → (∀ k, 9 ≤ k → V2 k = V0 k) → CJ V2 (adS (bitA ms k) (dblS (sumS ms ns (V0 (9 + 2 * pk), V0 (10 + 2 * pk)) (V0 (9 + 2 * qk), V0 (10 + 2 * qk)) k)) (V0 (9 + 2 * pk), V0 (10 + 2 * pk))) → ∃ S' V', B_X3_sumUp_81 G F (B_X3_sumUp_29 G F fuel) (W.ad (.o 3 0)) (W.ad (.o 0 im)) (W.ad (.a 3 0 pk)) (W.ad (.o 0 in_)) (W.ad (.a 3 0 qk)) (Int32.ofNat k) ((7 : Int32) - (Int32.ofNat (k % 8))) (mem W S2) = some (mem W S') ∧ lfr CuL S S' ∧ CS S' V' ∧ (∀ k, 9 ≤ k → V' k = V0 k) ∧ CJ V' (sumS ms ns (V0 (9 + 2 * pk), V0 (10 + 2 * pk)) (V0 (9 + 2 * qk), V0 (10 + 2 * qk)) 256) := by
      intro S2 V2 f2 C2 k2 J2
      unfold B_X3_sumUp_81
      rw [rcv_m hn.lo, bO_s, e8, gn S2 (Byt.lfr f2 bn), bP_s, n_addL k 1]
      by_cases c : gN ns (k / 8) / 2 ^ (7 - k % 8) % 2 = 1
      · have cb : bitA ns k = true := decide_eq_true c
        rw [if_pos (bt2.mpr c), rcv_m h.1, bO_s]
        obtain ⟨S3, V3, g3, f3, C3, k3, J3⟩ := Q3_adS (G := G) (F := F) (k := fun M => B_X3_sumUp_29 G F fuel (W.ad (.o 3 0)) (W.ad (.o 0 im)) (W.ad (.a 3 0 pk)) (W.ad (.o 0 in_)) (W.ad (.a 3 0 qk)) (Int32.ofNat (k + 1)) M) pr X h C2 hqk (by rw [k2 14 (by omega)]; exact h14) J2
        rw [k2 _ (by omega), k2 _ (by omega)] at J3
        rw [g3]
        obtain ⟨S4, V4, g4, f4, C4, k4, J4⟩ := ih (k + 1) fuel S3 V3 (by omega) (by omega) C3 (fun j hj => (k3 j hj).trans (k2 j hj)) (Byt.lfr f3 (Byt.lfr f2 bm)) (Byt.lfr f3 (Byt.lfr f2 bn)) (by
          rw [sumS, cb]
          exact J3)
        exact ⟨S4, V4, g4, (f2.trans f3).trans f4, C4, k4, J4⟩
      · have cb : bitA ns k = false := decide_eq_false c
        rw [if_neg (fun q => c (bt2.mp q))]
        obtain ⟨S4, V4, g4, f4, C4, k4, J4⟩ := ih (k + 1) fuel S2 V2 (by omega) (by omega) C2 k2 (Byt.lfr f2 bm) (Byt.lfr f2 bn) (by
          rw [sumS, cb]
          exact J2)
        exact ⟨S4, V4, g4, f2.trans f4, C4, k4, J4⟩
    have kV1 : ∀ k, 9 ≤ k → V1 k = V0 k := fun j hj => (k1 j hj).trans (hV j hj)
    rw [B_X3_sumUp_29, if_neg (by rw [lit 256]; exact fun q => absurd ((n_le (by omega) (by omega)).mp q) (by omega)), rcv_m h.1, bO_s, g1, bO_s, rcv_m hm.lo, bO_s, e8, gm S1 (Byt.lfr f1 bm), bP_s, n_and7]
    by_cases c : gN ms (k / 8) / 2 ^ (7 - k % 8) % 2 = 1
    · have cb : bitA ms k = true := decide_eq_true c
      rw [if_pos (bt.mpr c), rcv_m h.1, bO_s]
      obtain ⟨S3, V3, g3, f3, C3, k3, J3⟩ := Q3_adS (G := G) (F := F) (k := fun M => B_X3_sumUp_81 G F (B_X3_sumUp_29 G F fuel) (W.ad (.o 3 0)) (W.ad (.o 0 im)) (W.ad (.a 3 0 pk)) (W.ad (.o 0 in_)) (W.ad (.a 3 0 qk)) (Int32.ofNat k) ((7 : Int32) - (Int32.ofNat (k % 8))) M) pr X h C1 hpk (by rw [kV1 14 (by omega)]; exact h14) J1
      rw [kV1 _ (by omega), kV1 _ (by omega)] at J3
      rw [g3]
      exact second S3 V3 (f1.trans f3) C3 (fun j hj => (k3 j hj).trans (kV1 j hj)) (by rw [cb]; exact J3)
    · have cb : bitA ms k = false := decide_eq_false c
      rw [if_neg (fun q => c (bt.mp q))]
      exact second S1 V1 f1 C1 kV1 (by rw [cb]; exact J1)
theorem Q3_sum3 {l1 l2 l3 l4 : Nat} (h : isCu W) : ∀ (m j fuel : Nat) (S : ST), m < fuel → j + m = 8 → (∀ t, t < j → lgt S (.b 3 0 10 2) t = 0) → ∃ S', B_X3_sumUp_3 G F fuel (W.ad (.o 3 0)) l1 l2 l3 l4 (Int32.ofNat j) (mem W S) = B_X3_sumUp_29 G F F (W.ad (.o 3 0)) l1 l2 l3 l4 0 (mem W S') ∧ lfr [.b 3 0 10 2, .a 6 1 7] S S' ∧ ∀ t, t < 8 → lgt S' (.b 3 0 10 2) t = 0 := by
  have hl : lok W (.b 3 0 10 2) 8 := h.lk (k := 2) (by decide)
  intro m
  induction m with
  | zero =>
    intro j fuel S hf hj hz
    obtain ⟨fuel, rfl⟩ : ∃ q, fuel = q + 1 := ⟨fuel - 1, by omega⟩
    obtain rfl : j = 8 := by omega
    rw [B_X3_sumUp_3, if_pos (by decide)]
    exact ⟨S, rfl, lfr.refl _ _, hz⟩
  | succ m ih =>
    intro j fuel S hf hj hz
    obtain ⟨fuel, rfl⟩ : ∃ q, fuel = q + 1 := ⟨fuel - 1, by omega⟩
    rw [B_X3_sumUp_3, if_neg (by rw [lit 8]; exact fun q => absurd ((n_le (by omega) (by omega)).mp q) (by omega)), h.gA 10 (by decide) rfl, bO_s, h.gl 10 2 (by decide), bO_s, lx_set hl (by omega), bO_s, n_addL j 1]
    obtain ⟨S', g1, g2, g3⟩ := ih (j + 1) fuel (lst S (.b 3 0 10 2) (vp_updL (lgt S (.b 3 0 10 2)) j 0)) (by omega) (by omega) (fun t ht => by
      rw [lgt_eq hl]
      by_cases c : t = j
      · rw [c, updL_eq]
      · rw [updL_ne c]; exact hz t (by omega))
    exact ⟨S', g1, (lfr_lst (by simp)).trans g2, g3⟩
theorem Q3_sumUp {im in_ rm rn pk qk : Nat} {ms ns : List UInt8} {lm ln : Bool} (pr : PrP) (X : Cx G F W) (h : isCu W) (hm : isB W im rm) (hn : isB W in_ rn) (hpk : pk = 0 ∨ pk = 1) (hqk : qk = 0 ∨ qk = 1) (C : CS S V) (h14 : V 14 = 1) (bm : Byt rm (S 0 im) ms lm) (bn : Byt rn (S 0 in_) ns ln) : ∃ S' V', P_X3_sumUp G F (W.ad (.o 3 0)) (W.ad (.o 0 im)) (W.ad (.a 3 0 pk)) (W.ad (.o 0 in_)) (W.ad (.a 3 0 qk)) (mem W S) = some (mem W S') ∧ lfr CuL S S' ∧ CS S' V' ∧ (∀ k, 9 ≤ k → V' k = V k) ∧ CJ V' (sumS ms ns (V (9 + 2 * pk), V (10 + 2 * pk)) (V (9 + 2 * qk), V (10 + 2 * qk)) 256) := by
  have hF := X.hF
  obtain ⟨S1, g1, f1, z1⟩ := Q3_sum3 (G := G) (F := F) (l1 := W.ad (.o 0 im)) (l2 := W.ad (.a 3 0 pk)) (l3 := W.ad (.o 0 in_)) (l4 := W.ad (.a 3 0 qk)) h 8 0 F S (by omega) (by omega) (fun t ht => by omega)
  have e0 : mf 8 pP 0 = 0 := (mf_zero pP_1 pP_2 0).mpr (Int.zero_emod _)
  have C1 : CS S1 (iu V 2 0) := C.put (k := 2) (by decide) f1 (by
    rw [e0]
    exact ⟨_, LD_zero z1, vN_zero (fun _ _ => rfl)⟩)
  have kk : ∀ k, 9 ≤ k → iu V 2 0 k = V k := fun k hk => by unfold iu; rw [if_neg (by omega)]
  obtain ⟨S2, V2, g2, f2, C2, k2, J2⟩ := Q3_sum29 (G := G) (F := F) (ms := ms) (ns := ns) (lm := lm) (ln := ln) pr X h hm hn hpk hqk (V0 := V) h14 256 0 F S1 (iu V 2 0) (by omega) (by omega) C1 kk (Byt.lfr f1 bm) (Byt.lfr f1 bn) (by
    show iu V 2 0 2 % (pP : Int) = 0
    unfold iu
    rw [if_pos rfl, Int.zero_emod])
  have g1' : B_X3_sumUp_3 G F F (W.ad (.o 3 0)) (W.ad (.o 0 im)) (W.ad (.a 3 0 pk)) (W.ad (.o 0 in_)) (W.ad (.a 3 0 qk)) 0 (mem W S) = _ := g1
  have g2' : B_X3_sumUp_29 G F F (W.ad (.o 3 0)) (W.ad (.o 0 im)) (W.ad (.a 3 0 pk)) (W.ad (.o 0 in_)) (W.ad (.a 3 0 qk)) 0 (mem W S1) = _ := g2
  unfold P_X3_sumUp
  rw [g1', g2']
  exact ⟨S2, V2, rfl, (f1.mono (by simp [wc])).trans f2, C2, k2, J2⟩
end SUMUP
