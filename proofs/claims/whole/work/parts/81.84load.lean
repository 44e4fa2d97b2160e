/-! THE CLASS'S CURVE: numbers compared, isSecret, load, putSum -/
/-- the number of n bytes from k on -/
def bv (f : Nat → Nat) : Nat → Nat → Nat
  | _, 0 => 0
  | k, n + 1 => f k * 256 ^ n + bv f (k + 1) n
theorem bv_lt {f : Nat → Nat} (h : ∀ j, f j < 256) : ∀ n k, bv f k n < 256 ^ n
  | 0, _ => by show 0 < 1; decide
  | n + 1, k => by
    have h1 := bv_lt h n (k + 1)
    have h2 := h k
    rw [bv, Nat.pow_succ]
    have : f k * 256 ^ n ≤ 255 * 256 ^ n := Nat.mul_le_mul_right _ (by omega)
    omega
theorem ordF_add (c a b : Nat) : ordF (c + a) (c + b) = ordF a b := by
  unfold ordF
  simp only [Nat.add_left_cancel_iff, Nat.add_lt_add_iff_left]
theorem cmp_bv {f g : Nat → Nat} (hf : ∀ j, f j < 256) (hg : ∀ j, g j < 256) : ∀ n k, cmpF (fun j => (Int32.ofNat (f j))) (fun j => (Int32.ofNat (g j))) k n = ordF (bv f k n) (bv g k n)
  | 0, k => rfl
  | n + 1, k => by
    have h1 := bv_lt hf n (k + 1)
    have h2 := bv_lt hg n (k + 1)
    have f1 := hf k
    have g1 := hg k
    rw [cmpF, bv, bv]
    by_cases c : f k = g k
    · rw [if_pos (by rw [c]), cmp_bv hf hg n (k + 1), c, ordF_add]
    · rw [if_neg (fun q => c ((n_eq (by omega) (by omega)).mp q))]
      unfold ordF
      by_cases d : g k ≤ f k
      · have : (g k + 1) * 256 ^ n ≤ f k * 256 ^ n := Nat.mul_le_mul_right _ (by omega)
        rw [Nat.add_mul] at this
        rw [if_pos ((n_le (by omega) (by omega)).mpr d), if_neg (by omega), if_pos (by omega)]
      · have : (f k + 1) * 256 ^ n ≤ g k * 256 ^ n := Nat.mul_le_mul_right _ (by omega)
        rw [Nat.add_mul] at this
        rw [if_neg (fun q => d ((n_le (by omega) (by omega)).mp q)), if_neg (by omega), if_neg (by omega)]
theorem bv_seg {xs : List UInt8} {a : Nat} : ∀ n k, a + k + n ≤ xs.length → bv (fun j => gN xs (a + j)) k n = beN (seg xs (a + k) n)
  | 0, k, h => by
    have : seg xs (a + k) 0 = [] := by unfold seg; rw [List.take_zero]
    rw [this]; rfl
  | n + 1, k, h => by
    have e : seg xs (a + k) (n + 1) = (xs[a + k]'(by omega)) :: seg xs (a + (k + 1)) n := by
      unfold seg
      rw [List.drop_eq_getElem_cons (by omega), List.take_succ_cons]
      rfl
    have eg : gN xs (a + k) = (xs[a + k]'(by omega)).toNat := by
      unfold gN
      rw [List.getD_eq_getElem?_getD, List.getElem?_eq_getElem (by omega)]
      rfl
    rw [bv, bv_seg n (k + 1) (by omega), e, beN_cons, seg_len (by omega), eg]
theorem bv_zero {f : Nat → Nat} (h : ∀ j, f j = 0) : ∀ n k, bv f k n = 0
  | 0, _ => rfl
  | n + 1, k => by rw [bv, h, bv_zero h n (k + 1), Nat.zero_mul]
theorem gN_nil (j : Nat) : gN [] j = 0 := rfl
theorem ordF_neg {a b : Nat} : (ordF a b < 0 ↔ a < b) ∧ (0 ≤ ordF a b ↔ b ≤ a) ∧ (ordF a b ≤ 0 ↔ a ≤ b) ∧ (ordF a b = 0 ↔ a = b) := by
  unfold ordF
  by_cases c : a = b
  · rw [if_pos c]
    exact ⟨⟨fun q => absurd q (by decide), fun q => by omega⟩, ⟨fun _ => by omega, fun _ => by decide⟩, ⟨fun _ => by omega, fun _ => by decide⟩, ⟨fun _ => c, fun _ => rfl⟩⟩
  · rw [if_neg c]
    by_cases d : b < a
    · rw [if_pos d]
      exact ⟨⟨fun q => absurd q (by decide), fun q => by omega⟩, ⟨fun _ => by omega, fun _ => by decide⟩, ⟨fun q => absurd q (by decide), fun q => by omega⟩, ⟨fun q => absurd q (by decide), fun q => by omega⟩⟩
    · rw [if_neg d]
      exact ⟨⟨fun _ => by omega, fun _ => by decide⟩, ⟨fun q => absurd q (by decide), fun q => by omega⟩, ⟨fun _ => by omega, fun _ => by decide⟩, ⟨fun q => absurd q (by decide), fun q => by omega⟩⟩
theorem beN_32 {v : Nat} (h : v < pP + 1) : beN (beV 32 v) = v := by
  have : pP < 256 ^ 32 := by decide +kernel
  rw [beN_beV, Nat.mod_eq_of_lt (by omega)]
theorem seg_all {xs : List UInt8} {n : Nat} (h : xs.length = n) : seg xs 0 n = xs := by
  unfold seg
  rw [List.drop_zero, ← h, List.take_length]
/-- a number of 32 bytes between 1 and the order less 1 -/
def secF (d : List UInt8) : Bool := decide (0 < beN d ∧ beN d < nP)
/-- a point is on the curve -/
def onC (x y : Nat) : Bool := decide (x < pP ∧ y < pP ∧ ((x : Int) * x * x - x - x - x + bP_) % (pP : Int) = ((y : Int) * y) % (pP : Int))
/-- what never changes of the class's curve -/
def CK (S : ST) (V : Nat → Int) : Prop := CS S V ∧ V 9 = bX_ ∧ V 10 = bY_ ∧ V 13 = bP_ ∧ V 14 = 1 ∧ MoS S 2 8 nP ∧ Byt 32 (S 0 72) (beV 32 pP) false ∧ Byt 32 (S 0 73) (beV 32 (pP - 2)) false ∧ Byt 32 (S 0 74) (beV 32 nP) false ∧ Byt 32 (S 0 75) (beV 32 (nP - 2)) false ∧ Byt 0 (S 0 79) [] false
theorem CK.c {S : ST} {V : Nat → Int} (h : CK S V) : CS S V := h.1
theorem CK.n {S : ST} {V : Nat → Int} (h : CK S V) : MoS S 2 8 nP := h.2.2.2.2.2.1
/-- frames that leave it -/
theorem CK.keep {S S' : ST} {V V' : Nat → Int} {L : List Cl} (h : CK S V) (f : lfr L S S') (hL : ∀ k, k = 2 ∨ k = 3 ∨ k = 4 → (.a 6 2 k : Cl) ∉ L) (C : CS S' V') (hk : ∀ k, 9 ≤ k → k ≠ 11 → k ≠ 12 → V' k = V k) : CK S' V' := by
  obtain ⟨_, a, b, c, d, m, b1, b2, b3, b4, b5⟩ := h
  exact ⟨C, (hk 9 (by omega) (by omega) (by omega)).trans a, (hk 10 (by omega) (by omega) (by omega)).trans b, (hk 13 (by omega) (by omega) (by omega)).trans c, (hk 14 (by omega) (by omega) (by omega)).trans d, m.lfr f (hL 2 (by omega)) (hL 3 (by omega)) (hL 4 (by omega)), Byt.lfr f b1, Byt.lfr f b2, Byt.lfr f b3, Byt.lfr f b4, Byt.lfr f b5⟩
theorem MoS.fr {S S' : ST} {i n m : Nat} {L : List (Nat × Nat)} (h : MoS S i n m) (f : fr L S S') (hi : (6, i) ∉ L) : MoS S' i n m := by
  have e6 := f 6 i hi
  obtain ⟨⟨m1, m2, m3, m4, m5⟩, ⟨tw, m6⟩, m7, m8⟩ := h
  have g6 : ∀ k, lgt S' (.a 6 i k) = lgt S (.a 6 i k) := fun k => by show (S' 6 i).l k = _; rw [e6]; rfl
  exact ⟨⟨by rw [e6]; exact m1, m2, m3, by rw [g6]; exact m4, m5⟩, ⟨tw, by rw [e6]; exact m6⟩, by rw [g6]; exact m7, by rw [g6]; exact m8⟩
theorem CK.fr {S S' : ST} {V : Nat → Int} {L : List (Nat × Nat)} (h : CK S V) (f : fr L S S') (hL : ∀ x ∈ [(3, 0), (6, 1), (6, 2), (0, 72), (0, 73), (0, 74), (0, 75), (0, 79)], x ∉ L) : CK S' V := by
  obtain ⟨C, a, b, c, d, m, b1, b2, b3, b4, b5⟩ := h
  exact ⟨C.fr f (hL _ (by simp)) (hL _ (by simp)), a, b, c, d, m.fr f (hL _ (by simp)), by rw [f 0 72 (hL _ (by simp))]; exact b1, by rw [f 0 73 (hL _ (by simp))]; exact b2, by rw [f 0 74 (hL _ (by simp))]; exact b3, by rw [f 0 75 (hL _ (by simp))]; exact b4, by rw [f 0 79 (hL _ (by simp))]; exact b5⟩
section LOADP
variable {W : WR} {G : mG} {F : Nat} {S : ST} {V : Nat → Int}
theorem isCu.gb (h : isCu W) (k : Nat) (hk : k < 4) (S : ST) : gfR (mem W S) (W.ad (.o 3 0)) 3 (4 + k) = some (W.ad (.o 0 (72 + k))) := by
  refine gfR_m h.1 ?_ (h.2.2.2.2.1 k hk).1
  have : k = 0 ∨ k = 1 ∨ k = 2 ∨ k = 3 := by omega
  rcases this with rfl | rfl | rfl | rfl <;> rfl
theorem isCu.bb (h : isCu W) (k : Nat) (hk : k < 4) : isB W (72 + k) 32 := (h.2.2.2.2.1 k hk).2
theorem isCu.g12 (h : isCu W) (S : ST) : gfR (mem W S) (W.ad (.o 3 0)) 3 12 = some (W.ad (.o 0 76)) := gfR_m h.1 rfl h.2.2.2.2.2.1
theorem isCu.b12 {W : WR} (h : isCu W) : isB W 76 64 := h.2.2.2.2.2.2.1
theorem isCu.g13 (h : isCu W) (S : ST) : gfR (mem W S) (W.ad (.o 3 0)) 3 13 = some (W.ad (.o 0 77)) := gfR_m h.1 rfl h.2.2.2.2.2.2.2.1
theorem isCu.b13 {W : WR} (h : isCu W) : isB W 77 32 := h.2.2.2.2.2.2.2.2.1
theorem isCu.g14 (h : isCu W) (S : ST) : gfR (mem W S) (W.ad (.o 3 0)) 3 14 = some (W.ad (.o 0 78)) := gfR_m h.1 rfl h.2.2.2.2.2.2.2.2.2.1
theorem isCu.b14 {W : WR} (h : isCu W) : isB W 78 32 := h.2.2.2.2.2.2.2.2.2.2.1
theorem isCu.g15 (h : isCu W) (S : ST) : gfR (mem W S) (W.ad (.o 3 0)) 3 15 = some (W.ad (.o 0 79)) := gfR_m h.1 rfl h.2.2.2.2.2.2.2.2.2.2.2.1
theorem isCu.b15 {W : WR} (h : isCu W) : isB W 79 0 := h.2.2.2.2.2.2.2.2.2.2.2.2.1
theorem Q0_cmpN {i i2 room room2 a b cnt : Nat} {xs ys : List UInt8} {l l2 : Bool} (X : Cx G F W) (hB : isB W i room) (hb : Byt room (S 0 i) xs l) (hB2 : isB W i2 room2) (hb2 : Byt room2 (S 0 i2) ys l2) (ha : a < 2 ^ 30) (hbb : b < 2 ^ 30) (hc : cnt < 90000) : P_X0_compare G F (W.ad (.o 0 i)) (Int32.ofNat a) (W.ad (.o 0 i2)) (Int32.ofNat b) (Int32.ofNat cnt) (mem W S) = some (ordF (bv (fun k => gN xs (a + k)) 0 cnt) (bv (fun k => gN ys (b + k)) 0 cnt), mem W S) := by
  rw [Q0_compare X hB hb hB2 hb2 ha hbb hc]
  simp only [gB_gN]
  rw [cmp_bv (f := fun k => gN xs (a + k)) (g := fun k => gN ys (b + k)) (fun j => gN_lt _ _) (fun j => gN_lt _ _)]
theorem Q3_isSecret {ib room at_ : Nat} {d : List UInt8} {l : Bool} (X : Cx G F W) (h : isCu W) (K : CK S V) (hB : isB W ib room) (hb : Byt room (S 0 ib) d l) (ha : at_ + 32 ≤ d.length) : P_X3_isSecret G F (W.ad (.o 3 0)) (W.ad (.o 0 ib)) (Int32.ofNat at_) (mem W S) = some (if secF (seg d at_ 32) = true then 1 else 0, mem W S) := by
  have hle := hb.le
  have hr := hB.hr
  obtain ⟨_, _, _, _, _, _, b1, b2, b3, b4, b5⟩ := K
  have c1 := Q0_cmpN (G := G) (F := F) (a := at_) (b := 0) (cnt := 32) X hB hb (h.bb 2 (by decide)) b3 (by omega) (by decide) (by decide)
  have c2 := Q0_cmpN (G := G) (F := F) (a := at_) (b := 0) (cnt := 32) X hB hb h.b15 b5 (by omega) (by decide) (by decide)
  rw [bv_seg 32 0 (by omega), bv_seg 32 0 (by rw [beV_len]; omega)] at c1
  simp only [Nat.add_zero] at c1
  rw [seg_all (beV_len 32 nP), beN_32 (by have := nP_pP; omega)] at c1
  rw [bv_seg 32 0 (by omega), bv_zero (fun j => gN_nil _)] at c2
  simp only [Nat.add_zero] at c2
  have c1' : P_X0_compare G F (W.ad (.o 0 ib)) (Int32.ofNat at_) (W.ad (.o 0 74)) 0 32 (mem W S) = _ := c1
  have c2' : P_X0_compare G F (W.ad (.o 0 ib)) (Int32.ofNat at_) (W.ad (.o 0 79)) 0 32 (mem W S) = _ := c2
  have gb := h.gb 2 (by decide) S
  have gb' : gfR (mem W S) (W.ad (.o 3 0)) 3 6 = some (W.ad (.o 0 74)) := gb
  unfold P_X3_isSecret secF
  rw [gb', bO_s, c1', bP_s]
  by_cases q1 : nP ≤ beN (seg d at_ 32)
  · rw [if_pos (ordF_neg.2.1.mpr q1), decide_eq_false (by omega), retZ0]
    rfl
  · rw [if_neg (fun q => q1 (ordF_neg.2.1.mp q)), h.g15, bO_s, c2', bP_s]
    by_cases q2 : beN (seg d at_ 32) ≤ 0
    · rw [if_pos (ordF_neg.2.2.1.mpr q2), decide_eq_false (by omega), retZ0]
      rfl
    · rw [if_neg (fun q => q2 (ordF_neg.2.2.1.mp q)), decide_eq_true (by omega), retZ1]
      rfl
/-- a cell is set to any number below p -/
theorem CS.put1 {S' : ST} {L : List Cl} {k v : Nat} (C : CS S V) (hk : k < 15) (f : lfr L S S') (hL : ∀ x ∈ L, x = wc k ∨ x = .a 6 1 5 ∨ x = .a 6 1 6 ∨ x = .a 6 1 7 ∨ ow x = (6, 2)) (hv : LV (lgt S' (wc k)) 8 v) (hp : v < pP) : ∃ A, v = mf 8 pP A ∧ CS S' (iu V k A) := by
  obtain ⟨A, hA⟩ := mf_any (n := 8) pP_1 pP_2 hp
  have nin : ∀ j, j = 2 ∨ j = 3 ∨ j = 4 → (.a 6 1 j : Cl) ∉ L := by
    intro j hj q
    rcases hL _ q with e | e | e | e | e
    · exact wc_no k hk 1 j e.symm
    · simp at e; omega
    · simp at e; omega
    · simp at e; omega
    · simp [ow] at e
  refine ⟨A, hA, C.1.lfr f (nin 2 (by omega)) (nin 3 (by omega)) (nin 4 (by omega)), fun j hj => ?_⟩
  unfold FV iu
  by_cases c : j = k
  · rw [if_pos c, c, ← hA]; exact hv
  · rw [if_neg c, f.2 _ (fun q => by
      rcases hL _ q with e | e | e | e | e
      · exact c (wc_inj j hj k hk e)
      · exact wc_no j hj 1 _ e
      · exact wc_no j hj 1 _ e
      · exact wc_no j hj 1 _ e
      · rw [wc_ow j hj] at e; exact absurd e (by decide))]
    exact C.2 j hj
theorem cu_take {ib room p : Nat} {xs : List UInt8} {l : Bool} (X : Cx G F W) (h : isCu W) (C : CS S V) (k : Nat) (hk : k < 15) (hB : isB W ib room) (hb : Byt room (S 0 ib) xs l) (hp : p + 32 ≤ xs.length) : ∃ S' A, P_X6_take G F (W.ad (.o 6 1)) (W.ad (.o 0 ib)) (Int32.ofNat p) 32 (W.ad (wc k)) (mem W S) = some (mem W S') ∧ lfr [wc k, .a 6 1 6, .a 6 1 7] S S' ∧ CS S' (iu V k A) ∧ LV (lgt S' (wc k)) 8 (beN (seg xs p 32) % pP) := by
  obtain ⟨S1, g1, f1, M1, v1⟩ := Q6_take (G := G) (F := F) (p := p) (many := 32) X h.mo hB (h.lk hk) (by omega) (by rw [wc_ow k hk]; decide) hp (by omega) C.1 hb
  obtain ⟨A, _, C1⟩ := C.put1 hk f1 (by simp) v1 (Nat.mod_lt _ (by have := pP_1; omega))
  exact ⟨S1, A, g1, f1, C1, v1⟩
theorem cu_lead {v : Nat} (X : Cx G F W) (h : isCu W) (C : CS S V) (k : Nat) (hk : k < 15) (hv : LV (lgt S (wc k)) 8 v) : ∃ S', P_X6_lead G F (W.ad (.o 6 1)) (W.ad (wc k)) (mem W S) = some (mem W S') ∧ lfr [wc k, .a 6 1 7] S S' ∧ CS S' (iu V k (v : Int)) := by
  obtain ⟨S1, g1, f1, v1, M1⟩ := Q6_lead (G := G) (F := F) X h.mo C.1 (h.lk hk) (by omega) (by rw [wc_ow k hk]; decide) hv
  rw [mf_lead pP_1] at v1
  exact ⟨S1, g1, f1, C.put hk f1 v1⟩
theorem cu_back (X : Cx G F W) (h : isCu W) (C : CS S V) (k : Nat) (hk : k < 15) : ∃ S' A, P_X6_leadBack G F (W.ad (.o 6 1)) (W.ad (wc k)) (mem W S) = some (mem W S') ∧ lfr [wc k, .a 6 1 7] S S' ∧ CS S' (iu V k A) ∧ LV (lgt S' (wc k)) 8 (rs pP (V k)) := by
  obtain ⟨S1, g1, f1, v1, M1⟩ := Q6_back (G := G) (F := F) X h.mo C.1 (h.lk hk) (by omega) (by rw [wc_ow k hk]; decide) (C.2 k hk)
  rw [mf_back pP_1 pP_2] at v1
  obtain ⟨A, _, C1⟩ := C.put1 hk f1 (by simp) v1 (rs_lt pP_1 _)
  exact ⟨S1, A, g1, f1, C1, v1⟩
theorem cu_raise {ib room v : Nat} {ys : List UInt8} {l : Bool} (X : Cx G F W) (h : isCu W) (C : CS S V) (i k : Nat) (hi : i < 15) (hk : k < 15) (hB : isB W ib room) (hb : Byt room (S 0 ib) ys l) (hys : ys.length ≤ 1000) (hv : LV (lgt S (wc i)) 8 v) : ∃ S' A, P_X6_raise G F (W.ad (.o 6 1)) (W.ad (wc i)) (W.ad (.o 0 ib)) (W.ad (wc k)) (mem W S) = some (mem W S') ∧ lfr [wc k, .a 6 1 5, .a 6 1 6, .a 6 1 7] S S' ∧ CS S' (iu V k A) ∧ LV (lgt S' (wc k)) 8 (rz v pP ys (8 * ys.length)) := by
  obtain ⟨S1, g1, f1, M1, v1⟩ := Q6_raise (G := G) (F := F) X h.mo hB (h.lk hi) (by omega) (h.lk hk) (by omega) (by rw [wc_ow i hi]; decide) (by rw [wc_ow k hk]; decide) (by omega) C.1 hb hv
  obtain ⟨A, _, C1⟩ := C.put1 hk f1 (by simp) v1 (rz_lt pP_1 _)
  exact ⟨S1, A, g1, f1, C1, v1⟩
end LOADP
