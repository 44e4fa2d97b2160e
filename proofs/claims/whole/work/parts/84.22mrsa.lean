/-! A KEY OF RSA: the model -/
def rsG (A B : List UInt8) : Bool := decide (inL A 64 128 = true ∧ suitsF A = true ∧ inL B 1 128 = true ∧ suitsF B = true ∧ belF B A = true)
def rsC (A B C : List UInt8) : Bool := decide (inL C 1 128 = true ∧ gN C 0 ≠ 0 ∧ belF C A = true) && rpF A B C
theorem belF_le {xs ys : List UInt8} (h : belF xs ys = true) : xs.length ≤ ys.length := by
  unfold belF at h
  rw [Bool.or_eq_true, Bool.and_eq_true, decide_eq_true_iff, decide_eq_true_iff] at h
  omega
theorem rp_val {A B C : List UInt8} {m : Nat} (hA : suitsF A = true) (hm : m = beN A) : beN (powF (powF [2] B A) C A) = rz (rz (2 % m) m B (8 * B.length)) m C (8 * C.length) := by
  obtain ⟨hm1, hm2⟩ := suits_m hA
  rw [← hm] at hm1 hm2
  have lt := beN_lt A
  rw [← hm] at lt
  have i1 : beN (powF [2] B A) = rz (2 % m) m B (8 * B.length) := by
    unfold powF
    rw [beN_beV, ← hm, show beN [2] = 2 from rfl]
    have := rz_lt (x := 2 % m) (ys := B) hm1 (8 * B.length)
    exact Nat.mod_eq_of_lt (by omega)
  have e : powF (powF [2] B A) C A = beV A.length (rz (beN (powF [2] B A) % m) m C (8 * C.length)) := by
    rw [hm]
    rfl
  rw [e, beN_beV, i1, Nat.mod_eq_of_lt (rz_lt hm1 _)]
  have := rz_lt (x := rz (2 % m) m B (8 * B.length)) (ys := C) hm1 (8 * C.length)
  exact Nat.mod_eq_of_lt (by omega)
section MRSA
variable {W : WR} {G : mG} {F : Nat} {S : ST}
theorem QM_rsaPair {nA nB nC : Nat} {βa βb βc : Nat → UInt8} (X : Cx G F W) (h : isM W) (hmm : isMm W) (ba : mB (S 13 0) 96 βa) (bb : mB (S 13 0) 97 βb) (bc : mB (S 13 0) 98 βc) (h1 : (S 13 0).f 99 = (Int32.ofNat nA)) (h2 : (S 13 0).f 100 = (Int32.ofNat nB)) (h3 : (S 13 0).f 101 = (Int32.ofNat nC)) (la : nA ≤ 128) (lb_ : nB ≤ 128) (lc : nC ≤ 128) (lA : 64 ≤ nA) (hs : suitsF (rdB βa 0 nA) = true) : ∃ S', (bO (gfR (mem W S) (W.ad (.o 13 0)) 13 57) fun v192 =>
  bO (gfR (mem W S) (W.ad (.o 13 0)) 13 96) fun v196 =>
  bO (gfI (mem W S) (W.ad (.o 13 0)) 13 99) fun v201 =>
  bO (rcv (mem W S) v192 12) fun _ =>
  bO (P_X12_set G F v192 v196 (0 : Int32) v201 (mem W S)) fun M204 =>
  bO (gfR M204 (W.ad (.o 13 0)) 13 57) fun v208 =>
  bO (gfR M204 (W.ad (.o 13 0)) 13 57) fun v212 =>
  bO (gfR M204 v212 12 3) fun v215 =>
  bO (gfR M204 (W.ad (.o 13 0)) 13 57) fun v219 =>
  bO (gfR M204 v219 12 3) fun v222 =>
  bO (gfR M204 (W.ad (.o 13 0)) 13 60) fun v226 =>
  bO (rcv M204 v208 12) fun _ =>
  bO (P_X12_add G F v208 v215 v222 v226 M204) fun M229 =>
  bO (gfR M229 (W.ad (.o 13 0)) 13 57) fun v233 =>
  bO (gfR M229 (W.ad (.o 13 0)) 13 60) fun v237 =>
  bO (gfR M229 (W.ad (.o 13 0)) 13 97) fun v241 =>
  bO (gfI M229 (W.ad (.o 13 0)) 13 100) fun v246 =>
  bO (gfR M229 (W.ad (.o 13 0)) 13 61) fun v250 =>
  bO (rcv M229 v233 12) fun _ =>
  bO (P_X12_power G F v233 v237 v241 (0 : Int32) v246 v250 M229) fun M253 =>
  bO (gfR M253 (W.ad (.o 13 0)) 13 57) fun v257 =>
  bO (gfR M253 (W.ad (.o 13 0)) 13 61) fun v261 =>
  bO (gfR M253 (W.ad (.o 13 0)) 13 98) fun v265 =>
  bO (gfI M253 (W.ad (.o 13 0)) 13 101) fun v270 =>
  bO (gfR M253 (W.ad (.o 13 0)) 13 61) fun v274 =>
  bO (rcv M253 v257 12) fun _ =>
  bO (P_X12_power G F v257 v261 v265 (0 : Int32) v270 v274 M253) fun M277 =>
  bO (gfR M277 (W.ad (.o 13 0)) 13 57) fun v281 =>
  bO (gfR M277 (W.ad (.o 13 0)) 13 60) fun v285 =>
  bO (gfR M277 (W.ad (.o 13 0)) 13 61) fun v289 =>
  bO (rcv M277 v281 12) fun _ =>
  bP (P_X12_order G F v281 v285 v289 M277) fun v292 M292 =>
  if v292 = 0 then (retZ (1 : Int32) M292)
  else (retZ (0 : Int32) M292)) = some (if rpF (rdB βa 0 nA) (rdB βb 0 nB) (rdB βc 0 nC) = true then 1 else 0, mem W S') ∧ fr [(12, 0), (13, 0)] S S' ∧ agr [] [] [60, 61] [] (S 13 0) (S' 13 0) := by
  obtain ⟨r57, r58, r59, hd, _, _⟩ := hmm
  have g57 : ∀ S : ST, gfR (mem W S) (W.ad (.o 13 0)) 13 57 = some (W.ad (.o 12 0)) := fun S => gfR_m h.lo rfl r57
  have gu : ∀ S : ST, gfR (mem W S) (W.ad (.o 12 0)) 12 3 = some (W.ad (.a 12 0 3)) := fun S => gfR_m hd.1 rfl (hd.2 3 (by omega)).1
  have i60 := h.iok 60 (by decide) rfl
  have i61 := h.iok 61 (by decide) rfl
  have i3 := (hd.2 3 (by omega)).2
  obtain ⟨S1, g1, f1, M1⟩ := Q12_set (G := G) (F := F) (p := 0) (size := nA) X h hd (kb := 96) rfl (by decide) (by show 0 + nA ≤ 8200; omega) ba hs
  obtain ⟨n, hn⟩ : ∃ n, n = (nA + 3) / 4 := ⟨_, rfl⟩
  rw [← hn] at M1
  obtain ⟨m, hmd⟩ : ∃ m, m = beN (rdB βa 0 nA) := ⟨_, rfl⟩
  rw [← hmd] at M1
  have hm1 := M1.b.2.2.2.2.1
  have hm2 := M1.b.2.2.2.2.2
  have e13 : S1 13 0 = S 13 0 := f1 13 0 (by simp)
  have u := M1.unit
  have ul : 4294967296 ^ n % m < m := Nat.mod_lt _ (by omega)
  obtain ⟨S2, g2, f2, v2⟩ := Q12_add (G := G) (F := F) (S := S1) (i := 0) (n := n) (m := m) (x := .a 12 0 3) (y := .a 12 0 3) (to := .a 13 0 60) X hd M1.b i3 i3 i60 (by show n ≤ 34; omega) (by show n ≤ 34; omega) (by show n ≤ 34; omega) (by simp) u u (by omega)
  have M2 := M1.ifr f2 (by simp) (by simp) (by simp)
  have ev2 : (4294967296 ^ n % m + 4294967296 ^ n % m) % m = 2 % m * 4294967296 ^ n % m := by
    rw [show 2 % m = 2 from Nat.mod_eq_of_lt (by omega), ← Nat.add_mod, Nat.two_mul]
  rw [ev2] at v2
  have b2 : ∀ {k : Nat} {β : Nat → UInt8}, mB (S 13 0) k β → k ≠ 60 → mB (S2 13 0) k β := fun {k β} q hk => f2.mB (by rw [e13]; exact q) (by simp [hk])
  obtain ⟨S3, g3, f3, M3, v3⟩ := Q12_power (G := G) (F := F) (S := S2) (i := 0) (p := 0) (size := nB) (x := 2 % m) (xc := .a 13 0 60) (to := .a 13 0 61) X h hd (kb := 97) rfl (by decide) i60 (by show n ≤ 34; omega) i61 (by show n ≤ 34; omega) (by show 0 + nB ≤ 8200; omega) (by omega) (by simp [ow]) (by simp [ow]) M2 (b2 bb (by decide)) v2
  have b3 : ∀ {k : Nat} {β : Nat → UInt8}, mB (S 13 0) k β → k ≠ 60 → k ≠ 61 → mB (S3 13 0) k β := fun {k β} q hk hk2 => f3.mB (b2 q hk) (by simp [hk2])
  obtain ⟨S4, g4, f4, M4, v4⟩ := Q12_power (G := G) (F := F) (S := S3) (i := 0) (p := 0) (size := nC) (x := rz (2 % m) m (rdB βb 0 nB) (8 * nB)) (xc := .a 13 0 61) (to := .a 13 0 61) X h hd (kb := 98) rfl (by decide) i61 (by show n ≤ 34; omega) i61 (by show n ≤ 34; omega) (by show 0 + nC ≤ 8200; omega) (by omega) (by simp [ow]) (by simp [ow]) M3 (b3 bc (by decide) (by decide)) v3
  have v60 : IV (igt S4 (.a 13 0 60)) n (2 % m * 4294967296 ^ n % m) := by
    rw [f4.2 _ (by simp), f3.2 _ (by simp)]
    exact v2
  have g5 := Q12_order (G := G) (F := F) (S := S4) (i := 0) X hd i60 i61 M4.b.2.2.1 (by show n ≤ 34; omega) (by show n ≤ 34; omega) M4.b.1 v60 v4
  have fA : ∀ {L : List Cl} {Sa Sb : ST}, ifr L Sa Sb → (∀ x ∈ L, ow x ∈ [(12, 0), (13, 0)]) → fr [(12, 0), (13, 0)] Sa Sb := fun f ho => f.fr ho
  refine ⟨S4, ?_, (f1.mono (by simp)).trans ((fA f2 (by simp [ow])).trans ((fA f3 (by simp [ow])).trans (fA f4 (by simp [ow])))), ?_⟩
  · have g1' : P_X12_set G F (W.ad (.o 12 0)) (W.ad (.a 13 0 96)) 0 (Int32.ofNat nA) (mem W S) = _ := g1
    have g3' : P_X12_power G F (W.ad (.o 12 0)) (W.ad (.a 13 0 60)) (W.ad (.a 13 0 97)) 0 (Int32.ofNat nB) (W.ad (.a 13 0 61)) (mem W S2) = _ := g3
    have g4' : P_X12_power G F (W.ad (.o 12 0)) (W.ad (.a 13 0 61)) (W.ad (.a 13 0 98)) 0 (Int32.ofNat nC) (W.ad (.a 13 0 61)) (mem W S3) = _ := g4
    have e2 : (S2 13 0).f 100 = (Int32.ofNat nB) := by rw [(f2.1 13 0).1, e13]; exact h2
    have e3 : (S3 13 0).f 101 = (Int32.ofNat nC) := by rw [(f3.1 13 0).1, (f2.1 13 0).1, e13]; exact h3
    rw [g57, bO_s, h.gR 96 rfl (by decide), bO_s, h.gI 99 rfl, bO_s, rcv_m hd.1, bO_s, h1, g1', bO_s, g57, bO_s, bO_s, gu, bO_s, bO_s, gu, bO_s, h.gR 60 rfl (by decide), bO_s, rcv_m hd.1, bO_s, g2, bO_s, g57, bO_s, h.gR 60 rfl (by decide), bO_s, h.gR 97 rfl (by decide), bO_s, h.gI 100 rfl, bO_s, e2, h.gR 61 rfl (by decide), bO_s, rcv_m hd.1, bO_s, g3', bO_s, g57, bO_s, h.gR 61 rfl (by decide), bO_s, h.gR 98 rfl (by decide), bO_s, h.gI 101 rfl, bO_s, e3, bO_s, rcv_m hd.1, bO_s, g4', bO_s, g57, bO_s, h.gR 60 rfl (by decide), bO_s, h.gR 61 rfl (by decide), bO_s, rcv_m hd.1, bO_s, g5, bP_s, rz1, rz0]
    have val := rp_val (B := rdB βb 0 nB) (C := rdB βc 0 nC) hs hmd
    rw [rdB_len, rdB_len] at val
    have m2 : 2 % m = 2 := Nat.mod_eq_of_lt (by omega)
    have hr := rz_lt (x := rz (2 % m) m (rdB βb 0 nB) (8 * nB)) (ys := rdB βc 0 nC) hm1 (8 * nC)
    have iff : (2 % m * 4294967296 ^ n % m = rz (rz (2 % m) m (rdB βb 0 nB) (8 * nB)) m (rdB βc 0 nC) (8 * nC) * 4294967296 ^ n % m) ↔ beN (powF (powF [2] (rdB βb 0 nB) (rdB βa 0 nA)) (rdB βc 0 nC) (rdB βa 0 nA)) = 2 := by
      rw [val]
      constructor
      · intro e
        have a1 := M_back (n := n) hm1 hm2 (2 % m)
        have a2 := M_back (n := n) hm1 hm2 (rz (rz (2 % m) m (rdB βb 0 nB) (8 * nB)) m (rdB βc 0 nC) (8 * nC))
        rw [e] at a1
        rw [a1, Nat.mod_mod, Nat.mod_eq_of_lt hr] at a2
        rw [← a2, m2]
      · intro e
        rw [e, m2]
    unfold rpF ordF
    by_cases c : 2 % m * 4294967296 ^ n % m = rz (rz (2 % m) m (rdB βb 0 nB) (8 * nB)) m (rdB βc 0 nC) (8 * nC) * 4294967296 ^ n % m
    · rw [if_pos c, if_pos rfl, if_pos (decide_eq_true (iff.mp c))]
    · rw [if_neg c, if_neg (fun q => c (iff.mpr (of_decide_eq_true q)))]
      split
      · rw [if_neg (by decide)]
      · rw [if_neg (by decide)]
  · rw [← e13]
    exact ((f2.agr (by simp)).trans (f3.agr (by simp))).trans (f4.agr (by simp))
end MRSA
