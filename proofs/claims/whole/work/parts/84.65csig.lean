/-! A SIGNATURE MADE: the class -/
abbrev isA (W : WR) : Prop := isT W ∧ isD W ∧ isRs W ∧ isCu W ∧ isTK W ∧ isCi W ∧ isCo W ∧ W.r 11 0 12 = some (.o 4 0) ∧ W.r 11 0 13 = some (.o 1 0) ∧ W.r 11 0 14 = some (.o 2 0) ∧ W.r 11 0 15 = some (.o 8 0) ∧ W.r 11 0 16 = some (.o 3 0) ∧ W.r 11 0 17 = some (.o 10 0)
/-- every Bytes holds something -/
def AB (W : WR) (S : ST) : Prop := ∀ i room, i < 94 → isB W i room → ∃ xs l, Byt room (S 0 i) xs l
theorem AB.keep {W : WR} {S S' : ST} {L : List (Nat × Nat)} (A : AB W S) (f : fr L S S') (h : ∀ i room, (0, i) ∈ L → isB W i room → ∃ xs l, Byt room (S' 0 i) xs l) : AB W S' := by
  intro i room h9 hB
  by_cases q : (0, i) ∈ L
  · exact h i room q hB
  · rw [f 0 i q]
    exact A i room h9 hB
theorem isB.one {W : WR} {i r r' : Nat} (h : isB W i r) (h' : isB W i r') : r = r' := h.2.2.2.1.symm.trans h'.2.2.2.1
/-- which bit of a number's first byte is the highest -/
def bitT (n : List UInt8) : Nat := Nat.log2 (gN n 0)
theorem bitT_of {n : List UInt8} (h : gN n 0 ≠ 0) : bitT n < 8 ∧ 2 ^ bitT n ≤ gN n 0 ∧ gN n 0 < 2 ^ (bitT n + 1) := by
  have l : gN n 0 < 256 := gN_lt n 0
  have a := Nat.log2_self_le h
  have b := Nat.lt_log2_self (n := gN n 0)
  refine ⟨?_, a, b⟩
  show Nat.log2 (gN n 0) < 8
  exact (Nat.log2_lt h).mpr l
theorem KyV.rsa {K : KY} (h : KyV K) (e : K.1 = 1) : suitsF K.2.1.1 = true ∧ 64 ≤ K.2.1.1.length ∧ K.2.1.2.1.length ≤ 128 ∧ 1 ≤ K.2.1.2.1.length := by
  obtain ⟨s, J, kd, k, h1, h2, h3, h4, h5⟩ := h
  rw [h5] at e ⊢
  have e : kd = 1 := e
  have q := (kyR_k h3).2
  rw [e] at q
  have q : rsaN J = some k := q
  show suitsF k.1 = true ∧ 64 ≤ k.1.length ∧ k.2.1.length ≤ 128 ∧ 1 ≤ k.2.1.length
  unfold rsaN at q
  split at q
  · rename_i c
    obtain ⟨c1, c2, c3, c4, c5⟩ := c
    unfold inL at c1 c3
    rw [Bool.and_eq_true, decide_eq_true_iff, decide_eq_true_iff] at c1 c3
    split at q
    · split at q
      · rw [← Option.some.inj q]
        exact ⟨c2, c1.1, c3.2, c3.1⟩
      · exact absurd q (by simp)
    · rw [← Option.some.inj q]
      exact ⟨c2, c1.1, c3.2, c3.1⟩
  · exact absurd q (by simp)
theorem KyV.ec {K : KY} (h : KyV K) (e : K.1 = 2) : onC (beN (seg K.2.1.1 0 32)) (beN (seg K.2.1.1 32 32)) = true ∧ ∀ d, K.2.1.2.2 = some d → d.length = 32 ∧ secF (seg d 0 32) = true := by
  obtain ⟨s, J, kd, k, h1, h2, h3, h4, h5⟩ := h
  rw [h5] at e ⊢
  have e : kd = 2 := e
  have q := (kyR_k h3).2
  rw [e] at q h4
  have l := kyN_2 q
  unfold blF at h4
  rw [if_neg (by decide), if_pos rfl, Bool.and_eq_true] at h4
  refine ⟨h4.1, fun d hd => ?_⟩
  have hd : k.2.2 = some d := hd
  rw [hd] at h4
  refine ⟨l.2 d hd, ?_⟩
  have h4 : pairF d k.1 = true := h4.2
  unfold pairF at h4
  rw [Bool.and_eq_true] at h4
  exact h4.1
/-- a signature, or none -/
def sgF (a : Nat) (K : KY) (msg rnd : List UInt8) : Option (List UInt8) := if a = 0 then some (hmac false K.2.1.1 msg) else if a = 1 then some (hmac true K.2.1.1 msg) else if a = 2 then some (powF (pkF (sha false msg) K.2.1.1.length) (K.2.1.2.2.getD []) K.2.1.1) else if 32 ≤ rnd.length then (if a = 3 then some (powF (psF (sha false msg) (seg rnd 0 32) (8 * (K.2.1.1.length - 1) + bitT K.2.1.1)) (K.2.1.2.2.getD []) K.2.1.1) else (sigF (sha false msg) (K.2.1.2.2.getD []) rnd).map fun rs => beV 32 rs.1 ++ beV 32 rs.2) else none
section CSG
variable {W : WR} {G : mG} {F : Nat} {S : ST} {j κ rk : Nat} {K : KY}
theorem isA.t {W : WR} (h : isA W) : isT W := h.1
theorem isT.wk {W : WR} (h : isT W) : W.r 11 0 4 = some (.o 0 11) ∧ isB W 11 22528 ∧ W.r 11 0 5 = some (.o 0 12) ∧ isB W 12 8192 ∧ W.r 11 0 6 = some (.o 0 13) ∧ isB W 13 8192 ∧ W.r 11 0 3 = some (.o 0 10) ∧ isB W 10 0 := ⟨h.2.2.2.2.2.2.2.2.2.2.2.2.1, h.2.2.2.2.2.2.2.2.2.2.2.2.2.1, h.2.2.2.2.2.2.2.2.2.2.2.2.2.2.1, h.2.2.2.2.2.2.2.2.2.2.2.2.2.2.2.1, h.2.2.2.2.2.2.2.2.2.2.2.2.2.2.2.2.1, h.2.2.2.2.2.2.2.2.2.2.2.2.2.2.2.2.2, h.2.2.2.2.2.2.2.2.2.2.1, h.2.2.2.2.2.2.2.2.2.2.2.1⟩
theorem Q11_hashWork {it rt : Nat} {msg xs : List UInt8} {l lx : Bool} (X : Cx G F W) (A : isA W) (b11 : Byt 22528 (S 0 11) msg l) (hT : isB W it rt) (ht : it ≠ 11) (hrt : 32 ≤ rt) (bt : Byt rt (S 0 it) xs lx) : ∃ S', P_X11_hashWork G F (W.ad (.o 11 0)) (W.ad (.o 0 it)) (mem W S) = some (mem W S') ∧ fr [(4, 0), (0, it)] S S' ∧ Byt rt (S' 0 it) (sha false msg) false := by
  obtain ⟨h, hd, _, _, _, _, _, h12, _⟩ := A
  obtain ⟨w4, B4, _⟩ := h.wk
  have ml := b11.le
  obtain ⟨o1, g1, b1⟩ := Q0_clear (G := G) (F := F) (S := S) hT bt
  obtain ⟨o2, g2, d2, a2⟩ := Q4_start (G := G) (F := F) (S := S.so 0 it o1) (wide := false) X hd
  have g2 : P_X4_start G F (W.ad (.o 4 0)) 256 (mem W (S.so 0 it o1)) = _ := g2
  have b11' : Byt 22528 ((S.so 0 it o1) 0 11) msg l := by rw [so_ne (by omega)]; exact b11
  obtain ⟨o3, g3, d3, a3⟩ := Q4_addAll (G := G) (F := F) (S := S.so 0 it o1) (i := 11) X hd B4 b11' (by omega) d2 (by decide)
  rw [List.nil_append] at d3
  obtain ⟨S4, g4, f4, d4, a4, b4⟩ := Q4_finish (G := G) (F := F) (S := (S.so 0 it o1).so 4 0 o3) (i := it) (xs := []) (lost := false) X hd hT (by rw [so_eq]; exact d3) (by omega) (by rw [so_ne (by omega), so_eq]; exact b1)
  have sl : (sha false msg).length = 32 := sha_len _ _
  rw [tkl_fit (by rw [List.length_nil]; omega), lsl_fit (by rw [List.length_nil]; omega), List.nil_append] at b4
  refine ⟨S4, ?_, ((fr_so (by simp)).trans (fr_so (by simp))).trans f4, b4⟩
  unfold P_X11_hashWork
  rw [rcv_m hT.lo, bO_s, g1, bO_s, h.gR rfl h12, bO_s, rcv_m hd.1, bO_s, g2, bO_s, h.gR rfl h12, bO_s, h.gR rfl w4, bO_s, bO_s, B4.gI 1 rfl, bO_s, rcv_m hd.1, bO_s, so_ne (by omega), b11'.many, g3, bO_s, h.gR rfl h12, bO_s, rcv_m hd.1, bO_s, g4, bO_s]
theorem Q11_codeWork {it rt : Nat} {wide : Bool} {key msg xs : List UInt8} {l lx lk : Bool} (X : Cx G F W) (A : isA W) (ab : AB W S) (H : isKo W j) (hj : j ≤ 16) (bk : Byt 128 (S 0 (16 + 3 * j)) key lk) (b11 : Byt 22528 (S 0 11) msg l) (hT : isB W it rt) (ht : it ≠ 11 ∧ it ≠ 67) (bt : Byt rt (S 0 it) xs lx) : ∃ S', P_X11_codeWork G F (W.ad (.o 11 0)) (W.ad (.o 5 j)) (if wide = true then 1 else 0) (W.ad (.o 0 it)) (mem W S) = some (mem W S') ∧ fr [(4, 0), (0, 67), (0, it)] S S' ∧ Byt rt (S' 0 it) (tkl rt xs (hmac wide key msg)) (lsl rt xs (hmac wide key msg) lx) ∧ ∃ ys l, Byt 64 (S' 0 67) ys l := by
  obtain ⟨h, hd, _, _, _, _, _, h12, _⟩ := A
  obtain ⟨w4, B4, _⟩ := h.wk
  have ml := b11.le
  have kl := bk.le
  have hK := H.2.2.2.2.1
  have hb128 : bb wide ≤ 128 := by cases wide <;> decide
  obtain ⟨y67, l67, b67⟩ := ab 67 64 (by decide) hd.in.2
  obtain ⟨S1, g1, f1, d1, k1, ys1, l1, i1⟩ := Q4_startCode (G := G) (F := F) (S := S) (wide := wide) (i := 16 + 3 * j) (start := 0) (stop := key.length) (xs := key) X hd hK (by omega) (by omega) (by omega) (by omega) bk b67
  rw [List.drop_zero, Nat.sub_zero, List.take_length] at d1 k1
  have g1 : P_X4_startCode G F (W.ad (.o 4 0)) (if wide = true then 512 else 256) (W.ad (.o 0 (16 + 3 * j))) 0 (Int32.ofNat key.length) (mem W S) = some (mem W S1) := g1
  have b1 : Byt 22528 (S1 0 11) msg l := by rw [f1 0 11 (by simp)]; exact b11
  obtain ⟨o2, g2, d2, a2⟩ := Q4_add (G := G) (F := F) (S := S1) (i := 11) (k := 0) (stop := msg.length) (xs := msg) X hd B4 (by omega) (by omega) (by omega) b1 d1 (by rw [xk_len]; omega)
  rw [List.drop_zero, Nat.sub_zero, List.take_length] at d2
  have g2 : P_X4_add G F (W.ad (.o 4 0)) (W.ad (.o 0 11)) 0 (Int32.ofNat msg.length) (mem W S1) = some (mem W (S1.so 4 0 o2)) := g2
  obtain ⟨S4, g4, f4, b4, i4⟩ := Q4_finishCode (G := G) (F := F) (S := S1.so 4 0 o2) (i := it) (xs := xs) (l1 := lx) (key := key) (msg := msg) X hd hT ht.2 (by rw [so_eq]; exact d2) (by omega) (fun t ht => by rw [so_eq, a2.2.2.1 9 (by decide)]; exact k1 t ht) (by rw [so_ne (by omega), f1 0 it (by simp [ht.2])]; exact bt) (by rw [so_ne (by omega)]; exact i1)
  have e17 : B_X11_codeWork_17 G F (W.ad (.o 11 0)) (W.ad (.o 5 j)) (W.ad (.o 0 it)) (W.ad (.o 4 0)) (if wide = true then 512 else 256) (mem W S) = some (mem W S4) := by
    unfold B_X11_codeWork_17
    rw [gfR_m H.1 rfl H.2.1, bO_s, bO_s, hK.gI 1 rfl, bO_s, rcv_m hd.1, bO_s, bk.many, g1, bO_s, h.gR rfl h12, bO_s, h.gR rfl w4, bO_s, bO_s, B4.gI 1 rfl, bO_s, rcv_m hd.1, bO_s, b1.many, g2, bO_s, h.gR rfl h12, bO_s, rcv_m hd.1, bO_s, g4, bO_s]
  refine ⟨S4, ?_, ((f1.mono (by simp)).trans (fr_so (by simp))).trans (f4.mono (by simp)), b4, i4⟩
  unfold P_X11_codeWork
  rw [h.gR rfl h12, bO_s]
  cases wide
  · rw [if_pos (show (if false = true then (1 : Int32) else 0) = 0 from rfl)]
    exact e17
  · rw [if_neg (show ¬ (if true = true then (1 : Int32) else 0) = 0 by decide)]
    exact e17
end CSG
