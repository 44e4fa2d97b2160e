/-! A SIGNATURE TOLD RIGHT OR NOT: the class, by its alg -/
/-- a signature is right -/
def svF (a : Nat) (K : KY) (msg sg : List UInt8) : Bool := if a = 0 then decide (hmac false K.2.1.1 msg = sg) else if a = 1 then decide (hmac true K.2.1.1 msg = sg) else if a = 2 then pkV (sha false msg) sg K.2.1.2.1 K.2.1.1 else if a = 3 then (numF sg K.2.1.1 && psV (sha false msg) (powF sg K.2.1.2.1 K.2.1.1) (8 * (K.2.1.1.length - 1) + bitT K.2.1.1)) else verF (sha false msg) sg K.2.1.1
abbrev svL : List (Nat × Nat) := [(4, 0), (6, 0), (6, 1), (6, 2), (8, 0), (3, 0), (0, 67), (0, 69), (0, 70), (0, 71), (0, 76), (0, 77), (0, 78), (0, 13)]
section CVF
variable {W : WR} {G : mG} {F : Nat} {S : ST} {j κ rk : Nat} {K : KY}
theorem Q11_sigRight {V : Nat → Int} {a : Nat} {msg sg : List UInt8} {lm ls : Bool} (X : Cx G F W) (A : isA W) (ab : AB W S) (C : CK S V) (H : isKo W j) (hj : j ≤ 16) (O : KyO S j κ rk K) (V_ : KyV K) (ha : a < 5) (hm : maySg K a false = true) (f1 : (S 10 0).f 1 = (Int32.ofNat a)) (b11 : Byt 22528 (S 0 11) msg lm) (b12 : Byt 8192 (S 0 12) sg ls) : ∃ S' V', P_X11_signatureIsRight G F (W.ad (.o 11 0)) (W.ad (.o 5 j)) (mem W S) = some (if svF a K msg sg = true then 1 else 0, mem W S') ∧ fr svL S S' ∧ AB W S' ∧ CK S' V' := by
  obtain ⟨h, hd, hrs, hcu, htk, hci, hco, h12, h13, h14, h15, h16, h17⟩ := id A
  obtain ⟨w4, B4, w5, B5, w6, B6, w3, B3⟩ := h.wk
  obtain ⟨kd1, kd2, _⟩ := maySg_kd hm
  obtain ⟨o1, o2, o3, o4, o5, ⟨t1, t2, t3⟩, o7⟩ := O
  have sl := b12.le
  obtain ⟨x13, l13, b13⟩ := ab 13 8192 (by decide) B6
  obtain ⟨p1, g1, b1⟩ := Q0_clear (G := G) (F := F) (S := S) B6 b13
  obtain ⟨S1, hS1⟩ : ∃ S1, S1 = S.so 0 13 p1 := ⟨_, rfl⟩
  have fS1 : fr svL S S1 := by rw [hS1]; exact fr_so (by simp [svL])
  have b13' : Byt 8192 (S1 0 13) [] false := by rw [hS1, so_eq]; exact b1
  have e1 : ∀ c i, ¬ (c = 0 ∧ i = 13) → S1 c i = S c i := fun c i q => by rw [hS1, so_ne q]
  have ab1 : AB W S1 := by rw [hS1]; exact ab.so B6 b1
  have C1 : CK S1 V := by rw [hS1]; exact C.fr (L := [(0, 13)]) (fr_so (by simp)) (by simp)
  rw [← hS1] at g1
  have x1 : ∀ S' : ST, S' 10 0 = S 10 0 → gfI (mem W S') (W.ad (.o 10 0)) 10 1 = some (Int32.ofNat a) := fun S' q => by rw [gfI_m htk.1.1 rfl, q, f1]
  have fin : ∀ (L : List (Nat × Nat)) (S' : ST) (V' : Nat → Int) (P : Option (Int32 × mM)) (r : Bool), r = svF a K msg sg → P = some (if r = true then 1 else 0, mem W S') → fr L S1 S' → (∀ x ∈ L, x ∈ svL) → (∀ i room, (0, i) ∈ L → isB W i room → ∃ xs l, Byt room (S' 0 i) xs l) → CK S' V' → ∃ S' V', P = some (if svF a K msg sg = true then 1 else 0, mem W S') ∧ fr svL S S' ∧ AB W S' ∧ CK S' V' := by
    intro L S' V' P r hr hP fL hL hB hC
    subst hr
    exact ⟨S', V', hP, fS1.trans (fL.mono hL), ab1.keep fL hB, hC⟩
  have k64 : isB W (16 + 3 * j) 128 := H.2.2.2.2.1
  have k65 : isB W (17 + 3 * j) 128 := H.2.2.2.2.2.1
  have t1' : Byt 128 (S1 0 (16 + 3 * j)) K.2.1.1 false := by rw [e1 _ _ (by omega)]; exact t1
  have b11' : Byt 22528 (S1 0 11) msg lm := by rw [e1 _ _ (by omega)]; exact b11
  have b12' : Byt 8192 (S1 0 12) sg ls := by rw [e1 _ _ (by omega)]; exact b12
  have s10 : S1 10 0 = S 10 0 := e1 _ _ (by omega)
  have code : ∀ wide : Bool, a = (if wide = true then 1 else 0) → ∃ S' V', B_X11_signatureIsRight_28 G F (W.ad (.o 11 0)) (W.ad (.o 5 j)) (mem W S1) = some (if svF a K msg sg = true then 1 else 0, mem W S') ∧ fr svL S S' ∧ AB W S' ∧ CK S' V' := by
    intro wide hw
    obtain ⟨S2, q1, q2, q3, q4⟩ := Q11_codeWork (G := G) (F := F) (S := S1) (it := 13) (wide := wide) X A ab1 H hj t1' b11' B6 (by omega) b13'
    have hl := hmac_len wide K.2.1.1 msg
    have hl : (hmac wide K.2.1.1 msg).length ≤ 64 := by rw [hl]; split <;> omega
    rw [tkl_fit (by rw [List.length_nil]; omega), lsl_fit (by rw [List.length_nil]; omega), List.nil_append] at q3
    have q1 : P_X11_codeWork G F (W.ad (.o 11 0)) (W.ad (.o 5 j)) (Int32.ofNat a) (W.ad (.o 0 13)) (mem W S1) = some (mem W S2) := by
      rw [← q1, hw]
      cases wide <;> rfl
    have b12'' : Byt 8192 (S2 0 12) sg ls := by rw [q2 0 12 (by simp)]; exact b12'
    have sm := Q0_same (G := G) (F := F) (S := S2) X B6 q3 B5 b12'' (by decide) (by decide)
    unfold B_X11_signatureIsRight_28
    rw [h.gR rfl h17, bO_s, x1 S1 s10, bO_s, h.gR rfl w6, bO_s, rcv_m h.lo, bO_s, q1, bO_s, h.gR rfl w6, bO_s, h.gR rfl w5, bO_s, rcv_m B6.lo, bO_s, sm, bP_s]
    refine fin _ S2 V _ (decide (hmac wide K.2.1.1 msg = sg)) ?_ ?_ q2 (by simp [svL]) (fun i room q hB => ?_) (C1.fr q2 (by simp))
    · unfold svF
      cases wide with
      | false => rw [if_pos (show a = 0 from hw)]
      | true => rw [if_neg (show ¬ a = 0 by rw [hw]; decide), if_pos (show a = 1 from hw)]
    · by_cases c : hmac wide K.2.1.1 msg = sg
      · rw [if_pos c, decide_eq_true c]
        rfl
      · rw [if_neg c, decide_eq_false c]
        rfl
    · simp only [List.mem_cons, Prod.mk.injEq, List.not_mem_nil, or_false] at q
      rcases q with q | q | q
      · omega
      · rw [q.2] at hB ⊢
        rw [hB.one hd.in.2]
        exact q4
      · rw [q.2] at hB ⊢
        rw [hB.one B6]
        exact ⟨_, _, q3⟩
  have x0 : ((Int32.ofNat a) = (0 : Int32)) = (a = 0) := propext (n_eq (b := 0) (by omega) (by omega))
  have x1' : ((Int32.ofNat a) = (1 : Int32)) = (a = 1) := propext (n_eq (b := 1) (by omega) (by omega))
  have x2 : ((Int32.ofNat a) = (2 : Int32)) = (a = 2) := propext (n_eq (b := 2) (by omega) (by omega))
  have x3 : ((Int32.ofNat a) = (3 : Int32)) = (a = 3) := propext (n_eq (b := 3) (by omega) (by omega))
  unfold P_X11_signatureIsRight
  rw [h.gR rfl w6, bO_s, rcv_m B6.lo, bO_s, g1, bO_s, h.gR rfl h17, bO_s, x1 S1 s10, bO_s]
  simp only [x0]
  by_cases c0 : a = 0
  · rw [if_pos c0]
    exact code false c0
  rw [if_neg c0, bO_s, x1 S1 s10, bO_s]
  simp only [x1']
  by_cases c1 : a = 1
  · rw [if_pos c1]
    exact code true c1
  rw [if_neg c1]
  obtain ⟨S2, q1, q2, q3⟩ := Q11_hashWork (G := G) (F := F) (S := S1) (it := 13) (rt := 8192) X A b11' B6 (by omega) (by omega) b13'
  have zl : (sha false msg).length = 32 := sha_len _ _
  have ab2 : ∀ i room, i < 94 → isB W i room → i ≠ 13 → ∃ xs l, Byt room (S2 0 i) xs l := fun i room h9 hB hi => by
    rw [q2 0 i (by simp; exact hi)]
    exact ab1 i room h9 hB
  have e2 : ∀ i, i ≠ 13 → S2 0 i = S 0 i := fun i h2 => by rw [q2 0 i (by simp; exact h2), e1 0 i (by omega)]
  have b12'' : Byt 8192 (S2 0 12) sg ls := by rw [e2 _ (by omega)]; exact b12
  have t1'' : Byt 128 (S2 0 (16 + 3 * j)) K.2.1.1 false := by rw [e2 _ (by omega)]; exact t1
  have t2'' : Byt 128 (S2 0 (17 + 3 * j)) K.2.1.2.1 false := by rw [e2 _ (by omega)]; exact t2
  have C2 : CK S2 V := C1.fr q2 (by simp)
  have s10' : S2 10 0 = S 10 0 := by rw [q2 10 0 (by simp)]; exact s10
  obtain ⟨u69, l69, b69⟩ := ab2 69 128 (by decide) hrs.b3 (by omega)
  obtain ⟨u70, l70, b70⟩ := ab2 70 128 (by decide) hrs.b4 (by omega)
  obtain ⟨u71, l71, b71⟩ := ab2 71 32 (by decide) hrs.2.2.2.2.2.2.2.2.2.2.1 (by omega)
  rw [h.gR rfl w6, bO_s, rcv_m h.lo, bO_s, q1, bO_s, h.gR rfl h17, bO_s, x1 S2 s10', bO_s]
  simp only [x2, x3]
  by_cases c2 : a = 2
  · have kd : K.1 = 1 := by rw [kd1, c2]; rfl
    obtain ⟨k1, k2, k3, k4⟩ := V_.rsa kd
    obtain ⟨S3, z1, z2, z3, z4⟩ := Q8_isPkcsRight (G := G) (F := F) (S := S2) (ih := 13) (is_ := 12) (ie := 17 + 3 * j) (in_ := 16 + 3 * j) X hrs B6 q3 zl B5 b12'' k65 t2'' (by omega) k64 t1'' k1 (by omega) b69 b70 (by omega) (by omega) (by omega) (by omega)
    rw [if_pos c2, h.gR rfl h15, bO_s, h.gR rfl w6, bO_s, h.gR rfl w5, bO_s, gfR_m H.1 rfl H.2.2.1, bO_s, gfR_m H.1 rfl H.2.1, bO_s, rcv_m hrs.1, bO_s, z1, bP_s]
    refine fin [(4, 0), (0, 13), (6, 0), (8, 0), (0, 69), (0, 70)] S3 V _ (pkV (sha false msg) sg K.2.1.2.1 K.2.1.1) (by unfold svF; rw [if_neg c0, if_neg c1, if_pos c2]) (by split <;> rfl) ((q2.mono (by simp)).trans (z2.mono (by simp))) (by simp [svL]) (fun i room q hB => ?_) (C2.fr z2 (by simp))
    simp only [List.mem_cons, Prod.mk.injEq, List.not_mem_nil, or_false] at q
    rcases q with q | q | q | q | q | q
    · omega
    · rw [q.2] at hB ⊢
      rw [hB.one B6, z2 0 13 (by simp)]
      exact ⟨_, _, q3⟩
    · omega
    · omega
    · rw [q.2] at hB ⊢
      rw [hB.one hrs.b3]
      exact z3
    · rw [q.2] at hB ⊢
      rw [hB.one hrs.b4]
      exact z4
  rw [if_neg c2]
  by_cases c3 : a = 3
  · have kd : K.1 = 1 := by rw [kd1, c3]; rfl
    have l67 : 67 ≤ K.2.1.1.length := by rw [c3] at kd2; exact kd2
    obtain ⟨k1, k2, k3, k4⟩ := V_.rsa kd
    have g0 : gN K.2.1.1 0 ≠ 0 := (of_decide_eq_true k1).2.2.1
    obtain ⟨y1, y2, y3⟩ := bitT_of g0
    obtain ⟨S3, z1, z2, z3, z4, z5, z6⟩ := Q8_isPssRight (G := G) (F := F) (S := S2) (ih := 13) (is_ := 12) (ie := 17 + 3 * j) (in_ := 16 + 3 * j) (t := bitT K.2.1.1) X hrs hd B6 q3 (by omega) B5 b12'' k65 t2'' (by omega) k64 t1'' k1 y1 y2 y3 (by omega) b69 b70 b71 (by omega) (by omega) (by omega) (by omega)
    rw [if_pos c3, h.gR rfl h15, bO_s, h.gR rfl w6, bO_s, h.gR rfl w5, bO_s, gfR_m H.1 rfl H.2.2.1, bO_s, gfR_m H.1 rfl H.2.1, bO_s, rcv_m hrs.1, bO_s, z1, bP_s]
    refine fin [(4, 0), (0, 13), (6, 0), (8, 0), (0, 69), (0, 70), (0, 71)] S3 V _ (numF sg K.2.1.1 && psV (sha false msg) (powF sg K.2.1.2.1 K.2.1.1) (8 * (K.2.1.1.length - 1) + bitT K.2.1.1)) (by unfold svF; rw [if_neg c0, if_neg c1, if_neg c2, if_pos c3]) (by split <;> rfl) ((q2.mono (by simp)).trans (z2.mono (by simp))) (by simp [svL]) (fun i room q hB => ?_) (C2.fr z2 (by simp))
    simp only [List.mem_cons, Prod.mk.injEq, List.not_mem_nil, or_false] at q
    rcases q with q | q | q | q | q | q | q
    · omega
    · rw [q.2] at hB ⊢
      rw [hB.one B6, z2 0 13 (by simp)]
      exact ⟨_, _, q3⟩
    · omega
    · omega
    · rw [q.2] at hB ⊢
      rw [hB.one hrs.b3]
      exact z4
    · rw [q.2] at hB ⊢
      rw [hB.one hrs.b4]
      exact z5
    · rw [q.2] at hB ⊢
      rw [hB.one hrs.2.2.2.2.2.2.2.2.2.2.1]
      exact z6
  rw [if_neg c3]
  have c4 : a = 4 := by omega
  have kd : K.1 = 2 := by rw [kd1, c4]; rfl
  have p64 := V_.p64 kd
  obtain ⟨u76, l76, b76⟩ := ab2 76 64 (by decide) hcu.2.2.2.2.2.2.1 (by omega)
  obtain ⟨u77, l77, b77⟩ := ab2 77 32 (by decide) hcu.2.2.2.2.2.2.2.2.1 (by omega)
  obtain ⟨u78, l78, b78⟩ := ab2 78 32 (by decide) hcu.2.2.2.2.2.2.2.2.2.2.1 (by omega)
  obtain ⟨S3, V3, z1, z2, z3, z4, z5, z6⟩ := Q3_isSignatureRight (G := G) (F := F) (S := S2) (V := V) (ih := 13) (is_ := 12) (ix := 16 + 3 * j) pr_p X hcu C2 B6 q3 (by omega) B5 b12'' k64 t1'' (by omega) b76 b77 b78 (by omega) (by omega) (by omega)
  rw [h.gR rfl h16, bO_s, h.gR rfl w6, bO_s, h.gR rfl w5, bO_s, gfR_m H.1 rfl H.2.1, bO_s, rcv_m hcu.1, bO_s, z1, bP_s]
  refine fin [(4, 0), (0, 13), (3, 0), (6, 1), (6, 2), (0, 76), (0, 77), (0, 78)] S3 V3 _ (verF (sha false msg) sg K.2.1.1) (by unfold svF; rw [if_neg c0, if_neg c1, if_neg c2, if_neg c3]) (by split <;> rfl) ((q2.mono (by simp)).trans (z2.mono (by simp))) (by simp [svL]) (fun i room q hB => ?_) z3
  simp only [List.mem_cons, Prod.mk.injEq, List.not_mem_nil, or_false] at q
  rcases q with q | q | q | q | q | q | q | q
  · omega
  · rw [q.2] at hB ⊢
    rw [hB.one B6, z2 0 13 (by simp)]
    exact ⟨_, _, q3⟩
  · omega
  · omega
  · omega
  · rw [q.2] at hB ⊢
    rw [hB.one hcu.2.2.2.2.2.2.1]
    exact z4
  · rw [q.2] at hB ⊢
    rw [hB.one hcu.2.2.2.2.2.2.2.2.1]
    exact z5
  · rw [q.2] at hB ⊢
    rw [hB.one hcu.2.2.2.2.2.2.2.2.2.2.1]
    exact z6
end CVF
