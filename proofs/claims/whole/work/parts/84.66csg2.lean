/-! A SIGNATURE MADE: the class, by its alg -/
abbrev sgL : List (Nat × Nat) := [(4, 0), (6, 0), (6, 1), (6, 2), (8, 0), (3, 0), (0, 67), (0, 69), (0, 70), (0, 71), (0, 76), (0, 77), (0, 78), (0, 12), (0, 13)]
section CS2
variable {W : WR} {G : mG} {F : Nat} {S : ST} {j κ rk : Nat} {K : KY}
theorem maySg_kd {a : Nat} {sec : Bool} (h : maySg K a sec = true) : K.1 = sgKd a ∧ sgLe a ≤ K.2.1.1.length ∧ (sec = true → K.1 = 0 ∨ K.2.1.2.2.isSome = true) := by
  unfold maySg at h
  rw [Bool.and_eq_true, Bool.and_eq_true, Bool.and_eq_true, Bool.and_eq_true, decide_eq_true_iff, decide_eq_true_iff, decide_eq_true_iff] at h
  refine ⟨h.1, h.2.2.2.1, fun hs => ?_⟩
  have q := h.2.2.2.2
  rw [hs] at q
  have q : (decide (K.1 = 0) || K.2.1.2.2.isSome) = true := q
  rw [Bool.or_eq_true, decide_eq_true_iff] at q
  exact q
theorem Q11_makeSig {V : Nat → Int} {a ir rr : Nat} {msg rnd : List UInt8} {lr lm : Bool} (X : Cx G F W) (A : isA W) (ab : AB W S) (C : CK S V) (H : isKo W j) (hj : j ≤ 16) (O : KyO S j κ rk K) (V_ : KyV K) (ha : a < 5) (hm : maySg K a true = true) (b11 : Byt 22528 (S 0 11) msg lm) (hR : isB W ir rr) (hir : ir < 11) (hrr : rr ≤ 8192) (br : Byt rr (S 0 ir) rnd lr) : ∃ S' V', P_X11_makeSignature G F (W.ad (.o 11 0)) (W.ad (.o 5 j)) (Int32.ofNat a) (W.ad (.o 0 ir)) (mem W S) = some (if (sgF a K msg rnd).isSome = true then 1 else 0, mem W S') ∧ fr sgL S S' ∧ AB W S' ∧ CK S' V' ∧ ∀ sg, sgF a K msg rnd = some sg → Byt 8192 (S' 0 12) sg false ∧ sg.length ≤ 128 := by
  obtain ⟨h, hd, hrs, hcu, htk, hci, hco, h12, h13, h14, h15, h16, h17⟩ := id A
  obtain ⟨w4, B4, w5, B5, w6, B6, w3, B3⟩ := h.wk
  obtain ⟨kd1, kd2, kd3⟩ := maySg_kd hm
  obtain ⟨o1, o2, o3, o4, o5, ⟨t1, t2, t3⟩, o7⟩ := O
  have rl := br.le
  obtain ⟨x12, l12, b12⟩ := ab 12 8192 (by decide) B5
  obtain ⟨x13, l13, b13⟩ := ab 13 8192 (by decide) B6
  obtain ⟨p1, g1, b1⟩ := Q0_clear (G := G) (F := F) (S := S) B5 b12
  obtain ⟨S1, hS1⟩ : ∃ S1, S1 = S.so 0 12 p1 := ⟨_, rfl⟩
  have f1 : fr sgL S S1 := by rw [hS1]; exact fr_so (by simp [sgL])
  have b12' : Byt 8192 (S1 0 12) [] false := by rw [hS1, so_eq]; exact b1
  have e1 : ∀ c i, ¬ (c = 0 ∧ i = 12) → S1 c i = S c i := fun c i q => by rw [hS1, so_ne q]
  have ab1 : AB W S1 := by
    rw [hS1]
    exact ab.keep (fr_so (List.mem_singleton.mpr rfl)) (fun i room q hB => by
      have q : (0, i) = (0, 12) := List.mem_singleton.mp q
      have q := congrArg Prod.snd q
      simp only at q
      subst q
      rw [so_eq, hB.one B5]
      exact ⟨_, _, b1⟩)
  have C1 : CK S1 V := by rw [hS1]; exact C.fr (L := [(0, 12)]) (fr_so (by simp)) (by simp)
  rw [← hS1] at g1
  -- the end of each way
  have fin : ∀ (L : List (Nat × Nat)) (S' : ST) (V' : Nat → Int) (P : Option (Int32 × mM)) (r : Option (List UInt8)), r = sgF a K msg rnd → P = some (if r.isSome = true then 1 else 0, mem W S') → fr L S1 S' → (∀ x ∈ L, x ∈ sgL) → (∀ i room, (0, i) ∈ L → isB W i room → ∃ xs l, Byt room (S' 0 i) xs l) → CK S' V' → (∀ sg, r = some sg → Byt 8192 (S' 0 12) sg false ∧ sg.length ≤ 128) → ∃ S' V', P = some (if (sgF a K msg rnd).isSome = true then 1 else 0, mem W S') ∧ fr sgL S S' ∧ AB W S' ∧ CK S' V' ∧ ∀ sg, sgF a K msg rnd = some sg → Byt 8192 (S' 0 12) sg false ∧ sg.length ≤ 128 := by
    intro L S' V' P r hr hP fL hL hB hC hs
    subst hr
    exact ⟨S', V', hP, f1.trans (fL.mono hL), ab1.keep fL hB, hC, hs⟩
  have k64 : isB W (16 + 3 * j) 128 := H.2.2.2.2.1
  have k65 : isB W (17 + 3 * j) 128 := H.2.2.2.2.2.1
  have k66 : isB W (18 + 3 * j) 128 := H.2.2.2.2.2.2
  have t1' : Byt 128 (S1 0 (16 + 3 * j)) K.2.1.1 false := by rw [e1 _ _ (by omega)]; exact t1
  have b11' : Byt 22528 (S1 0 11) msg lm := by rw [e1 _ _ (by omega)]; exact b11
  -- codes
  have code : ∀ wide : Bool, a = (if wide = true then 1 else 0) → ∃ S', P_X11_codeWork G F (W.ad (.o 11 0)) (W.ad (.o 5 j)) (Int32.ofNat a) (W.ad (.o 0 12)) (mem W S1) = some (mem W S') ∧ fr [(4, 0), (0, 67), (0, 12)] S1 S' ∧ Byt 8192 (S' 0 12) (hmac wide K.2.1.1 msg) false ∧ ∃ ys l, Byt 64 (S' 0 67) ys l := by
    intro wide hw
    obtain ⟨S', q1, q2, q3, q4⟩ := Q11_codeWork (G := G) (F := F) (S := S1) (it := 12) (wide := wide) X A ab1 H hj t1' b11' B5 (by omega) b12'
    have hl := hmac_len wide K.2.1.1 msg
    have hl : (hmac wide K.2.1.1 msg).length ≤ 64 := by rw [hl]; split <;> omega
    rw [tkl_fit (by rw [List.length_nil]; omega), lsl_fit (by rw [List.length_nil]; omega), List.nil_append] at q3
    refine ⟨S', ?_, q2, q3, q4⟩
    rw [← q1, hw]
    cases wide <;> rfl
  unfold P_X11_makeSignature
  rw [h.gR rfl w5, bO_s, rcv_m B5.lo, bO_s, g1, bO_s]
  have x0 : ((Int32.ofNat a) = (0 : Int32)) = (a = 0) := propext (n_eq (b := 0) (by omega) (by omega))
  have x1 : ((Int32.ofNat a) = (1 : Int32)) = (a = 1) := propext (n_eq (b := 1) (by omega) (by omega))
  have x2 : ((Int32.ofNat a) = (2 : Int32)) = (a = 2) := propext (n_eq (b := 2) (by omega) (by omega))
  have x3 : ((Int32.ofNat a) = (3 : Int32)) = (a = 3) := propext (n_eq (b := 3) (by omega) (by omega))
  have cfin : ∀ (wide : Bool) (P : Option (Int32 × mM)) (S' : ST), sgF a K msg rnd = some (hmac wide K.2.1.1 msg) → P = some (1, mem W S') → fr [(4, 0), (0, 67), (0, 12)] S1 S' → Byt 8192 (S' 0 12) (hmac wide K.2.1.1 msg) false → (∃ ys l, Byt 64 (S' 0 67) ys l) → ∃ S' V', P = some (if (sgF a K msg rnd).isSome = true then 1 else 0, mem W S') ∧ fr sgL S S' ∧ AB W S' ∧ CK S' V' ∧ ∀ sg, sgF a K msg rnd = some sg → Byt 8192 (S' 0 12) sg false ∧ sg.length ≤ 128 := by
    intro wide P S' hr hP q2 q3 q4
    refine fin _ S' V P _ hr.symm (by rw [hP]; rfl) q2 (by simp [sgL]) (fun i room q hB => ?_) (C1.fr q2 (by simp)) (fun sg hs => ?_)
    · simp only [List.mem_cons, Prod.mk.injEq, List.not_mem_nil, or_false] at q
      rcases q with q | q | q
      · omega
      · rw [q.2] at hB ⊢
        rw [hB.one hd.in.2]
        exact q4
      · rw [q.2] at hB ⊢
        rw [hB.one B5]
        exact ⟨_, _, q3⟩
    · rw [← Option.some.inj hs]
      have hl := hmac_len wide K.2.1.1 msg
      exact ⟨q3, by rw [hl]; split <;> omega⟩
  simp only [x0, x1, x2, x3]
  by_cases c0 : a = 0
  · obtain ⟨S', q1, q2, q3, q4⟩ := code false c0
    rw [if_pos c0, h.gR rfl w5, bO_s, rcv_m h.lo, bO_s, q1, bO_s]
    exact cfin false _ S' (by unfold sgF; rw [if_pos c0]) rfl q2 q3 q4
  rw [if_neg c0]
  by_cases c1 : a = 1
  · obtain ⟨S', q1, q2, q3, q4⟩ := code true c1
    rw [if_pos c1, h.gR rfl w5, bO_s, rcv_m h.lo, bO_s, q1, bO_s]
    exact cfin true _ S' (by unfold sgF; rw [if_neg c0, if_pos c1]) rfl q2 q3 q4
  rw [if_neg c1]
  -- digests
  obtain ⟨S2, q1, q2, q3⟩ := Q11_hashWork (G := G) (F := F) (S := S1) (it := 13) (rt := 8192) X A b11' B6 (by omega) (by omega) (by rw [e1 _ _ (by omega)]; exact b13)
  have sl : (sha false msg).length = 32 := sha_len _ _
  have ab2 : ∀ i room, i < 94 → isB W i room → i ≠ 13 → ∃ xs l, Byt room (S2 0 i) xs l := fun i room h9 hB hi => by
    rw [q2 0 i (by simp; exact hi)]
    exact ab1 i room h9 hB
  have e2 : ∀ i, i ≠ 12 → i ≠ 13 → S2 0 i = S 0 i := fun i h1 h2 => by rw [q2 0 i (by simp; exact h2), e1 0 i (by omega)]
  have b12'' : Byt 8192 (S2 0 12) [] false := by rw [q2 0 12 (by simp)]; exact b12'
  have t1'' : Byt 128 (S2 0 (16 + 3 * j)) K.2.1.1 false := by rw [e2 _ (by omega) (by omega)]; exact t1
  have t3'' : Byt 128 (S2 0 (18 + 3 * j)) (K.2.1.2.2.getD []) false := by rw [e2 _ (by omega) (by omega)]; exact t3
  have br'' : Byt rr (S2 0 ir) rnd lr := by rw [e2 _ (by omega) (by omega)]; exact br
  have C2 : CK S2 V := C1.fr q2 (by simp)
  have n1 := t1.le
  have n3 := t3.le
  obtain ⟨u69, l69, b69⟩ := ab2 69 128 (by decide) hrs.2.2.2.2.2.2.2.2.1 (by omega)
  obtain ⟨u71, l71, b71⟩ := ab2 71 32 (by decide) hrs.2.2.2.2.2.2.2.2.2.2.1 (by omega)
  rw [h.gR rfl w6, bO_s, rcv_m h.lo, bO_s, q1, bO_s]
  by_cases c2 : a = 2
  · have kd : K.1 = 1 := by rw [kd1, c2]; rfl
    obtain ⟨k1, k2, k3, k4⟩ := V_.rsa kd
    obtain ⟨S3, z1, z2, z3, z4⟩ := Q8_signPkcs (G := G) (F := F) (S := S2) (ih := 13) (id_ := 18 + 3 * j) (in_ := 16 + 3 * j) (it := 12) (rt := 8192) X hrs B6 q3 sl k66 t3'' (by omega) k64 t1'' k1 (by omega) B5 b12'' (by omega) b69 (by omega) (by omega) (by omega) (by omega)
    rw [if_pos c2, h.gR rfl h15, bO_s, h.gR rfl w6, bO_s, gfR_m H.1 rfl H.2.2.2.1, bO_s, gfR_m H.1 rfl H.2.1, bO_s, h.gR rfl w5, bO_s, rcv_m hrs.1, bO_s, z1, bO_s]
    refine fin [(4, 0), (0, 13), (6, 0), (8, 0), (0, 69), (0, 12)] S3 V _ (some (powF (pkF (sha false msg) K.2.1.1.length) (K.2.1.2.2.getD []) K.2.1.1)) (by unfold sgF; rw [if_neg c0, if_neg c1, if_pos c2]) rfl ((q2.mono (by simp)).trans (z2.mono (by simp))) (by simp [sgL]) (fun i room q hB => ?_) (C2.fr z2 (by simp)) (fun sg hs => ?_)
    · simp only [List.mem_cons, Prod.mk.injEq, List.not_mem_nil, or_false] at q
      rcases q with q | q | q | q | q | q
      · omega
      · rw [q.2] at hB ⊢
        rw [hB.one B6, z2 0 13 (by simp)]
        exact ⟨_, _, q3⟩
      · omega
      · omega
      · rw [q.2] at hB ⊢
        rw [hB.one hrs.2.2.2.2.2.2.2.2.1]
        exact z4
      · rw [q.2] at hB ⊢
        rw [hB.one B5]
        exact ⟨_, _, z3⟩
    · rw [← Option.some.inj hs, powF_len]
      exact ⟨z3, n1⟩
  rw [if_neg c2]
  by_cases c3 : a = 3
  · have kd : K.1 = 1 := by rw [kd1, c3]; rfl
    have l67 : 67 ≤ K.2.1.1.length := by rw [c3] at kd2; exact kd2
    obtain ⟨k1, k2, k3, k4⟩ := V_.rsa kd
    have g0 : gN K.2.1.1 0 ≠ 0 := (of_decide_eq_true k1).2.2.1
    obtain ⟨y1, y2, y3⟩ := bitT_of g0
    obtain ⟨S3, z1, z2, z3, z4, z5, z6⟩ := Q8_signPss (G := G) (F := F) (S := S2) (ih := 13) (is_ := ir) (id_ := 18 + 3 * j) (in_ := 16 + 3 * j) (it := 12) (rt := 8192) (t := bitT K.2.1.1) X hrs hd B6 q3 (by omega) hR br'' (by omega) k66 t3'' (by omega) k64 t1'' k1 y1 y2 y3 (by omega) B5 b12'' (by omega) b69 b71 (by omega) (by omega) (by omega) (by omega) (by omega)
    rw [if_pos c3, h.gR rfl h15, bO_s, h.gR rfl w6, bO_s, gfR_m H.1 rfl H.2.2.2.1, bO_s, gfR_m H.1 rfl H.2.1, bO_s, h.gR rfl w5, bO_s, rcv_m hrs.1, bO_s, z1, bP_s]
    refine fin [(4, 0), (0, 13), (6, 0), (8, 0), (0, 69), (0, 71), (0, 12)] S3 V _ (if 32 ≤ rnd.length then some (powF (psF (sha false msg) (seg rnd 0 32) (8 * (K.2.1.1.length - 1) + bitT K.2.1.1)) (K.2.1.2.2.getD []) K.2.1.1) else none) (by unfold sgF; rw [if_neg c0, if_neg c1, if_neg c2, if_pos c3]) (by split <;> rfl) ((q2.mono (by simp)).trans (z2.mono (by simp))) (by simp [sgL]) (fun i room q hB => ?_) (C2.fr z2 (by simp)) (fun sg hs => ?_)
    · simp only [List.mem_cons, Prod.mk.injEq, List.not_mem_nil, or_false] at q
      rcases q with q | q | q | q | q | q | q
      · omega
      · rw [q.2] at hB ⊢
        rw [hB.one B6, z2 0 13 (by simp)]
        exact ⟨_, _, q3⟩
      · omega
      · omega
      · rw [q.2] at hB ⊢
        rw [hB.one hrs.2.2.2.2.2.2.2.2.1]
        exact z4
      · rw [q.2] at hB ⊢
        rw [hB.one hrs.2.2.2.2.2.2.2.2.2.2.1]
        exact z5
      · rw [q.2] at hB ⊢
        rw [hB.one B5]
        by_cases c : 32 ≤ rnd.length
        · rw [if_pos c] at z6
          exact ⟨_, _, z6⟩
        · rw [if_neg c] at z6
          rw [z6]
          exact ⟨_, _, b12''⟩
    · by_cases c : 32 ≤ rnd.length
      · rw [if_pos c] at z6 hs
        rw [← Option.some.inj hs, powF_len]
        exact ⟨z6, n1⟩
      · rw [if_neg c] at hs
        exact absurd hs (by simp)
  rw [if_neg c3]
  have c4 : a = 4 := by omega
  have kd : K.1 = 2 := by rw [kd1, c4]; rfl
  have hsec := (kd3 rfl).resolve_left (by omega)
  obtain ⟨d, hd_⟩ := Option.isSome_iff_exists.mp hsec
  have dl := ((V_.ec kd).2 d hd_).1
  have gd : K.2.1.2.2.getD [] = d := by rw [hd_]; rfl
  rw [gd] at t3''
  obtain ⟨u76, l76, b76⟩ := ab2 76 64 (by decide) hcu.2.2.2.2.2.2.1 (by omega)
  obtain ⟨u78, l78, b78⟩ := ab2 78 32 (by decide) hcu.2.2.2.2.2.2.2.2.2.2.1 (by omega)
  obtain ⟨S3, V3, z1, z2, z3, z4, z5, z6⟩ := Q3_putSignature (G := G) (F := F) (S := S2) (V := V) (ih := 13) (id_ := 18 + 3 * j) (ik := ir) (it := 12) (rt := 8192) pr_p X hcu C2 B6 q3 (by omega) k66 t3'' (by omega) hR br'' B5 b12'' (by omega) b76 b78 (by omega) (by omega) (by omega) (by simp) (by omega)
  rw [h.gR rfl h16, bO_s, h.gR rfl w6, bO_s, gfR_m H.1 rfl H.2.2.2.1, bO_s, h.gR rfl w5, bO_s, rcv_m hcu.1, bO_s, z1, bP_s]
  have sg : sgF a K msg rnd = if 32 ≤ rnd.length then (sigF (sha false msg) d rnd).map (fun rs => beV 32 rs.1 ++ beV 32 rs.2) else none := by
    unfold sgF
    rw [if_neg c0, if_neg c1, if_neg c2, if_neg c3, gd]
  refine fin [(4, 0), (0, 13), (3, 0), (6, 1), (6, 2), (0, 76), (0, 78), (0, 12)] S3 V3 _ _ sg.symm ?_ ((q2.mono (by simp)).trans (z2.mono (by simp))) (by simp [sgL]) (fun i room q hB => ?_) z3 (fun sg hs => ?_)
  · by_cases c : 32 ≤ rnd.length
    · rw [if_pos c]
      cases sigF (sha false msg) d rnd with
      | none => rw [if_neg (fun q => absurd q.2 (by simp))]; rfl
      | some rs => rw [if_pos ⟨c, rfl⟩]; rfl
    · rw [if_neg c, if_neg (fun q => c q.1)]
      rfl
  · simp only [List.mem_cons, Prod.mk.injEq, List.not_mem_nil, or_false] at q
    rcases q with q | q | q | q | q | q | q | q
    · omega
    · rw [q.2] at hB ⊢
      rw [hB.one B6, z2 0 13 (by simp)]
      exact ⟨_, _, q3⟩
    · omega
    · omega
    · omega
    · rw [q.2] at hB ⊢
      rw [hB.one hcu.2.2.2.2.2.2.1]
      exact z4
    · rw [q.2] at hB ⊢
      rw [hB.one hcu.2.2.2.2.2.2.2.2.2.2.1]
      exact z5
    · rw [q.2] at hB ⊢
      rw [hB.one B5]
      by_cases c : 32 ≤ rnd.length
      · rw [if_pos c] at z6
        revert z6
        cases sigF (sha false msg) d rnd with
        | none => intro z6; have z6 : S3 0 12 = S2 0 12 := z6; rw [z6]; exact ⟨_, _, b12''⟩
        | some rs => intro z6; exact ⟨_, _, z6⟩
      · rw [if_neg c] at z6
        rw [z6]
        exact ⟨_, _, b12''⟩
  · by_cases c : 32 ≤ rnd.length
    · rw [if_pos c] at z6 hs
      revert z6 hs
      cases sigF (sha false msg) d rnd with
      | none => intro z6 hs; exact absurd hs (by simp)
      | some rs =>
        intro z6 hs
        have hs := Option.some.inj hs
        rw [← hs, List.length_append, beV_len, beV_len]
        exact ⟨z6, by decide⟩
    · rw [if_neg c] at hs
      exact absurd hs (by simp)
end CS2
