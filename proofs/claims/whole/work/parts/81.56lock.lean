/-! SEALED CONTENT: lock, unlock, the calls seal and open of the class -/
theorem wayM_le (way : Nat) : wayM way ≤ 32 ∧ 16 ≤ wayM way := by unfold wayM; split <;> omega
theorem sealF_len (way : Nat) (key iv al u : List UInt8) (hw : way < 4) : (sealF way key iv al u).length = (if 2 ≤ way then u.length else (u.length / 16 + 1) * 16) + wayM way := by
  unfold sealF
  by_cases h : 2 ≤ way
  · rw [if_pos h, if_pos h, List.length_append, ctrF_len, gmarkF_len]
    unfold wayM
    rw [if_neg (by omega)]
  · rw [if_neg h, if_neg h, List.length_append, cmarkF_len _ _ _ _ _ (by omega)]
    unfold cbcF
    rw [cbcE_len]
    omega
abbrev LK (it : Nat) : List (Nat × Nat) := [(1, 0), (2, 0), (4, 0), (0, 67), (0, 68), (0, it)]
section LOCK2
variable {W : WR} {G : mG} {F : Nat}
theorem Q2_lock {S : ST} {ik i1 i2 i3 it rk r1 r2 r3 rt way : Nat} {key iv al u ts ys zs : List UInt8} {lk l1 l2 l3 lt l4 l5 : Bool} (X : Cx G F W) (hd : isD W) (hc : isCi W) (h : isCo W) (hK : isB W ik rk) (hB1 : isB W i1 r1) (hB2 : isB W i2 r2) (hB3 : isB W i3 r3) (hT : isB W it rt) (nk : ik ≠ 67 ∧ ik ≠ 68 ∧ ik ≠ it) (n1 : i1 ≠ 67 ∧ i1 ≠ 68 ∧ i1 ≠ it) (n2 : i2 ≠ 67 ∧ i2 ≠ 68 ∧ i2 ≠ it) (n3 : i3 ≠ 67 ∧ i3 ≠ 68 ∧ i3 ≠ it) (nt : it ≠ 67 ∧ it ≠ 68) (hw : way < 4) (hkl : key.length = wayK way) (bk : Byt rk (S 0 ik) key lk) (b1 : Byt r1 (S 0 i1) iv l1) (b2 : Byt r2 (S 0 i2) al l2) (b3 : Byt r3 (S 0 i3) u l3) (bt : Byt rt (S 0 it) ts lt) (b4 : Byt 64 (S 0 68) ys l4) (b5 : Byt 64 (S 0 67) zs l5) (hu : u.length < 40000) (ha : al.length < 80000) (hi : iv.length < 80000) (hfit : (sealF way key iv al u).length ≤ rt) : ∃ S', P_X2_lock G F (W.ad (.o 2 0)) (Int32.ofNat way) (W.ad (.o 0 ik)) (W.ad (.o 0 i1)) (W.ad (.o 0 i2)) (W.ad (.o 0 i3)) (W.ad (.o 0 it)) (mem W S) = some (mem W S') ∧ fr (LK it) S S' ∧ agr [2] [] [1, 3] [] (S 1 0) (S' 1 0) ∧ Byt rt (S' 0 it) (sealF way key iv al u) false ∧ (∃ ys l, Byt 64 (S' 0 68) ys l) ∧ ∃ zs l, Byt 64 (S' 0 67) zs l := by
  have lo := h.1
  have hr4 := h.2.2.2.2.2.1
  have hB4 := h.2.2.2.2.2.2
  have hfl := sealF_len way key iv al u hw
  have hwm := wayM_le way
  obtain ⟨o0, g0, b0⟩ := Q0_clear (G := G) (F := F) (S := S) hT bt
  have s0 : ∀ j, j ≠ it → (S.so 0 it o0) 0 j = S 0 j := fun j hj => so_ne (by omega)
  unfold P_X2_lock
  rw [rcv_m hT.lo, bO_s, g0, bO_s]
  by_cases hw2 : 2 ≤ way
  · rw [if_pos hw2] at hfl
    have hkl2 : key.length = 16 ∨ key.length = 32 := by
      rw [hkl]; unfold wayK
      have : way = 2 ∨ way = 3 := by omega
      rcases this with rfl | rfl
      · exact .inl rfl
      · exact .inr rfl
    obtain ⟨KS_, hKS⟩ : ∃ f, f = ksF (key.length / 4) key := ⟨_, rfl⟩
    obtain ⟨S1, g1, f1, a1, k1, c1⟩ := Q2_putCounted (S := S.so 0 it o0) (many := u.length) (ts := []) (lt := false) X hc h hK hB1 hB3 hT n1.2.2 n3.2.2 (Nat.le_refl _) (by omega) hkl2 (by rw [s0 ik nk.2.2]; exact bk) (by rw [s0 i1 n1.2.2]; exact b1) (by rw [s0 i3 n3.2.2]; exact b3) (by rw [so_eq]; exact b0)
    rw [List.take_length, ← hKS] at c1
    rw [← hKS] at k1
    obtain ⟨C, hC⟩ : ∃ C, C = ctrF KS_ (key.length / 4 + 6) iv u := ⟨_, rfl⟩
    rw [← hC] at c1
    have lC : C.length = u.length := by rw [hC, ctrF_len]
    rw [tkl_fit (by simp; omega), lsl_fit (by simp; omega), List.nil_append] at c1
    have s1 : ∀ j, j ≠ it → S1 0 j = S 0 j := fun j hj => by rw [f1 0 j (by simp [hj]), s0 j hj]
    obtain ⟨S2, g2, f2, ca2, m2⟩ := Q2_markByField (S := S1) (many := C.length) (ys := ys) (l4 := l4) X hc h hB1 hB2 hT n1.2.1 n2.2.1 nt.2 k1 (by rw [s1 i1 n1.2.2]; exact b1) (by rw [s1 i2 n2.2.2]; exact b2) c1 (by rw [s1 68 (by omega)]; exact b4) (Nat.le_refl _) (by omega) (by omega)
    rw [List.take_length] at m2
    obtain ⟨o3, g3, b3'⟩ := Q0_putAll (G := G) (F := F) (S := S2) hT (by rw [f2 0 it (by simp [nt])]; exact c1) hB4 m2
    have es : sealF way key iv al u = C ++ gmarkF KS_ (key.length / 4 + 6) iv al C := by
      unfold sealF
      rw [if_pos hw2, ← hKS, ← hC]
    rw [tkl_fit (by rw [gmarkF_len]; have := wayM_le way; omega), lsl_fit (by rw [gmarkF_len]; omega)] at b3'
    rw [if_pos (by rw [lit 2]; exact (n_le (by omega) (by omega)).mpr hw2), hB3.gI 1 rfl, bO_s, s0 i3 n3.2.2, b3.many, rcv_m lo, bO_s, g1, bO_s, hT.gI 1 rfl, bO_s, c1.many, rcv_m lo, bO_s, g2, bO_s, gfR_m lo rfl hr4, bO_s, rcv_m hT.lo, bO_s, g3, bO_s]
    rw [so_ne (by omega)] at a1
    refine ⟨_, rfl, ((((fr_so (by simp)).trans (f1.mono (by simp))).trans (f2.mono (by simp))).trans (fr_so (by simp))), ?_, by rw [so_eq, es]; exact b3', ⟨_, _, by rw [so_ne (by omega)]; exact m2⟩, zs, l5, ?_⟩
    · rw [so_ne (by omega)]
      exact a1.trans (ca2.mono (by decide) (by decide) (by decide) (by decide))
    · rw [so_ne (by omega), f2 0 67 (by simp), s1 67 (by omega)]
      exact b5
  · rw [if_neg hw2] at hfl
    have hkl2 : key.length = 32 ∨ key.length = 64 := by
      rw [hkl]; unfold wayK
      have : way = 0 ∨ way = 1 := by omega
      rcases this with rfl | rfl
      · exact .inl rfl
      · exact .inr rfl
    obtain ⟨C, hC⟩ : ∃ C, C = cbcF (ksF (key.length / 2 / 4) (key.drop (key.length / 2))) (key.length / 2 / 4 + 6) iv u := ⟨_, rfl⟩
    obtain ⟨S1, g1, f1, a1, c1⟩ := Q2_putChained (S := S.so 0 it o0) (u := u) (ts := []) (lt := false) X hc h hK hB1 hB3 hT n3.2.2 (by omega) hkl2 (by rw [s0 ik nk.2.2]; exact bk) (by rw [s0 i1 n1.2.2]; exact b1) (by rw [s0 i3 n3.2.2]; exact b3) (by rw [so_eq]; exact b0)
    rw [← hC] at c1
    have lC : C.length = (u.length / 16 + 1) * 16 := by rw [hC, cbcF, cbcE_len]; omega
    rw [tkl_fit (by simp; omega), lsl_fit (by simp; omega), List.nil_append] at c1
    have s1 : ∀ j, j ≠ it → S1 0 j = S 0 j := fun j hj => by rw [f1 0 j (by simp [hj]), s0 j hj]
    obtain ⟨S2, g2, f2, m2, z2⟩ := Q2_markByCode (S := S1) (many := C.length) (way := way) X hd h hK hB1 hB2 hT ⟨nk.1, nk.2.1⟩ ⟨n1.1, n1.2.1⟩ ⟨n2.1, n2.2.1⟩ nt (by omega) (by rw [s1 ik nk.2.2]; exact bk) (by rw [s1 i1 n1.2.2]; exact b1) (by rw [s1 i2 n2.2.2]; exact b2) c1 (by rw [s1 68 (by omega)]; exact b4) (by rw [s1 67 (by omega)]; exact b5) (Nat.le_refl _) (by omega) ha hi (by omega)
    rw [List.take_length] at m2
    have hcm := cmarkF_len way key iv al C (by omega)
    obtain ⟨o3, g3, b3'⟩ := Q0_putAll (G := G) (F := F) (S := S2) hT (by rw [f2 0 it (by simp [nt])]; exact c1) hB4 m2
    have es : sealF way key iv al u = C ++ cmarkF way key iv al C := by
      unfold sealF
      rw [if_neg hw2, ← hC]
    rw [tkl_fit (by omega), lsl_fit (by omega)] at b3'
    rw [if_neg (by rw [lit 2]; exact fun q => hw2 ((n_le (by omega) (by omega)).mp q)), rcv_m lo, bO_s, g1, bO_s, hT.gI 1 rfl, bO_s, c1.many, rcv_m lo, bO_s, g2, bO_s, gfR_m lo rfl hr4, bO_s, rcv_m hT.lo, bO_s, g3, bO_s]
    rw [so_ne (by omega)] at a1
    obtain ⟨zs', lz, z2⟩ := z2
    refine ⟨_, rfl, ((((fr_so (by simp)).trans (f1.mono (by simp))).trans (f2.mono (by simp))).trans (fr_so (by simp))), ?_, by rw [so_eq, es]; exact b3', ⟨_, _, by rw [so_ne (by omega)]; exact m2⟩, zs', lz, by rw [so_ne (by omega)]; exact z2⟩
    rw [so_ne (by omega), f2 1 0 (by simp)]
    exact a1
theorem Q2_unlock {S : ST} {ik i1 i2 i3 it rk r1 r2 r3 rt way : Nat} {key iv al u ts ys zs : List UInt8} {lk l1 l2 l3 lt l4 l5 : Bool} (X : Cx G F W) (hd : isD W) (hc : isCi W) (h : isCo W) (hK : isB W ik rk) (hB1 : isB W i1 r1) (hB2 : isB W i2 r2) (hB3 : isB W i3 r3) (hT : isB W it rt) (nk : ik ≠ 67 ∧ ik ≠ 68 ∧ ik ≠ it) (n1 : i1 ≠ 67 ∧ i1 ≠ 68 ∧ i1 ≠ it) (n2 : i2 ≠ 67 ∧ i2 ≠ 68 ∧ i2 ≠ it) (n3 : i3 ≠ 67 ∧ i3 ≠ 68 ∧ i3 ≠ it) (nt : it ≠ 67 ∧ it ≠ 68) (hw : way < 4) (hI : IB S) (bk : Byt rk (S 0 ik) key lk) (b1 : Byt r1 (S 0 i1) iv l1) (b2 : Byt r2 (S 0 i2) al l2) (b3 : Byt r3 (S 0 i3) u l3) (bt : Byt rt (S 0 it) ts lt) (b4 : Byt 64 (S 0 68) ys l4) (b5 : Byt 64 (S 0 67) zs l5) (hu : u.length < 40000) (ha : al.length < 80000) (hi : iv.length < 80000) (hkx : key.length < 80000) (hfit : u.length ≤ rt + 16) : ∃ S', P_X2_unlock G F (W.ad (.o 2 0)) (Int32.ofNat way) (W.ad (.o 0 ik)) (W.ad (.o 0 i1)) (W.ad (.o 0 i2)) (W.ad (.o 0 i3)) (W.ad (.o 0 it)) (mem W S) = some (if key.length = wayK way ∧ (openF way key iv al u).isSome then 1 else 0, mem W S') ∧ fr (LK it) S S' ∧ agr [2] [] [1, 3] [] (S 1 0) (S' 1 0) ∧ (∃ xs l, Byt rt (S' 0 it) xs l) ∧ (∀ v, key.length = wayK way → openF way key iv al u = some v → Byt rt (S' 0 it) v false) ∧ (∃ ys l, Byt 64 (S' 0 68) ys l) ∧ ∃ zs l, Byt 64 (S' 0 67) zs l := by
  have lo := h.1
  have hB4 := h.2.2.2.2.2.2
  have hwm := wayM_le way
  have hwk : wayK way ≤ 64 := by
    unfold wayK
    split
    · omega
    · split
      · omega
      · split <;> omega
  unfold P_X2_unlock
  rw [hB3.gI 1 rfl, bO_s, b3.many, way_t7 X hw, bO_s]
  have stay : ∀ (e : Int32), e = 0 → ¬ (key.length = wayK way ∧ (openF way key iv al u).isSome = true) → ∃ S', some (e, mem W S) = some (if key.length = wayK way ∧ (openF way key iv al u).isSome = true then (1 : Int32) else 0, mem W S') ∧ fr (LK it) S S' ∧ agr [2] [] [1, 3] [] (S 1 0) (S' 1 0) ∧ (∃ xs l, Byt rt (S' 0 it) xs l) ∧ (∀ v, key.length = wayK way → openF way key iv al u = some v → Byt rt (S' 0 it) v false) ∧ (∃ ys l, Byt 64 (S' 0 68) ys l) ∧ ∃ zs l, Byt 64 (S' 0 67) zs l := by
    intro e he hno
    refine ⟨S, by rw [if_neg hno, he], fr.refl _ _, agr.refl _ _ _ _ _, ⟨ts, lt, bt⟩, fun v q1 q2 => absurd ⟨q1, by rw [q2]; rfl⟩ hno, ⟨ys, l4, b4⟩, zs, l5, b5⟩
  by_cases hsmall : u.length < wayM way
  · have hneg : (Int32.ofNat u.length) - (Int32.ofNat (wayM way)) < (0 : Int32) := by
      have : ∀ a b, a < b → b ≤ 32 → (Int32.ofNat a) - (Int32.ofNat b) < (0 : Int32) := by
        intro a b hab hb
        have t : ∀ b, b < 33 → ∀ a, a < b → (Int32.ofNat a) - (Int32.ofNat b) < (0 : Int32) := by decide +kernel
        exact t b (by omega) a hab
      exact this _ _ hsmall hwm.1
    rw [if_pos hneg, retZ0]
    exact stay 0 rfl (fun q => by
      have := q.2
      unfold openF at this
      rw [if_pos hsmall] at this
      exact absurd this (by simp))
  · obtain ⟨many, hmany⟩ : ∃ many, many = u.length - wayM way := ⟨_, rfl⟩
    have hop : openF way key iv al u = openC way key iv al (u.take many) (u.drop many) := by
      unfold openF
      rw [if_neg hsmall, hmany]
    rw [n_sub (by omega), ← hmany, if_neg (nn (by omega)), hK.gI 1 rfl, bO_s, bk.many, way_t5 X hw, bO_s]
    by_cases hkl : key.length = wayK way
    · have ekk : (Int32.ofNat key.length) = (Int32.ofNat (wayK way)) := by rw [hkl]
      rw [if_pos ekk, rcv_m hT.lo, bO_s]
      obtain ⟨o0, g0, b0⟩ := Q0_clear (G := G) (F := F) (S := S) hT bt
      have s0 : ∀ j, j ≠ it → (S.so 0 it o0) 0 j = S 0 j := fun j hj => so_ne (by omega)
      have htl : (u.take many).length = many := by rw [List.length_take]; omega
      rw [g0, bO_s, hop]
      unfold openC
      by_cases hw2 : 2 ≤ way
      · have hkl2 : key.length = 16 ∨ key.length = 32 := by
          rw [hkl]; unfold wayK
          have : way = 2 ∨ way = 3 := by omega
          rcases this with rfl | rfl
          · exact .inl rfl
          · exact .inr rfl
        have hwm16 : wayM way = 16 := by unfold wayM; rw [if_neg (by omega)]
        obtain ⟨S1, g1, f1, a1, k1, c1⟩ := Q2_putCounted (S := S.so 0 it o0) (many := many) (xs := u) (ts := []) (lt := false) X hc h hK hB1 hB3 hT n1.2.2 n3.2.2 (by omega) (by omega) hkl2 (by rw [s0 ik nk.2.2]; exact bk) (by rw [s0 i1 n1.2.2]; exact b1) (by rw [s0 i3 n3.2.2]; exact b3) (by rw [so_eq]; exact b0)
        obtain ⟨KS_, hKS⟩ : ∃ f, f = ksF (key.length / 4) key := ⟨_, rfl⟩
        rw [← hKS] at c1 k1 ⊢
        obtain ⟨C, hC⟩ : ∃ C, C = ctrF KS_ (key.length / 4 + 6) iv (u.take many) := ⟨_, rfl⟩
        rw [← hC] at c1 ⊢
        have lC : C.length = many := by rw [hC, ctrF_len, htl]
        rw [tkl_fit (by simp; omega), lsl_fit (by simp; omega), List.nil_append] at c1
        have s1 : ∀ j, j ≠ it → S1 0 j = S 0 j := fun j hj => by rw [f1 0 j (by simp [hj]), s0 j hj]
        obtain ⟨S2, g2, f2, ca2, m2⟩ := Q2_markByField (S := S1) (many := many) (xs := u) (ys := ys) (l4 := l4) X hc h hB1 hB2 hB3 n1.2.1 n2.2.1 n3.2.1 k1 (by rw [s1 i1 n1.2.2]; exact b1) (by rw [s1 i2 n2.2.2]; exact b2) (by rw [s1 i3 n3.2.2]; exact b3) (by rw [s1 68 (by omega)]; exact b4) (by omega) (by omega) (by omega)
        obtain ⟨mk, hmk⟩ : ∃ mk, mk = gmarkF KS_ (key.length / 4 + 6) iv al (u.take many) := ⟨_, rfl⟩
        have lmk : mk.length = 16 := by rw [hmk, gmarkF_len]
        rw [← hmk] at m2 ⊢
        have ms := Q2_markStands (G := G) (F := F) (S := S2) (i := i3) (at_ := many) (xs := u) X h hB3 m2 (by rw [f2 0 i3 (by simp [n3]), s1 i3 n3.2.2]; exact b3) (by omega) (by omega)
        rw [if_pos (by rw [lit 2]; exact (n_le (by omega) (by omega)).mpr hw2), rcv_m lo, bO_s, g1, bO_s, rcv_m lo, bO_s, g2, bO_s, rcv_m lo, bO_s, ms, bP_s]
        rw [so_ne (by omega)] at a1
        have f12 : fr (LK it) S S2 := ((fr_so (by simp)).trans (f1.mono (by simp))).trans (f2.mono (by simp))
        have ag : agr [2] [] [1, 3] [] (S 1 0) (S2 1 0) := a1.trans (ca2.mono (by decide) (by decide) (by decide) (by decide))
        have bC : Byt rt (S2 0 it) C false := by rw [f2 0 it (by simp [nt])]; exact c1
        have z67 : ∃ zs l, Byt 64 (S2 0 67) zs l := ⟨zs, l5, by rw [f2 0 67 (by simp), s1 67 (by omega)]; exact b5⟩
        rw [if_pos hw2]
        by_cases hq : mk = u.drop many
        · rw [if_pos hq, if_pos hq, retZ1]
          exact ⟨S2, by simp [hkl], f12, ag, ⟨C, false, bC⟩, fun v _ q => by rw [← Option.some.inj q]; exact bC, ⟨mk, false, m2⟩, z67⟩
        · rw [if_neg hq, if_neg hq, retZ0]
          exact ⟨S2, by simp, f12, ag, ⟨C, false, bC⟩, fun v _ q => absurd q (by simp), ⟨mk, false, m2⟩, z67⟩
      · have hkl2 : key.length = 32 ∨ key.length = 64 := by
          rw [hkl]; unfold wayK
          have : way = 0 ∨ way = 1 := by omega
          rcases this with rfl | rfl
          · exact .inl rfl
          · exact .inr rfl
        rw [if_neg (by rw [lit 2]; exact fun q => hw2 ((n_le (by omega) (by omega)).mp q)), if_neg hw2, htl]
        have f0 : fr (LK it) S (S.so 0 it o0) := fr_so (by simp)
        have ag0 : agr [2] [] [1, 3] [] (S 1 0) ((S.so 0 it o0) 1 0) := by rw [so_ne (by omega)]; exact agr.refl _ _ _ _ _
        have no0 : ∃ S', some ((0 : Int32), mem W (S.so 0 it o0)) = some ((0 : Int32), mem W S') ∧ fr (LK it) S S' ∧ agr [2] [] [1, 3] [] (S 1 0) (S' 1 0) ∧ (∃ xs l, Byt rt (S' 0 it) xs l) ∧ (∃ ys l, Byt 64 (S' 0 68) ys l) ∧ ∃ zs l, Byt 64 (S' 0 67) zs l := ⟨_, rfl, f0, ag0, ⟨[], false, by rw [so_eq]; exact b0⟩, ⟨ys, l4, by rw [s0 68 (by omega)]; exact b4⟩, zs, l5, by rw [s0 67 (by omega)]; exact b5⟩
        by_cases hz : many = 0
        · rw [if_pos (show (Int32.ofNat many) = 0 by rw [hz]; rfl), if_pos (show many = 0 ∨ many % 16 ≠ 0 from .inl hz), retZ0]
          obtain ⟨S', q1, q2, q3, q4, q5, q6⟩ := no0
          exact ⟨S', by rw [q1]; simp, q2, q3, q4, fun v _ q => absurd q (by simp), q5, q6⟩
        · rw [if_neg (show ¬ (Int32.ofNat many) = 0 by rw [z32]; exact fun q => hz ((n_eq (by omega) (by omega)).mp q))]
          have em : (Int32.ofNat many) - (Int32.ofNat many) / (16 : Int32) * (16 : Int32) = (Int32.ofNat (many % 16)) := by
            have := n_rem (a := many) (b := 16) (by omega) (by decide) (by decide)
            unfold rmI at this
            rw [if_neg (by decide)] at this
            exact Option.some.inj this
          rw [em]
          by_cases h16 : many % 16 = 0
          · rw [if_pos (show (Int32.ofNat (many % 16)) = 0 by rw [h16]; rfl), if_neg (show ¬ (many = 0 ∨ many % 16 ≠ 0) by omega), rcv_m lo, bO_s]
            obtain ⟨S2, g2, f2, m2, z2⟩ := Q2_markByCode (S := S.so 0 it o0) (many := many) (way := way) (xs := u) X hd h hK hB1 hB2 hB3 ⟨nk.1, nk.2.1⟩ ⟨n1.1, n1.2.1⟩ ⟨n2.1, n2.2.1⟩ ⟨n3.1, n3.2.1⟩ (by omega) (by rw [s0 ik nk.2.2]; exact bk) (by rw [s0 i1 n1.2.2]; exact b1) (by rw [s0 i2 n2.2.2]; exact b2) (by rw [s0 i3 n3.2.2]; exact b3) (by rw [s0 68 (by omega)]; exact b4) (by rw [s0 67 (by omega)]; exact b5) (by omega) (by omega) ha hi hkx
            obtain ⟨mk, hmk⟩ : ∃ mk, mk = cmarkF way key iv al (u.take many) := ⟨_, rfl⟩
            have lmk : mk.length = wayM way := by rw [hmk]; exact cmarkF_len _ _ _ _ _ (by omega)
            rw [← hmk] at m2 ⊢
            have s2 : ∀ j, j ≠ 67 → j ≠ 68 → j ≠ it → S2 0 j = S 0 j := fun j h1 h2 h3 => by rw [f2 0 j (by simp [h1, h2]), s0 j h3]
            have ms := Q2_markStands (G := G) (F := F) (S := S2) (i := i3) (at_ := many) (xs := u) X h hB3 m2 (by rw [s2 i3 n3.1 n3.2.1 n3.2.2]; exact b3) (by omega) (by omega)
            have f02 : fr (LK it) S S2 := f0.trans (f2.mono (by simp))
            have ag2 : agr [2] [] [1, 3] [] (S 1 0) (S2 1 0) := by rw [f2 1 0 (by simp)]; exact ag0
            have t2 : Byt rt (S2 0 it) [] false := by rw [f2 0 it (by simp [nt]), so_eq]; exact b0
            rw [g2, bO_s, rcv_m lo, bO_s, ms, bP_s]
            by_cases hq : mk = u.drop many
            · rw [if_pos hq, if_pos hq, if_neg (by decide), rcv_m lo, bO_s]
              have hI2 : IB S2 := fun x => by rw [f2 1 0 (by simp), so_ne (by omega)]; exact hI x
              obtain ⟨S3, g3, f3, a3, e3, v3⟩ := Q2_putUnchained (S := S2) (many := many) (u := u) X hc h hK hB1 hB3 hT n1.2.2 n3.2.2 (by omega) (by omega) h16 (by omega) (by omega) hkl2 hI2 (by rw [s2 ik nk.1 nk.2.1 nk.2.2]; exact bk) (by rw [s2 i1 n1.1 n1.2.1 n1.2.2]; exact b1) (by rw [s2 i3 n3.1 n3.2.1 n3.2.2]; exact b3) t2
              have f03 : fr (LK it) S S3 := f02.trans (f3.mono (by simp))
              have y68 : ∃ ys l, Byt 64 (S3 0 68) ys l := ⟨mk, false, by rw [f3 0 68 (by simp; omega)]; exact m2⟩
              have y67 : ∃ zs l, Byt 64 (S3 0 67) zs l := by
                obtain ⟨zs', lz, z2⟩ := z2
                exact ⟨zs', lz, by rw [f3 0 67 (by simp; omega)]; exact z2⟩
              rw [g3, bP_s]
              cases hun : unpadF (ucbc (ksF (key.length / 2 / 4) (key.drop (key.length / 2))) (key.length / 2 / 4 + 6) (many / 16) iv (u.take many)) with
              | none =>
                rw [if_pos (by rfl), retZ0]
                exact ⟨S3, by simp, f03, ag2.trans a3, e3, fun v _ q => absurd q (by simp), y68, y67⟩
              | some v =>
                rw [if_neg (show ¬ (if (some v).isSome = true then (1 : Int32) else 0) = 0 by simp), retZ1]
                exact ⟨S3, by simp [hkl], f03, ag2.trans a3, e3, fun v' _ q => by rw [← Option.some.inj q]; exact v3 v hun, y68, y67⟩
            · rw [if_neg hq, if_neg hq, if_pos rfl, retZ0]
              exact ⟨S2, by simp, f02, ag2, ⟨[], false, t2⟩, fun v _ q => absurd q (by simp), ⟨mk, false, m2⟩, z2⟩
          · rw [if_neg (show ¬ (Int32.ofNat (many % 16)) = 0 by rw [z32]; exact fun q => h16 ((n_eq (by omega) (by omega)).mp q)), if_pos (show many = 0 ∨ many % 16 ≠ 0 from .inr h16), retZ0]
            obtain ⟨S', q1, q2, q3, q4, q5, q6⟩ := no0
            exact ⟨S', by rw [q1]; simp, q2, q3, q4, fun v _ q => absurd q (by simp), q5, q6⟩
    · rw [if_neg (fun q => hkl ((n_eq (by omega) (by omega)).mp q)), retZ0]
      exact stay 0 rfl (fun q => hkl q.1)
end LOCK2
