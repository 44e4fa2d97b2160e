/-! THE CALL print of the model once more: what is said stays a row of bytes -/
section MPE
variable {W : WR} {G : mG} {F : Nat} {S : ST} {o : Ob} {A : Nat → Option KY}
theorem oM_printE {t : List UInt8} (X : Cx G F W) (h : isM W) (K : KM o A) (h27 : ∃ β, mB o 27 β) (hD : mDig o) (ho : mOut o t) (x : Int32) : match prtW A x with | none => P_X13_print G F (W.ad (.o 13 0)) x (mem W (S.so 13 0 o)) = some (-2, mem W (S.so 13 0 o)) | some K => ∃ o', P_X13_print G F (W.ad (.o 13 0)) x (mem W (S.so 13 0 o)) = some (32, mem W (S.so 13 0 o')) ∧ mOut o' (sha false (prF K)) ∧ agr [28, 37, 5] [] [27, 36, 31, 32, 35, 4] [33, 34] o o' ∧ mDig o' ∧ ∃ β, mB o' 27 β := by
  obtain ⟨t1, t2, t3, t4, t5, t6, t7, t8⟩ := st_101
  have neg : isk A x = false → prtW A x = none ∧ P_X13_print G F (W.ad (.o 13 0)) x (mem W (S.so 13 0 o)) = some (-2, mem W (S.so 13 0 o)) := by
    intro e
    unfold P_X13_print prtW
    rw [rcv_m h.lo, bO_s, oM_isKey h K, bP_s, e]
    refine ⟨if_neg Bool.false_ne_true, ?_⟩
    rw [if_neg Bool.false_ne_true, if_pos rfl]
  rcases isk_cases A x with ⟨q, e⟩ | ⟨k, hk, rfl, e⟩
  · obtain ⟨n1, n2⟩ := neg e
    rw [n1]
    exact n2
  · cases eA : A k with
    | none =>
      obtain ⟨n1, n2⟩ := neg (by rw [e, eA]; rfl)
      rw [n1]
      exact n2
    | some K2 =>
      have e' : isk A (Int32.ofNat k) = true := by rw [e, eA]; rfl
      have ep : prtW A (Int32.ofNat k) = some K2 := by unfold prtW; rw [if_pos e', n_at (by omega)]; exact eA
      rw [ep]
      show ∃ o', _
      obtain ⟨α85, α87, α89, α92, α94, ⟨b1, b2, b3, b4, b5⟩, q⟩ := id K
      have q := q k hk
      rw [eA] at q
      obtain ⟨q0, ⟨⟨z1, z2, z3, z4, z5, z6⟩, ⟨l1, y1⟩, ⟨l2, y2⟩, _, _, _⟩, V⟩ := q
      have k2 := V.kd
      have m128 : (128 : Int32) * (Int32.ofNat k) = (Int32.ofNat (128 * k)) := n_mul 128 k
      have rd : ∀ {p : Ob} {kk : Nat}, (kdA 13)[kk]? = some 0 → mLen kk = 16 → aI G (mem W (S.so 13 0 p)) 0 (W.ad (.a 13 0 kk)) (Int32.ofNat k) = some (p.a kk k) := fun {p kk} c1 c2 => by
        rw [h.aN c1 (by rw [c2]; exact hk) (by rw [c2]; decide), so_eq]
      obtain ⟨p0, hp0⟩ : ∃ p0, p0 = o.sf 28 0 := ⟨_, rfl⟩
      have a0 : agr [28] [] [27] [] o p0 := by rw [hp0]; exact agr_sf (by simp)
      have a0' : agr [28] [] [] [] o p0 := by rw [hp0]; exact agr_sf (by simp)
      have d0 : mDr p0 [] := by
        obtain ⟨β, b⟩ := h27
        exact ⟨by rw [hp0, sf_eq]; rfl, β, a0'.mB b (by simp), rfl⟩
      -- what is said, then the digest of it
      have fin : ∀ (p : Ob), agr [28] [] [27] [] o p → mDr p (prF K2) → (prF K2).length ≤ 1000 → ∃ o', B_X13_print_164 G F (W.ad (.o 13 0)) (mem W (S.so 13 0 p)) = some (32, mem W (S.so 13 0 o')) ∧ mOut o' (sha false (prF K2)) ∧ agr [28, 37, 5] [] [27, 36, 31, 32, 35, 4] [33, 34] o o' ∧ mDig o' ∧ ∃ β, mB o' 27 β := by
        intro p ap dp lp
        obtain ⟨⟨β35, c35⟩, ⟨β36, c36⟩, ⟨β40, c40⟩, β38, c38⟩ := hD
        obtain ⟨u1, u2, β4, u3, u4⟩ := ho
        obtain ⟨o', g, m, a, d⟩ := oM_print164 (G := G) (F := F) (S := S) (o := p) (t := t) X h dp lp ⟨⟨_, ap.mB c35 (by decide)⟩, ⟨_, ap.mB c36 (by decide)⟩, ⟨_, ap.mB c40 (by decide)⟩, _, ap.mB c38 (by decide)⟩ ⟨by rw [ap.1 5 (by decide)]; exact u1, u2, β4, ap.mB u3 (by decide), u4⟩
        exact ⟨o', g, m, (ap.mono (by simp) (by simp) (by simp) (by simp)).trans (a.mono (by simp) (by simp) (by simp) (by simp)), d, by
          obtain ⟨_, β, b27, _⟩ := dp
          exact ⟨β, a.mB b27 (by decide)⟩⟩
      unfold P_X13_print
      rw [rcv_m h.lo, bO_s, oM_isKey h K, bP_s, e', if_pos rfl, if_neg (by decide), h.pI 28 _ rfl, bO_s, so_eq, so_so, ← hp0, h.gR 84 rfl (by decide), bO_s, rd rfl rfl, bO_s, a0.2.2.1 84 (by decide), z1]
      by_cases c0 : K2.1 = 0
      · have eM : Ma K2 = K2.2.1.1 := by unfold Ma; rw [if_neg (by omega)]
        rw [eM] at z2 l1 y1
        have ep : prF K2 = str 44 ++ (enc K2.2.1.1 ++ str 45) := by unfold prF; rw [if_pos c0]
        obtain ⟨p1, g1, d1, a1⟩ := oM_sayPart (G := G) (F := F) (S := S) (o := p0) (j := 101) (k1 := 85) (p := 128 * k) (cnt := K2.2.1.1.length) X h (by decide) d0 (by decide) rfl (by decide) (by decide) (by show _ ≤ 2048; omega) (by omega) (a0.mB b1 (by decide))
        obtain ⟨p2, g2, d2, a2⟩ := oM_say (G := G) (F := F) (S := S) (o := p1) (j := 102) X h (by decide) d1 (by
          have := str_lt (j := 101) (by decide)
          rw [List.length_append, List.length_append, enc_len, rdB_len]; simp; omega)
        rw [y1, t1, t2, List.nil_append, List.append_assoc, ← ep] at d2
        have lp : (prF K2).length ≤ 1000 := by
          have := str_lt (j := 44) (by decide)
          have := str_lt (j := 45) (by decide)
          rw [ep, List.length_append, List.length_append, enc_len]; omega
        rw [if_pos (show (Int32.ofNat (K2.1)) = 0 by rw [c0]; rfl), h.gR 85 rfl (by decide), bO_s, h.gR 86 rfl (by decide), bO_s, rd rfl rfl, bO_s, a0.2.2.1 86 (by decide), z2, rcv_m h.lo, bO_s, m128, g1, bO_s, rcv_m h.lo, bO_s, g2, bO_s]
        exact fin p2 ((a0.trans a1).trans a2) d2 lp
      · rw [if_neg (show ¬ (Int32.ofNat (K2.1)) = 0 from fun q => c0 ((n_eq (b := 0) (by omega) (by omega)).mp q)), bO_s, rd rfl rfl, bO_s, a0.2.2.1 84 (by decide), z1]
        by_cases c1 : K2.1 = 1
        · have eM : Ma K2 = K2.2.1.1 := by unfold Ma; rw [if_neg (by omega)]
          have eE : Me K2 = K2.2.1.2.1 := by unfold Me; rw [if_neg (by omega)]
          rw [eM] at z2 l1 y1
          rw [eE] at z3 l2 y2
          have ep : prF K2 = str 46 ++ (enc K2.2.1.2.1 ++ (str 47 ++ (enc K2.2.1.1 ++ str 48))) := by unfold prF; rw [if_neg c0, if_pos c1]
          have s3 := str_lt (j := 103) (by decide)
          have s4 := str_lt (j := 104) (by decide)
          obtain ⟨p1, g1, d1, a1⟩ := oM_sayPart (G := G) (F := F) (S := S) (o := p0) (j := 103) (k1 := 87) (p := 128 * k) (cnt := K2.2.1.2.1.length) X h (by decide) d0 (by decide) rfl (by decide) (by decide) (by show _ ≤ 2048; omega) (by omega) (a0.mB b2 (by decide))
          have a01 := a0.trans a1
          obtain ⟨p2, g2, d2, a2⟩ := oM_sayPart (G := G) (F := F) (S := S) (o := p1) (j := 104) (k1 := 85) (p := 128 * k) (cnt := K2.2.1.1.length) X h (by decide) d1 (by
            rw [List.length_append, List.length_append, enc_len, rdB_len]; simp; omega) rfl (by decide) (by decide) (by show _ ≤ 2048; omega) (by omega) (a01.mB b1 (by decide))
          obtain ⟨p3, g3, d3, a3⟩ := oM_say (G := G) (F := F) (S := S) (o := p2) (j := 105) X h (by decide) d2 (by
            simp only [List.length_append, enc_len, rdB_len, List.length_nil]; omega)
          rw [y1, y2, t3, t4, t5, List.nil_append] at d3
          simp only [List.append_assoc] at d3
          rw [← ep] at d3
          have lp : (prF K2).length ≤ 1000 := by
            have := str_lt (j := 46) (by decide)
            have := str_lt (j := 47) (by decide)
            have := str_lt (j := 48) (by decide)
            rw [ep]
            simp only [List.length_append, enc_len]; omega
          rw [if_pos (show (Int32.ofNat (K2.1)) = 1 by rw [c1]; rfl), h.gR 87 rfl (by decide), bO_s, h.gR 88 rfl (by decide), bO_s, rd rfl rfl, bO_s, a0.2.2.1 88 (by decide), z3, rcv_m h.lo, bO_s, m128, g1, bO_s, h.gR 85 rfl (by decide), bO_s, h.gR 86 rfl (by decide), bO_s, rd rfl rfl, bO_s, a01.2.2.1 86 (by decide), z2, rcv_m h.lo, bO_s, g2, bO_s, rcv_m h.lo, bO_s, g3, bO_s]
          exact fin p3 ((a01.trans a2).trans a3) d3 lp
        · have c2 : K2.1 = 2 := by omega
          have eM : Ma K2 = seg K2.2.1.1 0 32 := by unfold Ma; rw [if_pos c2]
          have eE : Me K2 = seg K2.2.1.1 32 32 := by unfold Me; rw [if_pos c2]
          have p64 := V.p64 c2
          have m1 : (seg K2.2.1.1 0 32).length = 32 := seg_len (by omega)
          have m2 : (seg K2.2.1.1 32 32).length = 32 := seg_len (by omega)
          rw [eM, m1] at y1
          rw [eE, m2] at y2
          have ep : prF K2 = str 49 ++ ((str 50 ++ (enc (seg K2.2.1.1 0 32) ++ (str 51 ++ (enc (seg K2.2.1.1 32 32) ++ [34])))) ++ [125]) := by unfold prF pmF; rw [if_neg c0, if_neg c1]
          have s6 := str_lt (j := 106) (by decide)
          have s7 := str_lt (j := 107) (by decide)
          obtain ⟨p1, g1, d1, a1⟩ := oM_sayPart (G := G) (F := F) (S := S) (o := p0) (j := 106) (k1 := 85) (p := 128 * k) (cnt := 32) X h (by decide) d0 (by decide) rfl (by decide) (by decide) (by show _ ≤ 2048; omega) (by omega) (a0.mB b1 (by decide))
          have a01 := a0.trans a1
          obtain ⟨p2, g2, d2, a2⟩ := oM_sayPart (G := G) (F := F) (S := S) (o := p1) (j := 107) (k1 := 87) (p := 128 * k) (cnt := 32) X h (by decide) d1 (by
            simp only [List.length_append, enc_len, rdB_len, List.length_nil]; omega) rfl (by decide) (by decide) (by show _ ≤ 2048; omega) (by omega) (a01.mB b2 (by decide))
          obtain ⟨p3, g3, d3, a3⟩ := oM_say (G := G) (F := F) (S := S) (o := p2) (j := 105) X h (by decide) d2 (by
            simp only [List.length_append, enc_len, rdB_len, List.length_nil]; omega)
          have g1 : P_X13_sayPart G F (W.ad (.o 13 0)) (G.1 106) (W.ad (.a 13 0 85)) (Int32.ofNat (128 * k)) 32 (mem W (S.so 13 0 p0)) = _ := g1
          have g2 : P_X13_sayPart G F (W.ad (.o 13 0)) (G.1 107) (W.ad (.a 13 0 87)) (Int32.ofNat (128 * k)) 32 (mem W (S.so 13 0 p1)) = _ := g2
          rw [y1, y2, t6, t7, t8, List.nil_append] at d3
          have ep2 : str 49 ++ str 50 ++ enc (seg K2.2.1.1 0 32) ++ str 51 ++ enc (seg K2.2.1.1 32 32) ++ [34, 125] = prF K2 := by
            rw [ep]
            simp only [List.append_assoc]
            rfl
          rw [ep2] at d3
          have lp : (prF K2).length ≤ 1000 := by
            have := str_lt (j := 49) (by decide)
            have := str_lt (j := 50) (by decide)
            have := str_lt (j := 51) (by decide)
            rw [ep]
            simp only [List.length_append, enc_len, m1, m2, List.length_cons, List.length_nil]; omega
          rw [if_neg (show ¬ (Int32.ofNat (K2.1)) = 1 from fun q => c1 ((n_eq (b := 1) (by omega) (by omega)).mp q)), h.gR 85 rfl (by decide), bO_s, rcv_m h.lo, bO_s, m128, g1, bO_s, h.gR 87 rfl (by decide), bO_s, rcv_m h.lo, bO_s, g2, bO_s, rcv_m h.lo, bO_s, g3, bO_s]
          exact fin p3 ((a01.trans a2).trans a3) d3 lp
end MPE
