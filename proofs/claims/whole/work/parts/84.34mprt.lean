/-! CALL print: the model -/
theorem st_101 : str 101 = str 44 ∧ str 102 = str 45 ∧ str 103 = str 46 ∧ str 104 = str 47 ∧ str 105 = str 48 ∧ str 106 = str 49 ++ str 50 ∧ str 107 = str 51 ∧ str 105 = [34, 125] := by decide +kernel
section MPR
variable {W : WR} {G : mG} {F : Nat} {S : ST} {o : Ob} {A : Nat → Option KY}
theorem dr_agr {f : Nat → Int32} {v : Int32} : agr [28] [] [27] [] o (dr o f v) := by
  unfold dr
  exact (agr_sA (by simp)).trans (agr_sf (by simp))
theorem oM_say {j : Nat} {ys : List UInt8} (X : Cx G F W) (h : isM W) (hj : j < 124) (hd : mDr o ys) (hy : ys.length < 2 ^ 29) : ∃ o', P_X13_sayAll G F (W.ad (.o 13 0)) (G.1 j) (mem W (S.so 13 0 o)) = some (mem W (S.so 13 0 o')) ∧ mDr o' (ys ++ str j) ∧ agr [28] [] [27] [] o o' := by
  obtain ⟨f, v, q1, q2⟩ := QM_sayAll (G := G) (F := F) (S := S.so 13 0 o) (j := j) (ys := ys) X h hj (by rw [so_eq]; exact hd) hy
  rw [so_eq] at q1 q2
  rw [so_so] at q1
  exact ⟨dr o f v, q1, q2, dr_agr⟩
theorem oM_sayPart {j k1 p cnt : Nat} {ys : List UInt8} {β : Nat → UInt8} (X : Cx G F W) (h : isM W) (hj : j < 124) (hd : mDr o ys) (hy : ys.length < 10000) (q : (kdA 13)[k1]? = some 1) (hne : k1 ≠ 27) (hl : mLen k1 < 2 ^ 30) (hb : p + cnt ≤ mLen k1) (hc : cnt < 90000) (hβ : mB o k1 β) : ∃ o', P_X13_sayPart G F (W.ad (.o 13 0)) (G.1 j) (W.ad (.a 13 0 k1)) (Int32.ofNat p) (Int32.ofNat cnt) (mem W (S.so 13 0 o)) = some (mem W (S.so 13 0 o')) ∧ mDr o' (ys ++ str j ++ enc (rdB β p cnt)) ∧ agr [28] [] [27] [] o o' := by
  obtain ⟨o1, q1, d1, a1⟩ := oM_say (G := G) (F := F) (S := S) (j := j) X h hj hd (by omega)
  have := str_lt hj
  obtain ⟨f, v, q2, d2⟩ := QM_sayLetters (G := G) (F := F) (S := S.so 13 0 o1) (ys := ys ++ str j) (k1 := k1) (p1 := p) (cnt := cnt) X h q hne hl hb hc (by rw [List.length_append]; omega) (by rw [so_eq]; exact d1) (by rw [so_eq]; exact a1.mB hβ (by simp [hne]))
  rw [so_eq] at q2 d2
  rw [so_so] at q2
  refine ⟨dr o1 f v, ?_, d2, a1.trans dr_agr⟩
  unfold P_X13_sayPart
  rw [rcv_m h.lo, bO_s, q1, bO_s, rcv_m h.lo, bO_s, q2, bO_s]
theorem oM_print164 {ys t : List UInt8} (X : Cx G F W) (h : isM W) (hd : mDr o ys) (hy : ys.length ≤ 1000) (hD : mDig o) (ho : mOut o t) : ∃ o', B_X13_print_164 G F (W.ad (.o 13 0)) (mem W (S.so 13 0 o)) = some (32, mem W (S.so 13 0 o')) ∧ mOut o' (sha false ys) ∧ agr [37, 5] [] [36, 31, 32, 35, 4] [33, 34] o o' ∧ mDig o' := by
  obtain ⟨⟨β35, b35⟩, ⟨β36, b36⟩, ⟨β40, b40⟩, β38, b38⟩ := hD
  obtain ⟨f28, β27, b27, r27⟩ := hd
  rw [Nat.min_eq_left (by omega), List.take_of_length_le (by omega)] at r27
  obtain ⟨g1, m1⟩ := QM_empty (G := G) (F := F) (S := S.so 13 0 o) h (by rw [so_eq]; exact b36)
  rw [so_eq] at g1 m1
  rw [so_so] at g1
  have a1 : agr [37] [] [] [] o (o.sf 37 0) := agr_sf (by simp)
  have l27 : 1000 ≤ mLen 27 := by decide
  obtain ⟨o2, g2, m2, a2⟩ := QM_lay' (G := G) (F := F) (S := S) (o := o.sf 37 0) (k := 27) (p := 0) (cnt := ys.length) X h rfl (by decide) (by decide) (by omega) m1 (by simp; omega) (a1.mB b27 (by simp))
  rw [r27, List.nil_append] at m2
  have g2 : P_X13_lay G F (W.ad (.o 13 0)) (W.ad (.a 13 0 27)) 0 (Int32.ofNat ys.length) (mem W (S.so 13 0 (o.sf 37 0))) = _ := g2
  obtain ⟨o3, g3, b3, m3, a3⟩ := QM_digestOf (G := G) (F := F) (S := S.so 13 0 o2) (wide := false) (γ := β35) X h (by rw [so_eq]; exact m2) (by rw [so_eq]; exact a2.mB (a1.mB b35 (by simp)) (by decide)) (by omega)
  rw [so_eq] at a3
  rw [so_so] at g3
  have g3 : P_X13_digestOf G F (W.ad (.o 13 0)) 256 (mem W (S.so 13 0 o2)) = some (32, mem W (S.so 13 0 o3)) := g3
  have a123 : agr [37, 5] [] [36, 31, 32, 35, 4] [33, 34] o o3 := ((a1.mono (by simp) (by simp) (by simp) (by simp)).trans (a2.mono (by simp) (by simp) (by simp) (by simp))).trans (a3.mono (by simp) (by simp) (by simp) (by simp))
  have a123' : agr [37] [] [36, 31, 32, 35] [33, 34] o o3 := ((a1.mono (by simp) (by simp) (by simp) (by simp)).trans (a2.mono (by simp) (by simp) (by simp) (by simp))).trans (a3.mono (by simp) (by simp) (by simp) (by simp))
  obtain ⟨_, _, β4, b4, _⟩ := ho
  have sl : (sha false ys).length = 32 := sha_len false ys
  have g4 := QM_tell (G := G) (F := F) (S := S.so 13 0 o3) (k := 35) (p := 0) (cnt := 32) (β4 := β4) X h rfl (by decide) (by decide) (by decide) (by decide) (by rw [so_eq]; exact b3) (by rw [so_eq]; exact a123'.mB b4 (by decide))
  rw [so_eq, so_so] at g4
  have rs : rdB (wrB β35 0 (sha false ys)) 0 32 = sha false ys := by
    have := rdB_wrB β35 0 (sha false ys)
    rw [sl] at this
    exact this
  rw [rs] at g4
  have g4 : P_X13_tell G F (W.ad (.o 13 0)) (W.ad (.a 13 0 35)) 0 32 (mem W (S.so 13 0 o3)) = _ := g4
  have a4 : agr [37, 5] [] [36, 31, 32, 35, 4] [33, 34] o3 ((o3.sA 4 (fun j => sb (wrB β4 0 (sha false ys) j))).sf 5 (Int32.ofNat 32)) := (agr_sA (by simp)).trans (agr_sf (by simp))
  have a4' : agr [5] [] [4] [] o3 ((o3.sA 4 (fun j => sb (wrB β4 0 (sha false ys) j))).sf 5 (Int32.ofNat 32)) := (agr_sA (by simp)).trans (agr_sf (by simp))
  refine ⟨(o3.sA 4 (fun j => sb (wrB β4 0 (sha false ys) j))).sf 5 (Int32.ofNat 32), ?_, ⟨by rw [sf_eq, sl], by rw [sl]; decide, wrB β4 0 (sha false ys), mB_sA _ _ _, rdB_wrB _ _ _⟩, a123.trans a4, ⟨⟨_, a4'.mB b3 (by decide)⟩, ?_, ⟨_, a4'.mB (a123'.mB b40 (by decide)) (by decide)⟩, _, a4'.mB (a123'.mB b38 (by decide)) (by decide)⟩⟩
  · unfold B_X13_print_164
    rw [rcv_m h.lo, bO_s, g1, bO_s, h.gR 27 rfl (by decide), bO_s, h.gI 28 rfl, bO_s, so_eq, sf_ne (by decide), f28, rcv_m h.lo, bO_s, g2, bO_s, h.gR 35 rfl (by decide), bO_s, rcv_m h.lo, bO_s, g3, bP_s, rcv_m h.lo, bO_s, g4, bP_s]
    rfl
  · obtain ⟨_, _, β, b, _⟩ := m3
    exact ⟨β, a4'.mB b (by decide)⟩
theorem oM_print {t : List UInt8} (X : Cx G F W) (h : isM W) (K : KM o A) (h27 : ∃ β, mB o 27 β) (hD : mDig o) (ho : mOut o t) (x : Int32) : match prtW A x with | none => P_X13_print G F (W.ad (.o 13 0)) x (mem W (S.so 13 0 o)) = some (-2, mem W (S.so 13 0 o)) | some K => ∃ o', P_X13_print G F (W.ad (.o 13 0)) x (mem W (S.so 13 0 o)) = some (32, mem W (S.so 13 0 o')) ∧ mOut o' (sha false (prF K)) ∧ agr [28, 37, 5] [] [27, 36, 31, 32, 35, 4] [33, 34] o o' ∧ mDig o' := by
  obtain ⟨t1, t2, t3, t4, t5, t6, t7, t8⟩ := st_101
  have neg : isk A x = false → prtW A x = none ∧ P_X13_print G F (W.ad (.o 13 0)) x (mem W (S.so 13 0 o)) = some (-2, mem W (S.so 13 0 o)) := by
    intro e
    unfold P_X13_print prtW
    rw [rcv_m h.lo, bO_s, oM_isKey h K, bP_s, e]
    refine ⟨if_neg Bool.false_ne_true, ?_⟩
    rw [if_neg Bool.false_ne_true, if_pos rfl]
  rcases isk_cases A x with ⟨q, e⟩ | ⟨k, hk, rfl, e⟩
  · obtain ⟨n1, n2⟩ := neg e
    rw [n1]
    exact n2
  · cases eA : A k with
    | none =>
      obtain ⟨n1, n2⟩ := neg (by rw [e, eA]; rfl)
      rw [n1]
      exact n2
    | some K2 =>
      have e' : isk A (Int32.ofNat k) = true := by rw [e, eA]; rfl
      have ep : prtW A (Int32.ofNat k) = some K2 := by unfold prtW; rw [if_pos e', n_at (by omega)]; exact eA
      rw [ep]
      show ∃ o', _
      obtain ⟨α85, α87, α89, α92, α94, ⟨b1, b2, b3, b4, b5⟩, q⟩ := id K
      have q := q k hk
      rw [eA] at q
      obtain ⟨q0, ⟨⟨z1, z2, z3, z4, z5, z6⟩, ⟨l1, y1⟩, ⟨l2, y2⟩, _, _, _⟩, V⟩ := q
      have k2 := V.kd
      have m128 : (128 : Int32) * (Int32.ofNat k) = (Int32.ofNat (128 * k)) := n_mul 128 k
      have rd : ∀ {p : Ob} {kk : Nat}, (kdA 13)[kk]? = some 0 → mLen kk = 16 → aI G (mem W (S.so 13 0 p)) 0 (W.ad (.a 13 0 kk)) (Int32.ofNat k) = some (p.a kk k) := fun {p kk} c1 c2 => by
        rw [h.aN c1 (by rw [c2]; exact hk) (by rw [c2]; decide), so_eq]
      obtain ⟨p0, hp0⟩ : ∃ p0, p0 = o.sf 28 0 := ⟨_, rfl⟩
      have a0 : agr [28] [] [27] [] o p0 := by rw [hp0]; exact agr_sf (by simp)
      have a0' : agr [28] [] [] [] o p0 := by rw [hp0]; exact agr_sf (by simp)
      have d0 : mDr p0 [] := by
        obtain ⟨β, b⟩ := h27
        exact ⟨by rw [hp0, sf_eq]; rfl, β, a0'.mB b (by simp), rfl⟩
      -- what is said, then the digest of it
      have fin : ∀ (p : Ob), agr [28] [] [27] [] o p → mDr p (prF K2) → (prF K2).length ≤ 1000 → ∃ o', B_X13_print_164 G F (W.ad (.o 13 0)) (mem W (S.so 13 0 p)) = some (32, mem W (S.so 13 0 o')) ∧ mOut o' (sha false (prF K2)) ∧ agr [28, 37, 5] [] [27, 36, 31, 32, 35, 4] [33, 34] o o' ∧ mDig o' := by
        intro p ap dp lp
        obtain ⟨⟨β35, c35⟩, ⟨β36, c36⟩, ⟨β40, c40⟩, β38, c38⟩ := hD
        obtain ⟨u1, u2, β4, u3, u4⟩ := ho
        obtain ⟨o', g, m, a, d⟩ := oM_print164 (G := G) (F := F) (S := S) (o := p) (t := t) X h dp lp ⟨⟨_, ap.mB c35 (by decide)⟩, ⟨_, ap.mB c36 (by decide)⟩, ⟨_, ap.mB c40 (by decide)⟩, _, ap.mB c38 (by decide)⟩ ⟨by rw [ap.1 5 (by decide)]; exact u1, u2, β4, ap.mB u3 (by decide), u4⟩
        exact ⟨o', g, m, (ap.mono (by simp) (by simp) (by simp) (by simp)).trans (a.mono (by simp) (by simp) (by simp) (by simp)), d⟩
      unfold P_X13_print
      rw [rcv_m h.lo, bO_s, oM_isKey h K, bP_s, e', if_pos rfl, if_neg (by decide), h.pI 28 _ rfl, bO_s, so_eq, so_so, ← hp0, h.gR 84 rfl (by decide), bO_s, rd rfl rfl, bO_s, a0.2.2.1 84 (by decide), z1]
      by_cases c0 : K2.1 = 0
      · have eM : Ma K2 = K2.2.1.1 := by unfold Ma; rw [if_neg (by omega)]
        rw [eM] at z2 l1 y1
        have ep : prF K2 = str 44 ++ (enc K2.2.1.1 ++ str 45) := by unfold prF; rw [if_pos c0]
        obtain ⟨p1, g1, d1, a1⟩ := oM_sayPart (G := G) (F := F) (S := S) (o := p0) (j := 101) (k1 := 85) (p := 128 * k) (cnt := K2.2.1.1.length) X h (by decide) d0 (by decide) rfl (by decide) (by decide) (by show _ ≤ 2048; omega) (by omega) (a0.mB b1 (by decide))
        obtain ⟨p2, g2, d2, a2⟩ := oM_say (G := G) (F := F) (S := S) (o := p1) (j := 102) X h (by decide) d1 (by
          have := str_lt (j := 101) (by decide)
          rw [List.length_append, List.length_append, enc_len, rdB_len]; simp; omega)
        rw [y1, t1, t2, List.nil_append, List.append_assoc, ← ep] at d2
        have lp : (prF K2).length ≤ 1000 := by
          have := str_lt (j := 44) (by decide)
          have := str_lt (j := 45) (by decide)
          rw [ep, List.length_append, List.length_append, enc_len]; omega
        rw [if_pos (show (Int32.ofNat (K2.1)) = 0 by rw [c0]; rfl), h.gR 85 rfl (by decide), bO_s, h.gR 86 rfl (by decide), bO_s, rd rfl rfl, bO_s, a0.2.2.1 86 (by decide), z2, rcv_m h.lo, bO_s, m128, g1, bO_s, rcv_m h.lo, bO_s, g2, bO_s]
        exact fin p2 ((a0.trans a1).trans a2) d2 lp
      · rw [if_neg (show ¬ (Int32.ofNat (K2.1)) = 0 from fun q => c0 ((n_eq (b := 0) (by omega) (by omega)).mp q)), bO_s, rd rfl rfl, bO_s, a0.2.2.1 84 (by decide), z1]
        by_cases c1 : K2.1 = 1
        · have eM : Ma K2 = K2.2.1.1 := by unfold Ma; rw [if_neg (by omega)]
          have eE : Me K2 = K2.2.1.2.1 := by unfold Me; rw [if_neg (by omega)]
          rw [eM] at z2 l1 y1
          rw [eE] at z3 l2 y2
          have ep : prF K2 = str 46 ++ (enc K2.2.1.2.1 ++ (str 47 ++ (enc K2.2.1.1 ++ str 48))) := by unfold prF; rw [if_neg c0, if_pos c1]
          have s3 := str_lt (j := 103) (by decide)
          have s4 := str_lt (j := 104) (by decide)
          obtain ⟨p1, g1, d1, a1⟩ := oM_sayPart (G := G) (F := F) (S := S) (o := p0) (j := 103) (k1 := 87) (p := 128 * k) (cnt := K2.2.1.2.1.length) X h (by decide) d0 (by decide) rfl (by decide) (by decide) (by show _ ≤ 2048; omega) (by omega) (a0.mB b2 (by decide))
          have a01 := a0.trans a1
          obtain ⟨p2, g2, d2, a2⟩ := oM_sayPart (G := G) (F := F) (S := S) (o := p1) (j := 104) (k1 := 85) (p := 128 * k) (cnt := K2.2.1.1.length) X h (by decide) d1 (by
            rw [List.length_append, List.length_append, enc_len, rdB_len]; simp; omega) rfl (by decide) (by decide) (by show _ ≤ 2048; omega) (by omega) (a01.mB b1 (by decide))
          obtain ⟨p3, g3, d3, a3⟩ := oM_say (G := G) (F := F) (S := S) (o := p2) (j := 105) X h (by decide) d2 (by
            simp only [List.length_append, enc_len, rdB_len, List.length_nil]; omega)
          rw [y1, y2, t3, t4, t5, List.nil_append] at d3
          simp only [List.append_assoc] at d3
          rw [← ep] at d3
          have lp : (prF K2).length ≤ 1000 := by
            have := str_lt (j := 46) (by decide)
            have := str_lt (j := 47) (by decide)
            have := str_lt (j := 48) (by decide)
            rw [ep]
            simp only [List.length_append, enc_len]; omega
          rw [if_pos (show (Int32.ofNat (K2.1)) = 1 by rw [c1]; rfl), h.gR 87 rfl (by decide), bO_s, h.gR 88 rfl (by decide), bO_s, rd rfl rfl, bO_s, a0.2.2.1 88 (by decide), z3, rcv_m h.lo, bO_s, m128, g1, bO_s, h.gR 85 rfl (by decide), bO_s, h.gR 86 rfl (by decide), bO_s, rd rfl rfl, bO_s, a01.2.2.1 86 (by decide), z2, rcv_m h.lo, bO_s, g2, bO_s, rcv_m h.lo, bO_s, g3, bO_s]
          exact fin p3 ((a01.trans a2).trans a3) d3 lp
        · have c2 : K2.1 = 2 := by omega
          have eM : Ma K2 = seg K2.2.1.1 0 32 := by unfold Ma; rw [if_pos c2]
          have eE : Me K2 = seg K2.2.1.1 32 32 := by unfold Me; rw [if_pos c2]
          have p64 := V.p64 c2
          have m1 : (seg K2.2.1.1 0 32).length = 32 := seg_len (by omega)
          have m2 : (seg K2.2.1.1 32 32).length = 32 := seg_len (by omega)
          rw [eM, m1] at y1
          rw [eE, m2] at y2
          have ep : prF K2 = str 49 ++ ((str 50 ++ (enc (seg K2.2.1.1 0 32) ++ (str 51 ++ (enc (seg K2.2.1.1 32 32) ++ [34])))) ++ [125]) := by unfold prF pmF; rw [if_neg c0, if_neg c1]
          have s6 := str_lt (j := 106) (by decide)
          have s7 := str_lt (j := 107) (by decide)
          obtain ⟨p1, g1, d1, a1⟩ := oM_sayPart (G := G) (F := F) (S := S) (o := p0) (j := 106) (k1 := 85) (p := 128 * k) (cnt := 32) X h (by decide) d0 (by decide) rfl (by decide) (by decide) (by show _ ≤ 2048; omega) (by omega) (a0.mB b1 (by decide))
          have a01 := a0.trans a1
          obtain ⟨p2, g2, d2, a2⟩ := oM_sayPart (G := G) (F := F) (S := S) (o := p1) (j := 107) (k1 := 87) (p := 128 * k) (cnt := 32) X h (by decide) d1 (by
            simp only [List.length_append, enc_len, rdB_len, List.length_nil]; omega) rfl (by decide) (by decide) (by show _ ≤ 2048; omega) (by omega) (a01.mB b2 (by decide))
          obtain ⟨p3, g3, d3, a3⟩ := oM_say (G := G) (F := F) (S := S) (o := p2) (j := 105) X h (by decide) d2 (by
            simp only [List.length_append, enc_len, rdB_len, List.length_nil]; omega)
          have g1 : P_X13_sayPart G F (W.ad (.o 13 0)) (G.1 106) (W.ad (.a 13 0 85)) (Int32.ofNat (128 * k)) 32 (mem W (S.so 13 0 p0)) = _ := g1
          have g2 : P_X13_sayPart G F (W.ad (.o 13 0)) (G.1 107) (W.ad (.a 13 0 87)) (Int32.ofNat (128 * k)) 32 (mem W (S.so 13 0 p1)) = _ := g2
          rw [y1, y2, t6, t7, t8, List.nil_append] at d3
          have ep2 : str 49 ++ str 50 ++ enc (seg K2.2.1.1 0 32) ++ str 51 ++ enc (seg K2.2.1.1 32 32) ++ [34, 125] = prF K2 := by
            rw [ep]
            simp only [List.append_assoc]
            rfl
          rw [ep2] at d3
          have lp : (prF K2).length ≤ 1000 := by
            have := str_lt (j := 49) (by decide)
            have := str_lt (j := 50) (by decide)
            have := str_lt (j := 51) (by decide)
            rw [ep]
            simp only [List.length_append, enc_len, m1, m2, List.length_cons, List.length_nil]; omega
          rw [if_neg (show ¬ (Int32.ofNat (K2.1)) = 1 from fun q => c1 ((n_eq (b := 1) (by omega) (by omega)).mp q)), h.gR 85 rfl (by decide), bO_s, rcv_m h.lo, bO_s, m128, g1, bO_s, h.gR 87 rfl (by decide), bO_s, rcv_m h.lo, bO_s, g2, bO_s, rcv_m h.lo, bO_s, g3, bO_s]
          exact fin p3 ((a01.trans a2).trans a3) d3 lp
end MPR
