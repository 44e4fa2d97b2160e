/-! CALL decrypt: the model, from its row on -/
theorem dcR_v (J : JT) : dcR J = 0 ∨ dcR J = -23 ∨ dcR J = -24 ∨ dcR J = -25 := by
  unfold dcR
  split
  · exact Or.inr (Or.inl rfl)
  · unfold slR
    split
    · split
      · split
        · exact Or.inr (Or.inr (Or.inr rfl))
        · split
          · exact Or.inl rfl
          · exact Or.inr (Or.inl rfl)
      · exact Or.inr (Or.inr (Or.inl rfl))
    · exact Or.inr (Or.inl rfl)
theorem dcR_0 {J : JT} (h : dcR J = 0) : slR J = 0 ∧ (4 ≤ (slA J).getD 0 → onC (beN (seg (epB J) 0 32)) (beN (seg (epB J) 32 32)) = true) := by
  unfold dcR at h
  by_cases c : slR J = 0 ∧ 4 ≤ (slA J).getD 0 ∧ onC (beN (seg (epB J) 0 32)) (beN (seg (epB J) 32 32)) = false
  · rw [if_pos c] at h
    exact absurd h (by decide)
  · rw [if_neg c] at h
    refine ⟨h, fun q => ?_⟩
    cases on : onC (beN (seg (epB J) 0 32)) (beN (seg (epB J) 32 32)) with
    | true => rfl
    | false => exact absurd ⟨h, q, on⟩ c
theorem paB_len {J : JT} {o : Option Nat} {d : List UInt8} (Y : JX J) (h : paB J o = some d) : d.length ≤ J.2.2.length * 3 / 4 := by
  cases o with
  | none =>
    have h : some [] = some d := h
    rw [← Option.some.inj h]
    exact Nat.zero_le _
  | some i => exact ltB_len (o := some i) Y (show ltB J (some i) = some d from h)
section MD3
variable {W : WR} {G : mG} {F : Nat} {S : ST} {A : Nat → Option KY} {bk : Nat}
theorem dO_neg {xs : List UInt8} (h : (dec xs).length < 2 ^ 31) : ((if fltF xs = none then (Int32.ofNat (dec xs).length) else (-1 : Int32)) < 0) = ¬ (fltF xs = none) := by
  by_cases c : fltF xs = none
  · rw [if_pos c]
    exact propext ⟨fun q => absurd q (nn h), fun q => absurd c q⟩
  · rw [if_neg c]
    exact propext ⟨fun _ => c, fun _ => by decide⟩
theorem QM_decrypt {r : Nat} {rows : Nat → List UInt8} (X : Cx G F W) (h : isM W) (hmm : isMm W) (mk : MK S) (dg : mDig (S 13 0)) (E : mEv (S 13 0)) (bx : oBX (S 13 0)) (KK : KM (S 13 0) A) (hR : mRows (S 13 0) rows) (h17 : (S 13 0).f 17 = (Int32.ofNat bk)) (hbk : bk ≤ 1) (hr : r < 8) : ∃ W' S', P_X13_decrypt G F (W.ad (.o 13 0)) (Int32.ofNat r) (mem W S) = some ((decW A (rows r)).1, mem W' S') ∧ (W' = W ∨ W' = W.sr 13 0 19 (.a 13 0 119)) ∧ MT S S' ∧ outO (S 13 0) (S' 13 0) (decW A (rows r)).2 ∧ kpT (1 - bk) (S 13 0) (S' 13 0) := by
  have hF := X.hF
  obtain ⟨βr, w1, w2⟩ := id hR
  obtain ⟨w3, w4, w5⟩ := w2 r hr
  have e8 : (8192 : Int32) * (Int32.ofNat r) = (Int32.ofNat (8192 * r)) := n_mul 8192 r
  obtain ⟨o1, g1, a1, q1⟩ := oM_points (G := G) (F := F) (S := S) (o := S 13 0) X h hr hR
  rw [so_self] at g1
  have M0 := MO.of mk dg E
  have M1 : MO S o1 := M0.ag a1 (by decide) (by decide) (fun q hq z => by
    rw [List.mem_singleton] at hq
    rw [hq] at z
    exact absurd z (by decide))
  have sg : ∀ (p n : Nat), p + n ≤ (rows r).length → rdB βr (8192 * r + p) n = seg (rows r) p n := fun p n hp => by
    rw [← w5, seg_rd hp]
  have xl : (ptA (rows r)).length ≤ (rows r).length := pts_le _ _
  have x4 : ((Int32.ofNat (ptA (rows r)).length) = (4 : Int32)) = ((ptA (rows r)).length = 4) := propext (n_eq (b := 4) (by omega) (by omega))
  unfold P_X13_decrypt
  rw [Q13_isRow, bP_s, isr_i hr, if_pos rfl, if_neg (by decide), rcv_m h.lo, bO_s, g1, bP_s]
  simp only [x4]
  by_cases c2 : (ptA (rows r)).length = 4
  · rw [if_pos c2]
    have LT := fun t (ht : t < 4) => ptA_lt (xs := rows r) (t := t) (by omega)
    have L01 : (ptA (rows r)).getD 0 0 < (ptA (rows r)).getD 1 0 := pts_up (rows r).length 0 0 (by show 0 + 1 < (ptA (rows r)).length; omega)
    have L12 : (ptA (rows r)).getD 1 0 < (ptA (rows r)).getD 2 0 := pts_up (rows r).length 0 1 (by show 1 + 1 < (ptA (rows r)).length; omega)
    have L23 : (ptA (rows r)).getD 2 0 < (ptA (rows r)).getD 3 0 := pts_up (rows r).length 0 2 (by show 2 + 1 < (ptA (rows r)).length; omega)
    have L3 := LT 3 (by decide)
    have e0 := ptX0 (xs := rows r) (by omega)
    have e1 := ptXm (xs := rows r) (t := 0) (by omega)
    have e2 := ptXm (xs := rows r) (t := 1) (by omega)
    have e3 := ptXm (xs := rows r) (t := 2) (by omega)
    have e4 := ptXe (xs := rows r) (t := 3) (by omega)
    obtain ⟨p0, hp0⟩ : ∃ p, p = (ptA (rows r)).getD 0 0 := ⟨_, rfl⟩
    obtain ⟨p1, hp1⟩ : ∃ p, p = (ptA (rows r)).getD 1 0 := ⟨_, rfl⟩
    obtain ⟨p2, hp2⟩ : ∃ p, p = (ptA (rows r)).getD 2 0 := ⟨_, rfl⟩
    obtain ⟨p3, hp3⟩ : ∃ p, p = (ptA (rows r)).getD 3 0 := ⟨_, rfl⟩
    have e1 : ptX (rows r) 1 = seg (rows r) (p0 + 1) (p1 - (p0 + 1)) := by rw [hp0, hp1]; exact e1
    have e2 : ptX (rows r) 2 = seg (rows r) (p1 + 1) (p2 - (p1 + 1)) := by rw [hp1, hp2]; exact e2
    have e3 : ptX (rows r) 3 = seg (rows r) (p2 + 1) (p3 - (p2 + 1)) := by rw [hp2, hp3]; exact e3
    have e4 : ptX (rows r) 4 = seg (rows r) (p3 + 1) ((rows r).length - (p3 + 1)) := by rw [hp3]; exact e4
    rw [← hp0] at e0
    rw [← hp0, ← hp1] at L01
    rw [← hp1, ← hp2] at L12
    rw [← hp2, ← hp3] at L23
    rw [← hp3] at L3
    have rd : ∀ (o' : Ob), o'.a 123 = o1.a 123 → (aI G (mem W (S.so 13 0 o')) 0 (W.ad (.a 13 0 123)) 0 = some (Int32.ofNat p0) ∧ aI G (mem W (S.so 13 0 o')) 0 (W.ad (.a 13 0 123)) 1 = some (Int32.ofNat p1) ∧ aI G (mem W (S.so 13 0 o')) 0 (W.ad (.a 13 0 123)) 2 = some (Int32.ofNat p2) ∧ aI G (mem W (S.so 13 0 o')) 0 (W.ad (.a 13 0 123)) 3 = some (Int32.ofNat p3)) := fun o' e => by
      have z : ∀ t, t < 4 → aI G (mem W (S.so 13 0 o')) 0 (W.ad (.a 13 0 123)) (Int32.ofNat t) = some (Int32.ofNat ((ptA (rows r)).getD t 0)) := fun t ht => by
        rw [h.aN rfl (show t < mLen 123 from (by show t < 6; omega)) (by decide), so_eq, e, q1 t (by omega) (by omega)]
      rw [hp0, hp1, hp2, hp3]
      exact ⟨z 0 (by decide), z 1 (by decide), z 2 (by decide), z 3 (by decide)⟩
    have pxl : ∀ t, (ptX (rows r) t).length ≤ 8192 := fun t => by
      unfold ptX
      rw [List.length_take, List.length_drop]
      omega
    have dxl : ∀ t, (dec (ptX (rows r) t)).length ≤ 6144 := fun t => by
      rw [dec_len]
      have := pxl t
      omega
    obtain ⟨o2, g2, a2, β2, b2, z2⟩ := oM_unlet (G := G) (F := F) (S := S) (o := o1) (k1 := 2) (k2 := 119) (p1 := 8192 * r) (cnt := p0) (xs := ptX (rows r) 0) X h rfl rfl (by decide) (by decide) (by decide) (by show _ ≤ 65536; omega) (by show _ ≤ 8300; omega) (by omega) (a1.mB w1 (by decide)) (M1.2.2 119 rfl) (by rw [e0]; exact sg 0 p0 (by omega))
    obtain ⟨o3, ho3⟩ : ∃ o3, o3 = o2.sf 120 (if fltF (ptX (rows r) 0) = none then (Int32.ofNat (dec (ptX (rows r) 0)).length) else -1) := ⟨_, rfl⟩
    have a3 : agr [29, 120, 127, 129] [] [119, 126, 128, 132, 133] [] o1 o3 := (a2.mono (by simp) (by simp) (by simp) (by simp)).trans (by rw [ho3]; exact agr_sf (by simp))
    have c3 : mB o3 119 β2 := by rw [ho3]; exact b2
    have E3 : ∀ k, (kdA 13)[k]? = some 1 → ∃ β, mB o3 k β := by
      have q : mEv o3 := M1.2.2.keep (fs := [29, 120]) (gs := []) (as := [119]) (ls := []) ((a2.mono (by simp) (by simp) (by simp) (by simp)).trans (by rw [ho3]; exact agr_sf (by simp))) (fun n hn _ => by rw [List.mem_singleton] at hn; rw [hn]; exact ⟨_, c3⟩)
      exact q
    obtain ⟨o4, g4, a4, β4, b4, z4⟩ := oM_unlet (G := G) (F := F) (S := S) (o := o3) (k1 := 2) (k2 := 126) (p1 := 8192 * r + p0 + 1) (cnt := p1 - p0 - 1) (xs := ptX (rows r) 1) X h rfl rfl (by decide) (by decide) (by decide) (by show _ ≤ 65536; omega) (by show _ ≤ 8200; omega) (by omega) (a3.mB (a1.mB w1 (by decide)) (by decide)) (E3 126 rfl) (by rw [e1, show 8192 * r + p0 + 1 = 8192 * r + (p0 + 1) by omega, show p1 - p0 - 1 = p1 - (p0 + 1) by omega]; exact sg _ _ (by omega))
    obtain ⟨o5, ho5⟩ : ∃ o5, o5 = o4.sf 127 (if fltF (ptX (rows r) 1) = none then (Int32.ofNat (dec (ptX (rows r) 1)).length) else -1) := ⟨_, rfl⟩
    have a35 : agr [29, 127] [] [126] [] o3 o5 := (a4.mono (by simp) (by simp) (by simp) (by simp)).trans (by rw [ho5]; exact agr_sf (by simp))
    have c5 : mB o5 126 β4 := by rw [ho5]; exact b4
    have w5' : mB o5 2 βr := a35.mB (a3.mB (a1.mB w1 (by decide)) (by decide)) (by decide)
    obtain ⟨o6, g6, a6, β6, b6, z6⟩ := oM_unlet (G := G) (F := F) (S := S) (o := o5) (k1 := 2) (k2 := 128) (p1 := 8192 * r + p1 + 1) (cnt := p2 - p1 - 1) (xs := ptX (rows r) 2) X h rfl rfl (by decide) (by decide) (by decide) (by show _ ≤ 65536; omega) (by show _ ≤ 8200; omega) (by omega) w5' ((E3 128 rfl).imp (fun _ q => a35.mB q (by decide))) (by rw [e2, show 8192 * r + p1 + 1 = 8192 * r + (p1 + 1) by omega, show p2 - p1 - 1 = p2 - (p1 + 1) by omega]; exact sg _ _ (by omega))
    obtain ⟨o7, ho7⟩ : ∃ o7, o7 = o6.sf 129 (if fltF (ptX (rows r) 2) = none then (Int32.ofNat (dec (ptX (rows r) 2)).length) else -1) := ⟨_, rfl⟩
    have a57 : agr [29, 129] [] [128] [] o5 o7 := (a6.mono (by simp) (by simp) (by simp) (by simp)).trans (by rw [ho7]; exact agr_sf (by simp))
    have c7 : mB o7 128 β6 := by rw [ho7]; exact b6
    have a37 : agr [29, 127, 129] [] [126, 128] [] o3 o7 := (a35.mono (by simp) (by simp) (by simp) (by simp)).trans (a57.mono (by simp) (by simp) (by simp) (by simp))
    have w7' : mB o7 2 βr := a57.mB w5' (by decide)
    obtain ⟨o8, g8, a8, β8, b8, z8⟩ := oM_unlet (G := G) (F := F) (S := S) (o := o7) (k1 := 2) (k2 := 132) (p1 := 8192 * r + p2 + 1) (cnt := p3 - p2 - 1) (xs := ptX (rows r) 3) X h rfl rfl (by decide) (by decide) (by decide) (by show _ ≤ 65536; omega) (by show _ ≤ 8200; omega) (by omega) w7' ((E3 132 rfl).imp (fun _ q => a37.mB q (by decide))) (by rw [e3, show 8192 * r + p2 + 1 = 8192 * r + (p2 + 1) by omega, show p3 - p2 - 1 = p3 - (p2 + 1) by omega]; exact sg _ _ (by omega))
    have a38 : agr [29, 127, 129] [] [126, 128, 132] [] o3 o8 := (a37.mono (by simp) (by simp) (by simp) (by simp)).trans (a8.mono (by simp) (by simp) (by simp) (by simp))
    obtain ⟨o9, g9, a9, β9, b9, z9⟩ := oM_unlet (G := G) (F := F) (S := S) (o := o8) (k1 := 2) (k2 := 133) (p1 := 8192 * r + p3 + 1) (cnt := (rows r).length - p3 - 1) (xs := ptX (rows r) 4) X h rfl rfl (by decide) (by decide) (by decide) (by show _ ≤ 65536; omega) (by show _ ≤ 8200; omega) (by omega) (a8.mB w7' (by decide)) ((E3 133 rfl).imp (fun _ q => a38.mB q (by decide))) (by rw [e4, show 8192 * r + p3 + 1 = 8192 * r + (p3 + 1) by omega, show (rows r).length - p3 - 1 = (rows r).length - (p3 + 1) by omega]; exact sg _ _ (by omega))
    have a79 : agr [29] [] [132, 133] [] o7 o9 := (a8.mono (by simp) (by simp) (by simp) (by simp)).trans (a9.mono (by simp) (by simp) (by simp) (by simp))
    have a39 : agr [29, 127, 129] [] [126, 128, 132, 133] [] o3 o9 := (a37.mono (by simp) (by simp) (by simp) (by simp)).trans (a79.mono (by simp) (by simp) (by simp) (by simp))
    have a19 : agr [29, 120, 127, 129] [] [119, 126, 128, 132, 133] [] o1 o9 := a3.trans (a39.mono (by simp) (by simp) (by simp) (by simp))
    have aS9 : agr [29, 120, 127, 129] [] [119, 123, 126, 128, 132, 133] [] (S 13 0) o9 := (a1.mono (by simp) (by simp) (by simp) (by simp)).trans (a19.mono (by simp) (by simp) (by simp) (by simp))
    have c9_119 : mB o9 119 β2 := a39.mB c3 (by decide)
    have c9_126 : mB o9 126 β4 := a79.mB (a57.mB c5 (by decide)) (by decide)
    have c9_128 : mB o9 128 β6 := a79.mB c7 (by decide)
    have c9_132 : mB o9 132 β8 := a9.mB b8 (by decide)
    have M9 : MO S o9 := M1.ag a19 (by decide) (by decide) (fun n hn _ => by
      simp only [List.mem_cons, List.not_mem_nil, or_false] at hn
      rcases hn with rfl | rfl | rfl | rfl | rfl
      · exact ⟨_, c9_119⟩
      · exact ⟨_, c9_126⟩
      · exact ⟨_, c9_128⟩
      · exact ⟨_, c9_132⟩
      · exact ⟨_, b9⟩)
    have f9_120 : o9.f 120 = if fltF (ptX (rows r) 0) = none then (Int32.ofNat (dec (ptX (rows r) 0)).length) else -1 := by rw [a39.1 120 (by decide), ho3, sf_eq]
    have f9_127 : o9.f 127 = if fltF (ptX (rows r) 1) = none then (Int32.ofNat (dec (ptX (rows r) 1)).length) else -1 := by rw [a79.1 127 (by decide), a57.1 127 (by decide), ho5, sf_eq]
    have f9_129 : o9.f 129 = if fltF (ptX (rows r) 2) = none then (Int32.ofNat (dec (ptX (rows r) 2)).length) else -1 := by rw [a79.1 129 (by decide), ho7, sf_eq]
    have MT9 : MT S (S.so 13 0 o9) := M9.t (aS9.mono (by simp [tkF]) (by simp) (by simp [tkA]) (by simp))
    have out9 : o9.f 5 = (S 13 0).f 5 ∧ o9.a 4 = (S 13 0).a 4 := ⟨aS9.1 5 (by decide), aS9.2.2.1 4 (by decide)⟩
    have kp9 : kpT (1 - bk) (S 13 0) ((S.so 13 0 o9) 13 0) := fun bk' J' _ _ _ q => by rw [so_eq]; exact q.agr aS9 (by decide)
    have r1 := rd o1 rfl
    have r3 := rd o3 (a3.2.2.1 123 (by decide))
    have r5 := rd o5 (by rw [a35.2.2.1 123 (by decide), a3.2.2.1 123 (by decide)])
    have r7 := rd o7 (by rw [a37.2.2.1 123 (by decide), a3.2.2.1 123 (by decide)])
    have r8 := rd o8 (by rw [a38.2.2.1 123 (by decide), a3.2.2.1 123 (by decide)])
    have rs8 : aI G (mem W (S.so 13 0 o8)) 0 (W.ad (.a 13 0 3)) (Int32.ofNat r) = some (Int32.ofNat (rows r).length) := by rw [h.aN rfl (show r < mLen 3 from hr) (by decide), so_eq, a38.2.2.1 3 (by decide), a3.2.2.1 3 (by decide), a1.2.2.1 3 (by decide), w3]
    have k0 : ∀ x y : Nat, (Int32.ofNat x) + (Int32.ofNat y) + (1 : Int32) = (Int32.ofNat (x + y + 1)) := fun x y => by rw [n_add, n_i1]
    have k1 : ∀ x y : Nat, y + 1 ≤ x → (Int32.ofNat x) - (Int32.ofNat y) - (1 : Int32) = (Int32.ofNat (x - y - 1)) := fun x y q => by rw [n_sub (by omega), n_subL 1 (by omega)]
    rw [h.gR 2 rfl (by decide), bO_s, h.gR 123 rfl (by decide), bO_s, r1.1, bO_s, h.gR 119 rfl (by decide), bO_s, rcv_m h.lo, bO_s, e8, g2, bP_s, pfI_m h.lo rfl, bO_s, so_eq, so_so, ← ho3]
    rw [h.gR 2 rfl (by decide), bO_s, h.gR 123 rfl (by decide), bO_s, r3.1, bO_s, bO_s, r3.2.1, bO_s, bO_s, r3.1, bO_s, h.gR 126 rfl (by decide), bO_s, rcv_m h.lo, bO_s, k0, k1 p1 p0 (by omega), g4, bP_s, pfI_m h.lo rfl, bO_s, so_eq, so_so, ← ho5]
    rw [h.gR 2 rfl (by decide), bO_s, h.gR 123 rfl (by decide), bO_s, r5.2.1, bO_s, bO_s, r5.2.2.1, bO_s, bO_s, r5.2.1, bO_s, h.gR 128 rfl (by decide), bO_s, rcv_m h.lo, bO_s, k0, k1 p2 p1 (by omega), g6, bP_s, pfI_m h.lo rfl, bO_s, so_eq, so_so, ← ho7]
    rw [h.gR 2 rfl (by decide), bO_s, h.gR 123 rfl (by decide), bO_s, r7.2.2.1, bO_s, bO_s, r7.2.2.2, bO_s, bO_s, r7.2.2.1, bO_s, h.gR 132 rfl (by decide), bO_s, rcv_m h.lo, bO_s, k0, k1 p3 p2 (by omega), g8, bP_s]
    rw [h.gR 2 rfl (by decide), bO_s, h.gR 123 rfl (by decide), bO_s, r8.2.2.2, bO_s, h.gR 3 rfl (by decide), bO_s, rs8, bO_s, bO_s, r8.2.2.2, bO_s, h.gR 133 rfl (by decide), bO_s, rcv_m h.lo, bO_s, k0, k1 (rows r).length p3 (by omega), g9, bP_s]
    have y120 : gfI (mem W (S.so 13 0 o9)) (W.ad (.o 13 0)) 13 120 = some (if fltF (ptX (rows r) 0) = none then (Int32.ofNat (dec (ptX (rows r) 0)).length) else -1) := by rw [gfI_m h.lo rfl, so_eq, f9_120]
    have y127 : gfI (mem W (S.so 13 0 o9)) (W.ad (.o 13 0)) 13 127 = some (if fltF (ptX (rows r) 1) = none then (Int32.ofNat (dec (ptX (rows r) 1)).length) else -1) := by rw [gfI_m h.lo rfl, so_eq, f9_127]
    have y129 : gfI (mem W (S.so 13 0 o9)) (W.ad (.o 13 0)) 13 129 = some (if fltF (ptX (rows r) 2) = none then (Int32.ofNat (dec (ptX (rows r) 2)).length) else -1) := by rw [gfI_m h.lo rfl, so_eq, f9_129]
    have d0 := dxl 0
    have d1 := dxl 1
    have d2 := dxl 2
    have d3 := dxl 3
    have d4 := dxl 4
    have bad : (¬ ∀ p, p < 5 → fltF (ptX (rows r) p) = none) → ∃ W' S', some ((-21 : Int32), mem W (S.so 13 0 o9)) = some ((decW A (rows r)).1, mem W' S') ∧ (W' = W ∨ W' = W.sr 13 0 19 (.a 13 0 119)) ∧ MT S S' ∧ outO (S 13 0) (S' 13 0) (decW A (rows r)).2 ∧ kpT (1 - bk) (S 13 0) (S' 13 0) := fun q => by
      have hv : decW A (rows r) = (-21, none) := by
        unfold decW
        rw [if_pos c2, if_neg q]
      rw [hv]
      exact ⟨W, S.so 13 0 o9, rfl, Or.inl rfl, MT9, by rw [so_eq]; exact out9, kp9⟩
    rw [y120, bO_s]
    simp only [dO_neg (xs := ptX (rows r) 0) (by omega)]
    by_cases t0 : fltF (ptX (rows r) 0) = none
    · rw [if_neg (fun q => q t0), y127, bO_s]
      simp only [dO_neg (xs := ptX (rows r) 1) (by omega)]
      by_cases t1 : fltF (ptX (rows r) 1) = none
      · rw [if_neg (fun q => q t1), y129, bO_s]
        simp only [dO_neg (xs := ptX (rows r) 2) (by omega)]
        by_cases t2 : fltF (ptX (rows r) 2) = none
        · rw [if_neg (fun q => q t2)]
          simp only [dO_neg (xs := ptX (rows r) 3) (by omega)]
          by_cases t3 : fltF (ptX (rows r) 3) = none
          · rw [if_neg (fun q => q t3)]
            by_cases t4 : fltF (ptX (rows r) 4) = none
            · have c0 : ∀ p, p < 5 → fltF (ptX (rows r) p) = none := fun p hp => by
                have h5 : p = 0 ∨ p = 1 ∨ p = 2 ∨ p = 3 ∨ p = 4 := by omega
                rcases h5 with rfl | rfl | rfl | rfl | rfl
                · exact t0
                · exact t1
                · exact t2
                · exact t3
                · exact t4
              rw [if_pos t3, if_pos t4, if_pos (show (0 : Int32) ≤ (Int32.ofNat (dec (ptX (rows r) 4)).length) from (n_le (a := 0) (by omega) (by omega)).mpr (Nat.zero_le _))]
              obtain ⟨hb, hhb⟩ : ∃ hb, hb = dec (ptX (rows r) 0) := ⟨_, rfl⟩
              have z2 := z2 t0
              rw [← hhb] at z2 d0
              obtain ⟨S4, g4', f4, a4', kp4, mk4, E4, b15, q4⟩ := QM_headOf (G := G) (F := F) (S := S.so 13 0 o9) (bk := bk) (ks := 119) (p0 := 0) (s := hb) (sl := true) (α := β2) X h hmm M9.1 rfl (by decide) (by decide) hbk (by rw [so_eq, aS9.1 17 (by decide)]; exact h17) (by omega) (by rw [so_eq]; exact c9_119) z2 (by show _ ≤ 8300; omega) (by rw [so_eq]; exact M9.2.2 15 rfl) (by rw [so_eq]; exact ⟨M9.2.2 96 rfl, M9.2.2 97 rfl, M9.2.2 107 rfl, M9.2.2 108 rfl, M9.2.2 109 rfl⟩)
              rw [so_eq] at a4' kp4
              obtain ⟨W1, hW1⟩ : ∃ W1, W1 = W.sr 13 0 19 (.a 13 0 119) := ⟨_, rfl⟩
              have y1 : WY W W1 := by rw [hW1]; exact WY.sr (Or.inr (Or.inr ⟨rfl, rfl⟩))
              have ad : W1.ad = W.ad := by rw [hW1]; rfl
              rw [← hW1] at g4'
              have X1 := y1.cx X
              have h1 := y1.m h
              have hmm1 := y1.mm h.lo hmm
              have g4' : P_X13_headOf G F (W.ad (.o 13 0)) (W.ad (.a 13 0 119)) 0 (Int32.ofNat hb.length) 1 (mem W (S.so 13 0 o9)) = some (hdV hb true, mem W1 S4) := g4'
              have E4' : mEv (S4 13 0) := M9.2.2.keep a4' (fun q hq z => by
                simp only [agL_, List.mem_append, List.mem_cons, List.not_mem_nil, or_false] at hq
                rcases hq with (rfl | rfl | rfl | rfl | rfl | rfl | rfl | rfl | rfl | rfl | rfl) | (rfl | rfl | rfl | rfl | rfl | rfl | rfl | rfl | rfl | rfl | rfl | rfl | rfl | rfl | rfl)
                · exact absurd z (by decide)
                · exact absurd z (by decide)
                · exact absurd z (by decide)
                · exact absurd z (by decide)
                · exact absurd z (by decide)
                · exact absurd z (by decide)
                · exact absurd z (by decide)
                · exact absurd z (by decide)
                · exact absurd z (by decide)
                · exact b15
                · exact absurd z (by decide)
                · exact absurd z (by decide)
                · exact absurd z (by decide)
                · exact absurd z (by decide)
                · exact absurd z (by decide)
                · exact absurd z (by decide)
                · exact absurd z (by decide)
                · exact absurd z (by decide)
                · exact absurd z (by decide)
                · exact absurd z (by decide)
                · exact absurd z (by decide)
                · exact E4.1
                · exact E4.2.1
                · exact E4.2.2.1
                · exact E4.2.2.2.1
                · exact E4.2.2.2.2)
              have aS4 : agr ([29, 120, 127, 129] ++ ([20, 21, 22, 23, 24, 25, 26] ++ hdL)) [] ([119, 123, 126, 128, 132, 133] ++ ([6, 7, 8, 9, 10, 11, 12, 13, 14, 15, 16] ++ agL_)) [] (S 13 0) (S4 13 0) := (aS9.mono (by simp) (by simp) (by simp) (by simp)).trans (a4'.mono (by simp) (by simp) (fun x hx => List.mem_append_right _ hx) (by simp))
              have dg4 : mDig (S4 13 0) := aS4.mDig dg (by decide)
              have MT4 : MT S S4 := ⟨(fr_so (by simp) : fr [(12, 0), (12, 1), (12, 2), (13, 0)] S (S.so 13 0 o9)).trans (f4.mono (by simp)), aS4.mono (by simp [tkF, hdL]) (by simp) (by simp [tkA, agL_]) (by simp), mk4, dg4, E4'⟩
              have out4 : (S4 13 0).f 5 = (S 13 0).f 5 ∧ (S4 13 0).a 4 = (S 13 0).a 4 := ⟨aS4.1 5 (by decide), aS4.2.2.1 4 (by decide)⟩
              have kp4' : kpT (1 - bk) (S 13 0) (S4 13 0) := fun bk' J' z1 z2 z3 q => kp4 bk' J' z1 z2 z3 (q.agr aS9 (by decide))
              rw [h.gR 119 rfl (by decide), bO_s, if_pos t0, ← hhb, bO_s, rcv_m h.lo, bO_s, g4', bP_s]
              have two : (∃ p, rdT hb = .inl p) ∨ ∃ J, rdT hb = .inr J := by
                cases rdT hb with
                | inl p => exact Or.inl ⟨p, rfl⟩
                | inr J => exact Or.inr ⟨J, rfl⟩
              have badv : ∀ v : Int32, v < 0 → ¬ (0 : Int32) ≤ v := fun v hv => by
                rw [Int32.not_le]
                exact hv
              rw [← hW1]
              rcases two with ⟨pp, er⟩ | ⟨J, er⟩
              · have hv : decW A (rows r) = (-22, none) := by
                  unfold decW
                  rw [if_pos c2, if_pos c0, ← hhb, er]
                have hd : hdV hb true = -22 := by rw [hdV_t, er]
                rw [hd, if_neg (by decide), hv]
                exact ⟨W1, S4, rfl, Or.inr rfl, MT4, out4, kp4'⟩
              · have hd : hdV hb true = dcR J := by rw [hdV_t, er]
                have pl := rd_pl er
                have hv : decW A (rows r) = if dcR J = 0 then (ansD (dcT A J (rows r)), shO (dcT A J (rows r))) else (dcR J, none) := by
                  unfold decW
                  rw [if_pos c2, if_pos c0, ← hhb, er]
                by_cases c3' : dcR J = 0
                · rw [if_pos c3'] at hv
                  obtain ⟨J', ej, M4, Y, sd, hz, HF⟩ := q4 (by rw [hd]; exact c3')
                  rw [er] at ej
                  have ej := Sum.inr.inj ej
                  subst ej
                  obtain ⟨kdh, HF⟩ := HF
                  rw [if_pos rfl] at HF
                  obtain ⟨s0, on⟩ := dcR_0 c3'
                  obtain ⟨a, wy, ea, ew, al_, wl, ag, kd⟩ := slR_0 s0
                  have f102 : (S4 13 0).f 102 = (Int32.ofNat a) := by rw [HF.1, ea]; rfl
                  have f103 : (S4 13 0).f 103 = (Int32.ofNat wy) := by rw [HF.2.1, ew]; rfl
                  have HF3 := HF.2.2
                  rw [ea] at on HF3
                  have pe : peP (rows r) 0 = p0 := by
                    unfold peP
                    rw [if_neg (by omega), hp0]
                  have s123 : (S4 13 0).a 123 0 = (Int32.ofNat p0) := by
                    rw [a4'.2.2.1 123 (by decide), a19.2.2.1 123 (by decide), q1 0 (by omega) (by decide), hp0]
                  obtain ⟨S8, z1, z2', z3, z4'⟩ := QM_dec278 (G := G) (F := F) (W := W1) (A := A) (J := J) (bk := 1 - bk) (a := a) (w := wy) (rr := r) (p0 := p0) (wh := whB (rows r) wy) (rows := rows) (sk := dec (ptX (rows r) 1)) (pt := epB J) (u := (paB J (fd J 71)).getD []) (v := (paB J (fd J 72)).getD []) (iv := dec (ptX (rows r) 2)) (al := (rows r).take p0) (c := dec (ptX (rows r) 3)) (mk_ := dec (ptX (rows r) 4)) X1 h1 hmm1 (by omega) Y al_ wl hr rfl (by omega) (by omega) (by omega) (by omega) (by omega) rfl (dcF J (rows r)) (by unfold dcF; rw [ea, ew, pe]; rfl) 16 0 F false S4 (by omega) rfl mk4 dg4 E4' (oBX.ag bx aS4 (by decide) (by decide)) (KK.agr aS4 (by decide)) (aS4.mRows hR (by decide) (by decide)) M4 kdh f102 f103 s123 ⟨by rw [a4'.1 127 (by decide), f9_127, if_pos t1], _, a4'.mB c9_126 (by decide), z4 t1⟩ ⟨by rw [a4'.1 129 (by decide), f9_129, if_pos t2], _, a4'.mB c9_128 (by decide), z6 t2⟩ ⟨_, a4'.mB c9_132 (by decide), z8 t3⟩ ⟨_, a4'.mB b9 (by decide), z9 t4⟩ (fun q => by
                    obtain ⟨el, ⟨dd1, ed1⟩, dd2, ed2⟩ := agB_1 (ag.resolve_left (by omega))
                    obtain ⟨h107, ⟨u1, γu, u2, u3⟩, v1, γv, v2, v3⟩ := HF3 q
                    have lu := paB_len Y ed1
                    have lv := paB_len Y ed2
                    rw [ed1] at u1 u3 ⊢
                    rw [ed2] at v1 v3 ⊢
                    exact ⟨h107, on q, ⟨u1, γu, u2, u3 dd1 rfl⟩, ⟨v1, γv, v2, v3 dd2 rfl⟩, by show dd1.length ≤ 8192; omega, by show dd2.length ≤ 8192; omega⟩)
                  have z1 : B_X13_decrypt_278 G F F (W1.ad (.o 13 0)) (Int32.ofNat (8192 * r)) (Int32.ofNat (dec (ptX (rows r) 3)).length) (Int32.ofNat (dec (ptX (rows r) 4)).length) 0 0 (mem W1 S4) = _ := z1
                  have ed : dcK A J a wy (dcF J (rows r)) 16 0 false = dcT A J (rows r) := by
                    unfold dcT
                    rw [ea, ew]
                    rfl
                  rw [ed] at z1 z4'
                  rw [hd, c3', if_pos (by decide), ← ad, z1, hv]
                  refine ⟨W1, S8, rfl, Or.inr rfl, MT4.trans z2', ?_, fun bk' J' q1 q2 q3 q4 => z3 bk' J' (by omega) q2 q3 (kp4' bk' J' q1 q2 q3 q4)⟩
                  revert z4'
                  show outO (S4 13 0) (S8 13 0) (shO (dcT A J (rows r))) → outO (S 13 0) (S8 13 0) (shO (dcT A J (rows r)))
                  cases dcT A J (rows r) with
                  | inl b => intro z4'; exact ⟨(show _ ∧ _ from z4').1.trans out4.1, (show _ ∧ _ from z4').2.trans out4.2⟩
                  | inr b => exact id
                · rw [if_neg c3'] at hv
                  rw [hd, if_neg (badv _ (by rcases dcR_v J with q | q | q | q <;> rw [q] <;> first | exact absurd q c3' | decide)), hv]
                  exact ⟨W1, S4, rfl, Or.inr rfl, MT4, out4, kp4'⟩
            · rw [if_neg t4, if_neg (by decide)]
              exact bad (fun q => t4 (q 4 (by decide)))
          · rw [if_pos t3]
            exact bad (fun q => t3 (q 3 (by decide)))
        · rw [if_pos t2]
          exact bad (fun q => t2 (q 2 (by decide)))
      · rw [if_pos t1]
        exact bad (fun q => t1 (q 1 (by decide)))
    · rw [if_pos t0]
      exact bad (fun q => t0 (q 0 (by decide)))
  · have hv : decW A (rows r) = (-20, none) := by
      unfold decW
      rw [if_neg c2]
    rw [if_neg c2, hv]
    refine ⟨W, S.so 13 0 o1, rfl, Or.inl rfl, M1.t (a1.mono (by simp) (by simp) (by simp [tkA]) (by simp)), ?_, fun bk' J' _ _ _ q => by rw [so_eq]; exact q.agr a1 (by decide)⟩
    rw [so_eq]
    exact ⟨a1.1 5 (by decide), a1.2.2.1 4 (by decide)⟩
end MD3
