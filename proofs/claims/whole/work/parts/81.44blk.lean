/-! THE MODEL'S block -/
theorem arF.ag {L : List (Nat × Nat × Nat)} {S S' : ST} (h : arF L S S') (c i : Nat) (as : List Nat) (hs : ∀ x ∈ L, x.1 = c → x.2.1 = i → x.2.2 ∈ as) : agr [] [] as [] (S c i) (S' c i) := by
  obtain ⟨x1, x2, x3, x4⟩ := h.2 c i
  exact ⟨fun k _ => by rw [x1], fun k _ => by rw [x2], fun k hk => h.1 c i k (fun q => hk (hs _ q rfl rfl)), fun k _ => by rw [x3], x4⟩
theorem fr.one {S S' : ST} {c i : Nat} (h : fr [(c, i)] S S') : S' = S.so c i (S' c i) := by
  funext c' i'
  by_cases q : c' = c ∧ i' = i
  · rw [q.1, q.2, so_eq]
  · rw [so_ne q, h c' i' (by simpa using fun a b => q ⟨a, b⟩)]
theorem agr.mBX {fs gs as ls : List Nat} {S : ST} {o : Ob} (h : agr fs gs as ls (S 13 0) o) (h1 : 41 ∉ as) (h2 : 42 ∉ as) (hb : (∀ x : UInt8, (S 13 0).a 41 x.toNat = b32 (sbx x)) ∧ ∀ x : UInt8, (S 13 0).a 42 x.toNat = b32 (ibx x)) : (∀ x : UInt8, o.a 41 x.toNat = b32 (sbx x)) ∧ ∀ x : UInt8, o.a 42 x.toNat = b32 (ibx x) := by
  refine ⟨fun x => ?_, fun x => ?_⟩
  · rw [h.2.2.1 41 h1]; exact hb.1 x
  · rw [h.2.2.1 42 h2]; exact hb.2 x
section MBLK
variable {W : WR} {G : mG} {F : Nat}
theorem QM_block {S : ST} {rows : Nat → List UInt8} {t : List UInt8} {x y bk : Int32} {back : Bool} (hbk0 : bk = if back then 1 else 0) (X : Cx G F W) (h : isM W) (hbx : mBX S) (ho : mOut (S 13 0) t) (hR : mRows (S 13 0) rows) (h1 : ∃ β, mB (S 13 0) 47 β) : ∃ o, P_X13_block G F (W.ad (.o 13 0)) x y bk (mem W S) = some (match blockF rows x y back with | some u => (Int32.ofNat u.length) | none => -2, mem W (S.so 13 0 o)) ∧ agr [44, 5] [] [43, 45, 46, 47, 4] [] (S 13 0) o ∧ (∃ β, mB o 47 β) ∧ mOut o (match blockF rows x y back with | some u => u | none => t) := by
  have hR' := hR
  obtain ⟨β, r1, r2⟩ := hR
  obtain ⟨δ, h1⟩ := h1
  unfold P_X13_block blockF isCK
  have bad : ∃ o, some ((-2 : Int32), mem W S) = some ((-2 : Int32), mem W (S.so 13 0 o)) ∧ agr [44, 5] [] [43, 45, 46, 47, 4] [] (S 13 0) o ∧ (∃ β, mB o 47 β) ∧ mOut o t := ⟨S 13 0, by rw [so_self], agr.refl _ _ _ _ _, ⟨δ, h1⟩, ho⟩
  rw [Q13_isRow, bP_s]
  rcases isr_cases x with hx | ⟨rk, hrk, rfl, hx⟩
  · rw [hx, if_pos (by rfl)]
    exact bad
  rw [hx, if_neg (by decide), Q13_isRow, bP_s]
  rcases isr_cases y with hy | ⟨r, hr, rfl, hy⟩
  · rw [hy, if_pos (by rfl)]
    simp only [Bool.false_and, Bool.and_false, Bool.false_eq_true, if_false]
    exact bad
  obtain ⟨k3, k4, k5⟩ := r2 rk hrk
  obtain ⟨r3, r4, r5⟩ := r2 r hr
  rw [hy, if_neg (by decide), h.gR 3 rfl (by decide), bO_s, h.aN rfl (show rk < 8 from hrk) (by decide), bO_s, k3, n_at (by omega), n_at (by omega)]
  have main : ((rows rk).length = 16 ∨ (rows rk).length = 32) → ∃ o, B_X13_block_36 G F (W.ad (.o 13 0)) (Int32.ofNat rk) (Int32.ofNat r) bk (mem W S) = some (match (if (true && (decide ((rows rk).length = 16) || decide ((rows rk).length = 32)) && (true && decide ((rows r).length = 16))) = true then some (blkF (rows rk) (rows r) back) else none) with | some u => (Int32.ofNat u.length) | none => -2, mem W (S.so 13 0 o)) ∧ agr [44, 5] [] [43, 45, 46, 47, 4] [] (S 13 0) o ∧ (∃ β, mB o 47 β) ∧ mOut o (match (if (true && (decide ((rows rk).length = 16) || decide ((rows rk).length = 32)) && (true && decide ((rows r).length = 16))) = true then some (blkF (rows rk) (rows r) back) else none) with | some u => u | none => t) := by
    intro hkl
    unfold B_X13_block_36
    rw [h.gR 3 rfl (by decide), bO_s, h.aN rfl (show r < 8 from hr) (by decide), bO_s, r3]
    by_cases h16 : (rows r).length = 16
    · have hc : (true && (decide ((rows rk).length = 16) || decide ((rows rk).length = 32)) && (true && decide ((rows r).length = 16))) = true := by simp [h16, hkl]
      rw [if_pos (show (Int32.ofNat (rows r).length) = (16 : Int32) by rw [h16]; rfl), hc]
      simp only [if_true]
      rw [h.gR 2 rfl (by decide), bO_s, bO_s, h.aN rfl (show rk < 8 from hrk) (by decide), bO_s, rcv_m h.lo, bO_s, k3, show (8192 : Int32) * (Int32.ofNat rk) = (Int32.ofNat (8192 * rk)) from n_mul 8192 rk]
      obtain ⟨o1, g1, a1, s1⟩ := QM_setKey (S := S) (k := 2) (p := 8192 * rk) (n := (rows rk).length) X h rfl (by decide) hkl (by show _ ≤ 65536; omega) r1 hbx
      rw [k5] at s1
      rw [g1, bO_s, h.gR 2 rfl (by decide), bO_s, rcv_m h.lo, bO_s, show (8192 : Int32) * (Int32.ofNat r) = (Int32.ofNat (8192 * r)) from n_mul 8192 r]
      obtain ⟨S2, g2, a2, c2⟩ := QM_setCells (S := S.so 13 0 o1) (k := 2) (p := 8192 * r) X h rfl (by decide) (by show _ ≤ 65536; omega) (by rw [so_eq]; exact a1.mB r1 (by decide))
      rw [← h16, r5] at c2
      rw [g2, bO_s]
      have hbx1 : mBX (S.so 13 0 o1) := by
        have := a1.mBX (by decide) (by decide) hbx
        exact ⟨fun x => by rw [so_eq]; exact this.1 x, fun x => by rw [so_eq]; exact this.2 x⟩
      have fin : ∀ (S3 : ST) (s3 : List UInt8), s3.length = 16 → arF L2 (S.so 13 0 o1) S3 → CL S3 13 0 45 s3 → ∃ o, (bO (gfR (mem W S3) (W.ad (.o 13 0)) 13 47) fun v99 => bO (rcv (mem W S3) (W.ad (.o 13 0)) 13) fun _ => bO (P_X13_getCells G F (W.ad (.o 13 0)) v99 (0 : Int32) (mem W S3)) fun M103 => bO (gfR M103 (W.ad (.o 13 0)) 13 47) fun v108 => bO (rcv M103 (W.ad (.o 13 0)) 13) fun _ => bP (P_X13_tell G F (W.ad (.o 13 0)) v108 (0 : Int32) (16 : Int32) M103) fun v114 M114 => some (v114, M114)) = some ((Int32.ofNat s3.length), mem W (S.so 13 0 o)) ∧ agr [44, 5] [] [43, 45, 46, 47, 4] [] (S 13 0) o ∧ (∃ β, mB o 47 β) ∧ mOut o s3 := by
        intro S3 s3 hl a3 c3
        have ag3 : agr [44, 5] [] [43, 45, 46, 47, 4] [] (S 13 0) (S3 13 0) := by
          have := a3.ag 13 0 [45, 46] (by decide)
          rw [so_eq] at this
          exact (a1.mono (by decide) (by decide) (by decide) (by decide)).trans (this.mono (by decide) (by decide) (by decide) (by decide))
        have ag3' : agr [44, 5] [] [43, 45, 46] [] (S 13 0) (S3 13 0) := by
          have := a3.ag 13 0 [45, 46] (by decide)
          rw [so_eq] at this
          exact (a1.mono (by decide) (by decide) (by decide) (by decide)).trans (this.mono (by decide) (by decide) (by decide) (by decide))
        have f3 : S3 = S.so 13 0 (S3 13 0) := ((fr_so (by simp)).trans (a3.fr (L' := [(13, 0)]) (by decide))).one
        have gc := QM_getCells (S := S3) (k := 47) (p := 0) X h rfl (by decide) (by show 0 + 16 ≤ 16; omega) (ag3'.mB h1 (by decide)) hl c3
        have gc' : P_X13_getCells G F (W.ad (.o 13 0)) (W.ad (.a 13 0 47)) 0 (mem W S3) = some (mem W (S3.sa 13 0 47 (fun j => sb (wrB δ 0 s3 j)))) := gc
        rw [h.gR 47 rfl (by decide), bO_s, rcv_m h.lo, bO_s, gc', bO_s, h.gR 47 rfl (by decide), bO_s, rcv_m h.lo, bO_s]
        obtain ⟨o1', o2, β4, o4, o5⟩ := ho
        have tl := QM_tell (S := S3.sa 13 0 47 (fun j => sb (wrB δ 0 s3 j))) (k := 47) (p := 0) (cnt := 16) X h rfl (by decide) (by decide) (by show 0 + 16 ≤ 16; omega) (by omega) (by unfold ST.sa; rw [so_eq]; exact mB_sA _ _ _) (by unfold ST.sa; rw [so_eq]; exact mB_sA' (by decide) (ag3'.mB o4 (by decide)))
        rw [← hl, rdB_wrB, hl] at tl
        have tl' : P_X13_tell G F (W.ad (.o 13 0)) (W.ad (.a 13 0 47)) 0 16 (mem W (S3.sa 13 0 47 (fun j => sb (wrB δ 0 s3 j)))) = _ := tl
        rw [tl', bP_s]
        unfold ST.sa
        rw [so_so, so_eq, f3, so_so, so_eq]
        refine ⟨_, by rw [hl], ((ag3.trans (agr_sA (by decide))).trans (agr_sA (by decide))).trans (agr_sf (by decide)), ⟨_, mB_sA' (by decide) (mB_sA _ _ _)⟩, by rw [sf_f, if_pos rfl, hl], by omega, _, mB_sA _ _ _, rdB_wrB _ 0 _⟩
      have k2 : mKS S2 (ksF ((rows rk).length / 4) (rows rk)) ((rows rk).length / 4 + 6) := mKS_ar a2 (by decide) s1
      have b2 := mBX_ar a2 (by decide) (by decide) hbx1
      rw [hbk0]
      cases back with
      | false =>
        rw [if_pos (by rfl), rcv_m h.lo, bO_s]
        obtain ⟨S3, g3, a3, c3⟩ := QM_forth X h b2 k2 c2
        rw [g3, bO_s]
        exact fin S3 _ (fwd_len _ _ _) ((a2.mono (by decide)).trans a3) c3
      | true =>
        rw [if_neg (by decide), rcv_m h.lo, bO_s]
        obtain ⟨S3, g3, a3, c3⟩ := QM_back X h b2 k2 c2
        rw [g3, bO_s]
        exact fin S3 _ (bck_len _ _ _) ((a2.mono (by decide)).trans a3) c3
    · have hc : (true && (decide ((rows rk).length = 16) || decide ((rows rk).length = 32)) && (true && decide ((rows r).length = 16))) = false := by simp [h16]
      rw [if_neg (show ¬ (Int32.ofNat (rows r).length) = (16 : Int32) by rw [lit 16]; exact fun q => h16 ((n_eq (by omega) (by omega)).mp q)), hc]
      exact bad
  by_cases q16 : (rows rk).length = 16
  · rw [if_pos (show (Int32.ofNat (rows rk).length) = (16 : Int32) by rw [q16]; rfl)]
    exact main (.inl q16)
  · rw [if_neg (show ¬ (Int32.ofNat (rows rk).length) = (16 : Int32) by rw [lit 16]; exact fun q => q16 ((n_eq (by omega) (by omega)).mp q)), bO_s, h.aN rfl (show rk < 8 from hrk) (by decide), bO_s, k3]
    by_cases q32 : (rows rk).length = 32
    · rw [if_pos (show (Int32.ofNat (rows rk).length) = (32 : Int32) by rw [q32]; rfl)]
      exact main (.inr q32)
    · have hc : (true && (decide ((rows rk).length = 16) || decide ((rows rk).length = 32)) && (true && decide ((rows r).length = 16))) = false := by simp [q16, q32]
      rw [if_neg (show ¬ (Int32.ofNat (rows rk).length) = (32 : Int32) by rw [lit 32]; exact fun q => q32 ((n_eq (by omega) (by omega)).mp q)), hc]
      exact bad
end MBLK
