/-! A SALTED SIGNATURE TOLD RIGHT OR NOT: the model -/
theorem msk_off {β : Nat → UInt8} {seed : List UInt8} {f t m : Nat} : rdB (mskB β seed f t) f m = mskL (rdB β f m) seed 0 t := by
  apply List.ext_getElem?
  intro j
  by_cases c : j < m
  · have e : (rdB β f m).getD j 0 = β (f + j) := by
      rw [List.getD_eq_getElem?_getD, rdB_at c]
      rfl
    rw [rdB_at c, mskL_at (by rw [rdB_len]; exact c), e]
    unfold mskB
    by_cases d : j < t
    · rw [if_pos (by omega), if_pos (by omega), show f + j - f = j - 0 by omega]
    · rw [if_neg (by omega), if_neg (by omega)]
  · rw [List.getElem?_eq_none (by rw [rdB_len]; omega), List.getElem?_eq_none (by rw [mskL_len, rdB_len]; omega)]
section MPS
variable {W : WR} {G : mG} {F : Nat} {S : ST}
theorem oM_slt156 {m f : Nat} {z Mx : List UInt8} {msg : List UInt8} {δ : Nat → UInt8} (X : Cx G F W) (h : isM W) (hz : z = sha false msg) (m66 : 66 ≤ m) (fm : f + m ≤ 128) (eM : rdB δ f m = Mx) : ∀ (q i fuel : Nat) (g : Bool) (o : Ob), q < fuel → i + q = m - 66 → mDig o → mMsg o msg → (∃ β, mB o 81 β) → mB o 82 δ → ∃ o', B_X13_isSalted_156 G F fuel (W.ad (.o 13 0)) (Int32.ofNat m) (Int32.ofNat f) (if g = true then 1 else 0) (Int32.ofNat (f + i)) (mem W (S.so 13 0 o)) = some (if ((g && pvZ Mx q i) && decide (sltF z (seg Mx (m - 65) 32) = seg Mx (m - 33) 32)) = true then 1 else 0, mem W (S.so 13 0 o')) ∧ mDig o' ∧ (∃ β, mB o' 81 β) ∧ agr [37] [] [36, 31, 32, 35, 81] [33, 34] o o' := by
  have ml : Mx.length = m := by rw [← eM, rdB_len]
  have e66 : (Int32.ofNat f) + (Int32.ofNat m) - (66 : Int32) = (Int32.ofNat (f + m - 66)) := by rw [n_add, n_subL 66 (by omega)]
  intro q
  induction q with
  | zero =>
    intro i fuel g o hf hi hd hm h81 b82
    obtain ⟨fuel, rfl⟩ : ∃ q, fuel = q + 1 := ⟨fuel - 1, by omega⟩
    obtain ⟨o1, γ, g1, b1, r1, d1, a1⟩ := oM_dm (G := G) (F := F) (S := S) X h hd hm
    obtain ⟨β81, h81⟩ := h81
    have v1 := oM_move (G := G) (F := F) (S := S) (o := o1) (k1 := 35) (k2 := 81) (p1 := 0) (p2 := 0) (cnt := 32) X h rfl rfl (by decide) (by decide) (by decide) (by decide) (by decide) (by decide) b1 (a1.mB h81 (by decide))
    rw [r1, ← hz] at v1
    have v1 : P_X13_move G F (W.ad (.a 13 0 35)) 0 (W.ad (.a 13 0 81)) 0 32 (mem W (S.so 13 0 o1)) = _ := v1
    have zl : z.length = 32 := by rw [hz, sha_len]; rfl
    obtain ⟨o2, ho2⟩ : ∃ o2, o2 = o1.sA 81 (fun j => sb (wrB β81 0 z j)) := ⟨_, rfl⟩
    rw [← ho2] at v1
    have a2 : agr [] [] [81] [] o1 o2 := by rw [ho2]; exact agr_sA (by simp)
    have c81 : mB o2 81 (wrB β81 0 z) := by rw [ho2]; exact mB_sA _ _ _
    have r81 : rdB (wrB β81 0 z) 0 32 = z := by
      have := rdB_wrB β81 0 z
      rw [zl] at this
      exact this
    have c82 : mB o2 82 δ := a2.mB (a1.mB b82 (by decide)) (by decide)
    have sal : rdB δ (f + m - 65) 32 = seg Mx (m - 65) 32 := by
      rw [← eM, seg_rd (by omega), show f + m - 65 = f + (m - 65) by omega]
    obtain ⟨o3, o4, o5, o6, o7, γ', s1, s2, s3, s4, s5, s6, s7, s8⟩ := oM_salted (G := G) (F := F) (S := S) (o := o2) (kx := 82) (p := f + m - 65) X h (a2.mDig d1 (by decide)) c81 r81 rfl (by decide) (by decide) (by show _ ≤ 128; omega) c82 sal
    have sl := sltF_len z (seg Mx (m - 65) 32)
    have c82' : mB o7 82 δ := s8.mB c82 (by decide)
    have r35 : rdB (wrB γ' 0 (sltF z (seg Mx (m - 65) 32))) 0 32 = sltF z (seg Mx (m - 65) 32) := by
      have := rdB_wrB γ' 0 (sltF z (seg Mx (m - 65) 32))
      rw [sl] at this
      exact this
    have hsh : rdB δ (f + m - 33) 32 = seg Mx (m - 33) 32 := by
      rw [← eM, seg_rd (by omega), show f + m - 33 = f + (m - 33) by omega]
    have sm := QM_same (G := G) (F := F) (S := S.so 13 0 o7) (k1 := 35) (k2 := 82) (p1 := 0) (p2 := f + m - 33) (n := 32) X h rfl rfl (by decide) (by decide) (by decide) (by show _ ≤ 128; omega) (by rw [so_eq]; exact s6) (by rw [so_eq]; exact c82') (by decide)
    rw [r35, hsh] at sm
    have sm : P_X13_same G F (W.ad (.a 13 0 35)) 0 (W.ad (.a 13 0 82)) (Int32.ofNat (f + m - 33)) 32 (mem W (S.so 13 0 o7)) = _ := sm
    have aa : agr [37] [] [36, 31, 32, 35, 81] [33, 34] o o7 := ((a1.mono (by simp) (by simp) (by simp) (by simp)).trans (a2.mono (by simp) (by simp) (by simp) (by simp))).trans (s8.mono (by simp) (by simp) (by simp) (by simp))
    refine ⟨o7, ?_, s7, ⟨_, s8.mB c81 (by decide)⟩, aa⟩
    rw [B_X13_isSalted_156, e66, if_pos ((n_le (by omega) (by omega)).mpr (by omega)), rcv_m h.lo, bO_s, g1, bO_s, h.gR 35 rfl (by decide), bO_s, h.gR 81 rfl (by decide), bO_s, v1, bO_s, rcv_m h.lo, bO_s, s1, bO_s, rcv_m h.lo, bO_s, s2, bO_s, h.gR 81 rfl (by decide), bO_s, rcv_m h.lo, bO_s, s3, bO_s, h.gR 82 rfl (by decide), bO_s, rcv_m h.lo, bO_s, n_add, n_subL 65 (by omega), s4, bO_s, rcv_m h.lo, bO_s, s5, bP_s]
    cases g with
    | false =>
      rw [if_pos (show (if false = true then (1 : Int32) else 0) = 0 from rfl)]
      rfl
    | true =>
      rw [if_neg (show ¬ (if true = true then (1 : Int32) else 0) = 0 by decide), h.gR 35 rfl (by decide), bO_s, h.gR 82 rfl (by decide), bO_s, n_subL 33 (by omega), sm, bP_s]
      show _ = some (if ((true && true) && decide (sltF z (seg Mx (m - 65) 32) = seg Mx (m - 33) 32)) = true then 1 else 0, _)
      by_cases c : sltF z (seg Mx (m - 65) 32) = seg Mx (m - 33) 32
      · rw [if_pos c, if_neg (by decide), decide_eq_true c]
        rfl
      · rw [if_neg c, if_pos rfl, decide_eq_false c]
        rfl
  | succ q ih =>
    intro i fuel g o hf hi hd hm h81 b82
    obtain ⟨fuel, rfl⟩ : ∃ q, fuel = q + 1 := ⟨fuel - 1, by omega⟩
    have nx := fun g' => ih (i + 1) fuel g' o (by omega) (by omega) hd hm h81 b82
    have gd : Mx.getD i 0 = δ (f + i) := by
      rw [← eM, List.getD_eq_getElem?_getD, rdB_at (by omega)]
      rfl
    have pz : pvZ Mx (q + 1) i = (decide (Mx.getD i 0 = 0) && pvZ Mx q (i + 1)) := rfl
    rw [B_X13_isSalted_156, e66, if_neg (fun q => by have := (n_le (by omega) (by omega)).mp q; omega), pz]
    cases g with
    | false =>
      rw [if_pos (show (if false = true then (1 : Int32) else 0) = 0 from rfl), n_i1]
      exact nx false
    | true =>
      have iff : (sb (δ (f + i)) = (0 : Int32)) = (Mx.getD i 0 = 0) := by
        rw [gd]
        exact propext (sb_asc (y := 0) (by decide))
      rw [if_neg (show ¬ (if true = true then (1 : Int32) else 0) = 0 by decide), h.gR 82 rfl (by decide), bO_s, h.aB' rfl b82 (by show _ < 128; omega) (by decide), bO_s, n_i1]
      simp only [iff]
      by_cases c : Mx.getD i 0 = 0
      · rw [if_pos c, decide_eq_true c]
        exact nx true
      · rw [if_neg c, decide_eq_false c]
        exact nx false
theorem oM_isSalted {o : Ob} {n bits : Nat} {y msg : List UInt8} {β62 : Nat → UInt8} (X : Cx G F W) (h : isM W) (hd : mDig o) (hm : mMsg o msg) (b62 : mB o 62 β62) (r62 : rdB β62 0 n = y) (he : 66 ≤ (bits + 7) / 8) (hen : (bits + 7) / 8 ≤ n) (hn : n ≤ 128) (h81 : ∃ β, mB o 81 β) (h82 : ∃ β, mB o 82 β) : ∃ o', P_X13_isSalted G F (W.ad (.o 13 0)) (Int32.ofNat bits) (Int32.ofNat n) (mem W (S.so 13 0 o)) = some (if psV (sha false msg) y bits = true then 1 else 0, mem W (S.so 13 0 o')) ∧ mDig o' ∧ (∃ β, mB o' 81 β) ∧ (∃ β, mB o' 82 β) ∧ agr [37] [] soL [33, 34] o o' := by
  have hF := X.hF
  have yl : y.length = n := by rw [← r62, rdB_len]
  obtain ⟨m, hm'⟩ : ∃ x, x = (bits + 7) / 8 := ⟨_, rfl⟩
  rw [← hm'] at he hen
  obtain ⟨f, hf⟩ : ∃ f, f = n - m := ⟨_, rfl⟩
  have ed : ((Int32.ofNat bits) + (7 : Int32)) / (8 : Int32) = (Int32.ofNat m) := by
    rw [n_addL bits 7, hm']
    exact n_div (by omega) (by decide)
  have ef : (Int32.ofNat n) - (Int32.ofNat m) = (Int32.ofNat f) := by rw [n_sub hen, hf]
  obtain ⟨x, hx⟩ : ∃ x, x = seg y f m := ⟨_, rfl⟩
  have xl : x.length = m := by rw [hx, seg_len (by omega)]
  have x62 : rdB β62 f m = x := by rw [hx, ← r62, seg_rd (by omega), Nat.zero_add]
  have at62 : ∀ j, j < n → β62 j = y.getD j 0 := fun j hj => by
    rw [← r62, List.getD_eq_getElem?_getD, rdB_at hj, Nat.zero_add]
    rfl
  have atx : ∀ j, j < m → β62 (f + j) = x.getD j 0 := fun j hj => by
    rw [← x62, List.getD_eq_getElem?_getD, rdB_at hj]
    rfl
  obtain ⟨β82, h82⟩ := h82
  have rd62 : ∀ j, j < n → aI G (mem W (S.so 13 0 o)) 1 (W.ad (.a 13 0 62)) (Int32.ofNat j) = some (sb (β62 j)) := fun j hj => h.aB' rfl b62 (by show _ < 128; omega) (by decide)
  have stay : ∀ P : Option (Int32 × mM), P = some (0, mem W (S.so 13 0 o)) → psV (sha false msg) y bits = false → ∃ o', P = some (if psV (sha false msg) y bits = true then 1 else 0, mem W (S.so 13 0 o')) ∧ mDig o' ∧ (∃ β, mB o' 81 β) ∧ (∃ β, mB o' 82 β) ∧ agr [37] [] soL [33, 34] o o' := by
    intro P hP hv
    exact ⟨o, by rw [hP, hv]; rfl, hd, h81, ⟨_, h82⟩, agr.refl _ _ _ _ _⟩
  have V : psV (sha false msg) y bits = ((decide (f = 0) || decide (y.getD 0 0 = 0)) && (decide (x.getD (m - 1) 0 = 188) && (decide (gN x 0 < 2 ^ (8 - (8 * m - bits))) && pvC (sha false msg) (pvM x bits) m))) := by
    unfold psV
    rw [← hm', yl, ← hf, ← hx]
  -- behind the first zero
  have go : (decide (f = 0) || decide (y.getD 0 0 = 0)) = true → ∃ o', B_X13_isSalted_27 G F (W.ad (.o 13 0)) (Int32.ofNat bits) (Int32.ofNat n) (Int32.ofNat m) (Int32.ofNat f) (mem W (S.so 13 0 o)) = some (if psV (sha false msg) y bits = true then 1 else 0, mem W (S.so 13 0 o')) ∧ mDig o' ∧ (∃ β, mB o' 81 β) ∧ (∃ β, mB o' 82 β) ∧ agr [37] [] soL [33, 34] o o' := by
    intro hz0
    rw [hz0, Bool.true_and] at V
    have e8 : (8 : Int32) * (Int32.ofNat m) = (Int32.ofNat (8 * m)) := n_mul 8 m
    have e8s : (Int32.ofNat (8 * m)) - (Int32.ofNat bits) = (Int32.ofNat (8 * m - bits)) := n_sub (by omega)
    have l1 : β62 (n - 1) = x.getD (m - 1) 0 := by rw [← atx (m - 1) (by omega), show f + (m - 1) = n - 1 by omega]
    have i188 : (sb (β62 (n - 1)) = (-68 : Int32)) = (x.getD (m - 1) 0 = 188) := by
      rw [l1]
      refine propext ⟨fun q => ?_, fun q => by rw [q]; decide⟩
      have : (-68 : Int32) = sb 188 := by decide
      rw [this] at q
      exact sb_inj q
    have tm : ((sb (β62 f) &&& (255 : Int32)) >>> (((8 : Int32) - (Int32.ofNat (8 * m - bits))) &&& 31) = 0) = (gN x 0 < 2 ^ (8 - (8 * m - bits))) := by
      rw [sb_and]
      have e0 : b32 (β62 f) = (Int32.ofNat (gN x 0)) := by
        have q := atx 0 (by omega)
        rw [Nat.add_zero] at q
        rw [q]
        rfl
      rw [e0]
      exact propext (top_m (8 * m - bits) (by omega) (gN x 0) (gN_lt x 0))
    unfold B_X13_isSalted_27
    rw [h.gR 62 rfl (by decide), bO_s, n_subL 1 (by omega), rd62 (n - 1) (by omega), bO_s]
    simp only [i188]
    by_cases c1 : x.getD (m - 1) 0 = 188
    · rw [if_pos c1, bO_s, rd62 f (by omega), bO_s, e8, e8s]
      simp only [tm]
      by_cases c2 : gN x 0 < 2 ^ (8 - (8 * m - bits))
      · rw [decide_eq_true c1, decide_eq_true c2, Bool.true_and, Bool.true_and] at V
        have v1 := oM_move (G := G) (F := F) (S := S) (o := o) (k1 := 62) (k2 := 82) (p1 := 0) (p2 := 0) (cnt := n) X h rfl rfl (by decide) (by decide) (by decide) (by show _ ≤ 128; omega) (by show _ ≤ 128; omega) (by omega) b62 h82
        rw [r62] at v1
        have v1 : P_X13_move G F (W.ad (.a 13 0 62)) 0 (W.ad (.a 13 0 82)) 0 (Int32.ofNat n) (mem W (S.so 13 0 o)) = _ := v1
        obtain ⟨o1, ho1⟩ : ∃ o1, o1 = o.sA 82 (fun j => sb (wrB β82 0 y j)) := ⟨_, rfl⟩
        rw [← ho1] at v1
        have a1 : agr [] [] [82] [] o o1 := by rw [ho1]; exact agr_sA (by simp)
        have b1 : mB o1 82 (wrB β82 0 y) := by rw [ho1]; exact mB_sA _ _ _
        have r1 : rdB (wrB β82 0 y) 0 n = y := by rw [← yl]; exact rdB_wrB _ _ _
        have rx : rdB (wrB β82 0 y) f m = x := by
          have q : seg (rdB (wrB β82 0 y) 0 n) f m = rdB (wrB β82 0 y) (0 + f) m := seg_rd (by omega)
          rw [r1, Nat.zero_add] at q
          rw [← q, hx]
        have rh : rdB (wrB β82 0 y) (f + m - 33) 32 = seg x (m - 33) 32 := by
          rw [← rx, seg_rd (by omega), show f + m - 33 = f + (m - 33) by omega]
        obtain ⟨o2, m1, m2, m3, m4⟩ := QM_maskOn (G := G) (F := F) (S := S.so 13 0 o1) (a := f) (many := m - 33) (sd := f + m - 33) (sn := 32) X h (by omega) (by omega) (by omega) (by rw [so_eq]; exact b1) (by rw [so_eq]; exact a1.mDig hd (by decide))
        rw [so_so] at m1
        rw [so_eq] at m4
        rw [rh] at m2
        have m1 : P_X13_maskOn G F (W.ad (.o 13 0)) (W.ad (.a 13 0 82)) (Int32.ofNat (f + m - 33)) 32 (W.ad (.a 13 0 82)) (Int32.ofNat f) (Int32.ofNat (m - 33)) (mem W (S.so 13 0 o1)) = _ := m1
        obtain ⟨γ, hγ⟩ : ∃ γ, γ = mskB (wrB β82 0 y) (seg x (m - 33) 32) f (m - 33) := ⟨_, rfl⟩
        rw [← hγ] at m2
        have rγ : rdB γ f m = mskL x (seg x (m - 33) 32) 0 (m - 33) := by rw [hγ, msk_off, rx]
        obtain ⟨xb, hxb⟩ : ∃ xb, xb = γ f &&& lo8 ((255 : Int32) >>> ((Int32.ofNat (8 * m - bits)) &&& 31)) := ⟨_, rfl⟩
        have rd := h.aB' (G := G) (S := S) (o := o2) (k := 82) (j := f) rfl m2 (by show _ < 128; omega) (by decide)
        have v3 := h.sB' (S := S) (o := o2) (k := 82) (j := f) (y := xb) rfl m2 (by show _ < 128; omega) (by decide)
        obtain ⟨o3, ho3⟩ : ∃ o3, o3 = o2.sA 82 (fun j => sb (va_up γ f xb j)) := ⟨_, rfl⟩
        rw [← ho3] at v3
        have a3 : agr [] [] [82] [] o2 o3 := by rw [ho3]; exact agr_sA (by simp)
        have b3 : mB o3 82 (va_up γ f xb) := by rw [ho3]; exact mB_sA _ _ _
        have eM : rdB (va_up γ f xb) f m = pvM x bits := by
          have q := rdB_up (β := γ) (p := f) (n := m) (j := 0) (y := xb) (by omega)
          rw [Nat.add_zero] at q
          rw [q, rγ]
          unfold pvM
          rw [xl, e8s]
          congr 1
          rw [hxb, lo8_an]
          congr 1
          have l0 : 0 < (mskL x (seg x (m - 33) 32) 0 (m - 33)).length := by rw [mskL_len, xl]; omega
          rw [gB_lt l0, lo8_b32]
          have q0 : (mskL x (seg x (m - 33) 32) 0 (m - 33))[0]? = some (γ f) := by
            rw [← rγ, rdB_at (by omega), Nat.add_zero]
          rw [List.getElem?_eq_getElem l0] at q0
          exact (Option.some.inj q0).symm
        have nar : (((sb (γ f) &&& (((255 : Int32) >>> ((Int32.ofNat (8 * m - bits)) &&& 31)).toInt8.toInt32)).toInt8.toInt32).toInt8.toInt32) = sb xb := by
          rw [sb_lo8, sb_lo8, lo8_sb, lo8_an, lo8_sb, sb_lo8, lo8_sb, hxb]
        have rdone := h.aB' (G := G) (S := S) (o := o3) (k := 82) (j := f + m - 66) rfl b3 (by show _ < 128; omega) (by decide)
        have gd : (pvM x bits).getD (m - 66) 0 = va_up γ f xb (f + m - 66) := by
          rw [← eM, List.getD_eq_getElem?_getD, rdB_at (by omega), show f + (m - 66) = f + m - 66 by omega]
          rfl
        have ione : (sb (va_up γ f xb (f + m - 66)) = (1 : Int32)) = ((pvM x bits).getD (m - 66) 0 = 1) := by
          rw [gd]
          exact propext (sb_asc (y := 1) (by decide))
        have a13 : agr [37] [] [36, 31, 32, 35, 82] [33, 34] o o3 := ((a1.mono (by simp) (by simp) (by simp) (by simp)).trans m4).trans (a3.mono (by simp) (by simp) (by simp) (by simp))
        obtain ⟨β81, h81⟩ := h81
        have lp := fun g => oM_slt156 (G := G) (F := F) (S := S) (m := m) (f := f) (z := sha false msg) (Mx := pvM x bits) X h rfl he (by omega) eM (m - 66) 0 F g o3 (by omega) (by omega) (a3.mDig m3 (by decide)) (a13.mMsg hm (by decide) (by decide)) ⟨_, a13.mB h81 (by decide)⟩ b3
        rw [if_pos c2, bO_s, h.gR 82 rfl (by decide), bO_s, v1, bO_s, h.gR 82 rfl (by decide), bO_s, bO_s, rcv_m h.lo, bO_s, n_add, n_subL 33 (by omega), n_subL 33 (by omega), m1, bO_s, h.gR 82 rfl (by decide), bO_s, rd, bO_s, nar, v3, bO_s, h.gR 82 rfl (by decide), bO_s, n_subL 66 (by omega), rdone, bO_s]
        simp only [ione]
        have fin : ∀ g : Bool, g = decide ((pvM x bits).getD (m - 66) 0 = 1) → ∃ o', B_X13_isSalted_156 G F F (W.ad (.o 13 0)) (Int32.ofNat m) (Int32.ofNat f) (if g = true then 1 else 0) (Int32.ofNat f) (mem W (S.so 13 0 o3)) = some (if psV (sha false msg) y bits = true then 1 else 0, mem W (S.so 13 0 o')) ∧ mDig o' ∧ (∃ β, mB o' 81 β) ∧ (∃ β, mB o' 82 β) ∧ agr [37] [] soL [33, 34] o o' := by
          intro g hg
          obtain ⟨o4, z1, z2, z3, z4⟩ := lp g
          rw [Nat.add_zero] at z1
          refine ⟨o4, ?_, z2, z3, ⟨_, z4.mB b3 (by decide)⟩, (a13.mono (by simp) (by simp) (by simp [soL]) (by simp)).trans (z4.mono (by simp) (by simp) (by simp [soL]) (by simp))⟩
          rw [z1, V]
          unfold pvC
          rw [← hg]
          congr 3
          cases g <;> cases pvZ (pvM x bits) (m - 66) 0 <;> rfl
        by_cases c3 : (pvM x bits).getD (m - 66) 0 = 1
        · rw [if_pos c3]
          exact fin true (decide_eq_true c3).symm
        · rw [if_neg c3]
          exact fin false (decide_eq_false c3).symm
      · rw [if_neg c2]
        exact stay _ rfl (by rw [V, decide_eq_true c1, decide_eq_false c2]; rfl)
    · rw [if_neg c1]
      exact stay _ rfl (by rw [V, decide_eq_false c1]; rfl)
  unfold P_X13_isSalted
  rw [ed, ef]
  have xf : ((Int32.ofNat f) ≤ (0 : Int32)) = (f = 0) := propext ((n_le (b := 0) (by omega) (by omega)).trans (by omega))
  simp only [xf]
  by_cases cf : f = 0
  · rw [if_pos cf]
    exact go (by rw [decide_eq_true cf]; rfl)
  · have r0 : aI G (mem W (S.so 13 0 o)) 1 (W.ad (.a 13 0 62)) 0 = some (sb (β62 0)) := rd62 0 (by omega)
    have i0 : (sb (β62 0) = (0 : Int32)) = (y.getD 0 0 = 0) := by
      rw [at62 0 (by omega)]
      exact propext (sb_asc (y := 0) (by decide))
    rw [if_neg cf, h.gR 62 rfl (by decide), bO_s, r0, bO_s]
    simp only [i0]
    by_cases c1 : y.getD 0 0 = 0
    · rw [if_pos c1]
      exact go (by rw [decide_eq_true c1, Bool.or_true])
    · rw [if_neg c1]
      exact stay _ rfl (by rw [V, decide_eq_false cf, decide_eq_false c1]; rfl)
end MPS
