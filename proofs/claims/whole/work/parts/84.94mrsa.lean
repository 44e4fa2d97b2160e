/-! KEYS SEALED WITH NUMBERS: the model -/
/-- a frame's beginning -/
def oaX (seed : List UInt8) (i : Nat) : List UInt8 := 0 :: (seed ++ (sha false [] ++ List.replicate (i - 65) 0))
theorem oaX_s {seed : List UInt8} {i : Nat} (h : 65 ≤ i) : oaX seed i ++ [0] = oaX seed (i + 1) := by
  unfold oaX
  rw [show i + 1 - 65 = (i - 65) + 1 by omega, List.replicate_succ']
  simp only [List.cons_append, List.append_assoc]
theorem oaX_B {seed msg : List UInt8} {n : Nat} (h : msg.length + 66 ≤ n) : oaX seed (n - msg.length - 1) ++ [1] ++ msg = oaB seed msg n := by
  unfold oaX oaB
  rw [show n - msg.length - 1 - 65 = n - msg.length - 66 by omega]
  simp only [List.cons_append, List.append_assoc, List.nil_append]
abbrev rsA : List Nat := [31, 32, 35, 36, 60, 61, 62, 82, 126]
theorem MO.m82 {S : ST} {o o' : Ob} (h : MO S o) (a : agr [37] [] [36, 31, 32, 35, 82] [33, 34] o o') (d : mDig o') (b : ∃ β, mB o' 82 β) : MO S o' := ⟨h.1.agL a (by decide), d, h.2.2.keep a (fun n hn z => by
  simp only [List.mem_cons, List.not_mem_nil, or_false] at hn
  rcases hn with rfl | rfl | rfl | rfl | rfl
  · exact d.2.1
  · exact absurd z (by decide)
  · exact absurd z (by decide)
  · exact d.1
  · exact b)⟩
section MRS
variable {W : WR} {G : mG} {F : Nat} {S : ST} {A : Nat → Option KY} {K : KY}
theorem QM_sealRsaEnd {k fuel : Nat} {o : Ob} {seed ck : List UInt8} {β β125 α85 α87 : Nat → UInt8} (X : Cx G F W) (h : isM W) (hmm : isMm W) (M : MO S o) (hk : k < 16) (b85 : mB o 85 α85) (b87 : mB o 87 α87) (k3 : o.a 88 k = (Int32.ofNat K.2.1.2.1.length)) (l1 : K.2.1.1.length ≤ 128) (r1 : rdB α85 (128 * k) K.2.1.1.length = K.2.1.1) (l2 : K.2.1.2.1.length ≤ 128) (r2 : rdB α87 (128 * k) K.2.1.2.1.length = K.2.1.2.1) (su : suitsF K.2.1.1 = true) (h66 : ck.length + 66 ≤ K.2.1.1.length) (b125 : mB o 125 β125) (r125 : rdB β125 0 ck.length = ck) (sl : seed.length = 32) (b82 : mB o 82 β) (r82 : rdB β 0 (K.2.1.1.length - ck.length - 1) = oaX seed (K.2.1.1.length - ck.length - 1)) : ∃ S', B_X13_sealRsa_61 G F (fuel + 1) (W.ad (.o 13 0)) (Int32.ofNat k) (Int32.ofNat ck.length) (Int32.ofNat K.2.1.1.length) (Int32.ofNat (K.2.1.1.length - ck.length - 1)) (mem W (S.so 13 0 o)) = some (mem W S') ∧ fr [(12, 0), (13, 0)] S S' ∧ agr [37, 127] [] rsA [33, 34] o (S' 13 0) ∧ MK S' ∧ mDig (S' 13 0) ∧ mEv (S' 13 0) ∧ (S' 13 0).f 127 = (Int32.ofNat K.2.1.1.length) ∧ ∃ β, mB (S' 13 0) 126 β ∧ rdB β 0 K.2.1.1.length = powF (oaF seed ck K.2.1.1.length) K.2.1.2.1 K.2.1.1 := by
  obtain ⟨L, hL⟩ : ∃ L, L = K.2.1.1.length := ⟨_, rfl⟩
  obtain ⟨n, hn⟩ : ∃ n, n = ck.length := ⟨_, rfl⟩
  rw [← hL] at l1 r1 h66 r82 ⊢
  rw [← hn] at h66 r125 r82 ⊢
  have v1 := h.sB' (S := S) (o := o) (k := 82) (j := L - n - 1) (y := 1) rfl b82 (by show _ < 128; omega) (by decide)
  obtain ⟨o1, ho1⟩ : ∃ o1, o1 = o.sA 82 (fun j => sb (va_up β (L - n - 1) 1 j)) := ⟨_, rfl⟩
  rw [← ho1] at v1
  have c1 : mB o1 82 (va_up β (L - n - 1) 1) := by rw [ho1]; exact mB_sA _ _ _
  have a1 : agr [] [] [82] [] o o1 := by rw [ho1]; exact agr_sA (by simp)
  have v2 := oM_move (G := G) (F := F) (S := S) (o := o1) (k1 := 125) (k2 := 82) (p1 := 0) (p2 := L - n) (cnt := n) X h rfl rfl (by decide) (by decide) (by decide) (by show _ ≤ 64; omega) (by show _ ≤ 128; omega) (by omega) (a1.mB b125 (by decide)) c1
  rw [r125] at v2
  have v2 : P_X13_move G F (W.ad (.a 13 0 125)) 0 (W.ad (.a 13 0 82)) (Int32.ofNat (L - n)) (Int32.ofNat n) (mem W (S.so 13 0 o1)) = _ := v2
  obtain ⟨β2, hβ2⟩ : ∃ β2, β2 = wrB (va_up β (L - n - 1) 1) (L - n) ck := ⟨_, rfl⟩
  rw [← hβ2] at v2
  obtain ⟨o2, ho2⟩ : ∃ o2, o2 = o1.sA 82 (fun j => sb (β2 j)) := ⟨_, rfl⟩
  rw [← ho2] at v2
  have c2 : mB o2 82 β2 := by rw [ho2]; exact mB_sA _ _ _
  have a2 : agr [] [] [82] [] o1 o2 := by rw [ho2]; exact agr_sA (by simp)
  have r2' : rdB β2 0 L = oaB seed ck L := by
    have q1 := rdB_app (va_up β (L - n - 1) 1) 0 ck (L - n)
    rw [Nat.zero_add, ← hn, show L - n + n = L by omega, ← hβ2] at q1
    have q2 := rd_va (β := β) (i := L - n - 1) (y := 1)
    rw [show L - n - 1 + 1 = L - n by omega, r82] at q2
    rw [q1, q2]
    have q3 := oaX_B (seed := seed) (msg := ck) (n := L) (by omega)
    rw [← hn] at q3
    exact q3
  have M2 : MO S o2 := M.ag (a1.trans a2) (by decide) (by decide) (fun q hq _ => by
    rw [List.mem_singleton] at hq
    rw [hq]
    exact ⟨_, c2⟩)
  obtain ⟨o3, m1, m2, m3, m4⟩ := QM_maskOn (G := G) (F := F) (S := S.so 13 0 o2) (a := 33) (many := L - 33) (sd := 1) (sn := 32) X h (by omega) (by omega) (by omega) (by rw [so_eq]; exact c2) (by rw [so_eq]; exact M2.2.1)
  rw [so_so] at m1
  rw [so_eq] at m4
  have e3 : rdB (mskB β2 (rdB β2 1 32) 33 (L - 33)) 0 L = oaM seed ck L := by
    rw [msk_LB, r2']
    unfold oaM
    rw [← r2', seg_rd (by omega)]
  have M3 : MO S o3 := M2.m82 m4 m3 ⟨_, m2⟩
  obtain ⟨β3, hβ3⟩ : ∃ β3, β3 = mskB β2 (rdB β2 1 32) 33 (L - 33) := ⟨_, rfl⟩
  rw [← hβ3] at m2 e3
  obtain ⟨o4, p1, p2, p3, p4⟩ := QM_maskOn (G := G) (F := F) (S := S.so 13 0 o3) (a := 1) (many := 32) (sd := 33) (sn := L - 33) X h (by omega) (by omega) (by omega) (by rw [so_eq]; exact m2) (by rw [so_eq]; exact M3.2.1)
  rw [so_so] at p1
  rw [so_eq] at p4
  have e4 : rdB (mskB β3 (rdB β3 33 (L - 33)) 1 32) 0 L = oaF seed ck L := by
    rw [msk_LB, e3]
    unfold oaF
    rw [← e3, seg_rd (by omega), Nat.zero_add]
  have M4 : MO S o4 := M3.m82 p4 p3 ⟨_, p2⟩
  have a04 : agr [37] [] [36, 31, 32, 35, 82] [33, 34] o o4 := (((a1.trans a2).mono (by simp) (by simp) (by simp) (by simp)).trans m4).trans p4
  obtain ⟨β62, h62⟩ := M4.2.2 62 rfl
  obtain ⟨S5, g5, f5, a5, b5⟩ := QM_raise (G := G) (F := F) (S := S.so 13 0 o4) (kb := 82) (pb := 0) (sb_ := L) (ke := 87) (pe := 128 * k) (se := K.2.1.2.1.length) (km := 85) (pm := 128 * k) (sm := L) X h hmm rfl rfl rfl (by decide) (by decide) (by decide) (by decide) (by decide) (by decide) (by show _ ≤ 128; omega) (by show _ ≤ 2048; omega) (by show _ ≤ 2048; omega) (by omega) (by omega) (by rw [so_eq]; exact p2) (by rw [so_eq]; exact a04.mB b87 (by decide)) (by rw [so_eq]; exact a04.mB b85 (by decide)) (by rw [so_eq]; exact h62) (by rw [r1]; exact su)
  rw [so_eq] at a5
  rw [e4, r2, r1] at b5
  obtain ⟨sg, hsg⟩ : ∃ sg, sg = powF (oaF seed ck L) K.2.1.2.1 K.2.1.1 := ⟨_, rfl⟩
  have sgl : sg.length = L := by rw [hsg, powF_len, hL]
  rw [← hsg] at b5 ⊢
  have mk5 : MK S5 := M4.1.rs3 f5 (by rw [so_eq]; exact a5)
  have d5 : mDig (S5 13 0) := a5.mDig M4.2.1 (by decide)
  have E5 : mEv (S5 13 0) := M4.2.2.keep a5 (fun n hn z => by
    simp only [List.mem_cons, List.not_mem_nil, or_false] at hn
    rcases hn with rfl | rfl | rfl
    · exact absurd z (by decide)
    · exact absurd z (by decide)
    · exact ⟨_, b5⟩)
  obtain ⟨β126, b126⟩ := E5 126 rfl
  have v6 := oM_move (G := G) (F := F) (S := S5) (o := S5 13 0) (k1 := 62) (k2 := 126) (p1 := 0) (p2 := 0) (cnt := L) X h rfl rfl (by decide) (by decide) (by decide) (by show _ ≤ 128; omega) (by show _ ≤ 8200; omega) (by omega) b5 b126
  have q62 := rdB_wrB β62 0 sg
  rw [sgl] at q62
  rw [so_self, q62] at v6
  have v6 : P_X13_move G F (W.ad (.a 13 0 62)) 0 (W.ad (.a 13 0 126)) 0 (Int32.ofNat L) (mem W S5) = _ := v6
  obtain ⟨o7, ho7⟩ : ∃ o7, o7 = ((S5 13 0).sA 126 (fun j => sb (wrB β126 0 sg j))).sf 127 (Int32.ofNat L) := ⟨_, rfl⟩
  have a7 : agr [127] [] [126] [] (S5 13 0) o7 := by rw [ho7]; exact (agr_sA (by simp)).trans (agr_sf (by simp))
  have b7 : mB o7 126 (wrB β126 0 sg) := by rw [ho7]; exact mB_sA _ _ _
  have M7 : MO S5 o7 := (MO.of mk5 d5 E5).ag a7 (by decide) (by decide) (fun q hq _ => by
    rw [List.mem_singleton] at hq
    rw [hq]
    exact ⟨_, b7⟩)
  have rd88 : aI G (mem W (S.so 13 0 o4)) 0 (W.ad (.a 13 0 88)) (Int32.ofNat k) = some (Int32.ofNat K.2.1.2.1.length) := by rw [h.aN rfl (show k < mLen 88 from hk) (by decide), so_eq, a04.2.2.1 88 (by decide), k3]
  have e128 : (128 : Int32) * (Int32.ofNat k) = (Int32.ofNat (128 * k)) := n_mul 128 k
  have m1 : P_X13_maskOn G F (W.ad (.o 13 0)) (W.ad (.a 13 0 82)) 1 32 (W.ad (.a 13 0 82)) 33 (Int32.ofNat (L - 33)) (mem W (S.so 13 0 o2)) = _ := m1
  have p1 : P_X13_maskOn G F (W.ad (.o 13 0)) (W.ad (.a 13 0 82)) 33 (Int32.ofNat (L - 33)) (W.ad (.a 13 0 82)) 1 32 (mem W (S.so 13 0 o3)) = _ := p1
  have g5 : P_X13_raise G F (W.ad (.o 13 0)) (W.ad (.a 13 0 82)) 0 (Int32.ofNat L) (W.ad (.a 13 0 87)) (Int32.ofNat (128 * k)) (Int32.ofNat K.2.1.2.1.length) (W.ad (.a 13 0 85)) (Int32.ofNat (128 * k)) (Int32.ofNat L) (mem W (S.so 13 0 o4)) = _ := g5
  refine ⟨S5.so 13 0 o7, ?_, ?_, ?_, M7.1, by rw [so_eq]; exact M7.2.1, by rw [so_eq]; exact M7.2.2, by rw [so_eq, ho7, sf_eq], _, by rw [so_eq]; exact b7, ?_⟩
  · rw [B_X13_sealRsa_61, n_sub (by omega), n_subL 1 (by omega), if_pos ((n_le (by omega) (by omega)).mpr (Nat.le_refl _)), h.gR 82 rfl (by decide), bO_s, sb_k.2.1, v1, bO_s, h.gR 125 rfl (by decide), bO_s, h.gR 82 rfl (by decide), bO_s, v2, bO_s, h.gR 82 rfl (by decide), bO_s, bO_s, rcv_m h.lo, bO_s, n_subL 33 (by omega), m1, bO_s, h.gR 82 rfl (by decide), bO_s, bO_s, rcv_m h.lo, bO_s, p1, bO_s, h.gR 82 rfl (by decide), bO_s, h.gR 87 rfl (by decide), bO_s, h.gR 88 rfl (by decide), bO_s, rd88, bO_s, h.gR 85 rfl (by decide), bO_s, rcv_m h.lo, bO_s, e128, g5, bO_s, h.gR 62 rfl (by decide), bO_s, h.gR 126 rfl (by decide), bO_s, v6, bO_s, pfI_m h.lo rfl, bO_s, so_eq, so_so, ← ho7]
  · exact ((fr_so (by simp) : fr [(12, 0), (13, 0)] S (S.so 13 0 o4)).trans f5).trans (fr_so (by simp))
  · rw [so_eq]
    exact ((a04.mono (by simp) (by simp) (by simp [rsA]) (by simp)).trans (a5.mono (by simp) (by simp) (by simp [rsA]) (by simp))).trans (a7.mono (by simp) (by simp) (by simp [rsA]) (by simp))
  · have q := rdB_wrB β126 0 sg
    rw [sgl] at q
    exact q
theorem QM_sealRsaLoop {k : Nat} {seed ck : List UInt8} {β125 α85 α87 : Nat → UInt8} (X : Cx G F W) (h : isM W) (hmm : isMm W) (hk : k < 16) (l1 : K.2.1.1.length ≤ 128) (r1 : rdB α85 (128 * k) K.2.1.1.length = K.2.1.1) (l2 : K.2.1.2.1.length ≤ 128) (r2 : rdB α87 (128 * k) K.2.1.2.1.length = K.2.1.2.1) (su : suitsF K.2.1.1 = true) (h66 : ck.length + 66 ≤ K.2.1.1.length) (r125 : rdB β125 0 ck.length = ck) (sl : seed.length = 32) : ∀ (m i fuel : Nat) (o : Ob) (β : Nat → UInt8), m < fuel → i + m = K.2.1.1.length - ck.length - 1 → 65 ≤ i → MO S o → mB o 85 α85 → mB o 87 α87 → o.a 88 k = (Int32.ofNat K.2.1.2.1.length) → mB o 125 β125 → mB o 82 β → rdB β 0 i = oaX seed i → ∃ S', B_X13_sealRsa_61 G F fuel (W.ad (.o 13 0)) (Int32.ofNat k) (Int32.ofNat ck.length) (Int32.ofNat K.2.1.1.length) (Int32.ofNat i) (mem W (S.so 13 0 o)) = some (mem W S') ∧ fr [(12, 0), (13, 0)] S S' ∧ agr [37, 127] [] rsA [33, 34] o (S' 13 0) ∧ MK S' ∧ mDig (S' 13 0) ∧ mEv (S' 13 0) ∧ (S' 13 0).f 127 = (Int32.ofNat K.2.1.1.length) ∧ ∃ β, mB (S' 13 0) 126 β ∧ rdB β 0 K.2.1.1.length = powF (oaF seed ck K.2.1.1.length) K.2.1.2.1 K.2.1.1 := by
  intro m
  induction m with
  | zero =>
    intro i fuel o β hf hi hi5 M b85 b87 k3 b125 b82 r82
    obtain ⟨fuel, rfl⟩ : ∃ q, fuel = q + 1 := ⟨fuel - 1, by omega⟩
    rw [Nat.add_zero] at hi
    rw [hi] at r82 ⊢
    exact QM_sealRsaEnd X h hmm M hk b85 b87 k3 l1 r1 l2 r2 su h66 b125 r125 sl b82 r82
  | succ m ih =>
    intro i fuel o β hf hi hi5 M b85 b87 k3 b125 b82 r82
    obtain ⟨fuel, rfl⟩ : ∃ q, fuel = q + 1 := ⟨fuel - 1, by omega⟩
    have v := h.sB' (S := S) (o := o) (k := 82) (j := i) (y := 0) rfl b82 (by show _ < 128; omega) (by decide)
    obtain ⟨o1, ho1⟩ : ∃ o1, o1 = o.sA 82 (fun j => sb (va_up β i 0 j)) := ⟨_, rfl⟩
    rw [← ho1] at v
    have a1 : agr [] [] [82] [] o o1 := by rw [ho1]; exact agr_sA (by simp)
    have c1 : mB o1 82 (va_up β i 0) := by rw [ho1]; exact mB_sA _ _ _
    have M1 : MO S o1 := M.ag a1 (by decide) (by decide) (fun q hq _ => by
      rw [List.mem_singleton] at hq
      rw [hq]
      exact ⟨_, c1⟩)
    obtain ⟨S', g, q1, q2, rest⟩ := ih (i + 1) fuel o1 (va_up β i 0) (by omega) (by omega) (by omega) M1 (a1.mB b85 (by decide)) (a1.mB b87 (by decide)) (by rw [a1.2.2.1 88 (by decide)]; exact k3) (a1.mB b125 (by decide)) c1 (by rw [rd_va, r82, oaX_s hi5])
    refine ⟨S', ?_, q1, (a1.mono (by simp) (by simp) (by simp [rsA]) (by simp)).trans q2, rest⟩
    rw [B_X13_sealRsa_61, n_sub (by omega), n_subL 1 (by omega), if_neg (fun q => by have := (n_le (by omega) (by omega)).mp q; omega), h.gR 82 rfl (by decide), bO_s, sb_k.1, v, bO_s, n_i1]
    exact g
theorem QM_sealRsa {k at_ : Nat} {seed ck : List UInt8} {β125 βr : Nat → UInt8} (X : Cx G F W) (h : isM W) (hmm : isMm W) (mk : MK S) (dg : mDig (S 13 0)) (E : mEv (S 13 0)) (KK : KM (S 13 0) A) (hk : k < 16) (e : A k = some K) (kd : K.1 = 1) (h66 : ck.length + 66 ≤ K.2.1.1.length) (b125 : mB (S 13 0) 125 β125) (r125 : rdB β125 0 ck.length = ck) (w1 : mB (S 13 0) 2 βr) (rs : at_ + 32 ≤ 65536) (es : rdB βr at_ 32 = seed) : ∃ S', P_X13_sealRsa G F (W.ad (.o 13 0)) (Int32.ofNat k) (Int32.ofNat ck.length) (W.ad (.a 13 0 2)) (Int32.ofNat at_) (mem W S) = some (mem W S') ∧ fr [(12, 0), (13, 0)] S S' ∧ agr [37, 127] [] rsA [33, 34] (S 13 0) (S' 13 0) ∧ MK S' ∧ mDig (S' 13 0) ∧ mEv (S' 13 0) ∧ (S' 13 0).f 127 = (Int32.ofNat K.2.1.1.length) ∧ ∃ β, mB (S' 13 0) 126 β ∧ rdB β 0 K.2.1.1.length = powF (oaF seed ck K.2.1.1.length) K.2.1.2.1 K.2.1.1 := by
  have hF := X.hF
  obtain ⟨α85, α87, α89, b85, b87, b89, ⟨k1, k2, k3, k4⟩, ⟨l1, r1⟩, ⟨l2, r2⟩, ⟨l3, r3⟩, V⟩ := KK.at_ hk e
  have ea : Ma K = K.2.1.1 := by unfold Ma; rw [if_neg (by omega)]
  have ee : Me K = K.2.1.2.1 := by unfold Me; rw [if_neg (by omega)]
  rw [ea] at k2 l1 r1
  rw [ee] at k3 l2 r2
  have su := (V.rsa kd).1
  have sl : seed.length = 32 := by rw [← es, rdB_len]
  obtain ⟨⟨γ, hγ⟩, ⟨μ, hμ⟩, ⟨π, hπ⟩, ν, hν⟩ := id dg
  obtain ⟨g1, m1⟩ := QM_empty (G := G) (F := F) (S := S) h hμ
  obtain ⟨o2, g2, b35, m2, a2⟩ := QM_digestOf (G := G) (F := F) (S := S.so 13 0 ((S 13 0).sf 37 0)) (wide := false) (msg := []) (γ := γ) X h (by rw [so_eq]; exact m1) (by rw [so_eq]; exact hγ) (by decide)
  rw [so_so] at g2
  rw [so_eq] at a2
  have g2 : P_X13_digestOf G F (W.ad (.o 13 0)) 256 (mem W (S.so 13 0 ((S 13 0).sf 37 0))) = some (32, mem W (S.so 13 0 o2)) := g2
  have a2 : agr [37] [] [36, 31, 32, 35] [33, 34] (S 13 0) o2 := (agr_sf (by simp) : agr [37] [] [36, 31, 32, 35] [33, 34] (S 13 0) ((S 13 0).sf 37 0)).trans a2
  have sh : (sha false []).length = 32 := sha_len _ _
  have d2 : mDig o2 := by
    obtain ⟨_, _, μ', hμ', _⟩ := m2
    exact ⟨⟨_, b35⟩, ⟨_, hμ'⟩, ⟨π, a2.mB hπ (by decide)⟩, ν, a2.mB hν (by decide)⟩
  have M2 : MO S o2 := ⟨(MO.of mk dg E).1.agL a2 (by decide), d2, E.keep a2 (fun n hn z => by
    simp only [List.mem_cons, List.not_mem_nil, or_false] at hn
    rcases hn with rfl | rfl | rfl | rfl
    · exact d2.2.1
    · exact absurd z (by decide)
    · exact absurd z (by decide)
    · exact d2.1)⟩
  obtain ⟨β82, b82⟩ := M2.2.2 82 rfl
  have v3 := h.sB' (S := S) (o := o2) (k := 82) (j := 0) (y := 0) rfl b82 (by decide) (by decide)
  have v3 : sI (mem W (S.so 13 0 o2)) 1 (W.ad (.a 13 0 82)) 0 (sb 0) = _ := v3
  obtain ⟨o3, ho3⟩ : ∃ o3, o3 = o2.sA 82 (fun j => sb (va_up β82 0 0 j)) := ⟨_, rfl⟩
  rw [← ho3] at v3
  have a3 : agr [] [] [82] [] o2 o3 := by rw [ho3]; exact agr_sA (by simp)
  have c3 : mB o3 82 (va_up β82 0 0) := by rw [ho3]; exact mB_sA _ _ _
  have v4 := oM_move (G := G) (F := F) (S := S) (o := o3) (k1 := 2) (k2 := 82) (p1 := at_) (p2 := 1) (cnt := 32) X h rfl rfl (by decide) (by decide) (by decide) rs (by decide) (by omega) (a3.mB (a2.mB w1 (by decide)) (by decide)) c3
  rw [es] at v4
  have v4 : P_X13_move G F (W.ad (.a 13 0 2)) (Int32.ofNat at_) (W.ad (.a 13 0 82)) 1 32 (mem W (S.so 13 0 o3)) = _ := v4
  obtain ⟨o4, ho4⟩ : ∃ o4, o4 = o3.sA 82 (fun j => sb (wrB (va_up β82 0 0) 1 seed j)) := ⟨_, rfl⟩
  rw [← ho4] at v4
  have a4 : agr [] [] [82] [] o3 o4 := by rw [ho4]; exact agr_sA (by simp)
  have c4 : mB o4 82 (wrB (va_up β82 0 0) 1 seed) := by rw [ho4]; exact mB_sA _ _ _
  have v5 := oM_move (G := G) (F := F) (S := S) (o := o4) (k1 := 35) (k2 := 82) (p1 := 0) (p2 := 33) (cnt := 32) X h rfl rfl (by decide) (by decide) (by decide) (by decide) (by decide) (by omega) (a4.mB (a3.mB b35 (by decide)) (by decide)) c4
  have q35 := rdB_wrB γ 0 (sha false [])
  rw [sh] at q35
  rw [q35] at v5
  have v5 : P_X13_move G F (W.ad (.a 13 0 35)) 0 (W.ad (.a 13 0 82)) 33 32 (mem W (S.so 13 0 o4)) = _ := v5
  obtain ⟨o5, ho5⟩ : ∃ o5, o5 = o4.sA 82 (fun j => sb (wrB (wrB (va_up β82 0 0) 1 seed) 33 (sha false []) j)) := ⟨_, rfl⟩
  rw [← ho5] at v5
  have a5 : agr [] [] [82] [] o4 o5 := by rw [ho5]; exact agr_sA (by simp)
  have c5 : mB o5 82 (wrB (wrB (va_up β82 0 0) 1 seed) 33 (sha false [])) := by rw [ho5]; exact mB_sA _ _ _
  have a25 : agr [] [] [82] [] o2 o5 := (a3.trans a4).trans a5
  have M5 : MO S o5 := M2.ag a25 (by decide) (by decide) (fun q hq _ => by
    rw [List.mem_singleton] at hq
    rw [hq]
    exact ⟨_, c5⟩)
  have a05 : agr [37] [] [36, 31, 32, 35, 82] [33, 34] (S 13 0) o5 := (a2.mono (by simp) (by simp) (by simp) (by simp)).trans (a25.mono (by simp) (by simp) (by simp) (by simp))
  have r65 : rdB (wrB (wrB (va_up β82 0 0) 1 seed) 33 (sha false [])) 0 65 = oaX seed 65 := by
    have q1 := rdB_app (wrB (va_up β82 0 0) 1 seed) 0 (sha false []) 33
    have q2 := rdB_app (va_up β82 0 0) 0 seed 1
    have q3 := rd_va (β := β82) (i := 0) (y := 0)
    rw [sl] at q2
    rw [sh] at q1
    have q1 : rdB (wrB (wrB (va_up β82 0 0) 1 seed) 33 (sha false [])) 0 65 = rdB (wrB (va_up β82 0 0) 1 seed) 0 33 ++ sha false [] := q1
    have q2 : rdB (wrB (va_up β82 0 0) 1 seed) 0 33 = rdB (va_up β82 0 0) 0 1 ++ seed := q2
    have q3 : rdB (va_up β82 0 0) 0 1 = [0] := q3
    rw [q1, q2, q3]
    unfold oaX
    simp only [List.cons_append, List.nil_append, Nat.sub_self, List.replicate_zero, List.append_nil]
  have k3' : o5.a 88 k = (Int32.ofNat K.2.1.2.1.length) := by rw [a05.2.2.1 88 (by decide), k3]
  obtain ⟨S', g, f, a, rest⟩ := QM_sealRsaLoop (G := G) (F := F) (S := S) (K := K) (seed := seed) (ck := ck) X h hmm hk l1 r1 l2 r2 su h66 r125 sl (K.2.1.1.length - ck.length - 1 - 65) 65 F o5 _ (by omega) (by omega) (by omega) M5 (a05.mB b85 (by decide)) (a05.mB b87 (by decide)) k3' (a05.mB b125 (by decide)) c5 r65
  have g : B_X13_sealRsa_61 G F F (W.ad (.o 13 0)) (Int32.ofNat k) (Int32.ofNat ck.length) (Int32.ofNat K.2.1.1.length) 65 (mem W (S.so 13 0 o5)) = _ := g
  have rd86 : aI G (mem W S) 0 (W.ad (.a 13 0 86)) (Int32.ofNat k) = some (Int32.ofNat K.2.1.1.length) := by rw [h.aN rfl (show k < mLen 86 from hk) (by decide), k2]
  refine ⟨S', ?_, f, (a05.mono (by simp) (by simp) (by simp [rsA]) (by simp)).trans a, rest⟩
  unfold P_X13_sealRsa
  rw [h.gR 86 rfl (by decide), bO_s, rd86, bO_s, rcv_m h.lo, bO_s, g1, bO_s, rcv_m h.lo, bO_s, g2, bP_s, h.gR 82 rfl (by decide), bO_s, sb_k.1, v3, bO_s, h.gR 82 rfl (by decide), bO_s, v4, bO_s, h.gR 35 rfl (by decide), bO_s, h.gR 82 rfl (by decide), bO_s, v5, bO_s]
  exact g
end MRS
