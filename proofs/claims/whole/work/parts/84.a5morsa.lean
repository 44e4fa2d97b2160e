/-! SEALED KEYS OPENED WITH NUMBERS: the model -/
def vO (r : Option (List UInt8)) : Int32 := match r with
  | none => -1
  | some m => (Int32.ofNat m.length)
abbrev orA : List Nat := [31, 32, 35, 36, 60, 61, 62, 82, 125]
section MOR
variable {W : WR} {G : mG} {F : Nat} {S : ST} {A : Nat → Option KY} {K : KY}
theorem rd_gd {β : Nat → UInt8} {L i : Nat} {f : List UInt8} (h : rdB β 0 L = f) (hi : i < L) : f.getD i 0 = β i := by
  rw [List.getD_eq_getElem?_getD, ← h, rdB_at hi, Nat.zero_add]
  rfl
theorem oM_oa194 {o : Ob} {L i : Nat} {β : Nat → UInt8} {f : List UInt8} (g : Bool) (X : Cx G F W) (h : isM W) (M : MO S o) (b82 : mB o 82 β) (hf : rdB β 0 L = f) (hL : L ≤ 128) (hi : 65 ≤ i) (hi2 : i ≤ L) (r : Option (List UInt8)) (hr : r = if g = true then (if f.getD i 0 = 1 then some (f.drop (i + 1)) else none) else none) : ∃ o', B_X13_openRsa_194 G F (W.ad (.o 13 0)) (Int32.ofNat L) (if g = true then 1 else 0) (Int32.ofNat i) (mem W (S.so 13 0 o)) = some (vO r, mem W (S.so 13 0 o')) ∧ MO S o' ∧ agr [] [] [125] [] o o' ∧ ∀ mm, r = some mm → ∃ β, mB o' 125 β ∧ rdB β 0 mm.length = mm := by
  have fl : f.length = L := by rw [← hf, rdB_len]
  have bad : ∀ q : r = none, ∃ o', B_X13_openRsa_232 G F (W.ad (.o 13 0)) (Int32.ofNat L) (Int32.ofNat i) 0 (mem W (S.so 13 0 o)) = some (vO r, mem W (S.so 13 0 o')) ∧ MO S o' ∧ agr [] [] [125] [] o o' ∧ ∀ mm, r = some mm → ∃ β, mB o' 125 β ∧ rdB β 0 mm.length = mm := fun q => by
    rw [q]
    exact ⟨o, rfl, M, agr.refl _ _ _ _ _, fun mm z => absurd z (by simp)⟩
  unfold B_X13_openRsa_194
  cases g with
  | false =>
    rw [if_pos (show (if false = true then (1 : Int32) else 0) = 0 from rfl)]
    exact bad hr
  | true =>
    have hr : r = if f.getD i 0 = 1 then some (f.drop (i + 1)) else none := hr
    rw [if_neg (show ¬ (if true = true then (1 : Int32) else 0) = 0 by decide)]
    by_cases c : L ≤ i
    · rw [if_pos ((n_le (by omega) (by omega)).mpr c)]
      refine bad ?_
      rw [hr, if_neg ?_]
      rw [List.getD_eq_getElem?_getD, List.getElem?_eq_none (by omega)]
      decide
    · have ei := rd_gd hf (show i < L by omega)
      rw [if_neg (fun q => c ((n_le (by omega) (by omega)).mp q)), h.gR 82 rfl (by decide), bO_s, h.aB' rfl b82 (by show _ < 128; omega) (by decide), bO_s]
      have iff : (sb (β i) = (1 : Int32)) = (f.getD i 0 = 1) := by
        rw [ei]
        exact propext (sb_asc (y := 1) (by decide))
      simp only [iff]
      by_cases c1 : f.getD i 0 = 1
      · rw [if_pos c1] at hr
        have nl : (Int32.ofNat L) - (Int32.ofNat i) - (1 : Int32) = (Int32.ofNat (L - i - 1)) := by rw [n_sub (by omega), n_subL 1 (by omega)]
        rw [if_pos c1, nl, if_neg (fun q => by have := (n_lt (a := 64) (by omega) (by omega)).mp q; omega)]
        obtain ⟨β125, b125⟩ := M.2.2 125 rfl
        have v := oM_move (G := G) (F := F) (S := S) (o := o) (k1 := 82) (k2 := 125) (p1 := i + 1) (p2 := 0) (cnt := L - i - 1) X h rfl rfl (by decide) (by decide) (by decide) (by show _ ≤ 128; omega) (by show _ ≤ 64; omega) (by omega) b82 b125
        have ed : rdB β (i + 1) (L - i - 1) = f.drop (i + 1) := by
          rw [← hf, rdB_drop (by omega), Nat.zero_add, show L - (i + 1) = L - i - 1 by omega]
        rw [ed] at v
        have dl : (f.drop (i + 1)).length = L - i - 1 := by rw [List.length_drop]; omega
        have v : P_X13_move G F (W.ad (.a 13 0 82)) (Int32.ofNat (i + 1)) (W.ad (.a 13 0 125)) 0 (Int32.ofNat (L - i - 1)) (mem W (S.so 13 0 o)) = _ := v
        unfold B_X13_openRsa_232
        rw [if_neg (by decide), h.gR 82 rfl (by decide), bO_s, h.gR 125 rfl (by decide), bO_s, nl, n_i1, v, bO_s, if_neg (by decide), hr]
        refine ⟨_, by show some ((Int32.ofNat (L - i - 1)), _) = some ((Int32.ofNat (f.drop (i + 1)).length), _); rw [dl], M.ag (agr_sA (as := [125]) (fs := []) (gs := []) (ls := []) (by simp)) (by decide) (by decide) (fun q hq _ => ?_), agr_sA (by simp), fun mm z => ?_⟩
        · rw [List.mem_singleton] at hq
          rw [hq]
          exact ⟨_, mB_sA _ _ _⟩
        · rw [← Option.some.inj z]
          exact ⟨_, mB_sA _ _ _, rdB_wrB _ _ _⟩
      · rw [if_neg c1] at hr
        rw [if_neg c1]
        exact bad hr
theorem oM_oa172 {o : Ob} {L : Nat} {β : Nat → UInt8} {f : List UInt8} (g : Bool) (X : Cx G F W) (h : isM W) (M : MO S o) (b82 : mB o 82 β) (hf : rdB β 0 L = f) (hL : L ≤ 128) : ∀ (m i fuel : Nat), m < fuel → i + m = L → 65 ≤ i → ∀ r : Option (List UInt8), (r = if g = true then oaN f m i else none) → ∃ o', B_X13_openRsa_172 G F fuel (W.ad (.o 13 0)) (Int32.ofNat L) (if g = true then 1 else 0) (Int32.ofNat i) (mem W (S.so 13 0 o)) = some (vO r, mem W (S.so 13 0 o')) ∧ MO S o' ∧ agr [] [] [125] [] o o' ∧ ∀ mm, r = some mm → ∃ β, mB o' 125 β ∧ rdB β 0 mm.length = mm := by
  intro m
  induction m with
  | zero =>
    intro i fuel hfu hi h65 r hr
    obtain ⟨fuel, rfl⟩ : ∃ q, fuel = q + 1 := ⟨fuel - 1, by omega⟩
    rw [B_X13_openRsa_172, if_pos ((n_le (by omega) (by omega)).mpr (by omega))]
    exact oM_oa194 g X h M b82 hf hL h65 (by omega) r hr
  | succ m ih =>
    intro i fuel hfu hi h65 r hr
    obtain ⟨fuel, rfl⟩ : ∃ q, fuel = q + 1 := ⟨fuel - 1, by omega⟩
    have ei := rd_gd hf (show i < L by omega)
    rw [B_X13_openRsa_172, if_neg (fun q => by have := (n_le (by omega) (by omega)).mp q; omega), h.gR 82 rfl (by decide), bO_s, h.aB' rfl b82 (by show _ < 128; omega) (by decide), bO_s]
    have iff : (sb (β i) = (0 : Int32)) = (f.getD i 0 = 0) := by
      rw [ei]
      exact propext (sb_asc (y := 0) (by decide))
    simp only [iff]
    have hr : r = if g = true then (if f.getD i 0 = 0 then oaN f m (i + 1) else if f.getD i 0 = 1 then some (f.drop (i + 1)) else none) else none := hr
    by_cases c : f.getD i 0 = 0
    · rw [if_pos c] at hr
      rw [if_pos c, n_i1]
      exact ih (i + 1) fuel (by omega) (by omega) (by omega) r hr
    · rw [if_neg c] at hr
      rw [if_neg c]
      exact oM_oa194 g X h M b82 hf hL h65 (by omega) r hr
theorem QM_openRsa {k : Nat} {sk : List UInt8} {β126 : Nat → UInt8} (X : Cx G F W) (h : isM W) (hmm : isMm W) (mk : MK S) (dg : mDig (S 13 0)) (E : mEv (S 13 0)) (KK : KM (S 13 0) A) (hk : k < 16) (e : A k = some K) (kd : K.1 = 1) (h66 : 66 ≤ K.2.1.1.length) (b126 : mB (S 13 0) 126 β126) (r126 : rdB β126 0 sk.length = sk) (skl : sk.length ≤ 8192) (f127 : (S 13 0).f 127 = (Int32.ofNat sk.length)) : ∃ S', P_X13_openRsa G F (W.ad (.o 13 0)) (Int32.ofNat k) (mem W S) = some (vO (oaO K.2.1.1 sk (K.2.1.2.2.getD [])), mem W S') ∧ fr [(12, 0), (13, 0)] S S' ∧ agr [37] [] orA [33, 34] (S 13 0) (S' 13 0) ∧ MK S' ∧ mDig (S' 13 0) ∧ mEv (S' 13 0) ∧ ∀ mm, oaO K.2.1.1 sk (K.2.1.2.2.getD []) = some mm → ∃ β, mB (S' 13 0) 125 β ∧ rdB β 0 mm.length = mm := by
  have hF := X.hF
  obtain ⟨α85, α87, α89, b85, b87, b89, ⟨k1, k2, k3, k4⟩, ⟨l1, r1⟩, ⟨l2, r2⟩, ⟨l3, r3⟩, V⟩ := KK.at_ hk e
  have ea : Ma K = K.2.1.1 := by unfold Ma; rw [if_neg (by omega)]
  rw [ea] at k2 l1 r1
  have ed : Md K = K.2.1.2.2.getD [] := rfl
  rw [ed] at k4 l3 r3
  obtain ⟨d, hd⟩ : ∃ d, d = K.2.1.2.2.getD [] := ⟨_, rfl⟩
  rw [← hd] at k4 l3 r3 ⊢
  have su := (V.rsa kd).1
  obtain ⟨n, hn⟩ : ∃ n, n = K.2.1.1 := ⟨_, rfl⟩
  rw [← hn] at k2 l1 r1 su h66 ⊢
  have rd86 : aI G (mem W S) 0 (W.ad (.a 13 0 86)) (Int32.ofNat k) = some (Int32.ofNat n.length) := by rw [h.aN rfl (show k < mLen 86 from hk) (by decide), k2]
  have rd90 : aI G (mem W S) 0 (W.ad (.a 13 0 90)) (Int32.ofNat k) = some (Int32.ofNat d.length) := by rw [h.aN rfl (show k < mLen 90 from hk) (by decide), k4]
  have x127 : gfI (mem W S) (W.ad (.o 13 0)) 13 127 = some (Int32.ofNat sk.length) := by rw [gfI_m h.lo rfl, f127]
  have no : oaO n sk d = none → ∃ S', some ((-1 : Int32), mem W S) = some (vO (oaO n sk d), mem W S') ∧ fr [(12, 0), (13, 0)] S S' ∧ agr [37] [] orA [33, 34] (S 13 0) (S' 13 0) ∧ MK S' ∧ mDig (S' 13 0) ∧ mEv (S' 13 0) ∧ ∀ mm, oaO n sk d = some mm → ∃ β, mB (S' 13 0) 125 β ∧ rdB β 0 mm.length = mm := fun q => by
    rw [q]
    exact ⟨S, rfl, fr.refl _ _, agr.refl _ _ _ _ _, mk, dg, E, fun mm z => absurd z (by simp)⟩
  unfold P_X13_openRsa
  rw [h.gR 86 rfl (by decide), bO_s, rd86, bO_s, x127, bO_s]
  have xe : ((Int32.ofNat sk.length) = (Int32.ofNat n.length)) = (sk.length = n.length) := propext (n_eq (by omega) (by omega))
  simp only [xe]
  by_cases c0 : sk.length = n.length
  · have ib := QM_isBelow (G := G) (F := F) (S := S) (kb := 126) (p := 0) (k := k) (n := n.length) X h rfl (by decide) (by show _ ≤ 8200; omega) b126 b85 hk l1 k2
    rw [← c0, r126, c0, r1] at ib
    have ib : P_X13_isBelow G F (W.ad (.o 13 0)) (W.ad (.a 13 0 126)) 0 (Int32.ofNat k) (mem W S) = _ := ib
    rw [if_pos c0, h.gR 126 rfl (by decide), bO_s, rcv_m h.lo, bO_s, ib, bP_s]
    by_cases c1 : numF sk n = true
    · obtain ⟨β62, h62⟩ := E 62 rfl
      obtain ⟨S1, g1, f1, a1, b1⟩ := QM_raise (G := G) (F := F) (S := S) (kb := 126) (pb := 0) (sb_ := n.length) (ke := 89) (pe := 128 * k) (se := d.length) (km := 85) (pm := 128 * k) (sm := n.length) X h hmm rfl rfl rfl (by decide) (by decide) (by decide) (by decide) (by decide) (by decide) (by show _ ≤ 8200; omega) (by show _ ≤ 2048; omega) (by show _ ≤ 2048; omega) (by omega) (by omega) b126 b89 b85 h62 (by rw [r1]; exact su)
      rw [← c0, r126, c0, r3, r1] at b1
      have g1 : P_X13_raise G F (W.ad (.o 13 0)) (W.ad (.a 13 0 126)) 0 (Int32.ofNat n.length) (W.ad (.a 13 0 89)) (Int32.ofNat (128 * k)) (Int32.ofNat d.length) (W.ad (.a 13 0 85)) (Int32.ofNat (128 * k)) (Int32.ofNat n.length) (mem W S) = _ := g1
      have yl := powF_len sk d n
      obtain ⟨y, hy⟩ : ∃ y, y = powF sk d n := ⟨_, rfl⟩
      rw [← hy] at b1 yl
      have mk1 : MK S1 := mk.rs3 f1 a1
      have d1 : mDig (S1 13 0) := a1.mDig dg (by decide)
      have E1 : mEv (S1 13 0) := E.keep a1 (fun q hq z => by
        simp only [List.mem_cons, List.not_mem_nil, or_false] at hq
        rcases hq with rfl | rfl | rfl
        · exact absurd z (by decide)
        · exact absurd z (by decide)
        · exact ⟨_, b1⟩)
      obtain ⟨β82, b82⟩ := E1 82 rfl
      have v2 := oM_move (G := G) (F := F) (S := S1) (o := S1 13 0) (k1 := 62) (k2 := 82) (p1 := 0) (p2 := 0) (cnt := n.length) X h rfl rfl (by decide) (by decide) (by decide) (by show _ ≤ 128; omega) (by show _ ≤ 128; omega) (by omega) b1 b82
      have q62 := rdB_wrB β62 0 y
      rw [yl] at q62
      rw [so_self, q62] at v2
      have v2 : P_X13_move G F (W.ad (.a 13 0 62)) 0 (W.ad (.a 13 0 82)) 0 (Int32.ofNat n.length) (mem W S1) = _ := v2
      obtain ⟨β2, hβ2⟩ : ∃ β2, β2 = wrB β82 0 y := ⟨_, rfl⟩
      rw [← hβ2] at v2
      obtain ⟨o2, ho2⟩ : ∃ o2, o2 = (S1 13 0).sA 82 (fun j => sb (β2 j)) := ⟨_, rfl⟩
      rw [← ho2] at v2
      have a2 : agr [] [] [82] [] (S1 13 0) o2 := by rw [ho2]; exact agr_sA (by simp)
      have c2 : mB o2 82 β2 := by rw [ho2]; exact mB_sA _ _ _
      have e2 : rdB β2 0 n.length = y := by
        rw [hβ2]
        have q := rdB_wrB β82 0 y
        rw [yl] at q
        exact q
      have M2 : MO S1 o2 := (MO.of mk1 d1 E1).ag a2 (by decide) (by decide) (fun q hq _ => by
        rw [List.mem_singleton] at hq
        rw [hq]
        exact ⟨_, c2⟩)
      obtain ⟨o3, m1, m2, m3, m4⟩ := QM_maskOn (G := G) (F := F) (S := S1.so 13 0 o2) (a := 1) (many := 32) (sd := 33) (sn := n.length - 33) X h (by omega) (by omega) (by omega) (by rw [so_eq]; exact c2) (by rw [so_eq]; exact M2.2.1)
      rw [so_so] at m1
      rw [so_eq] at m4
      have M3 : MO S1 o3 := M2.m82 m4 m3 ⟨_, m2⟩
      obtain ⟨β3, hβ3⟩ : ∃ β3, β3 = mskB β2 (rdB β2 33 (n.length - 33)) 1 32 := ⟨_, rfl⟩
      have e3 : rdB β3 0 n.length = mskL y (seg y 33 (y.length - 33)) 1 32 := by
        rw [hβ3, msk_LB, e2, yl]
        rw [← e2, seg_rd (by omega), Nat.zero_add]
      rw [← hβ3] at m2
      obtain ⟨o4, p1, p2, p3, p4⟩ := QM_maskOn (G := G) (F := F) (S := S1.so 13 0 o3) (a := 33) (many := n.length - 33) (sd := 1) (sn := 32) X h (by omega) (by omega) (by omega) (by rw [so_eq]; exact m2) (by rw [so_eq]; exact M3.2.1)
      rw [so_so] at p1
      rw [so_eq] at p4
      have M4 : MO S1 o4 := M3.m82 p4 p3 ⟨_, p2⟩
      obtain ⟨β4, hβ4⟩ : ∃ β4, β4 = mskB β3 (rdB β3 1 32) 33 (n.length - 33) := ⟨_, rfl⟩
      have e4 : rdB β4 0 n.length = oaU y := by
        rw [hβ4, msk_LB, e3]
        unfold oaU
        rw [← e3, seg_rd (by omega), yl]
      rw [← hβ4] at p2
      obtain ⟨⟨γ, hγ⟩, ⟨μ, hμ⟩, ⟨π, hπ⟩, ν, hν⟩ := id M4.2.1
      obtain ⟨g5, n5⟩ := QM_empty (G := G) (F := F) (S := S1.so 13 0 o4) h (by rw [so_eq]; exact hμ)
      rw [so_eq] at g5 n5
      rw [so_so] at g5
      obtain ⟨o6, g6, b35, n6, a6⟩ := QM_digestOf (G := G) (F := F) (S := S1.so 13 0 (o4.sf 37 0)) (wide := false) (msg := []) (γ := γ) X h (by rw [so_eq]; exact n5) (by rw [so_eq]; exact hγ) (by decide)
      rw [so_so] at g6
      rw [so_eq] at a6
      have g6 : P_X13_digestOf G F (W.ad (.o 13 0)) 256 (mem W (S1.so 13 0 (o4.sf 37 0))) = some (32, mem W (S1.so 13 0 o6)) := g6
      have a46 : agr [37] [] [36, 31, 32, 35] [33, 34] o4 o6 := (agr_sf (by simp) : agr [37] [] [36, 31, 32, 35] [33, 34] o4 (o4.sf 37 0)).trans a6
      have sh : (sha false []).length = 32 := sha_len _ _
      have d6 : mDig o6 := by
        obtain ⟨_, _, μ', hμ', _⟩ := n6
        exact ⟨⟨_, b35⟩, ⟨_, hμ'⟩, ⟨π, a46.mB hπ (by decide)⟩, ν, a46.mB hν (by decide)⟩
      have c6 : mB o6 82 β4 := a46.mB p2 (by decide)
      have M6 : MO S1 o6 := M4.m82 (a46.mono (by simp) (by simp) (by simp) (by simp)) d6 ⟨_, c6⟩
      have a16 : agr [37] [] [36, 31, 32, 35, 82] [33, 34] (S1 13 0) o6 := (((a2.mono (by simp) (by simp) (by simp) (by simp)).trans m4).trans p4).trans (a46.mono (by simp) (by simp) (by simp) (by simp))
      have q35 := rdB_wrB γ 0 (sha false [])
      rw [sh] at q35
      have sm := oM_same (G := G) (F := F) (S := S1) (o := o6) (k1 := 35) (k2 := 82) (p1 := 0) (p2 := 33) (cnt := 32) X h rfl rfl (by decide) (by decide) (by decide) (by decide) (by omega) b35 c6
      have s33 : rdB β4 33 32 = seg (oaU y) 33 32 := by rw [← e4, seg_rd (by omega), Nat.zero_add]
      rw [q35, s33] at sm
      have sm : P_X13_same G F (W.ad (.a 13 0 35)) 0 (W.ad (.a 13 0 82)) 33 32 (mem W (S1.so 13 0 o6)) = _ := sm
      have rd0 : aI G (mem W (S1.so 13 0 o6)) 1 (W.ad (.a 13 0 82)) 0 = some (sb (β4 0)) := h.aB' (j := 0) rfl c6 (by decide) (by decide)
      have e0 := rd_gd e4 (show 0 < n.length by omega)
      have iff0 : (sb (β4 0) = (0 : Int32)) = ((oaU y).getD 0 0 = 0) := by
        rw [e0]
        exact propext (sb_asc (y := 0) (by decide))
      have fin : ∀ (g : Bool), oaO n sk d = (if g = true then oaN (oaU y) (n.length - 65) 65 else none) → ∃ S', B_X13_openRsa_172 G F F (W.ad (.o 13 0)) (Int32.ofNat n.length) (if g = true then 1 else 0) 65 (mem W (S1.so 13 0 o6)) = some (vO (oaO n sk d), mem W S') ∧ fr [(12, 0), (13, 0)] S S' ∧ agr [37] [] orA [33, 34] (S 13 0) (S' 13 0) ∧ MK S' ∧ mDig (S' 13 0) ∧ mEv (S' 13 0) ∧ ∀ mm, oaO n sk d = some mm → ∃ β, mB (S' 13 0) 125 β ∧ rdB β 0 mm.length = mm := by
        intro g hg
        obtain ⟨o7, g7, M7, a7, q7⟩ := oM_oa172 (G := G) (F := F) (S := S1) (o := o6) (L := n.length) g X h M6 c6 e4 l1 (n.length - 65) 65 F (by omega) (by omega) (by omega) (oaO n sk d) hg
        have g7 : B_X13_openRsa_172 G F F (W.ad (.o 13 0)) (Int32.ofNat n.length) (if g = true then 1 else 0) 65 (mem W (S1.so 13 0 o6)) = _ := g7
        refine ⟨S1.so 13 0 o7, g7, f1.trans (fr_so (by simp)), ?_, M7.1, by rw [so_eq]; exact M7.2.1, by rw [so_eq]; exact M7.2.2, fun mm z => ?_⟩
        · rw [so_eq]
          exact ((a1.mono (by simp) (by simp) (by simp [orA]) (by simp)).trans (a16.mono (by simp) (by simp) (by simp [orA]) (by simp))).trans (a7.mono (by simp) (by simp) (by simp [orA]) (by simp))
        · rw [so_eq]
          exact q7 mm z
      have m1 : P_X13_maskOn G F (W.ad (.o 13 0)) (W.ad (.a 13 0 82)) 33 (Int32.ofNat (n.length - 33)) (W.ad (.a 13 0 82)) 1 32 (mem W (S1.so 13 0 o2)) = _ := m1
      have p1 : P_X13_maskOn G F (W.ad (.o 13 0)) (W.ad (.a 13 0 82)) 1 32 (W.ad (.a 13 0 82)) 33 (Int32.ofNat (n.length - 33)) (mem W (S1.so 13 0 o3)) = _ := p1
      rw [if_pos c1, if_neg (by decide), h.gR 126 rfl (by decide), bO_s, h.gR 89 rfl (by decide), bO_s, h.gR 90 rfl (by decide), bO_s, rd90, bO_s, h.gR 85 rfl (by decide), bO_s, rcv_m h.lo, bO_s, show (128 : Int32) * (Int32.ofNat k) = (Int32.ofNat (128 * k)) from n_mul 128 k, g1, bO_s, h.gR 62 rfl (by decide), bO_s, h.gR 82 rfl (by decide), bO_s, v2, bO_s, h.gR 82 rfl (by decide), bO_s, bO_s, rcv_m h.lo, bO_s, n_subL 33 (by omega), m1, bO_s, h.gR 82 rfl (by decide), bO_s, bO_s, rcv_m h.lo, bO_s, p1, bO_s, rcv_m h.lo, bO_s, g5, bO_s, rcv_m h.lo, bO_s, g6, bP_s, h.gR 82 rfl (by decide), bO_s, rd0, bO_s]
      simp only [iff0]
      by_cases c3 : (oaU y).getD 0 0 = 0
      · rw [if_pos c3, h.gR 35 rfl (by decide), bO_s, bO_s, sm, bP_s]
        by_cases c4 : sha false [] = seg (oaU y) 33 32
        · rw [if_pos c4, if_neg (by decide)]
          refine fin true ?_
          unfold oaO
          rw [← hy, if_pos ⟨c1, c3, c4.symm⟩]
          rfl
        · rw [if_neg c4, if_pos rfl]
          refine fin false ?_
          unfold oaO
          rw [← hy, if_neg (fun q => c4 q.2.2.symm)]
          rfl
      · rw [if_neg c3]
        refine fin false ?_
        unfold oaO
        rw [← hy, if_neg (fun q => c3 q.2.1)]
        rfl
    · rw [if_neg c1, if_pos rfl]
      exact no (if_neg (c := numF sk n = true ∧ (oaU (powF sk d n)).getD 0 0 = 0 ∧ seg (oaU (powF sk d n)) 33 32 = sha false []) (fun q => c1 q.1))
  · rw [if_neg c0]
    refine no (if_neg (c := numF sk n = true ∧ (oaU (powF sk d n)).getD 0 0 = 0 ∧ seg (oaU (powF sk d n)) 33 32 = sha false []) (fun q => c0 ?_))
    exact (of_decide_eq_true q.1).1
end MOR
