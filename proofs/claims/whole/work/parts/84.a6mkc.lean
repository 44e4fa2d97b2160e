/-! THE CONTENT'S KEY OF A SEALED TOKEN: the model -/
/-- the content's key, if it has the length that it must -/
def kcW (a w : Nat) (K : KY) (sk pt u v : List UInt8) : Option (List UInt8) := match kcF a w K sk pt u v with
  | none => none
  | some ck => if ck.length = wayK w then some ck else none
abbrev kcA : List Nat := [31, 32, 35, 36, 43, 45, 46, 47, 48, 60, 61, 62, 67, 68, 69, 70, 71, 72, 74, 75, 76, 77, 78, 80, 82, 125, 130, 131]
theorem unw_len {key u ck : List UInt8} (h : unwrapF key u = some ck) : ck.length = u.length - 8 := by
  unfold unwrapF at h
  split at h
  · rw [← Option.some.inj h, mapN_len]
  · exact absurd h (by simp)
section MKC
variable {W : WR} {G : mG} {F : Nat} {S : ST} {A : Nat → Option KY} {K : KY}
theorem QM_kc57 {k a w : Nat} {sk pt u v : List UInt8} {β126 : Nat → UInt8} (X : Cx G F W) (h : isM W) (mk : MK S) (dg : mDig (S 13 0)) (E : mEv (S 13 0)) (bx : oBX (S 13 0)) (KK : KM (S 13 0) A) (hk : k < 16) (e : A k = some K) (ha : a < 6) (ha3 : a ≠ 3) (hw : w < 4) (hm : maySl K a w true = true) (b126 : mB (S 13 0) 126 β126) (r126 : rdB β126 0 sk.length = sk) (skl : sk.length ≤ 8192) (f127 : (S 13 0).f 127 = (Int32.ofNat sk.length)) (hdk : 4 ≤ a → ∃ δ, mB (S 13 0) 80 δ ∧ rdB δ 0 (dkM a w) = dkF a w (K.2.1.2.2.getD []) pt u v) : ∃ o', B_X13_keyComes_57 G F (W.ad (.o 13 0)) (Int32.ofNat k) (Int32.ofNat a) (Int32.ofNat (wayK w)) (mem W S) = some (if (kcW a w K sk pt u v).isSome = true then 1 else 0, mem W (S.so 13 0 o')) ∧ MO S o' ∧ agr [44] [] [43, 45, 46, 47, 48, 125] [] (S 13 0) o' ∧ ∀ ck, kcW a w K sk pt u v = some ck → ∃ β, mB o' 125 β ∧ rdB β 0 ck.length = ck := by
  obtain ⟨α85, α87, α89, b85, b87, b89, ⟨k1, k2, k3, k4⟩, ⟨l1, r1⟩, ⟨l2, r2⟩, ⟨l3, r3⟩, V_⟩ := KK.at_ hk e
  obtain ⟨kd, ln⟩ := maySl_kd hm
  have wk := wayK_le w
  have M0 := MO.of mk dg E
  obtain ⟨β125, b125⟩ := E 125 rfl
  have e128 : (128 : Int32) * (Int32.ofNat k) = (Int32.ofNat (128 * k)) := n_mul 128 k
  -- moved as it is
  have mv : ∀ (kk pk : Nat) (βk : Nat → UInt8) (key : List UInt8), (kdA 13)[kk]? = some 1 → kk ≠ 125 → mLen kk < 2 ^ 30 → pk + wayK w ≤ mLen kk → mB (S 13 0) kk βk → rdB βk pk (wayK w) = key → kcW a w K sk pt u v = (if sk = [] then some key else none) → ∃ o', B_X13_keyComes_94 G F (W.ad (.o 13 0)) (Int32.ofNat (wayK w)) (W.ad (.a 13 0 kk)) (Int32.ofNat pk) (mem W S) = some (if (kcW a w K sk pt u v).isSome = true then 1 else 0, mem W (S.so 13 0 o')) ∧ MO S o' ∧ agr [44] [] [43, 45, 46, 47, 48, 125] [] (S 13 0) o' ∧ ∀ ck, kcW a w K sk pt u v = some ck → ∃ β, mB o' 125 β ∧ rdB β 0 ck.length = ck := by
    intro kk pk βk key qk nk lk bk hbk rk ek
    have v := oM_move (G := G) (F := F) (S := S) (o := S 13 0) (k1 := kk) (k2 := 125) (p1 := pk) (p2 := 0) (cnt := wayK w) X h qk rfl nk lk (by decide) bk (by show _ ≤ 64; omega) (by omega) hbk b125
    rw [so_self, rk] at v
    have v : P_X13_move G F (W.ad (.a 13 0 kk)) (Int32.ofNat pk) (W.ad (.a 13 0 125)) 0 (Int32.ofNat (wayK w)) (mem W S) = _ := v
    obtain ⟨o1, ho1⟩ : ∃ o1, o1 = (S 13 0).sA 125 (fun j => sb (wrB β125 0 key j)) := ⟨_, rfl⟩
    rw [← ho1] at v
    have a1 : agr [] [] [125] [] (S 13 0) o1 := by rw [ho1]; exact agr_sA (by simp)
    have c1 : mB o1 125 (wrB β125 0 key) := by rw [ho1]; exact mB_sA _ _ _
    have x127 : gfI (mem W (S.so 13 0 o1)) (W.ad (.o 13 0)) 13 127 = some (Int32.ofNat sk.length) := by rw [gfI_m h.lo rfl, so_eq, a1.1 127 (by decide), f127]
    have x0 : ((Int32.ofNat sk.length) = (0 : Int32)) = (sk = []) := propext ((n_eq (b := 0) (by omega) (by omega)).trans List.length_eq_zero_iff)
    unfold B_X13_keyComes_94
    rw [h.gR 125 rfl (by decide), bO_s, v, bO_s, x127, bO_s, ek]
    simp only [x0]
    refine ⟨o1, ?_, M0.ag a1 (by decide) (by decide) (fun q hq _ => ?_), a1.mono (by simp) (by simp) (by simp) (by simp), fun ck hck => ?_⟩
    · by_cases c : sk = []
      · rw [if_pos c, if_pos c]
        rfl
      · rw [if_neg c, if_neg c]
        rfl
    · rw [List.mem_singleton] at hq
      rw [hq]
      exact ⟨_, c1⟩
    · by_cases c : sk = []
      · rw [if_pos c] at hck
        rw [← Option.some.inj hck]
        exact ⟨_, c1, rdB_wrB _ _ _⟩
      · rw [if_neg c] at hck
        exact absurd hck (by simp)
  -- unwrapped
  have unw : ∀ (kk pk : Nat) (βk : Nat → UInt8) (key : List UInt8), (kdA 13)[kk]? = some 1 → mLen kk < 2 ^ 30 → pk + key.length ≤ mLen kk → mB (S 13 0) kk βk → rdB βk pk key.length = key → (key.length = 16 ∨ key.length = 32) → sk.length = wayK w + 8 → kcF a w K sk pt u v = uwO key sk → ∃ o', B_X13_keyComes_178 G F (W.ad (.o 13 0)) (Int32.ofNat (wayK w)) (W.ad (.o 13 0)) (W.ad (.a 13 0 kk)) (Int32.ofNat pk) (Int32.ofNat key.length) (mem W S) = some (if (kcW a w K sk pt u v).isSome = true then 1 else 0, mem W (S.so 13 0 o')) ∧ MO S o' ∧ agr [44] [] [43, 45, 46, 47, 48, 125] [] (S 13 0) o' ∧ ∀ ck, kcW a w K sk pt u v = some ck → ∃ β, mB o' 125 β ∧ rdB β 0 ck.length = ck := by
    intro kk pk βk key qk lk bk hbk rk hkl hsl ek
    have mw : mayW (sk.length - 8) = true := by rw [hsl, Nat.add_sub_cancel]; exact mayW_w w
    have eu : uwO key sk = unwrapF key sk := by unfold uwO; rw [if_pos ⟨by omega, mw⟩]
    have ew : kcW a w K sk pt u v = unwrapF key sk := by
      unfold kcW
      rw [ek, eu]
      cases eq : unwrapF key sk with
      | none => rfl
      | some ck =>
        have := unw_len eq
        show (if ck.length = wayK w then some ck else none) = some ck
        rw [if_pos (by omega)]
    rw [ew]
    obtain ⟨o1, g1, a1, s1⟩ := QM_setKey (G := G) (F := F) (S := S) (k := kk) (p := pk) (n := key.length) X h qk lk hkl bk hbk bx
    rw [rk] at s1
    obtain ⟨ω, h48⟩ := E 48 rfl
    obtain ⟨δ, h47⟩ := E 47 rfl
    obtain ⟨S2, γ, g2, a2, b2, e2, δ2, d2⟩ := QM_unwrapIt (G := G) (F := F) (S := S.so 13 0 o1) (k := 126) (pos := 0) (u := sk) (key := key) X h rfl (by decide) (by decide) (by show _ ≤ 8200; omega) (by rw [so_eq]; exact a1.mB b126 (by decide)) r126 (by omega) mw (by show (∀ x : UInt8, ((S.so 13 0 o1) 13 0).a 41 x.toNat = _) ∧ _; rw [so_eq]; exact oBX.ag bx a1 (by decide) (by decide)) s1 (by rw [so_eq]; exact a1.mB h48 (by decide)) ⟨δ, by rw [so_eq]; exact a1.mB h47 (by decide)⟩
    have ag : agr [44] [] [43, 45, 46, 47, 48] [] (S 13 0) (S2 13 0) := by
      have := a2.ag 13 0 [45, 46, 47, 48] (by decide)
      rw [so_eq] at this
      exact (a1.mono (by decide) (by decide) (by decide) (by decide)).trans (this.mono (by decide) (by decide) (by decide) (by decide))
    have f2 : S2 = S.so 13 0 (S2 13 0) := ((fr_so (by simp)).trans (a2.fr (L' := [(13, 0)]) (by decide))).one
    have g2 : P_X13_unwrapIt G F (W.ad (.o 13 0)) (W.ad (.a 13 0 126)) 0 (Int32.ofNat sk.length) (mem W (S.so 13 0 o1)) = some (if okA (uwF key sk) = true then 1 else 0, mem W (S.so 13 0 (S2 13 0))) := by
      rw [← f2]
      exact g2
    have M2 : MO S (S2 13 0) := M0.ag ag (by decide) (by decide) (fun n hn z => by
      simp only [List.mem_cons, List.not_mem_nil, or_false] at hn
      rcases hn with rfl | rfl | rfl | rfl | rfl
      · exact absurd z (by decide)
      · exact absurd z (by decide)
      · exact absurd z (by decide)
      · exact ⟨_, d2⟩
      · exact ⟨_, b2⟩)
    have v := oM_move (G := G) (F := F) (S := S) (o := S2 13 0) (k1 := 48) (k2 := 125) (p1 := 8) (p2 := 0) (cnt := wayK w) X h rfl rfl (by decide) (by decide) (by decide) (by show _ ≤ 80; omega) (by show _ ≤ 64; omega) (by omega) b2 (ag.mB b125 (by decide))
    have v : P_X13_move G F (W.ad (.a 13 0 48)) 8 (W.ad (.a 13 0 125)) 0 (Int32.ofNat (wayK w)) (mem W (S.so 13 0 (S2 13 0))) = _ := v
    obtain ⟨o3, ho3⟩ : ∃ o3, o3 = (S2 13 0).sA 125 (fun j => sb (wrB β125 0 (rdB γ 8 (wayK w)) j)) := ⟨_, rfl⟩
    rw [← ho3] at v
    have a3 : agr [] [] [125] [] (S2 13 0) o3 := by rw [ho3]; exact agr_sA (by simp)
    have c3 : mB o3 125 (wrB β125 0 (rdB γ 8 (wayK w))) := by rw [ho3]; exact mB_sA _ _ _
    have x127 : gfI (mem W (S.so 13 0 o1)) (W.ad (.o 13 0)) 13 127 = some (Int32.ofNat sk.length) := by rw [gfI_m h.lo rfl, so_eq, a1.1 127 (by decide), f127]
    unfold B_X13_keyComes_178
    rw [rcv_m h.lo, bO_s, g1, bO_s, h.gR 126 rfl (by decide), bO_s, x127, bO_s, rcv_m h.lo, bO_s, g2, bP_s, h.gR 48 rfl (by decide), bO_s, h.gR 125 rfl (by decide), bO_s, v, bO_s]
    refine ⟨o3, ?_, M2.ag a3 (by decide) (by decide) (fun q hq _ => ?_), (ag.mono (by simp) (by simp) (by simp) (by simp)).trans (a3.mono (by simp) (by simp) (by simp) (by simp)), fun ck hck => ?_⟩
    · unfold unwrapF
      cases okA (uwF key sk) <;> rfl
    · rw [List.mem_singleton] at hq
      rw [hq]
      exact ⟨_, c3⟩
    · have cl := unw_len hck
      have ce : rdB γ 8 (wayK w) = ck := by
        unfold unwrapF at hck
        split at hck
        · rw [← Option.some.inj hck, hsl, Nat.add_sub_cancel]
          unfold mapN rdB
          apply List.map_congr_left
          intro j hj
          exact e2 (8 + j) (by have := List.mem_range.mp hj; omega)
        · exact absurd hck (by simp)
      rw [ce] at c3
      exact ⟨_, c3, rdB_wrB _ _ _⟩
  have rd86 : aI G (mem W S) 0 (W.ad (.a 13 0 86)) (Int32.ofNat k) = some (Int32.ofNat (Ma K).length) := by rw [h.aN rfl (show k < mLen 86 from hk) (by decide), k2]
  have x127 : gfI (mem W S) (W.ad (.o 13 0)) 13 127 = some (Int32.ofNat sk.length) := by rw [gfI_m h.lo rfl, f127]
  have em : ¬ K.1 = 2 → Ma K = K.2.1.1 := fun q => by unfold Ma; rw [if_neg q]
  have x8 : ((Int32.ofNat sk.length) = (Int32.ofNat (wayK w)) + (8 : Int32)) = (sk.length = wayK w + 8) := by
    rw [n_addL _ 8]
    exact propext (n_eq (by omega) (by omega))
  -- a length that is not right
  have no : ∀ key : List UInt8, kcF a w K sk pt u v = uwO key sk → ¬ sk.length = wayK w + 8 → ∃ o', retZ (0 : Int32) (mem W S) = some (if (kcW a w K sk pt u v).isSome = true then 1 else 0, mem W (S.so 13 0 o')) ∧ MO S o' ∧ agr [44] [] [43, 45, 46, 47, 48, 125] [] (S 13 0) o' ∧ ∀ ck, kcW a w K sk pt u v = some ck → ∃ β, mB o' 125 β ∧ rdB β 0 ck.length = ck := by
    intro key ek hne
    have ew : kcW a w K sk pt u v = none := by
      unfold kcW
      rw [ek]
      cases eq : uwO key sk with
      | none => rfl
      | some ck =>
        unfold uwO at eq
        split at eq
        · rename_i q
          have := unw_len eq
          show (if ck.length = wayK w then some ck else none) = none
          rw [if_neg (by omega)]
        · exact absurd eq (by simp)
    rw [ew, retZ0]
    exact ⟨S 13 0, by rw [so_self]; rfl, M0, agr.refl _ _ _ _ _, fun ck q => absurd q (by simp)⟩
  unfold B_X13_keyComes_57 B_X13_keyComes_66 B_X13_keyComes_148
  have h5 : a = 0 ∨ a = 1 ∨ a = 2 ∨ a = 4 ∨ a = 5 := by omega
  rcases h5 with rfl | rfl | rfl | rfl | rfl
  · have nl : K.2.1.1.length = wayK w := of_decide_eq_true ln
    have em := em (by rw [kd]; decide)
    rw [em, nl] at r1
    rw [if_pos (by decide), if_pos (by decide), h.gR 85 rfl (by decide), bO_s, if_pos (by decide), e128]
    refine mv 85 (128 * k) α85 K.2.1.1 rfl (by decide) (by decide) (by show _ ≤ 2048; omega) b85 r1 ?_
    unfold kcW
    show (match (if sk = [] then some K.2.1.1 else none) with | none => none | some ck => if ck.length = wayK w then some ck else none) = _
    by_cases c : sk = []
    · rw [if_pos c]
      show (if K.2.1.1.length = wayK w then some K.2.1.1 else none) = _
      rw [if_pos nl]
    · rw [if_neg c]
  · have nl : K.2.1.1.length = 16 := of_decide_eq_true ln
    have em := em (by rw [kd]; decide)
    rw [em] at r1 rd86
    rw [if_neg (by decide), if_neg (by decide), x127, bO_s]
    simp only [x8]
    by_cases c : sk.length = wayK w + 8
    · rw [if_pos c, if_neg (by decide), h.gR 85 rfl (by decide), bO_s, if_neg (by decide), if_neg (by decide), h.gR 86 rfl (by decide), bO_s, rd86, bO_s, e128]
      exact unw 85 (128 * k) α85 K.2.1.1 rfl (by decide) (by show _ ≤ 2048; omega) b85 r1 (Or.inl nl) c rfl
    · rw [if_neg c]
      exact no K.2.1.1 rfl c
  · have nl : K.2.1.1.length = 32 := of_decide_eq_true ln
    have em := em (by rw [kd]; decide)
    rw [em] at r1 rd86
    rw [if_neg (by decide), if_neg (by decide), x127, bO_s]
    simp only [x8]
    by_cases c : sk.length = wayK w + 8
    · rw [if_pos c, if_neg (by decide), h.gR 85 rfl (by decide), bO_s, if_neg (by decide), if_neg (by decide), h.gR 86 rfl (by decide), bO_s, rd86, bO_s, e128]
      exact unw 85 (128 * k) α85 K.2.1.1 rfl (by decide) (by show _ ≤ 2048; omega) b85 r1 (Or.inr nl) c rfl
    · rw [if_neg c]
      exact no K.2.1.1 rfl c
  · obtain ⟨δ, b80, e80⟩ := hdk (by decide)
    have e80 : rdB δ 0 (wayK w) = dkF 4 w (K.2.1.2.2.getD []) pt u v := e80
    have dl := dkF_len 4 w (K.2.1.2.2.getD []) pt u v
    have dl : (dkF 4 w (K.2.1.2.2.getD []) pt u v).length = wayK w := dl
    rw [if_neg (by decide), if_pos (by decide), if_neg (by decide), h.gR 80 rfl (by decide), bO_s, if_neg (by decide)]
    refine mv 80 0 δ _ rfl (by decide) (by decide) (by show _ ≤ 64; omega) b80 e80 ?_
    unfold kcW
    show (match (if sk = [] then some (dkF 4 w (K.2.1.2.2.getD []) pt u v) else none) with | none => none | some ck => if ck.length = wayK w then some ck else none) = _
    by_cases c : sk = []
    · rw [if_pos c]
      show (if (dkF 4 w (K.2.1.2.2.getD []) pt u v).length = wayK w then some _ else none) = _
      rw [if_pos dl]
    · rw [if_neg c]
  · obtain ⟨δ, b80, e80⟩ := hdk (by decide)
    have e80 : rdB δ 0 16 = dkF 5 w (K.2.1.2.2.getD []) pt u v := e80
    have dl := dkF_len 5 w (K.2.1.2.2.getD []) pt u v
    have dl : (dkF 5 w (K.2.1.2.2.getD []) pt u v).length = 16 := dl
    rw [if_neg (by decide), if_neg (by decide), x127, bO_s]
    simp only [x8]
    by_cases c : sk.length = wayK w + 8
    · have z := unw 80 0 δ (dkF 5 w (K.2.1.2.2.getD []) pt u v) rfl (by decide) (by rw [dl]; decide) b80 (by rw [dl]; exact e80) (Or.inl dl) c rfl
      rw [dl] at z
      rw [if_pos c, if_pos (by decide), h.gR 80 rfl (by decide), bO_s, if_pos (by decide), if_pos (by decide)]
      exact z
    · rw [if_neg c]
      exact no _ rfl c
end MKC
