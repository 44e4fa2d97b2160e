/-! CALL encrypt: the model, from its content's key on -/
/-- what encrypt leaves of the model -/
def ME (S S' : ST) : Prop := fr [(12, 0), (12, 1), (12, 2), (13, 0)] S S' ∧ agr enF tkG enA [33, 34] (S 13 0) (S' 13 0) ∧ MK S' ∧ mDig (S' 13 0) ∧ mEv (S' 13 0)
theorem ME.trans {S S1 S2 : ST} (h1 : ME S S1) (h2 : ME S1 S2) : ME S S2 := ⟨h1.1.trans h2.1, h1.2.1.trans h2.2.1, h2.2.2⟩
theorem ME.refl {S : ST} (mk : MK S) (d : mDig (S 13 0)) (E : mEv (S 13 0)) : ME S S := ⟨fr.refl _ _, agr.refl _ _ _ _ _, mk, d, E⟩
theorem ME.mt {S S' : ST} (h : ME S S') : MT S S' := ⟨h.1, h.2.1.mono (by simp [tkF]) (by simp) (by simp [tkA]) (by simp), h.2.2⟩
abbrev cmF : List Nat := [37, 44, 127]
abbrev cmA : List Nat := [31, 32, 35, 36, 43, 45, 46, 47, 48, 60, 61, 62, 82, 126]
def rwM (o : Ob) (βr : Nat → UInt8) (rows : Nat → List UInt8) : Prop := mB o 2 βr ∧ ∀ r, r < 8 → o.a 3 r = (Int32.ofNat (rows r).length) ∧ (rows r).length ≤ 8192 ∧ rdB βr (8192 * r) (rows r).length = rows r
theorem rwM.ag {o o' : Ob} {βr : Nat → UInt8} {rows : Nat → List UInt8} {fs gs as ls : List Nat} (h : rwM o βr rows) (a : agr fs gs as ls o o') (h2 : 2 ∉ as) (h3 : 3 ∉ as) : rwM o' βr rows := ⟨a.mB h.1 h2, fun r hr => by rw [a.2.2.1 3 h3]; exact h.2 r hr⟩
theorem oBX.ag {o o' : Ob} {fs gs as ls : List Nat} (h : oBX o) (a : agr fs gs as ls o o') (h1 : 41 ∉ as) (h2 : 42 ∉ as) : oBX o' := ⟨fun x => by rw [a.2.2.1 41 h1]; exact h.1 x, fun x => by rw [a.2.2.1 42 h2]; exact h.2 x⟩
section MEN
variable {W : WR} {G : mG} {F : Nat} {S : ST} {A : Nat → Option KY} {K : KY}
theorem QM_enc317 {k a w p at_ : Nat} {x6 x7 : Int32} {rows : Nat → List UInt8} {βr : Nat → UInt8} {ck sd iv pt dk sk : List UInt8} (X : Cx G F W) (h : isM W) (hmm : isMm W) (mk : MK S) (dg : mDig (S 13 0)) (E : mEv (S 13 0)) (bx : oBX (S 13 0)) (KK : KM (S 13 0) A) (hk : k < 16) (e : A k = some K) (ha : a < 6) (hw : w < 4) (hm : maySl K a w false = true) (hp : p < 8) (R : rwM (S 13 0) βr rows) (h125 : ∃ β, mB (S 13 0) 125 β ∧ rdB β 0 ck.length = ck) (ckl : ck.length = wayK w) (f127 : (S 13 0).f 127 = 0) (hsd : a = 3 → at_ + 32 ≤ 65536 ∧ rdB βr at_ 32 = sd) (iv_ : at_ + smN a + ivOf w ≤ 65536) (riv : rdB βr (at_ + smN a) (ivOf w) = iv) (hdk : a = 5 → dk.length = 16 ∧ ∃ δ, mB (S 13 0) 80 δ ∧ rdB δ 0 16 = dk) (hx6 : 4 ≤ a → ron x6 = true) (hx7 : 4 ≤ a → ron x7 = true) (P : 4 ≤ a → ∃ β, mB (S 13 0) 107 β ∧ rdB β 0 64 = pt) (U : 4 ≤ a → pyM (S 13 0) 110 108 ((rwO rows x6).getD [])) (V : 4 ≤ a → pyM (S 13 0) 111 109 ((rwO rows x7).getD [])) (hsk : sk = if a = 0 ∨ a = 4 then [] else if a = 3 then powF (oaF sd ck K.2.1.1.length) K.2.1.2.1 K.2.1.1 else if a = 5 then wrapF dk ck else wrapF K.2.1.1 ck) (r : Int32 ⊕ List UInt8) (hr : r = slZ w (slP a w K pt (rwO rows x6) (rwO rows x7)) sk iv ck (rows p)) : ∃ S', B_X13_encrypt_317 G F (W.ad (.o 13 0)) (Int32.ofNat k) (Int32.ofNat a) (Int32.ofNat w) (Int32.ofNat p) x6 x7 (Int32.ofNat (wayK w)) (if a = 0 ∨ a = 4 then 0 else 1) (Int32.ofNat at_) (mem W S) = some (ansT r, mem W S') ∧ ME S S' ∧ outM (S 13 0) (S' 13 0) r := by
  obtain ⟨β125, b125, r125⟩ := h125
  obtain ⟨α85, α87, α89, b85, b87, b89, ⟨k1, k2, k3, k4⟩, ⟨l1, r1⟩, ⟨l2, r2⟩, ⟨l3, r3⟩, V_⟩ := KK.at_ hk e
  obtain ⟨kd, ln⟩ := maySl_kd hm
  have wk := wayK_le w
  -- composed then
  have go : ∀ (S1 : ST) (o1 : Ob) (at1 : Nat), fr [(12, 0), (12, 1), (12, 2), (13, 0)] S S1 → MO S1 o1 → agr cmF [] cmA [33, 34] (S 13 0) o1 → (∃ β, mB o1 126 β ∧ rdB β 0 sk.length = sk) → sk.length ≤ 128 → o1.f 127 = (Int32.ofNat sk.length) → at1 + ivOf w ≤ 65536 → rdB βr at1 (ivOf w) = iv → ∃ S', (bP (P_X13_compose G F (W.ad (.o 13 0)) (Int32.ofNat k) (Int32.ofNat a) (Int32.ofNat w) (Int32.ofNat p) (Int32.ofNat at1) x6 x7 (mem W (S1.so 13 0 o1))) fun v440 M440 => some (v440, M440)) = some (ansT r, mem W S') ∧ ME S S' ∧ outM (S 13 0) (S' 13 0) r := by
    intro S1 o1 at1 f1 M1 a1 h126 skl f1' hi ri
    obtain ⟨β126, b126, r126⟩ := h126
    obtain ⟨o', g, q1, q2, q3⟩ := QM_compose (G := G) (F := F) (S := S1) (o := o1) (A := A) (K := K) (k := k) (a := a) (w := w) (p := p) (at_ := at1) (x6 := x6) (x7 := x7) (rows := rows) (sk := sk) (iv := iv) (ck := ck) (pt := pt) X h M1 (bx.ag a1 (by decide) (by decide)) (KK.agr a1 (by decide)) hk e ha hw hp (R.ag a1 (by decide) (by decide)).1 (R.ag a1 (by decide) (by decide)).2 (a1.mB b125 (by decide)) r125 ckl b126 r126 skl f1' hi ri hx6 hx7 (fun q => by
      obtain ⟨β, z1, z2⟩ := P q
      exact ⟨β, a1.mB z1 (by decide), z2⟩) (fun q => (U q).ag a1 (by decide) (by decide)) (fun q => (V q).ag a1 (by decide) (by decide)) r hr
    rw [g, bP_s]
    refine ⟨S1.so 13 0 o', rfl, ⟨f1.trans (fr_so (by simp)), ?_, q1.1, by rw [so_eq]; exact q1.2.1, by rw [so_eq]; exact q1.2.2⟩, ?_⟩
    · rw [so_eq]
      exact (a1.mono (by simp) (by simp) (by simp) (by simp)).trans q2
    · rw [so_eq]
      revert q3
      cases r with
      | inl v => intro q3; exact ⟨q3.1.trans (a1.1 5 (by decide)), q3.2.trans (a1.2.2.1 4 (by decide))⟩
      | inr t => exact id
  have M0 := MO.of mk dg E
  have mayw : mayW ck.length = true := by rw [ckl]; exact mayW_w w
  -- wrapped then
  have wrp : ∀ (kk pk : Nat) (βk : Nat → UInt8) (key : List UInt8), (kdA 13)[kk]? = some 1 → mLen kk < 2 ^ 30 → pk + key.length ≤ mLen kk → mB (S 13 0) kk βk → rdB βk pk key.length = key → (key.length = 16 ∨ key.length = 32) → sk = wrapF key ck → smN a = 0 → ∃ S', B_X13_encrypt_393 G F (W.ad (.o 13 0)) (Int32.ofNat k) (Int32.ofNat a) (Int32.ofNat w) (Int32.ofNat p) x6 x7 (Int32.ofNat (wayK w)) (Int32.ofNat at_) (W.ad (.o 13 0)) (W.ad (.a 13 0 kk)) (Int32.ofNat pk) (Int32.ofNat key.length) (mem W S) = some (ansT r, mem W S') ∧ ME S S' ∧ outM (S 13 0) (S' 13 0) r := by
    intro kk pk βk key qk lk bk hbk rk hkl es hs0
    obtain ⟨o1, o2, g1, g2, M2, a2, γ, c48, e48⟩ := oM_wrapTo (G := G) (F := F) (S := S) (o := S 13 0) X h M0 bx qk lk bk hbk rk hkl b125 r125 mayw
    rw [so_self, ] at g1
    rw [ckl] at g2
    have skl : sk.length = wayK w + 8 := by rw [es, wrapF_len, ckl]
    rw [ckl, ← skl] at e48
    rw [← skl] at g2
    obtain ⟨o3, ho3⟩ : ∃ o3, o3 = o2.sf 127 (Int32.ofNat sk.length) := ⟨_, rfl⟩
    obtain ⟨β126, b126⟩ := M2.2.2 126 rfl
    have c48' : mB o3 48 γ := by rw [ho3]; exact c48
    have b126' : mB o3 126 β126 := by rw [ho3]; exact b126
    have v := oM_move (G := G) (F := F) (S := S) (o := o3) (k1 := 48) (k2 := 126) (p1 := 0) (p2 := 0) (cnt := sk.length) X h rfl rfl (by decide) (by decide) (by decide) (by show _ ≤ 80; omega) (by show _ ≤ 8200; omega) (by omega) c48' b126'
    rw [e48, ← es] at v
    have v : P_X13_move G F (W.ad (.a 13 0 48)) 0 (W.ad (.a 13 0 126)) 0 (Int32.ofNat sk.length) (mem W (S.so 13 0 o3)) = _ := v
    obtain ⟨o4, ho4⟩ : ∃ o4, o4 = o3.sA 126 (fun j => sb (wrB β126 0 sk j)) := ⟨_, rfl⟩
    rw [← ho4] at v
    have a4 : agr [127] [] [126] [] o2 o4 := by
      rw [ho4, ho3]
      exact (agr_sf (by simp)).trans (agr_sA (by simp))
    have c4 : mB o4 126 (wrB β126 0 sk) := by rw [ho4]; exact mB_sA _ _ _
    have M4 : MO S o4 := M2.ag a4 (by decide) (by decide) (fun q hq _ => by
      rw [List.mem_singleton] at hq
      rw [hq]
      exact ⟨_, c4⟩)
    have f4 : o4.f 127 = (Int32.ofNat sk.length) := by rw [ho4, sA_f, ho3, sf_eq]
    have x127 : gfI (mem W (S.so 13 0 o3)) (W.ad (.o 13 0)) 13 127 = some (Int32.ofNat sk.length) := by rw [gfI_m h.lo rfl, so_eq, ho3, sf_eq]
    rw [hs0, Nat.add_zero] at iv_ riv
    unfold B_X13_encrypt_393
    rw [rcv_m h.lo, bO_s, g1, bO_s, h.gR 125 rfl (by decide), bO_s, rcv_m h.lo, bO_s, g2, bP_s, pfI_m h.lo rfl, bO_s, so_eq, so_so, ← ho3, h.gR 48 rfl (by decide), bO_s, h.gR 126 rfl (by decide), bO_s, x127, bO_s, v, bO_s, rcv_m h.lo, bO_s]
    exact go S o4 at_ (fr.refl _ _) M4 ((a2.mono (by simp) (by simp) (by simp) (by simp)).trans (a4.mono (by simp) (by simp) (by simp) (by simp))) ⟨_, c4, rdB_wrB _ _ _⟩ (by omega) f4 iv_ riv
  have em : ¬ K.1 = 2 → Ma K = K.2.1.1 := fun q => by unfold Ma; rw [if_neg q]
  have rd86 : aI G (mem W S) 0 (W.ad (.a 13 0 86)) (Int32.ofNat k) = some (Int32.ofNat (Ma K).length) := by rw [h.aN rfl (show k < mLen 86 from hk) (by decide), k2]
  have e128 : (128 : Int32) * (Int32.ofNat k) = (Int32.ofNat (128 * k)) := n_mul 128 k
  unfold B_X13_encrypt_317 B_X13_encrypt_363
  have h6 : a = 0 ∨ a = 1 ∨ a = 2 ∨ a = 3 ∨ a = 4 ∨ a = 5 := by omega
  have plain : (a = 0 ∨ a = 4) → ∃ S', (bP (P_X13_compose G F (W.ad (.o 13 0)) (Int32.ofNat k) (Int32.ofNat a) (Int32.ofNat w) (Int32.ofNat p) (Int32.ofNat at_) x6 x7 (mem W S)) fun v440 M440 => some (v440, M440)) = some (ansT r, mem W S') ∧ ME S S' ∧ outM (S 13 0) (S' 13 0) r := by
    intro q
    have hs0 : smN a = 0 := by unfold smN; rw [if_neg (by omega)]
    rw [if_pos q] at hsk
    obtain ⟨β126, b126⟩ := E 126 rfl
    rw [hs0, Nat.add_zero] at iv_ riv
    have z := go S (S 13 0) at_ (fr.refl _ _) M0 (agr.refl _ _ _ _ _) ⟨β126, b126, by rw [hsk]; rfl⟩ (by rw [hsk]; decide) (by rw [hsk, f127]; rfl) iv_ riv
    rw [so_self] at z
    exact z
  rcases h6 with rfl | rfl | rfl | rfl | rfl | rfl
  · rw [if_neg (by decide), if_pos (by decide), rcv_m h.lo, bO_s]
    exact plain (by decide)
  · have nl : K.2.1.1.length = 16 := of_decide_eq_true ln
    have em := em (by rw [kd]; decide)
    rw [em] at r1 rd86
    obtain ⟨S', z1, z2⟩ := wrp 85 (128 * k) α85 K.2.1.1 rfl (by decide) (by show _ ≤ 2048; omega) b85 r1 (Or.inl nl) hsk rfl
    rw [if_neg (by decide), if_neg (by decide), if_neg (by decide), h.gR 85 rfl (by decide), bO_s, if_neg (by decide), if_neg (by decide), h.gR 86 rfl (by decide), bO_s, rd86, bO_s, e128]
    exact ⟨S', z1, z2⟩
  · have nl : K.2.1.1.length = 32 := of_decide_eq_true ln
    have em := em (by rw [kd]; decide)
    rw [em] at r1 rd86
    obtain ⟨S', z1, z2⟩ := wrp 85 (128 * k) α85 K.2.1.1 rfl (by decide) (by show _ ≤ 2048; omega) b85 r1 (Or.inr nl) hsk rfl
    rw [if_neg (by decide), if_neg (by decide), if_neg (by decide), h.gR 85 rfl (by decide), bO_s, if_neg (by decide), if_neg (by decide), h.gR 86 rfl (by decide), bO_s, rd86, bO_s, e128]
    exact ⟨S', z1, z2⟩
  · have ln : (decide (66 + wayK w ≤ K.2.1.1.length) && (!false || K.2.1.2.2.isSome)) = true := ln
    rw [Bool.and_eq_true, decide_eq_true_iff] at ln
    obtain ⟨hs1, hs2⟩ := hsd rfl
    have em := em (by rw [kd]; decide)
    rw [em] at l1
    obtain ⟨S1, g1, f1, a1, mk1, d1, E1, q127, β126, b126, e126⟩ := QM_sealRsa (G := G) (F := F) (S := S) (A := A) (K := K) (k := k) (at_ := at_) (seed := sd) (ck := ck) X h hmm mk dg E KK hk e kd (by omega) b125 r125 R.1 hs1 hs2
    have hsk : sk = powF (oaF sd ck K.2.1.1.length) K.2.1.2.1 K.2.1.1 := hsk
    have skl : sk.length = K.2.1.1.length := by rw [hsk, powF_len]
    rw [ckl] at g1
    have iv_ : at_ + 32 + ivOf w ≤ 65536 := iv_
    have riv : rdB βr (at_ + 32) (ivOf w) = iv := riv
    have z := go S1 (S1 13 0) (at_ + 32) (f1.mono (by simp)) (MO.of mk1 d1 E1) (a1.mono (by simp) (by simp) (by simp) (by simp)) ⟨β126, b126, by rw [skl, hsk]; exact e126⟩ (by omega) (by rw [skl]; exact q127) iv_ riv
    rw [so_self] at z
    rw [if_pos (by decide), h.gR 2 rfl (by decide), bO_s, rcv_m h.lo, bO_s, g1, bO_s, rcv_m h.lo, bO_s, show (Int32.ofNat at_) + (32 : Int32) = (Int32.ofNat (at_ + 32)) from n_addL at_ 32]
    exact z
  · rw [if_neg (by decide), if_pos (by decide), rcv_m h.lo, bO_s]
    exact plain (by decide)
  · obtain ⟨dl, δ, b80, e80⟩ := hdk rfl
    obtain ⟨S', z1, z2⟩ := wrp 80 0 δ dk rfl (by decide) (by rw [dl]; decide) b80 (by rw [dl]; exact e80) (Or.inl dl) hsk rfl
    rw [dl] at z1
    have z1 : B_X13_encrypt_393 G F (W.ad (.o 13 0)) (Int32.ofNat k) (Int32.ofNat 5) (Int32.ofNat w) (Int32.ofNat p) x6 x7 (Int32.ofNat (wayK w)) (Int32.ofNat at_) (W.ad (.o 13 0)) (W.ad (.a 13 0 80)) 0 16 (mem W S) = _ := z1
    rw [if_neg (by decide), if_neg (by decide), if_pos (by decide), h.gR 80 rfl (by decide), bO_s, if_pos (by decide), if_pos (by decide)]
    exact ⟨S', z1, z2⟩
end MEN
