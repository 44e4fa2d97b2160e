/-! CALL encrypt: the model -/
section ME2
variable {W : WR} {G : mG} {F : Nat} {S : ST} {A : Nat → Option KY} {K : KY}
theorem QM_enc248 {k a w p at_ : Nat} {x6 x7 : Int32} {rows : Nat → List UInt8} {βr : Nat → UInt8} {fs ck sd iv pt u v : List UInt8} (X : Cx G F W) (h : isM W) (hmm : isMm W) (mk : MK S) (dg : mDig (S 13 0)) (E : mEv (S 13 0)) (bx : oBX (S 13 0)) (KK : KM (S 13 0) A) (hk : k < 16) (e : A k = some K) (ha : a < 6) (hw : w < 4) (hm : maySl K a w false = true) (hp : p < 8) (R : rwM (S 13 0) βr rows) (f127 : (S 13 0).f 127 = 0) (rck : rdB βr at_ (kmN a w) = ck) (rsd : rdB βr (at_ + kmN a w) (smN a) = sd) (iv_ : at_ + kmN a w + smN a + ivOf w ≤ 65536) (riv : rdB βr (at_ + kmN a w + smN a) (ivOf w) = iv) (hdk : 4 ≤ a → ∃ δ, mB (S 13 0) 80 δ ∧ rdB δ 0 (dkM a w) = dkF a w fs K.2.1.1 u v) (hx6 : 4 ≤ a → ron x6 = true) (hx7 : 4 ≤ a → ron x7 = true) (P : 4 ≤ a → ∃ β, mB (S 13 0) 107 β ∧ rdB β 0 64 = pt) (U : 4 ≤ a → pyM (S 13 0) 110 108 ((rwO rows x6).getD [])) (V : 4 ≤ a → pyM (S 13 0) 111 109 ((rwO rows x7).getD [])) (r : Int32 ⊕ List UInt8) (hr : r = slZ w (slP a w K pt (rwO rows x6) (rwO rows x7)) (skF a w K fs ck sd u v) iv (ckF a w K fs ck u v) (rows p)) : ∃ S', B_X13_encrypt_248 G F (W.ad (.o 13 0)) (Int32.ofNat k) (Int32.ofNat a) (Int32.ofNat w) (Int32.ofNat p) x6 x7 (Int32.ofNat (wayK w)) (if a = 0 ∨ a = 4 then 0 else 1) (Int32.ofNat at_) (mem W S) = some (ansT r, mem W S') ∧ ME S S' ∧ outM (S 13 0) (S' 13 0) r := by
  obtain ⟨α85, α87, α89, b85, b87, b89, ⟨k1, k2, k3, k4⟩, ⟨l1, r1⟩, ⟨l2, r2⟩, ⟨l3, r3⟩, V_⟩ := KK.at_ hk e
  obtain ⟨kd, ln⟩ := maySl_kd hm
  have wk := wayK_le w
  obtain ⟨β125, b125⟩ := E 125 rfl
  have M0 := MO.of mk dg E
  -- once the content's key stands
  have go : ∀ (ck' : List UInt8) (at1 : Nat), ck' = ckF a w K fs ck u v → ck'.length = wayK w → at1 = at_ + kmN a w → ∃ S', B_X13_encrypt_317 G F (W.ad (.o 13 0)) (Int32.ofNat k) (Int32.ofNat a) (Int32.ofNat w) (Int32.ofNat p) x6 x7 (Int32.ofNat (wayK w)) (if a = 0 ∨ a = 4 then 0 else 1) (Int32.ofNat at1) (mem W (S.so 13 0 ((S 13 0).sA 125 (fun j => sb (wrB β125 0 ck' j))))) = some (ansT r, mem W S') ∧ ME S S' ∧ outM (S 13 0) (S' 13 0) r := by
    intro ck' at1 hc hcl hat
    obtain ⟨o1, ho1⟩ : ∃ o1, o1 = (S 13 0).sA 125 (fun j => sb (wrB β125 0 ck' j)) := ⟨_, rfl⟩
    rw [← ho1]
    have a1 : agr [] [] [125] [] (S 13 0) o1 := by rw [ho1]; exact agr_sA (by simp)
    have c1 : mB o1 125 (wrB β125 0 ck') := by rw [ho1]; exact mB_sA _ _ _
    have M1 : MO S o1 := M0.ag a1 (by decide) (by decide) (fun q hq _ => by
      rw [List.mem_singleton] at hq
      rw [hq]
      exact ⟨_, c1⟩)
    rw [← hc] at hr
    have hsk : skF a w K fs ck sd u v = if a = 0 ∨ a = 4 then [] else if a = 3 then powF (oaF sd ck' K.2.1.1.length) K.2.1.2.1 K.2.1.1 else if a = 5 then wrapF (dkF a w fs K.2.1.1 u v) ck' else wrapF K.2.1.1 ck' := by
      unfold skF
      by_cases c : a = 0 ∨ a = 4
      · rw [if_pos c, if_pos c]
      · have : ck' = ck := by
          rw [hc]
          unfold ckF
          rw [if_neg (fun q => c (Or.inl q)), if_neg (fun q => c (Or.inr q))]
        rw [this]
    obtain ⟨S', g, q1, q2⟩ := QM_enc317 (G := G) (F := F) (S := S.so 13 0 o1) (A := A) (K := K) (k := k) (a := a) (w := w) (p := p) (at_ := at1) (x6 := x6) (x7 := x7) (rows := rows) (βr := βr) (ck := ck') (sd := sd) (iv := iv) (pt := pt) (dk := dkF a w fs K.2.1.1 u v) (sk := skF a w K fs ck sd u v) X h hmm M1.1 (by rw [so_eq]; exact M1.2.1) (by rw [so_eq]; exact M1.2.2) (by rw [so_eq]; exact bx.ag a1 (by decide) (by decide)) (by rw [so_eq]; exact KK.agr a1 (by decide)) hk e ha hw hm hp (by rw [so_eq]; exact R.ag a1 (by decide) (by decide)) ⟨_, by rw [so_eq]; exact c1, rdB_wrB _ _ _⟩ hcl (by rw [so_eq, a1.1 127 (by decide), f127]) (fun q => by
      have e32 : smN a = 32 := by unfold smN; rw [if_pos q]
      rw [e32] at rsd iv_
      rw [hat]
      exact ⟨by omega, rsd⟩) (by rw [hat]; exact iv_) (by rw [hat]; exact riv) (fun q => by
      have e16 : dkM a w = 16 := by unfold dkM; rw [if_neg (by omega)]
      obtain ⟨δ, d1, d2⟩ := hdk (by omega)
      rw [e16] at d2
      exact ⟨by rw [dkF_len, e16], δ, by rw [so_eq]; exact a1.mB d1 (by decide), d2⟩) hx6 hx7 (fun q => by
      obtain ⟨β, z1, z2⟩ := P q
      exact ⟨β, by rw [so_eq]; exact a1.mB z1 (by decide), z2⟩) (fun q => by rw [so_eq]; exact (U q).ag a1 (by decide) (by decide)) (fun q => by rw [so_eq]; exact (V q).ag a1 (by decide) (by decide)) hsk r hr
    rw [so_eq] at q2
    have me1 : ME S (S.so 13 0 o1) := ⟨fr_so (by simp), by rw [so_eq]; exact a1.mono (by simp) (by simp) (by simp) (by simp), M1.1, by rw [so_eq]; exact M1.2.1, by rw [so_eq]; exact M1.2.2⟩
    refine ⟨S', g, me1.trans q1, ?_⟩
    revert q2
    cases r with
    | inl v => intro q2; exact ⟨q2.1.trans (a1.1 5 (by decide)), q2.2.trans (a1.2.2.1 4 (by decide))⟩
    | inr t => exact id
  unfold B_X13_encrypt_248
  by_cases c0 : a = 0
  · subst c0
    have nl : K.2.1.1.length = wayK w := of_decide_eq_true ln
    have em : Ma K = K.2.1.1 := by unfold Ma; rw [if_neg (by rw [kd]; decide)]
    rw [em, nl] at r1
    have mv := oM_move (G := G) (F := F) (S := S) (o := S 13 0) (k1 := 85) (k2 := 125) (p1 := 128 * k) (p2 := 0) (cnt := wayK w) X h rfl rfl (by decide) (by decide) (by decide) (by show _ ≤ 2048; omega) (by show _ ≤ 64; omega) (by omega) b85 b125
    rw [so_self, r1] at mv
    have mv : P_X13_move G F (W.ad (.a 13 0 85)) (Int32.ofNat (128 * k)) (W.ad (.a 13 0 125)) 0 (Int32.ofNat (wayK w)) (mem W S) = _ := mv
    rw [if_pos (by decide), if_pos (by decide), h.gR 85 rfl (by decide), bO_s]
    unfold B_X13_encrypt_294
    rw [if_pos (by decide), h.gR 125 rfl (by decide), bO_s, show (128 : Int32) * (Int32.ofNat k) = (Int32.ofNat (128 * k)) from n_mul 128 k, mv, bO_s]
    exact go K.2.1.1 at_ rfl nl rfl
  by_cases c4 : a = 4
  · subst c4
    obtain ⟨δ, b80, e80⟩ := hdk (by decide)
    have e80 : rdB δ 0 (wayK w) = dkF 4 w fs K.2.1.1 u v := e80
    have mv := oM_move (G := G) (F := F) (S := S) (o := S 13 0) (k1 := 80) (k2 := 125) (p1 := 0) (p2 := 0) (cnt := wayK w) X h rfl rfl (by decide) (by decide) (by decide) (by show _ ≤ 64; omega) (by show _ ≤ 64; omega) (by omega) b80 b125
    rw [so_self, e80] at mv
    have mv : P_X13_move G F (W.ad (.a 13 0 80)) 0 (W.ad (.a 13 0 125)) 0 (Int32.ofNat (wayK w)) (mem W S) = _ := mv
    rw [if_pos (by decide), if_neg (by decide), h.gR 80 rfl (by decide), bO_s]
    unfold B_X13_encrypt_294
    rw [if_neg (by decide), h.gR 125 rfl (by decide), bO_s, mv, bO_s]
    exact go (dkF 4 w fs K.2.1.1 u v) at_ rfl (by rw [dkF_len]; rfl) rfl
  have km : kmN a w = wayK w := by unfold kmN; rw [if_neg (by omega)]
  rw [km] at rck
  have mv := oM_move (G := G) (F := F) (S := S) (o := S 13 0) (k1 := 2) (k2 := 125) (p1 := at_) (p2 := 0) (cnt := wayK w) X h rfl rfl (by decide) (by decide) (by decide) (by show _ ≤ 65536; omega) (by show _ ≤ 64; omega) (by omega) R.1 b125
  rw [so_self, rck] at mv
  have mv : P_X13_move G F (W.ad (.a 13 0 2)) (Int32.ofNat at_) (W.ad (.a 13 0 125)) 0 (Int32.ofNat (wayK w)) (mem W S) = _ := mv
  have n11 : ¬ (if a = 0 ∨ a = 4 then (0 : Int32) else 1) = 0 := by rw [if_neg (by omega)]; decide
  rw [if_neg n11, h.gR 2 rfl (by decide), bO_s, h.gR 125 rfl (by decide), bO_s, mv, bO_s, n_add]
  exact go ck (at_ + wayK w) (by unfold ckF; rw [if_neg c0, if_neg c4]) (by rw [← rck, rdB_len]) (by rw [km])
theorem QM_enc222 {k a w p at_ : Nat} {x6 x7 : Int32} {rows : Nat → List UInt8} {βr : Nat → UInt8} {rnd : List UInt8} (X : Cx G F W) (h : isM W) (hmm : isMm W) (mk : MK S) (dg : mDig (S 13 0)) (E : mEv (S 13 0)) (bx : oBX (S 13 0)) (KK : KM (S 13 0) A) (hk : k < 16) (e : A k = some K) (ha : a < 6) (hw : w < 4) (hm : maySl K a w false = true) (hp : p < 8) (R : rwM (S 13 0) βr rows) (nd : ndN a w ≤ rnd.length) (rr : rdB βr at_ rnd.length = rnd) (hat : at_ + rnd.length ≤ 65536) (hs : a < 4 ∨ secF (seg rnd 0 (fmN a)) = true) (hx6 : 4 ≤ a → ron x6 = true) (hx7 : 4 ≤ a → ron x7 = true) (r : Int32 ⊕ List UInt8) (hr : r = encT a w K rnd (rows p) (rwO rows x6) (rwO rows x7)) : ∃ S', B_X13_encrypt_222 G F (W.ad (.o 13 0)) (Int32.ofNat k) (Int32.ofNat a) (Int32.ofNat w) (Int32.ofNat p) x6 x7 (if a ≤ 3 then 0 else 1) (Int32.ofNat (wayK w)) (if a = 0 ∨ a = 4 then 0 else 1) (Int32.ofNat at_) (mem W S) = some (ansT r, mem W S') ∧ ME S S' ∧ outM (S 13 0) (S' 13 0) r := by
  unfold encT at hr
  rw [if_pos ⟨nd, hs⟩] at hr
  have nd' : fmN a + kmN a w + smN a + ivOf w ≤ rnd.length := nd
  have sg : ∀ q n, q + n ≤ rnd.length → rdB βr (at_ + q) n = seg rnd q n := fun q n hq => by
    rw [← rr, seg_rd hq]
  obtain ⟨o1, ho1⟩ : ∃ o1, o1 = (S 13 0).sf 127 0 := ⟨_, rfl⟩
  have a1 : agr [127] [] [] [] (S 13 0) o1 := by rw [ho1]; exact agr_sf (by simp)
  have M1 : MO S o1 := (MO.of mk dg E).ag a1 (by decide) (by decide) (fun q hq _ => absurd hq (by simp))
  have me1 : ME S (S.so 13 0 o1) := ⟨fr_so (by simp), by rw [so_eq]; exact a1.mono (by simp) (by simp) (by simp) (by simp), M1.1, by rw [so_eq]; exact M1.2.1, by rw [so_eq]; exact M1.2.2⟩
  unfold B_X13_encrypt_222
  rw [pfI_m h.lo rfl, bO_s, ← ho1]
  by_cases c : a ≤ 3
  · have f0 : fmN a = 0 := by unfold fmN; rw [if_pos (by omega)]
    rw [f0] at hr nd'
    simp only [Nat.zero_add] at hr nd'
    obtain ⟨S', g, q1, q2⟩ := QM_enc248 (G := G) (F := F) (S := S.so 13 0 o1) (A := A) (K := K) (k := k) (a := a) (w := w) (p := p) (at_ := at_) (x6 := x6) (x7 := x7) (rows := rows) (βr := βr) (fs := seg rnd 0 0) (ck := seg rnd 0 (kmN a w)) (sd := seg rnd (kmN a w) (smN a)) (iv := seg rnd (kmN a w + smN a) (ivOf w)) (pt := epF (seg rnd 0 0)) (u := (rwO rows x6).getD []) (v := (rwO rows x7).getD []) X h hmm M1.1 (by rw [so_eq]; exact M1.2.1) (by rw [so_eq]; exact M1.2.2) (by rw [so_eq]; exact bx.ag a1 (by decide) (by decide)) (by rw [so_eq]; exact KK.agr a1 (by decide)) hk e ha hw hm hp (by rw [so_eq]; exact R.ag a1 (by decide) (by decide)) (by rw [so_eq, ho1, sf_eq]) (sg 0 _ (by omega)) (sg _ _ (by omega)) (by omega) (by rw [Nat.add_assoc at_]; exact sg _ _ (by omega)) (fun q => by omega) hx6 hx7 (fun q => by omega) (fun q => by omega) (fun q => by omega) r hr
    rw [so_eq] at q2
    rw [if_pos c, if_pos rfl, g]
    refine ⟨S', rfl, me1.trans q1, ?_⟩
    revert q2
    cases r with
    | inl v => intro q2; exact ⟨q2.1.trans (a1.1 5 (by decide)), q2.2.trans (a1.2.2.1 4 (by decide))⟩
    | inr t => exact id
  · have f32 : fmN a = 32 := by unfold fmN; rw [if_neg (by omega)]
    rw [f32] at hr nd' hs
    obtain ⟨kd, ln⟩ := maySl_kd hm
    have kd : K.1 = 2 := by
      rw [kd]
      unfold slKd
      rw [if_neg (by omega), if_neg (by omega)]
    have hsec : secF (seg rnd 0 32) = true := hs.resolve_left (by omega)
    obtain ⟨S2, g2, f2, a2, mk2, d2, E2, P2, U2, V2, D2⟩ := QM_agreeFresh (G := G) (F := F) (S := S.so 13 0 o1) (A := A) (K := K) (k := k) (a := a) (w := w) (at_ := at_) (x6 := x6) (x7 := x7) (rows := rows) (βr := βr) (sec := seg rnd 0 32) X h hmm M1.1 (by rw [so_eq]; exact M1.2.1) (by rw [so_eq]; exact M1.2.2) (by rw [so_eq]; exact KK.agr a1 (by decide)) hk e kd ha (by omega) hw (by rw [so_eq]; exact (R.ag a1 (by decide) (by decide)).1) (by rw [so_eq]; exact (R.ag a1 (by decide) (by decide)).2) (hx6 (by omega)) (hx7 (by omega)) (by omega) (sg 0 32 (by omega)) hsec
    rw [so_eq] at a2
    have a02 : agr [127, 37, 73, 110, 111] [] afA [33, 34] (S 13 0) (S2 13 0) := (a1.mono (by simp) (by simp) (by simp) (by simp)).trans (a2.mono (by simp) (by simp) (by simp) (by simp))
    have me2 : ME S S2 := ⟨(me1.1).trans (f2.mono (by simp)), a02.mono (by simp) (by simp) (by simp [afA]) (by simp), mk2, d2, E2⟩
    obtain ⟨S', g, q1, q2⟩ := QM_enc248 (G := G) (F := F) (S := S2) (A := A) (K := K) (k := k) (a := a) (w := w) (p := p) (at_ := at_ + 32) (x6 := x6) (x7 := x7) (rows := rows) (βr := βr) (fs := seg rnd 0 32) (ck := seg rnd 32 (kmN a w)) (sd := seg rnd (32 + kmN a w) (smN a)) (iv := seg rnd (32 + kmN a w + smN a) (ivOf w)) (pt := epF (seg rnd 0 32)) (u := (rwO rows x6).getD []) (v := (rwO rows x7).getD []) X h hmm mk2 d2 E2 (bx.ag a02 (by decide) (by decide)) (KK.agr a02 (by decide)) hk e ha hw hm hp (R.ag a02 (by decide) (by decide)) (by rw [a2.1 127 (by decide), ho1, sf_eq]) (sg _ _ (by omega)) (by rw [Nat.add_assoc at_]; exact sg _ _ (by omega)) (by omega) (by rw [Nat.add_assoc at_, Nat.add_assoc at_]; exact sg _ _ (by omega)) (fun _ => D2) hx6 hx7 (fun _ => P2) (fun _ => U2) (fun _ => V2) r hr
    rw [if_neg c, if_neg (by decide), rcv_m h.lo, bO_s, g2, bO_s, show (Int32.ofNat at_) + (32 : Int32) = (Int32.ofNat (at_ + 32)) from n_addL at_ 32, g]
    refine ⟨S', rfl, me2.trans q1, ?_⟩
    revert q2
    cases r with
    | inl v => intro q2; exact ⟨q2.1.trans (a02.1 5 (by decide)), q2.2.trans (a02.2.2.1 4 (by decide))⟩
    | inr t => exact id
theorem QM_encrypt {k a w p q : Nat} {x6 x7 : Int32} {rows : Nat → List UInt8} (X : Cx G F W) (h : isM W) (hmm : isMm W) (mk : MK S) (dg : mDig (S 13 0)) (E : mEv (S 13 0)) (bx : oBX (S 13 0)) (KK : KM (S 13 0) A) (hR : mRows (S 13 0) rows) (hk : k < 16) (e : A k = some K) (ha : a < 6) (hw : w < 4) (hp : p < 8) (hq : q < 8) (hx6 : 4 ≤ a → ron x6 = true) (hx7 : 4 ≤ a → ron x7 = true) (r : Int32 ⊕ List UInt8) (hr : r = encV a w K (rows q) (rows p) (rwO rows x6) (rwO rows x7)) : ∃ S', P_X13_encrypt G F (W.ad (.o 13 0)) (Int32.ofNat k) (Int32.ofNat a) (Int32.ofNat w) (Int32.ofNat p) (Int32.ofNat q) x6 x7 (mem W S) = some (ansT r, mem W S') ∧ ME S S' ∧ outM (S 13 0) (S' 13 0) r := by
  obtain ⟨βr, w1, w2⟩ := id hR
  have R : rwM (S 13 0) βr rows := ⟨w1, w2⟩
  obtain ⟨w3, w4, w5⟩ := w2 q hq
  have hn : isMn W := ⟨hmm.2.2.1, hmm.2.2.2.2.2⟩
  have ms := oM_maySeal (G := G) (F := F) (S := S) (o := S 13 0) (k := k) (w := a) (way := w) false X h KK hk e (by omega) hw
  rw [so_self] at ms
  have ms : P_X13_maySeal G F (W.ad (.o 13 0)) (Int32.ofNat k) (Int32.ofNat a) (Int32.ofNat w) 0 (mem W S) = _ := ms
  have km := kmN_le a w
  have sm := smN_le a
  have fm := fmN_le a
  have iv := ivOf_le w
  have wk := wayK_le w
  have e8 : (8192 : Int32) * (Int32.ofNat q) = (Int32.ofNat (8192 * q)) := n_mul 8192 q
  have rd3 : ∀ S' : ST, (S' 13 0).a 3 = (S 13 0).a 3 → aI G (mem W S') 0 (W.ad (.a 13 0 3)) (Int32.ofNat q) = some (Int32.ofNat (rows q).length) := fun S' z => by rw [h.aN rfl (show q < mLen 3 from hq) (by decide), z, w3]
  -- what was drawn
  have e181 : maySl K a w false = true → ∃ S', B_X13_encrypt_181 G F (W.ad (.o 13 0)) (Int32.ofNat k) (Int32.ofNat a) (Int32.ofNat w) (Int32.ofNat p) (Int32.ofNat q) x6 x7 (if a ≤ 3 then 0 else 1) (Int32.ofNat (wayK w)) (if a = 0 ∨ a = 4 then 0 else 1) (Int32.ofNat (8192 * q)) (Int32.ofNat (fmN a + kmN a w)) (Int32.ofNat (smN a)) (mem W S) = some (ansT r, mem W S') ∧ ME S S' ∧ outM (S 13 0) (S' 13 0) r := by
    intro c
    have hr : r = encT a w K (rows q) (rows p) (rwO rows x6) (rwO rows x7) := by
      rw [hr]
      unfold encV
      rw [if_pos c]
    have go : ∀ S1 : ST, ME S S1 → agr [] [] [60] [] (S 13 0) (S1 13 0) → ndN a w ≤ (rows q).length → (a < 4 ∨ secF (seg (rows q) 0 (fmN a)) = true) → ∃ S', B_X13_encrypt_222 G F (W.ad (.o 13 0)) (Int32.ofNat k) (Int32.ofNat a) (Int32.ofNat w) (Int32.ofNat p) x6 x7 (if a ≤ 3 then 0 else 1) (Int32.ofNat (wayK w)) (if a = 0 ∨ a = 4 then 0 else 1) (Int32.ofNat (8192 * q)) (mem W S1) = some (ansT r, mem W S') ∧ ME S S' ∧ outM (S 13 0) (S' 13 0) r := by
      intro S1 me a1 nd hs
      obtain ⟨S', g, q1, q2⟩ := QM_enc222 (G := G) (F := F) (S := S1) (A := A) (K := K) (k := k) (a := a) (w := w) (p := p) (at_ := 8192 * q) (x6 := x6) (x7 := x7) (rows := rows) (βr := βr) (rnd := rows q) X h hmm me.2.2.1 me.2.2.2.1 me.2.2.2.2 (bx.ag a1 (by decide) (by decide)) (KK.agr a1 (by decide)) hk e ha hw c hp (R.ag a1 (by decide) (by decide)) nd w5 (by omega) hs hx6 hx7 r hr
      refine ⟨S', g, me.trans q1, ?_⟩
      revert q2
      cases r with
      | inl v => intro q2; exact ⟨q2.1.trans (a1.1 5 (by decide)), q2.2.trans (a1.2.2.1 4 (by decide))⟩
      | inr t => exact id
    unfold B_X13_encrypt_181
    rw [oM_begOf hw, bP_s, h.gR 3 rfl (by decide), bO_s, rd3 S rfl, bO_s, n_add, n_add]
    have en : fmN a + kmN a w + smN a + ivOf w = ndN a w := rfl
    rw [en]
    have xl : ((Int32.ofNat (rows q).length) < (Int32.ofNat (ndN a w))) = ((rows q).length < ndN a w) := propext (n_lt (by omega) (by omega))
    simp only [xl]
    by_cases c1 : (rows q).length < ndN a w
    · have hr : r = .inl (-4) := by
        rw [hr]
        unfold encT
        rw [if_neg (fun q => by omega)]
      rw [if_pos c1, hr]
      exact ⟨S, rfl, ME.refl mk dg E, ⟨rfl, rfl⟩⟩
    rw [if_neg c1]
    by_cases c3 : a ≤ 3
    · rw [if_pos (show (if a ≤ 3 then (0 : Int32) else 1) = 0 by rw [if_pos c3])]
      exact go S (ME.refl mk dg E) (agr.refl _ _ _ _ _) (by omega) (Or.inl (by omega))
    · have f32 : fmN a = 32 := by unfold fmN; rw [if_neg (by omega)]
      obtain ⟨Q, MN, ⟨β63, h63, e63⟩, ⟨β64, h64, e64⟩, ⟨β65, h65, e65⟩, β67, h67⟩ := id mk
      have nd' : fmN a + kmN a w + smN a + ivOf w ≤ (rows q).length := by show ndN a w ≤ _; omega
      have ek : rdB βr (8192 * q) 32 = seg (rows q) 0 (fmN a) := by
        rw [f32, ← w5, seg_rd (by omega)]
        rfl
      obtain ⟨S1, g1, f1⟩ := QM_isSecret (G := G) (F := F) (S := S) (kb := 2) (p := 8192 * q) X h hn.1 hn.2 rfl (by decide) (by show _ ≤ 65536; omega) MN w1
      rw [ek] at g1
      have a1 := f1.agr (as := [60]) (by simp)
      have fr1 : fr [(13, 0)] S S1 := f1.fr (L' := [(13, 0)]) (by simp [ow])
      have mk1 : MK S1 := ⟨Q.ag fr1 (by simp) a1 (by decide), MN.ifr f1 (by simp) (by simp) (by simp), ⟨β63, a1.mB h63 (by decide), e63⟩, ⟨β64, a1.mB h64 (by decide), e64⟩, ⟨β65, a1.mB h65 (by decide), e65⟩, β67, a1.mB h67 (by decide)⟩
      have E1 : mEv (S1 13 0) := E.keep a1 (fun n hn z => by
        rw [List.mem_singleton] at hn
        rw [hn] at z
        exact absurd z (by decide))
      have me1 : ME S S1 := ⟨fr1.mono (by simp), a1.mono (by simp) (by simp) (by simp) (by simp), mk1, a1.mDig dg (by decide), E1⟩
      rw [if_neg (show ¬ (if a ≤ 3 then (0 : Int32) else 1) = 0 by rw [if_neg c3]; decide), h.gR 2 rfl (by decide), bO_s, rcv_m h.lo, bO_s, g1, bP_s]
      cases cs : secF (seg (rows q) 0 (fmN a)) with
      | false =>
        have hr : r = .inl (-4) := by
          rw [hr]
          unfold encT
          rw [if_neg (fun q => q.2.elim (by omega) (by rw [cs]; decide))]
        rw [if_pos (show (if false = true then (1 : Int32) else 0) = 0 from rfl), hr]
        exact ⟨S1, rfl, me1, ⟨a1.1 5 (by decide), a1.2.2.1 4 (by decide)⟩⟩
      | true =>
        rw [if_neg (show ¬ (if true = true then (1 : Int32) else 0) = 0 by decide)]
        exact go S1 me1 a1 (by omega) (Or.inr cs)
  have e158 : maySl K a w false = true → ∃ S', B_X13_encrypt_158 G F (W.ad (.o 13 0)) (Int32.ofNat k) (Int32.ofNat a) (Int32.ofNat w) (Int32.ofNat p) (Int32.ofNat q) x6 x7 (if a ≤ 3 then 0 else 1) (Int32.ofNat (wayK w)) (if a = 0 ∨ a = 4 then 0 else 1) (Int32.ofNat (8192 * q)) (Int32.ofNat (fmN a)) (mem W S) = some (ansT r, mem W S') ∧ ME S S' ∧ outM (S 13 0) (S' 13 0) r := by
    intro c
    obtain ⟨S', g, rest⟩ := e181 c
    refine ⟨S', ?_, rest⟩
    rw [← g]
    unfold B_X13_encrypt_158
    have h6 : a = 0 ∨ a = 1 ∨ a = 2 ∨ a = 3 ∨ a = 4 ∨ a = 5 := by omega
    rcases h6 with rfl | rfl | rfl | rfl | rfl | rfl
    · rw [if_pos (by decide), if_neg (by decide)]; rfl
    · rw [if_neg (by decide), if_neg (by decide), n_add]; rfl
    · rw [if_neg (by decide), if_neg (by decide), n_add]; rfl
    · rw [if_neg (by decide), if_pos (by decide), n_add]; rfl
    · rw [if_pos (by decide), if_neg (by decide)]; rfl
    · rw [if_neg (by decide), if_neg (by decide), n_add]; rfl
  have e103 : ∃ S', B_X13_encrypt_103 G F (W.ad (.o 13 0)) (Int32.ofNat k) (Int32.ofNat a) (Int32.ofNat w) (Int32.ofNat p) (Int32.ofNat q) x6 x7 (if a ≤ 3 then 0 else 1) (mem W S) = some (ansT r, mem W S') ∧ ME S S' ∧ outM (S 13 0) (S' 13 0) r := by
    unfold B_X13_encrypt_103 B_X13_encrypt_136
    rw [rcv_m h.lo, bO_s, ms, bP_s]
    by_cases c : maySl K a w false = true
    · obtain ⟨S', g, rest⟩ := e158 c
      refine ⟨S', ?_, rest⟩
      rw [← g, if_pos c, if_neg (by decide), oM_keyOf hw, bP_s, e8]
      have h6 : a = 0 ∨ a = 1 ∨ a = 2 ∨ a = 3 ∨ a = 4 ∨ a = 5 := by omega
      rcases h6 with rfl | rfl | rfl | rfl | rfl | rfl
      · rw [if_pos (by decide), if_pos (by decide)]; rfl
      · rw [if_neg (by decide), if_neg (by decide), if_pos (by decide)]; rfl
      · rw [if_neg (by decide), if_neg (by decide), if_pos (by decide)]; rfl
      · rw [if_neg (by decide), if_neg (by decide), if_pos (by decide)]; rfl
      · rw [if_neg (by decide), if_pos (by decide), if_neg (by decide)]; rfl
      · rw [if_neg (by decide), if_neg (by decide), if_neg (by decide)]; rfl
    · have hr : r = .inl (-26) := by
        rw [hr]
        unfold encV
        rw [if_neg c]
      rw [if_neg c, if_pos rfl, hr]
      exact ⟨S, rfl, ME.refl mk dg E, ⟨rfl, rfl⟩⟩
  have ik := oM_isKey (G := G) (F := F) (S := S) (o := S 13 0) h KK (Int32.ofNat k)
  rw [so_self] at ik
  have ikt : isk A (Int32.ofNat k) = true := by
    rcases isk_cases A (Int32.ofNat k) with ⟨q, _⟩ | ⟨k', hk', ek, e'⟩
    · rcases q with q | q
      · exact absurd q (nn (by omega))
      · have := (n_le (a := 16) (b := k) (by omega) (by omega)).mp q
        omega
    · have := (n_eq (by omega) (by omega)).mp ek
      subst this
      rw [e', e]
      rfl
  obtain ⟨S', g, rest⟩ := e103
  have e60 : B_X13_encrypt_60 G F (W.ad (.o 13 0)) (Int32.ofNat k) (Int32.ofNat a) (Int32.ofNat w) (Int32.ofNat p) (Int32.ofNat q) x6 x7 (if a ≤ 3 then 0 else 1) 1 (mem W S) = some (ansT r, mem W S') := by
    unfold B_X13_encrypt_60
    rw [if_neg (by decide)]
    by_cases c3 : a ≤ 3
    · rw [if_pos (show (if a ≤ 3 then (0 : Int32) else 1) = 0 by rw [if_pos c3]), g]
    · rw [if_neg (show ¬ (if a ≤ 3 then (0 : Int32) else 1) = 0 by rw [if_neg c3]; decide)]
      have r6 : (decide (x6 = -1) || isr x6) = true := hx6 (by omega)
      have r7 : (decide (x7 = -1) || isr x7) = true := hx7 (by omega)
      have t7 : (if x7 = (-1 : Int32) then (B_X13_encrypt_103 G F (W.ad (.o 13 0)) (Int32.ofNat k) (Int32.ofNat a) (Int32.ofNat w) (Int32.ofNat p) (Int32.ofNat q) x6 x7 (if a ≤ 3 then 0 else 1) (mem W S)) else (bP (P_X13_isRow G F x7 (mem W S)) fun v94 M94 => if v94 = 0 then (some ((-2 : Int32), M94)) else (B_X13_encrypt_103 G F (W.ad (.o 13 0)) (Int32.ofNat k) (Int32.ofNat a) (Int32.ofNat w) (Int32.ofNat p) (Int32.ofNat q) x6 x7 (if a ≤ 3 then 0 else 1) M94))) = some (ansT r, mem W S') := by
        by_cases c7 : x7 = -1
        · rw [if_pos c7, g]
        · rw [decide_eq_false c7, Bool.false_or] at r7
          rw [if_neg c7, Q13_isRow, bP_s, r7, if_neg (by decide), g]
      by_cases c6 : x6 = -1
      · rw [if_pos c6]
        exact t7
      · rw [decide_eq_false c6, Bool.false_or] at r6
        rw [if_neg c6, Q13_isRow, bP_s, r6, if_neg (by decide)]
        exact t7
  have e10 : B_X13_encrypt_10 G F (W.ad (.o 13 0)) (Int32.ofNat k) (Int32.ofNat a) (Int32.ofNat w) (Int32.ofNat p) (Int32.ofNat q) x6 x7 (if a ≤ 3 then 0 else 1) (mem W S) = some (ansT r, mem W S') := by
    unfold B_X13_encrypt_10
    rw [rcv_m h.lo, bO_s, ik, bP_s, ikt, if_pos (show true = true from rfl), if_neg (by decide), if_neg (nn (by omega)), if_neg (show ¬ (6 : Int32) ≤ (Int32.ofNat a) from fun q => by have := (n_le (a := 6) (by omega) (by omega)).mp q; omega), if_neg (nn (by omega)), if_neg (show ¬ (4 : Int32) ≤ (Int32.ofNat w) from fun q => by have := (n_le (a := 4) (by omega) (by omega)).mp q; omega), Q13_isRow, bP_s, isr_i hp, if_neg (by decide), Q13_isRow, bP_s, isr_i hq, if_neg (by decide), e60]
  refine ⟨S', ?_, rest⟩
  unfold P_X13_encrypt
  by_cases c3 : a ≤ 3
  · rw [if_pos c3] at e10
    rw [if_pos (show (Int32.ofNat a) ≤ (3 : Int32) from (n_le (b := 3) (by omega) (by omega)).mpr c3), e10]
  · rw [if_neg c3] at e10
    rw [if_neg (show ¬ (Int32.ofNat a) ≤ (3 : Int32) from fun q => c3 ((n_le (b := 3) (by omega) (by omega)).mp q)), e10]
end ME2
