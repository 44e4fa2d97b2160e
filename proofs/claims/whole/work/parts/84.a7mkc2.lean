/-! THE CONTENT'S KEY OF A SEALED TOKEN: the model, all ways -/
section MK2
variable {W : WR} {G : mG} {F : Nat} {S : ST} {A : Nat → Option KY} {K : KY}
theorem QM_keyComes {k a w : Nat} {sk pt u v : List UInt8} {β126 : Nat → UInt8} (X : Cx G F W) (h : isM W) (hmm : isMm W) (mk : MK S) (dg : mDig (S 13 0)) (E : mEv (S 13 0)) (bx : oBX (S 13 0)) (KK : KM (S 13 0) A) (hk : k < 16) (e : A k = some K) (ha : a < 6) (hw : w < 4) (hm : maySl K a w true = true) (b126 : mB (S 13 0) 126 β126) (r126 : rdB β126 0 sk.length = sk) (skl : sk.length ≤ 8192) (f127 : (S 13 0).f 127 = (Int32.ofNat sk.length)) (P : 4 ≤ a → (∃ β, mB (S 13 0) 107 β ∧ rdB β 0 64 = pt) ∧ onC (beN (seg pt 0 32)) (beN (seg pt 32 32)) = true ∧ pyM (S 13 0) 110 108 u ∧ pyM (S 13 0) 111 109 v ∧ u.length ≤ 8192 ∧ v.length ≤ 8192) : ∃ S', P_X13_keyComes G F (W.ad (.o 13 0)) (Int32.ofNat k) (Int32.ofNat a) (Int32.ofNat w) (mem W S) = some (if (kcW a w K sk pt u v).isSome = true then 1 else 0, mem W S') ∧ fr [(12, 0), (12, 1), (13, 0)] S S' ∧ agr [37, 44, 73] [] kcA [33, 34] (S 13 0) (S' 13 0) ∧ MK S' ∧ mDig (S' 13 0) ∧ mEv (S' 13 0) ∧ ∀ ck, kcW a w K sk pt u v = some ck → ∃ β, mB (S' 13 0) 125 β ∧ rdB β 0 ck.length = ck := by
  obtain ⟨α85, α87, α89, b85, b87, b89, ⟨k1, k2, k3, k4⟩, ⟨l1, r1⟩, ⟨l2, r2⟩, ⟨l3, r3⟩, V_⟩ := KK.at_ hk e
  obtain ⟨kd, ln⟩ := maySl_kd hm
  have wk := wayK_le w
  have x3 : ((Int32.ofNat a) = (3 : Int32)) = (a = 3) := propext (n_eq (b := 3) (by omega) (by omega))
  have x3' : ((Int32.ofNat a) ≤ (3 : Int32)) = (a ≤ 3) := propext (n_le (b := 3) (by omega) (by omega))
  unfold P_X13_keyComes
  rw [oM_keyOf hw, bP_s]
  simp only [x3, x3']
  by_cases c3 : a = 3
  · subst c3
    have ln : (decide (66 + wayK w ≤ K.2.1.1.length) && (!true || K.2.1.2.2.isSome)) = true := ln
    rw [Bool.and_eq_true, decide_eq_true_iff] at ln
    obtain ⟨S', g, f, a_, m1, m2, m3, q⟩ := QM_openRsa (G := G) (F := F) (S := S) (A := A) (K := K) (k := k) (sk := sk) X h hmm mk dg E KK hk e kd (by omega) b126 r126 skl f127
    have ew : kcW 3 w K sk pt u v = match oaO K.2.1.1 sk (K.2.1.2.2.getD []) with | none => none | some ck => if ck.length = wayK w then some ck else none := rfl
    rw [if_pos rfl, rcv_m h.lo, bO_s, g, bP_s, ew]
    refine ⟨S', ?_, f.mono (by simp), a_.mono (by simp) (by simp) (by simp [orA]) (by simp), m1, m2, m3, ?_⟩
    · cases eo : oaO K.2.1.1 sk (K.2.1.2.2.getD []) with
      | none =>
        show (if (-1 : Int32) = (Int32.ofNat (wayK w)) then _ else _) = _
        rw [if_neg (fun q => n_nm (by omega) q.symm)]
        rfl
      | some mm =>
        have mle : mm.length ≤ 100000 := by
          unfold oaO at eo
          split at eo
          · have := oaN_len _ _ _ eo
            rw [oaU_len, powF_len] at this
            rw [show (Ma K).length = K.2.1.1.length by unfold Ma; rw [if_neg (by rw [kd]; decide)]] at l1
            omega
          · exact absurd eo (by simp)
        show (if (Int32.ofNat mm.length) = (Int32.ofNat (wayK w)) then _ else _) = some (if (if mm.length = wayK w then some mm else none).isSome = true then 1 else 0, _)
        by_cases c : mm.length = wayK w
        · rw [if_pos (by rw [c]), if_pos c]
          rfl
        · rw [if_neg (fun q => c ((n_eq (by omega) (by omega)).mp q)), if_neg c]
          rfl
    · intro ck hck
      cases eo : oaO K.2.1.1 sk (K.2.1.2.2.getD []) with
      | none =>
        rw [eo] at hck
        exact absurd hck (by simp)
      | some mm =>
        rw [eo] at hck
        have hck : (if mm.length = wayK w then some mm else none) = some ck := hck
        by_cases c : mm.length = wayK w
        · rw [if_pos c] at hck
          rw [← Option.some.inj hck]
          exact q mm eo
        · rw [if_neg c] at hck
          exact absurd hck (by simp)
  rw [if_neg c3]
  by_cases c : a ≤ 3
  · obtain ⟨o', g, M, a_, q⟩ := QM_kc57 (G := G) (F := F) (S := S) (A := A) (K := K) (k := k) (a := a) (w := w) (sk := sk) (pt := pt) (u := u) (v := v) X h mk dg E bx KK hk e ha c3 hw hm b126 r126 skl f127 (fun q => by omega)
    rw [if_pos c, g]
    exact ⟨_, rfl, fr_so (by simp), by rw [so_eq]; exact a_.mono (by simp) (by simp) (by simp) (by simp), M.1, by rw [so_eq]; exact M.2.1, by rw [so_eq]; exact M.2.2, fun ck z => by rw [so_eq]; exact q ck z⟩
  · have ha4 : 4 ≤ a := by omega
    have hp : isMp W := ⟨hmm.2.1, hmm.2.2.2.2.1, h⟩
    have kd : K.1 = 2 := by
      rw [kd]
      unfold slKd
      rw [if_neg (by omega), if_neg (by omega)]
    have ls : K.2.1.2.2.isSome = true := by
      unfold slLn at ln
      rw [if_neg (by omega), if_neg (by omega), if_neg (by omega), if_neg (by omega)] at ln
      exact ln
    obtain ⟨d, hd'⟩ := Option.isSome_iff_exists.mp ls
    obtain ⟨dl, ds⟩ := (V_.ec kd).2 d hd'
    have dg' : K.2.1.2.2.getD [] = d := by rw [hd']; rfl
    have em : Md K = d := dg'
    rw [em, dl] at r3
    rw [seg_all dl] at ds
    obtain ⟨⟨β107, b107, e107⟩, on, U, V, ul, vl⟩ := P ha4
    obtain ⟨S1, g1, f1, a1, mk1, d1, E1, D1⟩ := QM_agree (G := G) (F := F) (S := S) (kb := 107) (p := 0) (ks := 89) (ps := 128 * k) (a := a) (w := w) (sec := d) (pt := pt) (u := u) (v := v) X h hp mk dg E ha ha4 hw rfl rfl (by decide) (by decide) (by decide) (by show _ ≤ 2048; omega) (by decide) b107 b89 e107 r3 ds on U V ul vl
    have g1 : P_X13_agree G F (W.ad (.o 13 0)) (W.ad (.a 13 0 89)) (Int32.ofNat (128 * k)) (W.ad (.a 13 0 107)) 0 (Int32.ofNat a) (Int32.ofNat w) (mem W S) = _ := g1
    rw [← dg'] at D1
    obtain ⟨o', g, M, a_, q⟩ := QM_kc57 (G := G) (F := F) (S := S1) (A := A) (K := K) (k := k) (a := a) (w := w) (sk := sk) (pt := pt) (u := u) (v := v) X h mk1 d1 E1 (oBX.ag bx a1 (by decide) (by decide)) (KK.agr a1 (by decide)) hk e ha c3 hw hm (a1.mB b126 (by decide)) r126 skl (by rw [a1.1 127 (by decide), f127]) (fun _ => D1)
    rw [if_neg c, h.gR 89 rfl (by decide), bO_s, h.gR 107 rfl (by decide), bO_s, rcv_m h.lo, bO_s, show (128 : Int32) * (Int32.ofNat k) = (Int32.ofNat (128 * k)) from n_mul 128 k, g1, bP_s, if_neg (by decide), g]
    refine ⟨_, rfl, (f1.mono (by simp)).trans (fr_so (by simp)), ?_, M.1, by rw [so_eq]; exact M.2.1, by rw [so_eq]; exact M.2.2, fun ck z => by rw [so_eq]; exact q ck z⟩
    rw [so_eq]
    exact (a1.mono (by simp) (by simp) (by simp [agA]) (by simp)).trans (a_.mono (by simp) (by simp) (by simp) (by simp))
end MK2
