/-! THE MODEL'S CURVE: getPoint, isSecret; THE CALL multiply -/
theorem onC_base : onC bX_ bY_ = true := by decide +kernel
abbrev GPL (kt : Nat) : List Nat := [67, kt, 70, 71, 72, 74, 75, 76, 77, 78]
section MGET
variable {W : WR} {G : mG} {F : Nat} {S : ST} {V : Nat → Int}
theorem kd1_no {kt : Nat} (qt : (kdA 13)[kt]? = some 1) : kt ∉ [66, 68, 69, 70, 71, 72, 74, 75, 76, 77, 78] := by
  intro q
  simp at q
  rcases q with rfl | rfl | rfl | rfl | rfl | rfl | rfl | rfl | rfl | rfl | rfl <;> exact absurd qt (by decide)
theorem mcl_kt {kt k : Nat} (qt : (kdA 13)[kt]? = some 1) (hk : k < 11) : mwC k ≠ .a 13 0 kt := by
  obtain ⟨q, hq, e⟩ := mcl_ig k hk
  intro e2
  rw [e] at e2
  have : q = kt := by simpa using e2
  rw [this] at hq
  exact kd1_no qt hq
theorem MP.by {kt : Nat} {f : Nat → Int32} (qt : (kdA 13)[kt]? = some 1) (C : MP S V) : MP (ist S (.a 13 0 kt) f) V := by
  have fi : ifr [.a 13 0 kt] S (ist S (.a 13 0 kt) f) := ifr_ist (by simp)
  refine ⟨C.1.ifr fi (by simp) (by simp) (by simp), fun k hk => ?_⟩
  unfold GV
  rw [fi.2 _ (by simp; exact mcl_kt qt hk)]
  exact C.2 k hk
set_option maxHeartbeats 2000000 in
theorem QM_getPoint {s : JP} {kt pt : Nat} {β63 βt : Nat → UInt8} (X : Cx G F W) (h : isM W) (hp : isMp W) (qt : (kdA 13)[kt]? = some 1) (nt : kt ≠ 67) (n63 : kt ≠ 63) (lt_ : mLen kt < 2 ^ 30) (rt : pt + 64 ≤ mLen kt) (C : MP S V) (J : GJ S V s) (h63 : mB (S 13 0) 63 β63) (e63 : rdB β63 0 32 = beV 32 pP) (h67 : ∃ β, mB (S 13 0) 67 β) (ht : mB (S 13 0) kt βt) : ∃ S' V', P_X13_getPoint G F (W.ad (.o 13 0)) (W.ad (.a 13 0 kt)) (Int32.ofNat pt) (mem W S) = some (if (affS s).isSome = true then 1 else 0, mem W S') ∧ fr [(12, 1), (13, 0)] S S' ∧ agr [] [] (GPL kt) [] (S 13 0) (S' 13 0) ∧ MP S' V' ∧ (∀ k, 8 ≤ k → V' k = V k) ∧ (∃ β, mB (S' 13 0) 67 β) ∧ match affS s with | some q => mB (S' 13 0) kt (wrB βt pt (ptB q)) | none => S' = S := by
  unfold P_X13_getPoint
  rw [h.gI 73 rfl, bO_s]
  match s, J with
  | none, J =>
    have J : (S 13 0).f 73 = 1 := J
    rw [J, if_neg (by decide), retZ0]
    exact ⟨S, V, rfl, fr.refl _ _, agr.refl _ _ _ _ _, C, fun _ _ => rfl, h67, rfl⟩
  | some (x, y, z), J =>
    obtain ⟨jf, rfl, rfl, rfl, hz⟩ := J
    obtain ⟨β67, h67⟩ := h67
    obtain ⟨γ, u1, r1⟩ := QM_lessTwo (G := G) (F := F) (S := S) X h (k := 63) rfl (by decide) (by decide) (by decide) h63 h67
    have e31 : β63 31 = 255 := by
      have h1 := rdB_at (β := β63) (p := 0) (n := 32) (j := 31) (by decide)
      rw [e63] at h1
      have h2 : (beV 32 pP)[31]? = some 255 := by decide +kernel
      rw [h2] at h1
      exact (Option.some.inj h1).symm
    rw [e63, e31] at r1
    have r1' : rdB γ 0 32 = beV 32 (pP - 2) := r1.trans lt_p
    obtain ⟨S1, hS1⟩ : ∃ S1, S1 = ist S (.a 13 0 67) (fun j => sb (γ j)) := ⟨_, rfl⟩
    have u1' : P_X13_setLessTwo G F (W.ad (.o 13 0)) (W.ad (.a 13 0 63)) (mem W S) = some (mem W S1) := by rw [hS1]; exact u1
    have f1 : ifr [.a 13 0 67] S S1 := by rw [hS1]; exact ifr_ist (by simp)
    have C1 : MP S1 V := by rw [hS1]; exact C.by rfl
    have b1 : mB (S1 13 0) 67 γ := by rw [hS1]; exact mB_ist _ _ _
    have o := fun k hk => mcl_ok (W := W) h k hk
    obtain ⟨S2, g2, f2, m2, v2⟩ := Q12_power (G := G) (F := F) (S := S1) (p := 0) (size := 32) (x := rs pP (V 2)) X h hp.d (kb := 67) rfl (by decide) (o 2 (by decide)) (by omega) (o 3 (by decide)) (by omega) (by decide) (by decide) (by rw [mcl_ow 2 (by decide)]; decide) (by rw [mcl_ow 3 (by decide)]; decide) C1.1 b1 (C1.2 2 (by decide))
    rw [r1', mf_lead pP_1] at v2
    have C2 : MP S2 (iu V 3 (zin (V 2))) := C1.put (by decide) f2 (by simp) v2
    have g2' : P_X12_power G F (W.ad (.o 12 1)) (W.ad (.a 13 0 72)) (W.ad (.a 13 0 67)) 0 32 (W.ad (.a 13 0 74)) (mem W S1) = some (mem W S2) := g2
    obtain ⟨U2, hU2⟩ : ∃ U, U = iu V 3 (zin (V 2)) := ⟨_, rfl⟩
    rw [← hU2] at C2
    obtain ⟨S3, g3, f3, C3⟩ := gm_product (G := G) (F := F) X h hp C2 3 3 4 (by decide) (by decide) (by decide)
    have g3' : P_X12_product G F (W.ad (.o 12 1)) (W.ad (.a 13 0 74)) (W.ad (.a 13 0 74)) (W.ad (.a 13 0 75)) (mem W S2) = some (mem W S3) := g3
    obtain ⟨U3, hU3⟩ : ∃ U, U = iu U2 4 (U2 3 * U2 3) := ⟨_, rfl⟩
    rw [← hU3] at C3
    obtain ⟨S4, g4, f4, C4⟩ := gm_product (G := G) (F := F) X h hp C3 0 4 5 (by decide) (by decide) (by decide)
    have g4' : P_X12_product G F (W.ad (.o 12 1)) (W.ad (.a 13 0 70)) (W.ad (.a 13 0 75)) (W.ad (.a 13 0 76)) (mem W S3) = some (mem W S4) := g4
    obtain ⟨U4, hU4⟩ : ∃ U, U = iu U3 5 (U3 0 * U3 4) := ⟨_, rfl⟩
    rw [← hU4] at C4
    obtain ⟨S5, g5, f5, C5⟩ := gm_product (G := G) (F := F) X h hp C4 4 3 4 (by decide) (by decide) (by decide)
    have g5' : P_X12_product G F (W.ad (.o 12 1)) (W.ad (.a 13 0 75)) (W.ad (.a 13 0 74)) (W.ad (.a 13 0 75)) (mem W S4) = some (mem W S5) := g5
    obtain ⟨U5, hU5⟩ : ∃ U, U = iu U4 4 (U4 4 * U4 3) := ⟨_, rfl⟩
    rw [← hU5] at C5
    obtain ⟨S6, g6, f6, C6⟩ := gm_product (G := G) (F := F) X h hp C5 1 4 6 (by decide) (by decide) (by decide)
    have g6' : P_X12_product G F (W.ad (.o 12 1)) (W.ad (.a 13 0 71)) (W.ad (.a 13 0 75)) (W.ad (.a 13 0 77)) (mem W S5) = some (mem W S6) := g6
    obtain ⟨U6, hU6⟩ : ∃ U, U = iu U5 6 (U5 1 * U5 4) := ⟨_, rfl⟩
    rw [← hU6] at C6
    have ex : U6 5 = V 0 * (zin (V 2) * zin (V 2)) := by simp only [hU6, hU5, hU4, hU3, hU2, iu]; simp
    have ey : U6 6 = V 1 * (zin (V 2) * zin (V 2) * zin (V 2)) := by simp only [hU6, hU5, hU4, hU3, hU2, iu]; simp
    have ek6 : ∀ k, 8 ≤ k → U6 k = V k := by
      intro k hk
      have q : ∀ i, i < 8 → k ≠ i := fun i hi => by omega
      simp only [hU6, hU5, hU4, hU3, hU2, iu, q 3 (by omega), q 4 (by omega), q 5 (by omega), q 6 (by omega), if_false]
    obtain ⟨S7, g7, f7, v7, m7⟩ := Q12_outOf (G := G) (F := F) (S := S6) X hp.d C6.1 (o 5 (by decide)) (by omega) (o 5 (by decide)) (by omega) (by rw [mcl_ow 5 (by decide)]; decide) (by rw [mcl_ow 5 (by decide)]; decide) (C6.2 5 (by decide))
    rw [mf_back pP_1 pP_2, ex] at v7
    obtain ⟨A7, hA7⟩ := mf_any (n := 8) pP_1 pP_2 (rs_lt pP_1 (V 0 * (zin (V 2) * zin (V 2))))
    have C7 : MP S7 (iu U6 5 A7) := C6.put (by decide) f7 (by simp) (by rw [← hA7]; exact v7)
    have g7' : P_X12_outOf G F (W.ad (.o 12 1)) (W.ad (.a 13 0 76)) (W.ad (.a 13 0 76)) (mem W S6) = some (mem W S7) := g7
    obtain ⟨U7, hU7⟩ : ∃ U, U = iu U6 5 A7 := ⟨_, rfl⟩
    rw [← hU7] at C7
    have ey7 : U7 6 = V 1 * (zin (V 2) * zin (V 2) * zin (V 2)) := by rw [hU7]; unfold iu; rw [if_neg (by decide)]; exact ey
    obtain ⟨S8, g8, f8, v8, m8⟩ := Q12_outOf (G := G) (F := F) (S := S7) X hp.d C7.1 (o 6 (by decide)) (by omega) (o 6 (by decide)) (by omega) (by rw [mcl_ow 6 (by decide)]; decide) (by rw [mcl_ow 6 (by decide)]; decide) (C7.2 6 (by decide))
    rw [mf_back pP_1 pP_2, ey7] at v8
    obtain ⟨A8, hA8⟩ := mf_any (n := 8) pP_1 pP_2 (rs_lt pP_1 (V 1 * (zin (V 2) * zin (V 2) * zin (V 2))))
    have C8 : MP S8 (iu U7 6 A8) := C7.put (by decide) f8 (by simp) (by rw [← hA8]; exact v8)
    have g8' : P_X12_outOf G F (W.ad (.o 12 1)) (W.ad (.a 13 0 77)) (W.ad (.a 13 0 77)) (mem W S7) = some (mem W S8) := g8
    have kn := kd1_no qt
    have bt8 : mB (S8 13 0) kt βt := f8.mB (f7.mB (f6.mB (f5.mB (f4.mB (f3.mB (f2.mB (f1.mB ht (by simp; exact nt)) (by simp [mwC]; simp at kn; omega)) (by simp [mwC]; simp at kn; omega)) (by simp [mwC]; simp at kn; omega)) (by simp [mwC]; simp at kn; omega)) (by simp [mwC]; simp at kn; omega)) (by simp [mwC]; simp at kn; omega)) (by simp [mwC]; simp at kn; omega)
    have v78 : IV (igt S8 (mwC 5)) 8 (rs pP (V 0 * (zin (V 2) * zin (V 2)))) := by rw [f8.2 _ (by simp [mwC])]; exact v7
    have g9 := Q12_store (G := G) (F := F) (S := S8) (i := W.ad (.o 12 1)) (p := pt) (size := 32) X h qt lt_ (o 5 (by decide)) (by omega) (by omega) (by omega) (by omega) (mcl_kt qt (by decide)) v78 bt8
    have g9' : P_X12_store G F (W.ad (.o 12 1)) (W.ad (.a 13 0 76)) (W.ad (.a 13 0 kt)) (Int32.ofNat pt) 32 (mem W S8) = _ := g9
    obtain ⟨S9, hS9⟩ : ∃ S9, S9 = ist S8 (.a 13 0 kt) (fun j => sb (wrB βt pt (beV 32 (rs pP (V 0 * (zin (V 2) * zin (V 2))))) j)) := ⟨_, rfl⟩
    rw [← hS9] at g9'
    have f9 : ifr [.a 13 0 kt] S8 S9 := by rw [hS9]; exact ifr_ist (by simp)
    have bt9 : mB (S9 13 0) kt (wrB βt pt (beV 32 (rs pP (V 0 * (zin (V 2) * zin (V 2)))))) := by rw [hS9]; exact mB_ist _ _ _
    have g10 := Q12_store (G := G) (F := F) (n := 8) (S := S9) (i := W.ad (.o 12 1)) (p := pt + 32) (size := 32) X h qt lt_ (o 6 (by decide)) (by omega) (by omega) (by omega) (by omega) (mcl_kt qt (by decide)) (by rw [f9.2 _ (by simp; exact mcl_kt qt (by decide))]; exact v8) bt9
    have g10' : P_X12_store G F (W.ad (.o 12 1)) (W.ad (.a 13 0 77)) (W.ad (.a 13 0 kt)) (Int32.ofNat (pt + 32)) 32 (mem W S9) = _ := g10
    obtain ⟨S10, hS10⟩ : ∃ S10, S10 = ist S9 (.a 13 0 kt) (fun j => sb (wrB (wrB βt pt (beV 32 (rs pP (V 0 * (zin (V 2) * zin (V 2)))))) (pt + 32) (beV 32 (rs pP (V 1 * (zin (V 2) * zin (V 2) * zin (V 2))))) j)) := ⟨_, rfl⟩
    rw [← hS10] at g10'
    have f10 : ifr [.a 13 0 kt] S9 S10 := by rw [hS10]; exact ifr_ist (by simp)
    have C9 : MP S9 (iu U7 6 A8) := by rw [hS9]; exact C8.by qt
    have C10 : MP S10 (iu U7 6 A8) := by rw [hS10]; exact C9.by qt
    have bt10 : mB (S10 13 0) kt (wrB βt pt (ptB (rs pP (V 0 * (zin (V 2) * zin (V 2))), rs pP (V 1 * (zin (V 2) * zin (V 2) * zin (V 2)))))) := by
      have e1 := wrB_app βt pt (beV 32 (rs pP (V 0 * (zin (V 2) * zin (V 2))))) (beV 32 (rs pP (V 1 * (zin (V 2) * zin (V 2) * zin (V 2)))))
      rw [beV_len] at e1
      unfold ptB
      rw [← e1, hS10]
      exact mB_ist _ _ _
    rw [jf, if_pos rfl, h.gR 63 rfl (by decide), bO_s, rcv_m h.lo, bO_s, u1', bO_s, hp.g58, bO_s, h.gR 72 rfl (by decide), bO_s, h.gR 67 rfl (by decide), bO_s, h.gR 74 rfl (by decide), bO_s, rcv_m hp.d.1, bO_s, g2', bO_s, hp.g58, bO_s, h.gR 74 rfl (by decide), bO_s, bO_s, h.gR 75 rfl (by decide), bO_s, rcv_m hp.d.1, bO_s, g3', bO_s, hp.g58, bO_s, h.gR 70 rfl (by decide), bO_s, h.gR 75 rfl (by decide), bO_s, h.gR 76 rfl (by decide), bO_s, rcv_m hp.d.1, bO_s, g4', bO_s, hp.g58, bO_s, h.gR 75 rfl (by decide), bO_s, h.gR 74 rfl (by decide), bO_s, bO_s, rcv_m hp.d.1, bO_s, g5', bO_s, hp.g58, bO_s, h.gR 71 rfl (by decide), bO_s, h.gR 75 rfl (by decide), bO_s, h.gR 77 rfl (by decide), bO_s, rcv_m hp.d.1, bO_s, g6', bO_s, hp.g58, bO_s, h.gR 76 rfl (by decide), bO_s, bO_s, rcv_m hp.d.1, bO_s, g7', bO_s, hp.g58, bO_s, h.gR 77 rfl (by decide), bO_s, bO_s, rcv_m hp.d.1, bO_s, g8', bO_s, hp.g58, bO_s, h.gR 76 rfl (by decide), bO_s, rcv_m hp.d.1, bO_s, g9', bO_s, hp.g58, bO_s, h.gR 77 rfl (by decide), bO_s, rcv_m hp.d.1, bO_s, n_addL pt 32, g10', bO_s, retZ1]
    have FR : ∀ {L : List Cl} {Sa Sb : ST}, ifr L Sa Sb → (∀ x ∈ L, ow x ∈ [(12, 1), (13, 0)]) → fr [(12, 1), (13, 0)] Sa Sb := fun f ho => f.fr ho
    have AG : ∀ {L : List Cl} {Sa Sb : ST}, ifr L Sa Sb → (∀ k, (.a 13 0 k : Cl) ∈ L → k ∈ GPL kt) → agr [] [] (GPL kt) [] (Sa 13 0) (Sb 13 0) := fun f hs => f.agr hs
    refine ⟨S10, _, rfl, (FR f1 (by simp [ow])).trans ((FR f2 (by simp [ow, mwC])).trans ((FR f3 (by simp [ow, mwC])).trans ((FR f4 (by simp [ow, mwC])).trans ((FR f5 (by simp [ow, mwC])).trans ((FR f6 (by simp [ow, mwC])).trans ((FR f7 (by simp [ow, mwC])).trans ((FR f8 (by simp [ow, mwC])).trans ((FR f9 (by simp [ow])).trans (FR f10 (by simp [ow])))))))))), (AG f1 (by simp)).trans ((AG f2 (by simp [mwC])).trans ((AG f3 (by simp [mwC])).trans ((AG f4 (by simp [mwC])).trans ((AG f5 (by simp [mwC])).trans ((AG f6 (by simp [mwC])).trans ((AG f7 (by simp [mwC])).trans ((AG f8 (by simp [mwC])).trans ((AG f9 (by simp)).trans (AG f10 (by simp)))))))))), C10, ?_, ?_, bt10⟩
    · intro k hk
      rw [← ek6 k hk, hU7]
      unfold iu
      rw [if_neg (by omega), if_neg (by omega)]
    · exact ⟨γ, f10.mB (f9.mB (f8.mB (f7.mB (f6.mB (f5.mB (f4.mB (f3.mB (f2.mB b1 (by simp [mwC])) (by simp [mwC])) (by simp [mwC])) (by simp [mwC])) (by simp [mwC])) (by simp [mwC])) (by simp [mwC])) (by simp; exact fun e => nt e.symm)) (by simp; exact fun e => nt e.symm)⟩
theorem QM_isSecret {kb p : Nat} {β : Nat → UInt8} (X : Cx G F W) (h : isM W) (h59 : W.r 13 0 59 = some (.o 12 2)) (hd : isMd W 2) (qb : (kdA 13)[kb]? = some 1) (lb_ : mLen kb < 2 ^ 30) (rb : p + 32 ≤ mLen kb) (M : MdS S 2 8 nP) (hb : mB (S 13 0) kb β) : ∃ S', P_X13_isSecret G F (W.ad (.o 13 0)) (W.ad (.a 13 0 kb)) (Int32.ofNat p) (mem W S) = some (if secF (rdB β p 32) = true then 1 else 0, mem W S') ∧ ifr [.a 13 0 60] S S' := by
  have g59 : ∀ S : ST, gfR (mem W S) (W.ad (.o 13 0)) 13 59 = some (W.ad (.o 12 2)) := fun S => gfR_m h.lo rfl h59
  have o60 := h.iok 60 (by decide) rfl
  have nk : kb ≠ 60 := fun e => by rw [e] at qb; exact absurd qb (by decide)
  obtain ⟨S1, g1, f1, v1⟩ := Q12_load (G := G) (F := F) (S := S) (n := 8) (p := p) (size := 32) X h hd qb lb_ o60 (by omega) (by decide) rb (by omega) (by simpa using nk) M.b.1 hb
  have M1 := M.ifr f1 (by simp) (by simp) (by simp)
  have z1 := Q12_isZero (G := G) (F := F) (S := S1) X hd o60 (by omega) (by decide) M1.b.1 v1
  have od := Q12_order (G := G) (F := F) (S := S1) X hd o60 hd.l0 (by omega) (by decide) (by omega) M1.b.1 v1 M1.b.2.2.2.1
  have g0 : gfR (mem W S1) (W.ad (.o 12 2)) 12 0 = some (W.ad (.a 12 2 0)) := hd.gR (by omega)
  have g1' : P_X12_load G F (W.ad (.o 12 2)) (W.ad (.a 13 0 kb)) (Int32.ofNat p) 32 (W.ad (.a 13 0 60)) (mem W S) = some (mem W S1) := g1
  unfold P_X13_isSecret secF
  rw [g59, bO_s, h.gR 60 rfl (by decide), bO_s, rcv_m hd.1, bO_s, g1', bO_s, g59, bO_s, h.gR 60 rfl (by decide), bO_s, rcv_m hd.1, bO_s, z1, bP_s]
  refine ⟨S1, ?_, f1⟩
  by_cases c1 : beN (rdB β p 32) = 0
  · rw [if_pos c1, if_neg (by decide), retZ0, decide_eq_false (by omega)]
    rfl
  · rw [if_neg c1, if_pos rfl, g59, bO_s, h.gR 60 rfl (by decide), bO_s, bO_s, g0, bO_s, rcv_m hd.1, bO_s, od, bP_s]
    by_cases c2 : nP ≤ beN (rdB β p 32)
    · rw [if_pos (ordF_neg.2.1.mpr c2), retZ0, decide_eq_false (by omega)]
      rfl
    · rw [if_neg (fun q => c2 (ordF_neg.2.1.mp q)), retZ1, decide_eq_true (by omega)]
      rfl
end MGET
