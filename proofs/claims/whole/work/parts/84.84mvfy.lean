/-! CALL verify: the model -/
def outO (o o' : Ob) (r : Option (List UInt8)) : Prop := match r with
  | none => o'.f 5 = o.f 5 ∧ o'.a 4 = o.a 4
  | some t => mOut o' t
section MVY
variable {W : WR} {G : mG} {F : Nat} {A : Nat → Option KY} {J : JT} {bk : Nat}
theorem QM_vrf220 {a rr p1 : Nat} {rows : Nat → List UInt8} {msg sg pay : List UInt8} (X : Cx G F W) (h : isM W) (hmm : isMm W) (hbk : bk ≤ 1) (Y : JX J) (ha : a < 5) (hr : rr < 8) (hmsg : msg = (rows rr).take p1) (hp1 : p1 ≤ (rows rr).length) (hsl : sg.length ≤ 8192) (hpl : pay.length ≤ 8192) : ∀ (m k fuel : Nat) (may : Bool) (S : ST), m < fuel → k + m = 16 → MK S → mDig (S 13 0) → mEv (S 13 0) → KM (S 13 0) A → mRows (S 13 0) rows → MTx (S 13 0) bk J → kdH (S 13 0) bk J → (S 13 0).f 102 = (Int32.ofNat a) → (S 13 0).a 123 1 = (Int32.ofNat p1) → (∃ β, mB (S 13 0) 112 β ∧ rdB β 0 sg.length = sg) → (S 13 0).f 113 = (Int32.ofNat sg.length) → (∃ β, mB (S 13 0) 124 β ∧ rdB β 0 pay.length = pay) → ∃ S', B_X13_verify_220 G F fuel (W.ad (.o 13 0)) (Int32.ofNat (8192 * rr)) (Int32.ofNat pay.length) (if may = true then 1 else 0) (Int32.ofNat k) (mem W S) = some (ansK (vrK A J a msg sg m k may), mem W S') ∧ MT S S' ∧ kpT 2 (S 13 0) (S' 13 0) ∧ outO (S 13 0) (S' 13 0) (match vrK A J a msg sg m k may with | .inl _ => none | .inr _ => some pay) := by
  intro m
  induction m with
  | zero =>
    intro k fuel may S hf hk mk hd E KK hR M kd f102 f123 s112 f113 s124
    obtain ⟨fuel, rfl⟩ : ∃ q, fuel = q + 1 := ⟨fuel - 1, by omega⟩
    refine ⟨S, ?_, MT.refl mk hd E, fun _ _ _ _ _ q => q, ⟨rfl, rfl⟩⟩
    rw [B_X13_verify_220, if_pos (show (16 : Int32) ≤ (Int32.ofNat k) from (n_le (a := 16) (by omega) (by omega)).mpr (by omega))]
    cases may <;> rfl
  | succ m ih =>
    intro k fuel may S hf hk mk hd E KK hR M kd f102 f123 s112 f113 s124
    obtain ⟨fuel, rfl⟩ : ∃ q, fuel = q + 1 := ⟨fuel - 1, by omega⟩
    have k16 : k < 16 := by omega
    have nx := fun may' => ih (k + 1) fuel may' S (by omega) (by omega) mk hd E KK hR M kd f102 f123 s112 f113 s124
    have x102 : gfI (mem W S) (W.ad (.o 13 0)) 13 102 = some (Int32.ofNat a) := by rw [gfI_m h.lo rfl, f102]
    rw [B_X13_verify_220, if_neg (show ¬ (16 : Int32) ≤ (Int32.ofNat k) from fun q => by have := (n_le (a := 16) (by omega) (by omega)).mp q; omega), x102, bO_s, rcv_m h.lo, bO_s]
    cases e : A k with
    | none =>
      have mn := oM_maySign_n (G := G) (F := F) (S := S) (o := S 13 0) (x := (Int32.ofNat a)) (y := 0) X h KK k16 e
      rw [so_self] at mn
      have ev : vrK A J a msg sg (m + 1) k may = vrK A J a msg sg m (k + 1) may := by
        show (match A k with | none => vrK A J a msg sg m (k + 1) may | some K => _) = _
        rw [e]
      rw [mn, bP_s, if_pos rfl, n_i1, ev]
      exact nx may
    | some K =>
      have ms := oM_maySign (G := G) (F := F) (S := S) (o := S 13 0) (w := a) false X h KK k16 e (by omega)
      rw [so_self] at ms
      have ms : P_X13_maySign G F (W.ad (.o 13 0)) (Int32.ofNat k) (Int32.ofNat a) 0 (mem W S) = _ := ms
      have hk_ := oM_hasKid (G := G) (F := F) (S := S) (o := S 13 0) X h KK k16 e M hbk Y kd
      rw [so_self] at hk_
      have ev : vrK A J a msg sg (m + 1) k may = if (kdS J K && maySg K a false) = true then (if svF a K msg sg = true then .inr k else vrK A J a msg sg m (k + 1) true) else vrK A J a msg sg m (k + 1) may := by
        show (match A k with | none => vrK A J a msg sg m (k + 1) may | some K => _) = _
        rw [e]
      rw [ms, bP_s, ev]
      by_cases c2 : maySg K a false = true
      · rw [if_pos c2, if_neg (by decide), rcv_m h.lo, bO_s, hk_, bP_s]
        by_cases c1 : kdS J K = true
        · have cc : (kdS J K && maySg K a false) = true := by rw [c1, c2]; rfl
          simp only [if_pos cc]
          rw [if_pos c1, if_neg (by decide)]
          obtain ⟨βr, w1, w2⟩ := id hR
          obtain ⟨w3, w4, w5⟩ := w2 rr hr
          obtain ⟨⟨γ, hγ⟩, ⟨μ, hμ⟩, ⟨π, hπ⟩, ν, hν⟩ := id hd
          obtain ⟨o1, ho1⟩ : ∃ o1, o1 = (S 13 0).sf 39 0 := ⟨_, rfl⟩
          have m1 : mMsg o1 [] := by rw [ho1]; exact ⟨by rw [sf_eq]; rfl, by decide, ν, hν, rfl⟩
          have a1 : agr [39] [] [38] [] (S 13 0) o1 := by rw [ho1]; exact agr_sf (by simp)
          obtain ⟨o2, g2, m2, a2⟩ := oM_tellM (G := G) (F := F) (S := S) (o := o1) (k := 2) (p := 8192 * rr) (cnt := p1) X h rfl (by decide) (by decide) (by show _ ≤ 65536; omega) m1 (by show 0 + _ ≤ 25000; omega) (a1.mB w1 (by decide))
          have rm : rdB βr (8192 * rr) p1 = msg := by
            rw [hmsg, ← w5, rdB_tk (by omega)]
          rw [rm, List.nil_append] at m2
          have a12 : agr [39] [] [38] [] (S 13 0) o2 := a1.trans a2
          have d2 : mDig o2 := ⟨⟨_, a12.mB hγ (by decide)⟩, ⟨_, a12.mB hμ (by decide)⟩, ⟨_, a12.mB hπ (by decide)⟩, m2.2.2.imp (fun _ q => q.1)⟩
          have E2 : mEv o2 := E.keep a12 (fun q hq _ => by
            rw [List.mem_singleton] at hq
            rw [hq]
            exact d2.2.2.2)
          have mk0 : MK (S.so 13 0 (S 13 0)) := by rw [so_self]; exact mk
          have mk2 : MK (S.so 13 0 o2) := mk0.agL a12 (by decide)
          obtain ⟨β112, b112, r112⟩ := s112
          obtain ⟨β124, b124, r124⟩ := s124
          obtain ⟨S3, g3, f3, a3, mk3, d3, E3⟩ := QM_isSigned (G := G) (F := F) (S := S.so 13 0 o2) (k := k) (a := a) (msg := msg) (sg := sg) X h hmm mk2 (by rw [so_eq]; exact KK.agr a12 (by decide)) k16 e ha c2 (by rw [so_eq]; exact d2) (by rw [so_eq]; exact m2) (by rw [so_eq]; exact E2) (by rw [so_eq]; exact a12.mB b112 (by decide)) r112 (by rw [so_eq, a12.1 113 (by decide)]; exact f113) hsl
          rw [so_eq] at a3
          have f3' : fr [(12, 0), (12, 1), (12, 2), (13, 0)] S S3 := fun c i q => by rw [f3 c i q, so_ne (fun z => q (by rw [z.1, z.2]; simp))]
          have aS3 : agr [37, 39, 73] [] (38 :: viL) [33, 34] (S 13 0) (S3 13 0) := (a12.mono (by simp) (by simp) (by simp) (by simp)).trans (a3.mono (by simp) (by simp) (fun x hx => List.mem_cons_of_mem _ hx) (by simp))
          have MT3 : MT S S3 := ⟨f3', aS3.mono (by simp [tkF]) (by simp) (by simp [tkA, viL]) (by simp), mk3, d3, E3⟩
          have kp3 : kpT 2 (S 13 0) (S3 13 0) := fun bk' J' _ _ _ q => q.agr aS3 (by decide)
          have rd123 : aI G (mem W (S.so 13 0 o1)) 0 (W.ad (.a 13 0 123)) 1 = some (Int32.ofNat p1) := by
            have q := h.aN (G := G) (S := S.so 13 0 o1) (k := 123) (j := 1) rfl (by decide) (by decide)
            have q : aI G (mem W (S.so 13 0 o1)) 0 (W.ad (.a 13 0 123)) 1 = _ := q
            rw [q, so_eq, a1.2.2.1 123 (by decide), f123]
          have x102' : gfI (mem W (S.so 13 0 o2)) (W.ad (.o 13 0)) 13 102 = some (Int32.ofNat a) := by rw [gfI_m h.lo rfl, so_eq, a12.1 102 (by decide), f102]
          have c124 : mB (S3 13 0) 124 β124 := aS3.mB b124 (by decide)
          rw [pfI_m h.lo rfl, bO_s, ← ho1, h.gR 2 rfl (by decide), bO_s, h.gR 123 rfl (by decide), bO_s, rd123, bO_s, rcv_m h.lo, bO_s, g2, bO_s, x102', bO_s, rcv_m h.lo, bO_s, g3, bP_s]
          by_cases c3 : svF a K msg sg = true
          · obtain ⟨β4, h4⟩ := E3 4 rfl
            have t := QM_tell (G := G) (F := F) (S := S3) (k := 124) (p := 0) (cnt := pay.length) X h rfl (by decide) (by decide) (by show _ ≤ 8200; omega) hpl c124 h4
            rw [r124] at t
            have t : P_X13_tell G F (W.ad (.o 13 0)) (W.ad (.a 13 0 124)) 0 (Int32.ofNat pay.length) (mem W S3) = _ := t
            obtain ⟨o4, ho4⟩ : ∃ o4, o4 = ((S3 13 0).sA 4 (fun j => sb (wrB β4 0 pay j))).sf 5 (Int32.ofNat pay.length) := ⟨_, rfl⟩
            rw [← ho4] at t
            have a4 : agr [5] [] [4] [] (S3 13 0) o4 := by rw [ho4]; exact (agr_sA (by simp)).trans (agr_sf (by simp))
            have out4 : mOut o4 pay := by
              rw [ho4]
              exact ⟨by rw [sf_eq], hpl, wrB β4 0 pay, mB_sA _ _ _, rdB_wrB _ _ _⟩
            have MO4 : MO S3 o4 := (MO.of mk3 d3 E3).ag a4 (by decide) (by decide) (fun q hq _ => by
              rw [List.mem_singleton] at hq
              rw [hq]
              exact out4.2.2.imp (fun _ z => z.1))
            simp only [if_pos c3]
            rw [if_neg (by decide), h.gR 124 rfl (by decide), bO_s, rcv_m h.lo, bO_s, t, bP_s]
            refine ⟨S3.so 13 0 o4, rfl, MT3.trans (MO4.t (a4.mono (by simp [tkF]) (by simp) (by simp [tkA]) (by simp))), fun bk' J' z1 z2 z3 q => by rw [so_eq]; exact (kp3 bk' J' z1 z2 z3 q).agr a4 (by decide), ?_⟩
            show mOut ((S3.so 13 0 o4) 13 0) pay
            rw [so_eq]
            exact out4
          · simp only [if_neg c3]
            obtain ⟨kd1, kd2⟩ := kd
            obtain ⟨S4, z1, z2, z3, z4⟩ := ih (k + 1) fuel true S3 (by omega) (by omega) mk3 d3 E3 (KK.agr aS3 (by decide)) (aS3.mRows hR (by decide) (by decide)) (M.agr aS3 (by decide)) ⟨by rw [aS3.1 106 (by decide)]; exact kd1, fun i hi => by rw [aS3.1 105 (by decide)]; exact kd2 i hi⟩ (by rw [aS3.1 102 (by decide)]; exact f102) (by rw [aS3.2.2.1 123 (by decide)]; exact f123) ⟨_, aS3.mB b112 (by decide), r112⟩ (by rw [aS3.1 113 (by decide)]; exact f113) ⟨_, c124, r124⟩
            have z1 : B_X13_verify_220 G F fuel (W.ad (.o 13 0)) (Int32.ofNat (8192 * rr)) (Int32.ofNat pay.length) 1 (Int32.ofNat (k + 1)) (mem W S3) = _ := z1
            rw [if_pos trivial, n_i1, z1]
            refine ⟨S4, rfl, MT3.trans z2, fun bk' J' q1 q2 q3 q4 => z3 bk' J' q1 q2 q3 (kp3 bk' J' q1 q2 q3 q4), ?_⟩
            revert z4
            cases vrK A J a msg sg m (k + 1) true with
            | inl b => intro z4; exact ⟨(show _ ∧ _ from z4).1.trans (aS3.1 5 (by decide)), (show _ ∧ _ from z4).2.trans (aS3.2.2.1 4 (by decide))⟩
            | inr b => exact id
        · have cc : ¬ (kdS J K && maySg K a false) = true := by rw [Bool.eq_false_iff.mpr c1, Bool.false_and]; decide
          simp only [if_neg cc]
          rw [if_neg c1, if_pos rfl, n_i1]
          exact nx may
      · have cc : ¬ (kdS J K && maySg K a false) = true := by rw [Bool.eq_false_iff.mpr c2, Bool.and_false]; decide
        simp only [if_neg cc]
        rw [if_neg c2, if_pos rfl, n_i1]
        exact nx may
end MVY
