/-! THE MODEL'S CALLS keep what holds between calls: numbers, points, seals, texts, keys, tokens -/
section MST3
variable {W : WR} {G : mG} {F : Nat} {S S' : ST} {bk : Nat} {τ t : List UInt8} {rows : Nat → List UInt8} {J : JT} {A : Nat → Option KY}
theorem isMm.p {W : WR} (h : isM W) (m : isMm W) : isMp W := ⟨m.2.1, m.2.2.2.2.1, h⟩
theorem isMm.n {W : WR} (m : isMm W) : isMn W := ⟨m.2.2.1, m.2.2.2.2.2⟩
theorem M_power {x y w : Int32} (X : Cx G F W) (m : MI W S τ rows t bk J A) : MSt (P_X13_power G F (W.ad (.o 13 0)) x y w) (match powC rows x y w with | some u => (Int32.ofNat u.length) | none => -2) W S τ rows (match powC rows x y w with | some u => u | none => t) J A := by
  obtain ⟨m1, m2, m3, m4, m5, m6, m7, m8, m9, m10⟩ := id m
  obtain ⟨S', q, f, ag, b62, n⟩ := QM_power (G := G) (F := F) (S := S) (x := x) (y := y) (z := w) X m1 m2 m9 m8 (m4 62 rfl)
  refine M_gen m q (f.mono (by decide)) (MK_ag m3 (f 12 1 (by decide)) (f 12 2 (by decide)) ag (by decide)) ag (by decide) (by decide) (fun k hk kd => ?_) (ag.mTape m7 (by decide) (by decide)) (ag.mRows m8 (by decide) (by decide)) n
  simp only [List.mem_cons, List.not_mem_nil, or_false] at hk
  rcases hk with rfl | rfl | rfl | rfl
  · exact absurd kd (by decide)
  · exact absurd kd (by decide)
  · exact b62
  · exact oB n
theorem M_multiply {x y : Int32} (X : Cx G F W) (m : MI W S τ rows t bk J A) : MSt (P_X13_multiply G F (W.ad (.o 13 0)) x y) (match mulC rows x y with | some (some u) => (Int32.ofNat u.length) | some none => -1 | none => -2) W S τ rows (match mulC rows x y with | some (some u) => u | some none => t | none => t) J A := by
  obtain ⟨m1, m2, m3, m4, m5, m6, m7, m8, m9, m10⟩ := id m
  obtain ⟨S', q, f, ag, mk, b79, n⟩ := QM_multiply (G := G) (F := F) (S := S) (x := x) (y := y) pr_p X m1 (m2.p m1) m3 m9 m8 (m4 79 rfl)
  refine M_gen m q (f.mono (by decide)) mk ag (by decide) (by decide) (fun k hk kd => ?_) (ag.mTape m7 (by decide) (by decide)) (ag.mRows m8 (by decide) (by decide)) n
  simp only [List.mem_cons, List.not_mem_nil, or_false] at hk
  rcases hk with rfl | rfl | rfl | rfl | rfl | rfl | rfl | rfl | rfl | rfl | rfl | rfl | rfl
  · exact mk.2.2.2.2.2
  all_goals first
    | exact absurd kd (by decide)
    | exact b79
    | exact oB n
theorem outO_b {o o' : Ob} {r : Option (List UInt8)} (h : mOut o t) (b : outO o o' r) : mOut o' (r.getD t) := by
  cases r with
  | none =>
    obtain ⟨b1, b2⟩ : o'.f 5 = o.f 5 ∧ o'.a 4 = o.a 4 := b
    obtain ⟨h1, h2, β, h3, h4⟩ := h
    exact ⟨b1.trans h1, h2, β, b2.trans h3, h4⟩
  | some u => exact b
theorem outM_b {o o' : Ob} {r : Int32 ⊕ List UInt8} (h : mOut o t) (b : outM o o' r) : mOut o' (shw t r) := by
  cases r with
  | inl v =>
    obtain ⟨b1, b2⟩ : o'.f 5 = o.f 5 ∧ o'.a 4 = o.a 4 := b
    obtain ⟨h1, h2, β, h3, h4⟩ := h
    exact ⟨b1.trans h1, h2, β, b2.trans h3, h4⟩
  | inr u => exact b
theorem M_seal {w k b a r : Int32} (X : Cx G F W) (m : MI W S τ rows t bk J A) : MSt (P_X13_seal G F (W.ad (.o 13 0)) w k b a r) (match sealC rows w k b a r with | some (some u) => (Int32.ofNat u.length) | some none => -3 | none => -2) W S τ rows (match sealC rows w k b a r with | some (some u) => u | some none => t | none => t) J A := by
  obtain ⟨m1, m2, m3, m4, m5, m6, m7, m8, m9, m10⟩ := id m
  obtain ⟨o, q, mo, ag, n⟩ := QM_seal (G := G) (F := F) (S := S) (w := w) (k := k) (b := b) (a := a) (r := r) X m1 m3 m4.dig m4 m5 m8
  have n' : mOut o (match sealC rows w k b a r with | some (some u) => u | some none => t | none => t) := by
    have q := outO_b m9 n
    revert q
    rcases sealC rows w k b a r with _ | _ | u <;> exact fun q => q
  exact M_o m q ag (by decide) (by decide) (fun k _ kd => mo.2.2 k kd) (ag.mTape m7 (by decide) (by decide)) (ag.mRows m8 (by decide) (by decide)) n'
theorem M_open {w k b a r : Int32} (X : Cx G F W) (m : MI W S τ rows t bk J A) : MSt (P_X13_open G F (W.ad (.o 13 0)) w k b a r) (match openCC rows w k b a r with | some (some u) => (Int32.ofNat u.length) | some none => -1 | none => -2) W S τ rows (match openCC rows w k b a r with | some (some u) => u | some none => t | none => t) J A := by
  obtain ⟨m1, m2, m3, m4, m5, m6, m7, m8, m9, m10⟩ := id m
  obtain ⟨o, q, mo, ag, n⟩ := QM_open (G := G) (F := F) (S := S) (w := w) (k := k) (b := b) (a := a) (r := r) X m1 m3 m4.dig m4 m5 m8
  have n' : mOut o (match openCC rows w k b a r with | some (some u) => u | some none => t | none => t) := by
    have q := outO_b m9 n
    revert q
    rcases openCC rows w k b a r with _ | _ | u <;> exact fun q => q
  exact M_o m q ag (by decide) (by decide) (fun k _ kd => mo.2.2 k kd) (ag.mTape m7 (by decide) (by decide)) (ag.mRows m8 (by decide) (by decide)) n'
theorem HM.kp {o o' : Ob} (H : HM o bk J) (Y : JX J) (k : kpT (1 - bk) o o') (e17 : o'.f 17 = o.f 17) (e18 : o'.f 18 = o.f 18) : HM o' bk J := by
  obtain ⟨q1, q2, q3⟩ := H
  exact ⟨e17.trans q1, q2, q3.imp (fun q => ⟨e18.trans q.1, q.2⟩) (fun q => ⟨e18.trans q.1, k bk J (by omega) q2 Y q.2⟩)⟩
/-- tokens -/
theorem M_tok {p : mM → Option (Int32 × mM)} {v : Int32} {W2 : WR} {S2 : ST} {t' : List UInt8} (m : MI W S τ rows t bk J A) (Y : JX J) (q : p (mem W S) = some (v, mem W2 S2)) (hW : W2 = W ∨ ∃ k, W2 = W.sr 13 0 19 (.a 13 0 k) ∧ 0 < mLen k) (mt : MT S S2) (kp : kpT (1 - bk) (S 13 0) (S2 13 0)) (ht : mOut (S2 13 0) t') : MSt p v W S τ rows t' J A := by
  obtain ⟨m1, m2, m3, m4, m5, m6, m7, m8, m9, m10⟩ := id m
  obtain ⟨f, ag, mk, dg, ev⟩ := mt
  have mi : MI W S2 τ rows t' bk J A := ⟨m1, m2, mk, ev, m5.ag ag (by decide) (by decide), m6.agr ag (by decide), ag.mTape m7 (by decide) (by decide), ag.mRows m8 (by decide) (by decide), ht, m10.kp Y kp (ag.1 17 (by decide)) (ag.1 18 (by decide))⟩
  refine ⟨W2, S2, bk, q, ?_, hW, f⟩
  rcases hW with e | ⟨k, e, _⟩
  · rw [e]
    exact mi
  · rw [e]
    exact mi.w
theorem M_sign {k a p q : Nat} {hd : Option Nat} {K : KY} (X : Cx G F W) (m : MI W S τ rows t bk J A) (Y : JX J) (hk : k < 16) (e : A k = some K) (ha : a < 5) (hh : ∀ n, hd = some n → n < 8) (hp : p < 8) (hq : 3 ≤ a → q < 8) (y : Int32) (hy : 3 ≤ a → y = (Int32.ofNat q)) : MSt (P_X13_sign G F (W.ad (.o 13 0)) (Int32.ofNat k) (Int32.ofNat a) (oI hd) (Int32.ofNat p) y) (ansT (sgnV a K (if 3 ≤ a then rows q else []) (hd.map rows) (rows p))) W S τ rows (shw t (sgnV a K (if 3 ≤ a then rows q else []) (hd.map rows) (rows p))) J A := by
  obtain ⟨m1, m2, m3, m4, m5, m6, m7, m8, m9, m10⟩ := id m
  obtain ⟨W2, S2, g, hW, mt, om, kp⟩ := QM_sign (G := G) (F := F) (S := S) X m1 m2 m3 m4.dig m4 m6 m8 m10.1 m10.2.1 hk e ha hh hp (fun q3 => ⟨hq q3, hy q3⟩) _ rfl
  exact M_tok m Y g (hW.imp id (fun e => ⟨2, e, by decide⟩)) mt kp (outM_b m9 om)
theorem M_verify {r : Nat} (X : Cx G F W) (m : MI W S τ rows t bk J A) (Y : JX J) (hr : r < 8) : MSt (P_X13_verify G F (W.ad (.o 13 0)) (Int32.ofNat r)) (vrfW A (rows r)).1 W S τ rows ((vrfW A (rows r)).2.getD t) J A := by
  obtain ⟨m1, m2, m3, m4, m5, m6, m7, m8, m9, m10⟩ := id m
  obtain ⟨W2, S2, g, hW, mt, om, kp⟩ := QM_verify (G := G) (F := F) (S := S) X m1 m2 m3 m4.dig m4 m6 m8 m10.1 m10.2.1 hr
  exact M_tok m Y g (hW.imp id (fun e => ⟨119, e, by decide⟩)) mt kp (outO_b m9 om)
theorem M_decrypt {r : Nat} (X : Cx G F W) (m : MI W S τ rows t bk J A) (Y : JX J) (hr : r < 8) : MSt (P_X13_decrypt G F (W.ad (.o 13 0)) (Int32.ofNat r)) (decW A (rows r)).1 W S τ rows ((decW A (rows r)).2.getD t) J A := by
  obtain ⟨m1, m2, m3, m4, m5, m6, m7, m8, m9, m10⟩ := id m
  obtain ⟨W2, S2, g, hW, mt, om, kp⟩ := QM_decrypt (G := G) (F := F) (S := S) X m1 m2 m3 m4.dig m4 m5 m6 m8 m10.1 m10.2.1 hr
  exact M_tok m Y g (hW.imp id (fun e => ⟨119, e, by decide⟩)) mt kp (outO_b m9 om)
theorem M_encrypt {k a wy p q : Nat} {x6 x7 : Int32} {K : KY} (X : Cx G F W) (m : MI W S τ rows t bk J A) (Y : JX J) (hk : k < 16) (e : A k = some K) (ha : a < 6) (hw : wy < 4) (hp : p < 8) (hq : q < 8) (h6 : 4 ≤ a → ron x6 = true) (h7 : 4 ≤ a → ron x7 = true) : MSt (P_X13_encrypt G F (W.ad (.o 13 0)) (Int32.ofNat k) (Int32.ofNat a) (Int32.ofNat wy) (Int32.ofNat p) (Int32.ofNat q) x6 x7) (ansT (encV a wy K (rows q) (rows p) (rwO rows x6) (rwO rows x7))) W S τ rows (shw t (encV a wy K (rows q) (rows p) (rwO rows x6) (rwO rows x7))) J A := by
  obtain ⟨m1, m2, m3, m4, m5, m6, m7, m8, m9, m10⟩ := id m
  obtain ⟨S2, g, me, om⟩ := QM_encrypt (G := G) (F := F) (S := S) X m1 m2 m3 m4.dig m4 m5 m6 m8 hk e ha hw hp hq h6 h7 _ rfl
  refine M_tok m Y g (Or.inl rfl) me.mt (fun b2 J2 _ _ _ M => M.agr me.2.1 (by decide)) (outM_b m9 om)
theorem M_print {K : KY} {x : Int32} (X : Cx G F W) (m : MI W S τ rows t bk J A) (e : prtW A x = some K) : MSt (P_X13_print G F (W.ad (.o 13 0)) x) 32 W S τ rows (sha false (prF K)) J A := by
  obtain ⟨m1, m2, m3, m4, m5, m6, m7, m8, m9, m10⟩ := id m
  have g := oM_printE (G := G) (F := F) (S := S) (o := S 13 0) X m1 m6 (m4 27 rfl) m4.dig m9 x
  rw [e] at g
  obtain ⟨o, q, n, ag, dg, b27⟩ := g
  rw [so_self] at q
  refine M_o m q ag (by decide) (by decide) (fun k hk kd => ?_) (ag.mTape m7 (by decide) (by decide)) (ag.mRows m8 (by decide) (by decide)) n
  simp only [List.mem_cons, List.not_mem_nil, or_false] at hk
  rcases hk with rfl | rfl | rfl | rfl | rfl | rfl
  · exact b27
  · exact dg.2.1
  · exact absurd kd (by decide)
  · exact absurd kd (by decide)
  · exact dg.1
  · exact oB n
theorem M_print_bad {x : Int32} (X : Cx G F W) (m : MI W S τ rows t bk J A) (e : prtW A x = none) : P_X13_print G F (W.ad (.o 13 0)) x (mem W S) = some (-2, mem W S) := by
  obtain ⟨m1, m2, m3, m4, m5, m6, m7, m8, m9, m10⟩ := m
  have g := oM_printE (G := G) (F := F) (S := S) (o := S 13 0) X m1 m6 (m4 27 rfl) m4.dig m9 x
  rw [e] at g
  have g : P_X13_print G F (W.ad (.o 13 0)) x (mem W (S.so 13 0 (S 13 0))) = some (-2, mem W (S.so 13 0 (S 13 0))) := g
  rw [so_self] at g
  exact g
theorem M_drop (m : MI W S τ rows t bk J A) (x : Int32) : MSt (P_X13_drop G F (W.ad (.o 13 0)) x) (drpW A x).1 W S τ rows t J (drpW A x).2 := by
  obtain ⟨m1, m2, m3, m4, m5, m6, m7, m8, m9, m10⟩ := m
  obtain ⟨o, q, ag, K'⟩ := oM_drop (G := G) (F := F) (S := S) (o := S 13 0) m1 m6 x
  rw [so_self] at q
  have a' : agr [] [] [83] [] (S 13 0) ((S.so 13 0 o) 13 0) := by rw [so_eq]; exact ag
  refine ⟨W, S.so 13 0 o, bk, q, ⟨m1, m2, MK_ag m3 (so_ne (by decide)) (so_ne (by decide)) a' (by decide), ?_⟩, Or.inl rfl, fr_so (by decide)⟩
  rw [so_eq]
  refine ⟨m4.ag ag (fun k hk kd => ?_), m5.ag ag (by decide) (by decide), K', ag.mTape m7 (by decide) (by decide), ag.mRows m8 (by decide) (by decide), ag.mOut m9 (by decide) (by decide), m10.ag ag (by decide) (by decide) (by decide)⟩
  have e : k = 83 := by simpa using hk
  subst e
  exact absurd kd (by decide)
theorem M_json {r : Nat} (X : Cx G F W) (m : MI W S τ rows t bk J A) (Y : JX J) (hr : r < 8) : match rdT (rows r) with | .inl q => MSt (P_X13_json G F (W.ad (.o 13 0)) (Int32.ofNat r)) (-100 - (Int32.ofNat q)) W S τ rows t J A | .inr J' => MSt (P_X13_json G F (W.ad (.o 13 0)) (Int32.ofNat r)) (Int32.ofNat J'.1) W S τ rows t J' A := by
  obtain ⟨m1, m2, m3, m4, m5, m6, m7, m8, m9, m10⟩ := id m
  obtain ⟨o, kp, b15, g⟩ := QM_json (G := G) (F := F) (S := S) X m1 m10.1 m10.2.1 hr m8 (m4 15 rfl)
  have fin : ∀ {fs : List Nat} (J2 : JT) (bk2 : Nat) (v : Int32), (∀ k ∈ [1, 5], k ∉ fs) → agr fs [] rdAr [] (S 13 0) o → HM o bk2 J2 → P_X13_json G F (W.ad (.o 13 0)) (Int32.ofNat r) (mem W S) = some (v, mem (W.sr 13 0 19 (.a 13 0 2)) (S.so 13 0 o)) → MSt (P_X13_json G F (W.ad (.o 13 0)) (Int32.ofNat r)) v W S τ rows t J2 A := by
    intro fs J2 bk2 v hfs ag H q
    have a' : agr fs [] rdAr [] (S 13 0) ((S.so 13 0 o) 13 0) := by rw [so_eq]; exact ag
    have mi : MI W (S.so 13 0 o) τ rows t bk2 J2 A := by
      refine ⟨m1, m2, MK_ag m3 (so_ne (by decide)) (so_ne (by decide)) a' (by decide), ?_⟩
      rw [so_eq]
      refine ⟨m4.ag ag (fun k hk kd => ?_), m5.ag ag (by decide) (by decide), m6.agr ag (by decide), ag.mTape m7 (hfs 1 (by decide)) (by decide), ag.mRows m8 (by decide) (by decide), ag.mOut m9 (hfs 5 (by decide)) (by decide), H⟩
      have : k = 15 := by
        unfold rdAr at hk
        simp only [List.mem_cons, List.not_mem_nil, or_false] at hk
        rcases hk with rfl | rfl | rfl | rfl | rfl | rfl | rfl | rfl | rfl | rfl | rfl <;> first | rfl | exact absurd kd (by decide)
      subst this
      exact b15
    exact ⟨_, _, bk2, q, mi.w, Or.inr ⟨2, rfl, by decide⟩, fr_so (by decide)⟩
  cases ed : rdT (rows r) with
  | inl q =>
    rw [ed] at g
    obtain ⟨g, ag⟩ := g
    exact fin J bk _ (by decide) ag (m10.kp Y kp (ag.1 17 (by decide)) (ag.1 18 (by decide))) g
  | inr J' =>
    rw [ed] at g
    obtain ⟨g, ag, H, _⟩ := g
    exact fin J' (1 - bk) _ (by decide) ag H g
theorem M_key {r : Nat} (X : Cx G F W) (m : MI W S τ rows t bk J A) (Y : JX J) (hr : r < 8) : MSt (P_X13_key G F (W.ad (.o 13 0)) (Int32.ofNat r)) (keyW A (rows r)).1 W S τ rows t J (keyW A (rows r)).2 := by
  obtain ⟨m1, m2, m3, m4, m5, m6, m7, m8, m9, m10⟩ := id m
  obtain ⟨S2, q, f, ag, kp, K', mk, b79, b62, b15, b96, b97, b98⟩ := QM_key (G := G) (F := F) (S := S) X m1 m2 m3 (m4 79 rfl) (m4 62 rfl) m10.1 m10.2.1 hr m8 (m4 15 rfl) (m4 96 rfl) (m4 97 rfl) (m4 98 rfl) m6
  obtain ⟨a85, a87, a89, a92, a94, ⟨k1, k2, k3, k4, k5⟩, _⟩ := id K'
  have mi : MI W S2 τ rows t bk J (keyW A (rows r)).2 := by
    refine ⟨m1, m2, mk, m4.ag ag (fun k hk kd => ?_), m5.ag ag (by decide) (by decide), K', ag.mTape m7 (by decide) (by decide), ag.mRows m8 (by decide) (by decide), ag.mOut m9 (by decide) (by decide), m10.kp Y kp (ag.1 17 (by decide)) (ag.1 18 (by decide))⟩
    have hb : k ∈ [15, 62, 67, 79, 85, 87, 89, 92, 94, 96, 97, 98] := (by decide +kernel : ∀ k ∈ ([6, 7, 8, 9, 10, 11, 12, 13, 14, 15, 16, 96, 97, 98] ++ keL : List Nat), (kdA 13)[k]? = some 1 → k ∈ [15, 62, 67, 79, 85, 87, 89, 92, 94, 96, 97, 98]) k hk kd
    simp only [List.mem_cons, List.not_mem_nil, or_false] at hb
    rcases hb with rfl | rfl | rfl | rfl | rfl | rfl | rfl | rfl | rfl | rfl | rfl | rfl
    · exact b15
    · exact b62
    · exact mk.2.2.2.2.2
    · exact b79
    · exact ⟨_, k1⟩
    · exact ⟨_, k2⟩
    · exact ⟨_, k3⟩
    · exact ⟨_, k4⟩
    · exact ⟨_, k5⟩
    · exact b96
    · exact b97
    · exact b98
  exact ⟨_, S2, bk, q, mi.w, Or.inr ⟨2, rfl, by decide⟩, f.mono (by decide)⟩
end MST3
