/-! THE START: class and model made -/
def J0_ : JT := (0, (fun _ _ => 0), [])
/-- the wires of the class between calls, the text in hand has number h -/
def clsW (W : WR) (h : Nat) : Prop := isA W ∧ (W.r 11 0 7 = some (.o 9 h) ∧ W.r 11 0 8 = some (.o 9 (1 - h)) ∧ W.r 11 0 9 = some (.o 7 0) ∧ W.live (.o 7 0) = true) ∧ isTx W 0 14 ∧ isTx W 1 15 ∧ isB W 80 32 ∧ isB W 81 32 ∧ isB W 82 32
/-- the class between calls -/
def CI (W : WR) (S : ST) (z sl z0 s0 : Nat) (τ : List UInt8) (rows : Nat → List UInt8) (t : List UInt8) (h : Nat) (J : JT) (A : Nat → Option KY) : Prop := h < 2 ∧ clsW W h ∧ (TbC (S 9 h) J ∧ ∃ lp, Byt 8192 (S 0 (14 + h)) J.2.2 lp) ∧ (∃ l, Byt 8192 (S 0 8) τ l) ∧ (∀ r, r < 8 → ∃ l, Byt 8192 (S 0 r) (rows r) l) ∧ (∃ l, Byt 8192 (S 0 9) t l) ∧ AB W S ∧ (∃ V, CK S V) ∧ IB S ∧ ∃ σ κ rk, KHS W S z sl z0 s0 σ κ rk A
/-- the model between calls -/
def MI (W : WR) (S : ST) (τ : List UInt8) (rows : Nat → List UInt8) (t : List UInt8) (bk : Nat) (J : JT) (A : Nat → Option KY) : Prop := isM W ∧ isMm W ∧ MK S ∧ mEv (S 13 0) ∧ oBX (S 13 0) ∧ KM (S 13 0) A ∧ mTape (S 13 0) τ ∧ mRows (S 13 0) rows ∧ mOut (S 13 0) t ∧ HM (S 13 0) bk J
def JOk (J : JT) : Prop := JX J ∧ JZ J ∧ JTr J
theorem J0_I : JOk J0_ := ⟨⟨Nat.zero_le _, Nat.zero_le _, fun i hi => absurd hi (Nat.not_lt_zero _)⟩, fun i hi => absurd hi (Nat.not_lt_zero _), JTr_nil rfl⟩
theorem mEv.dig {o : Ob} (h : mEv o) : mDig o := ⟨h 35 rfl, h 36 rfl, h 40 rfl, h 38 rfl⟩
section STA
variable {G : mG} {F : Nat}
theorem rcv_m' {W : WR} {S : ST} {c i A : Nat} (h : W.live (.o c i) = true) (e : W.ad (.o c i) = A) : rcv (mem W S) A c = some () := by rw [← e]; exact rcv_m h
theorem mB_z (k : Nat) : mB zOb k (fun _ => 0) := rfl
/-- the model made behind the class -/
theorem nw_model {W : WR} {S : ST} {z sl : Nat} (X : Cx G F W) (hf : WF W z) (hn : ∀ c i, c = 13 ∨ c = 12 → frS W c i ∧ S c i = zOb) : ∃ W' S' z' sl', (∀ (β : Type) (K : mM → Nat → Nat → Option β), (bO (some (nwO (mem W S) z 13 dfX13)) fun M => bA (P_X13_init G F z M (z + 1) (sl + 134)) K) = K (mem W' S') z' sl') ∧ WF W' z' ∧ (z ≤ z' ∧ z' ≤ z + 201) ∧ sl' ≤ sl + 623200 ∧ FX [(13, 0), (12, 0), (12, 1), (12, 2)] W W' ∧ W'.ad (.o 13 0) = z ∧ fr [(12, 1), (12, 2), (13, 0)] S S' ∧ MI W' S' [] (fun _ => []) [] 0 J0_ (fun _ => none) := by
  have n13 := hn 13 0 (Or.inl rfl)
  have n0 := hn 12 0 (Or.inr rfl)
  have n1 := hn 12 1 (Or.inr rfl)
  have n2 := hn 12 2 (Or.inr rfl)
  obtain ⟨W1, g1, c1, f1⟩ := st_m0 (S := S) hf n13.1 n13.2
  obtain ⟨W2, z2, s2, g2, wf2, bz, bs, x2, ad2, iM, iMm⟩ := nw_model0 (G := G) (F := F) (S := S) (sl := sl + 134) c1 ((f1.2 12 0 (by decide)).1 n0.1) ((f1.2 12 1 (by decide)).1 n1.1) ((f1.2 12 2 (by decide)).1 n2.1) n13.2 n0.2 n1.2 n2.2
  have x : FX [(13, 0), (12, 0), (12, 1), (12, 2)] W W2 := (f1.mono (by decide)).trans x2
  have X2 := x.1.p.cx X
  obtain ⟨o3, g3, bx3, a3⟩ := oM_layCipher (G := G) (F := F) (S := S) (o := zOb) X2 iM rfl rfl
  rw [zO_so n13.2, ad2] at g3
  have e3 : ∀ k, k ≠ 41 → k ≠ 42 → o3.a k = fun _ => 0 := fun k h1 h2 => a3.2.2.1 k (by simp; exact ⟨h1, h2⟩)
  have b3 : ∀ k, k ≠ 41 → k ≠ 42 → ∃ β, mB o3 k β := fun k h1 h2 => ⟨fun _ => 0, by unfold mB; rw [e3 k h1 h2]; rfl⟩
  obtain ⟨S4, g4, mk4, f4, a4, ev4⟩ := QM_layCurve (G := G) (F := F) (S := S.so 13 0 o3) X2 iM iMm (by rw [so_eq]; exact b3 62 (by decide) (by decide)) (by rw [so_eq]; exact b3 63 (by decide) (by decide)) (by rw [so_eq]; exact b3 64 (by decide) (by decide)) (by rw [so_eq]; exact b3 65 (by decide) (by decide)) (by rw [so_eq]; exact b3 67 (by decide) (by decide)) (fun k hk => by
    rw [so_eq]
    exact e3 k (fun q => by rw [q] at hk; exact absurd hk (by decide)) (fun q => by rw [q] at hk; exact absurd hk (by decide)))
  rw [so_eq] at a4
  rw [ad2] at g4
  have av : ∀ k, k ∉ [62, 63, 64, 65, 66] → (S4 13 0).a k = o3.a k := fun k hk => a4.2.2.1 k hk
  have fv : ∀ k, (S4 13 0).f k = 0 := fun k => (a4.1 k (by simp)).trans (a3.1 k (by simp))
  have zv : ∀ k, k ∉ [41, 42, 62, 63, 64, 65, 66] → (S4 13 0).a k = fun _ => 0 := fun k hk => by
    simp only [List.mem_cons, List.not_mem_nil, or_false, not_or] at hk
    rw [av k (by simp only [List.mem_cons, List.not_mem_nil, or_false, not_or]; exact hk.2.2)]
    exact e3 k hk.1 hk.2.1
  have mz : ∀ k, k ∉ [41, 42, 62, 63, 64, 65, 66] → mB (S4 13 0) k (fun _ => 0) := fun k hk => by unfold mB; rw [zv k hk]; rfl
  have ev : mEv (S4 13 0) := by
    intro k hk
    by_cases q : k ∈ [62, 63, 64, 65]
    · exact ev4 k q
    · refine ⟨_, mz k (fun p => ?_)⟩
      have : k ∈ [41, 42, 66] := by
        simp only [List.mem_cons, List.not_mem_nil, or_false] at p q ⊢
        omega
      simp only [List.mem_cons, List.not_mem_nil, or_false] at this
      rcases this with rfl | rfl | rfl <;> exact absurd hk (by decide)
  refine ⟨W2, S4, z2, s2, fun β K => ?_, wf2, ⟨by omega, by omega⟩, by omega, x, ad2, (fr_so (by decide)).trans f4, iM, iMm, mk4, ev, ⟨fun y => ?_, fun y => ?_⟩, ⟨_, _, _, _, _, ⟨mz 85 (by decide), mz 87 (by decide), mz 89 (by decide), mz 92 (by decide), mz 94 (by decide)⟩, fun k hk => ⟨congrFun (zv 83 (by decide)) k, some 0, congrFun (zv 95 (by decide)) k, fun n e => by rw [← Option.some.inj e]; exact Nat.zero_le _⟩⟩, ⟨fv 1, Nat.zero_le _, _, mz 0 (by decide), rfl⟩, ⟨_, mz 2 (by decide), fun r hr => ⟨congrFun (zv 3 (by decide)) r, Nat.zero_le _, rfl⟩⟩, ⟨fv 5, Nat.zero_le _, _, mz 4 (by decide), rfl⟩, fv 17, Nat.zero_le _, Or.inl ⟨fv 18, rfl⟩⟩
  · rw [bO_s, g1, g2, rcv_m' iM.lo ad2, bO_s, g3, bO_s, rcv_m' iM.lo ad2, bO_s, g4, bO_s]
    rfl
  · rw [av 41 (by decide)]
    exact bx3.1 y
  · rw [av 42 (by decide)]
    exact bx3.2 y
theorem nw_class {W : WR} {S : ST} {z sl : Nat} (X : Cx G F W) (hf : WF W z) (hn : ∀ c i, frS W c i ∧ S c i = zOb) : ∃ W' S' V z' sl', (∀ (β : Type) (K : mM → Nat → Nat → Option β), (bO (some (nwO (mem W S) z 11 dfX11)) fun M => bA (P_X11_init G F z M (z + 1) (sl + 18)) K) = K (mem W' S') z' sl') ∧ WF W' z' ∧ (z + 144 ≤ z' ∧ z' ≤ z + 500) ∧ sl' ≤ sl + 300000 ∧ WP W W' ∧ W'.ad (.o 11 0) = z ∧ clsW W' 0 ∧ NwS (fun c i => c ≤ 11 ∧ (c = 0 → i < 111)) W' S' ∧ CK S' V ∧ IB S' ∧ AB W' S' ∧ (∀ i, i ∉ [72, 73, 74, 75, 80, 81, 82] → S' 0 i = zOb) ∧ S' 9 0 = zOb ∧ (∀ j, j ≤ 16 → KyF W' S' j) ∧ (∀ j, j < 16 → W'.e (.a 11 0 10) j = some (.o 5 j)) ∧ W'.r 11 0 10 = some (.a 11 0 10) ∧ W'.live (.a 11 0 10) = true ∧ W'.n (.a 11 0 10) = 16 ∧ W'.r 11 0 11 = some (.o 5 16) := by
  have hF := X.hF
  obtain ⟨W1, S1, V, z1, s1, g1, wf1, ⟨bz1, bz2⟩, bs1, m1, ad1, lv1, F1, ns1, C1, I1, k16, z0, z9, z91, y80, y81, y82⟩ := nw_cls1 (G := G) (F := F) (sl := sl) X hf hn
  obtain ⟨r0, r10, e0, e10, ⟨q1, b1⟩, ⟨q2, b2⟩, ⟨q3, b3⟩, ⟨q4, b4⟩, ⟨q5, b5⟩, ⟨q6, b6⟩, ⟨q7, t7⟩, ⟨q8, t8⟩, ⟨q9, l9⟩, ⟨q11, k1, k2, k3⟩, ⟨q12, d12⟩, ⟨q13, d13⟩, ⟨q14, d14⟩, ⟨q15, d15⟩, ⟨q16, d16⟩, ⟨q17, d17⟩, i80, i81, i82⟩ := F1
  obtain ⟨W2, z2, s2, g2, wf2, p2, o2, er2, ns2, ⟨bz3, bz4⟩, bs2⟩ := Q11_rows (G := G) (F := F) (P := fun c i => (c, i) ∈ nwD) (A := z) (S := S1) (by decide +kernel) (fun r hr => (by decide +kernel : ∀ r, r < 8 → ¬ (0, r) ∈ nwD) r hr) 8 0 F W1 z1 s1 (by omega) rfl wf1 lv1 ad1 r0 (fun j _ => e0 j) (fun j hj => absurd hj (Nat.not_lt_zero _)) (ns1.mono (fun c i q => Or.inl q))
  have e102 : ∀ j, W2.e (.a 11 0 10) j = none := fun j => (o2 _ j r10.1 (by simp)).trans (e10 j)
  obtain ⟨W3, S3, zK, s3, g3, wf3, p3, o3, er3, ns3, sm3, ⟨bz5, bz6⟩, bs3⟩ := Q11_keys (G := G) (F := F) (P := fun c i => (c, i) ∈ nwD ∨ (c = 0 ∧ i < 8)) (A := z) (Or.inl (by decide +kernel)) (fun c i q p => by
    have h5 : ∀ i, i < 16 → (5, i) ∉ nwD := by decide +kernel
    have h0 : ∀ i, i < 110 → (16 ≤ i ∧ i < 64) ∨ 94 ≤ i → (0, i) ∉ nwD := by decide +kernel
    unfold KyP at q
    rcases q with ⟨rfl, q⟩ | ⟨rfl, q⟩
    · exact p.elim (h5 i q) (fun p => by omega)
    · exact p.elim (h0 i (by omega) (by omega)) (fun p => by omega)) 16 0 F W2 S1 z2 s2 (by omega) rfl wf2 (p2.lv lv1) ((p2.1 _ lv1).2.1.trans ad1) (p2.ha r10) (fun j _ => e102 j) (fun j hj => absurd hj (Nat.not_lt_zero _)) (ns2.mono (fun c i q => Or.inl q))
  have P : WP W1 W3 := p2.trans p3
  have rowE : ∀ r, r < 8 → W3.e (.a 11 0 0) r = some (.o 0 r) ∧ isB W3 r 8192 := fun r hr => ⟨p3.ee (er2 r hr).1, p3.b (er2 r hr).2⟩
  have iT : isT W3 := ⟨P.lv lv1, P.rr r0.2.1, P.lv r0.1, P.nn r0.1 r0.2.2.1, fun r hr => (rowE r hr).1, fun r hr => (rowE r hr).2, P.rr q1, P.b b1, P.rr q2, P.b b2, P.rr q3, P.b b3, P.rr q4, P.b b4, P.rr q5, P.b b5, P.rr q6, P.b b6⟩
  have iA : isA W3 := ⟨iT, P.d d12, P.rs d15, P.cu d16, P.tk d17, P.ci d13, P.co d14, P.rr q12, P.rr q13, P.rr q14, P.rr q15, P.rr q16, P.rr q17⟩
  have S3n : ∀ c i, c ≠ 5 → S3 c i = S1 c i := fun c i hc => sm3 c i (fun q => hc q.1)
  have C3 : CK S3 V := C1.fr (L := (List.range 17).map (fun j => (5, j))) (fun c i hn => by
    by_cases h5 : c = 5
    · subst h5
      refine sm3 5 i (fun q => hn (List.mem_map.mpr ⟨i, List.mem_range.mpr (by omega), rfl⟩))
    · exact S3n c i h5) (by decide)
  have z3 : ∀ i, i ∉ [72, 73, 74, 75, 80, 81, 82] → S3 0 i = zOb := fun i hi => (S3n 0 i (by decide)).trans (z0 i hi)
  have bb : ∀ i room, isB W3 i room → ∃ xs l, Byt room (S3 0 i) xs l := by
    intro i room hB
    by_cases hi : i ∈ [72, 73, 74, 75, 80, 81, 82]
    · have one : ∀ {r' : Nat} {xs : List UInt8}, isB W3 i r' → Byt r' (S3 0 i) xs false → ∃ xs l, Byt room (S3 0 i) xs l := fun {r'} {xs} h1 h2 => ⟨xs, false, by rw [hB.one h1]; exact h2⟩
      obtain ⟨_, _, _, _, _, _, c72, c73, c74, c75, _⟩ := C3
      simp only [List.mem_cons, List.not_mem_nil, or_false] at hi
      rcases hi with rfl | rfl | rfl | rfl | rfl | rfl | rfl
      · exact one ((P.cu d16).bb 0 (by decide)) c72
      · exact one ((P.cu d16).bb 1 (by decide)) c73
      · exact one ((P.cu d16).bb 2 (by decide)) c74
      · exact one ((P.cu d16).bb 3 (by decide)) c75
      · exact one (P.b i80) (by rw [S3n 0 80 (by decide)]; exact y80)
      · exact one (P.b i81) (by rw [S3n 0 81 (by decide)]; exact y81)
      · exact one (P.b i82) (by rw [S3n 0 82 (by decide)]; exact y82)
    · rw [z3 i hi]
      exact ⟨[], false, zB_byt⟩
  refine ⟨W3, S3, V, zK, s3, fun β K => ?_, wf3, ⟨by omega, by omega⟩, by omega, m1.p.trans P, (P.1 _ lv1).2.1.trans ad1, ⟨iA, ⟨P.rr q7, P.rr q8, P.rr q9, P.lv l9⟩, P.tx t7, P.tx t8, P.b i80, P.b i81, P.b i82⟩, ns3.mono (fun c i q => ?_), C3, fun x => by rw [S3n 1 0 (by decide)]; exact I1 x, fun i room _ hB => bb i room hB, z3, (S3n 9 0 (by decide)).trans z9, fun j hj => ?_, fun j hj => (er3 j hj).1, P.rr r10.2.1, P.lv r10.1, P.nn r10.1 r10.2.2.1, P.rr q11⟩
  · rw [g1]
    show bA (B_X11_init_236 G F F z (Int32.ofNat 0) (mem W1 S1) z1 s1) K = _
    rw [g2]
    show bA (B_X11_init_266 G F F z (Int32.ofNat 0) (mem W2 S1) z2 s2) K = _
    rw [g3]
    rfl
  · have hD : ∀ x ∈ nwD, x.1 ≤ 11 ∧ (x.1 = 0 → x.2 < 111) := by decide +kernel
    rcases q with (q | q) | q
    · exact hD _ q
    · exact ⟨by omega, by omega⟩
    · unfold KyP at q
      omega
  · by_cases e : j = 16
    · rw [e]
      exact ⟨P.ko k1, P.rr k2, P.b k3, (sm3 5 16 (by omega)).trans k16⟩
    · exact (er3 j (by omega)).2
end STA
