/-! THE MODEL'S CALLS keep what holds between calls -/
def MSt (p : mM → Option (Int32 × mM)) (v : Int32) (W : WR) (S : ST) (τ : List UInt8) (rows : Nat → List UInt8) (t : List UInt8) (J : JT) (A : Nat → Option KY) : Prop := ∃ W2 S2 bk, p (mem W S) = some (v, mem W2 S2) ∧ MI W2 S2 τ rows t bk J A ∧ (W2 = W ∨ ∃ k, W2 = W.sr 13 0 19 (.a 13 0 k) ∧ 0 < mLen k) ∧ fr [(12, 0), (12, 1), (12, 2), (13, 0)] S S2
section MST2
variable {W : WR} {G : mG} {F : Nat} {S S' : ST} {bk : Nat} {τ t : List UInt8} {rows : Nat → List UInt8} {J : JT} {A : Nat → Option KY}
theorem MSt.same {p : mM → Option (Int32 × mM)} {v : Int32} (m : MI W S τ rows t bk J A) (g : p (mem W S) = some (v, mem W S)) : MSt p v W S τ rows t J A := ⟨W, S, bk, g, m, Or.inl rfl, fr.refl _ _⟩
theorem MK_ag {fs gs as ls : List Nat} (K : MK S) (e1 : S' 12 1 = S 12 1) (e2 : S' 12 2 = S 12 2) (a : agr fs gs as ls (S 13 0) (S' 13 0)) (ha : ∀ k ∈ [63, 64, 65, 66, 67, 68, 69, 70, 71, 72, 74, 75, 76, 77, 78], k ∉ as) : MK S' := by
  obtain ⟨⟨V, d1, gv, vb⟩, d2, ⟨β3, b3, r3⟩, ⟨β4, b4, r4⟩, ⟨β5, b5, r5⟩, β7, b7⟩ := K
  refine ⟨⟨V, d1.eq e1, fun k hk h8 h9 => ?_, vb⟩, d2.eq e2, ⟨β3, a.mB b3 (ha _ (by decide)), r3⟩, ⟨β4, a.mB b4 (ha _ (by decide)), r4⟩, ⟨β5, a.mB b5 (ha _ (by decide)), r5⟩, β7, a.mB b7 (ha _ (by decide))⟩
  have := gv k hk h8 h9
  have e : igt S' (mwC k) = igt S (mwC k) := by
    have : k = 0 ∨ k = 1 ∨ k = 2 ∨ k = 3 ∨ k = 4 ∨ k = 5 ∨ k = 6 ∨ k = 7 ∨ k = 10 := by omega
    rcases this with rfl | rfl | rfl | rfl | rfl | rfl | rfl | rfl | rfl <;> exact a.2.2.1 _ (ha _ (by decide))
  unfold GV at this ⊢
  rw [e]
  exact this
theorem M_gen {p : mM → Option (Int32 × mM)} {v : Int32} {fs gs as ls : List Nat} {τ' t' : List UInt8} {rows' : Nat → List UInt8} (m : MI W S τ rows t bk J A) (q : p (mem W S) = some (v, mem W S')) (f : fr [(12, 0), (12, 1), (12, 2), (13, 0)] S S') (mk : MK S') (a : agr fs gs as ls (S 13 0) (S' 13 0)) (hn : ∀ k ∈ [6, 7, 8, 9, 10, 11, 12, 13, 14, 15, 16, 41, 42, 83, 84, 85, 86, 87, 88, 89, 90, 91, 92, 93, 94, 95], k ∉ as) (hf : ∀ k ∈ [17, 18], k ∉ fs) (ev : ∀ k, k ∈ as → (kdA 13)[k]? = some 1 → ∃ β, mB (S' 13 0) k β) (hτ : mTape (S' 13 0) τ') (hR : mRows (S' 13 0) rows') (ht : mOut (S' 13 0) t') : MSt p v W S τ' rows' t' J A := ⟨W, S', bk, q, m.go a mk (m.2.2.2.1.ag a ev) hn hf hτ hR ht, Or.inl rfl, f⟩
/-- most calls: the model's own object alone, no table touched -/
theorem M_o {p : mM → Option (Int32 × mM)} {v : Int32} {fs gs as ls : List Nat} {o : Ob} {τ' t' : List UInt8} {rows' : Nat → List UInt8} (m : MI W S τ rows t bk J A) (q : p (mem W S) = some (v, mem W (S.so 13 0 o))) (a : agr fs gs as ls (S 13 0) o) (hn : ∀ k ∈ [6, 7, 8, 9, 10, 11, 12, 13, 14, 15, 16, 41, 42, 63, 64, 65, 66, 67, 68, 69, 70, 71, 72, 74, 75, 76, 77, 78, 83, 84, 85, 86, 87, 88, 89, 90, 91, 92, 93, 94, 95], k ∉ as) (hf : ∀ k ∈ [17, 18], k ∉ fs) (ev : ∀ k, k ∈ as → (kdA 13)[k]? = some 1 → ∃ β, mB o k β) (hτ : mTape o τ') (hR : mRows o rows') (ht : mOut o t') : MSt p v W S τ' rows' t' J A := by
  have sub : ∀ (l : List Nat), (∀ k ∈ l, k ∈ [6, 7, 8, 9, 10, 11, 12, 13, 14, 15, 16, 41, 42, 63, 64, 65, 66, 67, 68, 69, 70, 71, 72, 74, 75, 76, 77, 78, 83, 84, 85, 86, 87, 88, 89, 90, 91, 92, 93, 94, 95]) → ∀ k ∈ l, k ∉ as := fun l h k hk => hn k (h k hk)
  have a' : agr fs gs as ls (S 13 0) ((S.so 13 0 o) 13 0) := by rw [so_eq]; exact a
  refine M_gen m q (fr_so (by decide)) (MK_ag m.2.2.1 (so_ne (by decide)) (so_ne (by decide)) a' (sub _ (by decide))) a' (sub _ (by decide)) hf ?_ ?_ ?_ ?_
  all_goals rw [so_eq]
  · exact ev
  · exact hτ
  · exact hR
  · exact ht
theorem oB {o : Ob} {u : List UInt8} (h : mOut o u) : ∃ β, mB o 4 β := by
  obtain ⟨_, _, β, b, _⟩ := h
  exact ⟨β, b⟩
theorem M_feed (X : Cx G F W) (m : MI W S τ rows t bk J A) (a b d e g : Int32) : MSt (P_X13_feed G F (W.ad (.o 13 0)) a b d e g) (if τ.length + 20 ≤ 8192 then (Int32.ofNat (τ.length + 20)) else -2) W S (if τ.length + 20 ≤ 8192 then τ ++ fed a b d e g else τ) rows t J A := by
  obtain ⟨m1, m2, m3, m4, m5, m6, m7, m8, m9, m10⟩ := id m
  obtain ⟨f, v, q, n⟩ := QM_feed (G := G) (F := F) (S := S) (a := a) (b := b) (c := d) (d := e) (e := g) X m1 m7
  have ag : agr [1] [] [0] [] (S 13 0) (((S 13 0).sA 0 f).sf 1 v) := (agr_sA (by decide)).trans (agr_sf (by decide))
  refine M_o m q ag (by decide) (by decide) (fun k hk _ => ?_) n (ag.mRows m8 (by decide) (by decide)) (ag.mOut m9 (by decide) (by decide))
  have e : k = 0 := by simpa using hk
  subst e
  obtain ⟨_, _, β, b, _⟩ := n
  exact ⟨β, b⟩
theorem M_end (m : MI W S τ rows t bk J A) (n : Int32) : MSt (P_X13_end G F (W.ad (.o 13 0)) n) (if 0 ≤ n ∧ n ≤ (Int32.ofNat τ.length) then n else -2) W S (if 0 ≤ n ∧ n ≤ (Int32.ofNat τ.length) then τ.take n.toNatClampNeg else τ) rows t J A := by
  obtain ⟨m1, m2, m3, m4, m5, m6, m7, m8, m9, m10⟩ := id m
  obtain ⟨v, q, n⟩ := QM_end (G := G) (F := F) (S := S) (n := n) m1 m7
  have ag : agr [1] [] [] [] (S 13 0) ((S 13 0).sf 1 v) := agr_sf (by decide)
  exact M_o m q ag (by decide) (by decide) (fun k hk _ => absurd hk (by simp)) n (ag.mRows m8 (by decide) (by decide)) (ag.mOut m9 (by decide) (by decide))
theorem rB {o : Ob} {rs : Nat → List UInt8} (h : mRows o rs) : ∃ β, mB o 2 β := by
  obtain ⟨β, b, _⟩ := h
  exact ⟨β, b⟩
theorem M_row {r : Nat} (X : Cx G F W) (m : MI W S τ rows t bk J A) (hr : r < 8) : MSt (P_X13_row G F (W.ad (.o 13 0)) (Int32.ofNat r)) (Int32.ofNat τ.length) W S [] (setR rows r τ) t J A := by
  obtain ⟨m1, m2, m3, m4, m5, m6, m7, m8, m9, m10⟩ := id m
  obtain ⟨f, g, q, n, n2⟩ := QM_row (G := G) (F := F) (S := S) X m1 hr m7 m8
  have ag : agr [1] [] [2, 3] [] (S 13 0) ((((S 13 0).sA 2 f).sA 3 g).sf 1 0) := ((agr_sA (by decide)).trans (agr_sA (by decide))).trans (agr_sf (by decide))
  refine M_o m q ag (by decide) (by decide) (fun k hk kd => ?_) n n2 (ag.mOut m9 (by decide) (by decide))
  simp only [List.mem_cons, List.not_mem_nil, or_false] at hk
  rcases hk with rfl | rfl
  · exact rB n2
  · exact absurd kd (by decide)
theorem M_keep {r : Nat} (X : Cx G F W) (m : MI W S τ rows t bk J A) (hr : r < 8) : MSt (P_X13_keep G F (W.ad (.o 13 0)) (Int32.ofNat r)) (Int32.ofNat t.length) W S τ (setR rows r t) t J A := by
  obtain ⟨m1, m2, m3, m4, m5, m6, m7, m8, m9, m10⟩ := id m
  obtain ⟨f, g, q, n2⟩ := QM_keep (G := G) (F := F) (S := S) X m1 hr m9 m8
  have ag : agr [] [] [2, 3] [] (S 13 0) (((S 13 0).sA 2 f).sA 3 g) := (agr_sA (by decide)).trans (agr_sA (by decide))
  refine M_o m q ag (by decide) (by decide) (fun k hk kd => ?_) (ag.mTape m7 (by decide) (by decide)) n2 (ag.mOut m9 (by decide) (by decide))
  simp only [List.mem_cons, List.not_mem_nil, or_false] at hk
  rcases hk with rfl | rfl
  · exact rB n2
  · exact absurd kd (by decide)
theorem M_poke {r j y : Nat} (m : MI W S τ rows t bk J A) (hr : r < 8) (hj : j < (rows r).length) (hy : y < 256) : MSt (P_X13_poke G F (W.ad (.o 13 0)) (Int32.ofNat r) (Int32.ofNat j) (Int32.ofNat y)) (b32 ((rows r)[j] ^^^ UInt8.ofNat y)) W S τ (setR rows r ((rows r).set j ((rows r)[j] ^^^ UInt8.ofNat y))) t J A := by
  obtain ⟨m1, m2, m3, m4, m5, m6, m7, m8, m9, m10⟩ := id m
  obtain ⟨o, q, ag, n2⟩ := QM_poke (G := G) (F := F) (S := S) m1 hr m8 hj hy
  refine M_o m q ag (by decide) (by decide) (fun k hk kd => ?_) (ag.mTape m7 (by decide) (by decide)) n2 (ag.mOut m9 (by decide) (by decide))
  have e : k = 2 := by simpa using hk
  subst e
  exact rB n2
theorem M_encode {r : Nat} (X : Cx G F W) (m : MI W S τ rows t bk J A) (hr : r < 8) : MSt (P_X13_encode G F (W.ad (.o 13 0)) (Int32.ofNat r)) (if (enc (rows r)).length ≤ 8192 then (Int32.ofNat (enc (rows r)).length) else -3) W S τ rows (if (enc (rows r)).length ≤ 8192 then enc (rows r) else t) J A := by
  obtain ⟨m1, m2, m3, m4, m5, m6, m7, m8, m9, m10⟩ := id m
  obtain ⟨o, q, ag, n, b⟩ := QM_encode (G := G) (F := F) (S := S) X m1 hr m9 m8 (m4 27 rfl)
  refine M_o m q ag (by decide) (by decide) (fun k hk kd => ?_) (ag.mTape m7 (by decide) (by decide)) (ag.mRows m8 (by decide) (by decide)) n
  simp only [List.mem_cons, List.not_mem_nil, or_false] at hk
  rcases hk with rfl | rfl
  · exact b
  · exact oB n
theorem M_decode {r : Nat} (X : Cx G F W) (m : MI W S τ rows t bk J A) (hr : r < 8) : MSt (P_X13_decode G F (W.ad (.o 13 0)) (Int32.ofNat r)) (match fltF (rows r) with | some k => -100 - (Int32.ofNat k) | none => (Int32.ofNat (dec (rows r)).length)) W S τ rows (if fltF (rows r) = none then dec (rows r) else t) J A := by
  obtain ⟨m1, m2, m3, m4, m5, m6, m7, m8, m9, m10⟩ := id m
  obtain ⟨β, b30⟩ := m4 30 rfl
  obtain ⟨o, q, ag, n, b⟩ := QM_decode (G := G) (F := F) (S := S) X m1 hr m9 m8 b30
  refine M_o m q ag (by decide) (by decide) (fun k hk kd => ?_) (ag.mTape m7 (by decide) (by decide)) (ag.mRows m8 (by decide) (by decide)) n
  simp only [List.mem_cons, List.not_mem_nil, or_false] at hk
  rcases hk with rfl | rfl
  · exact b
  · exact oB n
theorem M_text (X : Cx G F W) (m : MI W S τ rows t bk J A) (Y : JX J) (x : Int32) : MSt (P_X13_text G F (W.ad (.o 13 0)) x) (match txtF J x with | some u => (Int32.ofNat u.length) | none => -2) W S τ rows (match txtF J x with | some u => u | none => t) J A := by
  obtain ⟨m1, m2, m3, m4, m5, m6, m7, m8, m9, m10⟩ := id m
  obtain ⟨o, q, n, ag⟩ := QM_text (G := G) (F := F) (S := S) (x := x) X m1 m10 Y m9
  refine M_o m q ag (by decide) (by decide) (fun k hk kd => ?_) (ag.mTape m7 (by decide) (by decide)) (ag.mRows m8 (by decide) (by decide)) n
  have e : k = 4 := by simpa using hk
  subst e
  exact oB n
theorem M_name (X : Cx G F W) (m : MI W S τ rows t bk J A) (Y : JX J) (x : Int32) : MSt (P_X13_name G F (W.ad (.o 13 0)) x) (match namF J x with | some u => (Int32.ofNat u.length) | none => -2) W S τ rows (match namF J x with | some u => u | none => t) J A := by
  obtain ⟨m1, m2, m3, m4, m5, m6, m7, m8, m9, m10⟩ := id m
  obtain ⟨o, q, n, ag⟩ := QM_name (G := G) (F := F) (S := S) (x := x) X m1 m10 Y m9
  refine M_o m q ag (by decide) (by decide) (fun k hk kd => ?_) (ag.mTape m7 (by decide) (by decide)) (ag.mRows m8 (by decide) (by decide)) n
  have e : k = 4 := by simpa using hk
  subst e
  exact oB n
theorem M_write {v : Nat} {L : List UInt8} (X : Cx G F W) (m : MI W S τ rows t bk J A) (Y : JX J) (hv : v < J.1) (hL : wtS J v L) : MSt (P_X13_write G F (W.ad (.o 13 0)) (Int32.ofNat v)) (if L.length ≤ 8192 then (Int32.ofNat L.length) else -3) W S τ rows (if L.length ≤ 8192 then L else t) J A := by
  obtain ⟨m1, m2, m3, m4, m5, m6, m7, m8, m9, m10⟩ := id m
  obtain ⟨o, q, n, ag, b⟩ := QM_write (G := G) (F := F) (S := S) X m1 m10 Y m9 (m4 27 rfl) hv hL
  refine M_o m q ag (by decide) (by decide) (fun k hk kd => ?_) (ag.mTape m7 (by decide) (by decide)) (ag.mRows m8 (by decide) (by decide)) n
  simp only [List.mem_cons, List.not_mem_nil, or_false] at hk
  rcases hk with rfl | rfl
  · exact b
  · exact oB n
theorem M_hash {r : Nat} {wide : Bool} (X : Cx G F W) (m : MI W S τ rows t bk J A) (hr : r < 8) : MSt (P_X13_hash G F (W.ad (.o 13 0)) (if wide then 512 else 256) (Int32.ofNat r)) ((Int32.ofNat (sha wide (rows r)).length)) W S τ rows (sha wide (rows r)) J A := by
  obtain ⟨m1, m2, m3, m4, m5, m6, m7, m8, m9, m10⟩ := id m
  obtain ⟨o, q, n, ag, dg⟩ := QM_hash (G := G) (F := F) (S := S) (wide := wide) X m1 hr m9 m8 m4.dig
  refine M_o m q ag (by decide) (by decide) (fun k hk kd => ?_) (ag.mTape m7 (by decide) (by decide)) (ag.mRows m8 (by decide) (by decide)) n
  simp only [List.mem_cons, List.not_mem_nil, or_false] at hk
  rcases hk with rfl | rfl | rfl | rfl | rfl
  · exact dg.2.1
  · exact absurd kd (by decide)
  · exact absurd kd (by decide)
  · exact dg.1
  · exact oB n
theorem M_code {r rk : Nat} {wide : Bool} (X : Cx G F W) (m : MI W S τ rows t bk J A) (hr : r < 8) (hrk : rk < 8) : MSt (P_X13_code G F (W.ad (.o 13 0)) (if wide then 512 else 256) (Int32.ofNat rk) (Int32.ofNat r)) ((Int32.ofNat (hmac wide (rows rk) (rows r)).length)) W S τ rows (hmac wide (rows rk) (rows r)) J A := by
  obtain ⟨m1, m2, m3, m4, m5, m6, m7, m8, m9, m10⟩ := id m
  obtain ⟨o, q, n, ag, dg⟩ := QM_code (G := G) (F := F) (S := S) (wide := wide) X m1 hr hrk m9 m8 m4.dig
  refine M_o m q ag (by decide) (by decide) (fun k hk kd => ?_) (ag.mTape m7 (by decide) (by decide)) (ag.mRows m8 (by decide) (by decide)) n
  simp only [List.mem_cons, List.not_mem_nil, or_false] at hk
  rcases hk with rfl | rfl | rfl | rfl | rfl | rfl | rfl
  · exact dg.2.1
  · exact absurd kd (by decide)
  · exact absurd kd (by decide)
  · exact dg.1
  · exact oB n
  · exact dg.2.2.2
  · exact dg.2.2.1
theorem M_derive {ra rb rc rd many : Nat} (X : Cx G F W) (m : MI W S τ rows t bk J A) (ha : ra < 8) (hb : rb < 8) (hc : rc < 8) (hd : rd < 8) (hm : many = 16 ∨ many = 32 ∨ many = 64) : MSt (P_X13_derive G F (W.ad (.o 13 0)) (Int32.ofNat ra) (Int32.ofNat rb) (Int32.ofNat rc) (Int32.ofNat rd) (Int32.ofNat many)) (Int32.ofNat many) W S τ rows (derF (rows ra) (rows rb) (rows rc) (rows rd) many) J A := by
  obtain ⟨m1, m2, m3, m4, m5, m6, m7, m8, m9, m10⟩ := id m
  obtain ⟨o, q, n, ag, dg, b80⟩ := QM_derive (G := G) (F := F) (S := S) X m1 ha hb hc hd hm m9 m8 m4.dig (m4 80 rfl)
  refine M_o m q ag (by decide) (by decide) (fun k hk kd => ?_) (ag.mTape m7 (by decide) (by decide)) (ag.mRows m8 (by decide) (by decide)) n
  simp only [List.mem_cons, List.not_mem_nil, or_false] at hk
  rcases hk with rfl | rfl | rfl | rfl | rfl | rfl
  · exact dg.2.1
  · exact absurd kd (by decide)
  · exact absurd kd (by decide)
  · exact dg.1
  · exact b80
  · exact oB n
theorem M_block {x y b : Int32} {back : Bool} (hbk : b = if back then 1 else 0) (X : Cx G F W) (m : MI W S τ rows t bk J A) : MSt (P_X13_block G F (W.ad (.o 13 0)) x y b) (match blockF rows x y back with | some u => (Int32.ofNat u.length) | none => -2) W S τ rows (match blockF rows x y back with | some u => u | none => t) J A := by
  obtain ⟨m1, m2, m3, m4, m5, m6, m7, m8, m9, m10⟩ := id m
  obtain ⟨o, q, ag, b47, n⟩ := QM_block (G := G) (F := F) (S := S) (x := x) (y := y) hbk X m1 m5 m9 m8 (m4 47 rfl)
  refine M_o m q ag (by decide) (by decide) (fun k hk kd => ?_) (ag.mTape m7 (by decide) (by decide)) (ag.mRows m8 (by decide) (by decide)) n
  simp only [List.mem_cons, List.not_mem_nil, or_false] at hk
  rcases hk with rfl | rfl | rfl | rfl | rfl
  · exact absurd kd (by decide)
  · exact absurd kd (by decide)
  · exact absurd kd (by decide)
  · exact b47
  · exact oB n
theorem M_wrap {x y : Int32} (X : Cx G F W) (m : MI W S τ rows t bk J A) : MSt (P_X13_wrap G F (W.ad (.o 13 0)) x y) (match wrapC rows x y with | some u => (Int32.ofNat u.length) | none => -2) W S τ rows (match wrapC rows x y with | some u => u | none => t) J A := by
  obtain ⟨m1, m2, m3, m4, m5, m6, m7, m8, m9, m10⟩ := id m
  obtain ⟨o, q, ag, b47, b48, n⟩ := QM_wrap (G := G) (F := F) (S := S) (x := x) (y := y) X m1 m5 m9 m8 (m4 47 rfl) (m4 48 rfl)
  refine M_o m q ag (by decide) (by decide) (fun k hk kd => ?_) (ag.mTape m7 (by decide) (by decide)) (ag.mRows m8 (by decide) (by decide)) n
  simp only [List.mem_cons, List.not_mem_nil, or_false] at hk
  rcases hk with rfl | rfl | rfl | rfl | rfl | rfl
  · exact absurd kd (by decide)
  · exact absurd kd (by decide)
  · exact absurd kd (by decide)
  · exact b47
  · exact b48
  · exact oB n
theorem M_unwrap {x y : Int32} (X : Cx G F W) (m : MI W S τ rows t bk J A) : MSt (P_X13_unwrap G F (W.ad (.o 13 0)) x y) (match unwrapC rows x y with | some (some u) => (Int32.ofNat u.length) | some none => -1 | none => -2) W S τ rows (match unwrapC rows x y with | some (some u) => u | some none => t | none => t) J A := by
  obtain ⟨m1, m2, m3, m4, m5, m6, m7, m8, m9, m10⟩ := id m
  obtain ⟨o, q, ag, b47, b48, n⟩ := QM_unwrap (G := G) (F := F) (S := S) (x := x) (y := y) X m1 m5 m9 m8 (m4 47 rfl) (m4 48 rfl)
  refine M_o m q ag (by decide) (by decide) (fun k hk kd => ?_) (ag.mTape m7 (by decide) (by decide)) (ag.mRows m8 (by decide) (by decide)) n
  simp only [List.mem_cons, List.not_mem_nil, or_false] at hk
  rcases hk with rfl | rfl | rfl | rfl | rfl | rfl
  · exact absurd kd (by decide)
  · exact absurd kd (by decide)
  · exact absurd kd (by decide)
  · exact b47
  · exact b48
  · exact oB n
end MST2
