/-! WHAT STAYS; THE MODEL'S CALLS WITH LETTERS -/
/-- o' is o but for these int fields, long fields, int arrays, long arrays -/
abbrev agr (fs gs as ls : List Nat) (o o' : Ob) : Prop := (∀ k, k ∉ fs → o'.f k = o.f k) ∧ (∀ k, k ∉ gs → o'.g k = o.g k) ∧ (∀ k, k ∉ as → o'.a k = o.a k) ∧ (∀ k, k ∉ ls → o'.l k = o.l k) ∧ o'.m = o.m
theorem agr.refl (fs gs as ls : List Nat) (o : Ob) : agr fs gs as ls o o := ⟨fun _ _ => rfl, fun _ _ => rfl, fun _ _ => rfl, fun _ _ => rfl, rfl⟩
theorem agr.trans {fs gs as ls : List Nat} {o o1 o2 : Ob} (h1 : agr fs gs as ls o o1) (h2 : agr fs gs as ls o1 o2) : agr fs gs as ls o o2 := ⟨fun k hk => (h2.1 k hk).trans (h1.1 k hk), fun k hk => (h2.2.1 k hk).trans (h1.2.1 k hk), fun k hk => (h2.2.2.1 k hk).trans (h1.2.2.1 k hk), fun k hk => (h2.2.2.2.1 k hk).trans (h1.2.2.2.1 k hk), h2.2.2.2.2.trans h1.2.2.2.2⟩
theorem agr.mono {fs gs as ls fs' gs' as' ls' : List Nat} {o o1 : Ob} (h : agr fs gs as ls o o1) (s1 : ∀ k ∈ fs, k ∈ fs') (s2 : ∀ k ∈ gs, k ∈ gs') (s3 : ∀ k ∈ as, k ∈ as') (s4 : ∀ k ∈ ls, k ∈ ls') : agr fs' gs' as' ls' o o1 := ⟨fun k hk => h.1 k (fun q => hk (s1 k q)), fun k hk => h.2.1 k (fun q => hk (s2 k q)), fun k hk => h.2.2.1 k (fun q => hk (s3 k q)), fun k hk => h.2.2.2.1 k (fun q => hk (s4 k q)), h.2.2.2.2⟩
theorem agr_sf {fs gs as ls : List Nat} {o : Ob} {k : Nat} {v : Int32} (h : k ∈ fs) : agr fs gs as ls o (o.sf k v) := ⟨fun k' hk => by rw [sf_f, if_neg (fun e => hk (by rw [e]; exact h))], fun _ _ => rfl, fun _ _ => rfl, fun _ _ => rfl, rfl⟩
theorem agr_sA {fs gs as ls : List Nat} {o : Ob} {k : Nat} {f : Nat → Int32} (h : k ∈ as) : agr fs gs as ls o (o.sA k f) := ⟨fun _ _ => rfl, fun _ _ => rfl, fun k' hk => by rw [sA_at, if_neg (fun e => hk (by rw [e]; exact h))], fun _ _ => rfl, rfl⟩
theorem agr_dr {o : Ob} {f : Nat → Int32} {v : Int32} : agr [28] [] [27] [] o (dr o f v) := (agr_sA (by decide)).trans (agr_sf (by decide))
theorem agr_un {o : Ob} {k2 : Nat} {β : Nat → UInt8} {v : Int32} : agr [29] [] [k2] [] o (un o k2 β v) := (agr_sA (List.mem_singleton.mpr rfl)).trans (agr_sf (by decide))
theorem agr.mB {fs gs as ls : List Nat} {o o' : Ob} {k : Nat} {β : Nat → UInt8} (h : agr fs gs as ls o o') (hb : mB o k β) (hk : k ∉ as) : mB o' k β := (h.2.2.1 k hk).trans hb
theorem agr.mTape {fs gs as ls : List Nat} {o o' : Ob} {t : List UInt8} (h : agr fs gs as ls o o') (ht : mTape o t) (h1 : 1 ∉ fs) (h0 : 0 ∉ as) : mTape o' t := by
  obtain ⟨a, b, β, c, d⟩ := ht
  exact ⟨(h.1 1 h1).trans a, b, β, h.mB c h0, d⟩
theorem agr.mOut {fs gs as ls : List Nat} {o o' : Ob} {t : List UInt8} (h : agr fs gs as ls o o') (ht : mOut o t) (h1 : 5 ∉ fs) (h0 : 4 ∉ as) : mOut o' t := by
  obtain ⟨a, b, β, c, d⟩ := ht
  exact ⟨(h.1 5 h1).trans a, b, β, h.mB c h0, d⟩
theorem agr.mRows {fs gs as ls : List Nat} {o o' : Ob} {rows : Nat → List UInt8} (h : agr fs gs as ls o o') (ht : mRows o rows) (h2 : 2 ∉ as) (h3 : 3 ∉ as) : mRows o' rows := by
  obtain ⟨β, c, d⟩ := ht
  refine ⟨β, h.mB c h2, fun r hr => ?_⟩
  rw [h.2.2.1 3 h3]
  exact d r hr
section MCALL
variable {W : WR} {G : mG} {F : Nat} {S : ST} {t : List UInt8} {rows : Nat → List UInt8}
theorem QM_encode {r : Nat} (X : Cx G F W) (h : isM W) (hr : r < 8) (ho : mOut (S 13 0) t) (hR : mRows (S 13 0) rows) (hdb : ∃ β, mB (S 13 0) 27 β) : ∃ o, P_X13_encode G F (W.ad (.o 13 0)) (Int32.ofNat r) (mem W S) = some (if (enc (rows r)).length ≤ 8192 then (Int32.ofNat (enc (rows r)).length) else -3, mem W (S.so 13 0 o)) ∧ agr [28, 5] [] [27, 4] [] (S 13 0) o ∧ mOut o (if (enc (rows r)).length ≤ 8192 then enc (rows r) else t) ∧ ∃ β, mB o 27 β := by
  obtain ⟨β27, hb27⟩ := hdb
  obtain ⟨β2, c1, c2⟩ := hR
  obtain ⟨c3, c4, c5⟩ := c2 r hr
  have hel := enc_len (rows r)
  have hd0 : mDr ((S 13 0).sf 28 0) [] := ⟨rfl, β27, hb27, rfl⟩
  obtain ⟨f1, v1, g1, d1⟩ := QM_sayLetters (S := S.so 13 0 ((S 13 0).sf 28 0)) (ys := []) (k1 := 2) (p1 := 8192 * r) (cnt := (rows r).length) (β := β2) X h rfl (by decide) (by decide) (by show 8192 * r + _ ≤ 65536; omega) (by omega) (by decide) (by rw [so_eq]; exact hd0) (by rw [so_eq]; exact c1)
  rw [so_eq, so_so] at g1
  rw [so_eq, List.nil_append, c5] at d1
  have a1 : agr [28, 5] [] [27, 4] [] (S 13 0) (dr ((S 13 0).sf 28 0) f1 v1) := (agr_sf (by decide)).trans (agr_dr.mono (by decide) (by decide) (by decide) (by decide))
  have ho1 : mOut (dr ((S 13 0).sf 28 0) f1 v1) t := by
    obtain ⟨o1, o2, β4, o3, o4⟩ := ho
    exact ⟨o1, o2, β4, mB_dr (by decide) o3, o4⟩
  obtain ⟨f2, v2, g2, d2⟩ := QM_saved (S := S.so 13 0 (dr ((S 13 0).sf 28 0) f1 v1)) (ys := enc (rows r)) (t := t) X h (by rw [so_eq]; exact d1) (by omega) (by rw [so_eq]; exact ho1)
  rw [so_eq, so_so] at g2
  rw [so_eq] at d2
  refine ⟨_, ?_, a1.trans ((agr_sA (k := 4) (by decide)).trans (agr_sf (k := 5) (by decide))), d2, ?_⟩
  · unfold P_X13_encode
    rw [Q13_isRow, bP_s, isr_i hr, if_pos rfl, if_neg (by decide), h.pI 28 _ rfl, bO_s, h.gR 2 rfl (by decide), bO_s, h.gR 3 rfl (by decide), bO_s, h.aN rfl (show r < 8 from hr) (by decide), bO_s, rcv_m h.lo, bO_s, so_eq, sf_a, c3, lit 8192, n_mul, g1, bO_s, rcv_m h.lo, bO_s, g2, bP_s]
  · obtain ⟨-, β, hb, -⟩ := d1
    exact ⟨β, by unfold mB; rw [sf_a, sA_a' (by decide)]; exact hb⟩
theorem QM_decode {r : Nat} {β30 : Nat → UInt8} (X : Cx G F W) (h : isM W) (hr : r < 8) (ho : mOut (S 13 0) t) (hR : mRows (S 13 0) rows) (hb30 : mB (S 13 0) 30 β30) : ∃ o, P_X13_decode G F (W.ad (.o 13 0)) (Int32.ofNat r) (mem W S) = some (match fltF (rows r) with | some k => -100 - (Int32.ofNat k) | none => (Int32.ofNat (dec (rows r)).length), mem W (S.so 13 0 o)) ∧ agr [29, 5] [] [30, 4] [] (S 13 0) o ∧ mOut o (if fltF (rows r) = none then dec (rows r) else t) ∧ ∃ β, mB o 30 β := by
  obtain ⟨β2, c1, c2⟩ := hR
  obtain ⟨c3, c4, c5⟩ := c2 r hr
  have hdl := dec_len (rows r)
  obtain ⟨β', v, g1, d1, d2⟩ := QM_unletter (S := S) (k1 := 2) (k2 := 30) (p1 := 8192 * r) (p2 := 0) (cnt := (rows r).length) (β1 := β2) (β2 := β30) X h rfl rfl (by decide) (by decide) (by decide) (by show 8192 * r + _ ≤ 65536; omega) (by show 0 + _ ≤ 8200; omega) (by omega) c1 hb30
  rw [c5] at g1 d1 d2
  have a1 : agr [29, 5] [] [30, 4] [] (S 13 0) (un (S 13 0) 30 β' v) := agr_un.mono (by decide) (by decide) (by decide) (by decide)
  have hb' : mB (un (S 13 0) 30 β' v) 30 β' := by
    unfold mB un
    rw [sf_a, sA_a]
  have g1' : P_X13_unletter G F (W.ad (.o 13 0)) (W.ad (.a 13 0 2)) (Int32.ofNat (8192 * r)) (Int32.ofNat (rows r).length) (W.ad (.a 13 0 30)) 0 (mem W S) = _ := g1
  have ho1 : mOut (un (S 13 0) 30 β' v) t := by
    obtain ⟨o1, o2, β4, o3, o4⟩ := ho
    refine ⟨o1, o2, β4, ?_, o4⟩
    unfold mB un
    rw [sf_a, sA_a' (by decide)]
    exact o3
  unfold P_X13_decode
  rw [Q13_isRow, bP_s, isr_i hr, if_pos rfl, if_neg (by decide), h.gR 2 rfl (by decide), bO_s, h.gR 3 rfl (by decide), bO_s, h.aN rfl (show r < 8 from hr) (by decide), bO_s, h.gR 30 rfl (by decide), bO_s, rcv_m h.lo, bO_s, c3, lit 8192, n_mul, g1', bP_s]
  cases hq : fltF (rows r) with
  | none =>
    rw [if_pos rfl, if_pos rfl]
    obtain ⟨o1, o2, β4, o3, o4⟩ := ho1
    have e' := d1 hq
    subst e'
    have g2 : P_X13_tell G F (W.ad (.o 13 0)) (W.ad (.a 13 0 30)) 0 (Int32.ofNat (dec (rows r)).length) (mem W (S.so 13 0 (un (S 13 0) 30 (wrB β30 0 (dec (rows r))) v))) = _ := QM_tell (S := S.so 13 0 (un (S 13 0) 30 (wrB β30 0 (dec (rows r))) v)) (k := 30) (p := 0) (cnt := (dec (rows r)).length) (β := wrB β30 0 (dec (rows r))) (β4 := β4) X h rfl (by decide) (by decide) (by show 0 + _ ≤ 8200; omega) (by omega) (by rw [so_eq]; exact hb') (by rw [so_eq]; exact o3)
    rw [so_eq, so_so, rdB_wrB] at g2
    refine ⟨((un (S 13 0) 30 (wrB β30 0 (dec (rows r))) v).sA 4 (fun j => sb (wrB β4 0 (dec (rows r)) j))).sf 5 (Int32.ofNat (dec (rows r)).length), ?_, a1.trans ((agr_sA (k := 4) (by decide)).trans (agr_sf (k := 5) (by decide))), ?_, ?_⟩
    · rw [if_pos (Int32.not_lt.mp (nn (by omega))), h.gR 30 rfl (by decide), bO_s, rcv_m h.lo, bO_s, g2, bP_s]
    · exact ⟨by rw [sf_f, if_pos rfl], by omega, _, by unfold mB; rw [sf_a, sA_a], rdB_wrB _ _ _⟩
    · exact ⟨_, by unfold mB; rw [sf_a, sA_a' (by decide)]; exact hb'⟩
  | some k =>
    have e' := d2 k hq
    refine ⟨un (S 13 0) 30 β' v, ?_, a1, ?_, β', hb'⟩
    · rw [if_neg (show ¬ (some k : Option Nat) = none from fun z => nomatch z), if_neg (by decide : ¬ (0 : Int32) ≤ -1), h.gI 29 rfl, bO_s, so_eq]
      have e2 : (un (S 13 0) 30 β' v).f 29 = (Int32.ofNat k) := by
        unfold un
        rw [sf_f, if_pos rfl, e']
      rw [e2]
    · rw [if_neg (show ¬ (some k : Option Nat) = none from fun z => nomatch z)]
      exact ho1
theorem QM_noRow2 {x : Int32} (hx : isr x = false) (a : Nat) (M : mM) : P_X13_encode G F a x M = some (-2, M) ∧ P_X13_decode G F a x M = some (-2, M) := by
  unfold P_X13_encode P_X13_decode
  rw [Q13_isRow, bP_s, hx]
  exact ⟨rfl, rfl⟩
end MCALL
