/-! THE PURE THEOREM -/
def emW (lo : Nat) : WR := ⟨((fun _ => 0), (fun _ => none), lo, (fun _ => false), (fun _ _ _ => none), (fun _ _ => none), (fun _ => 0)), ⟨fun _ _ h => absurd h (by simp), fun _ _ h => absurd h (by simp), fun _ h => absurd h (by simp)⟩⟩
theorem emW_mem (lo : Nat) (S : ST) : mem (emW lo) S = fun _ => none := rfl
section PURE
variable {W W' : WR} {G : mG} {F : Nat} {S S' : ST}
theorem WP.t (p : WP W W') (q : isT W) : isT W' := by
  obtain ⟨h1, h2, h3, h4, h5, h6, h7, h8, h9, h10, h11, h12, h13, h14, h15, h16, h17, h18⟩ := q
  exact ⟨p.lv h1, p.rr h2, p.lv h3, p.nn h3 h4, fun r hr => p.ee (h5 r hr), fun r hr => p.b (h6 r hr), p.rr h7, p.b h8, p.rr h9, p.b h10, p.rr h11, p.b h12, p.rr h13, p.b h14, p.rr h15, p.b h16, p.rr h17, p.b h18⟩
theorem WP.cls {h : Nat} (p : WP W W') (q : clsW W h) : clsW W' h := by
  obtain ⟨⟨iT, iD, iRs, iCu, iTK, iCi, iCo, r12, r13, r14, r15, r16, r17⟩, ⟨q7, q8, q9, l7⟩, t0, t1, j0, j1, j2⟩ := q
  exact ⟨⟨p.t iT, p.d iD, p.rs iRs, p.cu iCu, p.tk iTK, p.ci iCi, p.co iCo, p.rr r12, p.rr r13, p.rr r14, p.rr r15, p.rr r16, p.rr r17⟩, ⟨p.rr q7, p.rr q8, p.rr q9, p.lv l7⟩, p.tx t0, p.tx t1, p.b j0, p.b j1, p.b j2⟩
theorem pure_start {sz : Nat} (hR : RoQ G sz) (hF : 100000 ≤ F) : ∃ W S A2 z sl z0 s0, (∀ (β : Type) (K : Nat → mM → Nat → Nat → Option β), (bO (some (nwO (fun _ => none) sz 11 dfX11)) fun Ma => bA (P_X11_init G F sz Ma (sz + 1) (0 + 18)) fun M4 z4 k4 => bO (some (nwO M4 z4 13 dfX13)) fun M8 => bA (P_X13_init G F z4 M8 (z4 + 1) (k4 + 134)) fun M12 z12 k12 => K z4 M12 z12 k12) = K A2 (mem W S) z sl) ∧ Rl G F W S z sl z0 s0 sz A2 sz ∧ z0 ≤ sz + 701 ∧ s0 ≤ 923200 := by
  have X0 : Cx G F (emW sz) := ⟨hR, hF⟩
  have wf0 : WF (emW sz) sz := ⟨fun _ _ _ _ e => absurd e (by simp [emW, WR.r]), fun _ _ _ e => absurd e (by simp [emW, WR.e]), fun _ _ e => absurd e (by simp [emW, WR.di]), Nat.le_refl _⟩
  obtain ⟨W1, S1, V, z1, s1, g1, wf1, ⟨lz, uz⟩, us, p1, ad1, cw, ns, ck, ib, ab, zo, z9, ky, ke, k10, l10, n10, k11⟩ := nw_class (G := G) (F := F) (W := emW sz) (S := fun _ _ => zOb) (z := sz) (sl := 0) X0 wf0 (fun c i => ⟨⟨rfl, fun _ => rfl, fun _ _ => rfl, fun _ => rfl, fun _ _ => rfl⟩, rfl⟩)
  have X1 := p1.cx X0
  obtain ⟨W2, S2, z2, s2, g2, wf2, ⟨lz2, uz2⟩, us2, x2, ad2, f2, mi⟩ := nw_model (G := G) (F := F) (W := W1) (S := S1) (z := z1) (sl := s1) X1 wf1 (fun c i hc => ns c i (fun q => by omega))
  have p2 := x2.1.p
  have cw2 := p2.cls cw
  have e0 : ∀ i, S2 0 i = S1 0 i := fun i => f2 0 i (by simp)
  have zo2 : ∀ i, i ∉ [72, 73, 74, 75, 80, 81, 82] → S2 0 i = zOb := fun i hi => (e0 i).trans (zo i hi)
  have bz : ∀ i, i ∉ [72, 73, 74, 75, 80, 81, 82] → ∀ room, Byt room (S2 0 i) [] false := fun i hi room => by rw [zo2 i hi]; exact zB_byt
  have ab2 : AB W2 S2 := by
    intro i room h9 hB
    by_cases hi : i ∈ [72, 73, 74, 75, 80, 81, 82]
    · have b1 : ∃ r1, isB W1 i r1 := by
        obtain ⟨⟨_, _, _, iCu, _⟩, _, _, _, j0, j1, j2⟩ := cw
        simp only [List.mem_cons, List.not_mem_nil, or_false] at hi
        rcases hi with rfl | rfl | rfl | rfl | rfl | rfl | rfl
        · exact ⟨_, iCu.bb 0 (by decide)⟩
        · exact ⟨_, iCu.bb 1 (by decide)⟩
        · exact ⟨_, iCu.bb 2 (by decide)⟩
        · exact ⟨_, iCu.bb 3 (by decide)⟩
        · exact ⟨_, j0⟩
        · exact ⟨_, j1⟩
        · exact ⟨_, j2⟩
      obtain ⟨r1, b1⟩ := b1
      rw [hB.one (p2.b b1), e0]
      exact ab i r1 h9 b1
    · exact ⟨[], false, bz i hi room⟩
  have ky2 : ∀ j, j ≤ 16 → isKo W2 j ∧ W2.r 5 j 9 = some (.o 0 (94 + j)) ∧ isB W2 (94 + j) 64 ∧ S2 5 j = zOb.sf 3 (-1) := fun j hj => by
    obtain ⟨k1, k2, k3, k4⟩ := ky j hj
    exact ⟨p2.ko k1, p2.rr k2, p2.b k3, (f2 5 j (by simp)).trans k4⟩
  have nm : ∀ i, i < 72 ∨ 83 ≤ i → i ∉ [72, 73, 74, 75, 80, 81, 82] := fun i hi q => by
    simp only [List.mem_cons, List.not_mem_nil, or_false] at q
    omega
  have K : KHS W2 S2 z2 s2 z2 s2 (fun j => j) (fun j => 94 + j) (fun _ => 64) (fun _ => none) := by
    refine ⟨⟨fun k hk => hk, fun _ _ _ _ e => e⟩, ⟨p2.rr k10, p2.lv l10, p2.nn l10 n10, fun k hk => p2.ee (ke k hk), p2.rr k11⟩, fun j hj => ?_, fun i j _ _ e => by
      have e : 94 + i = 94 + j := e
      omega, fun k hk => ?_, wf2, fun ν hν => ?_, by omega, Nat.le_add_right _ _, Nat.le_add_right _ _⟩
    · obtain ⟨k1, k2, k3, k4⟩ := ky2 j hj
      exact ⟨k1, k2, k3, ⟨0, by decide, rfl⟩, Nat.le_add_right _ _, ⟨⟨_, _, bz _ (nm _ (by omega)) _⟩, ⟨_, _, bz _ (nm _ (by omega)) _⟩, ⟨_, _, bz _ (nm _ (by omega)) _⟩⟩, ⟨_, _, bz (94 + j) (nm _ (by omega)) _⟩⟩
    · show (S2 5 k).f 0 = 0
      rw [(ky2 k (by omega)).2.2.2]
      rfl
    · obtain ⟨v1, v2, v3, v4, _⟩ := (x2.2 0 ν (by simp)).1 (ns 0 ν (fun q => by have := q.2 rfl; omega)).1
      exact ⟨v1, v2, v3, v4⟩
  have c : CI W2 S2 z2 s2 z2 s2 [] (fun _ => []) [] 0 J0_ (fun _ => none) := by
    refine ⟨by decide, cw2, ⟨⟨?_, fun i hi => absurd hi (Nat.not_lt_zero _)⟩, false, bz 14 (by decide) _⟩, ⟨false, bz 8 (by decide) _⟩, fun r hr => ⟨false, bz r (nm r (by omega)) _⟩, ⟨false, bz 9 (by decide) _⟩, ab2, ⟨V, ck.fr f2 (by decide)⟩, fun x => by rw [f2 1 0 (by decide)]; exact ib x, _, _, _, K⟩
    rw [f2 9 0 (by decide), z9]
    rfl
  have a11 : W2.ad (.o 11 0) = sz := (p2.1 _ cw.1.1.lo).2.1.trans ad1
  refine ⟨W2, S2, z1, z2, s2, z2, s2, fun β K => ?_, ⟨[], fun _ => [], [], 0, 0, J0_, fun _ => none, c, mi, J0_I, p2.cx X1, a11, ad2, ?_⟩, by omega, by omega⟩
  · refine (g1 _ _).trans ?_
    exact g2 _ _
  · rw [p2.2.2.2, p1.2.2.2]
    rfl
theorem pure_goal : PureG := by
  intro G b L xs sz hR hb hG hL
  obtain ⟨W, S, A2, z, sl, z0, s0, g, R, bz, bs⟩ := pure_start (G := G) (F := 100000) hR (Nat.le_refl _)
  obtain ⟨M, Z, T, q, q1, q2⟩ := L_loop (G := G) (F := 100000) (A1 := sz) (A2 := A2) (L0 := sz) hG hb hL 512 0 100000 W S z sl (by decide) (by omega) (by decide) R
  refine ⟨100000, M, Z, T, ?_, by omega, by omega⟩
  unfold P_L_law
  exact (g _ (fun z4 M12 z12 k12 => B_L_law_18 G 100000 100000 b sz z4 0 M12 z12 k12)).trans q
end PURE
