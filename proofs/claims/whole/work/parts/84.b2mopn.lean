/-! CALL open: the model -/
section MOP
variable {W : WR} {G : mG} {F : Nat} {S : ST}
theorem QM_open {rows : Nat → List UInt8} {w k b a r : Int32} (X : Cx G F W) (h : isM W) (mk : MK S) (dg : mDig (S 13 0)) (E : mEv (S 13 0)) (bx : oBX (S 13 0)) (hR : mRows (S 13 0) rows) : ∃ o', P_X13_open G F (W.ad (.o 13 0)) w k b a r (mem W S) = some (match openCC rows w k b a r with | some (some u) => (Int32.ofNat u.length) | some none => -1 | none => -2, mem W (S.so 13 0 o')) ∧ MO S o' ∧ agr [5, 37, 39, 44, 50] tkG (4 :: SLA) [33, 34] (S 13 0) o' ∧ outO (S 13 0) o' (match openCC rows w k b a r with | some (some u) => some u | some none => none | none => none) := by
  obtain ⟨βr, w1, w2⟩ := id hR
  have M0 := MO.of mk dg E
  have stay : ∀ v : Int32, ∃ o', some (v, mem W S) = some (v, mem W (S.so 13 0 o')) ∧ MO S o' ∧ agr [5, 37, 39, 44, 50] tkG (4 :: SLA) [33, 34] (S 13 0) o' ∧ outO (S 13 0) o' none := fun v => ⟨S 13 0, by rw [so_self], M0, agr.refl _ _ _ _ _, ⟨rfl, rfl⟩⟩
  unfold P_X13_open openCC
  rw [rcv_m h.lo, bO_s, QM_isContent h hR, bP_s]
  cases c0 : (waySt rows w k b && (isr a && isr r)) with
  | false =>
    rw [if_pos (show (if false = true then (1 : Int32) else 0) = 0 from rfl)]
    exact stay (-2)
  | true =>
    rw [Bool.and_eq_true, Bool.and_eq_true] at c0
    obtain ⟨cw, ca, cr⟩ := c0
    obtain ⟨w', k', b', hw', hk', hb', rfl, rfl, rfl, kl, bl⟩ := waySt_i cw
    rcases isr_cases a with e | ⟨a', ha', rfl, _⟩
    · rw [e] at ca
      exact absurd ca (by decide)
    rcases isr_cases r with e | ⟨r', hr', rfl, _⟩
    · rw [e] at cr
      exact absurd cr (by decide)
    obtain ⟨k3, k4, k5⟩ := w2 k' hk'
    obtain ⟨b3, b4, b5⟩ := w2 b' hb'
    obtain ⟨a3, a4, a5⟩ := w2 a' ha'
    obtain ⟨r3, r4, r5⟩ := w2 r' hr'
    have wm := wayM_32 w'
    have wk := wayK_le w'
    have iv := ivOf_le w'
    have rdr : aI G (mem W S) 0 (W.ad (.a 13 0 3)) (Int32.ofNat r') = some (Int32.ofNat (rows r').length) := by rw [h.aN rfl (show r' < mLen 3 from hr') (by decide), r3]
    have rda : aI G (mem W S) 0 (W.ad (.a 13 0 3)) (Int32.ofNat a') = some (Int32.ofNat (rows a').length) := by rw [h.aN rfl (show a' < mLen 3 from ha') (by decide), a3]
    rw [if_neg (show ¬ (if true = true then (1 : Int32) else 0) = 0 by decide), if_pos (show true = true from rfl), h.gR 3 rfl (by decide), bO_s, rdr, bO_s, oM_markOf hw', bP_s, n_at (by omega), n_at (by omega), n_at (by omega), n_at (by omega), n_at (by omega)]
    by_cases c1 : (rows r').length < wayM w'
    · have eo : openF w' (rows k') (rows b') (rows a') (rows r') = none := by unfold openF; rw [if_pos c1]
      have hneg : (Int32.ofNat (rows r').length) - (Int32.ofNat (wayM w')) < (0 : Int32) := by
        have q : ∀ x, x < 32 → ∀ y, y ≤ 32 → x < y → (Int32.ofNat x) - (Int32.ofNat y) < (0 : Int32) := by decide +kernel
        exact q _ (by omega) _ (by omega) c1
      rw [if_pos hneg, eo]
      unfold B_X13_open_109
      rw [if_pos rfl]
      exact stay (-1)
    · have nsb : (Int32.ofNat (rows r').length) - (Int32.ofNat (wayM w')) = (Int32.ofNat ((rows r').length - wayM w')) := n_sub (by omega)
      obtain ⟨n, hn⟩ : ∃ n, n = (rows r').length - wayM w' := ⟨_, rfl⟩
      have eo : openF w' (rows k') (rows b') (rows a') (rows r') = openC w' (rows k') (rows b') (rows a') ((rows r').take n) ((rows r').drop n) := by unfold openF; rw [if_neg c1, hn]
      have tl : ((rows r').take n).length = n := by rw [List.length_take]; omega
      have dl : ((rows r').drop n).length = wayM w' := by rw [List.length_drop]; omega
      obtain ⟨γ49, b49⟩ := E 49 rfl
      obtain ⟨μ51, b51⟩ := E 51 rfl
      obtain ⟨o2, g2, a2, ⟨γ', c49, q49⟩, c51, c47, c52, d2⟩ := oM_openIt (G := G) (F := F) (S := S) (o := S 13 0) (way := w') (kk := 2) (pk := 8192 * k') (kb := 2) (pb := 8192 * b') (ka := 2) (pa := 8192 * a') (ko := 2) (po := 8192 * r') (km := 2) (pm := 8192 * r' + n) (key := rows k') (iv := rows b') (al := rows a') (c := (rows r').take n) (mk := (rows r').drop n) X h hw' rfl rfl rfl rfl rfl (by decide) (by decide) (by decide) (by decide) (by decide) (by decide) (by decide) (by decide) (by decide) (by decide) (by show _ ≤ 65536; omega) (by show _ ≤ 65536; omega) (by show _ ≤ 65536; omega) (by show _ ≤ 65536; omega) (by show _ ≤ 65536; omega) kl bl dl (by omega) (by omega) w1 w1 w1 w1 w1 b49 b51 (E 47 rfl) (E 52 rfl) dg bx k5 b5 a5 (by rw [tl, ← r5, rdB_tk (by omega)]) (by rw [dl, ← r5, rdB_drop (by omega), show (rows r').length - n = wayM w' by omega])
      rw [so_self, tl] at g2
      have M2 : MO S o2 := ⟨M0.1.agL a2 (by decide), d2, E.keep a2 (fun n hn z => by
        simp only [SLA, List.mem_cons, List.not_mem_nil, or_false] at hn
        rcases hn with rfl | rfl | rfl | rfl | rfl | rfl | rfl | rfl | rfl | rfl | rfl | rfl | rfl
        · exact absurd z (by decide)
        · exact absurd z (by decide)
        · exact absurd z (by decide)
        · exact c47
        · exact ⟨_, c49⟩
        · exact c51
        · exact c52
        · exact d2.2.1
        · exact absurd z (by decide)
        · exact absurd z (by decide)
        · exact d2.1
        · exact d2.2.2.1
        · exact d2.2.2.2)⟩
      have a2' : agr [5, 37, 39, 44, 50] tkG (4 :: SLA) [33, 34] (S 13 0) o2 := a2.mono (by simp) (by simp) (fun x hx => List.mem_cons_of_mem _ hx) (by simp)
      have em : ∀ x : Nat, (8192 : Int32) * (Int32.ofNat x) = (Int32.ofNat (8192 * x)) := fun x => n_mul 8192 x
      rw [nsb, ← hn, if_neg (nn (by omega)), h.gR 2 rfl (by decide), bO_s, bO_s, bO_s, h.gR 3 rfl (by decide), bO_s, rda, bO_s, bO_s, bO_s, rcv_m h.lo, bO_s, em, em, em, em, n_add, g2, bP_s, eo]
      cases ec : openC w' (rows k') (rows b') (rows a') ((rows r').take n) ((rows r').drop n) with
      | none =>
        rw [if_pos (show (if (none : Option (List UInt8)).isSome = true then (1 : Int32) else 0) = 0 from rfl)]
        unfold B_X13_open_109
        rw [if_pos rfl]
        exact ⟨o2, rfl, M2, a2', ⟨a2.1 5 (by decide), a2.2.2.1 4 (by decide)⟩⟩
      | some pl =>
        obtain ⟨f50, e49⟩ := q49 pl ec
        have pll : pl.length ≤ 8192 := by have := openC_len ec; omega
        obtain ⟨β4, h4⟩ := M2.2.2 4 rfl
        have t := QM_tell (G := G) (F := F) (S := S.so 13 0 o2) (k := 49) (p := 0) (cnt := pl.length) X h rfl (by decide) (by decide) (by show _ ≤ 8300; omega) pll (by rw [so_eq]; exact c49) (by rw [so_eq]; exact h4)
        rw [so_eq, so_so, e49] at t
        have t : P_X13_tell G F (W.ad (.o 13 0)) (W.ad (.a 13 0 49)) 0 (Int32.ofNat pl.length) (mem W (S.so 13 0 o2)) = _ := t
        obtain ⟨o4, ho4⟩ : ∃ o4, o4 = (o2.sA 4 (fun j => sb (wrB β4 0 pl j))).sf 5 (Int32.ofNat pl.length) := ⟨_, rfl⟩
        rw [← ho4] at t
        have a4' : agr [5] [] [4] [] o2 o4 := by rw [ho4]; exact (agr_sA (by simp)).trans (agr_sf (by simp))
        have out4 : mOut o4 pl := by
          rw [ho4]
          exact ⟨by rw [sf_eq], pll, wrB β4 0 pl, mB_sA _ _ _, rdB_wrB _ _ _⟩
        have y50 : gfI (mem W (S.so 13 0 o2)) (W.ad (.o 13 0)) 13 50 = some (Int32.ofNat pl.length) := by rw [gfI_m h.lo rfl, so_eq, f50]
        rw [if_neg (show ¬ (if (some pl).isSome = true then (1 : Int32) else 0) = 0 by rw [if_pos (show (some pl).isSome = true from rfl)]; decide)]
        unfold B_X13_open_109
        rw [if_neg (by decide), h.gR 49 rfl (by decide), bO_s, y50, bO_s, rcv_m h.lo, bO_s, t, bP_s]
        exact ⟨o4, rfl, M2.ag a4' (by decide) (by decide) (fun q hq _ => by
          rw [List.mem_singleton] at hq
          rw [hq]
          exact out4.2.2.imp (fun _ z => z.1)), a2'.trans (a4'.mono (by simp) (by simp) (by simp) (by simp)), out4⟩
end MOP
