/-! THE CLASS'S CHECK OF A SIGNATURE OF POINTS -/
/-- both shares -/
def shF (a s : Nat) : Nat := a * niv s % nP
def verF (hash sg xy : List UInt8) : Bool := decide (sg.length = 64) && (secF (seg sg 0 32) && (secF (seg sg 32 32) && (onC (beN (seg xy 0 32)) (beN (seg xy 32 32)) && (match affS (sumS (beV 32 (shF (beN (seg hash 0 32) % nP) (beN (seg sg 32 32) % nP))) (beV 32 (shF (beN (seg sg 0 32) % nP) (beN (seg sg 32 32) % nP))) bpt (ptOf xy) 256) with
  | none => false
  | some q => decide (q.1 % nP = beN (seg sg 0 32) % nP)))))
section VERC
variable {W : WR} {G : mG} {F : Nat} {S : ST} {V : Nat → Int}
theorem ou_fill {ib k : Nat} {xs : List UInt8} {l : Bool} {U : Nat → Nat} {q : Int × Int} (X : Cx G F W) (h : isCu W) (O : OC S U q) (hk : k < 3) (hB : isB W ib 32) (hb : Byt 32 (S 0 ib) xs l) (hn : ib ∉ [72, 73, 74, 75, 79]) : ∃ o1 o2, P_X0_clear G F (W.ad (.o 0 ib)) (mem W S) = some (mem W (S.so 0 ib o1)) ∧ P_X6_give G F (W.ad (.o 6 2)) (W.ad (wc (3 + k))) 32 (W.ad (.o 0 ib)) (mem W (S.so 0 ib o1)) = some (mem W (S.so 0 ib o2)) ∧ fr [(0, ib)] S (S.so 0 ib o2) ∧ OC (S.so 0 ib o2) U q ∧ Byt 32 ((S.so 0 ib o2) 0 ib) (beV 32 (U k)) false := by
  have nt' : ∀ x ∈ [(3, 0), (6, 1), (6, 2), (0, 72), (0, 73), (0, 74), (0, 75), (0, 79)], x ∉ [((0 : Nat), ib)] := by
    simp at hn ⊢
    omega
  obtain ⟨o1, p1, b1⟩ := Q0_clear (G := G) (F := F) hB hb
  have O1 : OC (S.so 0 ib o1) U q := O.fr (L := [(0, ib)]) (fr_so (by simp)) nt'
  obtain ⟨o2, p2, b2⟩ := ou_give (G := G) (F := F) (k := k) X h O1 hk hB (by rw [so_eq]; exact b1)
  rw [so_so] at p2
  refine ⟨o1, o2, p1, p2, fr_so (by simp), O.fr (L := [(0, ib)]) (fr_so (by simp)) nt', ?_⟩
  rw [so_eq]
  rw [tkl_fit (by rw [List.length_nil, beV_len]; omega), List.nil_append, show lsl 32 [] (beV 32 (U k)) false = false by unfold lsl; rw [Bool.false_or, decide_eq_false (by rw [List.length_nil, beV_len]; omega)]] at b2
  exact b2
theorem Q3_isSignatureRight {ih is_ ix rh rs_ rx : Nat} {z sg xy u w y : List UInt8} {lz ls lx lu lw ly : Bool} (pr : PrP) (X : Cx G F W) (h : isCu W) (K : CK S V) (hZ : isB W ih rh) (bz : Byt rh (S 0 ih) z lz) (hlz : 32 ≤ z.length) (hG : isB W is_ rs_) (bg : Byt rs_ (S 0 is_) sg ls) (hX : isB W ix rx) (bx : Byt rx (S 0 ix) xy lx) (hlx : 64 ≤ xy.length) (b76 : Byt 64 (S 0 76) u lu) (b77 : Byt 32 (S 0 77) y ly) (b78 : Byt 32 (S 0 78) w lw) (nz : ih ≠ 77) (ng : is_ ≠ 76 ∧ is_ ≠ 77 ∧ is_ ≠ 78) (hrs : rs_ < 90000) : ∃ S' V', P_X3_isSignatureRight G F (W.ad (.o 3 0)) (W.ad (.o 0 ih)) (W.ad (.o 0 is_)) (W.ad (.o 0 ix)) (mem W S) = some (if verF z sg xy = true then 1 else 0, mem W S') ∧ fr [(3, 0), (6, 1), (6, 2), (0, 76), (0, 77), (0, 78)] S S' ∧ CK S' V' ∧ (∃ u l, Byt 64 (S' 0 76) u l) ∧ (∃ w l, Byt 32 (S' 0 77) w l) ∧ (∃ w l, Byt 32 (S' 0 78) w l) := by
  have gl := bg.le
  unfold P_X3_isSignatureRight verF
  rw [hG.gI 1 rfl, bO_s, bg.many]
  by_cases c64 : sg.length = 64
  · rw [if_pos (show (Int32.ofNat sg.length) = 64 by rw [c64]; rfl), decide_eq_true c64, Bool.true_and]
    have s0 := Q3_isSecret (G := G) (F := F) (at_ := 0) X h K hG bg (by omega)
    have s0' : P_X3_isSecret G F (W.ad (.o 3 0)) (W.ad (.o 0 is_)) 0 (mem W S) = _ := s0
    rw [rcv_m h.1, bO_s, s0', bP_s]
    cases c0 : secF (seg sg 0 32) with
    | false =>
      rw [if_neg Bool.false_ne_true, if_pos rfl, retZ0, Bool.false_and]
      exact ⟨S, V, rfl, fr.refl _ _, K, ⟨u, lu, b76⟩, ⟨y, ly, b77⟩, ⟨w, lw, b78⟩⟩
    | true =>
      rw [if_pos rfl, if_neg (by decide), Bool.true_and]
      have s1 := Q3_isSecret (G := G) (F := F) (at_ := 32) X h K hG bg (by omega)
      have s1' : P_X3_isSecret G F (W.ad (.o 3 0)) (W.ad (.o 0 is_)) 32 (mem W S) = _ := s1
      rw [rcv_m h.1, bO_s, s1', bP_s]
      cases c1 : secF (seg sg 32 32) with
      | false =>
        rw [if_neg Bool.false_ne_true, if_pos rfl, retZ0, Bool.false_and]
        exact ⟨S, V, rfl, fr.refl _ _, K, ⟨u, lu, b76⟩, ⟨y, ly, b77⟩, ⟨w, lw, b78⟩⟩
      | true =>
        rw [if_pos rfl, if_neg (by decide), Bool.true_and]
        obtain ⟨S0, V0, g0, f0, K0, k0, r0⟩ := Q3_load (G := G) (F := F) X h K hX bx hlx
        have fr0 : fr [(3, 0), (6, 1), (6, 2), (0, 76), (0, 77), (0, 78)] S S0 := f0.fr (by simp [ow, wc])
        have bz_0 := Byt.lfr f0 bz
        have bg_0 := Byt.lfr f0 bg
        have bu_0 := Byt.lfr f0 b76
        have by_0 := Byt.lfr f0 b77
        have bw_0 := Byt.lfr f0 b78
        rw [rcv_m h.1, bO_s, g0, bP_s]
        cases ho : onC (beN (seg xy 0 32)) (beN (seg xy 32 32)) with
        | false =>
          rw [if_neg (c := false = true) Bool.false_ne_true, if_pos rfl, retZ0, Bool.false_and]
          exact ⟨S0, V0, rfl, fr0, K0, ⟨_, _, bu_0⟩, ⟨_, _, by_0⟩, ⟨_, _, bw_0⟩⟩
        | true =>
          rw [if_pos (c := true = true) rfl, if_neg (by decide), Bool.true_and]
          obtain ⟨v11, v12⟩ := r0 ho
          obtain ⟨U0, O0⟩ := OC.of K0
          obtain ⟨qq, hqq⟩ : ∃ x, x = ptOf xy := ⟨_, rfl⟩
          rw [show (V0 11, V0 12) = ptOf xy by rw [v11, v12]; rfl, ← hqq] at O0
          rw [h.gA 11 (by decide) rfl, bO_s, h.gl 11 0 (by decide), bO_s, bO_s, h.gl 11 1 (by decide), bO_s]
          obtain ⟨S1, g1, f1, O1⟩ := ou_take (G := G) (F := F) (p := 32) (k := 0) X h O0 (by decide) hG bg_0 (by omega)
          have g1' : P_X6_take G F (W.ad (.o 6 2)) (W.ad (.o 0 is_)) 32 32 (W.ad (.b 3 0 11 0)) (mem W S0) = some (mem W S1) := g1
          obtain ⟨U1, hU1⟩ : ∃ u, u = uu U0 0 (beN (seg sg 32 32) % nP) := ⟨_, rfl⟩
          have O1 : OC S1 U1 qq := by rw [hU1]; exact O1
          have u1_0 : U1 0 = beN (seg sg 32 32) % nP := by rw [hU1, uu_eq]
          rw [h.gn, bO_s, rcv_m h.mn.1, bO_s, g1', bO_s]
          have bz_1 := Byt.lfr f1 bz_0
          have bg_1 := Byt.lfr f1 bg_0
          have bu_1 := Byt.lfr f1 bu_0
          have by_1 := Byt.lfr f1 by_0
          have bw_1 := Byt.lfr f1 bw_0
          obtain ⟨S2, g2, f2, O2⟩ := ou_raise (G := G) (F := F) (k := 0) X h O1 (by decide)
          have g2' : P_X6_raise G F (W.ad (.o 6 2)) (W.ad (.b 3 0 11 0)) (W.ad (.o 0 75)) (W.ad (.b 3 0 11 0)) (mem W S1) = some (mem W S2) := g2
          obtain ⟨U2, hU2⟩ : ∃ u, u = uu U1 0 (niv (beN (seg sg 32 32) % nP)) := ⟨_, rfl⟩
          have O2 : OC S2 U2 qq := by rw [hU2]; rw [← u1_0]; exact O2
          have u2_0 : U2 0 = niv (beN (seg sg 32 32) % nP) := by rw [hU2, uu_eq]
          rw [h.gn, bO_s, h.gb 3 (by decide), bO_s, rcv_m h.mn.1, bO_s, g2', bO_s]
          have bz_2 := Byt.lfr f2 bz_1
          have bg_2 := Byt.lfr f2 bg_1
          have bu_2 := Byt.lfr f2 bu_1
          have by_2 := Byt.lfr f2 by_1
          have bw_2 := Byt.lfr f2 bw_1
          obtain ⟨S3, g3, f3, O3⟩ := ou_lead (G := G) (F := F) (k := 0) X h O2 (by decide)
          have g3' : P_X6_lead G F (W.ad (.o 6 2)) (W.ad (.b 3 0 11 0)) (mem W S2) = some (mem W S3) := g3
          obtain ⟨U3, hU3⟩ : ∃ u, u = uu U2 0 (niv (beN (seg sg 32 32) % nP) * 4294967296 ^ 8 % nP) := ⟨_, rfl⟩
          have O3 : OC S3 U3 qq := by rw [hU3]; rw [← u2_0]; exact O3
          have u3_0 : U3 0 = niv (beN (seg sg 32 32) % nP) * 4294967296 ^ 8 % nP := by rw [hU3, uu_eq]
          rw [h.gn, bO_s, rcv_m h.mn.1, bO_s, g3', bO_s]
          have bz_3 := Byt.lfr f3 bz_2
          have bg_3 := Byt.lfr f3 bg_2
          have bu_3 := Byt.lfr f3 bu_2
          have by_3 := Byt.lfr f3 by_2
          have bw_3 := Byt.lfr f3 bw_2
          obtain ⟨S4, g4, f4, O4⟩ := ou_take (G := G) (F := F) (p := 0) (k := 1) X h O3 (by decide) hZ bz_3 (by omega)
          have g4' : P_X6_take G F (W.ad (.o 6 2)) (W.ad (.o 0 ih)) 0 32 (W.ad (.b 3 0 11 1)) (mem W S3) = some (mem W S4) := g4
          obtain ⟨U4, hU4⟩ : ∃ u, u = uu U3 1 (beN (seg z 0 32) % nP) := ⟨_, rfl⟩
          have O4 : OC S4 U4 qq := by rw [hU4]; exact O4
          have u4_0 : U4 0 = niv (beN (seg sg 32 32) % nP) * 4294967296 ^ 8 % nP := by rw [hU4, uu_ne (by decide), u3_0]
          have u4_1 : U4 1 = beN (seg z 0 32) % nP := by rw [hU4, uu_eq]
          rw [h.gn, bO_s, rcv_m h.mn.1, bO_s, g4', bO_s]
          have bz_4 := Byt.lfr f4 bz_3
          have bg_4 := Byt.lfr f4 bg_3
          have bu_4 := Byt.lfr f4 bu_3
          have by_4 := Byt.lfr f4 by_3
          have bw_4 := Byt.lfr f4 bw_3
          obtain ⟨S5, g5, f5, O5⟩ := ou_times (G := G) (F := F) (i := 1) (j := 0) (k := 1) X h O4 (by decide) (by decide) (by decide) (by rw [u4_0]; exact Nat.mod_lt _ n_pos)
          have g5' : P_X6_times G F (W.ad (.o 6 2)) (W.ad (.b 3 0 11 1)) (W.ad (.b 3 0 11 0)) (W.ad (.b 3 0 11 1)) (mem W S4) = some (mem W S5) := g5
          obtain ⟨U5, hU5⟩ : ∃ u, u = uu U4 1 (shF (beN (seg z 0 32) % nP) (beN (seg sg 32 32) % nP)) := ⟨_, rfl⟩
          have O5 : OC S5 U5 qq := by rw [hU5]; unfold shF; rw [← T_lead (n := 8) nP_1 nP_2 (beN (seg z 0 32) % nP), ← u4_0, ← u4_1]; exact O5
          have u5_0 : U5 0 = niv (beN (seg sg 32 32) % nP) * 4294967296 ^ 8 % nP := by rw [hU5, uu_ne (by decide), u4_0]
          have u5_1 : U5 1 = shF (beN (seg z 0 32) % nP) (beN (seg sg 32 32) % nP) := by rw [hU5, uu_eq]
          rw [h.gn, bO_s, rcv_m h.mn.1, bO_s, g5', bO_s]
          have bz_5 := Byt.lfr f5 bz_4
          have bg_5 := Byt.lfr f5 bg_4
          have bu_5 := Byt.lfr f5 bu_4
          have by_5 := Byt.lfr f5 by_4
          have bw_5 := Byt.lfr f5 bw_4
          obtain ⟨oa6, ob6, pa6, pb6, f6, O6, bb6⟩ := ou_fill (G := G) (F := F) (k := 1) X h O5 (by decide) h.b13 by_5 (by decide)
          have pb6' : P_X6_give G F (W.ad (.o 6 2)) (W.ad (.b 3 0 11 1)) 32 (W.ad (.o 0 77)) (mem W (S5.so 0 77 oa6)) = some (mem W (S5.so 0 77 ob6)) := pb6
          rw [h.g13, bO_s, rcv_m h.b13.1, bO_s, pa6, bO_s, h.gn, bO_s, h.g13, bO_s, rcv_m h.mn.1, bO_s, pb6', bO_s]
          obtain ⟨S6, hS6⟩ : ∃ x, x = S5.so 0 77 ob6 := ⟨_, rfl⟩
          rw [← hS6] at f6 O6 bb6
          rw [← hS6]
          rw [u5_1] at bb6
          obtain ⟨U6, hU6⟩ : ∃ u, u = U5 := ⟨_, rfl⟩
          rw [← hU6] at O6
          have u6_0 : U6 0 = niv (beN (seg sg 32 32) % nP) * 4294967296 ^ 8 % nP := by rw [hU6, u5_0]
          have u6_1 : U6 1 = shF (beN (seg z 0 32) % nP) (beN (seg sg 32 32) % nP) := by rw [hU6, u5_1]
          have bg_6 := bg_5
          rw [← f6 0 is_ (by simp; try omega)] at bg_6
          have bu_6 := bu_5
          rw [← f6 0 76 (by simp; try omega)] at bu_6
          have by_6 := bb6
          have bw_6 := bw_5
          rw [← f6 0 78 (by simp; try omega)] at bw_6
          obtain ⟨S7, g7, f7, O7⟩ := ou_take (G := G) (F := F) (p := 0) (k := 1) X h O6 (by decide) hG bg_6 (by omega)
          have g7' : P_X6_take G F (W.ad (.o 6 2)) (W.ad (.o 0 is_)) 0 32 (W.ad (.b 3 0 11 1)) (mem W S6) = some (mem W S7) := g7
          obtain ⟨U7, hU7⟩ : ∃ u, u = uu U6 1 (beN (seg sg 0 32) % nP) := ⟨_, rfl⟩
          have O7 : OC S7 U7 qq := by rw [hU7]; exact O7
          have u7_0 : U7 0 = niv (beN (seg sg 32 32) % nP) * 4294967296 ^ 8 % nP := by rw [hU7, uu_ne (by decide), u6_0]
          have u7_1 : U7 1 = beN (seg sg 0 32) % nP := by rw [hU7, uu_eq]
          rw [h.gn, bO_s, rcv_m h.mn.1, bO_s, g7', bO_s]
          have bg_7 := Byt.lfr f7 bg_6
          have bu_7 := Byt.lfr f7 bu_6
          have by_7 := Byt.lfr f7 by_6
          have bw_7 := Byt.lfr f7 bw_6
          obtain ⟨S8, g8, f8, O8⟩ := ou_times (G := G) (F := F) (i := 1) (j := 0) (k := 1) X h O7 (by decide) (by decide) (by decide) (by rw [u7_0]; exact Nat.mod_lt _ n_pos)
          have g8' : P_X6_times G F (W.ad (.o 6 2)) (W.ad (.b 3 0 11 1)) (W.ad (.b 3 0 11 0)) (W.ad (.b 3 0 11 1)) (mem W S7) = some (mem W S8) := g8
          obtain ⟨U8, hU8⟩ : ∃ u, u = uu U7 1 (shF (beN (seg sg 0 32) % nP) (beN (seg sg 32 32) % nP)) := ⟨_, rfl⟩
          have O8 : OC S8 U8 qq := by rw [hU8]; unfold shF; rw [← T_lead (n := 8) nP_1 nP_2 (beN (seg sg 0 32) % nP), ← u7_0, ← u7_1]; exact O8
          have u8_0 : U8 0 = niv (beN (seg sg 32 32) % nP) * 4294967296 ^ 8 % nP := by rw [hU8, uu_ne (by decide), u7_0]
          have u8_1 : U8 1 = shF (beN (seg sg 0 32) % nP) (beN (seg sg 32 32) % nP) := by rw [hU8, uu_eq]
          rw [h.gn, bO_s, rcv_m h.mn.1, bO_s, g8', bO_s]
          have bg_8 := Byt.lfr f8 bg_7
          have bu_8 := Byt.lfr f8 bu_7
          have by_8 := Byt.lfr f8 by_7
          have bw_8 := Byt.lfr f8 bw_7
          obtain ⟨oa9, ob9, pa9, pb9, f9, O9, bb9⟩ := ou_fill (G := G) (F := F) (k := 1) X h O8 (by decide) h.b14 bw_8 (by decide)
          have pb9' : P_X6_give G F (W.ad (.o 6 2)) (W.ad (.b 3 0 11 1)) 32 (W.ad (.o 0 78)) (mem W (S8.so 0 78 oa9)) = some (mem W (S8.so 0 78 ob9)) := pb9
          rw [h.g14, bO_s, rcv_m h.b14.1, bO_s, pa9, bO_s, h.gn, bO_s, h.g14, bO_s, rcv_m h.mn.1, bO_s, pb9', bO_s]
          obtain ⟨S9, hS9⟩ : ∃ x, x = S8.so 0 78 ob9 := ⟨_, rfl⟩
          rw [← hS9] at f9 O9 bb9
          rw [← hS9]
          rw [u8_1] at bb9
          obtain ⟨U9, hU9⟩ : ∃ u, u = U8 := ⟨_, rfl⟩
          rw [← hU9] at O9
          have u9_0 : U9 0 = niv (beN (seg sg 32 32) % nP) * 4294967296 ^ 8 % nP := by rw [hU9, u8_0]
          have u9_1 : U9 1 = shF (beN (seg sg 0 32) % nP) (beN (seg sg 32 32) % nP) := by rw [hU9, u8_1]
          have bg_9 := bg_8
          rw [← f9 0 is_ (by simp; try omega)] at bg_9
          have bu_9 := bu_8
          rw [← f9 0 76 (by simp; try omega)] at bu_9
          have by_9 := by_8
          rw [← f9 0 77 (by simp; try omega)] at by_9
          have bw_9 := bb9
          have ft : fr [(3, 0), (6, 1), (6, 2), (0, 76), (0, 77), (0, 78)] S S9 := ((((((((fr0.trans (f1.fr (by simp [ow, wc]))).trans (f2.fr (by simp [ow, wc]))).trans (f3.fr (by simp [ow, wc]))).trans (f4.fr (by simp [ow, wc]))).trans (f5.fr (by simp [ow, wc]))).trans (f6.mono (by simp))).trans (f7.fr (by simp [ow, wc]))).trans (f8.fr (by simp [ow, wc]))).trans (f9.mono (by simp))
          obtain ⟨V9, K9, w11, w12, _⟩ := id O9
          obtain ⟨Sa, Va, ga, fa, Ca, ka, Ja⟩ := Q3_sumUp (G := G) (F := F) (pk := 0) (qk := 1) pr X h h.b13 h.b14 (Or.inl rfl) (Or.inr rfl) K9.c K9.2.2.2.2.1 by_9 bw_9
          have e9 : (V9 (9 + 2 * 0), V9 (10 + 2 * 0)) = bpt := by
            show (V9 9, V9 10) = bpt
            rw [K9.2.1, K9.2.2.1]
            rfl
          have e11 : (V9 (9 + 2 * 1), V9 (10 + 2 * 1)) = ptOf xy := by
            show (V9 11, V9 12) = ptOf xy
            rw [w11, w12, hqq]
          rw [e9, e11] at Ja
          have Ka : CK Sa Va := K9.keep fa (by simp [wc]) Ca (fun k hk _ _ => ka k hk)
          obtain ⟨Sb, Vb, gb, fb, Kb, kb, rb⟩ := Q3_putSum (G := G) (F := F) (it := 76) X h Ka Ja h.b12 (by decide) (by decide) (Byt.lfr fa bu_9)
          have fab : fr [(3, 0), (6, 1), (0, 76)] S9 Sb := (fa.fr (L' := [(3, 0), (6, 1), (0, 76)]) (by simp [ow, wc])).trans fb
          have ftb : fr [(3, 0), (6, 1), (6, 2), (0, 76), (0, 77), (0, 78)] S Sb := ft.trans (fab.mono (by simp))
          have byb := by_9
          rw [← fab 0 77 (by simp)] at byb
          have bwb := bw_9
          rw [← fab 0 78 (by simp)] at bwb
          have bgb : Byt rs_ (Sb 0 is_) sg ls := by rw [fab 0 is_ (by simp; exact ng.1)]; exact bg_9
          rw [h.g13, bO_s, h.gA 0 (by decide) rfl, bO_s, h.g14, bO_s, h.gA 1 (by decide) rfl, bO_s, rcv_m h.1, bO_s, ga, bO_s, h.g12, bO_s, rcv_m h.1, bO_s, gb, bP_s]
          have hq : ∀ q, affS (sumS (beV 32 (shF (beN (seg z 0 32) % nP) (beN (seg sg 32 32) % nP))) (beV 32 (shF (beN (seg sg 0 32) % nP) (beN (seg sg 32 32) % nP))) bpt (ptOf xy) 256) = some q → q.1 < pP := fun q e => (affS_lt e).1
          generalize affS (sumS (beV 32 (shF (beN (seg z 0 32) % nP) (beN (seg sg 32 32) % nP))) (beV 32 (shF (beN (seg sg 0 32) % nP) (beN (seg sg 32 32) % nP))) bpt (ptOf xy) 256) = af at *
          match af, rb, hq with
          | none, rb, _ =>
            have rb : Sb = Sa := rb
            rw [if_pos (by rfl), retZ0]
            exact ⟨Sb, Vb, rfl, ftb, Kb, ⟨_, _, by rw [rb]; exact Byt.lfr fa bu_9⟩, ⟨_, _, byb⟩, ⟨_, _, bwb⟩⟩
          | some q, rb, hq =>
            have bpb : Byt 64 (Sb 0 76) (ptB q) false := rb
            rw [if_neg (by simp)]
            obtain ⟨Ub, Ob⟩ := OC.of Kb
            obtain ⟨Sc, gc, fc, Oc⟩ := ou_take (G := G) (F := F) (p := 0) (k := 0) X h Ob (by decide) h.b12 bpb (by rw [ptB_len]; decide)
            have gc' : P_X6_take G F (W.ad (.o 6 2)) (W.ad (.o 0 76)) 0 32 (W.ad (.b 3 0 11 0)) (mem W Sb) = some (mem W Sc) := gc
            obtain ⟨Sd, gd, fd, Od⟩ := ou_take (G := G) (F := F) (p := 0) (k := 1) X h Oc (by decide) hG (Byt.lfr fc bgb) (by omega)
            have gd' : P_X6_take G F (W.ad (.o 6 2)) (W.ad (.o 0 is_)) 0 32 (W.ad (.b 3 0 11 1)) (mem W Sc) = some (mem W Sd) := gd
            have sm := ou_same (G := G) (F := F) (i := 0) (j := 1) X h Od (by decide) (by decide)
            have sm' : P_X6_areSame G F (W.ad (.o 6 2)) (W.ad (.b 3 0 11 0)) (W.ad (.b 3 0 11 1)) (mem W Sd) = _ := sm
            rw [uu_ne (by decide), uu_eq, uu_eq, ptB_x (hq q rfl)] at sm'
            obtain ⟨Vd, Kd, _⟩ := id Od
            rw [h.gn, bO_s, h.g12, bO_s, h.gA 11 (by decide) rfl, bO_s, h.gl 11 0 (by decide), bO_s, rcv_m h.mn.1, bO_s, gc', bO_s, h.gn, bO_s, h.gA 11 (by decide) rfl, bO_s, h.gl 11 1 (by decide), bO_s, rcv_m h.mn.1, bO_s, gd', bO_s, h.gn, bO_s, h.gA 11 (by decide) rfl, bO_s, h.gl 11 0 (by decide), bO_s, bO_s, h.gl 11 1 (by decide), bO_s, rcv_m h.mn.1, bO_s, sm', bP_s]
            refine ⟨Sd, Vd, ?_, (ftb.trans (fc.fr (by simp [ow, wc]))).trans (fd.fr (by simp [ow, wc])), Kd, ⟨_, _, Byt.lfr fd (Byt.lfr fc bpb)⟩, ⟨_, _, Byt.lfr fd (Byt.lfr fc byb)⟩, ⟨_, _, Byt.lfr fd (Byt.lfr fc bwb)⟩⟩
            by_cases e : q.1 % nP = beN (seg sg 0 32) % nP
            · rw [if_pos e, retZ1, if_pos (decide_eq_true e)]
            · rw [if_neg e, retZ0, if_neg (fun q => e (of_decide_eq_true q))]
  · rw [if_neg (show ¬ (Int32.ofNat sg.length) = 64 by rw [lit 64]; exact fun q => c64 ((n_eq (by omega) (by omega)).mp q)), decide_eq_false c64, retZ0]
    exact ⟨S, V, rfl, fr.refl _ _, K, ⟨u, lu, b76⟩, ⟨y, ly, b77⟩, ⟨w, lw, b78⟩⟩
end VERC
