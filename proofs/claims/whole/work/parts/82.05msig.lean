/-! THE MODEL'S signPoint -/
theorem MA_mul {n m : Nat} (a b : Nat) : (a * 4294967296 ^ n % m + b * 4294967296 ^ n % m) % m = (a + b) * 4294967296 ^ n % m := by rw [← Nat.add_mod, ← Nat.add_mul]
theorem sgS_eq {r d z k : Nat} : (r * d + z) * niv k % nP = sgS r (d % nP) (z % nP) k := by
  unfold sgS
  refine mc ?_ rfl
  rw [Nat.mod_mod, ← Nat.add_mod]
  exact ac (mc rfl (Nat.mod_mod d nP).symm) rfl
theorem rd_two (β : Nat → UInt8) (a b : List UInt8) (ha : a.length = 32) (hb : b.length = 32) : rdB (wrB (wrB β 0 a) 32 b) 0 64 = a ++ b := by
  have h1 := rdB_wrB (wrB β 0 a) 32 b
  rw [hb] at h1
  have h2 := rdB_wrB β 0 a
  rw [ha] at h2
  have h3 : rdB (wrB (wrB β 0 a) 32 b) 0 32 = rdB (wrB β 0 a) 0 32 := by
    unfold rdB
    refine List.map_congr_left fun j hj => ?_
    rw [List.mem_range] at hj
    show wrB (wrB β 0 a) 32 b (0 + j) = wrB β 0 a (0 + j)
    conv => lhs; unfold wrB
    rw [if_neg (by omega)]
    rfl
  have h4 := List.take_append_drop 32 (rdB (wrB (wrB β 0 a) 32 b) 0 64)
  rw [← rdB_take _ 0 64 32 (by decide), rdB_drop (by decide), h3, h2, show 0 + 32 = 32 from rfl, h1] at h4
  exact h4.symm
section MSIG
variable {W : WR} {G : mG} {F : Nat} {S : ST} {U : Nat → Nat}
theorem no_less2 {β64 : Nat → UInt8} (X : Cx G F W) (h : isM W) (N : NS S U) (h64 : mB (S 13 0) 64 β64) (e64 : rdB β64 0 32 = beV 32 nP) (h67 : ∃ β, mB (S 13 0) 67 β) : ∃ S', P_X13_setLessTwo G F (W.ad (.o 13 0)) (W.ad (.a 13 0 64)) (mem W S) = some (mem W S') ∧ fr [(12, 2), (13, 0)] S S' ∧ agr [] [] [67] [] (S 13 0) (S' 13 0) ∧ NS S' U ∧ ∃ γ, mB (S' 13 0) 67 γ ∧ rdB γ 0 32 = beV 32 (nP - 2) := by
  obtain ⟨β67, h67⟩ := h67
  obtain ⟨γ, u1, r1⟩ := QM_lessTwo (G := G) (F := F) (S := S) X h (k := 64) rfl (by decide) (by decide) (by decide) h64 h67
  have e31 : β64 31 = 81 := by
    have h1 := rdB_at (β := β64) (p := 0) (n := 32) (j := 31) (by decide)
    rw [e64] at h1
    have h2 : (beV 32 nP)[31]? = some 81 := by decide +kernel
    rw [h2] at h1
    exact (Option.some.inj h1).symm
  rw [e64, e31] at r1
  have r1' : rdB γ 0 32 = beV 32 (nP - 2) := r1.trans lt_n
  have f : ifr [.a 13 0 67] S (ist S (.a 13 0 67) (fun j => sb (γ j))) := ifr_ist (by simp)
  refine ⟨ist S (.a 13 0 67) (fun j => sb (γ j)), u1, f.fr (by simp [ow]), f.agr (by simp), ⟨N.1.ifr f (by simp) (by simp) (by simp), fun j hj => ?_⟩, γ, mB_ist _ _ _, r1'⟩
  rw [f.2 _ (by simp; exact fun e => (kb_ne (kb := 67) rfl hj) (by rw [← e]))]
  exact N.2 j hj
theorem QM_digestNumber {msg : List UInt8} (X : Cx G F W) (h : isM W) (hn : isMn W) (N : NS S U) (hd : mDig (S 13 0)) (hm : mMsg (S 13 0) msg) : ∃ S' U', P_X13_digestNumber G F (W.ad (.o 13 0)) (mem W S) = some (mem W S') ∧ fr [(12, 2), (13, 0)] S S' ∧ agr [37] [] [36, 31, 32, 35, 116, 117, 118, 60, 61] [33, 34] (S 13 0) (S' 13 0) ∧ mDig (S' 13 0) ∧ NS S' U' ∧ U' 0 = beN (sha false msg) % nP * 4294967296 ^ 8 % nP := by
  obtain ⟨o, γ, g0, b0, d0, a0⟩ := QM_digestMessage (G := G) (F := F) X h hd hm
  have f0 : fr [(12, 2), (13, 0)] S (S.so 13 0 o) := fr_so (by simp)
  obtain ⟨U0, N0⟩ := NS.of (S := S.so 13 0 o) (N.1.fr (L := [(13, 0)]) (fr_so (by simp)) (by simp))
  obtain ⟨S0, hS0⟩ : ∃ x, x = S.so 13 0 o := ⟨_, rfl⟩
  have b35_0 : mB (S0 13 0) 35 (wrB γ 0 (sha false msg)) := by rw [hS0, so_eq]; exact b0
  have a0' : agr [37] [] [36, 31, 32, 35] [33, 34] (S 13 0) (S0 13 0) := by rw [hS0, so_eq]; exact a0
  have d0' : mDig (S0 13 0) := by rw [hS0, so_eq]; exact d0
  rw [← hS0] at g0 N0 f0
  have e0 : rdB (wrB γ 0 (sha false msg)) 0 32 = sha false msg := by
    have := rdB_wrB γ 0 (sha false msg)
    rw [sha_len] at this
    exact this
  unfold P_X13_digestNumber
  rw [rcv_m h.lo, bO_s, g0, bO_s]
  obtain ⟨S1, g1, f1, N1⟩ := no_reduce (G := G) (F := F) (kb := 35) (p := 0) (k := 0) X h hn N0 (by decide) rfl (by decide) (by decide) b35_0
  have g1' : P_X12_reduce G F (W.ad (.o 12 2)) (W.ad (.a 13 0 35)) 0 32 (W.ad (.a 13 0 116)) (mem W S0) = some (mem W S1) := g1
  obtain ⟨U1, hU1⟩ : ∃ u, u = uu U0 0 (beN (sha false msg) % nP) := ⟨_, rfl⟩
  have N1 : NS S1 U1 := by rw [hU1]; rw [e0] at N1; exact N1
  have u1_0 : U1 0 = beN (sha false msg) % nP := by rw [hU1, uu_eq]
  rw [h.g59 hn, bO_s, h.gR 35 rfl (by decide), bO_s, h.gR 116 rfl (by decide), bO_s, rcv_m hn.2.1, bO_s, g1', bO_s]
  have b35_1 := f1.2.mB b35_0 (by decide)
  obtain ⟨S2, g2, f2, N2⟩ := no_into (G := G) (F := F) (k := 0) X h hn N1 (by decide)
  have g2' : P_X12_into G F (W.ad (.o 12 2)) (W.ad (.a 13 0 116)) (W.ad (.a 13 0 116)) (mem W S1) = some (mem W S2) := g2
  obtain ⟨U2, hU2⟩ : ∃ u, u = uu U1 0 (beN (sha false msg) % nP * 4294967296 ^ 8 % nP) := ⟨_, rfl⟩
  have N2 : NS S2 U2 := by rw [hU2]; rw [← u1_0]; exact N2
  have u2_0 : U2 0 = beN (sha false msg) % nP * 4294967296 ^ 8 % nP := by rw [hU2, uu_eq]
  rw [h.g59 hn, bO_s, h.gR 116 rfl (by decide), bO_s, bO_s, rcv_m hn.2.1, bO_s, g2', bO_s]
  have b35_2 := f2.2.mB b35_1 (by decide)
  have ff := f1.trans f2
  refine ⟨S2, U2, rfl, f0.trans ff.1, (a0'.mono (by simp) (by simp) (by simp) (by simp)).trans (ff.2.mono (by simp) (by simp) (by simp) (by simp)), ff.2.mDig d0' (by decide), N2, u2_0⟩
theorem QM_sign78 {k rr xq zz : Nat} {sk : Int32} {d kk : List UInt8} {β2 β64 β67 β79 β89 β112 : Nat → UInt8} (X : Cx G F W) (h : isM W) (hn : isMn W) {S0 : ST} {U0 : Nat → Nat} (N0 : NS S0 U0) (u0_0 : U0 0 = zz * 4294967296 ^ 8 % nP) (hk : k < 16) (hr : rr < 8) (b2_0 : mB (S0 13 0) 2 β2) (b64_0 : mB (S0 13 0) 64 β64) (b67_0 : mB (S0 13 0) 67 β67) (b79_0 : mB (S0 13 0) 79 β79) (b89_0 : mB (S0 13 0) 89 β89) (b112_0 : mB (S0 13 0) 112 β112) (e64 : rdB β64 0 32 = beV 32 nP) (e79 : beN (rdB β79 0 32) = xq) (e89 : rdB β89 (128 * k) 32 = d) (e2 : rdB β2 (8192 * rr) 32 = kk) : ∃ S' β', B_X13_signPoint_78 G F (W.ad (.o 13 0)) (Int32.ofNat k) (Int32.ofNat (8192 * rr)) sk (mem W S0) = some (if xq % nP = 0 ∨ (xq % nP * beN d + zz) * niv (beN kk) % nP = 0 ∨ sk = 0 then -4 else 0, mem W S') ∧ fr [(12, 2), (13, 0)] S0 S' ∧ agr [113] [] [116, 117, 118, 60, 61, 67, 112] [] (S0 13 0) (S' 13 0) ∧ MdS S' 2 8 nP ∧ (∃ β, mB (S' 13 0) 67 β) ∧ mB (S' 13 0) 112 β' ∧ rdB β' 0 64 = beV 32 (xq % nP) ++ beV 32 ((xq % nP * beN d + zz) * niv (beN kk) % nP) ∧ (S' 13 0).f 113 = 64 := by
  unfold B_X13_signPoint_78
  obtain ⟨S1, g1, f1, N1⟩ := no_reduce (G := G) (F := F) (kb := 79) (p := 0) (k := 1) X h hn N0 (by decide) rfl (by decide) (by decide) b79_0
  have g1' : P_X12_reduce G F (W.ad (.o 12 2)) (W.ad (.a 13 0 79)) 0 32 (W.ad (.a 13 0 117)) (mem W S0) = some (mem W S1) := g1
  obtain ⟨U1, hU1⟩ : ∃ u, u = uu U0 1 (xq % nP) := ⟨_, rfl⟩
  have N1 : NS S1 U1 := by rw [hU1]; rw [e79] at N1; exact N1
  have u1_0 : U1 0 = zz * 4294967296 ^ 8 % nP := by rw [hU1, uu_ne (by decide), u0_0]
  have u1_1 : U1 1 = xq % nP := by rw [hU1, uu_eq]
  rw [h.g59 hn, bO_s, h.gR 79 rfl (by decide), bO_s, h.gR 117 rfl (by decide), bO_s, rcv_m hn.2.1, bO_s, g1', bO_s]
  have b2_1 := f1.2.mB b2_0 (by decide)
  have b64_1 := f1.2.mB b64_0 (by decide)
  have b67_1 := f1.2.mB b67_0 (by decide)
  have b79_1 := f1.2.mB b79_0 (by decide)
  have b89_1 := f1.2.mB b89_0 (by decide)
  have b112_1 := f1.2.mB b112_0 (by decide)
  obtain ⟨S2, g2, f2, a2, N2, bb2⟩ := no_store (G := G) (F := F) (kb := 112) (p := 0) (k := 1) X h hn N1 (by decide) rfl (by decide) (by decide) b112_1
  have g2' : P_X12_store G F (W.ad (.o 12 2)) (W.ad (.a 13 0 117)) (W.ad (.a 13 0 112)) 0 32 (mem W S1) = some (mem W S2) := g2
  rw [u1_1] at bb2
  rw [h.g59 hn, bO_s, h.gR 117 rfl (by decide), bO_s, h.gR 112 rfl (by decide), bO_s, rcv_m hn.2.1, bO_s, g2', bO_s]
  obtain ⟨U2, hU2⟩ : ∃ u, u = U1 := ⟨_, rfl⟩
  rw [← hU2] at N2
  have u2_0 : U2 0 = zz * 4294967296 ^ 8 % nP := by rw [hU2, u1_0]
  have u2_1 : U2 1 = xq % nP := by rw [hU2, u1_1]
  have b112_2 := bb2
  have b2_2 := a2.mB b2_1 (by decide)
  have b64_2 := a2.mB b64_1 (by decide)
  have b67_2 := a2.mB b67_1 (by decide)
  have b79_2 := a2.mB b79_1 (by decide)
  have b89_2 := a2.mB b89_1 (by decide)
  have z1 := no_zero (G := G) (F := F) (k := 1) X h hn N2 (by decide)
  have z1' : P_X12_isZero G F (W.ad (.o 12 2)) (W.ad (.a 13 0 117)) (mem W S2) = _ := z1
  rw [u2_1] at z1'
  rw [h.g59 hn, bO_s, h.gR 117 rfl (by decide), bO_s, rcv_m hn.2.1, bO_s, z1', bP_s]
  obtain ⟨S3, g3, f3, N3⟩ := no_into (G := G) (F := F) (k := 1) X h hn N2 (by decide)
  have g3' : P_X12_into G F (W.ad (.o 12 2)) (W.ad (.a 13 0 117)) (W.ad (.a 13 0 117)) (mem W S2) = some (mem W S3) := g3
  obtain ⟨U3, hU3⟩ : ∃ u, u = uu U2 1 (xq % nP * 4294967296 ^ 8 % nP) := ⟨_, rfl⟩
  have N3 : NS S3 U3 := by rw [hU3]; rw [← u2_1]; exact N3
  have u3_0 : U3 0 = zz * 4294967296 ^ 8 % nP := by rw [hU3, uu_ne (by decide), u2_0]
  have u3_1 : U3 1 = xq % nP * 4294967296 ^ 8 % nP := by rw [hU3, uu_eq]
  rw [h.g59 hn, bO_s, h.gR 117 rfl (by decide), bO_s, bO_s, rcv_m hn.2.1, bO_s, g3', bO_s]
  have b2_3 := f3.2.mB b2_2 (by decide)
  have b64_3 := f3.2.mB b64_2 (by decide)
  have b67_3 := f3.2.mB b67_2 (by decide)
  have b79_3 := f3.2.mB b79_2 (by decide)
  have b89_3 := f3.2.mB b89_2 (by decide)
  have b112_3 := f3.2.mB b112_2 (by decide)
  rw [show (128 : Int32) * (Int32.ofNat k) = (Int32.ofNat (128 * k)) from n_mul 128 k]
  obtain ⟨S4, g4, f4, N4⟩ := no_load (G := G) (F := F) (kb := 89) (p := 128 * k) (k := 2) X h hn N3 (by decide) rfl (by decide) (by show _ ≤ 2048; omega) b89_3
  have g4' : P_X12_load G F (W.ad (.o 12 2)) (W.ad (.a 13 0 89)) (Int32.ofNat (128 * k)) 32 (W.ad (.a 13 0 118)) (mem W S3) = some (mem W S4) := g4
  obtain ⟨U4, hU4⟩ : ∃ u, u = uu U3 2 (beN d) := ⟨_, rfl⟩
  have N4 : NS S4 U4 := by rw [hU4]; rw [e89] at N4; exact N4
  have u4_0 : U4 0 = zz * 4294967296 ^ 8 % nP := by rw [hU4, uu_ne (by decide), u3_0]
  have u4_1 : U4 1 = xq % nP * 4294967296 ^ 8 % nP := by rw [hU4, uu_ne (by decide), u3_1]
  have u4_2 : U4 2 = beN d := by rw [hU4, uu_eq]
  rw [h.g59 hn, bO_s, h.gR 89 rfl (by decide), bO_s, h.gR 118 rfl (by decide), bO_s, rcv_m hn.2.1, bO_s, g4', bO_s]
  have b2_4 := f4.2.mB b2_3 (by decide)
  have b64_4 := f4.2.mB b64_3 (by decide)
  have b67_4 := f4.2.mB b67_3 (by decide)
  have b79_4 := f4.2.mB b79_3 (by decide)
  have b89_4 := f4.2.mB b89_3 (by decide)
  have b112_4 := f4.2.mB b112_3 (by decide)
  obtain ⟨S5, g5, f5, N5⟩ := no_into (G := G) (F := F) (k := 2) X h hn N4 (by decide)
  have g5' : P_X12_into G F (W.ad (.o 12 2)) (W.ad (.a 13 0 118)) (W.ad (.a 13 0 118)) (mem W S4) = some (mem W S5) := g5
  obtain ⟨U5, hU5⟩ : ∃ u, u = uu U4 2 (beN d * 4294967296 ^ 8 % nP) := ⟨_, rfl⟩
  have N5 : NS S5 U5 := by rw [hU5]; rw [← u4_2]; exact N5
  have u5_0 : U5 0 = zz * 4294967296 ^ 8 % nP := by rw [hU5, uu_ne (by decide), u4_0]
  have u5_1 : U5 1 = xq % nP * 4294967296 ^ 8 % nP := by rw [hU5, uu_ne (by decide), u4_1]
  have u5_2 : U5 2 = beN d * 4294967296 ^ 8 % nP := by rw [hU5, uu_eq]
  rw [h.g59 hn, bO_s, h.gR 118 rfl (by decide), bO_s, bO_s, rcv_m hn.2.1, bO_s, g5', bO_s]
  have b2_5 := f5.2.mB b2_4 (by decide)
  have b64_5 := f5.2.mB b64_4 (by decide)
  have b67_5 := f5.2.mB b67_4 (by decide)
  have b79_5 := f5.2.mB b79_4 (by decide)
  have b89_5 := f5.2.mB b89_4 (by decide)
  have b112_5 := f5.2.mB b112_4 (by decide)
  obtain ⟨S6, g6, f6, N6⟩ := no_product (G := G) (F := F) (i := 1) (j := 2) (k := 2) X h hn N5 (by decide) (by decide) (by decide) (by rw [u5_2]; exact Nat.mod_lt _ n_pos)
  have g6' : P_X12_product G F (W.ad (.o 12 2)) (W.ad (.a 13 0 117)) (W.ad (.a 13 0 118)) (W.ad (.a 13 0 118)) (mem W S5) = some (mem W S6) := g6
  obtain ⟨U6, hU6⟩ : ∃ u, u = uu U5 2 (xq % nP * beN d * 4294967296 ^ 8 % nP) := ⟨_, rfl⟩
  have N6 : NS S6 U6 := by rw [hU6]; rw [← M_mul (n := 8) nP_1 nP_2, ← u5_1, ← u5_2]; exact N6
  have u6_0 : U6 0 = zz * 4294967296 ^ 8 % nP := by rw [hU6, uu_ne (by decide), u5_0]
  have u6_1 : U6 1 = xq % nP * 4294967296 ^ 8 % nP := by rw [hU6, uu_ne (by decide), u5_1]
  have u6_2 : U6 2 = xq % nP * beN d * 4294967296 ^ 8 % nP := by rw [hU6, uu_eq]
  rw [h.g59 hn, bO_s, h.gR 117 rfl (by decide), bO_s, h.gR 118 rfl (by decide), bO_s, bO_s, rcv_m hn.2.1, bO_s, g6', bO_s]
  have b2_6 := f6.2.mB b2_5 (by decide)
  have b64_6 := f6.2.mB b64_5 (by decide)
  have b67_6 := f6.2.mB b67_5 (by decide)
  have b79_6 := f6.2.mB b79_5 (by decide)
  have b89_6 := f6.2.mB b89_5 (by decide)
  have b112_6 := f6.2.mB b112_5 (by decide)
  obtain ⟨S7, g7, f7, N7⟩ := no_add (G := G) (F := F) (i := 2) (j := 0) (k := 2) X h hn N6 (by decide) (by decide) (by decide) (by rw [u6_2, u6_0]; have a1 := Nat.mod_lt (xq % nP * beN d * 4294967296 ^ 8) n_pos; have a2 := Nat.mod_lt (zz * 4294967296 ^ 8) n_pos; omega)
  have g7' : P_X12_add G F (W.ad (.o 12 2)) (W.ad (.a 13 0 118)) (W.ad (.a 13 0 116)) (W.ad (.a 13 0 118)) (mem W S6) = some (mem W S7) := g7
  obtain ⟨U7, hU7⟩ : ∃ u, u = uu U6 2 ((xq % nP * beN d + zz) * 4294967296 ^ 8 % nP) := ⟨_, rfl⟩
  have N7 : NS S7 U7 := by rw [hU7]; rw [← MA_mul, ← u6_2, ← u6_0]; exact N7
  have u7_0 : U7 0 = zz * 4294967296 ^ 8 % nP := by rw [hU7, uu_ne (by decide), u6_0]
  have u7_1 : U7 1 = xq % nP * 4294967296 ^ 8 % nP := by rw [hU7, uu_ne (by decide), u6_1]
  have u7_2 : U7 2 = (xq % nP * beN d + zz) * 4294967296 ^ 8 % nP := by rw [hU7, uu_eq]
  rw [h.g59 hn, bO_s, h.gR 118 rfl (by decide), bO_s, h.gR 116 rfl (by decide), bO_s, bO_s, rcv_m hn.2.1, bO_s, g7', bO_s]
  have b2_7 := f7.2.mB b2_6 (by decide)
  have b64_7 := f7.2.mB b64_6 (by decide)
  have b67_7 := f7.2.mB b67_6 (by decide)
  have b79_7 := f7.2.mB b79_6 (by decide)
  have b89_7 := f7.2.mB b89_6 (by decide)
  have b112_7 := f7.2.mB b112_6 (by decide)
  obtain ⟨S8, g8, f8, N8⟩ := no_load (G := G) (F := F) (kb := 2) (p := 8192 * rr) (k := 3) X h hn N7 (by decide) rfl (by decide) (by show _ ≤ 65536; omega) b2_7
  have g8' : P_X12_load G F (W.ad (.o 12 2)) (W.ad (.a 13 0 2)) (Int32.ofNat (8192 * rr)) 32 (W.ad (.a 13 0 60)) (mem W S7) = some (mem W S8) := g8
  obtain ⟨U8, hU8⟩ : ∃ u, u = uu U7 3 (beN kk) := ⟨_, rfl⟩
  have N8 : NS S8 U8 := by rw [hU8]; rw [e2] at N8; exact N8
  have u8_0 : U8 0 = zz * 4294967296 ^ 8 % nP := by rw [hU8, uu_ne (by decide), u7_0]
  have u8_1 : U8 1 = xq % nP * 4294967296 ^ 8 % nP := by rw [hU8, uu_ne (by decide), u7_1]
  have u8_2 : U8 2 = (xq % nP * beN d + zz) * 4294967296 ^ 8 % nP := by rw [hU8, uu_ne (by decide), u7_2]
  have u8_3 : U8 3 = beN kk := by rw [hU8, uu_eq]
  rw [h.g59 hn, bO_s, h.gR 2 rfl (by decide), bO_s, h.gR 60 rfl (by decide), bO_s, rcv_m hn.2.1, bO_s, g8', bO_s]
  have b2_8 := f8.2.mB b2_7 (by decide)
  have b64_8 := f8.2.mB b64_7 (by decide)
  have b67_8 := f8.2.mB b67_7 (by decide)
  have b79_8 := f8.2.mB b79_7 (by decide)
  have b89_8 := f8.2.mB b89_7 (by decide)
  have b112_8 := f8.2.mB b112_7 (by decide)
  obtain ⟨S9, g9, f9, N9⟩ := no_into (G := G) (F := F) (k := 3) X h hn N8 (by decide)
  have g9' : P_X12_into G F (W.ad (.o 12 2)) (W.ad (.a 13 0 60)) (W.ad (.a 13 0 60)) (mem W S8) = some (mem W S9) := g9
  obtain ⟨U9, hU9⟩ : ∃ u, u = uu U8 3 (beN kk * 4294967296 ^ 8 % nP) := ⟨_, rfl⟩
  have N9 : NS S9 U9 := by rw [hU9]; rw [← u8_3]; exact N9
  have u9_0 : U9 0 = zz * 4294967296 ^ 8 % nP := by rw [hU9, uu_ne (by decide), u8_0]
  have u9_1 : U9 1 = xq % nP * 4294967296 ^ 8 % nP := by rw [hU9, uu_ne (by decide), u8_1]
  have u9_2 : U9 2 = (xq % nP * beN d + zz) * 4294967296 ^ 8 % nP := by rw [hU9, uu_ne (by decide), u8_2]
  have u9_3 : U9 3 = beN kk * 4294967296 ^ 8 % nP := by rw [hU9, uu_eq]
  rw [h.g59 hn, bO_s, h.gR 60 rfl (by decide), bO_s, bO_s, rcv_m hn.2.1, bO_s, g9', bO_s]
  have b2_9 := f9.2.mB b2_8 (by decide)
  have b64_9 := f9.2.mB b64_8 (by decide)
  have b67_9 := f9.2.mB b67_8 (by decide)
  have b79_9 := f9.2.mB b79_8 (by decide)
  have b89_9 := f9.2.mB b89_8 (by decide)
  have b112_9 := f9.2.mB b112_8 (by decide)
  obtain ⟨S10, g10, f10, a10, N10, γ67, bb10, e67⟩ := no_less2 (G := G) (F := F) X h N9 b64_9 e64 ⟨_, b67_9⟩
  rw [h.gR 64 rfl (by decide), bO_s, rcv_m h.lo, bO_s, g10, bO_s]
  obtain ⟨U10, hU10⟩ : ∃ u, u = U9 := ⟨_, rfl⟩
  rw [← hU10] at N10
  have u10_0 : U10 0 = zz * 4294967296 ^ 8 % nP := by rw [hU10, u9_0]
  have u10_1 : U10 1 = xq % nP * 4294967296 ^ 8 % nP := by rw [hU10, u9_1]
  have u10_2 : U10 2 = (xq % nP * beN d + zz) * 4294967296 ^ 8 % nP := by rw [hU10, u9_2]
  have u10_3 : U10 3 = beN kk * 4294967296 ^ 8 % nP := by rw [hU10, u9_3]
  have b67_10 := bb10
  have b2_10 := a10.mB b2_9 (by decide)
  have b64_10 := a10.mB b64_9 (by decide)
  have b79_10 := a10.mB b79_9 (by decide)
  have b89_10 := a10.mB b89_9 (by decide)
  have b112_10 := a10.mB b112_9 (by decide)
  obtain ⟨S11, g11, f11, N11⟩ := no_power (G := G) (F := F) (k := 3) (x := beN kk) X h hn N10 (by decide) b67_10 u10_3
  have g11' : P_X12_power G F (W.ad (.o 12 2)) (W.ad (.a 13 0 60)) (W.ad (.a 13 0 67)) 0 32 (W.ad (.a 13 0 60)) (mem W S10) = some (mem W S11) := g11
  obtain ⟨U11, hU11⟩ : ∃ u, u = uu U10 3 (niv (beN kk) * 4294967296 ^ 8 % nP) := ⟨_, rfl⟩
  have N11 : NS S11 U11 := by rw [hU11]; rw [e67] at N11; exact N11
  have u11_0 : U11 0 = zz * 4294967296 ^ 8 % nP := by rw [hU11, uu_ne (by decide), u10_0]
  have u11_1 : U11 1 = xq % nP * 4294967296 ^ 8 % nP := by rw [hU11, uu_ne (by decide), u10_1]
  have u11_2 : U11 2 = (xq % nP * beN d + zz) * 4294967296 ^ 8 % nP := by rw [hU11, uu_ne (by decide), u10_2]
  have u11_3 : U11 3 = niv (beN kk) * 4294967296 ^ 8 % nP := by rw [hU11, uu_eq]
  rw [h.g59 hn, bO_s, h.gR 60 rfl (by decide), bO_s, h.gR 67 rfl (by decide), bO_s, bO_s, rcv_m hn.2.1, bO_s, g11', bO_s]
  have b2_11 := f11.2.mB b2_10 (by decide)
  have b64_11 := f11.2.mB b64_10 (by decide)
  have b67_11 := f11.2.mB b67_10 (by decide)
  have b79_11 := f11.2.mB b79_10 (by decide)
  have b89_11 := f11.2.mB b89_10 (by decide)
  have b112_11 := f11.2.mB b112_10 (by decide)
  obtain ⟨S12, g12, f12, N12⟩ := no_product (G := G) (F := F) (i := 2) (j := 3) (k := 2) X h hn N11 (by decide) (by decide) (by decide) (by rw [u11_3]; exact Nat.mod_lt _ n_pos)
  have g12' : P_X12_product G F (W.ad (.o 12 2)) (W.ad (.a 13 0 118)) (W.ad (.a 13 0 60)) (W.ad (.a 13 0 118)) (mem W S11) = some (mem W S12) := g12
  obtain ⟨U12, hU12⟩ : ∃ u, u = uu U11 2 ((xq % nP * beN d + zz) * niv (beN kk) * 4294967296 ^ 8 % nP) := ⟨_, rfl⟩
  have N12 : NS S12 U12 := by rw [hU12]; rw [← M_mul (n := 8) nP_1 nP_2, ← u11_2, ← u11_3]; exact N12
  have u12_0 : U12 0 = zz * 4294967296 ^ 8 % nP := by rw [hU12, uu_ne (by decide), u11_0]
  have u12_1 : U12 1 = xq % nP * 4294967296 ^ 8 % nP := by rw [hU12, uu_ne (by decide), u11_1]
  have u12_2 : U12 2 = (xq % nP * beN d + zz) * niv (beN kk) * 4294967296 ^ 8 % nP := by rw [hU12, uu_eq]
  have u12_3 : U12 3 = niv (beN kk) * 4294967296 ^ 8 % nP := by rw [hU12, uu_ne (by decide), u11_3]
  rw [h.g59 hn, bO_s, h.gR 118 rfl (by decide), bO_s, h.gR 60 rfl (by decide), bO_s, bO_s, rcv_m hn.2.1, bO_s, g12', bO_s]
  have b2_12 := f12.2.mB b2_11 (by decide)
  have b64_12 := f12.2.mB b64_11 (by decide)
  have b67_12 := f12.2.mB b67_11 (by decide)
  have b79_12 := f12.2.mB b79_11 (by decide)
  have b89_12 := f12.2.mB b89_11 (by decide)
  have b112_12 := f12.2.mB b112_11 (by decide)
  obtain ⟨S13, g13, f13, N13⟩ := no_out (G := G) (F := F) (k := 2) X h hn N12 (by decide)
  have g13' : P_X12_outOf G F (W.ad (.o 12 2)) (W.ad (.a 13 0 118)) (W.ad (.a 13 0 118)) (mem W S12) = some (mem W S13) := g13
  obtain ⟨U13, hU13⟩ : ∃ u, u = uu U12 2 ((xq % nP * beN d + zz) * niv (beN kk) % nP) := ⟨_, rfl⟩
  have N13 : NS S13 U13 := by rw [hU13]; rw [← M_back (n := 8) nP_1 nP_2, ← u12_2]; exact N13
  have u13_0 : U13 0 = zz * 4294967296 ^ 8 % nP := by rw [hU13, uu_ne (by decide), u12_0]
  have u13_1 : U13 1 = xq % nP * 4294967296 ^ 8 % nP := by rw [hU13, uu_ne (by decide), u12_1]
  have u13_2 : U13 2 = (xq % nP * beN d + zz) * niv (beN kk) % nP := by rw [hU13, uu_eq]
  have u13_3 : U13 3 = niv (beN kk) * 4294967296 ^ 8 % nP := by rw [hU13, uu_ne (by decide), u12_3]
  rw [h.g59 hn, bO_s, h.gR 118 rfl (by decide), bO_s, bO_s, rcv_m hn.2.1, bO_s, g13', bO_s]
  have b2_13 := f13.2.mB b2_12 (by decide)
  have b64_13 := f13.2.mB b64_12 (by decide)
  have b67_13 := f13.2.mB b67_12 (by decide)
  have b79_13 := f13.2.mB b79_12 (by decide)
  have b89_13 := f13.2.mB b89_12 (by decide)
  have b112_13 := f13.2.mB b112_12 (by decide)
  have z2 := no_zero (G := G) (F := F) (k := 2) X h hn N13 (by decide)
  have z2' : P_X12_isZero G F (W.ad (.o 12 2)) (W.ad (.a 13 0 118)) (mem W S13) = _ := z2
  rw [u13_2] at z2'
  have ft : fr [(12, 2), (13, 0)] S0 S13 := f1.1.trans (f2.trans (f3.1.trans (f4.1.trans (f5.1.trans (f6.1.trans (f7.1.trans (f8.1.trans (f9.1.trans (f10.trans (f11.1.trans (f12.1.trans f13.1)))))))))))
  have at_ : agr [113] [] [116, 117, 118, 60, 61, 67, 112] [] (S0 13 0) (S13 13 0) := by
    have w : ∀ {s s' : ST}, NF s s' → agr [113] [] [116, 117, 118, 60, 61, 67, 112] [] (s 13 0) (s' 13 0) := fun f => f.2.mono (by simp) (by simp) (by simp) (by simp)
    exact (w f1).trans ((a2.mono (by simp) (by simp) (by simp) (by simp)).trans ((w f3).trans ((w f4).trans ((w f5).trans ((w f6).trans ((w f7).trans ((w f8).trans ((w f9).trans ((a10.mono (by simp) (by simp) (by simp) (by simp)).trans ((w f11).trans ((w f12).trans (w f13))))))))))))
  generalize (xq % nP * beN d + zz) * niv (beN kk) % nP = sg at *
  have fin : ∀ sk0 : Int32, ∃ S' β', B_X13_signPoint_340 G F (W.ad (.o 13 0)) sk sk0 (mem W S13) = some (if sk0 = 0 then (if sk = 0 then -4 else 0) else -4, mem W S') ∧ fr [(12, 2), (13, 0)] S0 S' ∧ agr [113] [] [116, 117, 118, 60, 61, 67, 112] [] (S0 13 0) (S' 13 0) ∧ MdS S' 2 8 nP ∧ (∃ β, mB (S' 13 0) 67 β) ∧ mB (S' 13 0) 112 β' ∧ rdB β' 0 64 = beV 32 (xq % nP) ++ beV 32 sg ∧ (S' 13 0).f 113 = 64 := by
    intro sk0
    unfold B_X13_signPoint_340
    obtain ⟨S14, g14, f14, a14, N14, b14⟩ := no_store (G := G) (F := F) (kb := 112) (p := 32) (k := 2) X h hn N13 (by decide) rfl (by decide) (by decide) b112_13
    have g14' : P_X12_store G F (W.ad (.o 12 2)) (W.ad (.a 13 0 118)) (W.ad (.a 13 0 112)) 32 32 (mem W S13) = some (mem W S14) := g14
    rw [u13_2] at b14
    rw [h.g59 hn, bO_s, h.gR 118 rfl (by decide), bO_s, h.gR 112 rfl (by decide), bO_s, rcv_m hn.2.1, bO_s, g14', bO_s, h.pI 113 64 rfl, bO_s]
    refine ⟨S14.so 13 0 ((S14 13 0).sf 113 64), wrB (wrB β112 0 (beV 32 (xq % nP))) 32 (beV 32 sg), ?_, (ft.trans f14).trans (fr_so (by simp)), ?_, N14.1.fr (L := [(13, 0)]) (fr_so (by simp)) (by simp), ⟨γ67, ?_⟩, ?_, ?_, ?_⟩
    · by_cases c1 : sk0 = 0
      · rw [if_pos c1, if_pos c1]
        by_cases c2 : sk = 0
        · rw [if_pos c2, if_pos c2]
        · rw [if_neg c2, if_neg c2]
      · rw [if_neg c1, if_neg c1]
    · rw [so_eq]
      exact (at_.trans (a14.mono (by simp) (by simp) (by simp) (by simp))).trans (agr_sf (by simp))
    · rw [so_eq]
      exact a14.mB b67_13 (by decide)
    · rw [so_eq]
      exact b14
    · exact rd_two _ _ _ (beV_len _ _) (beV_len _ _)
    · rw [so_eq, sf_f, if_pos rfl]
  by_cases q1 : xq % nP = 0
  · rw [if_pos q1, if_neg (by decide)]
    obtain ⟨S', β', e, r⟩ := fin 1
    refine ⟨S', β', ?_, r⟩
    rw [e, if_neg (by decide), if_pos (Or.inl q1)]
  · rw [if_neg q1, if_pos rfl, h.g59 hn, bO_s, h.gR 118 rfl (by decide), bO_s, rcv_m hn.2.1, bO_s, z2', bP_s]
    by_cases q2 : sg = 0
    · rw [if_pos q2, if_neg (by decide)]
      obtain ⟨S', β', e, r⟩ := fin 1
      refine ⟨S', β', ?_, r⟩
      rw [e, if_neg (by decide), if_pos (Or.inr (Or.inl q2))]
    · rw [if_neg q2, if_pos rfl]
      obtain ⟨S', β', e, r⟩ := fin 0
      refine ⟨S', β', ?_, r⟩
      rw [e, if_pos rfl]
      by_cases q3 : sk = 0
      · rw [if_pos q3, if_pos (Or.inr (Or.inr q3))]
      · rw [if_neg q3, if_neg (fun o => o.elim q1 (fun o => o.elim q2 q3))]
end MSIG
