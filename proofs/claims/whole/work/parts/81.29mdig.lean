/-! THE MODEL'S WIDE DIGEST; digestOf -/
theorem w8_len (x : Int64) : (w8 x).length = 8 := rfl
theorem w8_beL (x : Int64) : beL 8 x = w8 x := by
  have hx := L_nat x
  have hl := x.toBitVec.isLt
  have e1 : (ushL x 32).toInt32 = (Int32.ofNat (x.toBitVec.toNat / 2 ^ 32)) := by
    rw [lit 32, ushL_n (by decide), Int64.toInt32_ofNat']
    rfl
  have e2 : x.toInt32 = (Int32.ofNat x.toBitVec.toNat) := by
    rw [hx, Int64.toInt32_ofNat', bvL, BitVec.toNat_ofNat, Nat.mod_eq_of_lt hl]
  unfold w8
  rw [e1, e2, w4_n, w4_n]
  show [bL _ 56, bL _ 48, bL _ 40, bL _ 32, bL _ 24, bL _ 16, bL _ 8, bL _ 0] = _
  unfold bL
  generalize x.toBitVec.toNat = a
  rw [Nat.div_div_eq_div_mul, Nat.div_div_eq_div_mul, Nat.div_div_eq_div_mul, Nat.pow_zero, Nat.div_one]
  rfl
section MDIG3
variable {W : WR} {G : mG} {F : Nat}
/-- w32 is filled, and turned -/
theorem QM_dgW_in {r : Nat → Int32 → mM → Option mM} {p : List UInt8} {β : Nat → UInt8} {b : Nat} (X : Cx G F W) (h : isM W) (hp : rdB β 0 p.length = p) (hb : 128 * b + 128 ≤ p.length) (hl : p.length ≤ 33100) : ∀ (m k n : Nat) (S : ST), m < n → k + m = 16 → mB (S 13 0) 36 β → (∀ j, j < k → (S 13 0).l 33 j = wdW (fun j => gB p (128 * b + j)) j) → ∃ o, B_X13_digest64_43 G F r n (W.ad (.o 13 0)) (Int32.ofNat (128 * b)) (Int32.ofNat k) (mem W S) = r (W.ad (.o 13 0)) (Int32.ofNat (128 * (b + 1))) (mem W (S.so 13 0 o)) ∧ agr [] [] [] [33, 34] (S 13 0) o ∧ ∀ k, k < 8 → o.l 34 k = cmp8W ((S 13 0).l 34) (wdW fun j => gB p (128 * b + j)) k := by
  have h31 := h.hL 33 (by decide)
  intro m
  induction m with
  | zero =>
    intro k n S hn hk hβ hw
    obtain ⟨n, rfl⟩ : ∃ q, n = q + 1 := ⟨n - 1, by omega⟩
    obtain rfl : k = 16 := by omega
    rw [B_X13_digest64_43, if_pos (by decide), rcv_m h.lo, bO_s]
    obtain ⟨o, g1, g2, g3⟩ := QM_turn64 X h hw
    rw [g1, bO_s, n_addL _ 128]
    exact ⟨o, rfl, g2, g3⟩
  | succ m ih =>
    intro k n S hn hk hβ hw
    obtain ⟨n, rfl⟩ : ∃ q, n = q + 1 := ⟨n - 1, by omega⟩
    have e := QM_longAt (p := 128 * b + 8 * k) (cnt := 8) (β := β) (k := 36) X h rfl (by decide) (by show _ ≤ 33100; omega) (by decide) hβ
    have e' : P_X13_longAt G F (W.ad (.a 13 0 36)) (Int32.ofNat (128 * b + 8 * k)) 8 (mem W S) = some (Int64.ofNat (beN (rdB β (128 * b + 8 * k) 8)), mem W S) := e
    have ew : (Int64.ofNat (beN (rdB β (128 * b + 8 * k) 8))) = wdW (fun j => gB p (128 * b + j)) k := by
      have hg : ∀ t, t < 8 → (fun j => gB p (128 * b + j)) (8 * k + t) = b32 ((fun t => β (128 * b + 8 * k + t)) t) := fun t ht => by
        dsimp only
        rw [gB_rd hp (by omega)]
        congr 2
        omega
      have := wdWs_beN (b := fun j => gB p (128 * b + j)) (j := k) (g := fun t => β (128 * b + 8 * k + t)) hg 8 0 0 rfl
      unfold wdW
      refine Eq.trans ?_ this.symm
      congr 2
    rw [B_X13_digest64_43, if_neg (by rw [lit 16]; exact fun q => absurd ((n_le (by omega) (by omega)).mp q) (by omega)), h.gR 33 rfl (by decide), bO_s, h.gR 36 rfl (by decide), bO_s, show (8 : Int32) * (Int32.ofNat k) = (Int32.ofNat (8 * k)) from n_mul 8 k, n_add, e', bP_s, ew, h31.st rfl (show k < 80 by omega), bO_s, n_addL k 1]
    obtain ⟨o, g1, g2, g3⟩ := ih (k + 1) n (S.so 13 0 ((S 13 0).sL 33 (vp_updL ((S 13 0).l 33) k (wdW (fun j => gB p (128 * b + j)) k)))) (by omega) (by omega) (by rw [so_eq]; exact hβ) (fun j hj => by
      rw [so_eq, sL_l, vp_updL]
      by_cases ej : j = k
      · rw [if_pos ej, ej]
      · rw [if_neg ej]; exact hw j (by omega))
    rw [so_so] at g1
    rw [so_eq] at g2 g3
    rw [sL_l' (by decide)] at g3
    exact ⟨o, g1, (agr_sL (by decide)).trans g2, g3⟩
theorem QM_dgW_out {f : Nat → Int64} (X : Cx G F W) (h : isM W) : ∀ (m k n : Nat) (S : ST) (β : Nat → UInt8), m < n → k + m = 8 → mB (S 13 0) 35 β → (∀ j, j < 8 → (S 13 0).l 34 j = f j) → B_X13_digest64_91 G F n (W.ad (.o 13 0)) (Int32.ofNat k) (mem W S) = some (mem W (S.so 13 0 ((S 13 0).sA 35 (fun j => sb (wrB β (8 * k) (cat (fun k => w8 (f k)) m k) j))))) := by
  have h32 := h.hL 34 (by decide)
  intro m
  induction m with
  | zero =>
    intro k n S β hn hk hβ hf
    obtain ⟨n, rfl⟩ : ∃ q, n = q + 1 := ⟨n - 1, by omega⟩
    obtain rfl : k = 8 := by omega
    rw [B_X13_digest64_91, if_pos (by decide), cat, wrB_nil, sA_self hβ, so_self]
  | succ m ih =>
    intro k n S β hn hk hβ hf
    obtain ⟨n, rfl⟩ : ∃ q, n = q + 1 := ⟨n - 1, by omega⟩
    have e := QM_put (k := 35) (p := 8 * k) (cnt := 8) (x := (f k)) X h rfl (by decide) (by show _ ≤ 64; omega) (by decide) hβ
    have e' : P_X13_put G F (W.ad (.a 13 0 35)) (Int32.ofNat (8 * k)) 8 (f k) (mem W S) = _ := e
    rw [B_X13_digest64_91, if_neg (by rw [lit 8]; exact fun q => absurd ((n_le (by omega) (by omega)).mp q) (by omega)), h.gR 35 rfl (by decide), bO_s, h.gR 34 rfl (by decide), bO_s, h32.ld rfl (show k < 8 by omega), bO_s, hf k (by omega), show (8 : Int32) * (Int32.ofNat k) = (Int32.ofNat (8 * k)) from n_mul 8 k, e', bO_s, n_addL k 1, ih (k + 1) n _ _ (by omega) (by omega) (by rw [so_eq]; exact mB_sA _ _ _) (fun j hj => by rw [so_eq]; exact hf j hj), so_so, so_eq, sA_sA, w8_beL]
    have ee := wrB_app β (8 * k) (w8 (f k)) (cat (fun k => w8 (f k)) m (k + 1))
    rw [w8_len, show 8 * k + 8 = 8 * (k + 1) by omega] at ee
    rw [ee]
    rfl
theorem QM_dgW_mid {p : List UInt8} {β γ : Nat → UInt8} {N : Nat} (X : Cx G F W) (h : isM W) (hp : rdB β 0 p.length = p) (hN : p.length = 128 * N) (hl : p.length ≤ 33100) : ∀ (m b n : Nat) (S : ST), m < n → b + m = N → mB (S 13 0) 36 β → mB (S 13 0) 35 γ → (S 13 0).f 37 = (Int32.ofNat p.length) → (∀ k, k < 8 → (S 13 0).l 34 k = hs8W p b k) → ∃ o, B_X13_digest64_33 G F n (W.ad (.o 13 0)) (Int32.ofNat (128 * b)) (mem W S) = some (mem W (S.so 13 0 o)) ∧ agr [] [] [35] [33, 34] (S 13 0) o ∧ mB o 35 (wrB γ 0 (cat (fun k => w8 (hs8W p N k)) 8 0)) := by
  have hF := X.hF
  intro m
  induction m with
  | zero =>
    intro b n S hn hk hβ hγ hf hw
    obtain ⟨n, rfl⟩ : ∃ q, n = q + 1 := ⟨n - 1, by omega⟩
    obtain rfl : b = N := by omega
    rw [B_X13_digest64_33, h.gI 37 rfl, bO_s, hf, if_pos ((n_le (by omega) (by omega)).mpr (by omega))]
    have e := QM_dgW_out (f := hs8W p b) X h 8 0 F S γ (by omega) rfl hγ hw
    exact ⟨_, e, agr_sA (by decide), mB_sA _ _ _⟩
  | succ m ih =>
    intro b n S hn hk hβ hγ hf hw
    obtain ⟨n, rfl⟩ : ∃ q, n = q + 1 := ⟨n - 1, by omega⟩
    rw [B_X13_digest64_33, h.gI 37 rfl, bO_s, hf, if_neg (fun q => absurd ((n_le (by omega) (by omega)).mp q) (by omega))]
    obtain ⟨o, g1, g2, g3⟩ := QM_dgW_in (r := B_X13_digest64_33 G F n) (p := p) (b := b) X h hp (by omega) hl 16 0 F S (by omega) rfl hβ (fun j hj => absurd hj (Nat.not_lt_zero _))
    have g1' : B_X13_digest64_43 G F (B_X13_digest64_33 G F n) F (W.ad (.o 13 0)) (Int32.ofNat (128 * b)) 0 (mem W S) = _ := g1
    rw [g1']
    obtain ⟨o2, g4, g5, g6⟩ := ih (b + 1) n (S.so 13 0 o) (by omega) (by omega) (by rw [so_eq]; exact g2.mB hβ (by decide)) (by rw [so_eq]; exact g2.mB hγ (by decide)) (by rw [so_eq, g2.1 37 (by decide)]; exact hf) (fun k hk => by
      rw [so_eq, g3 k hk]
      exact cmp8W_congr hw (fun _ _ => rfl) k hk)
    rw [so_so] at g4
    rw [so_eq] at g5
    exact ⟨o2, g4, (g2.mono (by decide) (by decide) (by decide) (by decide)).trans g5, g6⟩
theorem QM_first32 (X : Cx G F W) (h : isM W) : ∀ (m k n : Nat) (S : ST), m < n → k + m = 8 → (∀ j, j < k → (S 13 0).a 32 j = mt_1.getD j 0) → ∃ o, B_X13_digestOf_22 G F n (W.ad (.o 13 0)) (Int32.ofNat k) (mem W S) = B_X13_digestOf_50 G F F (W.ad (.o 13 0)) 0 (mem W (S.so 13 0 o)) ∧ agr [] [] [32] [] (S 13 0) o ∧ ∀ j, j < 8 → o.a 32 j = mt_1.getD j 0 := by
  have h32 := h.hA 32 (by decide)
  intro m
  induction m with
  | zero =>
    intro k n S hn hk hw
    obtain ⟨n, rfl⟩ : ∃ q, n = q + 1 := ⟨n - 1, by omega⟩
    obtain rfl : k = 8 := by omega
    rw [B_X13_digestOf_22, if_pos (by decide)]
    exact ⟨S 13 0, by rw [so_self], agr.refl _ _ _ _ _, hw⟩
  | succ m ih =>
    intro k n S hn hk hw
    obtain ⟨n, rfl⟩ : ∃ q, n = q + 1 := ⟨n - 1, by omega⟩
    obtain ⟨f1, f2⟩ := first_t (G := G) (F := F) k (by omega)
    rw [B_X13_digestOf_22, if_neg (by rw [lit 8]; exact fun q => absurd ((n_le (by omega) (by omega)).mp q) (by omega)), h.gR 32 rfl (by decide), bO_s, f1, bP_s, f2, h32.st rfl (show k < 8 by omega), bO_s, n_addL k 1]
    obtain ⟨o, g1, g2, g3⟩ := ih (k + 1) n (S.so 13 0 ((S 13 0).sA 32 (upd ((S 13 0).a 32) k (mt_1.getD k 0)))) (by omega) (by omega) (fun j hj => by
      rw [so_eq, sA_a, upd]
      by_cases ej : j = k
      · rw [if_pos ej, ej]
      · rw [if_neg ej]; exact hw j (by omega))
    rw [so_so] at g1
    rw [so_eq] at g2
    exact ⟨o, g1, (agr_sA (by decide)).trans g2, g3⟩
theorem QM_first64 (X : Cx G F W) (h : isM W) : ∀ (m k n : Nat) (S : ST), m < n → k + m = 8 → (∀ j, j < k → (S 13 0).l 34 j = mt_2.getD j 0) → ∃ o, B_X13_digest64_9 G F n (W.ad (.o 13 0)) (Int32.ofNat k) (mem W S) = B_X13_digest64_33 G F F (W.ad (.o 13 0)) 0 (mem W (S.so 13 0 o)) ∧ agr [] [] [] [34] (S 13 0) o ∧ ∀ j, j < 8 → o.l 34 j = mt_2.getD j 0 := by
  have h34 := h.hL 34 (by decide)
  intro m
  induction m with
  | zero =>
    intro k n S hn hk hw
    obtain ⟨n, rfl⟩ : ∃ q, n = q + 1 := ⟨n - 1, by omega⟩
    obtain rfl : k = 8 := by omega
    rw [B_X13_digest64_9, if_pos (by decide)]
    exact ⟨S 13 0, by rw [so_self], agr.refl _ _ _ _ _, hw⟩
  | succ m ih =>
    intro k n S hn hk hw
    obtain ⟨n, rfl⟩ : ∃ q, n = q + 1 := ⟨n - 1, by omega⟩
    obtain ⟨f1, f2⟩ := first_t (G := G) (F := F) k (by omega)
    rw [B_X13_digest64_9, if_neg (by rw [lit 8]; exact fun q => absurd ((n_le (by omega) (by omega)).mp q) (by omega)), h.gR 34 rfl (by decide), bO_s, f1, bP_s, h34.st rfl (show k < 8 by omega), bO_s, n_addL k 1]
    obtain ⟨o, g1, g2, g3⟩ := ih (k + 1) n (S.so 13 0 ((S 13 0).sL 34 (vp_updL ((S 13 0).l 34) k (mt_2.getD k 0)))) (by omega) (by omega) (fun j hj => by
      rw [so_eq, sL_l, vp_updL]
      by_cases ej : j = k
      · rw [if_pos ej, ej]
      · rw [if_neg ej]; exact hw j (by omega))
    rw [so_so] at g1
    rw [so_eq] at g2
    exact ⟨o, g1, (agr_sL (by decide)).trans g2, g3⟩
/-- what digestOf leaves: the digest's bytes stand first in its array -/
theorem QM_digestOf {S : ST} {wide : Bool} {msg : List UInt8} {γ : Nat → UInt8} (X : Cx G F W) (h : isM W) (hm : mMass (S 13 0) msg) (hγ : mB (S 13 0) 35 γ) (hl : msg.length + 145 ≤ 33100) : ∃ o, P_X13_digestOf G F (W.ad (.o 13 0)) (if wide then 512 else 256) (mem W S) = some (if wide then 64 else 32, mem W (S.so 13 0 o)) ∧ mB o 35 (wrB γ 0 (sha wide msg)) ∧ mMass o (padF wide msg) ∧ agr [37] [] [36, 31, 32, 35] [33, 34] (S 13 0) o := by
  have hF := X.hF
  obtain ⟨o1, g1, m1, a1⟩ := QM_fill (S := S) (wide := wide) X h hm hl
  have hle := padF_le wide msg
  have hmod := padF_mod wide msg
  obtain ⟨f1, f2, β, f3, f4⟩ := m1
  unfold P_X13_digestOf
  cases wide with
  | true =>
    have g1' : P_X13_fill G F (W.ad (.o 13 0)) 128 (mem W S) = some (mem W (S.so 13 0 o1)) := g1
    have hmod' : (padF true msg).length % 128 = 0 := hmod
    rw [if_pos (by rfl), rcv_m h.lo, bO_s, P_X13_digest64, rcv_m h.lo, bO_s, g1', bO_s]
    obtain ⟨o2, g2, a2, w2⟩ := QM_first64 X h 8 0 F (S.so 13 0 o1) (by omega) rfl (fun j hj => absurd hj (Nat.not_lt_zero _))
    have g2' : B_X13_digest64_9 G F F (W.ad (.o 13 0)) 0 (mem W (S.so 13 0 o1)) = _ := g2
    rw [so_so] at g2'
    rw [so_eq] at a2
    rw [g2']
    obtain ⟨o3, g3, a3, b3⟩ := QM_dgW_mid (p := padF true msg) (β := β) (γ := γ) (N := (padF true msg).length / 128) X h f4 (by omega) (by omega) ((padF true msg).length / 128) 0 F (S.so 13 0 o2) (by omega) (by omega) (by rw [so_eq]; exact a2.mB f3 (by decide)) (by rw [so_eq]; exact a2.mB (a1.mB hγ (by decide)) (by decide)) (by rw [so_eq, a2.1 37 (by decide)]; exact f1) (fun k hk => by rw [so_eq]; exact w2 k hk)
    have g3' : B_X13_digest64_33 G F F (W.ad (.o 13 0)) 0 (mem W (S.so 13 0 o2)) = some (mem W (S.so 13 0 o3)) := by rw [← so_so S 13 0 o2 o3]; exact g3
    rw [so_eq] at a3
    rw [g3', bO_s]
    refine ⟨o3, rfl, b3, ⟨by rw [a3.1 37 (by decide), a2.1 37 (by decide)]; exact f1, f2, β, a3.mB (a2.mB f3 (by decide)) (by decide), f4⟩, ?_⟩
    exact ((a1.mono (by decide) (by decide) (by decide) (by decide)).trans (a2.mono (by decide) (by decide) (by decide) (by decide))).trans (a3.mono (by decide) (by decide) (by decide) (by decide))
  | false =>
    have g1' : P_X13_fill G F (W.ad (.o 13 0)) 64 (mem W S) = some (mem W (S.so 13 0 o1)) := g1
    have hmod' : (padF false msg).length % 64 = 0 := hmod
    rw [if_neg (by decide), rcv_m h.lo, bO_s, g1', bO_s]
    obtain ⟨o2, g2, a2, w2⟩ := QM_first32 X h 8 0 F (S.so 13 0 o1) (by omega) rfl (fun j hj => absurd hj (Nat.not_lt_zero _))
    have g2' : B_X13_digestOf_22 G F F (W.ad (.o 13 0)) 0 (mem W (S.so 13 0 o1)) = _ := g2
    rw [so_so] at g2'
    rw [so_eq] at a2
    rw [g2']
    obtain ⟨o3, g3, a3, b3⟩ := QM_dig_mid (p := padF false msg) (β := β) (γ := γ) (N := (padF false msg).length / 64) X h f4 (by omega) (by omega) ((padF false msg).length / 64) 0 F (S.so 13 0 o2) (by omega) (by omega) (by rw [so_eq]; exact a2.mB f3 (by decide)) (by rw [so_eq]; exact a2.mB (a1.mB hγ (by decide)) (by decide)) (by rw [so_eq, a2.1 37 (by decide)]; exact f1) (fun k hk => by rw [so_eq]; exact w2 k hk)
    have g3' : B_X13_digestOf_50 G F F (W.ad (.o 13 0)) 0 (mem W (S.so 13 0 o2)) = some (32, mem W (S.so 13 0 o3)) := by rw [← so_so S 13 0 o2 o3]; exact g3
    rw [so_eq] at a3
    rw [g3']
    refine ⟨o3, rfl, b3, ⟨by rw [a3.1 37 (by decide), a2.1 37 (by decide)]; exact f1, f2, β, a3.mB (a2.mB f3 (by decide)) (by decide), f4⟩, ?_⟩
    exact ((a1.mono (by decide) (by decide) (by decide) (by decide)).trans (a2.mono (by decide) (by decide) (by decide) (by decide))).trans (a3.mono (by decide) (by decide) (by decide) (by decide))
end MDIG3
