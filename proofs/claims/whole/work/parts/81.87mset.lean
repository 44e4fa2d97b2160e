/-! THE MODEL'S CURVE: times, setPoint, getPoint, isSecret -/
theorem bitA_nil (k : Nat) : bitA [] k = false := by
  unfold bitA
  rw [gN_nil, Nat.zero_div]
  rfl
theorem sumS_nil (ms : List UInt8) (P Q Q' : Int × Int) : ∀ k, sumS ms [] P Q k = sumS ms [] P Q' k
  | 0 => rfl
  | k + 1 => by rw [sumS, sumS, bitA_nil, sumS_nil ms P Q Q' k]; rfl
/-- a number times a point -/
def mulS (ms : List UInt8) (P : Int × Int) : JP := sumS ms [] P P 256
/-- between calls: what may stand in the cells -/
def MPq (S : ST) : Prop := ∃ V : Nat → Int, MdS S 1 8 pP ∧ (∀ k, k < 11 → k ≠ 8 → k ≠ 9 → GV S (mwC k) (V k)) ∧ V 10 = bP_
theorem MP.q {S : ST} {V : Nat → Int} (h : MP S V) (hb : V 10 = bP_) : MPq S := ⟨V, h.1, fun k hk _ _ => h.2 k hk, hb⟩
theorem MdS.fr {S S' : ST} {i n m : Nat} {L : List (Nat × Nat)} (h : MdS S i n m) (f : fr L S S') (hi : (12, i) ∉ L) : MdS S' i n m := by
  have e := f 12 i hi
  obtain ⟨⟨m1, m2, m3, m4, m5⟩, ⟨tw, m6⟩, m7, m8⟩ := h
  have g : ∀ k, igt S' (.a 12 i k) = igt S (.a 12 i k) := fun k => by show (S' 12 i).a k = _; rw [e]; rfl
  exact ⟨⟨by rw [e]; exact m1, m2, m3, by rw [g]; exact m4, m5⟩, ⟨tw, by rw [e]; exact m6⟩, by rw [g]; exact m7, by rw [g]; exact m8⟩
theorem mcl_ig (k : Nat) (hk : k < 11) : ∃ q, q ∈ [66, 68, 69, 70, 71, 72, 74, 75, 76, 77, 78] ∧ mwC k = .a 13 0 q := by
  have : k = 0 ∨ k = 1 ∨ k = 2 ∨ k = 3 ∨ k = 4 ∨ k = 5 ∨ k = 6 ∨ k = 7 ∨ k = 8 ∨ k = 9 ∨ k = 10 := by omega
  rcases this with rfl | rfl | rfl | rfl | rfl | rfl | rfl | rfl | rfl | rfl | rfl <;> exact ⟨_, by decide, rfl⟩
theorem GV.ag {S S' : ST} {fs gs as ls : List Nat} {k : Nat} {A : Int} (h : GV S (mwC k) A) (hk : k < 11) (a : agr fs gs as ls (S 13 0) (S' 13 0)) (hn : ∀ q ∈ [66, 68, 69, 70, 71, 72, 74, 75, 76, 77, 78], q ∉ as) : GV S' (mwC k) A := by
  obtain ⟨q, hq, e⟩ := mcl_ig k hk
  unfold GV at *
  rw [e] at h ⊢
  have : igt S' (.a 13 0 q) = igt S (.a 13 0 q) := a.2.2.1 q (hn q hq)
  rw [this]
  exact h
theorem MPq.ag {S S' : ST} {L : List (Nat × Nat)} {fs gs as ls : List Nat} (h : MPq S) (f : fr L S S') (h1 : (12, 1) ∉ L) (a : agr fs gs as ls (S 13 0) (S' 13 0)) (hn : ∀ q ∈ [66, 68, 69, 70, 71, 72, 74, 75, 76, 77, 78], q ∉ as) : MPq S' := by
  obtain ⟨V, m, g, b⟩ := h
  exact ⟨V, m.fr f h1, fun k hk k8 k9 => (g k hk k8 k9).ag hk a hn, b⟩
theorem lt_p : (beV 32 pP).set 31 253 = beV 32 (pP - 2) := by decide +kernel
theorem lt_n : (beV 32 nP).set 31 79 = beV 32 (nP - 2) := by decide +kernel
theorem m2_t : ∀ n, n < 256 → ((sb (UInt8.ofNat n) - 2).toInt8.toInt32).toInt8.toInt32 = sb (UInt8.ofNat n - 2) := by decide +kernel
theorem sb_m2 (y : UInt8) : ((sb y - 2).toInt8.toInt32).toInt8.toInt32 = sb (y - 2) := by
  have := m2_t y.toNat y.toNat_lt
  rw [UInt8.ofNat_toNat] at this
  exact this
theorem rdB_up {β : Nat → UInt8} {p n j : Nat} {y : UInt8} (h : j < n) : rdB (va_up β (p + j) y) p n = (rdB β p n).set j y := by
  apply List.ext_getElem?
  intro k
  rw [List.getElem?_set, rdB_len]
  by_cases hk : k < n
  · rw [rdB_at hk, rdB_at hk]
    unfold va_up
    by_cases e : k = j
    · rw [if_pos (by omega), if_pos (by omega), if_pos h]
    · rw [if_neg (by omega), if_neg (by omega)]
  · rw [List.getElem?_eq_none (by rw [rdB_len]; omega), if_neg (by omega), List.getElem?_eq_none (by rw [rdB_len]; omega)]
section MPT
variable {W : WR} {G : mG} {F : Nat} {S : ST} {V : Nat → Int}
theorem QM_times7 {kb p : Nat} {β : Nat → UInt8} (pr : PrP) (X : Cx G F W) (h : isM W) (hp : isMp W) (qb : (kdA 13)[kb]? = some 1) (lb_ : mLen kb < 2 ^ 30) (rb : p + 32 ≤ mLen kb) {V0 : Nat → Int} : ∀ (q k fuel : Nat) (S : ST) (V : Nat → Int), q < fuel → k + q = 256 → MP S V → (∀ k, 8 ≤ k → V k = V0 k) → mB (S 13 0) kb β → GJ S V (sumS (rdB β p 32) [] (V0 8, V0 9) (V0 8, V0 9) k) → ∃ S' V', B_X13_times__7 G F fuel (W.ad (.o 13 0)) (W.ad (.a 13 0 kb)) (Int32.ofNat p) (Int32.ofNat k) (mem W S) = some (mem W S') ∧ PF S S' ∧ MP S' V' ∧ (∀ k, 8 ≤ k → V' k = V0 k) ∧ GJ S' V' (mulS (rdB β p 32) (V0 8, V0 9)) := by
  have nk : kb ∉ [68, 69, 70, 71, 72, 74, 75, 76, 77, 78] := by
    intro q
    simp at q
    rcases q with rfl | rfl | rfl | rfl | rfl | rfl | rfl | rfl | rfl | rfl <;> exact absurd qb (by decide)
  intro q
  induction q with
  | zero =>
    intro k fuel S V hf hk C hV hb J
    obtain ⟨fuel, rfl⟩ : ∃ q, fuel = q + 1 := ⟨fuel - 1, by omega⟩
    obtain rfl : k = 256 := by omega
    rw [B_X13_times__7, if_pos (by decide)]
    exact ⟨S, V, rfl, PF.refl _, C, hV, J⟩
  | succ q ih =>
    intro k fuel S V hf hk C hV hb J
    obtain ⟨fuel, rfl⟩ : ∃ q, fuel = q + 1 := ⟨fuel - 1, by omega⟩
    obtain ⟨S1, V1, g1, f1, C1, k1, J1⟩ := QM_twiceP (G := G) (F := F) X h hp C J
    have b1 : mB (S1 13 0) kb β := f1.2.mB hb nk
    have hgn : gN (rdB β p 32) (k / 8) = (β (p + k / 8)).toNat := gN_rdB (by omega)
    have hbt := sbit (β (p + k / 8)) (s := k % 8) (by omega)
    rw [B_X13_times__7, if_neg (by rw [lit 256]; exact fun q => absurd ((n_le (by omega) (by omega)).mp q) (by omega)), rcv_m h.lo, bO_s, g1, bO_s, mod8 (by omega), show (Int32.ofNat k) / (8 : Int32) = (Int32.ofNat (k / 8)) from n_div (b := 8) (by omega) (by decide), n_add, h.aB qb b1 (by omega) (by omega), bO_s, n_addL k 1]
    by_cases c : (β (p + k / 8)).toNat / 2 ^ (7 - k % 8) % 2 = 1
    · have cb : bitA (rdB β p 32) k = true := decide_eq_true (by rw [hgn]; exact c)
      obtain ⟨S2, V2, g2, f2, C2, k2, J2⟩ := QM_addP (G := G) (F := F) pr X h hp C1 J1
      rw [k1 8 (by omega), k1 9 (by omega), hV 8 (by omega), hV 9 (by omega)] at J2
      rw [if_pos (hbt.mpr c), rcv_m h.lo, bO_s, g2, bO_s]
      obtain ⟨S3, V3, g3, f3, C3, k3, J3⟩ := ih (k + 1) fuel S2 V2 (by omega) (by omega) C2 (fun j hj => (k2 j hj).trans ((k1 j hj).trans (hV j hj))) (f2.2.mB b1 nk) (by
        rw [sumS, bitA_nil, cb]
        exact J2)
      exact ⟨S3, V3, g3, (f1.trans f2).trans f3, C3, k3, J3⟩
    · have cb : bitA (rdB β p 32) k = false := decide_eq_false (by rw [hgn]; exact c)
      rw [if_neg (fun q => c (hbt.mp q))]
      obtain ⟨S3, V3, g3, f3, C3, k3, J3⟩ := ih (k + 1) fuel S1 V1 (by omega) (by omega) C1 (fun j hj => (k1 j hj).trans (hV j hj)) b1 (by
        rw [sumS, bitA_nil, cb]
        exact J1)
      exact ⟨S3, V3, g3, f1.trans f3, C3, k3, J3⟩
theorem QM_times {kb p : Nat} {β : Nat → UInt8} (pr : PrP) (X : Cx G F W) (h : isM W) (hp : isMp W) (qb : (kdA 13)[kb]? = some 1) (lb_ : mLen kb < 2 ^ 30) (rb : p + 32 ≤ mLen kb) (C : MP S V) (hb : mB (S 13 0) kb β) : ∃ S' V', P_X13_times_ G F (W.ad (.o 13 0)) (W.ad (.a 13 0 kb)) (Int32.ofNat p) (mem W S) = some (mem W S') ∧ PF S S' ∧ MP S' V' ∧ (∀ k, 8 ≤ k → V' k = V k) ∧ GJ S' V' (mulS (rdB β p 32) (V 8, V 9)) := by
  have hF := X.hF
  obtain ⟨S2, V2, g2, f2, C2, k2, J2⟩ := QM_times7 (G := G) (F := F) (β := β) pr X h hp qb lb_ rb (V0 := V) 256 0 F (S.so 13 0 ((S 13 0).sf 73 1)) V (by omega) (by omega) (C.sf 1) (fun _ _ => rfl) (by rw [so_eq]; exact hb) (by
    show ((S.so 13 0 _) 13 0).f 73 = 1
    rw [so_eq, sf_f, if_pos rfl])
  have g2' : B_X13_times__7 G F F (W.ad (.o 13 0)) (W.ad (.a 13 0 kb)) (Int32.ofNat p) 0 (mem W (S.so 13 0 ((S 13 0).sf 73 1))) = _ := g2
  unfold P_X13_times_
  rw [pfZ_m h.lo rfl (Or.inr rfl), bO_s, g2']
  exact ⟨S2, V2, rfl, (PF_f S 1).trans f2, C2, k2, J2⟩
abbrev MpT : List Cl := [mwC 3, mwC 4, mwC 8, mwC 9, .a 12 1 5]
theorem QM_setPt166 {x : Int} (X : Cx G F W) (h : isM W) (hp : isMp W) : ∀ (q k fuel : Nat) (S : ST) (V : Nat → Int), q < fuel → k + q = 3 → MP S V → ∃ S' V', B_X13_setPoint_166 G F fuel (W.ad (.o 13 0)) (Int32.ofNat k) (mem W S) = some (if (V 3 - q * V 8) % (pP : Int) = (V 9 * V 9) % (pP : Int) then 1 else 0, mem W S') ∧ ifr MpT S S' ∧ MP S' V' ∧ ∀ k, 8 ≤ k → V' k = V k := by
  intro q
  induction q with
  | zero =>
    intro k fuel S V hf hk C
    obtain ⟨fuel, rfl⟩ : ∃ q, fuel = q + 1 := ⟨fuel - 1, by omega⟩
    obtain rfl : k = 3 := by omega
    obtain ⟨S1, g1, f1, C1⟩ := gm_product (G := G) (F := F) X h hp C 9 9 4 (by decide) (by decide) (by decide)
    have g1' : P_X12_product G F (W.ad (.o 12 1)) (W.ad (.a 13 0 69)) (W.ad (.a 13 0 69)) (W.ad (.a 13 0 75)) (mem W S) = some (mem W S1) := g1
    have od := Q12_order (G := G) (F := F) (S := S1) X hp.d (mcl_ok h 3 (by decide)) (mcl_ok h 4 (by decide)) (by omega) (by omega) (by omega) C1.1.b.1 (C1.2 3 (by decide)) (C1.2 4 (by decide))
    have od' : P_X12_order G F (W.ad (.o 12 1)) (W.ad (.a 13 0 74)) (W.ad (.a 13 0 75)) (mem W S1) = _ := od
    have e3 : iu V 4 (V 9 * V 9) 3 = V 3 := by simp [iu]
    have e4 : iu V 4 (V 9 * V 9) 4 = V 9 * V 9 := by simp [iu]
    rw [B_X13_setPoint_166, if_pos (by decide), hp.g58, bO_s, h.gR 69 rfl (by decide), bO_s, bO_s, h.gR 75 rfl (by decide), bO_s, rcv_m hp.d.1, bO_s, g1', bO_s, hp.g58, bO_s, h.gR 74 rfl (by decide), bO_s, h.gR 75 rfl (by decide), bO_s, rcv_m hp.d.1, bO_s, od', bP_s, e3, e4]
    refine ⟨S1, _, ?_, f1.mono (by simp), C1, fun k hk => by unfold iu; rw [if_neg (by omega)]⟩
    have e0 : V 3 - ((0 : Nat) : Int) * V 8 = V 3 := by simp
    rw [e0]
    have iff := ordF_neg (a := mf 8 pP (V 3)) (b := mf 8 pP (V 9 * V 9))
    by_cases c : V 3 % (pP : Int) = (V 9 * V 9) % (pP : Int)
    · rw [if_pos (iff.2.2.2.mpr ((mf_inj pP_1 pP_2 _ _).mpr c)), if_pos c, retZ1]
    · rw [if_neg (fun q => c ((mf_inj pP_1 pP_2 _ _).mp (iff.2.2.2.mp q))), if_neg c, retZ0]
  | succ q ih =>
    intro k fuel S V hf hk C
    obtain ⟨fuel, rfl⟩ : ∃ q, fuel = q + 1 := ⟨fuel - 1, by omega⟩
    obtain ⟨S1, g1, f1, C1⟩ := gm_subtract (G := G) (F := F) X h hp C 3 8 3 (by decide) (by decide) (by decide)
    have g1' : P_X12_subtract G F (W.ad (.o 12 1)) (W.ad (.a 13 0 74)) (W.ad (.a 13 0 68)) (W.ad (.a 13 0 74)) (mem W S) = some (mem W S1) := g1
    rw [B_X13_setPoint_166, if_neg (by rw [lit 3]; exact fun q => absurd ((n_le (by omega) (by omega)).mp q) (by omega)), hp.g58, bO_s, h.gR 74 rfl (by decide), bO_s, h.gR 68 rfl (by decide), bO_s, bO_s, rcv_m hp.d.1, bO_s, g1', bO_s, n_addL k 1]
    obtain ⟨S2, V2, g2, f2, C2, k2⟩ := ih (k + 1) fuel S1 _ (by omega) (by omega) C1
    have e3 : iu V 3 (V 3 - V 8) 3 = V 3 - V 8 := by simp [iu]
    have e8 : iu V 3 (V 3 - V 8) 8 = V 8 := by simp [iu]
    have e9 : iu V 3 (V 3 - V 8) 9 = V 9 := by simp [iu]
    rw [e3, e8, e9] at g2
    refine ⟨S2, V2, ?_, (f1.mono (by simp)).trans f2, C2, fun k hk => (k2 k hk).trans (by unfold iu; rw [if_neg (by omega)])⟩
    have ee : V 3 - V 8 - (q : Int) * V 8 = V 3 - ((q + 1 : Nat) : Int) * V 8 := by
      rw [Int.natCast_add, Int.add_mul]
      have : ((1 : Nat) : Int) * V 8 = V 8 := Int.one_mul _
      omega
    rw [ee] at g2
    exact g2
abbrev MpM : List Cl := [mwC 0, mwC 1, mwC 2, mwC 3, mwC 4, mwC 5, mwC 6, mwC 7, mwC 8, mwC 9, .a 12 1 5]
theorem PF_j {S S' : ST} (h : ifr MpM S S') : PF S S' := ⟨h.fr (by simp [ow, mwC]), (h.agr (as := [68, 69, 70, 71, 72, 74, 75, 76, 77, 78]) (by simp [mwC])).mono (by simp) (by simp) (by simp) (by simp)⟩
theorem MPq.put {S' : ST} {L : List Cl} (Q : MPq S) (f : ifr L S S') (hL : ∀ x ∈ L, x = mwC 8 ∨ x = mwC 9) : MPq S' := by
  obtain ⟨V, m, g, b⟩ := Q
  have n12 : ∀ j, (.a 12 1 j : Cl) ∉ L := fun j q => by
    rcases hL _ q with e | e
    · exact mcl_no 8 (by decide) 1 j e.symm
    · exact mcl_no 9 (by decide) 1 j e.symm
  refine ⟨V, m.ifr f (n12 0) (n12 3) (n12 4), fun k hk k8 k9 => ?_, b⟩
  unfold GV
  rw [f.2 _ (fun q => by
    rcases hL _ q with e | e
    · exact k8 (mcl_inj k hk 8 (by decide) e)
    · exact k9 (mcl_inj k hk 9 (by decide) e))]
  exact g k hk k8 k9
theorem QM_setPointI {kb p : Nat} {β : Nat → UInt8} (X : Cx G F W) (h : isM W) (hp : isMp W) (qb : (kdA 13)[kb]? = some 1) (lb_ : mLen kb < 2 ^ 30) (rb : p + 64 ≤ mLen kb) (Q : MPq S) (hb : mB (S 13 0) kb β) : ∃ S', P_X13_setPoint G F (W.ad (.o 13 0)) (W.ad (.a 13 0 kb)) (Int32.ofNat p) (mem W S) = some (if onC (beN (rdB β p 32)) (beN (rdB β (p + 32) 32)) = true then 1 else 0, mem W S') ∧ ifr MpT S S' ∧ MPq S' ∧ (onC (beN (rdB β p 32)) (beN (rdB β (p + 32) 32)) = true → ∃ V', MP S' V' ∧ V' 8 = ((beN (rdB β p 32) : Nat) : Int) ∧ V' 9 = ((beN (rdB β (p + 32) 32) : Nat) : Int) ∧ V' 10 = bP_) := by
  have hF := X.hF
  have o8 : iok W (.a 13 0 68) 34 := mcl_ok h 8 (by decide)
  have o9 : iok W (.a 13 0 69) 34 := mcl_ok h 9 (by decide)
  have nk : kb ∉ [68, 69] := by
    intro q
    simp at q
    rcases q with rfl | rfl <;> exact absurd qb (by decide)
  have h1p := Q
  obtain ⟨V, m0, gv0, vb⟩ := h1p
  obtain ⟨S1, g1, f1, v1⟩ := Q12_load (G := G) (F := F) (S := S) (n := 8) (p := p) (size := 32) X h hp.d qb lb_ o8 (by omega) (by omega) (by omega) (by omega) (by simp; intro e; exact nk (by simp [e])) m0.b.1 hb
  have b1 : mB (S1 13 0) kb β := f1.mB hb (by simp; intro e; exact nk (by simp [e]))
  have Q1 := Q.put f1 (by simp [mwC])
  obtain ⟨V1, m1, gv1, vb1⟩ := id Q1
  obtain ⟨S2, g2, f2, v2⟩ := Q12_load (G := G) (F := F) (S := S1) (n := 8) (p := p + 32) (size := 32) X h hp.d qb lb_ o9 (by omega) (by omega) (by omega) (by omega) (by simp; intro e; exact nk (by simp [e])) m1.b.1 b1
  have Q2 := Q1.put f2 (by simp [mwC])
  obtain ⟨V2, m2, gv2, vb2⟩ := id Q2
  have v12 : IV (igt S2 (.a 13 0 68)) 8 (beN (rdB β p 32)) := by rw [f2.2 _ (by simp)]; exact v1
  obtain ⟨x, hx⟩ : ∃ x, x = beN (rdB β p 32) := ⟨_, rfl⟩
  obtain ⟨y, hy⟩ : ∃ y, y = beN (rdB β (p + 32) 32) := ⟨_, rfl⟩
  rw [← hx] at v12
  rw [← hy] at v2
  rw [← hx, ← hy]
  have F2 : ifr MpT S S2 := (f1.mono (by simp [mwC])).trans (f2.mono (by simp [mwC]))
  have od1 := Q12_order (G := G) (F := F) (S := S2) X hp.d o8 hp.d.l0 (by omega) (by omega) (by omega) m2.b.1 v12 m2.b.2.2.2.1
  have od2 := Q12_order (G := G) (F := F) (S := S2) X hp.d o9 hp.d.l0 (by omega) (by omega) (by omega) m2.b.1 v2 m2.b.2.2.2.1
  have g0 : gfR (mem W S2) (W.ad (.o 12 1)) 12 0 = some (W.ad (.a 12 1 0)) := hp.d.gR (by omega)
  have g1' : P_X12_load G F (W.ad (.o 12 1)) (W.ad (.a 13 0 kb)) (Int32.ofNat p) 32 (W.ad (.a 13 0 68)) (mem W S) = some (mem W S1) := g1
  have g2' : P_X12_load G F (W.ad (.o 12 1)) (W.ad (.a 13 0 kb)) (Int32.ofNat (p + 32)) 32 (W.ad (.a 13 0 69)) (mem W S1) = some (mem W S2) := g2
  unfold P_X13_setPoint
  rw [hp.g58, bO_s, h.gR 68 rfl (by decide), bO_s, rcv_m hp.d.1, bO_s, g1', bO_s, hp.g58, bO_s, h.gR 69 rfl (by decide), bO_s, rcv_m hp.d.1, bO_s, n_addL p 32, g2', bO_s, hp.g58, bO_s, h.gR 68 rfl (by decide), bO_s, bO_s, g0, bO_s, rcv_m hp.d.1, bO_s, od1, bP_s]
  by_cases q1 : pP ≤ x
  · have no : onC x y = false := decide_eq_false (by omega)
    rw [if_pos (ordF_neg.2.1.mpr q1), retZ0, no]
    exact ⟨S2, rfl, F2, Q2, fun q => absurd q (by decide)⟩
  rw [if_neg (fun q => q1 (ordF_neg.2.1.mp q)), hp.g58, bO_s, h.gR 69 rfl (by decide), bO_s, bO_s, g0, bO_s, rcv_m hp.d.1, bO_s, od2, bP_s]
  by_cases q2 : y < pP
  · rw [if_pos (ordF_neg.1.mpr q2)]
    obtain ⟨S3, g3, f3, v3, m3⟩ := Q12_into (G := G) (F := F) (S := S2) X hp.d m2 o8 (by omega) o8 (by omega) (by simp [ow]) (by simp [ow]) v12
    obtain ⟨S4, g4, f4, v4, m4⟩ := Q12_into (G := G) (F := F) (S := S3) X hp.d m3 o9 (by omega) o9 (by omega) (by simp [ow]) (by simp [ow]) (by rw [f3.2 _ (by simp)]; exact v2)
    rw [mf_lead pP_1] at v3 v4
    have C4 : MP S4 (iu (iu V2 8 (x : Int)) 9 (y : Int)) := by
      refine ⟨m4, fun k hk => ?_⟩
      unfold GV iu
      by_cases c9 : k = 9
      · rw [if_pos c9, c9]; exact v4
      · rw [if_neg c9]
        by_cases c8 : k = 8
        · rw [if_pos c8, c8]
          show IV (igt S4 (.a 13 0 68)) 8 _
          rw [f4.2 _ (by simp)]
          exact v3
        · rw [if_neg c8]
          have n8 : mwC k ≠ .a 13 0 68 := fun e => c8 (mcl_inj k hk 8 (by decide) e)
          have n9 : mwC k ≠ .a 13 0 69 := fun e => c9 (mcl_inj k hk 9 (by decide) e)
          rw [f4.2 _ (by simp; exact ⟨n9, mcl_no k hk 1 5⟩), f3.2 _ (by simp; exact ⟨n8, mcl_no k hk 1 5⟩)]
          exact gv2 k hk c8 c9
    obtain ⟨U4, hU4⟩ : ∃ U, U = iu (iu V2 8 (x : Int)) 9 (y : Int) := ⟨_, rfl⟩
    rw [← hU4] at C4
    obtain ⟨S5, g5, f5, C5⟩ := gm_product (G := G) (F := F) X h hp C4 8 8 3 (by decide) (by decide) (by decide)
    have g5' : P_X12_product G F (W.ad (.o 12 1)) (W.ad (.a 13 0 68)) (W.ad (.a 13 0 68)) (W.ad (.a 13 0 74)) (mem W S4) = some (mem W S5) := g5
    obtain ⟨U5, hU5⟩ : ∃ U, U = iu U4 3 (U4 8 * U4 8) := ⟨_, rfl⟩
    rw [← hU5] at C5
    obtain ⟨S6, g6, f6, C6⟩ := gm_product (G := G) (F := F) X h hp C5 3 8 3 (by decide) (by decide) (by decide)
    have g6' : P_X12_product G F (W.ad (.o 12 1)) (W.ad (.a 13 0 74)) (W.ad (.a 13 0 68)) (W.ad (.a 13 0 74)) (mem W S5) = some (mem W S6) := g6
    obtain ⟨U6, hU6⟩ : ∃ U, U = iu U5 3 (U5 3 * U5 8) := ⟨_, rfl⟩
    rw [← hU6] at C6
    obtain ⟨S7, g7, f7, C7⟩ := gm_add (G := G) (F := F) X h hp C6 3 10 3 (by decide) (by decide) (by decide)
    have g7' : P_X12_add G F (W.ad (.o 12 1)) (W.ad (.a 13 0 74)) (W.ad (.a 13 0 66)) (W.ad (.a 13 0 74)) (mem W S6) = some (mem W S7) := g7
    obtain ⟨U7, hU7⟩ : ∃ U, U = iu U6 3 (U6 3 + U6 10) := ⟨_, rfl⟩
    rw [← hU7] at C7
    obtain ⟨S8, V8, g8, f8, C8, k8⟩ := QM_setPt166 (G := G) (F := F) (x := 0) X h hp 3 0 F S7 U7 (by omega) (by omega) C7
    have g8' : B_X13_setPoint_166 G F F (W.ad (.o 13 0)) 0 (mem W S7) = _ := g8
    have e3 : U7 3 = (x : Int) * x * x + bP_ := by
      simp only [hU7, hU6, hU5, hU4, iu]
      simp [vb2]
    have e8 : U7 8 = (x : Int) := by simp only [hU7, hU6, hU5, hU4, iu]; simp
    have e9 : U7 9 = (y : Int) := by simp only [hU7, hU6, hU5, hU4, iu]; simp
    have e10 : U7 10 = bP_ := by simp only [hU7, hU6, hU5, hU4, iu]; simp [vb2]
    have F8 : ifr MpT S S8 := (((((F2.trans (f3.mono (by simp [mwC]))).trans (f4.mono (by simp [mwC]))).trans (f5.mono (by simp))).trans (f6.mono (by simp))).trans (f7.mono (by simp))).trans f8
    rw [e3, e8, e9] at g8'
    rw [hp.g58, bO_s, h.gR 68 rfl (by decide), bO_s, bO_s, rcv_m hp.d.1, bO_s, g3, bO_s, hp.g58, bO_s, h.gR 69 rfl (by decide), bO_s, bO_s, rcv_m hp.d.1, bO_s, g4, bO_s, hp.g58, bO_s, h.gR 68 rfl (by decide), bO_s, bO_s, h.gR 74 rfl (by decide), bO_s, rcv_m hp.d.1, bO_s, g5', bO_s, hp.g58, bO_s, h.gR 74 rfl (by decide), bO_s, h.gR 68 rfl (by decide), bO_s, bO_s, rcv_m hp.d.1, bO_s, g6', bO_s, hp.g58, bO_s, h.gR 74 rfl (by decide), bO_s, h.gR 66 rfl (by decide), bO_s, bO_s, rcv_m hp.d.1, bO_s, g7', bO_s, g8']
    have vb8 : V8 10 = bP_ := (k8 10 (by omega)).trans e10
    refine ⟨S8, ?_, F8, C8.q vb8, fun _ => ⟨V8, C8, (k8 8 (by omega)).trans e8, (k8 9 (by omega)).trans e9, vb8⟩⟩
    have ee : (x : Int) * x * x + bP_ - ((3 : Nat) : Int) * x = (x : Int) * x * x - x - x - x + bP_ := by omega
    rw [ee]
    unfold onC
    by_cases q3 : ((x : Int) * x * x - x - x - x + bP_) % (pP : Int) = ((y : Int) * y) % (pP : Int)
    · rw [if_pos q3, decide_eq_true ⟨by omega, q2, q3⟩, if_pos rfl]
    · rw [if_neg q3, decide_eq_false (fun q => q3 q.2.2), if_neg (by decide)]
  · have no : onC x y = false := decide_eq_false (by omega)
    rw [if_neg (fun q => q2 (ordF_neg.1.mp q)), retZ0, no]
    exact ⟨S2, rfl, F2, Q2, fun q => absurd q (by decide)⟩
theorem QM_setPoint {kb p : Nat} {β : Nat → UInt8} (X : Cx G F W) (h : isM W) (hp : isMp W) (qb : (kdA 13)[kb]? = some 1) (lb_ : mLen kb < 2 ^ 30) (rb : p + 64 ≤ mLen kb) (Q : MPq S) (hb : mB (S 13 0) kb β) : ∃ S', P_X13_setPoint G F (W.ad (.o 13 0)) (W.ad (.a 13 0 kb)) (Int32.ofNat p) (mem W S) = some (if onC (beN (rdB β p 32)) (beN (rdB β (p + 32) 32)) = true then 1 else 0, mem W S') ∧ PF S S' ∧ MPq S' ∧ (onC (beN (rdB β p 32)) (beN (rdB β (p + 32) 32)) = true → ∃ V', MP S' V' ∧ V' 8 = ((beN (rdB β p 32) : Nat) : Int) ∧ V' 9 = ((beN (rdB β (p + 32) 32) : Nat) : Int) ∧ V' 10 = bP_) := by
  obtain ⟨S', a, f, q, r⟩ := QM_setPointI (G := G) (F := F) X h hp qb lb_ rb Q hb
  exact ⟨S', a, PF_j (f.mono (by simp)), q, r⟩
/-- a point is set beside a sum -/
theorem QM_setPointJ {kb p : Nat} {β : Nat → UInt8} {V : Nat → Int} {s : JP} (X : Cx G F W) (h : isM W) (hp : isMp W) (qb : (kdA 13)[kb]? = some 1) (lb_ : mLen kb < 2 ^ 30) (rb : p + 64 ≤ mLen kb) (C : MP S V) (J : GJ S V s) (vb : V 10 = bP_) (hb : mB (S 13 0) kb β) (ho : onC (beN (rdB β p 32)) (beN (rdB β (p + 32) 32)) = true) : ∃ S' V', P_X13_setPoint G F (W.ad (.o 13 0)) (W.ad (.a 13 0 kb)) (Int32.ofNat p) (mem W S) = some (1, mem W S') ∧ PF S S' ∧ MP S' V' ∧ GJ S' V' s ∧ V' 8 = ((beN (rdB β p 32) : Nat) : Int) ∧ V' 9 = ((beN (rdB β (p + 32) 32) : Nat) : Int) ∧ V' 10 = bP_ := by
  obtain ⟨S', a, f, q, r⟩ := QM_setPointI (G := G) (F := F) X h hp qb lb_ rb (C.q vb) hb
  obtain ⟨V', C', v8, v9, v10⟩ := r ho
  rw [if_pos ho] at a
  refine ⟨S', fun k => if k < 3 then V k else V' k, a, PF_j (f.mono (by simp)), ⟨C'.1, fun k hk => ?_⟩, ?_, v8, v9, v10⟩
  · show GV S' (mwC k) (if k < 3 then V k else V' k)
    by_cases c : k < 3
    · rw [if_pos c]
      unfold GV
      rw [f.2 _ (by
        have : k = 0 ∨ k = 1 ∨ k = 2 := by omega
        rcases this with rfl | rfl | rfl <;> simp [mwC])]
      exact C.2 k hk
    · rw [if_neg c]
      exact C'.2 k hk
  · have e73 : (S' 13 0).f 73 = (S 13 0).f 73 := congrFun (f.1 13 0).1 73
    match s, J with
    | none, J => exact e73.trans J
    | some (x, y, z), J => exact ⟨e73.trans J.1, J.2.1, J.2.2.1, J.2.2.2.1, J.2.2.2.2⟩
theorem QM_lessTwo {k : Nat} {β β67 : Nat → UInt8} (X : Cx G F W) (h : isM W) (q : (kdA 13)[k]? = some 1) (hk : k ≠ 67) (hl : mLen k < 2 ^ 30) (hr : 32 ≤ mLen k) (hb : mB (S 13 0) k β) (h67 : mB (S 13 0) 67 β67) : ∃ β', P_X13_setLessTwo G F (W.ad (.o 13 0)) (W.ad (.a 13 0 k)) (mem W S) = some (mem W (S.so 13 0 ((S 13 0).sA 67 (fun j => sb (β' j))))) ∧ rdB β' 0 32 = (rdB β 0 32).set 31 ((β 31) - 2) := by
  have m1 := QM_move (S := S) (G := G) (F := F) (k1 := k) (k2 := 67) (p1 := 0) (p2 := 0) (cnt := 32) X h q rfl hk hl (by decide) (by omega) (by decide) (by decide) hb h67
  have m1' : P_X13_move G F (W.ad (.a 13 0 k)) 0 (W.ad (.a 13 0 67)) 0 32 (mem W S) = _ := m1
  obtain ⟨γ, hγ⟩ : ∃ γ, γ = wrB β67 0 (rdB β 0 32) := ⟨_, rfl⟩
  rw [← hγ] at m1'
  have er : rdB γ 0 32 = rdB β 0 32 := by
    have := rdB_wrB β67 0 (rdB β 0 32)
    rw [rdB_len] at this
    rw [hγ]
    exact this
  have e31 : γ 31 = β 31 := by
    have h1 := rdB_at (β := γ) (p := 0) (n := 32) (j := 31) (by decide)
    have h2 := rdB_at (β := β) (p := 0) (n := 32) (j := 31) (by decide)
    rw [er, h2] at h1
    exact (Option.some.inj h1).symm
  have a31 : aI G (mem W (S.so 13 0 ((S 13 0).sA 67 (fun j => sb (γ j))))) 1 (W.ad (.a 13 0 67)) 31 = some (sb (γ 31)) := h.aB' (j := 31) rfl (mB_sA _ _ _) (by decide) (by decide)
  have s31 : sI (mem W (S.so 13 0 ((S 13 0).sA 67 (fun j => sb (γ j))))) 1 (W.ad (.a 13 0 67)) 31 (sb (β 31 - 2)) = _ := h.sB' (j := 31) rfl (mB_sA _ _ _) (by decide) (by decide)
  unfold P_X13_setLessTwo
  rw [h.gR 67 rfl (by decide), bO_s, m1', bO_s, h.gR 67 rfl (by decide), bO_s, bO_s, a31, bO_s, e31, sb_m2, s31, bO_s, sA_sA]
  refine ⟨_, rfl, ?_⟩
  have := rdB_up (β := γ) (p := 0) (n := 32) (j := 31) (y := β 31 - 2) (by decide)
  rw [er] at this
  exact this
end MPT
