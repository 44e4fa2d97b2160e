/-! THE MODEL'S NUMBERS UNDER n -/
def mo : Nat → Nat
  | 0 => 116
  | 1 => 117
  | 2 => 118
  | 3 => 60
  | _ => 61
abbrev cm (k : Nat) : Cl := .a 13 0 (mo k)
abbrev NL : List Nat := [116, 117, 118, 60, 61]
abbrev NF (S S' : ST) : Prop := fr [(12, 2), (13, 0)] S S' ∧ agr [] [] NL [] (S 13 0) (S' 13 0)
abbrev isMn (W : WR) : Prop := W.r 13 0 59 = some (.o 12 2) ∧ isMd W 2
def NS (S : ST) (U : Nat → Nat) : Prop := MdS S 2 8 nP ∧ ∀ k, k < 5 → IV (igt S (cm k)) 8 (U k)
theorem IV_any (f : Nat → Int32) (n : Nat) : ∃ v, IV f n v := by
  refine ⟨vN (fun j => (f j).toUInt32.toNat) n, _, ?_, rfl⟩
  intro j hj
  refine ⟨?_, (f j).toUInt32.toNat_lt⟩
  show f j = Int32.ofNat (f j).toUInt32.toNat
  generalize f j = x
  obtain ⟨⟨b⟩⟩ := x
  show (⟨⟨b⟩⟩ : Int32) = ⟨⟨BitVec.ofNat 32 b.toNat⟩⟩
  rw [BitVec.ofNat_toNat, BitVec.setWidth_eq]
theorem NS.of {S : ST} (h : MdS S 2 8 nP) : ∃ U, NS S U := by
  have e : ∀ k : Nat, ∃ v, IV (igt S (cm k)) 8 v := fun k => IV_any _ _
  obtain ⟨U, hU⟩ := Classical.axiomOfChoice e
  exact ⟨U, h, fun k _ => hU k⟩
theorem NF.refl (S : ST) : NF S S := ⟨fr.refl _ _, agr.refl _ _ _ _ _⟩
theorem NF.trans {S S1 S2 : ST} (h1 : NF S S1) (h2 : NF S1 S2) : NF S S2 := ⟨h1.1.trans h2.1, h1.2.trans h2.2⟩
theorem mo_inj : ∀ i, i < 5 → ∀ k, k < 5 → mo i = mo k → i = k := by decide
theorem mo_nl : ∀ k, k < 5 → mo k ∈ NL := by decide
theorem NS.put {S S' : ST} {U : Nat → Nat} {L : List Cl} {k v : Nat} (h : NS S U) (hk : k < 5) (f : ifr L S S') (hL : ∀ x ∈ L, x = cm k ∨ x = .a 12 2 5 ∨ x = .a 12 2 6 ∨ x = .a 12 2 7 ∨ x = .a 12 2 8) (hv : IV (igt S' (cm k)) 8 v) : NS S' (uu U k v) ∧ NF S S' := by
  have nn : ∀ j, j = 0 ∨ j = 3 ∨ j = 4 → (.a 12 2 j : Cl) ∉ L := by
    intro j hj x
    rcases hL _ x with e | e | e | e | e
    · simp at e
    · simp at e; omega
    · simp at e; omega
    · simp at e; omega
    · simp at e; omega
  refine ⟨⟨h.1.ifr f (nn 0 (by omega)) (nn 3 (by omega)) (nn 4 (by omega)), fun j hj => ?_⟩, f.fr (fun x hx => ?_), f.agr (fun i hi => ?_)⟩
  · unfold uu
    by_cases d : j = k
    · rw [if_pos d, d]; exact hv
    · rw [if_neg d, f.2 _ (fun x => by
        rcases hL _ x with e | e | e | e | e
        · simp at e
          exact d (mo_inj j hj k hk e)
        · simp at e
        · simp at e
        · simp at e
        · simp at e)]
      exact h.2 j hj
  · rcases hL _ hx with e | e | e | e | e <;> rw [e] <;> simp [ow]
  · rcases hL _ hi with e | e | e | e | e
    · simp at e
      rw [e]
      exact mo_nl k hk
    · simp at e
    · simp at e
    · simp at e
    · simp at e
theorem mo_len : ∀ k, k < 5 → 0 < mLen (mo k) ∧ mLen (mo k) < 2 ^ 30 := by decide
theorem mo_34 : ∀ k, k < 5 → mLen (mo k) = 34 := by decide
theorem mo_k0 : ∀ k, k < 5 → (kdA 13)[mo k]? = some 0 := by decide
theorem mo_f2 : ∀ k, k < 5 → (kdF 13)[mo k]? = some 2 := by decide
section MORD
variable {W : WR} {G : mG} {F : Nat} {S : ST} {U : Nat → Nat}
theorem ko_m {W : WR} (h : isM W) {k : Nat} (hk : k < 5) : iok W (cm k) 34 := by
  have := h.iok (mo k) (mo_len k hk) (mo_k0 k hk)
  rw [mo_34 k hk] at this
  exact this
theorem isM.g59 (h : isM W) (hn : isMn W) (S : ST) : gfR (mem W S) (W.ad (.o 13 0)) 13 59 = some (W.ad (.o 12 2)) := gfR_m h.lo rfl hn.1
theorem kb_ne {kb k : Nat} (qb : (kdA 13)[kb]? = some 1) (hk : k < 5) : (.a 13 0 kb : Cl) ≠ cm k := by
  intro e
  simp at e
  rw [e, mo_k0 k hk] at qb
  exact absurd qb (by decide)
theorem no_load {kb p k : Nat} {β : Nat → UInt8} (X : Cx G F W) (h : isM W) (hn : isMn W) (N : NS S U) (hk : k < 5) (qb : (kdA 13)[kb]? = some 1) (lb_ : mLen kb < 2 ^ 30) (hp : p + 32 ≤ mLen kb) (hb : mB (S 13 0) kb β) : ∃ S', P_X12_load G F (W.ad (.o 12 2)) (W.ad (.a 13 0 kb)) (Int32.ofNat p) 32 (W.ad (cm k)) (mem W S) = some (mem W S') ∧ NF S S' ∧ NS S' (uu U k (beN (rdB β p 32))) := by
  obtain ⟨S1, g1, f1, v1⟩ := Q12_load (G := G) (F := F) (n := 8) (p := p) (size := 32) X h hn.2 qb lb_ (ko_m h hk) (by omega) (by omega) hp (by omega) (kb_ne qb hk) N.1.b.1 hb
  obtain ⟨o, f⟩ := N.put hk f1 (by simp) v1
  exact ⟨S1, g1, f, o⟩
theorem no_reduce {kb p k : Nat} {β : Nat → UInt8} (X : Cx G F W) (h : isM W) (hn : isMn W) (N : NS S U) (hk : k < 5) (qb : (kdA 13)[kb]? = some 1) (lb_ : mLen kb < 2 ^ 30) (hp : p + 32 ≤ mLen kb) (hb : mB (S 13 0) kb β) : ∃ S', P_X12_reduce G F (W.ad (.o 12 2)) (W.ad (.a 13 0 kb)) (Int32.ofNat p) 32 (W.ad (cm k)) (mem W S) = some (mem W S') ∧ NF S S' ∧ NS S' (uu U k (beN (rdB β p 32) % nP)) := by
  obtain ⟨S1, g1, f1, v1⟩ := Q12_reduce (G := G) (F := F) (p := p) (size := 32) X h hn.2 qb lb_ (ko_m h hk) (by omega) hp (by omega) (kb_ne qb hk) (by simp) N.1.b hb
  obtain ⟨o, f⟩ := N.put hk f1 (by simp) v1
  exact ⟨S1, g1, f, o⟩
theorem no_into {k : Nat} (X : Cx G F W) (h : isM W) (hn : isMn W) (N : NS S U) (hk : k < 5) : ∃ S', P_X12_into G F (W.ad (.o 12 2)) (W.ad (cm k)) (W.ad (cm k)) (mem W S) = some (mem W S') ∧ NF S S' ∧ NS S' (uu U k (U k * 4294967296 ^ 8 % nP)) := by
  obtain ⟨S1, g1, f1, v1, M1⟩ := Q12_into (G := G) (F := F) X hn.2 N.1 (ko_m h hk) (by omega) (ko_m h hk) (by omega) (by simp [ow]) (by simp [ow]) (N.2 k hk)
  obtain ⟨o, f⟩ := N.put hk f1 (by simp) v1
  exact ⟨S1, g1, f, o⟩
theorem no_out {k : Nat} (X : Cx G F W) (h : isM W) (hn : isMn W) (N : NS S U) (hk : k < 5) : ∃ S', P_X12_outOf G F (W.ad (.o 12 2)) (W.ad (cm k)) (W.ad (cm k)) (mem W S) = some (mem W S') ∧ NF S S' ∧ NS S' (uu U k (U k * 1 * RI 8 nP % nP)) := by
  obtain ⟨S1, g1, f1, v1, M1⟩ := Q12_outOf (G := G) (F := F) X hn.2 N.1 (ko_m h hk) (by omega) (ko_m h hk) (by omega) (by simp [ow]) (by simp [ow]) (N.2 k hk)
  obtain ⟨o, f⟩ := N.put hk f1 (by simp) v1
  exact ⟨S1, g1, f, o⟩
theorem no_product {i j k : Nat} (X : Cx G F W) (h : isM W) (hn : isMn W) (N : NS S U) (hi : i < 5) (hj : j < 5) (hk : k < 5) (hlt : U j < nP) : ∃ S', P_X12_product G F (W.ad (.o 12 2)) (W.ad (cm i)) (W.ad (cm j)) (W.ad (cm k)) (mem W S) = some (mem W S') ∧ NF S S' ∧ NS S' (uu U k (U i * U j * RI 8 nP % nP)) := by
  obtain ⟨S1, g1, f1, v1⟩ := Q12_product (G := G) (F := F) X hn.2 N.1.b N.1.tw (ko_m h hi) (ko_m h hj) (ko_m h hk) (by omega) (by omega) (by omega) (by simp) (by simp) (by simp) (by simp) (N.2 i hi) (N.2 j hj) hlt
  obtain ⟨o, f⟩ := N.put hk f1 (by simp) v1
  exact ⟨S1, g1, f, o⟩
theorem no_add {i j k : Nat} (X : Cx G F W) (h : isM W) (hn : isMn W) (N : NS S U) (hi : i < 5) (hj : j < 5) (hk : k < 5) (hlt : U i + U j < 2 * nP) : ∃ S', P_X12_add G F (W.ad (.o 12 2)) (W.ad (cm i)) (W.ad (cm j)) (W.ad (cm k)) (mem W S) = some (mem W S') ∧ NF S S' ∧ NS S' (uu U k ((U i + U j) % nP)) := by
  obtain ⟨S1, g1, f1, v1⟩ := Q12_add (G := G) (F := F) X hn.2 N.1.b (ko_m h hi) (ko_m h hj) (ko_m h hk) (by omega) (by omega) (by omega) (by simp) (N.2 i hi) (N.2 j hj) hlt
  obtain ⟨o, f⟩ := N.put hk f1 (by simp) v1
  exact ⟨S1, g1, f, o⟩
theorem no_power {k x : Nat} {β : Nat → UInt8} (X : Cx G F W) (h : isM W) (hn : isMn W) (N : NS S U) (hk : k < 5) (hb : mB (S 13 0) 67 β) (hx : U k = x * 4294967296 ^ 8 % nP) : ∃ S', P_X12_power G F (W.ad (.o 12 2)) (W.ad (cm k)) (W.ad (.a 13 0 67)) 0 32 (W.ad (cm k)) (mem W S) = some (mem W S') ∧ NF S S' ∧ NS S' (uu U k (rz x nP (rdB β 0 32) 256 * 4294967296 ^ 8 % nP)) := by
  have hv := N.2 k hk
  rw [hx] at hv
  obtain ⟨S1, g1, f1, M1, v1⟩ := Q12_power (G := G) (F := F) (kb := 67) (p := 0) (size := 32) (x := x) X h hn.2 rfl (by decide) (ko_m h hk) (by omega) (ko_m h hk) (by omega) (by decide) (by omega) (by simp [ow]) (by simp [ow]) N.1 hb hv
  obtain ⟨o, f⟩ := N.put hk f1 (by simp) v1
  exact ⟨S1, g1, f, o⟩
theorem no_zero {k : Nat} (X : Cx G F W) (h : isM W) (hn : isMn W) (N : NS S U) (hk : k < 5) : P_X12_isZero G F (W.ad (.o 12 2)) (W.ad (cm k)) (mem W S) = some (if U k = 0 then 1 else 0, mem W S) := Q12_isZero (G := G) (F := F) X hn.2 (ko_m h hk) (by omega) (by omega) N.1.b.1 (N.2 k hk)
theorem no_order {i j : Nat} (X : Cx G F W) (h : isM W) (hn : isMn W) (N : NS S U) (hi : i < 5) (hj : j < 5) : P_X12_order G F (W.ad (.o 12 2)) (W.ad (cm i)) (W.ad (cm j)) (mem W S) = some (ordF (U i) (U j), mem W S) := Q12_order (G := G) (F := F) X hn.2 (ko_m h hi) (ko_m h hj) (by omega) (by omega) (by omega) N.1.b.1 (N.2 i hi) (N.2 j hj)
theorem no_store {kb p k : Nat} {β : Nat → UInt8} (X : Cx G F W) (h : isM W) (hn : isMn W) (N : NS S U) (hk : k < 5) (qb : (kdA 13)[kb]? = some 1) (lb_ : mLen kb < 2 ^ 30) (hp : p + 32 ≤ mLen kb) (hb : mB (S 13 0) kb β) : ∃ S', P_X12_store G F (W.ad (.o 12 2)) (W.ad (cm k)) (W.ad (.a 13 0 kb)) (Int32.ofNat p) 32 (mem W S) = some (mem W S') ∧ fr [(12, 2), (13, 0)] S S' ∧ agr [] [] [kb] [] (S 13 0) (S' 13 0) ∧ NS S' U ∧ mB (S' 13 0) kb (wrB β p (beV 32 (U k))) := by
  have g := Q12_store (G := G) (F := F) (i := W.ad (.o 12 2)) (p := p) (size := 32) X h qb lb_ (ko_m h hk) (by omega) (by omega) hp (by omega) (kb_ne qb hk).symm (N.2 k hk) hb
  have f : ifr [.a 13 0 kb] S (ist S (.a 13 0 kb) (fun j => sb (wrB β p (beV 32 (U k)) j))) := ifr_ist (by simp)
  refine ⟨_, g, f.fr (by simp [ow]), f.agr (by simp), ⟨N.1.ifr f (by simp) (by simp) (by simp), fun j hj => ?_⟩, mB_ist _ _ _⟩
  rw [f.2 _ (by simp; exact fun e => (kb_ne qb hj) (by rw [← e]))]
  exact N.2 j hj
theorem QM_digestMessage {msg : List UInt8} (X : Cx G F W) (h : isM W) (hd : mDig (S 13 0)) (hm : mMsg (S 13 0) msg) : ∃ o γ, P_X13_digestMessage G F (W.ad (.o 13 0)) (mem W S) = some (mem W (S.so 13 0 o)) ∧ mB o 35 (wrB γ 0 (sha false msg)) ∧ mDig o ∧ agr [37] [] [36, 31, 32, 35] [33, 34] (S 13 0) o := by
  obtain ⟨⟨γ, hγ⟩, ⟨μ, hμ⟩, ⟨π, hπ⟩, ν, hν⟩ := hd
  obtain ⟨m1, m2, β, m3, m4⟩ := hm
  obtain ⟨e1, e2⟩ := QM_empty (G := G) (F := F) (S := S) h hμ
  obtain ⟨o1, l1, l2, l3⟩ := QM_lay' (G := G) (F := F) (S := S) (k := 38) (p := 0) (cnt := msg.length) X h rfl (by decide) (by decide) (by show _ ≤ 25000; omega) e2 (by show 0 + _ ≤ _; omega) (show mB ((S 13 0).sf 37 0) 38 β from m3)
  rw [m4, List.nil_append] at l2
  have l1' : P_X13_lay G F (W.ad (.o 13 0)) (W.ad (.a 13 0 38)) 0 (Int32.ofNat msg.length) (mem W (S.so 13 0 ((S 13 0).sf 37 0))) = _ := l1
  have a1 : agr [37] [] [36] [] (S 13 0) o1 := (agr_sf (by simp)).trans l3
  obtain ⟨o2, g2, b2, mm2, a2⟩ := QM_digestOf (G := G) (F := F) (S := S.so 13 0 o1) (wide := false) (msg := msg) X h (by rw [so_eq]; exact l2) (by rw [so_eq]; exact a1.mB hγ (by decide)) (by omega)
  rw [so_so, so_eq] at *
  have g2' : P_X13_digestOf G F (W.ad (.o 13 0)) 256 (mem W (S.so 13 0 o1)) = some (32, mem W (S.so 13 0 o2)) := g2
  have aa : agr [37] [] [36, 31, 32, 35] [33, 34] (S 13 0) o2 := (a1.mono (by simp) (by simp) (by simp) (by simp)).trans a2
  refine ⟨o2, γ, ?_, b2, ⟨⟨_, b2⟩, ?_, ⟨π, aa.mB hπ (by decide)⟩, ν, aa.mB hν (by decide)⟩, aa⟩
  · unfold P_X13_digestMessage
    have e39 : gfI (mem W (S.so 13 0 ((S 13 0).sf 37 0))) (W.ad (.o 13 0)) 13 39 = some (Int32.ofNat msg.length) := by
      rw [h.gI 39 rfl, so_eq, sf_f, if_neg (by decide), m1]
    rw [rcv_m h.lo, bO_s, e1, bO_s, h.gR 38 rfl (by decide), bO_s, e39, bO_s, rcv_m h.lo, bO_s, l1', bO_s, rcv_m h.lo, bO_s, g2', bP_s]
  · obtain ⟨_, _, β', q, _⟩ := mm2
    exact ⟨β', q⟩
end MORD
