/-! RSA: the model's maskOn -/
def mskB (β : Nat → UInt8) (seed : List UInt8) (a t : Nat) : Nat → UInt8 := fun j => if a ≤ j ∧ j < a + t then β j ^^^ mkB seed (j - a) else β j
theorem mskB_0 (β : Nat → UInt8) (seed : List UInt8) (a : Nat) : mskB β seed a 0 = β := by
  funext j
  unfold mskB
  rw [if_neg (by omega)]
theorem mskB_s (β : Nat → UInt8) (seed : List UInt8) (a t : Nat) : va_up (mskB β seed a t) (a + t) (β (a + t) ^^^ mkB seed t) = mskB β seed a (t + 1) := by
  funext j
  unfold va_up mskB
  by_cases d : j = a + t
  · rw [if_pos d, if_pos (by omega), d, show a + t - a = t by omega]
  · rw [if_neg d]
    by_cases e : a ≤ j ∧ j < a + t
    · rw [if_pos e, if_pos (by omega)]
    · rw [if_neg e, if_neg (by omega)]
theorem mskB_sd {β : Nat → UInt8} {seed : List UInt8} {sd sn a t : Nat} (hd : sd + sn ≤ a ∨ a + t ≤ sd) : rdB (mskB β seed a t) sd sn = rdB β sd sn := by
  apply List.ext_getElem?
  intro j
  by_cases c : j < sn
  · rw [rdB_at c, rdB_at c]
    unfold mskB
    rw [if_neg (by omega)]
  · rw [List.getElem?_eq_none (by rw [rdB_len]; omega), List.getElem?_eq_none (by rw [rdB_len]; omega)]
theorem c64_t : ∀ c, c < 5 → ((Int32.ofNat c)).toInt64 = Int64.ofNat c := by decide
section MASKM
variable {W : WR} {G : mG} {F : Nat} {S : ST}
theorem QM_mask48 {r3 : Nat → Nat → Int32 → Int32 → Nat → Int32 → Int32 → Int32 → mM → Option mM} {a many c : Nat} {l1 : Nat} {s1 s2 : Int32} {seed : List UInt8} {β δ : Nat → UInt8} (h : isM W) (hx : a + many ≤ 128) (hc : 32 * c < many) (hδ : ∀ t, t < 32 → δ t = (sha false (seed ++ w4 (Int32.ofNat c))).getD t 0) : ∀ (q j fuel : Nat) (o : Ob), q < fuel → j + q = min 32 (many - 32 * c) → mB o 82 (mskB β seed a (32 * c + j)) → mB o 35 δ → ∃ o', B_X13_maskOn_48 G F r3 fuel (W.ad (.o 13 0)) l1 s1 s2 (W.ad (.a 13 0 82)) (Int32.ofNat a) (Int32.ofNat many) (Int32.ofNat c) (Int32.ofNat (32 * c + j)) (mem W (S.so 13 0 o)) = r3 (W.ad (.o 13 0)) l1 s1 s2 (W.ad (.a 13 0 82)) (Int32.ofNat a) (Int32.ofNat many) (Int32.ofNat (c + 1)) (mem W (S.so 13 0 o')) ∧ mB o' 82 (mskB β seed a (min (32 * (c + 1)) many)) ∧ agr [] [] [82] [] o o' := by
  intro q
  induction q with
  | zero =>
    intro j fuel o hf hj b82 b35
    obtain ⟨f, rfl⟩ : ∃ f, fuel = f + 1 := ⟨fuel - 1, by omega⟩
    refine ⟨o, ?_, by rw [show min (32 * (c + 1)) many = 32 * c + j by omega]; exact b82, agr.refl _ _ _ _ _⟩
    rw [B_X13_maskOn_48, n_addL c 1]
    by_cases c1 : many ≤ 32 * c + j
    · rw [if_pos (by rw [n_le (by omega) (by omega)]; exact c1)]
    · rw [if_neg (fun o => by rw [n_le (by omega) (by omega)] at o; omega), if_pos (by rw [show (32 : Int32) * (Int32.ofNat c) = (Int32.ofNat (32 * c)) from n_mul 32 c, n_addL (32 * c) 32, n_le (by omega) (by omega)]; omega)]
  | succ q ih =>
    intro j fuel o hf hj b82 b35
    obtain ⟨f, rfl⟩ : ∃ f, fuel = f + 1 := ⟨fuel - 1, by omega⟩
    have em : (32 : Int32) * (Int32.ofNat c) = (Int32.ofNat (32 * c)) := n_mul 32 c
    have g1 : aI G (mem W (S.so 13 0 o)) 1 (W.ad (.a 13 0 82)) (Int32.ofNat (a + (32 * c + j))) = some (sb (β (a + (32 * c + j)))) := by
      have := h.aB' (G := G) (S := S) (k := 82) (j := a + (32 * c + j)) rfl b82 (by show _ < 128; omega) (by decide)
      rw [this]
      unfold mskB
      rw [if_neg (by omega)]
    have g2 : aI G (mem W (S.so 13 0 o)) 1 (W.ad (.a 13 0 35)) (Int32.ofNat j) = some (sb (mkB seed (32 * c + j))) := by
      have := h.aB' (G := G) (S := S) (k := 35) (j := j) rfl b35 (by show _ < 64; omega) (by decide)
      rw [this, hδ j (by omega)]
      unfold mkB
      rw [show (32 * c + j) / 32 = c by omega, show (32 * c + j) % 32 = j by omega]
    have st := h.sB' (S := S) (o := o) (k := 82) (j := a + (32 * c + j)) (y := β (a + (32 * c + j)) ^^^ mkB seed (32 * c + j)) rfl b82 (by show _ < 128; omega) (by decide)
    rw [mskB_s] at st
    obtain ⟨o', g, b, ag⟩ := ih (j + 1) f (o.sA 82 (fun j' => sb (mskB β seed a (32 * c + j + 1) j'))) (by omega) (by omega) (mB_sA _ _ _) (mB_sA' (by decide) b35)
    refine ⟨o', ?_, b, (agr_sA (by simp)).trans ag⟩
    rw [B_X13_maskOn_48, if_neg (fun o => by rw [n_le (by omega) (by omega)] at o; omega), if_neg (fun o => by rw [em, n_addL (32 * c) 32, n_le (by omega) (by omega)] at o; omega), n_add, g1, bO_s, h.gR 35 rfl (by decide), bO_s, em, n_sub (by omega), show 32 * c + j - 32 * c = j by omega, g2, bO_s, sb_xor, sb_sb, sb_sb, st, bO_s, n_addL (32 * c + j) 1]
    exact g
theorem QM_mask3 {a many sd sn : Nat} {β : Nat → UInt8} (X : Cx G F W) (h : isM W) (hx : a + many ≤ 128) (hsx : sd + sn ≤ 128) (dj : sd + sn ≤ a ∨ a + many ≤ sd) : ∀ (q c fuel : Nat) (o : Ob), q < fuel → c + q = (many + 31) / 32 → mB o 82 (mskB β (rdB β sd sn) a (min (32 * c) many)) → mDig o → ∃ o', B_X13_maskOn_3 G F fuel (W.ad (.o 13 0)) (W.ad (.a 13 0 82)) (Int32.ofNat sd) (Int32.ofNat sn) (W.ad (.a 13 0 82)) (Int32.ofNat a) (Int32.ofNat many) (Int32.ofNat c) (mem W (S.so 13 0 o)) = some (mem W (S.so 13 0 o')) ∧ mB o' 82 (mskB β (rdB β sd sn) a many) ∧ mDig o' ∧ agr [37] [] [36, 31, 32, 35, 82] [33, 34] o o' := by
  have hF := X.hF
  intro q
  induction q with
  | zero =>
    intro c fuel o hf hq b82 hd
    obtain ⟨f, rfl⟩ : ∃ f, fuel = f + 1 := ⟨fuel - 1, by omega⟩
    rw [show min (32 * c) many = many by omega] at b82
    refine ⟨o, ?_, b82, hd, agr.refl _ _ _ _ _⟩
    rw [B_X13_maskOn_3, show (32 : Int32) * (Int32.ofNat c) = (Int32.ofNat (32 * c)) from n_mul 32 c, if_pos (by rw [n_le (by omega) (by omega)]; omega)]
  | succ q ih =>
    intro c fuel o hf hq b82 hd
    obtain ⟨f, rfl⟩ : ∃ f, fuel = f + 1 := ⟨fuel - 1, by omega⟩
    have hc : 32 * c < many := by omega
    have em : (32 : Int32) * (Int32.ofNat c) = (Int32.ofNat (32 * c)) := n_mul 32 c
    obtain ⟨⟨γ, hγ⟩, ⟨μ, hμ⟩, ⟨π, hπ⟩, ν, hν⟩ := id hd
    obtain ⟨e1, e2⟩ := QM_empty (G := G) (F := F) (S := S.so 13 0 o) h (by rw [so_eq]; exact hμ)
    rw [so_so, so_eq] at e1
    rw [so_eq] at e2
    obtain ⟨o1, l1, l2, l3⟩ := QM_lay' (G := G) (F := F) (S := S) (k := 82) (p := sd) (cnt := sn) X h rfl (by decide) (by decide) (by show _ ≤ 128; omega) e2 (by show 0 + _ ≤ _; omega) (show mB (o.sf 37 0) 82 _ from b82)
    rw [List.nil_append, mskB_sd (by omega)] at l2
    have sl : (rdB β sd sn).length = sn := rdB_len _ _ _
    obtain ⟨o2, n1, n2, n3⟩ := QM_layN (G := G) (F := F) (S := S) (n := c) (x := ((Int32.ofNat c)).toInt64) X h l2 (by rw [sl]; omega) (by omega) (c64_t c (by omega))
    have a2 : agr [37] [] [36] [] o o2 := ((agr_sf (by simp)).trans l3).trans n3
    obtain ⟨o3, g3, b3, m3, a3⟩ := QM_digestOf (G := G) (F := F) (S := S.so 13 0 o2) (wide := false) (msg := rdB β sd sn ++ w4 (Int32.ofNat c)) X h (by rw [so_eq]; exact n2) (by rw [so_eq]; exact a2.mB hγ (by decide)) (by rw [List.length_append, sl]; show sn + 4 + 145 ≤ _; omega)
    rw [so_so] at g3
    rw [so_eq] at a3
    have g3' : P_X13_digestOf G F (W.ad (.o 13 0)) 256 (mem W (S.so 13 0 o2)) = some (32, mem W (S.so 13 0 o3)) := g3
    have aa : agr [37] [] [36, 31, 32, 35] [33, 34] o o3 := (a2.mono (by simp) (by simp) (by simp) (by simp)).trans a3
    obtain ⟨o4, g4, b4, a4⟩ := QM_mask48 (G := G) (F := F) (S := S) (r3 := B_X13_maskOn_3 G F f) (l1 := W.ad (.a 13 0 82)) (s1 := (Int32.ofNat sd)) (s2 := (Int32.ofNat sn)) (a := a) (many := many) (c := c) (seed := rdB β sd sn) (β := β) h hx hc (δ := wrB γ 0 (sha false (rdB β sd sn ++ w4 (Int32.ofNat c)))) (fun t ht => by
      unfold wrB
      rw [if_pos ⟨by omega, by rw [sha_len]; show t < 0 + 32; omega⟩, Nat.sub_zero]) (min 32 (many - 32 * c)) 0 F o3 (by omega) (by omega) (by
      rw [show 32 * c + 0 = min (32 * c) many by omega]
      exact aa.mB b82 (by decide)) b3
    have d4 : mDig o4 := by
      obtain ⟨_, _, β', w, _⟩ := m3
      exact a4.mDig ⟨⟨_, b3⟩, ⟨_, w⟩, ⟨π, aa.mB hπ (by decide)⟩, ν, aa.mB hν (by decide)⟩ (by decide)
    obtain ⟨o5, g5, b5, d5, a5⟩ := ih (c + 1) f o4 (by omega) (by omega) b4 d4
    refine ⟨o5, ?_, b5, d5, ((aa.mono (by simp) (by simp) (by simp) (by simp)).trans (a4.mono (by simp) (by simp) (by simp) (by simp))).trans a5⟩
    rw [B_X13_maskOn_3, em, if_neg (fun o => by rw [n_le (by omega) (by omega)] at o; omega), rcv_m h.lo, bO_s, e1, bO_s, rcv_m h.lo, bO_s, l1, bO_s, rcv_m h.lo, bO_s, n1, bO_s, rcv_m h.lo, bO_s, g3', bP_s]
    exact g4.trans g5
theorem QM_maskOn {a many sd sn : Nat} {β : Nat → UInt8} (X : Cx G F W) (h : isM W) (hx : a + many ≤ 128) (hsx : sd + sn ≤ 128) (dj : sd + sn ≤ a ∨ a + many ≤ sd) (b82 : mB (S 13 0) 82 β) (hd : mDig (S 13 0)) : ∃ o', P_X13_maskOn G F (W.ad (.o 13 0)) (W.ad (.a 13 0 82)) (Int32.ofNat sd) (Int32.ofNat sn) (W.ad (.a 13 0 82)) (Int32.ofNat a) (Int32.ofNat many) (mem W S) = some (mem W (S.so 13 0 o')) ∧ mB o' 82 (mskB β (rdB β sd sn) a many) ∧ mDig o' ∧ agr [37] [] [36, 31, 32, 35, 82] [33, 34] (S 13 0) o' := by
  have hF := X.hF
  have := QM_mask3 (G := G) (F := F) (S := S) (β := β) X h hx hsx dj ((many + 31) / 32) 0 F (S 13 0) (by omega) (by omega) (by rw [show min (32 * 0) many = 0 by omega, mskB_0]; exact b82) hd
  rw [so_self] at this
  unfold P_X13_maskOn
  exact this
end MASKM
