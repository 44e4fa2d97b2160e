/-! POWERS MODULO A NUMBER: the class's and the model's raise, the call power -/
def powF (b e n : List UInt8) : List UInt8 := beV n.length (rz (beN b % beN n) (beN n) e (8 * e.length))
theorem powF_len (b e n : List UInt8) : (powF b e n).length = n.length := beV_len _ _
abbrev isRs (W : WR) : Prop := W.live (.o 8 0) = true ∧ W.r 8 0 0 = some (.o 4 0) ∧ W.r 8 0 1 = some (.o 6 0) ∧ W.r 8 0 2 = some (.a 8 0 2) ∧ lok W (.a 8 0 2) 32 ∧ W.r 8 0 3 = some (.o 0 69) ∧ W.r 8 0 4 = some (.o 0 70) ∧ W.r 8 0 5 = some (.o 0 71) ∧ isB W 69 128 ∧ isB W 70 128 ∧ isB W 71 32 ∧ isMo W 0
abbrev isMm (W : WR) : Prop := W.r 13 0 57 = some (.o 12 0) ∧ W.r 13 0 58 = some (.o 12 1) ∧ W.r 13 0 59 = some (.o 12 2) ∧ isMd W 0 ∧ isMd W 1 ∧ isMd W 2
theorem isM.iok {W : WR} (h : isM W) (k : Nat) (hk : 0 < mLen k ∧ mLen k < 2 ^ 30) (q : (kdA 13)[k]? = some 0) : iok W (.a 13 0 k) (mLen k) := ⟨h.la k hk.1, h.n k hk.1, hk.2, q⟩
theorem ifr.agr {L : List Cl} {S S' : ST} {as : List Nat} (h : ifr L S S') (hs : ∀ k, (.a 13 0 k : Cl) ∈ L → k ∈ as) : agr [] [] as [] (S 13 0) (S' 13 0) := ⟨fun k _ => congrFun (h.1 13 0).1 k, fun k _ => congrFun (h.1 13 0).2.1 k, fun k hk => h.2 (.a 13 0 k) (fun q => hk (hs k q)), fun k _ => congrFun (h.1 13 0).2.2.1 k, (h.1 13 0).2.2.2⟩
theorem sbz : ∀ n, n < 256 → (decide (sb (UInt8.ofNat n) = 0) = decide (n = 0)) ∧ (decide (sb (UInt8.ofNat n) = 1) = decide (n = 1)) ∧ (decide (sb (UInt8.ofNat n) - sb (UInt8.ofNat n) / (2 : Int32) * (2 : Int32) = 0) = decide (n % 2 = 0)) := by decide +kernel
theorem sb_z (y : UInt8) : (sb y = 0 ↔ y.toNat = 0) ∧ (sb y = 1 ↔ y.toNat = 1) ∧ (sb y - sb y / (2 : Int32) * (2 : Int32) = 0 ↔ y.toNat % 2 = 0) := by
  have := sbz y.toNat y.toNat_lt
  rw [UInt8.ofNat_toNat] at this
  exact ⟨decide_eq_decide.mp this.1, decide_eq_decide.mp this.2.1, decide_eq_decide.mp this.2.2⟩
def powC (rows : Nat → List UInt8) (x y z : Int32) : Option (List UInt8) := if isr x && (isr y && (isr z && (decide ((rows x.toNatClampNeg).length ≤ 128) && (decide ((rows y.toNatClampNeg).length ≤ 128) && suitsF (rows z.toNatClampNeg))))) then some (powF (rows x.toNatClampNeg) (rows y.toNatClampNeg) (rows z.toNatClampNeg)) else none
theorem mB_ist (S : ST) (k : Nat) (β : Nat → UInt8) : mB ((ist S (.a 13 0 k) (fun j => sb (β j))) 13 0) k β := by
  show mB ((S.so 13 0 ((S 13 0).sA k (fun j => sb (β j)))) 13 0) k β
  rw [so_eq]
  exact mB_sA _ _ _
section RSA
variable {W : WR} {G : mG} {F : Nat} {S : ST}
theorem isRs.gR (h : isRs W) {k : Nat} {c : Cl} (q : (kdF 8)[k]? = some 2) (hr : W.r 8 0 k = some c) : gfR (mem W S) (W.ad (.o 8 0)) 8 k = some (W.ad c) := gfR_m h.1 q hr
theorem isRs.mo {W : WR} (h : isRs W) : isMo W 0 := h.2.2.2.2.2.2.2.2.2.2.2
theorem Q8_raise {ib ie in_ it rb re rn rt : Nat} {b e n t : List UInt8} {lb le ln lt : Bool} (X : Cx G F W) (h : isRs W) (hb : isB W ib rb) (he : isB W ie re) (hn : isB W in_ rn) (ht : isB W it rt) (n1 : ib ≠ it) (n2 : ie ≠ it) (n3 : in_ ≠ it) (bb : Byt rb (S 0 ib) b lb) (be : Byt re (S 0 ie) e le) (bn : Byt rn (S 0 in_) n ln) (bt : Byt rt (S 0 it) t lt) (hbl : b.length ≤ 1000) (hel : e.length ≤ 10000) (hs : suitsF n = true) (hrt : n.length ≤ rt) : ∃ S', P_X8_raise G F (W.ad (.o 8 0)) (W.ad (.o 0 ib)) (W.ad (.o 0 ie)) (W.ad (.o 0 in_)) (W.ad (.o 0 it)) (mem W S) = some (mem W S') ∧ fr [(6, 0), (8, 0), (0, it)] S S' ∧ Byt rt (S' 0 it) (powF b e n) false := by
  have hm := h.mo
  have l2 : lok W (.a 8 0 2) 32 := h.2.2.2.2.1
  obtain ⟨s1, s2, _⟩ := of_decide_eq_true hs
  obtain ⟨hm1, hm2⟩ := suits_m hs
  obtain ⟨S1, g1, f1, M1⟩ := Q6_become (G := G) (F := F) X hm hn bn hs
  have bb1 : Byt rb (S1 0 ib) b lb := by rw [f1 0 ib (by simp)]; exact bb
  obtain ⟨S2, g2, f2, M2, v2⟩ := Q6_take (G := G) (F := F) (p := 0) (many := b.length) X hm hb l2 (by omega) (by simp [ow]) (by omega) hbl M1 bb1
  have esg : seg b 0 b.length = b := by unfold seg; rw [List.drop_zero, List.take_length]
  rw [esg] at v2
  have g2' : P_X6_take G F (W.ad (.o 6 0)) (W.ad (.o 0 ib)) 0 (Int32.ofNat b.length) (W.ad (.a 8 0 2)) (mem W S1) = some (mem W S2) := g2
  have be2 : Byt re (S2 0 ie) e le := Byt.lfr f2 (by rw [f1 0 ie (by simp)]; exact be)
  obtain ⟨S3, g3, f3, M3, v3⟩ := Q6_raise (G := G) (F := F) X hm he l2 (by omega) l2 (by omega) (by simp [ow]) (by simp [ow]) hel M2 be2 v2
  have bt3 : Byt rt (S3 0 it) t lt := Byt.lfr f3 (Byt.lfr f2 (by rw [f1 0 it (by simp)]; exact bt))
  obtain ⟨o4, g4, b4⟩ := Q0_clear (G := G) (F := F) ht bt3
  have bn3 : Byt rn (S3 0 in_) n ln := Byt.lfr f3 (Byt.lfr f2 (by rw [f1 0 in_ (by simp)]; exact bn))
  have bn4 : Byt rn ((S3.so 0 it o4) 0 in_) n ln := by rw [so_ne (by omega)]; exact bn3
  obtain ⟨o5, g5, b5⟩ := Q6_give (G := G) (F := F) (S := S3.so 0 it o4) (k := n.length) X hm ht l2 M3.b.2.2.1 (by have := M3.b.2.2.1; omega) (by simp [ow]) (by omega) (by rw [so_ne (by omega)]; exact M3.b.1) (by rw [lgt_so (by simp [ow])]; exact v3) (by rw [so_eq]; exact b4)
  rw [so_so] at g5
  unfold P_X8_raise
  rw [h.gR rfl h.2.2.1, bO_s, rcv_m hm.1, bO_s, g1, bO_s, h.gR rfl h.2.2.1, bO_s, hb.gI 1 rfl, bO_s, bb1.many, h.gR rfl h.2.2.2.1, bO_s, rcv_m hm.1, bO_s, g2', bO_s, h.gR rfl h.2.2.1, bO_s, h.gR rfl h.2.2.2.1, bO_s, bO_s, rcv_m hm.1, bO_s, g3, bO_s, rcv_m ht.lo, bO_s, g4, bO_s, h.gR rfl h.2.2.1, bO_s, h.gR rfl h.2.2.2.1, bO_s, hn.gI 1 rfl, bO_s, bn4.many, rcv_m hm.1, bO_s, g5, bO_s]
  refine ⟨_, rfl, ((f1.mono (by simp)).trans ((f2.fr (L' := [(6, 0), (8, 0), (0, it)]) (by simp [ow])).trans (f3.fr (L' := [(6, 0), (8, 0), (0, it)]) (by simp [ow])))).trans (fr_so (by simp)), ?_⟩
  rw [so_eq]
  rw [tkl_fit (by rw [beV_len]; simp; omega), lsl_fit (by rw [beV_len]; simp; omega), List.nil_append] at b5
  exact b5
/-- the model's raise, into big -/
theorem QM_raise {kb pb sb_ ke pe se km pm sm : Nat} {βb βe βm β62 : Nat → UInt8} (X : Cx G F W) (h : isM W) (hmm : isMm W) (qb : (kdA 13)[kb]? = some 1) (qe : (kdA 13)[ke]? = some 1) (qm : (kdA 13)[km]? = some 1) (nb : kb ≠ 62) (ne : ke ≠ 62) (nm : km ≠ 62) (lb_ : mLen kb < 2 ^ 30) (le_ : mLen ke < 2 ^ 30) (lm : mLen km < 2 ^ 30) (rb : pb + sb_ ≤ mLen kb) (re : pe + se ≤ mLen ke) (rm : pm + sm ≤ mLen km) (hsb : sb_ ≤ 1000) (hse : se ≤ 1000) (hb : mB (S 13 0) kb βb) (he : mB (S 13 0) ke βe) (hm : mB (S 13 0) km βm) (h62 : mB (S 13 0) 62 β62) (hs : suitsF (rdB βm pm sm) = true) : ∃ S', P_X13_raise G F (W.ad (.o 13 0)) (W.ad (.a 13 0 kb)) (Int32.ofNat pb) (Int32.ofNat sb_) (W.ad (.a 13 0 ke)) (Int32.ofNat pe) (Int32.ofNat se) (W.ad (.a 13 0 km)) (Int32.ofNat pm) (Int32.ofNat sm) (mem W S) = some (mem W S') ∧ fr [(12, 0), (13, 0)] S S' ∧ agr [] [] [60, 61, 62] [] (S 13 0) (S' 13 0) ∧ mB (S' 13 0) 62 (wrB β62 0 (powF (rdB βb pb sb_) (rdB βe pe se) (rdB βm pm sm))) := by
  obtain ⟨r57, r58, r59, hd, _, _⟩ := hmm
  have g57 : ∀ S : ST, gfR (mem W S) (W.ad (.o 13 0)) 13 57 = some (W.ad (.o 12 0)) := fun S => gfR_m h.lo rfl r57
  have i60 := h.iok 60 (by decide) rfl
  have i61 := h.iok 61 (by decide) rfl
  have x60 : ∀ k, (kdA 13)[k]? = some 1 → (.a 13 0 k : Cl) ≠ .a 13 0 60 := by
    intro k q e
    have : k = 60 := by simpa using e
    rw [this] at q
    exact absurd q (by decide)
  have x61 : ∀ k, (kdA 13)[k]? = some 1 → (.a 13 0 k : Cl) ≠ .a 13 0 61 := by
    intro k q e
    have : k = 61 := by simpa using e
    rw [this] at q
    exact absurd q (by decide)
  obtain ⟨s1, s2, _⟩ := of_decide_eq_true hs
  rw [rdB_len] at s1 s2
  obtain ⟨S1, g1, f1, M1⟩ := Q12_set (G := G) (F := F) (p := pm) (size := sm) X h hd qm lm rm hm hs
  obtain ⟨n, hn⟩ : ∃ n, n = (sm + 3) / 4 := ⟨_, rfl⟩
  rw [← hn] at M1
  obtain ⟨m, hmd⟩ : ∃ m, m = beN (rdB βm pm sm) := ⟨_, rfl⟩
  rw [← hmd] at M1
  have e13 : S1 13 0 = S 13 0 := f1 13 0 (by simp)
  have b1 : mB (S1 13 0) kb βb := by rw [e13]; exact hb
  obtain ⟨S2, g2, f2, v2⟩ := Q12_reduce (G := G) (F := F) (S := S1) (n := n) (m := m) (p := pb) (size := sb_) (to := .a 13 0 60) X h hd qb lb_ i60 (by show n ≤ 34; omega) rb hsb (x60 kb qb) (by simp) M1.b b1
  have M2 := M1.ifr f2 (by simp) (by simp) (by simp)
  obtain ⟨S3, g3, f3, v3, M3⟩ := Q12_into (G := G) (F := F) (S := S2) X hd M2 i60 (by show n ≤ 34; omega) i60 (by show n ≤ 34; omega) (by simp [ow]) (by simp [ow]) v2
  have be3 : mB (S3 13 0) ke βe := f3.mB (f2.mB (by rw [e13]; exact he) (by simpa using x60 ke qe)) (by simp; simpa using x60 ke qe)
  obtain ⟨S4, g4, f4, M4, v4⟩ := Q12_power (G := G) (F := F) (S := S3) (p := pe) (size := se) X h hd qe le_ i60 (by show n ≤ 34; omega) i61 (by show n ≤ 34; omega) re hse (by simp [ow]) (by simp [ow]) M3 be3 v3
  obtain ⟨S5, g5, f5, v5, M5⟩ := Q12_outOf (G := G) (F := F) (S := S4) X hd M4 i61 (by show n ≤ 34; omega) i61 (by show n ≤ 34; omega) (by simp [ow]) (by simp [ow]) v4
  have hm1 := M1.b.2.2.2.2.1
  rw [M_back hm1 M1.b.2.2.2.2.2, Nat.mod_eq_of_lt (rz_lt hm1 _)] at v5
  have b5 : mB (S5 13 0) 62 β62 := f5.mB (f4.mB (f3.mB (f2.mB (by rw [e13]; exact h62) (by simp)) (by simp)) (by simp)) (by simp)
  have g6 := Q12_store (G := G) (F := F) (S := S5) (i := W.ad (.o 12 0)) (p := 0) (size := sm) X h (kb := 62) rfl (by decide) i61 M5.b.2.2.1 (by show n ≤ 34; omega) (by show 0 + sm ≤ 128; omega) (by omega) (by simp) v5 b5
  have g6' : P_X12_store G F (W.ad (.o 12 0)) (W.ad (.a 13 0 61)) (W.ad (.a 13 0 62)) 0 (Int32.ofNat sm) (mem W S5) = _ := g6
  unfold P_X13_raise
  rw [g57, bO_s, rcv_m hd.1, bO_s, g1, bO_s, g57, bO_s, h.gR 60 rfl (by decide), bO_s, rcv_m hd.1, bO_s, g2, bO_s, g57, bO_s, h.gR 60 rfl (by decide), bO_s, bO_s, rcv_m hd.1, bO_s, g3, bO_s, g57, bO_s, h.gR 60 rfl (by decide), bO_s, h.gR 61 rfl (by decide), bO_s, rcv_m hd.1, bO_s, g4, bO_s, g57, bO_s, h.gR 61 rfl (by decide), bO_s, bO_s, rcv_m hd.1, bO_s, g5, bO_s, g57, bO_s, h.gR 61 rfl (by decide), bO_s, h.gR 62 rfl (by decide), bO_s, rcv_m hd.1, bO_s, g6', bO_s]
  have fA : ∀ {L : List Cl} {Sa Sb : ST}, ifr L Sa Sb → (∀ x ∈ L, ow x ∈ [(12, 0), (13, 0)]) → fr [(12, 0), (13, 0)] Sa Sb := fun f ho => f.fr ho
  have f6 : ifr [.a 13 0 62] S5 (ist S5 (.a 13 0 62) (fun j => sb (wrB β62 0 (beV sm (rz (beN (rdB βb pb sb_) % m) m (rdB βe pe se) (8 * se))) j))) := ifr_ist (by simp)
  refine ⟨_, rfl, (f1.mono (by simp)).trans ((fA f2 (by simp [ow])).trans ((fA f3 (by simp [ow])).trans ((fA f4 (by simp [ow])).trans ((fA f5 (by simp [ow])).trans (fA f6 (by simp [ow])))))), ?_, ?_⟩
  · rw [← e13]
    exact ((((f2.agr (by simp)).trans (f3.agr (by simp))).trans (f4.agr (by simp))).trans (f5.agr (by simp))).trans (f6.agr (by simp))
  · have := mB_ist S5 62 (wrB β62 0 (beV sm (rz (beN (rdB βb pb sb_) % m) m (rdB βe pe se) (8 * se))))
    unfold powF
    rw [rdB_len, rdB_len, ← hmd]
    exact this
end RSA
