/-! THE CLASS'S CURVE: numbers under n; isPair -/
abbrev OL : List Cl := [wc 3, wc 4, wc 5, .a 6 2 5, .a 6 2 6, .a 6 2 7]
def uu (U : Nat → Nat) (k v : Nat) : Nat → Nat := fun j => if j = k then v else U j
/-- the three cells t hold U, the point loaded is q -/
def OC (S : ST) (U : Nat → Nat) (q : Int × Int) : Prop := ∃ V, CK S V ∧ V 11 = q.1 ∧ V 12 = q.2 ∧ ∀ k, k < 3 → LV (lgt S (wc (3 + k))) 8 (U k)
theorem OC.of {S : ST} {V : Nat → Int} (K : CK S V) : ∃ U, OC S U (V 11, V 12) := ⟨fun k => mf 8 pP (V (3 + k)), V, K, rfl, rfl, fun k hk => K.c.2 (3 + k) (by omega)⟩
theorem OC.n {S : ST} {U : Nat → Nat} {q : Int × Int} (h : OC S U q) : MoS S 2 8 nP := by
  obtain ⟨V, K, _⟩ := h
  exact K.n
theorem OC.fr {S S' : ST} {U : Nat → Nat} {q : Int × Int} {L : List (Nat × Nat)} (h : OC S U q) (f : fr L S S') (hL : ∀ x ∈ [(3, 0), (6, 1), (6, 2), (0, 72), (0, 73), (0, 74), (0, 75), (0, 79)], x ∉ L) : OC S' U q := by
  obtain ⟨V, K, a, b, c⟩ := h
  refine ⟨V, K.fr f hL, a, b, fun k hk => ?_⟩
  have e := f 3 0 (hL _ (by simp))
  have : k = 0 ∨ k = 1 ∨ k = 2 := by omega
  have c := c k hk
  rcases this with rfl | rfl | rfl
  · rw [show lgt S' (wc (3 + 0)) = lgt S (wc (3 + 0)) by show (S' 3 0).m 11 0 = (S 3 0).m 11 0; rw [e]]; exact c
  · rw [show lgt S' (wc (3 + 1)) = lgt S (wc (3 + 1)) by show (S' 3 0).m 11 1 = (S 3 0).m 11 1; rw [e]]; exact c
  · rw [show lgt S' (wc (3 + 2)) = lgt S (wc (3 + 2)) by show (S' 3 0).m 11 2 = (S 3 0).m 11 2; rw [e]]; exact c
theorem wc_mem {k : Nat} (hk : k < 3) : wc (3 + k) ∈ OL := by
  have : k = 0 ∨ k = 1 ∨ k = 2 := by omega
  rcases this with rfl | rfl | rfl <;> simp
theorem wc_nin {j k : Nat} (hj : j < 3) (hk : k < 3) (hn : j ≠ k) (L : List Cl) (hL : ∀ x ∈ L, x = wc (3 + k) ∨ ow x = (6, 2)) : wc (3 + j) ∉ L := by
  intro q
  rcases hL _ q with e | e
  · have := wc_inj (3 + j) (by omega) (3 + k) (by omega) e
    omega
  · rw [wc_ow (3 + j) (by omega)] at e
    exact absurd e (by decide)
/-- one cell is set -/
theorem OC.put {S S' : ST} {U : Nat → Nat} {q : Int × Int} {L : List Cl} {k v : Nat} (h : OC S U q) (hk : k < 3) (f : lfr L S S') (hL : ∀ x ∈ L, x = wc (3 + k) ∨ x = .a 6 2 5 ∨ x = .a 6 2 6 ∨ x = .a 6 2 7) (hv : LV (lgt S' (wc (3 + k))) 8 v) (hp : v < nP) : OC S' (uu U k v) q ∧ lfr OL S S' := by
  obtain ⟨V, K, a, b, c⟩ := h
  have hL2 : ∀ x ∈ L, x = wc (3 + k) ∨ ow x = (6, 2) := fun x hx => by
    rcases hL x hx with e | e | e | e
    · exact Or.inl e
    · right; rw [e]; rfl
    · right; rw [e]; rfl
    · right; rw [e]; rfl
  obtain ⟨A, hA, C1⟩ := K.c.put1 (k := 3 + k) (by omega) f (fun x hx => by
    rcases hL2 x hx with e | e
    · exact Or.inl e
    · exact Or.inr (Or.inr (Or.inr (Or.inr e)))) hv (Nat.lt_trans hp nP_pP)
  have nn : ∀ j, j = 2 ∨ j = 3 ∨ j = 4 → (.a 6 2 j : Cl) ∉ L := by
    intro j hj x
    rcases hL _ x with e | e | e | e
    · exact wc_no (3 + k) (by omega) 2 j e.symm
    · simp at e; omega
    · simp at e; omega
    · simp at e; omega
  have iue : ∀ j, j ≠ 3 + k → iu V (3 + k) A j = V j := fun j hj => by unfold iu; rw [if_neg hj]
  refine ⟨⟨iu V (3 + k) A, K.keep f nn C1 (fun j hj _ _ => iue j (by omega)), (iue 11 (by omega)).trans a, (iue 12 (by omega)).trans b, fun j hj => ?_⟩, f.mono fun x hx => ?_⟩
  · unfold uu
    by_cases d : j = k
    · rw [if_pos d, d]; exact hv
    · rw [if_neg d, f.2 _ (wc_nin hj hk d L hL2)]
      exact c j hj
  · rcases hL x hx with e | e | e | e
    · rw [e]; exact wc_mem hk
    · rw [e]; simp
    · rw [e]; simp
    · rw [e]; simp
section ORD
variable {W : WR} {G : mG} {F : Nat} {S : ST} {V : Nat → Int} {U : Nat → Nat} {q : Int × Int}
theorem n_pos : 0 < nP := by have := nP_1; omega
theorem ow_t {k : Nat} (hk : k < 3) (i : Nat) : ow (wc (3 + k)) ≠ (6, i) := by
  rw [wc_ow (3 + k) (by omega)]
  simp
theorem ou_take {ib room p k : Nat} {xs : List UInt8} {l : Bool} (X : Cx G F W) (h : isCu W) (O : OC S U q) (hk : k < 3) (hB : isB W ib room) (hb : Byt room (S 0 ib) xs l) (hp : p + 32 ≤ xs.length) : ∃ S', P_X6_take G F (W.ad (.o 6 2)) (W.ad (.o 0 ib)) (Int32.ofNat p) 32 (W.ad (wc (3 + k))) (mem W S) = some (mem W S') ∧ lfr OL S S' ∧ OC S' (uu U k (beN (seg xs p 32) % nP)) q := by
  obtain ⟨S1, g1, f1, M1, v1⟩ := Q6_take (G := G) (F := F) (p := p) (many := 32) X h.mn hB (h.lk (k := 3 + k) (by omega)) (by omega) (ow_t hk 2) hp (by omega) O.n hb
  obtain ⟨o, f⟩ := O.put hk f1 (by simp) v1 (Nat.mod_lt _ n_pos)
  exact ⟨S1, g1, f, o⟩
theorem ou_lead {k : Nat} (X : Cx G F W) (h : isCu W) (O : OC S U q) (hk : k < 3) : ∃ S', P_X6_lead G F (W.ad (.o 6 2)) (W.ad (wc (3 + k))) (mem W S) = some (mem W S') ∧ lfr OL S S' ∧ OC S' (uu U k (U k * 4294967296 ^ 8 % nP)) q := by
  obtain ⟨V, K, a, b, c⟩ := id O
  obtain ⟨S1, g1, f1, v1, M1⟩ := Q6_lead (G := G) (F := F) X h.mn O.n (h.lk (k := 3 + k) (by omega)) (by omega) (ow_t hk 2) (c k hk)
  obtain ⟨o, f⟩ := O.put hk f1 (by simp) v1 (Nat.mod_lt _ n_pos)
  exact ⟨S1, g1, f, o⟩
theorem tc_ne {k : Nat} (hk : k < 3) (j : Nat) : wc (3 + k) ≠ .a 6 2 j := wc_no (3 + k) (by omega) 2 j
theorem ou_times {i j k : Nat} (X : Cx G F W) (h : isCu W) (O : OC S U q) (hi : i < 3) (hj : j < 3) (hk : k < 3) (hlt : U j < nP) : ∃ S', P_X6_times G F (W.ad (.o 6 2)) (W.ad (wc (3 + i))) (W.ad (wc (3 + j))) (W.ad (wc (3 + k))) (mem W S) = some (mem W S') ∧ lfr OL S S' ∧ OC S' (uu U k (U i * U j * RI 8 nP % nP)) q := by
  obtain ⟨V, K, a, b, c⟩ := id O
  obtain ⟨S1, g1, f1, v1⟩ := Q6_times (G := G) (F := F) X h.mn O.n.1 O.n.2.1 (h.lk (k := 3 + i) (by omega)) (h.lk (k := 3 + j) (by omega)) (h.lk (k := 3 + k) (by omega)) (by omega) (by omega) (by omega) (tc_ne hi 7) (tc_ne hj 7) (tc_ne hk 7).symm (tc_ne hk 2).symm (c i hi) (c j hj) hlt
  obtain ⟨o, f⟩ := O.put hk f1 (by simp) v1 (Nat.mod_lt _ n_pos)
  exact ⟨S1, g1, f, o⟩
theorem ou_plus {i j k : Nat} (X : Cx G F W) (h : isCu W) (O : OC S U q) (hi : i < 3) (hj : j < 3) (hk : k < 3) (hlt : U i + U j < 2 * nP) : ∃ S', P_X6_plus G F (W.ad (.o 6 2)) (W.ad (wc (3 + i))) (W.ad (wc (3 + j))) (W.ad (wc (3 + k))) (mem W S) = some (mem W S') ∧ lfr OL S S' ∧ OC S' (uu U k ((U i + U j) % nP)) q := by
  obtain ⟨V, K, a, b, c⟩ := id O
  obtain ⟨S1, g1, f1, v1⟩ := Q6_plus (G := G) (F := F) X h.mn O.n.1 (h.lk (k := 3 + i) (by omega)) (h.lk (k := 3 + j) (by omega)) (h.lk (k := 3 + k) (by omega)) (by omega) (by omega) (by omega) (tc_ne hi 7) (tc_ne hj 7) (tc_ne hk 7).symm (tc_ne hk 2).symm (c i hi) (c j hj) hlt
  obtain ⟨o, f⟩ := O.put hk f1 (by simp) v1 (Nat.mod_lt _ n_pos)
  exact ⟨S1, g1, f, o⟩
theorem ou_raise {k : Nat} (X : Cx G F W) (h : isCu W) (O : OC S U q) (hk : k < 3) : ∃ S', P_X6_raise G F (W.ad (.o 6 2)) (W.ad (wc (3 + k))) (W.ad (.o 0 75)) (W.ad (wc (3 + k))) (mem W S) = some (mem W S') ∧ lfr OL S S' ∧ OC S' (uu U k (rz (U k) nP (beV 32 (nP - 2)) 256)) q := by
  obtain ⟨V, K, a, b, c⟩ := id O
  have b75 : Byt 32 (S 0 75) (beV 32 (nP - 2)) false := K.2.2.2.2.2.2.2.2.2.1
  obtain ⟨S1, g1, f1, M1, v1⟩ := Q6_raise (G := G) (F := F) X h.mn (h.bb 3 (by decide)) (h.lk (k := 3 + k) (by omega)) (by omega) (h.lk (k := 3 + k) (by omega)) (by omega) (ow_t hk 2) (ow_t hk 2) (by rw [beV_len]; decide) O.n b75 (c k hk)
  rw [beV_len] at v1
  obtain ⟨o, f⟩ := O.put hk f1 (by simp) v1 (rz_lt nP_1 _)
  exact ⟨S1, g1, f, o⟩
theorem ou_zero {k : Nat} (X : Cx G F W) (h : isCu W) (O : OC S U q) (hk : k < 3) : P_X6_isZero G F (W.ad (.o 6 2)) (W.ad (wc (3 + k))) (mem W S) = some (if U k = 0 then 1 else 0, mem W S) := by
  obtain ⟨V, K, a, b, c⟩ := id O
  exact Q6_isZero (G := G) (F := F) X h.mn (h.lk (k := 3 + k) (by omega)) (by omega) (by omega) O.n.1.1 (c k hk)
theorem ou_same {i j : Nat} (X : Cx G F W) (h : isCu W) (O : OC S U q) (hi : i < 3) (hj : j < 3) : P_X6_areSame G F (W.ad (.o 6 2)) (W.ad (wc (3 + i))) (W.ad (wc (3 + j))) (mem W S) = some (if U i = U j then 1 else 0, mem W S) := by
  obtain ⟨V, K, a, b, c⟩ := id O
  exact Q6_areSame (G := G) (F := F) X h.mn (h.lk (k := 3 + i) (by omega)) (h.lk (k := 3 + j) (by omega)) (by omega) (by omega) (by omega) O.n.1.1 (c i hi) (c j hj)
theorem ou_give {ib room k : Nat} {xs : List UInt8} {l : Bool} (X : Cx G F W) (h : isCu W) (O : OC S U q) (hk : k < 3) (hB : isB W ib room) (hb : Byt room (S 0 ib) xs l) : ∃ o, P_X6_give G F (W.ad (.o 6 2)) (W.ad (wc (3 + k))) 32 (W.ad (.o 0 ib)) (mem W S) = some (mem W (S.so 0 ib o)) ∧ Byt room o (tkl room xs (beV 32 (U k))) (lsl room xs (beV 32 (U k)) l) := by
  obtain ⟨V, K, a, b, c⟩ := id O
  exact Q6_give (G := G) (F := F) (k := 32) X h.mn hB (h.lk (k := 3 + k) (by omega)) (by omega) (by omega) (by rw [wc_ow (3 + k) (by omega)]; simp) (by omega) O.n.1.1 (c k hk) hb
def pairF (d xy : List UInt8) : Bool := secF (seg d 0 32) && decide ((affS (mulS d bpt)).map ptB = some xy)
theorem Q3_isPair {id_ ix rd rx : Nat} {d xy t : List UInt8} {ld lx l : Bool} (pr : PrP) (X : Cx G F W) (h : isCu W) (K : CK S V) (hD : isB W id_ rd) (hd : Byt rd (S 0 id_) d ld) (hl : 32 ≤ d.length) (hX : isB W ix rx) (hx : Byt rx (S 0 ix) xy lx) (hrx : rx < 90000) (hix : ix ≠ 76) (b76 : Byt 64 (S 0 76) t l) : ∃ S' V', P_X3_isPair G F (W.ad (.o 3 0)) (W.ad (.o 0 id_)) (W.ad (.o 0 ix)) (mem W S) = some (if pairF d xy = true then 1 else 0, mem W S') ∧ fr [(3, 0), (6, 1), (0, 76)] S S' ∧ CK S' V' ∧ ∃ t l, Byt 64 (S' 0 76) t l := by
  have e9 : (V (9 + 2 * 0), V (10 + 2 * 0)) = bpt := by
    show (V 9, V 10) = bpt
    rw [K.2.1, K.2.2.1]
    rfl
  have s0 := Q3_isSecret (G := G) (F := F) (at_ := 0) X h K hD hd (by omega)
  have s0' : P_X3_isSecret G F (W.ad (.o 3 0)) (W.ad (.o 0 id_)) 0 (mem W S) = _ := s0
  unfold P_X3_isPair pairF
  rw [rcv_m h.1, bO_s, s0', bP_s]
  cases c0 : secF (seg d 0 32) with
  | false =>
    rw [if_neg Bool.false_ne_true, if_pos rfl, retZ0]
    exact ⟨S, V, rfl, fr.refl _ _, K, t, l, b76⟩
  | true =>
    rw [if_pos rfl, if_neg (by decide)]
    obtain ⟨S1, V1, g1, f1, C1, k1, J1⟩ := Q3_sumUp (G := G) (F := F) (ms := d) (ns := []) (pk := 0) (qk := 0) pr X h hD h.b15 (Or.inl rfl) (Or.inl rfl) K.c K.2.2.2.2.1 hd K.2.2.2.2.2.2.2.2.2.2
    rw [sumS_nil _ _ _ (V (9 + 2 * 0), V (10 + 2 * 0)), e9] at J1
    have K1 : CK S1 V1 := K.keep f1 (by simp [wc]) C1 (fun k hk _ _ => k1 k hk)
    obtain ⟨S2, V2, g2, f2, K2, k2, r2⟩ := Q3_putSum (G := G) (F := F) (it := 76) X h K1 J1 h.b12 (by decide) (by decide) (Byt.lfr f1 b76)
    have f12 : fr [(3, 0), (6, 1), (0, 76)] S S2 := (f1.fr (L' := [(3, 0), (6, 1), (0, 76)]) (by simp [ow, wc])).trans f2
    rw [h.gA 0 (by decide) rfl, bO_s, h.g15, bO_s, bO_s, rcv_m h.1, bO_s, g1, bO_s, h.g12, bO_s, rcv_m h.1, bO_s, g2, bP_s]
    have r2' : match affS (mulS d bpt) with | some q => Byt 64 (S2 0 76) (ptB q) false | none => S2 = S1 := r2
    show ∃ S' V', (if (if (affS (mulS d bpt)).isSome = true then (1 : Int32) else 0) = 0 then _ else _) = _ ∧ _
    cases ha : affS (mulS d bpt) with
    | none =>
      rw [ha] at r2'
      have r2' : S2 = S1 := r2'
      rw [if_pos (by rfl), retZ0]
      exact ⟨S2, V2, rfl, f12, K2, t, l, by rw [r2']; exact Byt.lfr f1 b76⟩
    | some q =>
      rw [ha] at r2'
      have r2' : Byt 64 (S2 0 76) (ptB q) false := r2'
      have hx2 : Byt rx (S2 0 ix) xy lx := by
        rw [f12 0 ix (by simp; exact hix)]
        exact hx
      rw [if_neg (by simp), h.g12, bO_s, rcv_m h.b12.1, bO_s, Q0_same X h.b12 r2' hX hx2 (by decide) hrx, bP_s]
      by_cases c1 : ptB q = xy
      · rw [if_pos c1, if_neg (by decide), retZ1]
        refine ⟨S2, V2, ?_, f12, K2, _, _, r2'⟩
        rw [if_pos (by simp [c1])]
      · rw [if_neg c1, if_pos rfl, retZ0]
        refine ⟨S2, V2, ?_, f12, K2, _, _, r2'⟩
        rw [if_neg (by simp [c1])]
end ORD
