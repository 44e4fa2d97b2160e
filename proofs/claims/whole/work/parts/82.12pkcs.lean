/-! RSA: the class's signatures by PKCS -/
def pkV (z sg e n : List UInt8) : Bool := numF sg n && decide (pkF z n.length = powF sg e n)
section PKC2
variable {W : WR} {G : mG} {F : Nat} {S : ST}
theorem isRs.g4 (h : isRs W) (S : ST) : gfR (mem W S) (W.ad (.o 8 0)) 8 4 = some (W.ad (.o 0 70)) := gfR_m h.1 rfl h.2.2.2.2.2.2.1
theorem isRs.b4 {W : WR} (h : isRs W) : isB W 70 128 := h.2.2.2.2.2.2.2.2.2.1
theorem suits_le {n : List UInt8} (h : suitsF n = true) : n.length ≤ 128 := (of_decide_eq_true h).2.1
theorem Q8_signPkcs {ih id_ in_ it rh rd rn rt : Nat} {z d n t u : List UInt8} {lz ld ln lt lu : Bool} (X : Cx G F W) (h : isRs W) (hZ : isB W ih rh) (bz : Byt rh (S 0 ih) z lz) (hz : z.length = 32) (hD : isB W id_ rd) (bd : Byt rd (S 0 id_) d ld) (hdl : d.length ≤ 10000) (hN : isB W in_ rn) (bn : Byt rn (S 0 in_) n ln) (hs : suitsF n = true) (h54 : 54 ≤ n.length) (hT : isB W it rt) (bt : Byt rt (S 0 it) t lt) (hrt : n.length ≤ rt) (bu : Byt 128 (S 0 69) u lu) (nz : ih ≠ 69) (nd : id_ ≠ 69 ∧ id_ ≠ it) (nn : in_ ≠ 69 ∧ in_ ≠ it) (nt : it ≠ 69) : ∃ S', P_X8_signPkcs G F (W.ad (.o 8 0)) (W.ad (.o 0 ih)) (W.ad (.o 0 id_)) (W.ad (.o 0 in_)) (W.ad (.o 0 it)) (mem W S) = some (mem W S') ∧ fr [(6, 0), (8, 0), (0, 69), (0, it)] S S' ∧ Byt rt (S' 0 it) (powF (pkF z n.length) d n) false ∧ ∃ u l, Byt 128 (S' 0 69) u l := by
  have n128 := suits_le hs
  obtain ⟨o, g1, b1⟩ := Q8_framePkcs (G := G) (F := F) (many := n.length) X h hZ bz nz hz h54 n128 bu
  have f1 : fr [(0, 69)] S (S.so 0 69 o) := fr_so (by simp)
  obtain ⟨S2, g2, f2, b2⟩ := Q8_raise (G := G) (F := F) (S := S.so 0 69 o) X h h.b3 hD hN hT (fun e => nt e.symm) nd.2 nn.2 (by rw [so_eq]; exact b1) (by rw [f1 0 id_ (by simp; exact nd.1)]; exact bd) (by rw [f1 0 in_ (by simp; exact nn.1)]; exact bn) (by rw [f1 0 it (by simp; exact nt)]; exact bt) (by rw [pkF_len hz h54]; omega) hdl hs hrt
  refine ⟨S2, ?_, (f1.mono (by simp)).trans (f2.mono (by simp)), b2, pkF z n.length, false, ?_⟩
  · unfold P_X8_signPkcs
    rw [hN.gI 1 rfl, bO_s, bn.many, rcv_m h.1, bO_s, g1, bO_s, h.g3, bO_s, rcv_m h.1, bO_s, g2, bO_s]
  · rw [f2 0 69 (by simp; exact fun e => nt e.symm), so_eq]
    exact b1
theorem Q8_isPkcsRight {ih is_ ie in_ rh rs_ re rn : Nat} {z sg e n u w : List UInt8} {lz ls le ln lu lw : Bool} (X : Cx G F W) (h : isRs W) (hZ : isB W ih rh) (bz : Byt rh (S 0 ih) z lz) (hz : z.length = 32) (hG : isB W is_ rs_) (bg : Byt rs_ (S 0 is_) sg ls) (hE : isB W ie re) (be : Byt re (S 0 ie) e le) (hel : e.length ≤ 10000) (hN : isB W in_ rn) (bn : Byt rn (S 0 in_) n ln) (hs : suitsF n = true) (h54 : 54 ≤ n.length) (bu : Byt 128 (S 0 69) u lu) (bw : Byt 128 (S 0 70) w lw) (nz : ih ≠ 69) (ng : is_ ≠ 69 ∧ is_ ≠ 70) (nne : ie ≠ 69 ∧ ie ≠ 70) (nn : in_ ≠ 69 ∧ in_ ≠ 70) : ∃ S', P_X8_isPkcsRight G F (W.ad (.o 8 0)) (W.ad (.o 0 ih)) (W.ad (.o 0 is_)) (W.ad (.o 0 ie)) (W.ad (.o 0 in_)) (mem W S) = some (if pkV z sg e n = true then 1 else 0, mem W S') ∧ fr [(6, 0), (8, 0), (0, 69), (0, 70)] S S' ∧ (∃ u l, Byt 128 (S' 0 69) u l) ∧ ∃ u l, Byt 128 (S' 0 70) u l := by
  have n128 := suits_le hs
  unfold P_X8_isPkcsRight pkV
  rw [rcv_m h.1, bO_s, Q8_isNumberOf X hG bg hN bn (by omega), bP_s]
  cases c0 : numF sg n with
  | false =>
    rw [if_neg (c := false = true) Bool.false_ne_true, if_pos rfl, retZ0, Bool.false_and, if_neg (c := false = true) Bool.false_ne_true]
    exact ⟨S, rfl, fr.refl _ _, ⟨_, _, bu⟩, ⟨_, _, bw⟩⟩
  | true =>
    have hgl : sg.length = n.length := (of_decide_eq_true c0).1
    rw [if_pos (c := true = true) rfl, if_neg (by decide), Bool.true_and]
    obtain ⟨o, g1, b1⟩ := Q8_framePkcs (G := G) (F := F) (many := n.length) X h hZ bz nz hz h54 n128 bu
    have f1 : fr [(0, 69)] S (S.so 0 69 o) := fr_so (by simp)
    obtain ⟨S2, g2, f2, b2⟩ := Q8_raise (G := G) (F := F) (S := S.so 0 69 o) X h hG hE hN h.b4 ng.2 nne.2 nn.2 (by rw [f1 0 is_ (by simp; exact ng.1)]; exact bg) (by rw [f1 0 ie (by simp; exact nne.1)]; exact be) (by rw [f1 0 in_ (by simp; exact nn.1)]; exact bn) (by rw [f1 0 70 (by simp)]; exact bw) (by omega) hel hs n128
    have b69 : Byt 128 (S2 0 69) (pkF z n.length) false := by
      rw [f2 0 69 (by simp), so_eq]
      exact b1
    rw [hN.gI 1 rfl, bO_s, bn.many, rcv_m h.1, bO_s, g1, bO_s, h.g4, bO_s, rcv_m h.1, bO_s, g2, bO_s, h.g3, bO_s, h.g4, bO_s, rcv_m h.b3.1, bO_s, Q0_same X h.b3 b69 h.b4 b2 (by decide) (by decide), bP_s]
    refine ⟨S2, ?_, (f1.mono (by simp)).trans (f2.mono (by simp)), ⟨_, _, b69⟩, ⟨_, _, b2⟩⟩
    by_cases c1 : pkF z n.length = powF sg e n
    · rw [if_pos c1, retZ1, if_pos (decide_eq_true c1)]
    · rw [if_neg c1, retZ0, if_neg (fun o => c1 (of_decide_eq_true o))]
end PKC2
