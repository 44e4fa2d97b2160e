/-! RSA: the class's sealOaep -/
def oaB (seed msg : List UInt8) (n : Nat) : List UInt8 := 0 :: (seed ++ (sha false [] ++ (List.replicate (n - msg.length - 66) 0 ++ (1 :: msg))))
def oaM (seed msg : List UInt8) (n : Nat) : List UInt8 := mskL (oaB seed msg n) (seg (oaB seed msg n) 1 32) 33 (n - 33)
def oaF (seed msg : List UInt8) (n : Nat) : List UInt8 := mskL (oaM seed msg n) (seg (oaM seed msg n) 33 (n - 33)) 1 32
theorem oaB_len {seed msg : List UInt8} {n : Nat} (hs : seed.length = 32) (hm : msg.length + 66 ≤ n) : (oaB seed msg n).length = n := by
  unfold oaB
  simp only [List.length_append, List.length_cons, List.length_replicate]
  rw [hs, sha_len]
  simp only [Bool.false_eq_true, if_false]
  omega
theorem oaM_len {seed msg : List UInt8} {n : Nat} (hs : seed.length = 32) (hm : msg.length + 66 ≤ n) : (oaM seed msg n).length = n := by
  unfold oaM
  rw [mskL_len, oaB_len hs hm]
theorem oaF_len {seed msg : List UInt8} {n : Nat} (hs : seed.length = 32) (hm : msg.length + 66 ≤ n) : (oaF seed msg n).length = n := by
  unfold oaF
  rw [mskL_len, oaM_len hs hm]
section OAEP
variable {W : WR} {G : mG} {F : Nat} {S : ST}
theorem Q8_putEmptyHash {it rt : Nat} {t : List UInt8} {lt : Bool} (X : Cx G F W) (h : isRs W) (hd : isD W) (hT : isB W it rt) (bt : Byt rt (S 0 it) t lt) : ∃ S', P_X8_putEmptyHash G F (W.ad (.o 8 0)) (W.ad (.o 0 it)) (mem W S) = some (mem W S') ∧ fr [(4, 0), (0, it)] S S' ∧ agD (S 4 0) (S' 4 0) ∧ Byt rt (S' 0 it) (tkl rt t (sha false [])) (lsl rt t (sha false []) lt) := by
  obtain ⟨o1, g1, d1, a1⟩ := Q4_start (G := G) (F := F) (S := S) (wide := false) X hd
  have g1' : P_X4_start G F (W.ad (.o 4 0)) 256 (mem W S) = some (mem W (S.so 4 0 o1)) := g1
  obtain ⟨S2, g2, f2, d2, a2, b2⟩ := Q4_finish (G := G) (F := F) (S := S.so 4 0 o1) X hd hT (by rw [so_eq]; exact d1) (by decide) (by rw [so_ne (by omega)]; exact bt)
  rw [so_eq] at a2
  refine ⟨S2, ?_, (fr_so (S := S) (c := 4) (i := 0) (o := o1) (by simp)).trans f2, a1.trans a2, b2⟩
  unfold P_X8_putEmptyHash
  rw [h.g0, bO_s, rcv_m hd.1, bO_s, g1', bO_s, h.g0, bO_s, rcv_m hd.1, bO_s, g2, bO_s]
theorem Q8_sealOaep {im is_ ie in_ it rm rs_ re rn rt : Nat} {m s e n u y w : List UInt8} {lm ls le ln lu ly lw : Bool} (X : Cx G F W) (h : isRs W) (hd : isD W) (hM : isB W im rm) (bm : Byt rm (S 0 im) m lm) (hS : isB W is_ rs_) (bs : Byt rs_ (S 0 is_) s ls) (h32 : 32 ≤ s.length) (hE : isB W ie re) (be : Byt re (S 0 ie) e le) (hel : e.length ≤ 10000) (hN : isB W in_ rn) (bn : Byt rn (S 0 in_) n ln) (hs : suitsF n = true) (h66 : m.length + 66 ≤ n.length) (hT : isB W it rt) (bt : Byt rt (S 0 it) u lu) (hrt : n.length ≤ rt) (b69 : Byt 128 (S 0 69) w lw) (b71 : Byt 32 (S 0 71) y ly) (nm : im ≠ 69 ∧ im ≠ 71) (ns : is_ ≠ 69) (nne : ie ≠ 69 ∧ ie ≠ 71 ∧ ie ≠ it) (nn : in_ ≠ 69 ∧ in_ ≠ 71 ∧ in_ ≠ it) (nt : it ≠ 69 ∧ it ≠ 71) : ∃ S', P_X8_sealOaep G F (W.ad (.o 8 0)) (W.ad (.o 0 im)) (W.ad (.o 0 is_)) (W.ad (.o 0 ie)) (W.ad (.o 0 in_)) (W.ad (.o 0 it)) (mem W S) = some (mem W S') ∧ fr [(4, 0), (6, 0), (8, 0), (0, 69), (0, 71), (0, it)] S S' ∧ agD (S 4 0) (S' 4 0) ∧ (∃ u l, Byt 128 (S' 0 69) u l) ∧ (∃ u l, Byt 32 (S' 0 71) u l) ∧ Byt rt (S' 0 it) (powF (oaF (seg s 0 32) m n.length) e n) false := by
  have n128 := suits_le hs
  have sl := bs.le
  have sr := hS.hr
  have ssl : (seg s 0 32).length = 32 := seg_len (by omega)
  have shl : (sha false ([] : List UInt8)).length = 32 := by rw [sha_len]; rfl
  obtain ⟨o1, g1, b1⟩ := Q0_clear (G := G) (F := F) h.b3 b69
  obtain ⟨o2, g2, b2⟩ := put_fit (G := G) (F := F) (S := S) (x := 0) h.b3 b1 (by decide)
  rw [lo8_k.1, List.nil_append] at b2
  obtain ⟨o3, g3, b3⟩ := Q0_putPart (G := G) (F := F) (S := S.so 0 69 o2) (p := 0) (n := 32) h.b3 (by rw [so_eq]; exact b2) hS (by rw [so_ne (by omega)]; exact bs) (by omega)
  rw [so_so] at g3
  have g3' : P_X0_putPart G F (W.ad (.o 0 69)) (W.ad (.o 0 is_)) 0 32 (mem W (S.so 0 69 o2)) = some (mem W (S.so 0 69 o3)) := g3
  rw [show (s.drop 0).take 32 = seg s 0 32 from rfl, tkl_fit (by rw [ssl]; decide), show lsl 128 [(0 : UInt8)] (seg s 0 32) false = false by unfold lsl; rw [Bool.false_or, decide_eq_false (by rw [ssl]; decide)]] at b3
  obtain ⟨S4, g4, f4, a4, b4⟩ := Q8_putEmptyHash (G := G) (F := F) (S := S.so 0 69 o3) X h hd h.b3 (by rw [so_eq]; exact b3)
  rw [so_ne (by omega)] at a4
  rw [tkl_fit (by rw [shl]; simp [ssl]), show lsl 128 ([(0 : UInt8)] ++ seg s 0 32) (sha false []) false = false by unfold lsl; rw [Bool.false_or, decide_eq_false (by rw [shl]; simp [ssl])]] at b4
  have fr4 : fr [(4, 0), (0, 69)] S S4 := (fr_so (S := S) (c := 0) (i := 69) (o := o3) (by simp)).trans f4
  have bm4 : Byt rm (S4 0 im) m lm := by rw [fr4 0 im (by simp; exact nm.1)]; exact bm
  have bn4 : Byt rn (S4 0 in_) n ln := by rw [fr4 0 in_ (by simp; exact nn.1)]; exact bn
  obtain ⟨o5, g5, b5⟩ := Q0_putSame (G := G) (F := F) (S := S4) (x := 0) (cnt := n.length - m.length - 66) X h.b3 (by omega) b4
  rw [tkl_fit (by simp [ssl, shl]; omega), show lsl 128 ([(0 : UInt8)] ++ seg s 0 32 ++ sha false []) (List.replicate (n.length - m.length - 66) (lo8 0)) false = false by unfold lsl; rw [Bool.false_or, decide_eq_false (by simp [ssl, shl]; omega)], lo8_k.1] at b5
  obtain ⟨o6, g6, b6⟩ := put_fit (G := G) (F := F) (S := S4) (x := 1) h.b3 b5 (by simp [ssl, shl]; omega)
  rw [lo8_k.2.1] at b6
  obtain ⟨o7, g7, b7⟩ := Q0_putAll (G := G) (F := F) (S := S4.so 0 69 o6) h.b3 (by rw [so_eq]; exact b6) hM (by rw [so_ne (by omega)]; exact bm4)
  rw [so_so] at g7
  rw [tkl_fit (by simp [ssl, shl]; omega), show lsl 128 ([(0 : UInt8)] ++ seg s 0 32 ++ sha false [] ++ List.replicate (n.length - m.length - 66) 0 ++ [1]) m false = false by unfold lsl; rw [Bool.false_or, decide_eq_false (by simp [ssl, shl]; omega)]] at b7
  have eB : [(0 : UInt8)] ++ seg s 0 32 ++ sha false [] ++ List.replicate (n.length - m.length - 66) 0 ++ [1] ++ m = oaB (seg s 0 32) m n.length := by
    unfold oaB
    simp
  rw [eB] at b7
  have bl := oaB_len (seed := seg s 0 32) ssl h66
  obtain ⟨S8, g8, f8, b8, a8, r8⟩ := Q8_maskFrame (G := G) (F := F) (S := S4.so 0 69 o7) (xs := oaB (seg s 0 32) m n.length) (a := 33) (many := n.length - 33) (sd := 1) (sn := 32) X h hd (by rw [bl]; omega) (by rw [bl]; omega) (by rw [bl]; exact n128) (by omega) (by rw [so_eq]; exact b7) (by rw [so_ne (by omega), fr4 0 71 (by simp)]; exact b71)
  have g8' : P_X8_maskFrame G F (W.ad (.o 8 0)) 1 32 33 (Int32.ofNat (n.length - 33)) (mem W (S4.so 0 69 o7)) = some (mem W S8) := g8
  rw [so_ne (by omega)] at a8
  have b8 : Byt 128 (S8 0 69) (oaM (seg s 0 32) m n.length) false := b8
  obtain ⟨y8, l8, r8⟩ := r8
  have ml := oaM_len (seed := seg s 0 32) ssl h66
  obtain ⟨S9, g9, f9, b9, a9, r9⟩ := Q8_maskFrame (G := G) (F := F) (S := S8) (xs := oaM (seg s 0 32) m n.length) (a := 1) (many := 32) (sd := 33) (sn := n.length - 33) X h hd (by rw [ml]; omega) (by rw [ml]; omega) (by rw [ml]; exact n128) (by omega) b8 r8
  have g9' : P_X8_maskFrame G F (W.ad (.o 8 0)) 33 (Int32.ofNat (n.length - 33)) 1 32 (mem W S8) = some (mem W S9) := g9
  have b9 : Byt 128 (S9 0 69) (oaF (seg s 0 32) m n.length) false := b9
  have fr8 : fr [(4, 0), (0, 69), (0, 71)] S S8 := ((fr4.mono (by simp)).trans (fr_so (by simp))).trans f8
  have fr9 : fr [(4, 0), (0, 69), (0, 71)] S S9 := fr8.trans f9
  have bn8 : Byt rn (S8 0 in_) n ln := by rw [fr8 0 in_ (by simp; omega)]; exact bn
  have bn7 : Byt rn ((S4.so 0 69 o7) 0 in_) n ln := by rw [so_ne (by omega)]; exact bn4
  obtain ⟨Sa, ga, fa, ba⟩ := Q8_raise (G := G) (F := F) (S := S9) X h h.b3 hE hN hT (fun e => nt.1 e.symm) nne.2.2 nn.2.2 b9 (by rw [fr9 0 ie (by simp; omega)]; exact be) (by rw [fr9 0 in_ (by simp; omega)]; exact bn) (by rw [fr9 0 it (by simp; omega)]; exact bt) (by rw [oaF_len ssl h66]; omega) hel hs hrt
  have e1 : (((Int32.ofNat n.length) - (Int32.ofNat m.length)) - (64 : Int32)) - (2 : Int32) = (Int32.ofNat (n.length - m.length - 66)) := by
    rw [n_sub (by omega), n_subL 64 (by omega), n_subL 2 (by omega), show n.length - m.length - 64 - 2 = n.length - m.length - 66 by omega]
  have e2 : ((Int32.ofNat n.length) - (1 : Int32)) - (32 : Int32) = (Int32.ofNat (n.length - 33)) := by
    rw [n_subL 1 (by omega), n_subL 32 (by omega), show n.length - 1 - 32 = n.length - 33 by omega]
  obtain ⟨y9, l9, r9⟩ := r9
  refine ⟨Sa, ?_, (fr9.mono (by simp)).trans (fa.mono (by simp)), ?_, ⟨_, _, by rw [fa 0 69 (by simp; omega)]; exact b9⟩, ⟨y9, l9, by rw [fa 0 71 (by simp; omega)]; exact r9⟩, ba⟩
  · unfold P_X8_sealOaep
    rw [h.g3, bO_s, rcv_m h.b3.1, bO_s, g1, bO_s, h.g3, bO_s, rcv_m h.b3.1, bO_s, g2, bO_s, h.g3, bO_s, rcv_m h.b3.1, bO_s, g3', bO_s, h.g3, bO_s, rcv_m h.1, bO_s, g4, bO_s, h.g3, bO_s, hN.gI 1 rfl, bO_s, hM.gI 1 rfl, bO_s, bn4.many, bm4.many, rcv_m h.b3.1, bO_s, e1, g5, bO_s, h.g3, bO_s, rcv_m h.b3.1, bO_s, g6, bO_s, h.g3, bO_s, rcv_m h.b3.1, bO_s, g7, bO_s, hN.gI 1 rfl, bO_s, bn7.many, rcv_m h.1, bO_s, e2, g8', bO_s, hN.gI 1 rfl, bO_s, bn8.many, rcv_m h.1, bO_s, e2, g9', bO_s, h.g3, bO_s, rcv_m h.1, bO_s, ga, bO_s]
  · rw [fa 4 0 (by simp)]
    exact (a4.trans a8).trans a9
end OAEP
