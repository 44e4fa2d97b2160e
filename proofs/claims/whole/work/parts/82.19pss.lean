/-! RSA: the class's signPss -/
/-- the frame before its mask: many bytes -/
def psB (z salt : List UInt8) (many : Nat) : List UInt8 := List.replicate (many - 66) 0 ++ (1 :: (salt ++ (sltF z salt ++ [188])))
def psM (z salt : List UInt8) (many : Nat) : List UInt8 := mskL (psB z salt many) (seg (psB z salt many) (many - 33) 32) 0 (many - 33)
/-- the frame: bits of n, less one -/
def psF (z salt : List UInt8) (bits : Nat) : List UInt8 := (psM z salt ((bits + 7) / 8)).set 0 (lo8 (gB (psM z salt ((bits + 7) / 8)) 0 &&& ((255 : Int32) >>> (((Int32.ofNat (8 * ((bits + 7) / 8))) - (Int32.ofNat bits)) &&& 31))))
theorem psB_len {z salt : List UInt8} {many : Nat} (hs : salt.length = 32) (hm : 66 ≤ many) : (psB z salt many).length = many := by
  unfold psB
  simp only [List.length_append, List.length_cons, List.length_replicate, List.length_nil]
  rw [hs, sltF_len]
  omega
theorem psM_len {z salt : List UInt8} {many : Nat} (hs : salt.length = 32) (hm : 66 ≤ many) : (psM z salt many).length = many := by
  unfold psM
  rw [mskL_len, psB_len hs hm]
section PSS
variable {W : WR} {G : mG} {F : Nat} {S : ST}
theorem Q8_signPss {ih is_ id_ in_ it rh rs_ rd rn rt t : Nat} {z s d n u y w : List UInt8} {lz ls ld ln lu ly lw : Bool} (X : Cx G F W) (h : isRs W) (hd : isD W) (hZ : isB W ih rh) (bz : Byt rh (S 0 ih) z lz) (hz : z.length ≤ 64) (hS : isB W is_ rs_) (bs : Byt rs_ (S 0 is_) s ls) (hs9 : s.length < 80000) (hD : isB W id_ rd) (bd : Byt rd (S 0 id_) d ld) (hdl : d.length ≤ 10000) (hN : isB W in_ rn) (bn : Byt rn (S 0 in_) n ln) (hs : suitsF n = true) (ht : t < 8) (h1 : 2 ^ t ≤ gN n 0) (h2 : gN n 0 < 2 ^ (t + 1)) (h66 : 66 ≤ (8 * (n.length - 1) + t + 7) / 8) (hT : isB W it rt) (bt : Byt rt (S 0 it) u lu) (hrt : n.length ≤ rt) (b69 : Byt 128 (S 0 69) w lw) (b71 : Byt 32 (S 0 71) y ly) (nz : ih ≠ 69) (ns : is_ ≠ 69) (nd : id_ ≠ 69 ∧ id_ ≠ 71 ∧ id_ ≠ it) (nn : in_ ≠ 69 ∧ in_ ≠ 71 ∧ in_ ≠ it) (nt : it ≠ 69 ∧ it ≠ 71) : ∃ S', P_X8_signPss G F (W.ad (.o 8 0)) (W.ad (.o 0 ih)) (W.ad (.o 0 is_)) (W.ad (.o 0 id_)) (W.ad (.o 0 in_)) (W.ad (.o 0 it)) (mem W S) = some (if 32 ≤ s.length then 1 else 0, mem W S') ∧ fr [(4, 0), (6, 0), (8, 0), (0, 69), (0, 71), (0, it)] S S' ∧ agD (S 4 0) (S' 4 0) ∧ (∃ u l, Byt 128 (S' 0 69) u l) ∧ (∃ u l, Byt 32 (S' 0 71) u l) ∧ (if 32 ≤ s.length then Byt rt (S' 0 it) (powF (psF z (seg s 0 32) (8 * (n.length - 1) + t)) d n) false else S' 0 it = S 0 it) := by
  have n128 := suits_le hs
  have n1 : 1 ≤ n.length := (of_decide_eq_true hs).1
  have sl := bs.le
  have sr := hS.hr
  unfold P_X8_signPss
  rw [hS.gI 1 rfl, bO_s, bs.many]
  by_cases c32 : 32 ≤ s.length
  · rw [if_pos (by rw [lit 32, n_le (by omega) (by omega)]; exact c32)]
    simp only [c32, if_true]
    rw [Q8_bitsOf X hN bn ht h1 h2 (by omega), bP_s]
    have e1 : (Int32.ofNat (8 * (n.length - 1) + (t + 1))) - (1 : Int32) = (Int32.ofNat (8 * (n.length - 1) + t)) := by
      rw [n_subL 1 (by omega), show 8 * (n.length - 1) + (t + 1) - 1 = 8 * (n.length - 1) + t by omega]
    obtain ⟨bits, hbits⟩ : ∃ x, x = 8 * (n.length - 1) + t := ⟨_, rfl⟩
    rw [e1, ← hbits]
    rw [← hbits] at h66
    have e2 : ((Int32.ofNat bits) + (7 : Int32)) / (8 : Int32) = (Int32.ofNat ((bits + 7) / 8)) := by
      rw [n_addL bits 7]
      exact n_div (by omega) (by decide)
    rw [e2]
    obtain ⟨many, hmany⟩ : ∃ x, x = (bits + 7) / 8 := ⟨_, rfl⟩
    rw [← hmany] at h66
    have m128 : many ≤ 128 := by omega
    have e3 : (Int32.ofNat many) - (32 : Int32) - (1 : Int32) = (Int32.ofNat (many - 33)) := by
      rw [n_subL 32 (by omega), n_subL 1 (by omega), show many - 32 - 1 = many - 33 by omega]
    have e4 : (Int32.ofNat (many - 33)) - (32 : Int32) - (1 : Int32) = (Int32.ofNat (many - 66)) := by
      rw [n_subL 32 (by omega), n_subL 1 (by omega), show many - 33 - 32 - 1 = many - 66 by omega]
    have ssl : (seg s 0 32).length = 32 := seg_len (by omega)
    unfold psF
    rw [← hmany, e3, e4]
    obtain ⟨o1, g1, b1⟩ := Q0_clear (G := G) (F := F) h.b3 b69
    obtain ⟨o2, g2, b2⟩ := Q0_putSame (G := G) (F := F) (S := S.so 0 69 o1) (x := 0) (cnt := many - 66) X h.b3 (by omega) (by rw [so_eq]; exact b1)
    rw [so_so] at g2
    rw [tkl_fit (by simp; omega), show lsl 128 [] (List.replicate (many - 66) (lo8 0)) false = false by unfold lsl; rw [Bool.false_or, decide_eq_false (by simp; omega)], List.nil_append, lo8_k.1] at b2
    obtain ⟨o3, g3, b3⟩ := put_fit (G := G) (F := F) (S := S) (x := 1) h.b3 b2 (by simp; omega)
    rw [lo8_k.2.1] at b3
    obtain ⟨o4, g4, b4⟩ := Q0_putPart (G := G) (F := F) (S := S.so 0 69 o3) (p := 0) (n := 32) h.b3 (by rw [so_eq]; exact b3) hS (by rw [so_ne (by omega)]; exact bs) (by omega)
    rw [so_so] at g4
    have g4' : P_X0_putPart G F (W.ad (.o 0 69)) (W.ad (.o 0 is_)) 0 32 (mem W (S.so 0 69 o3)) = some (mem W (S.so 0 69 o4)) := g4
    rw [show (s.drop 0).take 32 = seg s 0 32 from rfl, tkl_fit (by rw [ssl]; simp; omega), show lsl 128 (List.replicate (many - 66) (0 : UInt8) ++ [1]) (seg s 0 32) false = false by unfold lsl; rw [Bool.false_or, decide_eq_false (by rw [ssl]; simp; omega)]] at b4
    obtain ⟨S5, g5, f5, a5, b5⟩ := Q8_hashSalted (G := G) (F := F) (S := S.so 0 69 o4) (p := 0) X h hd hZ (by rw [so_ne (by omega)]; exact bz) hS (by rw [so_ne (by omega)]; exact bs) (by omega) hz hs9 h.b3 (by rw [so_eq]; exact b4)
    have g5' : P_X8_hashSalted G F (W.ad (.o 8 0)) (W.ad (.o 0 ih)) (W.ad (.o 0 is_)) 0 (W.ad (.o 0 69)) (mem W (S.so 0 69 o4)) = some (mem W S5) := g5
    rw [so_ne (by omega)] at a5
    rw [tkl_fit (by rw [sltF_len]; simp [ssl]; omega), show lsl 128 (List.replicate (many - 66) (0 : UInt8) ++ [1] ++ seg s 0 32) (sltF z (seg s 0 32)) false = false by unfold lsl; rw [Bool.false_or, decide_eq_false (by rw [sltF_len]; simp [ssl]; omega)]] at b5
    obtain ⟨o6, g6, b6⟩ := put_fit (G := G) (F := F) (S := S5) (o := S5 0 69) (x := 188) h.b3 b5 (by simp [ssl, sltF_len]; omega)
    rw [so_self] at g6
    have eB : List.replicate (many - 66) (0 : UInt8) ++ [1] ++ seg s 0 32 ++ sltF z (seg s 0 32) ++ [lo8 188] = psB z (seg s 0 32) many := by
      unfold psB
      rw [show lo8 (188 : Int32) = 188 by decide]
      simp
    rw [eB] at b6
    obtain ⟨S7, g7, f7, b7, a7, r7⟩ := Q8_maskFrame (G := G) (F := F) (S := S5.so 0 69 o6) (xs := psB z (seg s 0 32) many) (a := 0) (many := many - 33) (sd := many - 33) (sn := 32) X h hd (by rw [psB_len ssl h66]; omega) (by rw [psB_len ssl h66]; omega) (by rw [psB_len ssl h66]; exact m128) (by omega) (by rw [so_eq]; exact b6) (by rw [so_ne (by omega), f5 0 71 (by simp), so_ne (by omega)]; exact b71)
    have g7' : P_X8_maskFrame G F (W.ad (.o 8 0)) (Int32.ofNat (many - 33)) 32 0 (Int32.ofNat (many - 33)) (mem W (S5.so 0 69 o6)) = some (mem W S7) := g7
    rw [so_ne (by omega)] at a7
    have b7 : Byt 128 (S7 0 69) (psM z (seg s 0 32) many) false := b7
    have gg : P_X0_get G F (W.ad (.o 0 69)) 0 (mem W S7) = some (gB (psM z (seg s 0 32) many) 0, mem W S7) := Q0_get (j := 0) h.b3 b7 (by decide)
    have e8 : (8 : Int32) * (Int32.ofNat many) = (Int32.ofNat (8 * many)) := n_mul 8 many
    obtain ⟨o8, g8, b8⟩ := Q0_set (G := G) (F := F) (S := S7) (j := 0) (v := gB (psM z (seg s 0 32) many) 0 &&& ((255 : Int32) >>> (((Int32.ofNat (8 * many)) - (Int32.ofNat bits)) &&& 31))) h.b3 b7 (by decide)
    have g8' : P_X0_set G F (W.ad (.o 0 69)) 0 (gB (psM z (seg s 0 32) many) 0 &&& ((255 : Int32) >>> (((Int32.ofNat (8 * many)) - (Int32.ofNat bits)) &&& 31))) (mem W S7) = some (mem W (S7.so 0 69 o8)) := g8
    have fr7 : fr [(4, 0), (0, 69), (0, 71)] S (S7.so 0 69 o8) := ((((fr_so (S := S) (c := 0) (i := 69) (o := o4) (by simp)).trans (f5.mono (by simp))).trans (fr_so (by simp))).trans f7).trans (fr_so (by simp))
    obtain ⟨S9, g9, f9, b9⟩ := Q8_raise (G := G) (F := F) (S := S7.so 0 69 o8) X h h.b3 hD hN hT (fun e => nt.1 e.symm) nd.2.2 nn.2.2 (by rw [so_eq]; exact b8) (by rw [fr7 0 id_ (by simp; omega)]; exact bd) (by rw [fr7 0 in_ (by simp; omega)]; exact bn) (by rw [fr7 0 it (by simp; omega)]; exact bt) (by rw [List.length_set, psM_len ssl h66]; omega) hdl hs hrt
    rw [h.g3, bO_s, rcv_m h.b3.1, bO_s, g1, bO_s, h.g3, bO_s, rcv_m h.b3.1, bO_s, g2, bO_s, h.g3, bO_s, rcv_m h.b3.1, bO_s, g3, bO_s, h.g3, bO_s, rcv_m h.b3.1, bO_s, g4', bO_s, h.g3, bO_s, rcv_m h.1, bO_s, g5', bO_s, h.g3, bO_s, rcv_m h.b3.1, bO_s, g6, bO_s, rcv_m h.1, bO_s, g7', bO_s, h.g3, bO_s, bO_s, rcv_m h.b3.1, bO_s, gg, bP_s, rcv_m h.b3.1, bO_s, e8, g8', bO_s, h.g3, bO_s, rcv_m h.1, bO_s, g9, bO_s, retZ1]
    refine ⟨S9, rfl, (fr7.mono (by simp)).trans (f9.mono (by simp)), ?_, ⟨_, _, by rw [f9 0 69 (by simp; omega), so_eq]; exact b8⟩, ?_, b9⟩
    · rw [f9 4 0 (by simp), so_ne (by omega)]
      exact a5.trans a7
    · obtain ⟨y', l', r7⟩ := r7
      exact ⟨y', l', by rw [f9 0 71 (by simp; omega), so_ne (by omega)]; exact r7⟩
  · rw [if_neg (fun o => by rw [lit 32, n_le (by omega) (by omega)] at o; omega), retZ0]
    refine ⟨S, ?_, fr.refl _ _, agr.refl _ _ _ _ _, ⟨_, _, b69⟩, ⟨_, _, b71⟩, by rw [if_neg c32]⟩
    rw [if_neg c32]
end PSS
