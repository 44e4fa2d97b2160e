/-! RSA: the salted digest of the class; both masks are one -/
theorem msk_LB {β : Nat → UInt8} {seed : List UInt8} {a t n : Nat} : rdB (mskB β seed a t) 0 n = mskL (rdB β 0 n) seed a t := by
  apply List.ext_getElem?
  intro j
  by_cases c : j < n
  · have e : (rdB β 0 n).getD j 0 = β j := by
      rw [List.getD_eq_getElem?_getD, rdB_at c, Nat.zero_add]
      rfl
    rw [rdB_at c, Nat.zero_add, mskL_at (by rw [rdB_len]; exact c), e]
    rfl
  · rw [List.getElem?_eq_none (by rw [rdB_len]; omega), List.getElem?_eq_none (by rw [mskL_len, rdB_len]; omega)]
def sltF (hash salt : List UInt8) : List UInt8 := sha false (w4 0 ++ (w4 0 ++ (hash ++ salt)))
theorem sltF_len (hash salt : List UInt8) : (sltF hash salt).length = 32 := by
  unfold sltF
  rw [sha_len]
  rfl
section SALT
variable {W : WR} {G : mG} {F : Nat} {S : ST}
theorem Q8_hashSalted {ih is_ it rh rs_ rt p : Nat} {z s t : List UInt8} {lz ls lt : Bool} (X : Cx G F W) (h : isRs W) (hd : isD W) (hZ : isB W ih rh) (bz : Byt rh (S 0 ih) z lz) (hS : isB W is_ rs_) (bs : Byt rs_ (S 0 is_) s ls) (hp : p + 32 ≤ s.length) (hz : z.length ≤ 64) (hs9 : s.length < 80000) (hT : isB W it rt) (bt : Byt rt (S 0 it) t lt) : ∃ S', P_X8_hashSalted G F (W.ad (.o 8 0)) (W.ad (.o 0 ih)) (W.ad (.o 0 is_)) (Int32.ofNat p) (W.ad (.o 0 it)) (mem W S) = some (mem W S') ∧ fr [(4, 0), (0, it)] S S' ∧ agD (S 4 0) (S' 4 0) ∧ Byt rt (S' 0 it) (tkl rt t (sltF z (seg s p 32))) (lsl rt t (sltF z (seg s p 32)) lt) := by
  have zl := bz.le
  have zr := hZ.hr
  obtain ⟨o1, g1, d1, a1⟩ := Q4_start (G := G) (F := F) (S := S) (wide := false) X hd
  have g1' : P_X4_start G F (W.ad (.o 4 0)) 256 (mem W S) = some (mem W (S.so 4 0 o1)) := g1
  obtain ⟨o2, g2, d2, a2⟩ := Q4_addWord' (G := G) (F := F) (S := S) (x := 0) X hd d1 (by decide)
  obtain ⟨o3, g3, d3, a3⟩ := Q4_addWord' (G := G) (F := F) (S := S) (x := 0) X hd d2 (by rw [List.nil_append]; show 4 < _; decide)
  obtain ⟨o4, g4, d4, a4⟩ := Q4_add (G := G) (F := F) (S := S.so 4 0 o3) (k := 0) (stop := z.length) (msg := [] ++ w4 0 ++ w4 0) X hd hZ (by omega) (Nat.le_refl _) (by omega) (by rw [so_ne (by omega)]; exact bz) (by rw [so_eq]; exact d3) (by rw [List.nil_append]; show 8 < _; decide)
  rw [so_so] at g4
  rw [so_eq] at a4
  rw [List.drop_zero, Nat.sub_zero, List.take_length] at d4
  have g4' : P_X4_add G F (W.ad (.o 4 0)) (W.ad (.o 0 ih)) 0 (Int32.ofNat z.length) (mem W (S.so 4 0 o3)) = some (mem W (S.so 4 0 o4)) := g4
  have ml : ([] ++ w4 0 ++ w4 0 ++ z).length = 8 + z.length := by
    rw [List.length_append]
    rfl
  obtain ⟨o5, g5, d5, a5⟩ := Q4_add (G := G) (F := F) (S := S.so 4 0 o4) (k := p) (stop := p + 32) (msg := [] ++ w4 0 ++ w4 0 ++ z) X hd hS (by omega) hp (by omega) (by rw [so_ne (by omega)]; exact bs) (by rw [so_eq]; exact d4) (by rw [ml]; omega)
  rw [so_so] at g5
  rw [so_eq] at a5
  rw [show p + 32 - p = 32 by omega] at d5
  have em : [] ++ w4 0 ++ w4 0 ++ z ++ (s.drop p).take 32 = w4 0 ++ (w4 0 ++ (z ++ seg s p 32)) := by
    unfold seg
    simp
  rw [em] at d5
  obtain ⟨S6, g6, f6, d6, a6, b6⟩ := Q4_finish (G := G) (F := F) (S := S.so 4 0 o5) X hd hT (by rw [so_eq]; exact d5) (by
    rw [← em, List.length_append, ml, List.length_take]
    omega) (by rw [so_ne (by omega)]; exact bt)
  rw [so_eq] at a6
  refine ⟨S6, ?_, (fr_so (S := S) (c := 4) (i := 0) (o := o5) (by simp)).trans f6, ((((a1.trans a2).trans a3).trans a4).trans a5).trans a6, b6⟩
  unfold P_X8_hashSalted
  rw [h.g0, bO_s, rcv_m hd.1, bO_s, g1', bO_s, h.g0, bO_s, rcv_m hd.1, bO_s, g2, bO_s, h.g0, bO_s, rcv_m hd.1, bO_s, g3, bO_s, h.g0, bO_s, hZ.gI 1 rfl, bO_s, so_ne (by omega), bz.many, rcv_m hd.1, bO_s, g4', bO_s, h.g0, bO_s, rcv_m hd.1, bO_s, n_addL p 32, g5, bO_s, h.g0, bO_s, rcv_m hd.1, bO_s, g6, bO_s]
end SALT
