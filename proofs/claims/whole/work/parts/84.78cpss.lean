/-! A SALTED SIGNATURE TOLD RIGHT OR NOT: the class -/
/-- the frame behind its mask -/
def pvM (X : List UInt8) (bits : Nat) : List UInt8 := (mskL X (seg X (X.length - 33) 32) 0 (X.length - 33)).set 0 (lo8 (gB (mskL X (seg X (X.length - 33) 32) 0 (X.length - 33)) 0 &&& ((255 : Int32) >>> (((Int32.ofNat (8 * X.length)) - (Int32.ofNat bits)) &&& 31))))
def pvZ (Mx : List UInt8) : Nat → Nat → Bool
  | 0, _ => true
  | q + 1, i => decide (Mx.getD i 0 = 0) && pvZ Mx q (i + 1)
def pvC (z Mx : List UInt8) (m : Nat) : Bool := pvZ Mx (m - 66) 0 && (decide (Mx.getD (m - 66) 0 = 1) && decide (sltF z (seg Mx (m - 65) 32) = seg Mx (m - 33) 32))
/-- a number raised is a salted frame of a digest -/
def psV (z y : List UInt8) (bits : Nat) : Bool := (decide (y.length - (bits + 7) / 8 = 0) || decide (y.getD 0 0 = 0)) && (decide ((seg y (y.length - (bits + 7) / 8) ((bits + 7) / 8)).getD ((bits + 7) / 8 - 1) 0 = 188) && (decide (gN (seg y (y.length - (bits + 7) / 8) ((bits + 7) / 8)) 0 < 2 ^ (8 - (8 * ((bits + 7) / 8) - bits))) && pvC z (pvM (seg y (y.length - (bits + 7) / 8) ((bits + 7) / 8)) bits) ((bits + 7) / 8)))
theorem top_c : ∀ u, u < 8 → ∀ x, x < 256 → ((((Int32.ofNat x) &&& (((255 : Int32) >>> ((Int32.ofNat u) &&& 31)) ^^^ (-1 : Int32))) = 0) ↔ x < 2 ^ (8 - u)) := by decide +kernel
theorem top_m : ∀ u, u < 8 → ∀ x, x < 256 → ((((Int32.ofNat x) >>> (((8 : Int32) - (Int32.ofNat u)) &&& 31)) = 0) ↔ x < 2 ^ (8 - u)) := by decide +kernel
theorem b32_getD {xs : List UInt8} {j : Nat} (h : j < xs.length) : gB xs j = b32 (xs.getD j 0) := by
  rw [gB_lt h, List.getD_eq_getElem?_getD, List.getElem?_eq_getElem h]
  rfl
theorem pvM_len (X : List UInt8) (bits : Nat) : (pvM X bits).length = X.length := by
  unfold pvM
  rw [List.length_set, mskL_len]
section CPS
variable {W : WR} {G : mG} {F : Nat} {S : ST}
theorem Q8_pss195 {ih rh m : Nat} {z Mx y70 : List UInt8} {lz l70 : Bool} (X : Cx G F W) (h : isRs W) (hd : isD W) (hZ : isB W ih rh) (bz : Byt rh (S 0 ih) z lz) (hz : z.length ≤ 64) (nz : ih ≠ 70) (ml : Mx.length = m) (m66 : 66 ≤ m) (m128 : m ≤ 128) (b69 : Byt 128 (S 0 69) Mx false) (b70 : Byt 128 (S 0 70) y70 l70) : ∀ (q i fuel : Nat), q < fuel → i + q = m - 66 → ∃ S', B_X8_isPssRight_195 G F fuel (W.ad (.o 8 0)) (W.ad (.o 0 ih)) (Int32.ofNat (m - 33)) (Int32.ofNat (m - 66)) (Int32.ofNat i) (mem W S) = some (if (pvZ Mx q i && (decide (Mx.getD (m - 66) 0 = 1) && decide (sltF z (seg Mx (m - 65) 32) = seg Mx (m - 33) 32))) = true then 1 else 0, mem W S') ∧ fr [(4, 0), (0, 70)] S S' ∧ agD (S 4 0) (S' 4 0) ∧ ∃ u l, Byt 128 (S' 0 70) u l := by
  intro q
  induction q with
  | zero =>
    intro i fuel hf hi
    obtain ⟨fuel, rfl⟩ : ∃ q, fuel = q + 1 := ⟨fuel - 1, by omega⟩
    obtain ⟨o1, g1, b1⟩ := Q0_clear (G := G) (F := F) (S := S) h.b4 b70
    obtain ⟨S2, g2, f2, a2, b2⟩ := Q8_hashSalted (G := G) (F := F) (S := S.so 0 70 o1) (ih := ih) (is_ := 69) (it := 70) (p := m - 65) X h hd hZ (by rw [so_ne (by omega)]; exact bz) h.b3 (by rw [so_ne (by omega)]; exact b69) (by omega) hz (by omega) h.b4 (by rw [so_eq]; exact b1)
    rw [so_ne (by omega)] at a2
    have sl := sltF_len z (seg Mx (m - 65) 32)
    rw [tkl_fit (by rw [sl]; decide), lsl_fit (by rw [sl]; decide), List.nil_append] at b2
    have b69' : Byt 128 (S2 0 69) Mx false := by rw [f2 0 69 (by simp), so_ne (by omega)]; exact b69
    have e1 : (Int32.ofNat (m - 66)) + (1 : Int32) = (Int32.ofNat (m - 65)) := by rw [n_i1, show m - 66 + 1 = m - 65 by omega]
    have cm := Q0_compare (G := G) (F := F) (S := S2) (a := 0) (b := m - 33) (cnt := 32) X h.b4 b2 h.b3 b69' (by omega) (by omega) (by omega)
    have cm : P_X0_compare G F (W.ad (.o 0 70)) 0 (W.ad (.o 0 69)) (Int32.ofNat (m - 33)) 32 (mem W S2) = _ := cm
    have sg := seg_iff (xs := sltF z (seg Mx (m - 65) 32)) (ys := Mx) (a := 0) (b := m - 33) (n := 32) (by omega) (by omega)
    rw [seg_all sl] at sg
    refine ⟨S2, ?_, (fr_so (by simp)).trans f2, a2, ⟨_, _, b2⟩⟩
    rw [B_X8_isPssRight_195, if_pos ((n_le (by omega) (by omega)).mpr (by omega)), h.g4, bO_s, rcv_m h.b4.lo, bO_s, g1, bO_s, h.g3, bO_s, h.g4, bO_s, rcv_m h.1, bO_s, e1, g2, bO_s, h.g3, bO_s, rcv_m h.b3.lo, bO_s, Q0_get h.b3 b69' (by omega), bP_s, b32_getD (by omega)]
    simp only [b32_eq (c := Mx.getD (m - 66) 0) (show (1 : Int32) = b32 1 from rfl)]
    show _ = some (if (true && _) = true then 1 else 0, _)
    rw [Bool.true_and]
    by_cases c1 : Mx.getD (m - 66) 0 = 1
    · rw [if_pos c1, h.g4, bO_s, h.g3, bO_s, cm, bP_s, decide_eq_true c1, Bool.true_and]
      by_cases c2 : cmpF (fun k => gB (sltF z (seg Mx (m - 65) 32)) (0 + k)) (fun k => gB Mx (m - 33 + k)) 0 32 = 0
      · rw [if_pos c2, decide_eq_true (sg.mpr ((cmpF_zero 32 0).mp c2))]
        rfl
      · rw [if_neg c2, decide_eq_false (fun q => c2 ((cmpF_zero 32 0).mpr (sg.mp q)))]
        rfl
    · rw [if_neg c1, decide_eq_false c1]
      rfl
  | succ q ih =>
    intro i fuel hf hi
    obtain ⟨fuel, rfl⟩ : ∃ q, fuel = q + 1 := ⟨fuel - 1, by omega⟩
    rw [B_X8_isPssRight_195, if_neg (fun q => by have := (n_le (by omega) (by omega)).mp q; omega), h.g3, bO_s, rcv_m h.b3.lo, bO_s, Q0_get h.b3 b69 (by omega), bP_s, b32_getD (by omega)]
    simp only [b32_eq (c := Mx.getD i 0) (show (0 : Int32) = b32 0 from rfl)]
    by_cases c : Mx.getD i 0 = 0
    · obtain ⟨S', z1, z2⟩ := ih (i + 1) fuel (by omega) (by omega)
      rw [if_pos c, n_i1, z1]
      refine ⟨S', ?_, z2⟩
      show _ = some (if ((decide (Mx.getD i 0 = 0) && pvZ Mx q (i + 1)) && _) = true then 1 else 0, _)
      rw [decide_eq_true c, Bool.true_and]
    · rw [if_neg c]
      refine ⟨S, ?_, fr.refl _ _, agr.refl _ _ _ _ _, _, _, b70⟩
      show _ = some (if ((decide (Mx.getD i 0 = 0) && pvZ Mx q (i + 1)) && _) = true then 1 else 0, _)
      rw [decide_eq_false c]
      rfl
theorem Q8_isPssRight {ih is_ ie in_ rh rs_ re rn t : Nat} {z sg e n u w v : List UInt8} {lz ls le ln lu lw lv : Bool} (X : Cx G F W) (h : isRs W) (hd : isD W) (hZ : isB W ih rh) (bz : Byt rh (S 0 ih) z lz) (hz : z.length ≤ 64) (hG : isB W is_ rs_) (bg : Byt rs_ (S 0 is_) sg ls) (hE : isB W ie re) (be : Byt re (S 0 ie) e le) (hel : e.length ≤ 10000) (hN : isB W in_ rn) (bn : Byt rn (S 0 in_) n ln) (hs : suitsF n = true) (ht : t < 8) (h1 : 2 ^ t ≤ gN n 0) (h2 : gN n 0 < 2 ^ (t + 1)) (h66 : 66 ≤ (8 * (n.length - 1) + t + 7) / 8) (bu : Byt 128 (S 0 69) u lu) (bw : Byt 128 (S 0 70) w lw) (bv : Byt 32 (S 0 71) v lv) (nz : ih ≠ 69 ∧ ih ≠ 70 ∧ ih ≠ 71) (ng : is_ ≠ 70) (nne : ie ≠ 70) (nn : in_ ≠ 70) : ∃ S', P_X8_isPssRight G F (W.ad (.o 8 0)) (W.ad (.o 0 ih)) (W.ad (.o 0 is_)) (W.ad (.o 0 ie)) (W.ad (.o 0 in_)) (mem W S) = some (if (numF sg n && psV z (powF sg e n) (8 * (n.length - 1) + t)) = true then 1 else 0, mem W S') ∧ fr [(4, 0), (6, 0), (8, 0), (0, 69), (0, 70), (0, 71)] S S' ∧ agD (S 4 0) (S' 4 0) ∧ (∃ u l, Byt 128 (S' 0 69) u l) ∧ (∃ u l, Byt 128 (S' 0 70) u l) ∧ ∃ u l, Byt 32 (S' 0 71) u l := by
  have hF := X.hF
  have n128 := suits_le hs
  have n1 : 1 ≤ n.length := (of_decide_eq_true hs).1
  unfold P_X8_isPssRight
  rw [rcv_m h.1, bO_s, Q8_isNumberOf X hG bg hN bn (by omega), bP_s]
  by_cases c0 : numF sg n = true
  · have sgl : sg.length = n.length := (of_decide_eq_true c0).1
    obtain ⟨S1, g1, f1, b1⟩ := Q8_raise (G := G) (F := F) (S := S) (ib := is_) (ie := ie) (in_ := in_) (it := 70) (rt := 128) X h hG hE hN h.b4 ng nne nn bg be bn bw (by omega) hel hs n128
    have bn1 : Byt rn (S1 0 in_) n ln := by rw [f1 0 in_ (by simp; exact nn)]; exact bn
    have yl := powF_len sg e n
    obtain ⟨y, hy⟩ : ∃ y, y = powF sg e n := ⟨_, rfl⟩
    rw [← hy] at b1 yl ⊢
    obtain ⟨bits, hbits⟩ : ∃ x, x = 8 * (n.length - 1) + t := ⟨_, rfl⟩
    have e1 : (Int32.ofNat (8 * (n.length - 1) + (t + 1))) - (1 : Int32) = (Int32.ofNat bits) := by
      rw [n_subL 1 (by omega), show 8 * (n.length - 1) + (t + 1) - 1 = bits by omega]
    rw [← hbits] at h66 ⊢
    have e2 : ((Int32.ofNat bits) + (7 : Int32)) / (8 : Int32) = (Int32.ofNat ((bits + 7) / 8)) := by
      rw [n_addL bits 7]
      exact n_div (by omega) (by decide)
    obtain ⟨m, hm⟩ : ∃ x, x = (bits + 7) / 8 := ⟨_, rfl⟩
    rw [← hm] at h66 e2
    have mn : m ≤ n.length := by omega
    have m128 : m ≤ 128 := by omega
    obtain ⟨f, hf⟩ : ∃ f, f = n.length - m := ⟨_, rfl⟩
    have e3 : (Int32.ofNat y.length) - (Int32.ofNat m) = (Int32.ofNat f) := by rw [yl, n_sub mn, hf]
    -- behind the first zero
    have go : (decide (f = 0) || decide (y.getD 0 0 = 0)) = true → ∃ S', B_X8_isPssRight_73 G F (W.ad (.o 8 0)) (W.ad (.o 0 ih)) (Int32.ofNat bits) (Int32.ofNat m) (Int32.ofNat f) (mem W S1) = some (if psV z y bits = true then 1 else 0, mem W S') ∧ fr [(4, 0), (6, 0), (8, 0), (0, 69), (0, 70), (0, 71)] S S' ∧ agD (S 4 0) (S' 4 0) ∧ (∃ u l, Byt 128 (S' 0 69) u l) ∧ (∃ u l, Byt 128 (S' 0 70) u l) ∧ ∃ u l, Byt 32 (S' 0 71) u l := by
      intro hz0
      have bu1 : Byt 128 (S1 0 69) u lu := by rw [f1 0 69 (by simp)]; exact bu
      have bv1 : Byt 32 (S1 0 71) v lv := by rw [f1 0 71 (by simp)]; exact bv
      obtain ⟨o2, g2, b2⟩ := Q0_clear (G := G) (F := F) (S := S1) h.b3 bu1
      have b1' : Byt 128 ((S1.so 0 69 o2) 0 70) y false := by rw [so_ne (by omega)]; exact b1
      obtain ⟨o3, g3, b3⟩ := Q0_putPart (G := G) (F := F) (S := S1.so 0 69 o2) (i := 69) (i2 := 70) (p := f) (n := m) h.b3 (by rw [so_eq]; exact b2) h.b4 b1' (by omega)
      rw [so_so] at g3
      obtain ⟨x, hx⟩ : ∃ x, x = seg y f m := ⟨_, rfl⟩
      have xl : x.length = m := by rw [hx, seg_len (by omega)]
      rw [show (y.drop f).take m = x from hx.symm, tkl_fit (by rw [List.length_nil]; omega), lsl_fit (by rw [List.length_nil]; omega), List.nil_append] at b3
      have V : psV z y bits = (decide (x.getD (m - 1) 0 = 188) && (decide (gN x 0 < 2 ^ (8 - (8 * m - bits))) && pvC z (pvM x bits) m)) := by
        unfold psV
        rw [← hm, yl, ← hf, hz0, ← hx, Bool.true_and]
      have b3s : Byt 128 ((S1.so 0 69 o3) 0 69) x false := by rw [so_eq]; exact b3
      have f3 : fr [(4, 0), (6, 0), (8, 0), (0, 69), (0, 70), (0, 71)] S (S1.so 0 69 o3) := (f1.mono (by simp)).trans (fr_so (by simp))
      have stay : psV z y bits = false → ∃ S', some ((0 : Int32), mem W (S1.so 0 69 o3)) = some (if psV z y bits = true then (1 : Int32) else 0, mem W S') ∧ fr [(4, 0), (6, 0), (8, 0), (0, 69), (0, 70), (0, 71)] S S' ∧ agD (S 4 0) (S' 4 0) ∧ (∃ u l, Byt 128 (S' 0 69) u l) ∧ (∃ u l, Byt 128 (S' 0 70) u l) ∧ ∃ u l, Byt 32 (S' 0 71) u l := by
        intro hv
        refine ⟨S1.so 0 69 o3, by rw [hv]; rfl, f3, ?_, ⟨_, _, b3s⟩, ⟨_, _, by rw [so_ne (by omega)]; exact b1⟩, _, _, by rw [so_ne (by omega)]; exact bv1⟩
        rw [so_ne (by omega), f1 4 0 (by simp)]
        exact agr.refl _ _ _ _ _
      have e8 : (8 : Int32) * (Int32.ofNat m) = (Int32.ofNat (8 * m)) := n_mul 8 m
      have e8s : (Int32.ofNat (8 * m)) - (Int32.ofNat bits) = (Int32.ofNat (8 * m - bits)) := n_sub (by omega)
      have e33 : (Int32.ofNat m) - (32 : Int32) - (1 : Int32) = (Int32.ofNat (m - 33)) := by
        rw [n_subL 32 (by omega), n_subL 1 (by omega), show m - 32 - 1 = m - 33 by omega]
      have e66 : (Int32.ofNat (m - 33)) - (32 : Int32) - (1 : Int32) = (Int32.ofNat (m - 66)) := by
        rw [n_subL 32 (by omega), n_subL 1 (by omega), show m - 33 - 32 - 1 = m - 66 by omega]
      have gt0 : P_X0_get G F (W.ad (.o 0 69)) 0 (mem W (S1.so 0 69 o3)) = some (gB x 0, mem W (S1.so 0 69 o3)) := Q0_get (j := 0) h.b3 b3s (by decide)
      unfold B_X8_isPssRight_73
      rw [h.g3, bO_s, rcv_m h.b3.lo, bO_s, g2, bO_s, h.g3, bO_s, h.g4, bO_s, rcv_m h.b3.lo, bO_s, g3, bO_s, h.g3, bO_s, rcv_m h.b3.lo, bO_s, n_subL 1 (by omega), Q0_get h.b3 b3s (by omega), bP_s, b32_getD (by omega)]
      simp only [b32_eq (c := x.getD (m - 1) 0) (show (188 : Int32) = b32 188 from rfl)]
      by_cases c1 : x.getD (m - 1) 0 = 188
      · have tc : (gB x 0 &&& (((255 : Int32) >>> ((Int32.ofNat (8 * m - bits)) &&& 31)) ^^^ (-1 : Int32)) = 0) = (gN x 0 < 2 ^ (8 - (8 * m - bits))) := by
          rw [gB_gN]
          exact propext (top_c (8 * m - bits) (by omega) (gN x 0) (gN_lt x 0))
        rw [if_pos c1, h.g3, bO_s, rcv_m h.b3.lo, bO_s, gt0, bP_s, e8, e8s]
        simp only [tc]
        by_cases c2 : gN x 0 < 2 ^ (8 - (8 * m - bits))
        · obtain ⟨S4, g4, f4, b4, a4, w71⟩ := Q8_maskFrame (G := G) (F := F) (S := S1.so 0 69 o3) (xs := x) (a := 0) (many := m - 33) (sd := m - 33) (sn := 32) X h hd (by omega) (by omega) (by omega) (by omega) b3s (by rw [so_ne (by omega)]; exact bv1)
          have g4 : P_X8_maskFrame G F (W.ad (.o 8 0)) (Int32.ofNat (m - 33)) 32 0 (Int32.ofNat (m - 33)) (mem W (S1.so 0 69 o3)) = some (mem W S4) := g4
          rw [so_ne (by omega), f1 4 0 (by simp)] at a4
          obtain ⟨y4, hy4⟩ : ∃ y4, y4 = mskL x (seg x (m - 33) 32) 0 (m - 33) := ⟨_, rfl⟩
          rw [← hy4] at b4
          have y4l : y4.length = m := by rw [hy4, mskL_len, xl]
          have gg : P_X0_get G F (W.ad (.o 0 69)) 0 (mem W S4) = some (gB y4 0, mem W S4) := Q0_get (j := 0) h.b3 b4 (by decide)
          obtain ⟨o5, g5, b5⟩ := Q0_set (G := G) (F := F) (S := S4) (j := 0) (v := gB y4 0 &&& ((255 : Int32) >>> ((Int32.ofNat (8 * m - bits)) &&& 31))) h.b3 b4 (by omega)
          have g5 : P_X0_set G F (W.ad (.o 0 69)) 0 (gB y4 0 &&& ((255 : Int32) >>> ((Int32.ofNat (8 * m - bits)) &&& 31))) (mem W S4) = some (mem W (S4.so 0 69 o5)) := g5
          have em : y4.set 0 (lo8 (gB y4 0 &&& ((255 : Int32) >>> ((Int32.ofNat (8 * m - bits)) &&& 31)))) = pvM x bits := by
            unfold pvM
            rw [xl, ← hy4, e8s]
          rw [em] at b5
          have b70 : Byt 128 ((S4.so 0 69 o5) 0 70) y false := by rw [so_ne (by omega), f4 0 70 (by simp), so_ne (by omega)]; exact b1
          have bz' : Byt rh ((S4.so 0 69 o5) 0 ih) z lz := by rw [so_ne (by omega), f4 0 ih (by simp; omega), so_ne (by omega), f1 0 ih (by simp; omega)]; exact bz
          obtain ⟨S6, g6, f6, a6, w70⟩ := Q8_pss195 (G := G) (F := F) (S := S4.so 0 69 o5) (m := m) (Mx := pvM x bits) X h hd hZ bz' hz nz.2.1 (by rw [pvM_len, xl]) h66 m128 (by rw [so_eq]; exact b5) b70 (m - 66) 0 F (by omega) (by omega)
          rw [so_ne (by omega)] at a6
          have g6 : B_X8_isPssRight_195 G F F (W.ad (.o 8 0)) (W.ad (.o 0 ih)) (Int32.ofNat (m - 33)) (Int32.ofNat (m - 66)) 0 (mem W (S4.so 0 69 o5)) = _ := g6
          rw [if_pos c2, rcv_m h.1, bO_s, e33, g4, bO_s, h.g3, bO_s, bO_s, rcv_m h.b3.lo, bO_s, gg, bP_s, rcv_m h.b3.lo, bO_s, g5, bO_s, e66, g6]
          refine ⟨S6, ?_, ((f3.trans (f4.mono (by simp))).trans (fr_so (by simp))).trans (f6.mono (by simp)), a4.trans a6, ⟨_, _, by rw [f6 0 69 (by simp), so_eq]; exact b5⟩, w70, ?_⟩
          · rw [V, decide_eq_true c1, decide_eq_true c2, Bool.true_and, Bool.true_and]
            rfl
          · rw [f6 0 71 (by simp), so_ne (by omega)]
            exact w71
        · rw [if_neg c2]
          exact stay (by rw [V, decide_eq_true c1, decide_eq_false c2]; rfl)
      · rw [if_neg c1]
        exact stay (by rw [V, decide_eq_false c1]; rfl)
    rw [if_pos c0, if_neg (by decide), h.g4, bO_s, rcv_m h.1, bO_s, g1, bO_s, Q8_bitsOf X hN bn1 ht h1 h2 (by omega), bP_s, e1, e2, h.g4, bO_s, h.b4.gI 1 rfl, bO_s, b1.many, e3, c0, Bool.true_and]
    have xf : ((Int32.ofNat f) ≤ (0 : Int32)) = (f = 0) := propext ((n_le (b := 0) (by omega) (by omega)).trans (by omega))
    simp only [xf]
    by_cases cf : f = 0
    · rw [if_pos cf]
      exact go (by rw [decide_eq_true cf]; rfl)
    · have gt0 : P_X0_get G F (W.ad (.o 0 70)) 0 (mem W S1) = some (gB y 0, mem W S1) := Q0_get (j := 0) h.b4 b1 (by decide)
      rw [if_neg cf, bO_s, rcv_m h.b4.lo, bO_s, gt0, bP_s, b32_getD (by omega)]
      simp only [b32_eq (c := y.getD 0 0) (show (0 : Int32) = b32 0 from rfl)]
      by_cases c1 : y.getD 0 0 = 0
      · rw [if_pos c1]
        exact go (by rw [decide_eq_true c1, Bool.or_true])
      · rw [if_neg c1]
        have V : psV z y bits = false := by
          unfold psV
          rw [← hm, yl, ← hf, decide_eq_false cf, decide_eq_false c1]
          rfl
        rw [V]
        refine ⟨S1, rfl, f1.mono (by simp), ?_, ⟨_, _, by rw [f1 0 69 (by simp)]; exact bu⟩, ⟨_, _, b1⟩, _, _, by rw [f1 0 71 (by simp)]; exact bv⟩
        rw [f1 4 0 (by simp)]
        exact agr.refl _ _ _ _ _
  · rw [if_neg c0, if_pos rfl, Bool.eq_false_iff.mpr c0, Bool.false_and]
    exact ⟨S, rfl, fr.refl _ _, agr.refl _ _ _ _ _, ⟨_, _, bu⟩, ⟨_, _, bw⟩, _, _, bv⟩
end CPS
