/-! SEALED KEYS OPENED WITH NUMBERS: the class -/
/-- a frame unmasked -/
def oaU (f : List UInt8) : List UInt8 := mskL (mskL f (seg f 33 (f.length - 33)) 1 32) (seg (mskL f (seg f 33 (f.length - 33)) 1 32) 1 32) 33 (f.length - 33)
theorem oaU_len (f : List UInt8) : (oaU f).length = f.length := by
  unfold oaU
  rw [mskL_len, mskL_len]
/-- what stands behind the zeros and a one -/
def oaN (f : List UInt8) : Nat → Nat → Option (List UInt8)
  | 0, i => if f.getD i 0 = 1 then some (f.drop (i + 1)) else none
  | m + 1, i => if f.getD i 0 = 0 then oaN f m (i + 1) else if f.getD i 0 = 1 then some (f.drop (i + 1)) else none
theorem oaN_len {f : List UInt8} : ∀ m i mm, oaN f m i = some mm → mm.length + i + 1 ≤ f.length := by
  intro m
  have one : ∀ i mm, (if f.getD i 0 = 1 then some (f.drop (i + 1)) else none) = some mm → mm.length + i + 1 ≤ f.length := by
    intro i mm h
    by_cases c : f.getD i 0 = 1
    · rw [if_pos c] at h
      have il : i < f.length := by
        by_cases q : i < f.length
        · exact q
        · rw [List.getD_eq_getElem?_getD, List.getElem?_eq_none (by omega)] at c
          exact absurd c (by decide)
      rw [← Option.some.inj h, List.length_drop]
      omega
    · rw [if_neg c] at h
      exact absurd h (by simp)
  induction m with
  | zero =>
    intro i mm h
    exact one i mm h
  | succ m ih =>
    intro i mm h
    have h : (if f.getD i 0 = 0 then oaN f m (i + 1) else if f.getD i 0 = 1 then some (f.drop (i + 1)) else none) = some mm := h
    by_cases c : f.getD i 0 = 0
    · rw [if_pos c] at h
      have := ih (i + 1) mm h
      omega
    · rw [if_neg c] at h
      exact one i mm h
def oaO (n sk d : List UInt8) : Option (List UInt8) := if numF sk n = true ∧ (oaU (powF sk d n)).getD 0 0 = 0 ∧ seg (oaU (powF sk d n)) 33 32 = sha false [] then oaN (oaU (powF sk d n)) (n.length - 65) 65 else none
theorem gB_getD (xs : List UInt8) (j : Nat) : gB xs j = b32 (xs.getD j 0) := by
  unfold gB
  rw [List.getD_eq_getElem?_getD]
  cases xs[j]? <;> rfl
section COA
variable {W : WR} {G : mG} {F : Nat} {S : ST}
theorem Q8_oa143 {in_ it rn rt i : Nat} {f n t : List UInt8} {ln lt : Bool} (h : isRs W) (hN : isB W in_ rn) (bn : Byt rn (S 0 in_) n ln) (hT : isB W it rt) (bt : Byt rt (S 0 it) t lt) (b69 : Byt 128 (S 0 69) f false) (fl : f.length = n.length) (hrt : 64 ≤ rt) (ni : in_ ≠ it) (n69 : it ≠ 69) (hi : 65 ≤ i) (hi2 : i ≤ n.length) : ∃ S', B_X8_openOaep_143 G F (W.ad (.o 8 0)) (W.ad (.o 0 in_)) (W.ad (.o 0 it)) (Int32.ofNat i) (mem W S) = some (if (if f.getD i 0 = 1 then some (f.drop (i + 1)) else none).isSome = true then 1 else 0, mem W S') ∧ fr [(0, it)] S S' ∧ (∃ u l, Byt rt (S' 0 it) u l) ∧ ∀ mm, (if f.getD i 0 = 1 then some (f.drop (i + 1)) else none) = some mm → Byt rt (S' 0 it) mm false := by
  have f128 := b69.le
  unfold B_X8_openOaep_143
  rw [h.g3, bO_s, rcv_m h.b3.lo, bO_s, Q0_get h.b3 b69 (by omega), bP_s, gB_getD]
  simp only [b32_eq (c := f.getD i 0) (show (1 : Int32) = b32 1 from rfl)]
  by_cases c : f.getD i 0 = 1
  · have il : i < f.length := by
      by_cases q : i < f.length
      · exact q
      · rw [List.getD_eq_getElem?_getD, List.getElem?_eq_none (by omega)] at c
        exact absurd c (by decide)
    obtain ⟨o1, g1, b1⟩ := Q0_clear (G := G) (F := F) (S := S) hT bt
    have bn1 : Byt rn ((S.so 0 it o1) 0 in_) n ln := by rw [so_ne (by omega)]; exact bn
    have b69' : Byt 128 ((S.so 0 it o1) 0 69) f false := by rw [so_ne (by omega)]; exact b69
    obtain ⟨o2, g2, b2⟩ := Q0_putPart (G := G) (F := F) (S := S.so 0 it o1) (i := it) (i2 := 69) (p := i + 1) (n := n.length - i - 1) hT (by rw [so_eq]; exact b1) h.b3 b69' (by omega)
    rw [so_so] at g2
    have tk : (f.drop (i + 1)).take (n.length - i - 1) = f.drop (i + 1) := List.take_of_length_le (by rw [List.length_drop]; omega)
    have dl : (f.drop (i + 1)).length ≤ 62 := by rw [List.length_drop]; omega
    rw [tk, tkl_fit (by rw [List.length_nil]; omega), lsl_fit (by rw [List.length_nil]; omega), List.nil_append] at b2
    rw [if_pos c, if_pos c, rcv_m hT.lo, bO_s, g1, bO_s, h.g3, bO_s, hN.gI 1 rfl, bO_s, bn1.many, rcv_m hT.lo, bO_s, n_i1, n_sub (by omega), n_subL 1 (by omega), g2, bO_s, retZ1]
    exact ⟨_, rfl, fr_so (by simp), ⟨_, _, by rw [so_eq]; exact b2⟩, fun mm hm => by rw [so_eq, ← Option.some.inj hm]; exact b2⟩
  · rw [if_neg c, if_neg c, retZ0]
    exact ⟨S, rfl, fr.refl _ _, ⟨_, _, bt⟩, fun mm hm => absurd hm (by simp)⟩
theorem Q8_oa113 {in_ it rn rt : Nat} {f n t : List UInt8} {ln lt : Bool} (h : isRs W) (hN : isB W in_ rn) (bn : Byt rn (S 0 in_) n ln) (hT : isB W it rt) (bt : Byt rt (S 0 it) t lt) (b69 : Byt 128 (S 0 69) f false) (fl : f.length = n.length) (hrt : 64 ≤ rt) (ni : in_ ≠ it) (n69 : it ≠ 69) : ∀ (m i fuel : Nat), m < fuel → i + m = n.length → 65 ≤ i → ∃ S', B_X8_openOaep_113 G F fuel (W.ad (.o 8 0)) (W.ad (.o 0 in_)) (W.ad (.o 0 it)) (Int32.ofNat i) (Int32.ofNat i) (mem W S) = some (if (oaN f m i).isSome = true then 1 else 0, mem W S') ∧ fr [(0, it)] S S' ∧ (∃ u l, Byt rt (S' 0 it) u l) ∧ ∀ mm, oaN f m i = some mm → Byt rt (S' 0 it) mm false := by
  have f128 := b69.le
  intro m
  induction m with
  | zero =>
    intro i fuel hf hi h65
    obtain ⟨fuel, rfl⟩ : ∃ q, fuel = q + 1 := ⟨fuel - 1, by omega⟩
    rw [B_X8_openOaep_113, hN.gI 1 rfl, bO_s, bn.many, if_pos ((n_le (by omega) (by omega)).mpr (by omega))]
    exact Q8_oa143 h hN bn hT bt b69 fl hrt ni n69 h65 (by omega)
  | succ m ih =>
    intro i fuel hf hi h65
    obtain ⟨fuel, rfl⟩ : ∃ q, fuel = q + 1 := ⟨fuel - 1, by omega⟩
    rw [B_X8_openOaep_113, hN.gI 1 rfl, bO_s, bn.many, if_neg (fun q => by have := (n_le (by omega) (by omega)).mp q; omega), h.g3, bO_s, rcv_m h.b3.lo, bO_s, Q0_get h.b3 b69 (by omega), bP_s, gB_getD]
    simp only [b32_eq (c := f.getD i 0) (show (0 : Int32) = b32 0 from rfl)]
    show ∃ S', _ = some (if (if f.getD i 0 = 0 then oaN f m (i + 1) else if f.getD i 0 = 1 then some (f.drop (i + 1)) else none).isSome = true then 1 else 0, mem W S') ∧ _ ∧ _ ∧ ∀ mm, (if f.getD i 0 = 0 then oaN f m (i + 1) else if f.getD i 0 = 1 then some (f.drop (i + 1)) else none) = some mm → _
    by_cases c : f.getD i 0 = 0
    · rw [if_pos c, if_pos c, n_i1]
      exact ih (i + 1) fuel (by omega) (by omega) (by omega)
    · rw [if_neg c, if_neg c]
      exact Q8_oa143 h hN bn hT bt b69 fl hrt ni n69 h65 (by omega)
theorem Q8_openOaep {is_ id_ in_ it rs_ rd rn rt : Nat} {sk d n t u w v : List UInt8} {ls ld ln lt lu lw lv : Bool} (X : Cx G F W) (h : isRs W) (hd : isD W) (hS : isB W is_ rs_) (bs : Byt rs_ (S 0 is_) sk ls) (hD : isB W id_ rd) (bd : Byt rd (S 0 id_) d ld) (hdl : d.length ≤ 10000) (hN : isB W in_ rn) (bn : Byt rn (S 0 in_) n ln) (hs : suitsF n = true) (h66 : 66 ≤ n.length) (hT : isB W it rt) (bt : Byt rt (S 0 it) t lt) (hrt : 64 ≤ rt) (bu : Byt 128 (S 0 69) u lu) (bw : Byt 128 (S 0 70) w lw) (bv : Byt 32 (S 0 71) v lv) (ns : is_ ≠ 69) (nd : id_ ≠ 69) (nn : in_ ≠ 69 ∧ in_ ≠ 70 ∧ in_ ≠ 71 ∧ in_ ≠ it) (nt : it ≠ 69 ∧ it ≠ 70 ∧ it ≠ 71) : ∃ S', P_X8_openOaep G F (W.ad (.o 8 0)) (W.ad (.o 0 is_)) (W.ad (.o 0 id_)) (W.ad (.o 0 in_)) (W.ad (.o 0 it)) (mem W S) = some (if (oaO n sk d).isSome = true then 1 else 0, mem W S') ∧ fr [(4, 0), (6, 0), (8, 0), (0, 69), (0, 70), (0, 71), (0, it)] S S' ∧ (∃ u l, Byt 128 (S' 0 69) u l) ∧ (∃ u l, Byt 128 (S' 0 70) u l) ∧ (∃ u l, Byt 32 (S' 0 71) u l) ∧ (∃ u l, Byt rt (S' 0 it) u l) ∧ ∀ mm, oaO n sk d = some mm → Byt rt (S' 0 it) mm false := by
  have hF := X.hF
  have n128 := suits_le hs
  unfold P_X8_openOaep oaO
  rw [rcv_m h.1, bO_s, Q8_isNumberOf X hS bs hN bn (by omega), bP_s]
  by_cases c0 : numF sk n = true
  · have skl : sk.length = n.length := (of_decide_eq_true c0).1
    obtain ⟨S1, g1, f1, b1⟩ := Q8_raise (G := G) (F := F) (S := S) (ib := is_) (ie := id_) (in_ := in_) (it := 69) (rt := 128) X h hS hD hN h.b3 ns nd nn.1 bs bd bn bu (by omega) hdl hs n128
    have yl := powF_len sk d n
    obtain ⟨y, hy⟩ : ∃ y, y = powF sk d n := ⟨_, rfl⟩
    rw [← hy] at b1 yl ⊢
    have bv1 : Byt 32 (S1 0 71) v lv := by rw [f1 0 71 (by simp)]; exact bv
    obtain ⟨S2, g2, f2, b2, a2, w2⟩ := Q8_maskFrame (G := G) (F := F) (S := S1) (xs := y) (a := 1) (many := 32) (sd := 33) (sn := y.length - 33) X h hd (by omega) (by omega) (by omega) (by omega) b1 bv1
    obtain ⟨v2, lv2, bv2⟩ := w2
    obtain ⟨y2, hy2⟩ : ∃ y2, y2 = mskL y (seg y 33 (y.length - 33)) 1 32 := ⟨_, rfl⟩
    rw [← hy2] at b2
    have y2l : y2.length = y.length := by rw [hy2, mskL_len]
    obtain ⟨S3, g3, f3, b3, a3, w3⟩ := Q8_maskFrame (G := G) (F := F) (S := S2) (xs := y2) (a := 33) (many := y.length - 33) (sd := 1) (sn := 32) X h hd (by omega) (by omega) (by omega) (by omega) b2 bv2
    have ey : mskL y2 (seg y2 1 32) 33 (y.length - 33) = oaU y := by rw [hy2]; rfl
    rw [ey] at b3
    have ul : (oaU y).length = n.length := by rw [oaU_len, yl]
    have fr3 : fr [(4, 0), (6, 0), (8, 0), (0, 69), (0, 71)] S S3 := ((f1.mono (by simp)).trans (f2.mono (by simp))).trans (f3.mono (by simp))
    have bw3 : Byt 128 (S3 0 70) w lw := by rw [fr3 0 70 (by simp)]; exact bw
    obtain ⟨o4, g4, b4⟩ := Q0_clear (G := G) (F := F) (S := S3) h.b4 bw3
    obtain ⟨S5, g5, f5, a5, b5⟩ := Q8_putEmptyHash (G := G) (F := F) (S := S3.so 0 70 o4) (it := 70) X h hd h.b4 (by rw [so_eq]; exact b4)
    have sl : (sha false []).length = 32 := sha_len _ _
    rw [tkl_fit (by rw [List.length_nil]; omega), lsl_fit (by rw [List.length_nil]; omega), List.nil_append] at b5
    have fr5 : fr [(4, 0), (6, 0), (8, 0), (0, 69), (0, 70), (0, 71)] S S5 := ((fr3.mono (by simp)).trans (fr_so (by simp))).trans (f5.mono (by simp))
    have b69 : Byt 128 (S5 0 69) (oaU y) false := by rw [f5 0 69 (by simp), so_ne (by omega)]; exact b3
    have b71 : ∃ u l, Byt 32 (S5 0 71) u l := by rw [f5 0 71 (by simp), so_ne (by omega)]; exact w3
    have bn5 : Byt rn (S5 0 in_) n ln := by rw [fr5 0 in_ (by simp; omega)]; exact bn
    have bt5 : Byt rt (S5 0 it) t lt := by rw [fr5 0 it (by simp; omega)]; exact bt
    have bnk : ∀ S', fr [(4, 0), (6, 0), (8, 0), (0, 69), (0, 71)] S S' → Byt rn (S' 0 in_) n ln := fun S' f => by rw [f 0 in_ (by simp; omega)]; exact bn
    have e33 : ∀ (S' : ST), (Int32.ofNat n.length) - (1 : Int32) - (32 : Int32) = (Int32.ofNat (y.length - 33)) := fun _ => by
      rw [n_subL 1 (by omega), n_subL 32 (by omega), yl, show n.length - 1 - 32 = n.length - 33 by omega]
    have g2 : P_X8_maskFrame G F (W.ad (.o 8 0)) 33 (Int32.ofNat (y.length - 33)) 1 32 (mem W S1) = some (mem W S2) := g2
    have g3 : P_X8_maskFrame G F (W.ad (.o 8 0)) 1 32 33 (Int32.ofNat (y.length - 33)) (mem W S2) = some (mem W S3) := g3
    have gt0 : P_X0_get G F (W.ad (.o 0 69)) 0 (mem W S5) = some (gB (oaU y) 0, mem W S5) := Q0_get (j := 0) h.b3 b69 (by decide)
    have stay : ∀ r : Option (List UInt8), r = none → ∃ S', some ((0 : Int32), mem W S5) = some (if r.isSome = true then (1 : Int32) else 0, mem W S') ∧ fr [(4, 0), (6, 0), (8, 0), (0, 69), (0, 70), (0, 71), (0, it)] S S' ∧ (∃ u l, Byt 128 (S' 0 69) u l) ∧ (∃ u l, Byt 128 (S' 0 70) u l) ∧ (∃ u l, Byt 32 (S' 0 71) u l) ∧ (∃ u l, Byt rt (S' 0 it) u l) ∧ ∀ mm, r = some mm → Byt rt (S' 0 it) mm false := fun r hr => by
      rw [hr]
      exact ⟨S5, rfl, fr5.mono (by simp), ⟨_, _, b69⟩, ⟨_, _, b5⟩, b71, ⟨_, _, bt5⟩, fun mm q => absurd q (by simp)⟩
    rw [if_pos c0, if_neg (by decide), h.g3, bO_s, rcv_m h.1, bO_s, g1, bO_s, hN.gI 1 rfl, bO_s, (bnk S1 (f1.mono (by simp))).many, rcv_m h.1, bO_s, e33 S, g2, bO_s, hN.gI 1 rfl, bO_s, (bnk S2 ((f1.mono (by simp)).trans (f2.mono (by simp)))).many, rcv_m h.1, bO_s, e33 S, g3, bO_s, h.g4, bO_s, rcv_m h.b4.lo, bO_s, g4, bO_s, h.g4, bO_s, rcv_m h.1, bO_s, g5, bO_s, h.g3, bO_s, rcv_m h.b3.lo, bO_s, gt0, bP_s, gB_getD]
    simp only [b32_eq (c := (oaU y).getD 0 0) (show (0 : Int32) = b32 0 from rfl)]
    by_cases c1 : (oaU y).getD 0 0 = 0
    · have cm := Q0_compare (G := G) (F := F) (S := S5) (a := 0) (b := 33) (cnt := 32) X h.b4 b5 h.b3 b69 (by omega) (by omega) (by omega)
      have cm : P_X0_compare G F (W.ad (.o 0 70)) 0 (W.ad (.o 0 69)) 33 32 (mem W S5) = _ := cm
      have sg := seg_iff (xs := sha false []) (ys := oaU y) (a := 0) (b := 33) (n := 32) (by omega) (by omega)
      rw [seg_all sl] at sg
      rw [if_pos c1, h.g4, bO_s, h.g3, bO_s, cm, bP_s]
      by_cases c2 : cmpF (fun k => gB (sha false []) (0 + k)) (fun k => gB (oaU y) (33 + k)) 0 32 = 0
      · have eq := sg.mpr ((cmpF_zero 32 0).mp c2)
        obtain ⟨S6, g6, f6, w6, q6⟩ := Q8_oa113 (G := G) (F := F) (S := S5) h hN bn5 hT bt5 b69 ul hrt nn.2.2.2 nt.1 (n.length - 65) 65 F (by omega) (by omega) (by omega)
        have g6 : B_X8_openOaep_113 G F F (W.ad (.o 8 0)) (W.ad (.o 0 in_)) (W.ad (.o 0 it)) 65 65 (mem W S5) = _ := g6
        rw [if_pos c2, g6, if_pos (c := numF sk n = true ∧ (oaU y).getD 0 0 = 0 ∧ seg (oaU y) 33 32 = sha false []) ⟨c0, c1, eq.symm⟩]
        refine ⟨S6, rfl, (fr5.mono (by simp)).trans (f6.mono (by simp)), ⟨_, _, by rw [f6 0 69 (by simp; omega)]; exact b69⟩, ⟨_, _, by rw [f6 0 70 (by simp; omega)]; exact b5⟩, ?_, w6, q6⟩
        rw [f6 0 71 (by simp; omega)]
        exact b71
      · rw [if_neg c2, retZ0]
        exact stay _ (if_neg (fun q => c2 ((cmpF_zero 32 0).mpr (sg.mp q.2.2.symm))))
    · rw [if_neg c1, retZ0]
      exact stay _ (if_neg (fun q => c1 q.2.1))
  · rw [if_neg c0, if_pos rfl, retZ0, if_neg (c := numF sk n = true ∧ (oaU (powF sk d n)).getD 0 0 = 0 ∧ seg (oaU (powF sk d n)) 33 32 = sha false []) (fun q => c0 q.1)]
    exact ⟨S, rfl, fr.refl _ _, ⟨_, _, bu⟩, ⟨_, _, bw⟩, ⟨_, _, bv⟩, ⟨_, _, bt⟩, fun mm q => absurd q (by simp)⟩
end COA
