/-! A SALTED FRAME: the model -/
theorem lo8_an (a b : Int32) : lo8 (a &&& b) = lo8 a &&& lo8 b := by
  apply UInt8.toBitVec_inj.mp
  rw [UInt8.toBitVec_and]
  show (a &&& b).toBitVec.setWidth 8 = a.toBitVec.setWidth 8 &&& b.toBitVec.setWidth 8
  rw [Int32.toBitVec_and, BitVec.setWidth_and]
theorem psB_at {z salt : List UInt8} {e j : Nat} (hs : salt.length = 32) (he : 66 ≤ e) (hj : j < e) : (psB z salt e)[j]? = some (if j < e - 66 then 0 else if j = e - 66 then 1 else if j < e - 33 then salt.getD (j - (e - 65)) 0 else if j < e - 1 then (sltF z salt).getD (j - (e - 33)) 0 else 188) := by
  have hl := sltF_len z salt
  have g : ∀ (xs : List UInt8) (q : Nat), q < xs.length → xs[q]? = some (xs.getD q 0) := fun xs q hq => by
    rw [List.getD_eq_getElem?_getD, List.getElem?_eq_getElem hq]
    rfl
  have rl : (List.replicate (e - 66) (0 : UInt8)).length = e - 66 := List.length_replicate
  unfold psB
  by_cases c1 : j < e - 66
  · rw [List.getElem?_append_left (by omega), List.getElem?_replicate, if_pos c1, if_pos c1]
  · rw [if_neg c1, List.getElem?_append_right (by omega), rl]
    by_cases c2 : j = e - 66
    · rw [if_pos c2, c2, Nat.sub_self]
      rfl
    · rw [if_neg c2]
      obtain ⟨q, hq⟩ : ∃ q, j - (e - 66) = q + 1 := ⟨j - (e - 66) - 1, by omega⟩
      rw [hq, List.getElem?_cons_succ]
      by_cases c3 : j < e - 33
      · rw [if_pos c3, List.getElem?_append_left (by omega), g _ _ (by omega), show q = j - (e - 65) by omega]
      · rw [if_neg c3, List.getElem?_append_right (by omega), hs]
        by_cases c4 : j < e - 1
        · rw [if_pos c4, List.getElem?_append_left (by omega), g _ _ (by omega), show q - 32 = j - (e - 33) by omega]
        · rw [if_neg c4, List.getElem?_append_right (by omega), hl, show q - 32 - 32 = 0 by omega]
          rfl
/-- the frame before its mask, in the model's array -/
def psG (β : Nat → UInt8) (z salt : List UInt8) (f e : Nat) : Nat → UInt8 := wrB (va_up (wrB β (f + e - 33) (sltF z salt)) (f + e - 66) 1) (f + e - 65) salt
theorem psG_at {β : Nat → UInt8} {z salt : List UInt8} {f e n : Nat} (hs : salt.length = 32) (he : 66 ≤ e) (hn : f + e = n) (h0 : ∀ j, j < n → β j = 0) : (∀ j, j < f → psG β z salt f e j = 0) ∧ (∀ j, j < e - 1 → some (psG β z salt f e (f + j)) = (psB z salt e)[j]?) ∧ rdB (psG β z salt f e) (f + e - 33) 32 = sltF z salt := by
  have hl := sltF_len z salt
  have ev : ∀ q, psG β z salt f e q = if f + e - 65 ≤ q ∧ q < f + e - 65 + salt.length then salt.getD (q - (f + e - 65)) 0 else if q = f + e - 66 then 1 else if f + e - 33 ≤ q ∧ q < f + e - 33 + (sltF z salt).length then (sltF z salt).getD (q - (f + e - 33)) 0 else β q := fun q => rfl
  refine ⟨fun j hj => ?_, fun j hj => ?_, ?_⟩
  · rw [ev, if_neg (by omega), if_neg (by omega), if_neg (by omega), h0 j (by omega)]
  · rw [psB_at hs he (by omega)]
    congr 1
    rw [ev, hs, hl]
    by_cases c1 : j < e - 66
    · rw [if_neg (by omega), if_neg (by omega), if_neg (by omega), if_pos c1, h0 _ (by omega)]
    · rw [if_neg c1]
      by_cases c2 : j = e - 66
      · rw [if_neg (by omega), if_pos (by omega), if_pos c2]
      · rw [if_neg c2]
        by_cases c3 : j < e - 33
        · rw [if_pos (by omega), if_pos c3, show f + j - (f + e - 65) = j - (e - 65) by omega]
        · rw [if_neg (by omega), if_neg (by omega), if_pos (by omega), if_neg c3, if_pos (by omega), show f + j - (f + e - 33) = j - (e - 33) by omega]
  · unfold psG
    rw [rdB_off (by rw [hs]; omega)]
    have e1 : rdB (va_up (wrB β (f + e - 33) (sltF z salt)) (f + e - 66) 1) (f + e - 33) 32 = rdB (wrB β (f + e - 33) (sltF z salt)) (f + e - 33) 32 := by
      apply rdB_iff.mpr
      intro j hj
      unfold va_up
      rw [if_neg (by omega)]
    rw [e1]
    have := rdB_wrB β (f + e - 33) (sltF z salt)
    rw [hl] at this
    exact this
/-- the whole frame -/
def psH (β : Nat → UInt8) (z salt : List UInt8) (f e : Nat) (x : UInt8) : Nat → UInt8 := va_up (va_up (mskB (psG β z salt f e) (sltF z salt) f (e - 33)) f x) (f + e - 1) 188
theorem psH_at {β : Nat → UInt8} {z salt : List UInt8} {f e n bits : Nat} {x : UInt8} (hs : salt.length = 32) (hn : f + e = n) (he : 66 ≤ e) (heb : e = (bits + 7) / 8) (h0 : ∀ j, j < n → β j = 0) (hx : x = mskB (psG β z salt f e) (sltF z salt) f (e - 33) f &&& lo8 ((255 : Int32) >>> (((Int32.ofNat (8 * e)) - (Int32.ofNat bits)) &&& 31))) : rdB (psH β z salt f e x) f e = psF z salt bits ∧ ∀ j, j < f → psH β z salt f e x j = 0 := by
  obtain ⟨p1, p2, p3⟩ := psG_at (z := z) (salt := salt) hs he hn h0
  have bl := psB_len (z := z) hs he
  have ml := psM_len (z := z) hs he
  have sg : seg (psB z salt e) (e - 33) 32 = sltF z salt := by
    have hl := sltF_len z salt
    apply List.ext_getElem?
    intro q
    by_cases c : q < 32
    · rw [seg_g c, psB_at hs he (by omega), if_neg (by omega), if_neg (by omega), if_neg (by omega), if_pos (by omega), show e - 33 + q - (e - 33) = q by omega, List.getD_eq_getElem?_getD, List.getElem?_eq_getElem (by omega)]
      rfl
    · rw [List.getElem?_eq_none (by rw [seg_len (by omega)]; omega), List.getElem?_eq_none (by omega)]
  have gd : ∀ j, j < e - 1 → (psB z salt e).getD j 0 = psG β z salt f e (f + j) := fun j hj => by
    rw [List.getD_eq_getElem?_getD, ← p2 j hj]
    rfl
  -- the masked frame
  have mk : ∀ j, j < e - 1 → (psM z salt e)[j]? = some (mskB (psG β z salt f e) (sltF z salt) f (e - 33) (f + j)) := by
    intro j hj
    unfold psM
    rw [mskL_at (by omega), sg, gd j hj]
    unfold mskB
    by_cases c : j < e - 33
    · rw [if_pos (by omega), if_pos (by omega), show f + j - f = j - 0 by omega]
    · rw [if_neg (by omega), if_neg (by omega)]
  have mlast : (psM z salt e)[e - 1]? = some 188 := by
    unfold psM
    rw [mskL_at (by omega), if_neg (by omega), List.getD_eq_getElem?_getD, psB_at hs he (by omega), if_neg (by omega), if_neg (by omega), if_neg (by omega), if_neg (by omega)]
    rfl
  have m0 := mk 0 (by omega)
  have x0 : x = lo8 (gB (psM z salt e) 0 &&& ((255 : Int32) >>> (((Int32.ofNat (8 * e)) - (Int32.ofNat bits)) &&& 31))) := by
    rw [lo8_an, hx]
    congr 1
    have l0 : 0 < (psM z salt e).length := by omega
    rw [gB_lt l0, lo8_b32]
    rw [List.getElem?_eq_getElem l0] at m0
    exact (Option.some.inj m0).symm
  constructor
  · apply List.ext_getElem?
    intro j
    have fl : (psF z salt bits).length = e := by
      unfold psF
      rw [List.length_set, ← heb]
      exact ml
    by_cases c : j < e
    · rw [rdB_at c]
      unfold psF
      rw [← heb, List.getElem?_set, ← x0]
      unfold psH va_up
      by_cases c1 : j = e - 1
      · rw [if_pos (by omega), if_neg (by omega), c1, mlast]
      · rw [if_neg (by omega)]
        by_cases c2 : j = 0
        · rw [if_pos (by omega), if_pos (by omega), if_pos (by omega)]
        · rw [if_neg (by omega), if_neg (by omega), mk j (by omega)]
    · rw [List.getElem?_eq_none (by rw [rdB_len]; omega), List.getElem?_eq_none (by omega)]
  · intro j hj
    unfold psH va_up mskB
    rw [if_neg (by omega), if_neg (by omega), if_neg (by omega)]
    exact p1 j hj
section MSA
variable {W : WR} {G : mG} {F : Nat} {S : ST}
/-- the digest of eight zeros, a digest and a salt -/
theorem oM_salted {o : Ob} {kx p : Nat} {z salt : List UInt8} {ζ χ : Nat → UInt8} (X : Cx G F W) (h : isM W) (hd : mDig o) (b81 : mB o 81 ζ) (rz_ : rdB ζ 0 32 = z) (qx : (kdA 13)[kx]? = some 1) (nx : kx ∉ [36, 31, 32, 35]) (lx : mLen kx < 2 ^ 30) (hp : p + 32 ≤ mLen kx) (bx : mB o kx χ) (rx : rdB χ p 32 = salt) : ∃ o1 o2 o3 o4 o5 γ, P_X13_empty G F (W.ad (.o 13 0)) (mem W (S.so 13 0 o)) = some (mem W (S.so 13 0 o1)) ∧ P_X13_layNumber G F (W.ad (.o 13 0)) 0 8 (mem W (S.so 13 0 o1)) = some (mem W (S.so 13 0 o2)) ∧ P_X13_lay G F (W.ad (.o 13 0)) (W.ad (.a 13 0 81)) 0 32 (mem W (S.so 13 0 o2)) = some (mem W (S.so 13 0 o3)) ∧ P_X13_lay G F (W.ad (.o 13 0)) (W.ad (.a 13 0 kx)) (Int32.ofNat p) 32 (mem W (S.so 13 0 o3)) = some (mem W (S.so 13 0 o4)) ∧ P_X13_digestOf G F (W.ad (.o 13 0)) 256 (mem W (S.so 13 0 o4)) = some (32, mem W (S.so 13 0 o5)) ∧ mB o5 35 (wrB γ 0 (sltF z salt)) ∧ mDig o5 ∧ agr [37] [] [36, 31, 32, 35] [33, 34] o o5 := by
  obtain ⟨⟨γ, hγ⟩, ⟨μ, hμ⟩, ⟨π, hπ⟩, ν, hν⟩ := id hd
  have zl : z.length = 32 := by rw [← rz_, rdB_len]
  have sl : salt.length = 32 := by rw [← rx, rdB_len]
  obtain ⟨e1, e2⟩ := QM_empty (G := G) (F := F) (S := S.so 13 0 o) h (by rw [so_eq]; exact hμ)
  rw [so_so, so_eq] at e1
  rw [so_eq] at e2
  have a1 : agr [37] [] [36] [] o (o.sf 37 0) := agr_sf (by simp)
  obtain ⟨o2, n1, n2, n3⟩ := QM_layNumber (G := G) (F := F) (S := S.so 13 0 (o.sf 37 0)) (cnt := 8) (x := 0) (msg := []) X h (by decide) (by rw [so_eq]; exact e2) (by decide)
  rw [so_so] at n1
  rw [so_eq] at n3
  have w8 : ([] : List UInt8) ++ beL 8 0 = w4 0 ++ w4 0 := by decide +kernel
  rw [w8] at n2
  have a2 : agr [37] [] [36] [] o o2 := a1.trans n3
  obtain ⟨o3, l1, l2, l3⟩ := QM_lay' (G := G) (F := F) (S := S) (o := o2) (k := 81) (p := 0) (cnt := 32) X h rfl (by decide) (by decide) (by decide) n2 (by decide) (a2.mB b81 (by decide))
  rw [rz_] at l2
  have a3 := a2.trans l3
  have nx' : kx ∉ [36] := fun q => nx (by simp at q; rw [q]; simp)
  obtain ⟨o4, m1, m2, m3⟩ := QM_lay' (G := G) (F := F) (S := S) (o := o3) (k := kx) (p := p) (cnt := 32) X h qx (fun q => nx (by rw [q]; simp)) lx hp l2 (by rw [List.length_append, zl]; decide) (a3.mB bx nx')
  rw [rx] at m2
  have a4 := a3.trans m3
  obtain ⟨o5, g5, b5, s5, a5⟩ := QM_digestOf (G := G) (F := F) (S := S.so 13 0 o4) (wide := false) (msg := w4 0 ++ w4 0 ++ z ++ salt) X h (by rw [so_eq]; exact m2) (by rw [so_eq]; exact a4.mB hγ (by decide)) (by rw [List.length_append, List.length_append, zl, sl]; decide)
  rw [so_so] at g5
  rw [so_eq] at a5
  have es : sha false (w4 0 ++ w4 0 ++ z ++ salt) = sltF z salt := by
    unfold sltF
    simp only [List.append_assoc]
  rw [es] at b5
  have aa : agr [37] [] [36, 31, 32, 35] [33, 34] o o5 := (a4.mono (by simp) (by simp) (by simp) (by simp)).trans a5
  have d5 : mDig o5 := by
    obtain ⟨_, _, β', w, _⟩ := s5
    exact ⟨⟨_, b5⟩, ⟨_, w⟩, ⟨π, aa.mB hπ (by decide)⟩, ν, aa.mB hν (by decide)⟩
  exact ⟨_, o2, o3, o4, o5, γ, e1, n1, l1, m1, g5, b5, d5, aa⟩
end MSA
