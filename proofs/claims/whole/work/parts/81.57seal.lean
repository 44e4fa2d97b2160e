/-! THE CALLS seal AND open OF THE CLASS -/
def isw (x : Int32) : Bool := decide (0 ≤ x ∧ x < 4)
theorem isw_cases (x : Int32) : (isw x = false) ∨ ∃ w, w < 4 ∧ x = (Int32.ofNat w) ∧ isw x = true := by
  rcases i_cases x with h | ⟨j, hj, rfl⟩
  · left
    unfold isw
    exact decide_eq_false (fun q => by
      have a := Int32.lt_iff_toInt_lt.mp h
      have b := Int32.le_iff_toInt_le.mp q.1
      omega)
  · by_cases h4 : j < 4
    · right
      refine ⟨j, h4, rfl, ?_⟩
      unfold isw
      refine decide_eq_true ⟨?_, ?_⟩
      · rw [z32]; exact (n_le (by omega) hj).mpr (by omega)
      · rw [lit 4]; exact (n_lt hj (by omega)).mpr h4
    · left
      unfold isw
      refine decide_eq_false (fun q => ?_)
      have := q.2
      rw [lit 4] at this
      exact h4 ((n_lt hj (by omega)).mp this)
def waySt (rows : Nat → List UInt8) (w k b : Int32) : Bool := isw w && (isr k && (isr b && (decide ((rows k.toNatClampNeg).length = wayK w.toNatClampNeg) && decide ((rows b.toNatClampNeg).length = ivOf w.toNatClampNeg))))
/-- none: refused; some none: too large (seal), not opened (open) -/
def sealC (rows : Nat → List UInt8) (w k b a r : Int32) : Option (Option (List UInt8)) := if waySt rows w k b && (isr a && isr r) then (if (sealF w.toNatClampNeg (rows k.toNatClampNeg) (rows b.toNatClampNeg) (rows a.toNatClampNeg) (rows r.toNatClampNeg)).length ≤ 8192 then some (some (sealF w.toNatClampNeg (rows k.toNatClampNeg) (rows b.toNatClampNeg) (rows a.toNatClampNeg) (rows r.toNatClampNeg))) else some none) else none
def openCC (rows : Nat → List UInt8) (w k b a r : Int32) : Option (Option (List UInt8)) := if waySt rows w k b && (isr a && isr r) then some (openF w.toNatClampNeg (rows k.toNatClampNeg) (rows b.toNatClampNeg) (rows a.toNatClampNeg) (rows r.toNatClampNeg)) else none
theorem waySt_i {rows : Nat → List UInt8} {w k b : Int32} (h : waySt rows w k b = true) : ∃ w' k' b', w' < 4 ∧ k' < 8 ∧ b' < 8 ∧ w = (Int32.ofNat w') ∧ k = (Int32.ofNat k') ∧ b = (Int32.ofNat b') ∧ (rows k').length = wayK w' ∧ (rows b').length = ivOf w' := by
  unfold waySt at h
  rcases isw_cases w with hw | ⟨w', hw', rfl, hw⟩
  · rw [hw] at h; simp at h
  rcases isr_cases k with hk | ⟨k', hk', rfl, hk⟩
  · rw [hk] at h; simp at h
  rcases isr_cases b with hb | ⟨b', hb', rfl, hb⟩
  · rw [hb] at h; simp at h
  rw [n_at (by omega), n_at (by omega), n_at (by omega), hw, hk, hb] at h
  simp at h
  exact ⟨w', k', b', hw', hk', hb', rfl, rfl, rfl, h.1, h.2⟩
theorem way_t6 {W : WR} {G : mG} {F : Nat} {S : ST} {way : Nat} (X : Cx G F W) (hw : way < 4) : aI G (mem W S) 0 (G.1 1006) (Int32.ofNat way) = some (Int32.ofNat (ivOf way)) := by
  have hl : (mtI 6).length = 4 := by decide +kernel
  have := tab_at (W := W) (S := S) (t := 6) (j := way) X rfl (by omega) (by omega)
  rw [show (1000 + 6 : Nat) = 1006 from rfl] at this
  rw [this]
  have : way = 0 ∨ way = 1 ∨ way = 2 ∨ way = 3 := by omega
  rcases this with rfl | rfl | rfl | rfl <;> rfl
section SEAL
variable {W : WR} {G : mG} {F : Nat}
theorem Q11_waySuits {S : ST} {rows : Nat → List UInt8} {w k b : Int32} (X : Cx G F W) (h : isT W) (hR : ∀ r, r < 8 → ∃ l, Byt 8192 (S 0 r) (rows r) l) : P_X11_waySuits G F (W.ad (.o 11 0)) w k b (mem W S) = some (if waySt rows w k b then 1 else 0, mem W S) := by
  unfold P_X11_waySuits
  rcases isw_cases w with hw | ⟨w', hw', rfl, hw⟩
  · have hq : waySt rows w k b = false := by unfold waySt; rw [hw]; rfl
    rw [hq]
    rcases i_cases w with hn | ⟨j, hj, rfl⟩
    · rw [if_pos hn, retZ0]; rfl
    · rw [if_neg (nn hj)]
      have h4 : ¬ j < 4 := fun q => by
        have : isw (Int32.ofNat j) = true := by
          unfold isw
          refine decide_eq_true ⟨?_, ?_⟩
          · rw [z32]; exact (n_le (by omega) hj).mpr (by omega)
          · rw [lit 4]; exact (n_lt hj (by omega)).mpr q
        rw [hw] at this
        exact absurd this (by decide)
      rw [if_pos (by rw [lit 4]; exact (n_le (by omega) hj).mpr (by omega)), retZ0]; rfl
  · rw [if_neg (nn (by omega)), if_neg (by rw [lit 4]; exact fun q => absurd ((n_le (by omega) (by omega)).mp q) (by omega)), rcv_m h.lo, bO_s, Q11_isRow, bP_s]
    rcases isr_cases k with hk | ⟨k', hk', rfl, hk⟩
    · have hq : waySt rows (Int32.ofNat w') k b = false := by unfold waySt; rw [hk]; simp
      rw [hk, if_pos (by rfl), retZ0, hq]; rfl
    · rw [hk, if_neg (by decide), rcv_m h.lo, bO_s, Q11_isRow, bP_s]
      rcases isr_cases b with hb | ⟨b', hb', rfl, hb⟩
      · have hq : waySt rows (Int32.ofNat w') (Int32.ofNat k') b = false := by unfold waySt; rw [hb]; simp
        rw [hb, if_pos (by rfl), retZ0, hq]; rfl
      · obtain ⟨lk, bk⟩ := hR k' hk'
        obtain ⟨lb, bb_⟩ := hR b' hb'
        have hlk := bk.le
        have hlb := bb_.le
        have hwk : wayK w' < 100 := by
          unfold wayK
          split
          · omega
          · split
            · omega
            · split <;> omega
        have hiv : ivOf w' < 100 := by unfold ivOf; split <;> omega
        have hq : waySt rows (Int32.ofNat w') (Int32.ofNat k') (Int32.ofNat b') = (decide ((rows k').length = wayK w') && decide ((rows b').length = ivOf w')) := by
          unfold waySt
          rw [hw, hk, hb, n_at (by omega), n_at (by omega), n_at (by omega)]
          rfl
        rw [hb, if_neg (by decide), h.gR rfl h.ra, bO_s, h.row hk', bO_s, (h.rb k' hk').gI 1 rfl, bO_s, bk.many, way_t5 X hw', bO_s, hq]
        by_cases c1 : (rows k').length = wayK w'
        · rw [if_pos (show (Int32.ofNat (rows k').length) = (Int32.ofNat (wayK w')) by rw [c1]), bO_s, h.row hb', bO_s, (h.rb b' hb').gI 1 rfl, bO_s, bb_.many, way_t6 X hw', bO_s]
          by_cases c2 : (rows b').length = ivOf w'
          · rw [if_pos (show (Int32.ofNat (rows b').length) = (Int32.ofNat (ivOf w')) by rw [c2]), retZ1]
            simp [c1, c2]
          · rw [if_neg (fun q => c2 ((n_eq (by omega) (by omega)).mp q)), retZ0]
            simp [c2]
        · rw [if_neg (fun q => c1 ((n_eq (by omega) (by omega)).mp q)), retZ0]
          simp [c1]
theorem Q11_seal {S : ST} {rows : Nat → List UInt8} {t ys zs : List UInt8} {l l4 l5 : Bool} {w k b a r : Int32} (X : Cx G F W) (h : isT W) (hd : isD W) (hc : isCi W) (ho : isCo W) (h14 : W.r 11 0 14 = some (.o 2 0)) (hs : Byt 8192 (S 0 9) t l) (hR : ∀ r, r < 8 → ∃ l, Byt 8192 (S 0 r) (rows r) l) (b4 : Byt 64 (S 0 68) ys l4) (b5 : Byt 64 (S 0 67) zs l5) : ∃ S', P_X11_seal G F (W.ad (.o 11 0)) w k b a r (mem W S) = some (match sealC rows w k b a r with | some (some u) => (Int32.ofNat u.length) | some none => -3 | none => -2, mem W S') ∧ fr (LK 9) S S' ∧ agr [2] [] [1, 3] [] (S 1 0) (S' 1 0) ∧ (∃ ys l, Byt 64 (S' 0 68) ys l) ∧ (∃ zs l, Byt 64 (S' 0 67) zs l) ∧ match sealC rows w k b a r with | some (some u) => Byt 8192 (S' 0 9) u false | some none => S' = S | none => S' = S := by
  unfold P_X11_seal
  have stay : fr (LK 9) S S ∧ agr [2] [] [1, 3] [] (S 1 0) (S 1 0) ∧ (∃ ys l, Byt 64 (S 0 68) ys l) ∧ (∃ zs l, Byt 64 (S 0 67) zs l) := ⟨fr.refl _ _, agr.refl _ _ _ _ _, ⟨ys, l4, b4⟩, ⟨zs, l5, b5⟩⟩
  rw [rcv_m h.lo, bO_s, Q11_waySuits X h hR, bP_s]
  unfold sealC
  cases hws : waySt rows w k b
  · rw [if_pos (by rfl)]
    exact ⟨S, rfl, stay.1, stay.2.1, stay.2.2.1, stay.2.2.2, rfl⟩
  rw [if_neg (by decide), rcv_m h.lo, bO_s, Q11_isRow, bP_s]
  rcases isr_cases a with ha | ⟨a', ha', rfl, ha⟩
  · rw [ha, if_pos (by rfl)]
    exact ⟨S, rfl, stay.1, stay.2.1, stay.2.2.1, stay.2.2.2, rfl⟩
  rw [ha, if_neg (by decide), rcv_m h.lo, bO_s, Q11_isRow, bP_s]
  rcases isr_cases r with hr | ⟨r', hr', rfl, hr⟩
  · rw [hr, if_pos (by rfl)]
    exact ⟨S, rfl, stay.1, stay.2.1, stay.2.2.1, stay.2.2.2, rfl⟩
  obtain ⟨w', k', b', hw', hk', hb', rfl, rfl, rfl, hkl, hbl⟩ := waySt_i hws
  obtain ⟨lk, bk⟩ := hR k' hk'
  obtain ⟨lb, bb_⟩ := hR b' hb'
  obtain ⟨la, ba⟩ := hR a' ha'
  obtain ⟨lr, br⟩ := hR r' hr'
  have hlr := br.le
  have hla := ba.le
  have hlb := bb_.le
  have hwm := wayM_le w'
  have hfl := sealF_len w' (rows k') (rows b') (rows a') (rows r') hw'
  rw [hr, if_neg (by decide), h.gR rfl h.ra, bO_s, h.row hr', bO_s, (h.rb r' hr').gI 1 rfl, bO_s, br.many, n_at (by omega), n_at (by omega), n_at (by omega), n_at (by omega), n_at (by omega)]
  have sb_ : P_X2_sealedBytes G F (Int32.ofNat w') (Int32.ofNat (rows r').length) (mem W S) = some ((Int32.ofNat (if 2 ≤ w' then (rows r').length else ((rows r').length / 16 + 1) * 16)), mem W S) := by
    unfold P_X2_sealedBytes
    by_cases h2 : 2 ≤ w'
    · rw [if_pos (by rw [lit 2]; exact (n_le (by omega) (by omega)).mpr h2), if_pos h2]
    · rw [if_neg (by rw [lit 2]; exact fun q => h2 ((n_le (by omega) (by omega)).mp q)), if_neg h2, show (Int32.ofNat (rows r').length) / (16 : Int32) = (Int32.ofNat ((rows r').length / 16)) from n_div (b := 16) (by omega) (by decide), n_addL _ 1, show (Int32.ofNat ((rows r').length / 16 + 1)) * (16 : Int32) = (Int32.ofNat (((rows r').length / 16 + 1) * 16)) from n_mul _ 16]
  have hle : (if 2 ≤ w' then (rows r').length else ((rows r').length / 16 + 1) * 16) ≤ 8300 := by split <;> omega
  rw [sb_, bP_s, way_t7 X hw', bO_s, n_add, ← hfl]
  simp only [Bool.and_self, if_true]
  by_cases hfit : (sealF w' (rows k') (rows b') (rows a') (rows r')).length ≤ 8192
  · rw [if_pos (by rw [lit 8192]; exact (n_le (by omega) (by omega)).mpr hfit), if_pos hfit, h.gR rfl h14, bO_s, h.gR rfl h.ra, bO_s, h.row hk', bO_s, bO_s, h.row hb', bO_s, bO_s, h.row ha', bO_s, bO_s, h.row hr', bO_s, h.gR rfl h.shown, bO_s, rcv_m ho.1, bO_s]
    obtain ⟨S1, g1, f1, a1, s1, y1, z1⟩ := Q2_lock (S := S) (it := 9) (way := w') X hd hc ho (h.rb k' hk') (h.rb b' hb') (h.rb a' ha') (h.rb r' hr') h.sb (by omega) (by omega) (by omega) (by omega) (by omega) hw' hkl bk bb_ ba br hs b4 b5 (by omega) (by omega) (by omega) hfit
    rw [g1, bO_s, h.gR rfl h.shown, bO_s, h.sb.gI 1 rfl, bO_s, s1.many]
    exact ⟨S1, rfl, f1, a1, y1, z1, s1⟩
  · rw [if_neg (by rw [lit 8192]; exact fun q => hfit ((n_le (by omega) (by omega)).mp q)), if_neg hfit]
    exact ⟨S, rfl, stay.1, stay.2.1, stay.2.2.1, stay.2.2.2, rfl⟩
theorem unpadF_len {D v : List UInt8} (h : unpadF D = some v) : v.length ≤ D.length := by
  unfold unpadF at h
  split at h
  · rw [← Option.some.inj h, List.length_take]; omega
  · exact absurd h (by simp)
theorem openF_len {way : Nat} {key iv al u v : List UInt8} (h : openF way key iv al u = some v) : v.length ≤ u.length := by
  unfold openF at h
  split at h
  · exact absurd h (by simp)
  · unfold openC at h
    have htl : (u.take (u.length - wayM way)).length ≤ u.length := by rw [List.length_take]; omega
    split at h
    · split at h
      · rw [← Option.some.inj h, ctrF_len]; exact htl
      · exact absurd h (by simp)
    · split at h
      · exact absurd h (by simp)
      · split at h
        · have := unpadF_len h
          rw [ucbc_len] at this
          omega
        · exact absurd h (by simp)
theorem Q11_open {S : ST} {rows : Nat → List UInt8} {t p ys zs : List UInt8} {l lp l4 l5 : Bool} {w k b a r : Int32} (X : Cx G F W) (h : isT W) (hd : isD W) (hc : isCi W) (ho : isCo W) (h14 : W.r 11 0 14 = some (.o 2 0)) (hI : IB S) (hs : Byt 8192 (S 0 9) t l) (hp : Byt 8192 (S 0 13) p lp) (hR : ∀ r, r < 8 → ∃ l, Byt 8192 (S 0 r) (rows r) l) (b4 : Byt 64 (S 0 68) ys l4) (b5 : Byt 64 (S 0 67) zs l5) : ∃ S', P_X11_open G F (W.ad (.o 11 0)) w k b a r (mem W S) = some (match openCC rows w k b a r with | some (some u) => (Int32.ofNat u.length) | some none => -1 | none => -2, mem W S') ∧ fr ((0, 9) :: LK 13) S S' ∧ agr [2] [] [1, 3] [] (S 1 0) (S' 1 0) ∧ (∃ ys l, Byt 64 (S' 0 68) ys l) ∧ (∃ zs l, Byt 64 (S' 0 67) zs l) ∧ (∃ p l, Byt 8192 (S' 0 13) p l) ∧ match openCC rows w k b a r with | some (some u) => Byt 8192 (S' 0 9) u false | some none => S' 0 9 = S 0 9 | none => S' 0 9 = S 0 9 := by
  unfold P_X11_open
  have stay : fr ((0, 9) :: LK 13) S S ∧ agr [2] [] [1, 3] [] (S 1 0) (S 1 0) ∧ (∃ ys l, Byt 64 (S 0 68) ys l) ∧ (∃ zs l, Byt 64 (S 0 67) zs l) ∧ (∃ p l, Byt 8192 (S 0 13) p l) := ⟨fr.refl _ _, agr.refl _ _ _ _ _, ⟨ys, l4, b4⟩, ⟨zs, l5, b5⟩, ⟨p, lp, hp⟩⟩
  rw [rcv_m h.lo, bO_s, Q11_waySuits X h hR, bP_s]
  unfold openCC
  cases hws : waySt rows w k b
  · rw [if_pos (by rfl)]
    exact ⟨S, rfl, stay.1, stay.2.1, stay.2.2.1, stay.2.2.2.1, stay.2.2.2.2, rfl⟩
  rw [if_neg (by decide), rcv_m h.lo, bO_s, Q11_isRow, bP_s]
  rcases isr_cases a with ha | ⟨a', ha', rfl, ha⟩
  · rw [ha, if_pos (by rfl)]
    exact ⟨S, rfl, stay.1, stay.2.1, stay.2.2.1, stay.2.2.2.1, stay.2.2.2.2, rfl⟩
  rw [ha, if_neg (by decide), rcv_m h.lo, bO_s, Q11_isRow, bP_s]
  rcases isr_cases r with hr | ⟨r', hr', rfl, hr⟩
  · rw [hr, if_pos (by rfl)]
    exact ⟨S, rfl, stay.1, stay.2.1, stay.2.2.1, stay.2.2.2.1, stay.2.2.2.2, rfl⟩
  obtain ⟨w', k', b', hw', hk', hb', rfl, rfl, rfl, hkl, hbl⟩ := waySt_i hws
  obtain ⟨lk, bk⟩ := hR k' hk'
  obtain ⟨lb, bb_⟩ := hR b' hb'
  obtain ⟨la, ba⟩ := hR a' ha'
  obtain ⟨lr, br⟩ := hR r' hr'
  have hlr := br.le
  have hla := ba.le
  have hlb := bb_.le
  have hlk := bk.le
  rw [hr, if_neg (by decide), h.gR rfl h14, bO_s, h.gR rfl h.ra, bO_s, h.row hk', bO_s, bO_s, h.row hb', bO_s, bO_s, h.row ha', bO_s, bO_s, h.row hr', bO_s, h.gR rfl h.plain, bO_s, rcv_m ho.1, bO_s, n_at (by omega), n_at (by omega), n_at (by omega), n_at (by omega), n_at (by omega)]
  simp only [Bool.and_self, if_true]
  obtain ⟨S1, g1, f1, a1, x1, v1, y1, z1⟩ := Q2_unlock (S := S) (it := 13) (way := w') X hd hc ho (h.rb k' hk') (h.rb b' hb') (h.rb a' ha') (h.rb r' hr') h.pb (by omega) (by omega) (by omega) (by omega) (by omega) hw' hI bk bb_ ba br hp b4 b5 (by omega) (by omega) (by omega) (by omega) (by omega)
  have s9 : S1 0 9 = S 0 9 := f1 0 9 (by simp)
  rw [g1, bP_s]
  cases hof : openF w' (rows k') (rows b') (rows a') (rows r') with
  | none =>
    rw [if_pos (by simp)]
    exact ⟨S1, rfl, f1.mono (fun x hx => List.mem_cons_of_mem _ hx), a1, y1, z1, x1, s9⟩
  | some v =>
    have bv := v1 v hkl hof
    have hvl := openF_len hof
    rw [if_neg (show ¬ (if (rows k').length = wayK w' ∧ (some v).isSome = true then (1 : Int32) else 0) = 0 by simp [hkl]), h.gR rfl h.plain, bO_s, bO_s, h.pb.gI 1 rfl, bO_s, bv.many, rcv_m h.lo, bO_s]
    obtain ⟨o2, g2, b2⟩ := Q11_show (G := G) (F := F) (S := S1) (i := 13) (p := 0) (n := v.length) h (by rw [s9]; exact hs) h.pb bv (by omega) (by omega) (by omega)
    rw [List.drop_zero, List.take_length] at b2
    have g2' : P_X11_show G F (W.ad (.o 11 0)) (W.ad (.o 0 13)) 0 (Int32.ofNat v.length) (mem W S1) = some ((Int32.ofNat v.length), mem W (S1.so 0 9 o2)) := g2
    rw [g2', bP_s]
    obtain ⟨yy, ly, y1⟩ := y1
    obtain ⟨zz, lz, z1⟩ := z1
    exact ⟨_, rfl, (f1.mono (fun x hx => List.mem_cons_of_mem _ hx)).trans (fr_so (by simp)), by rw [so_ne (by omega)]; exact a1, ⟨yy, ly, by rw [so_ne (by omega)]; exact y1⟩, ⟨zz, lz, by rw [so_ne (by omega)]; exact z1⟩, ⟨v, false, by rw [so_ne (by omega)]; exact bv⟩, by rw [so_eq]; exact b2⟩
end SEAL
