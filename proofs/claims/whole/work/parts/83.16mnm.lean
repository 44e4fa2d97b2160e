/-! TEXTS OF VALUES: the model's names -/
theorem rd_seg {β : Nat → UInt8} {u a n : Nat} {ys : List UInt8} (h : a + n ≤ ys.length) : rdB (wrB β u ys) (u + a) n = seg ys a n := by
  have := rdB_wrB β u ys
  rw [← seg_rd (p := u) (n := ys.length) h, this]
def m7n (W : WR) (S : ST) (o : Ob) (u : Nat) (β : Nat → UInt8) (run : Option mM) (r : Nat ⊕ (Nat × JT × Nat × Nat)) : Prop := match r with
  | .inl q => ∃ (p' : Int32) (acc' : List UInt8), run = some (mem W (MA S o p' (Int32.ofNat q) u β acc')) ∧ acc'.length ≤ 8192
  | .inr y => run = some (mem W (MA S o (Int32.ofNat y.1) (-1) u β y.2.1.2.2))
section MNM
variable {W : WR} {G : mG} {F : Nat} {S : ST} {ks p0 : Nat} {s : List UInt8} {o : Ob} {β : Nat → UInt8} {J : JT}
theorem QM_142b {q u : Nat} {p' : Int32} {acc : List UInt8} (h : isM W) (hq : q < 2 ^ 31) : B_X13_readName_142 G F (W.ad (.o 13 0)) (mem W (MA S o p' (Int32.ofNat q) u β acc)) = some (mem W (MA S o p' (Int32.ofNat q) u β acc)) := by
  unfold B_X13_readName_142
  rw [ma_lo h, bO_s, QM_good0 h hq, bP_s, if_pos rfl]
theorem ma_24 (h : isM W) {bk u : Nat} {p' fl : Int32} {acc : List UInt8} (e : o.f 24 = (Int32.ofNat bk)) : gfI (mem W (MA S o p' fl u β acc)) (W.ad (.o 13 0)) 13 24 = some (Int32.ofNat bk) := by rw [ma_o h 24 rfl (by decide), e]
theorem QM_37b {q u n bk fuel k : Nat} {p' x y z : Int32} {acc : List UInt8} (h : isM W) (hbk : bk ≤ 1) (h24 : o.f 24 = (Int32.ofNat bk)) (hq : q < 2 ^ 31) : B_X13_readName_37 G F (fuel + 1) (W.ad (.o 13 0)) x y z (Int32.ofNat k) (mem W (MA S o p' (Int32.ofNat q) u β acc)) = some (mem W (MA S o p' (Int32.ofNat q) u β acc)) := by
  rw [B_X13_readName_37, ma_24 h h24, bO_s, ma_r h 16, bO_s, bO_s, ma_aN h 16 bk (by show bk < 2; omega), bO_s]
  split
  · exact QM_142b h hq
  · rw [ma_lo h, bO_s, QM_good0 h hq, bP_s, if_pos rfl]
    exact QM_142b h hq
theorem QM_37 {p y v bk : Nat} {bs : List UInt8} (X : Cx G F W) (h : isM W) (hbk : bk ≤ 1) (h24 : o.f 24 = (Int32.ofNat bk)) (h16 : o.a 16 bk = (Int32.ofNat J.1)) (Y : JX J) (hp : p < 2 ^ 31) (hb : (J.2.2 ++ bs).length ≤ 8192) (hv : v < J.1) (hk6 : J.2.1 1 v = 6) (T : TbM o bk J.2.1 (v + 1) J.1) : ∀ (m k fuel : Nat), m + 1 < fuel → k + m = J.1 → v < k → B_X13_readName_37 G F fuel (W.ad (.o 13 0)) (Int32.ofNat (600 * bk + v)) (Int32.ofNat p) (Int32.ofNat (8200 * bk + J.2.2.length)) (Int32.ofNat (600 * bk + k)) (mem W (MA S o (Int32.ofNat y) (-1) (8200 * bk) β (J.2.2 ++ bs))) = (if (fnF (mName (J.1, J.2.1, J.2.2 ++ bs) v bs) m k).isSome = true then some (mem W (MA S o (Int32.ofNat y) (Int32.ofNat p) (8200 * bk) β (J.2.2 ++ bs))) else B_X13_readName_142 G F (W.ad (.o 13 0)) (mem W (MA S o (Int32.ofNat y) (-1) (8200 * bk) β (J.2.2 ++ bs)))) := by
  have Y2 := Y.2.1
  have Y1 := Y.1
  have ebs : (J.2.2 ++ bs).length = J.2.2.length + bs.length := List.length_append
  have e600 : (600 : Int32) * (Int32.ofNat bk) = (Int32.ofNat (600 * bk)) := by rw [show (600 : Int32) = (Int32.ofNat 600) from rfl, n_mul]
  intro m
  induction m with
  | zero =>
    intro k fuel hf hkm hvk
    obtain ⟨fuel, rfl⟩ : ∃ q, fuel = q + 1 := ⟨fuel - 1, by omega⟩
    rw [B_X13_readName_37, ma_24 h h24, bO_s, ma_r h 16, bO_s, bO_s, ma_aN h 16 bk (by show bk < 2; omega), bO_s, h16, e600, n_add, if_pos ((n_le (by omega) (by omega)).mpr (by omega)), if_neg (show ¬ (fnF (mName (J.1, J.2.1, J.2.2 ++ bs) v bs) 0 k).isSome = true by simp [fnF])]
  | succ m ih =>
    intro k fuel hf hkm hvk
    obtain ⟨fuel, rfl⟩ : ∃ q, fuel = q + 1 + 1 := ⟨fuel - 2, by omega⟩
    have hkl : k < J.1 := by omega
    obtain ⟨a1, a2, a3, a4, a5, a6, a7, a8, a9⟩ := T k (by omega) hkl
    have Yk := Y.2.2 k hkl
    have jl : 600 * bk + k < 1200 := by omega
    have nx : ∀ M, B_X13_readName_37 G F (fuel + 1) (W.ad (.o 13 0)) (Int32.ofNat (600 * bk + v)) (Int32.ofNat p) (Int32.ofNat (8200 * bk + J.2.2.length)) ((Int32.ofNat (600 * bk + k)) + 1) M = B_X13_readName_37 G F (fuel + 1) (W.ad (.o 13 0)) (Int32.ofNat (600 * bk + v)) (Int32.ofNat p) (Int32.ofNat (8200 * bk + J.2.2.length)) (Int32.ofNat (600 * bk + (k + 1))) M := by
      intro M
      rw [n_i1]
      rfl
    have e2 : (paI (J.2.1 2 k) = (Int32.ofNat v)) = (J.2.1 2 k = v + 1) := paI_eq (by omega) (by omega)
    rw [B_X13_readName_37, ma_24 h h24, bO_s, ma_r h 16, bO_s, bO_s, ma_aN h 16 bk (by show bk < 2; omega), bO_s, h16, e600, n_add, if_neg (fun q => absurd ((n_le (by omega) (by omega)).mp q) (by omega)), ma_lo h, bO_s, QM_good1 h, bP_s, if_neg (by decide), ma_r h 7, bO_s, ma_aN h 7 _ jl, bO_s, ma_24 h h24, bO_s, a2, e600, n_sub (by omega), show 600 * bk + v - 600 * bk = v by omega]
    simp only [e2]
    show _ = if (if mName (J.1, J.2.1, J.2.2 ++ bs) v bs k = true then some k else fnF (mName (J.1, J.2.1, J.2.2 ++ bs) v bs) m (k + 1)).isSome = true then _ else _
    have no : mName (J.1, J.2.1, J.2.2 ++ bs) v bs k ≠ true → B_X13_readName_37 G F (fuel + 1) (W.ad (.o 13 0)) (Int32.ofNat (600 * bk + v)) (Int32.ofNat p) (Int32.ofNat (8200 * bk + J.2.2.length)) ((Int32.ofNat (600 * bk + k)) + 1) (mem W (MA S o (Int32.ofNat y) (-1) (8200 * bk) β (J.2.2 ++ bs))) = if (if mName (J.1, J.2.1, J.2.2 ++ bs) v bs k = true then some k else fnF (mName (J.1, J.2.1, J.2.2 ++ bs) v bs) m (k + 1)).isSome = true then some (mem W (MA S o (Int32.ofNat y) (Int32.ofNat p) (8200 * bk) β (J.2.2 ++ bs))) else B_X13_readName_142 G F (W.ad (.o 13 0)) (mem W (MA S o (Int32.ofNat y) (-1) (8200 * bk) β (J.2.2 ++ bs))) := by
      intro hne
      rw [if_neg (c := mName (J.1, J.2.1, J.2.2 ++ bs) v bs k = true) hne, nx]
      exact ih (k + 1) (fuel + 1) (by omega) (by omega) (by omega)
    by_cases c1 : J.2.1 2 k = v + 1
    · have mb : mbr J.2.1 k := ⟨by omega, by rw [c1]; exact hk6⟩
      obtain ⟨b13, b14⟩ := a8 mb
      rw [if_pos c1, ma_r h 14, bO_s, ma_aN h 14 _ jl, bO_s, ma_top h, bO_s, b14, n_sub (by omega), show 8200 * bk + (J.2.2 ++ bs).length - (8200 * bk + J.2.2.length) = bs.length by omega]
      by_cases c2 : J.2.1 9 k = bs.length
      · have g15 : gfR (mem W (MA S o (Int32.ofNat y) (-1) (8200 * bk) β (J.2.2 ++ bs))) (W.ad (.o 13 0)) 13 15 = some (W.ad (.a 13 0 15)) := h.gR 15 rfl (by decide)
        have m15 : mB (MA S o (Int32.ofNat y) (-1) (8200 * bk) β (J.2.2 ++ bs) 13 0) 15 (wrB β (8200 * bk) (J.2.2 ++ bs)) := by rw [ma_13]; rfl
        have sm := QM_same (G := G) (F := F) (S := MA S o (Int32.ofNat y) (-1) (8200 * bk) β (J.2.2 ++ bs)) (k1 := 15) (k2 := 15) (p1 := 8200 * bk + J.2.1 8 k) (p2 := 8200 * bk + J.2.2.length) (n := bs.length) X h rfl rfl (by decide) (by decide) (by show _ ≤ 16400; omega) (by show _ ≤ 16400; omega) m15 m15 (by omega)
        rw [rd_seg (by omega), rd_seg (by omega)] at sm
        have sg : seg (J.2.2 ++ bs) J.2.2.length bs.length = bs := by
          unfold seg
          rw [List.drop_left, List.take_length]
        rw [sg] at sm
        rw [if_pos (by rw [c2]), g15, bO_s, ma_r h 13, bO_s, ma_aN h 13 _ jl, bO_s, bO_s, bO_s, b13, n_sub (by omega), show 8200 * bk + (J.2.2 ++ bs).length - (8200 * bk + J.2.2.length) = bs.length by omega, sm, bP_s]
        by_cases c3 : seg (J.2.2 ++ bs) (J.2.1 8 k) bs.length = bs
        · have mt : mName (J.1, J.2.1, J.2.2 ++ bs) v bs k = true := by
            show (decide (J.2.1 2 k = v + 1) && (decide (J.2.1 9 k = bs.length) && decide (seg (J.2.2 ++ bs) (J.2.1 8 k) bs.length = bs))) = true
            rw [decide_eq_true c1, decide_eq_true c2, decide_eq_true c3]
            rfl
          rw [if_pos c3, if_neg (by decide), if_pos (c := mName (J.1, J.2.1, J.2.2 ++ bs) v bs k = true) mt, ma_lo h, bO_s, QM_fail h, bO_s, nx, QM_37b (n := 0) h hbk h24 hp]
          rfl
        · rw [if_neg c3, if_pos rfl]
          exact no (by
            show (decide (J.2.1 2 k = v + 1) && (decide (J.2.1 9 k = bs.length) && decide (seg (J.2.2 ++ bs) (J.2.1 8 k) bs.length = bs))) ≠ true
            rw [decide_eq_false c3]
            simp)
      · rw [if_neg (fun q => c2 ((n_eq (by omega) (by omega)).mp q))]
        exact no (by
          show (decide (J.2.1 2 k = v + 1) && (decide (J.2.1 9 k = bs.length) && decide (seg (J.2.2 ++ bs) (J.2.1 8 k) bs.length = bs))) ≠ true
          rw [decide_eq_false c2]
          simp)
    · rw [if_neg c1]
      exact no (by
        show (decide (J.2.1 2 k = v + 1) && (decide (J.2.1 9 k = bs.length) && decide (seg (J.2.2 ++ bs) (J.2.1 8 k) bs.length = bs))) ≠ true
        rw [decide_eq_false c1]
        simp)
theorem QM_readName {p v bk : Nat} (X : Cx G F W) (h : isM W) (K : isSr W ks) (C : SrC o ks p0 s) (hl : s.length ≤ 8192) (hbk : bk ≤ 1) (h24 : o.f 24 = (Int32.ofNat bk)) (h16 : o.a 16 bk = (Int32.ofNat J.1)) (w : JW s p J) (hv : v < J.1) (hk6 : J.2.1 1 v = 6) (T : TbM o bk J.2.1 (v + 1) J.1) : m7n W S o (8200 * bk) β (P_X13_readName G F (W.ad (.o 13 0)) (Int32.ofNat (600 * bk + v)) (mem W (MA S o (Int32.ofNat p) (-1) (8200 * bk) β J.2.2))) (nameR s p J v) := by
  have hF := X.hF
  have wl := w.1
  have hpl := w.2.1
  have Y := w.x hl
  have Y2 := Y.2.1
  unfold P_X13_readName
  rw [ma_at h, bO_s, ma_top h, bO_s, ma_lo h, bO_s, QM_at h K C (by omega) hl, bP_s]
  simp only [pe34]
  unfold nameR
  by_cases c1 : cd s p = 34
  · have hi := cd_in (s := s) (p := p) (by omega)
    rw [if_pos c1, if_pos c1, ma_lo h, bO_s, n_i1]
    have q := QM_readString (G := G) (F := F) (S := S) (u := 8200 * bk) (β := β) (acc := J.2.2) (p := p) X h K C hl hi ⟨by omega, wl⟩
    cases hq : stR s p with
    | inl y =>
      rw [hq] at q
      have hy := stR_bad hi hq
      obtain ⟨p', acc', q1, q2⟩ := q
      obtain ⟨F', hF'⟩ : ∃ q, F = q + 1 := ⟨F - 1, by omega⟩
      have b := QM_37b (G := G) (F := F) (S := S) (o := o) (β := β) (q := y) (u := 8200 * bk) (n := 0) (bk := bk) (fuel := F') (k := 600 * bk + v + 1) (p' := p') (x := (Int32.ofNat (600 * bk + v))) (y := (Int32.ofNat p)) (z := (Int32.ofNat (8200 * bk + J.2.2.length))) (acc := acc') h hbk h24 (by omega)
      rw [← hF'] at b
      rw [q1, bO_s, b]
      exact ⟨p', acc', rfl, q2⟩
    | inr y =>
      obtain ⟨bs, y⟩ := y
      rw [hq] at q
      have hy := stR_ok hq
      have q : P_X13_readString G F (W.ad (.o 13 0)) (mem W (MA S o (Int32.ofNat p) (-1) (8200 * bk) β J.2.2)) = some (mem W (MA S o (Int32.ofNat y) (-1) (8200 * bk) β (J.2.2 ++ bs))) := q
      have ebs : (J.2.2 ++ bs).length = J.2.2.length + bs.length := List.length_append
      rw [q, bO_s]
      have lo := QM_37 (G := G) (F := F) (S := S) (o := o) (β := β) (J := J) (p := p) (y := y) (v := v) (bk := bk) (bs := bs) X h hbk h24 h16 Y (by omega) (by omega) hv hk6 T (J.1 - (v + 1)) (v + 1) F (by omega) (by omega) (by omega)
      have lo : B_X13_readName_37 G F F (W.ad (.o 13 0)) (Int32.ofNat (600 * bk + v)) (Int32.ofNat p) (Int32.ofNat (8200 * bk + J.2.2.length)) (Int32.ofNat (600 * bk + v + 1)) (mem W (MA S o (Int32.ofNat y) (-1) (8200 * bk) β (J.2.2 ++ bs))) = _ := lo
      have kb : kB J (some v) 6 = true := by show (decide (v < J.1) && decide (J.2.1 1 v = 6)) = true; rw [decide_eq_true hv, decide_eq_true hk6]; rfl
      have ed : dupB J v bs = (fnF (mName (J.1, J.2.1, J.2.2 ++ bs) v bs) (J.1 - (v + 1)) (v + 1)).isSome := by
        rw [dupB_f kb]
        have kb' : kB (J.1, J.2.1, J.2.2 ++ bs) (some v) 6 = true := kb
        show (if kB (J.1, J.2.1, J.2.2 ++ bs) (some v) 6 = true then _ else none).isSome = _
        rw [if_pos kb']
      rw [lo, ← ed]
      show m7n W S o (8200 * bk) β _ (if dupB J v bs = true then .inl p else if cd s (skb s y) = 58 then .inr (skb s (skb s y + 1), (J.1, J.2.1, J.2.2 ++ bs), J.2.2.length, bs.length) else .inl (skb s y))
      by_cases cd1 : dupB J v bs = true
      · rw [if_pos cd1, if_pos cd1]
        exact ⟨_, _, rfl, by omega⟩
      · rw [if_neg cd1, if_neg cd1]
        have n2 := skb_len hy.2
        unfold B_X13_readName_142
        rw [ma_lo h, bO_s, QM_good1 h, bP_s, if_neg (by decide), ma_lo h, bO_s, QM_blanks X h K C hl hy.2, bO_s, ma_lo h, bO_s, QM_at h K C (by omega) hl, bP_s]
        simp only [pe58]
        by_cases c58 : cd s (skb s y) = 58
        · have hi2 := cd_in (s := s) (p := skb s y) (by omega)
          rw [if_pos c58, if_pos c58, ma_at h, bO_s, n_i1, ma_st h, bO_s, ma_lo h, bO_s, QM_blanks X h K C hl (by omega), bO_s]
          exact rfl
        · rw [if_neg c58, if_neg c58, ma_at h, bO_s, ma_lo h, bO_s, QM_fail h, bO_s]
          exact ⟨_, _, rfl, by omega⟩
  · rw [if_neg c1, if_neg c1, ma_at h, bO_s, ma_lo h, bO_s, QM_fail h, bO_s]
    exact ⟨_, _, rfl, by omega⟩
end MNM
