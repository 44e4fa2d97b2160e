/-! THE CALLS value text name member: the model -/
/-- the text at hand, as the model has it -/
def HM (o : Ob) (bk : Nat) (J : JT) : Prop := o.f 17 = (Int32.ofNat bk) ∧ bk ≤ 1 ∧ ((o.f 18 = 0 ∧ J.1 = 0) ∨ (o.f 18 = 1 ∧ MTx o bk J))
section MTC
variable {W : WR} {G : mG} {F : Nat} {S : ST} {bk : Nat} {J : JT}
theorem hm_some {o : Ob} {i : Nat} {x : Int32} (H : HM o bk J) (e : ix J x = some i) : MTx o bk J ∧ i < J.1 ∧ x = (Int32.ofNat i) := by
  have hi : i < J.1 ∧ x = (Int32.ofNat i) := by
    rcases i_cases x with hx | ⟨j, hj, rfl⟩
    · rw [ix_neg hx] at e
      exact absurd e (by simp)
    · rw [ix_n hj] at e
      split at e
      · have := Option.some.inj e
        subst this
        exact ⟨by assumption, rfl⟩
      · exact absurd e (by simp)
  refine ⟨?_, hi⟩
  rcases H.2.2 with ⟨_, h0⟩ | ⟨_, hm⟩
  · omega
  · exact hm
theorem QM_isValue {x : Int32} (h : isM W) (H : HM (S 13 0) bk J) (Y : JX J) : P_X13_isValue G F (W.ad (.o 13 0)) x (mem W S) = some (if (ix J x).isSome = true then 1 else 0, mem W S) := by
  have Y2 := Y.2.1
  obtain ⟨h17, hbk, H⟩ := H
  unfold P_X13_isValue
  rw [h.gI 18 rfl, bO_s]
  rcases H with ⟨h18, h0⟩ | ⟨h18, m1, m2, m3⟩
  · rw [h18, if_pos rfl]
    have e : ix J x = none := by
      rcases i_cases x with hx | ⟨i, hi, rfl⟩
      · exact ix_neg hx
      · rw [ix_n hi, if_neg (by omega)]
    rw [e]
    rfl
  · rw [h18, if_neg (by decide)]
    rcases i_cases x with hx | ⟨i, hi, rfl⟩
    · rw [if_pos hx, ix_neg hx]
      rfl
    · rw [if_neg (show ¬ (Int32.ofNat i) < 0 from nn hi), h.gR 16 rfl (by decide), bO_s, h.gI 17 rfl, bO_s, h17, h.aN rfl (show bk < 2 by omega) (by decide), bO_s, m1, ix_n hi]
      by_cases hj : i < J.1
      · rw [if_neg (fun q => absurd ((n_le (by omega) hi).mp q) (by omega)), if_pos hj]
        rfl
      · rw [if_pos ((n_le (by omega) hi).mpr (by omega)), if_neg hj]
        rfl
theorem m600 {i : Nat} : (600 : Int32) * (Int32.ofNat bk) + (Int32.ofNat i) = (Int32.ofNat (600 * bk + i)) := by rw [show (600 : Int32) = (Int32.ofNat 600) from rfl, n_mul, n_add]
theorem mva (h : isM W) (k j : Nat) (hj : j < 1200) (hk : k ∈ [6, 7, 8, 9, 10, 11, 12, 13, 14] := by decide) : aI G (mem W S) 0 (W.ad (.a 13 0 k)) (Int32.ofNat j) = some ((S 13 0).a k j) := by
  have q : (kdA 13)[k]? = some 0 ∧ mLen k = 1200 := by
    simp only [List.mem_cons, List.not_mem_nil, or_false] at hk
    rcases hk with rfl | rfl | rfl | rfl | rfl | rfl | rfl | rfl | rfl <;> exact ⟨rfl, rfl⟩
  exact h.aN q.1 (by omega) (by omega)
theorem mvr (h : isM W) (k : Nat) (hk : k ∈ [6, 7, 8, 9, 10, 11, 12, 13, 14] := by decide) : gfR (mem W S) (W.ad (.o 13 0)) 13 k = some (W.ad (.a 13 0 k)) := by
  have q : (kdF 13)[k]? = some 2 ∧ 0 < mLen k := by
    simp only [List.mem_cons, List.not_mem_nil, or_false] at hk
    rcases hk with rfl | rfl | rfl | rfl | rfl | rfl | rfl | rfl | rfl <;> exact ⟨rfl, by decide⟩
  exact h.gR k q.1 q.2
theorem QM_value {x w : Int32} (h : isM W) (H : HM (S 13 0) bk J) (Y : JX J) (Z : JZ J) : P_X13_value G F (W.ad (.o 13 0)) x w (mem W S) = some (valF J x w, mem W S) := by
  have Y2 := Y.2.1
  have h17 := H.1
  have hbk := H.2.1
  unfold P_X13_value valF
  rw [rcv_m h.lo, bO_s, QM_isValue h H Y, bP_s]
  cases e : ix J x with
  | none =>
    rw [if_pos (by rfl)]
  | some i =>
    obtain ⟨⟨m1, m2, m3⟩, hi, rfl⟩ := hm_some H e
    obtain ⟨a1, a2, a3, a4, a5, a6, a7, a8, a9⟩ := m2 i (Nat.zero_le _) hi
    have yi := Y.2.2 i hi
    have jl : 600 * bk + i < 1200 := by omega
    have e5 : ((5 : Int32) ≤ (Int32.ofNat (J.2.1 1 i))) = (5 ≤ J.2.1 1 i) := propext (n_le (a := 5) (by omega) (by omega))
    have e0 : (0 ≤ paI (J.2.1 2 i)) = (J.2.1 2 i ≠ 0) := by
      have := paI_lt0 (op := J.2.1 2 i) (by omega)
      rw [← Int32.not_lt, this]
    rw [if_neg (show ¬ (if (some i).isSome = true then (1 : Int32) else 0) = 0 by rw [if_pos (show (some i).isSome = true from rfl)]; decide)]
    simp only [mvr h 6, mvr h 7, mvr h 8, mvr h 9, mvr h 10, mvr h 12, h.gI 17 rfl, bO_s, h17, m600, mva h 6 _ jl, mva h 7 _ jl, mva h 8 _ jl, mva h 9 _ jl, mva h 10 _ jl, mva h 12 _ jl, a1, a2, a3, a4, a5, a7, e5, e0]
    by_cases w0 : w < 0
    · rw [if_pos w0, if_neg (fun q => by rw [q] at w0; exact absurd w0 (by decide)), if_neg (fun q => by rw [q] at w0; exact absurd w0 (by decide)), if_neg (fun q => by rw [q] at w0; exact absurd w0 (by decide)), if_neg (fun q => by rw [q] at w0; exact absurd w0 (by decide)), if_neg (fun q => by rw [q] at w0; exact absurd w0 (by decide))]
    · rw [if_neg w0]
      by_cases w4 : w ≤ 4
      · rw [if_pos w4]
        by_cases c0 : w = 0
        · rw [if_pos c0, if_pos c0]
        by_cases c1 : w = 1
        · rw [if_neg c0, if_pos c1, if_neg c0, if_pos c1]
          by_cases k5 : J.2.1 1 i < 5
          · rw [if_neg (by omega), if_pos k5]
          · rw [if_pos (by omega), if_neg k5]
        by_cases c2 : w = 2
        · rw [if_neg c0, if_neg c1, if_pos c2, if_neg c0, if_neg c1, if_pos c2]
        by_cases c3 : w = 3
        · rw [if_neg c0, if_neg c1, if_neg c2, if_pos c3, if_neg c0, if_neg c1, if_neg c2, if_pos c3]
          by_cases z : J.2.1 2 i = 0
          · rw [if_neg (fun q => q z), Z i hi z]
            rfl
          · rw [if_pos z]
        · have c4 : w = 4 := by
            rcases i_cases w with hw | ⟨j, hj, rfl⟩
            · exact absurd hw w0
            · have l4 := (n_le (b := 4) hj (by decide)).mp w4
              have : j = 0 ∨ j = 1 ∨ j = 2 ∨ j = 3 ∨ j = 4 := by omega
              rcases this with rfl | rfl | rfl | rfl | rfl
              · exact absurd rfl c0
              · exact absurd rfl c1
              · exact absurd rfl c2
              · exact absurd rfl c3
              · rfl
          rw [if_neg c0, if_neg c1, if_neg c2, if_neg c3, if_neg c0, if_neg c1, if_neg c2, if_neg c3, if_pos c4]
      · rw [if_neg w4, if_neg (fun q => w4 (by rw [q]; decide)), if_neg (fun q => w4 (by rw [q]; decide)), if_neg (fun q => w4 (by rw [q]; decide)), if_neg (fun q => w4 (by rw [q]; decide)), if_neg (fun q => w4 (by rw [q]; decide))]
theorem mtell {J : JT} {a n : Nat} {t : List UInt8} (X : Cx G F W) (h : isM W) (M : MTx (S 13 0) bk J) (hbk : bk ≤ 1) (Y : JX J) (hl : a + n ≤ J.2.2.length) (ho : mOut (S 13 0) t) : ∃ o, P_X13_tell G F (W.ad (.o 13 0)) (W.ad (.a 13 0 15)) (Int32.ofNat (8200 * bk + a)) (Int32.ofNat n) (mem W S) = some ((Int32.ofNat n), mem W (S.so 13 0 o)) ∧ mOut o (seg J.2.2 a n) ∧ agr [5] [] [4] [] (S 13 0) o := by
  have Y1 := Y.1
  obtain ⟨m1, m2, β, m3, m4⟩ := M
  obtain ⟨o1, o2, β4, o4, o5⟩ := ho
  have tl := QM_tell (G := G) (F := F) (S := S) (k := 15) (p := 8200 * bk + a) (cnt := n) X h rfl (by decide) (by decide) (by show _ ≤ 16400; omega) (by omega) m3 o4
  have e : rdB β (8200 * bk + a) n = seg J.2.2 a n := by rw [← m4, seg_rd hl]
  have sl : (seg J.2.2 a n).length = n := seg_len hl
  rw [e] at tl
  refine ⟨_, tl, ⟨by rw [sl]; exact sf_eq _ _ _, by omega, _, mB_sA _ _ _, rdB_wrB _ 0 _⟩, (agr_sA (by decide)).trans (agr_sf (by decide))⟩
theorem QM_text {x : Int32} {t : List UInt8} (X : Cx G F W) (h : isM W) (H : HM (S 13 0) bk J) (Y : JX J) (ho : mOut (S 13 0) t) : ∃ o, P_X13_text G F (W.ad (.o 13 0)) x (mem W S) = some (match txtF J x with | some u => (Int32.ofNat u.length) | none => -2, mem W (S.so 13 0 o)) ∧ mOut o (match txtF J x with | some u => u | none => t) ∧ agr [5] [] [4] [] (S 13 0) o := by
  have Y2 := Y.2.1
  have Y1 := Y.1
  have h17 := H.1
  have hbk := H.2.1
  have no : ∃ o, some ((-2 : Int32), mem W S) = some ((-2 : Int32), mem W (S.so 13 0 o)) ∧ mOut o t ∧ agr [5] [] [4] [] (S 13 0) o := ⟨S 13 0, by rw [so_self], ho, agr.refl _ _ _ _ _⟩
  unfold P_X13_text txtF
  rw [h.gI 17 rfl, bO_s, h17, rcv_m h.lo, bO_s, QM_isValue h H Y, bP_s]
  cases e : ix J x with
  | none =>
    rw [if_pos (by rfl)]
    exact no
  | some i =>
    obtain ⟨M, hi, rfl⟩ := hm_some H e
    obtain ⟨m1, m2, m3⟩ := id M
    obtain ⟨a1, a2, a3, a4, a5, a6, a7, a8, a9⟩ := m2 i (Nat.zero_le _) hi
    obtain ⟨y1, y2, y3, y4, y5, y6, y7⟩ := Y.2.2 i hi
    have jl : 600 * bk + i < 1200 := by omega
    have sl : (seg J.2.2 (J.2.1 6 i) (J.2.1 7 i)).length = J.2.1 7 i := seg_len y6
    obtain ⟨o, g, b1, b2⟩ := mtell (G := G) (F := F) X h M hbk Y y6 ho
    have b39 : B_X13_text_39 G F (W.ad (.o 13 0)) (Int32.ofNat (600 * bk + i)) (mem W S) = some ((Int32.ofNat (J.2.1 7 i)), mem W (S.so 13 0 o)) := by
      unfold B_X13_text_39
      rw [h.gR 15 rfl (by decide), bO_s, mvr h 11, bO_s, mva h 11 _ jl, bO_s, a6, mvr h 12, bO_s, mva h 12 _ jl, bO_s, a7, rcv_m h.lo, bO_s, g, bP_s]
    have e4 : ((Int32.ofNat (J.2.1 1 i)) = (4 : Int32)) = (J.2.1 1 i = 4) := propext (n_eq (b := 4) (by omega) (by omega))
    have e3 : ((Int32.ofNat (J.2.1 1 i)) = (3 : Int32)) = (J.2.1 1 i = 3) := propext (n_eq (b := 3) (by omega) (by omega))
    rw [if_neg (show ¬ (if (some i).isSome = true then (1 : Int32) else 0) = 0 by rw [if_pos (show (some i).isSome = true from rfl)]; decide), mvr h 6, bO_s, m600, mva h 6 _ jl, bO_s, a1]
    simp only [e3]
    by_cases k3 : J.2.1 1 i = 3
    · simp only [if_pos k3, if_pos (Or.inr k3 : J.2.1 1 i = 4 ∨ J.2.1 1 i = 3), b39, sl]
      exact ⟨o, rfl, b1, b2⟩
    · rw [if_neg k3, bO_s, mva h 6 _ jl, bO_s, a1]
      simp only [e4]
      by_cases k4 : J.2.1 1 i = 4
      · simp only [if_pos k4, if_pos (Or.inl k4 : J.2.1 1 i = 4 ∨ J.2.1 1 i = 3), b39, sl]
        exact ⟨o, rfl, b1, b2⟩
      · simp only [if_neg k4, if_neg (show ¬ (J.2.1 1 i = 4 ∨ J.2.1 1 i = 3) by omega)]
        exact no
theorem QM_name {x : Int32} {t : List UInt8} (X : Cx G F W) (h : isM W) (H : HM (S 13 0) bk J) (Y : JX J) (ho : mOut (S 13 0) t) : ∃ o, P_X13_name G F (W.ad (.o 13 0)) x (mem W S) = some (match namF J x with | some u => (Int32.ofNat u.length) | none => -2, mem W (S.so 13 0 o)) ∧ mOut o (match namF J x with | some u => u | none => t) ∧ agr [5] [] [4] [] (S 13 0) o := by
  have Y2 := Y.2.1
  have Y1 := Y.1
  have h17 := H.1
  have hbk := H.2.1
  have no : ∃ o, some ((-2 : Int32), mem W S) = some ((-2 : Int32), mem W (S.so 13 0 o)) ∧ mOut o t ∧ agr [5] [] [4] [] (S 13 0) o := ⟨S 13 0, by rw [so_self], ho, agr.refl _ _ _ _ _⟩
  unfold P_X13_name namF
  rw [h.gI 17 rfl, bO_s, h17, rcv_m h.lo, bO_s, QM_isValue h H Y, bP_s]
  cases e : ix J x with
  | none =>
    rw [if_pos (by rfl)]
    exact no
  | some i =>
    obtain ⟨M, hi, rfl⟩ := hm_some H e
    obtain ⟨m1, m2, m3⟩ := id M
    obtain ⟨a1, a2, a3, a4, a5, a6, a7, a8, a9⟩ := m2 i (Nat.zero_le _) hi
    obtain ⟨y1, y2, y3, y4, y5, y6, y7⟩ := Y.2.2 i hi
    have jl : 600 * bk + i < 1200 := by omega
    rw [if_neg (show ¬ (if (some i).isSome = true then (1 : Int32) else 0) = 0 by rw [if_pos (show (some i).isSome = true from rfl)]; decide), mvr h 14, bO_s, m600, mva h 14 _ jl, bO_s]
    by_cases m : J.2.1 2 i ≠ 0 ∧ J.2.1 1 (J.2.1 2 i - 1) = 6
    · obtain ⟨b13, b14⟩ := a8 m
      have sl : (seg J.2.2 (J.2.1 8 i) (J.2.1 9 i)).length = J.2.1 9 i := seg_len y7
      obtain ⟨o, g, b1, b2⟩ := mtell (G := G) (F := F) X h M hbk Y y7 ho
      rw [b14, if_neg (show ¬ (Int32.ofNat (J.2.1 9 i)) < 0 from nn (by omega)), h.gR 15 rfl (by decide), bO_s, mvr h 13, bO_s, mva h 13 _ jl, bO_s, b13, bO_s, mva h 14 _ jl, bO_s, b14, rcv_m h.lo, bO_s, g, bP_s]
      simp only [if_pos m, sl]
      exact ⟨o, rfl, b1, b2⟩
    · rw [a9 m, if_pos (by decide)]
      simp only [if_neg m]
      exact no
theorem QM_mem_l {i r : Nat} {rows : Nat → List UInt8} (X : Cx G F W) (h : isM W) (h17 : (S 13 0).f 17 = (Int32.ofNat bk)) (M : MTx (S 13 0) bk J) (hbk : bk ≤ 1) (Y : JX J) (hR : mRows (S 13 0) rows) (hi : i < J.1) (hr : r < 8) (k6 : J.2.1 1 i = 6) : ∀ (m k fuel : Nat), m < fuel → k + m = J.1 → i < k → B_X13_member_42 G F fuel (W.ad (.o 13 0)) (Int32.ofNat i) (Int32.ofNat r) (Int32.ofNat k) (mem W S) = some (oI (fnF (mName J i (rows r)) m k), mem W S) := by
  have Y2 := Y.2.1
  have Y1 := Y.1
  obtain ⟨m1, m2, β, m3, m4⟩ := M
  obtain ⟨γ, r1, r2⟩ := hR
  obtain ⟨r3, r4, r5⟩ := r2 r hr
  have e8 : (8192 : Int32) * (Int32.ofNat r) = (Int32.ofNat (8192 * r)) := n_mul 8192 r
  intro m
  induction m with
  | zero =>
    intro k fuel hf hkm hik
    obtain ⟨fuel, rfl⟩ : ∃ q, fuel = q + 1 := ⟨fuel - 1, by omega⟩
    rw [B_X13_member_42, h.gR 16 rfl (by decide), bO_s, h.gI 17 rfl, bO_s, h17, h.aN rfl (show bk < 2 by omega) (by decide), bO_s, m1, if_pos ((n_le (by omega) (by omega)).mpr (by omega))]
    rfl
  | succ m ih =>
    intro k fuel hf hkm hik
    obtain ⟨fuel, rfl⟩ : ∃ q, fuel = q + 1 := ⟨fuel - 1, by omega⟩
    obtain ⟨a1, a2, a3, a4, a5, a6, a7, a8, a9⟩ := m2 k (Nat.zero_le _) (by omega)
    obtain ⟨y1, y2, y3, y4, y5, y6, y7⟩ := Y.2.2 k (by omega)
    have jl : 600 * bk + k < 1200 := by omega
    have e2 : (paI (J.2.1 2 k) = (Int32.ofNat i)) = (J.2.1 2 k = i + 1) := paI_eq (by omega) (by omega)
    have nx : B_X13_member_42 G F fuel (W.ad (.o 13 0)) (Int32.ofNat i) (Int32.ofNat r) ((Int32.ofNat k) + 1) (mem W S) = some (oI (fnF (mName J i (rows r)) m (k + 1)), mem W S) := by
      rw [n_i1]
      exact ih (k + 1) fuel (by omega) (by omega) (by omega)
    rw [B_X13_member_42, h.gR 16 rfl (by decide), bO_s, h.gI 17 rfl, bO_s, h17, h.aN rfl (show bk < 2 by omega) (by decide), bO_s, m1, if_neg (fun q => absurd ((n_le (by omega) (by omega)).mp q) (by omega)), bO_s, mvr h 7, bO_s, m600, mva h 7 _ jl, bO_s, a2]
    simp only [e2]
    show _ = some (oI (if mName J i (rows r) k = true then some k else fnF (mName J i (rows r)) m (k + 1)), mem W S)
    by_cases c1 : J.2.1 2 k = i + 1
    · obtain ⟨b13, b14⟩ := a8 ⟨by omega, by rw [c1]; exact k6⟩
      rw [if_pos c1, mvr h 14, bO_s, mva h 14 _ jl, bO_s, b14, h.gR 3 rfl (by decide), bO_s, h.aN rfl (show r < 8 from hr) (by decide), bO_s, r3]
      by_cases c2 : J.2.1 9 k = (rows r).length
      · have sm := QM_same (G := G) (F := F) (S := S) (k1 := 15) (k2 := 2) (p1 := 8200 * bk + J.2.1 8 k) (p2 := 8192 * r) (n := (rows r).length) X h rfl rfl (by decide) (by decide) (by show _ ≤ 16400; omega) (by show _ ≤ 65536; omega) m3 r1 (by omega)
        have es : rdB β (8200 * bk + J.2.1 8 k) (rows r).length = seg J.2.2 (J.2.1 8 k) (rows r).length := by rw [← m4, seg_rd (by omega)]
        rw [es, r5] at sm
        rw [if_pos (by rw [c2]), h.gR 15 rfl (by decide), bO_s, mvr h 13, bO_s, mva h 13 _ jl, bO_s, b13, h.gR 2 rfl (by decide), bO_s, bO_s, h.aN rfl (show r < 8 from hr) (by decide), bO_s, r3, e8, sm, bP_s]
        by_cases c3 : seg J.2.2 (J.2.1 8 k) (rows r).length = rows r
        · have mt : mName J i (rows r) k = true := by
            unfold mName
            rw [decide_eq_true c1, decide_eq_true c2, decide_eq_true c3]
            rfl
          rw [if_pos c3, if_neg (by decide), if_pos mt]
          rfl
        · have mf : ¬ mName J i (rows r) k = true := by
            unfold mName
            rw [decide_eq_false c3]
            simp
          rw [if_neg c3, if_pos rfl, if_neg mf, nx]
      · have mf : ¬ mName J i (rows r) k = true := by
          unfold mName
          rw [decide_eq_false c2]
          simp
        rw [if_neg (fun q => c2 ((n_eq (by omega) (by omega)).mp q)), if_neg mf, nx]
    · have mf : ¬ mName J i (rows r) k = true := by
        unfold mName
        rw [decide_eq_false c1]
        simp
      rw [if_neg c1, if_neg mf, nx]
theorem QM_member {x r : Int32} {rows : Nat → List UInt8} (X : Cx G F W) (h : isM W) (H : HM (S 13 0) bk J) (Y : JX J) (hR : mRows (S 13 0) rows) : P_X13_member G F (W.ad (.o 13 0)) x r (mem W S) = some (memF J rows x r, mem W S) := by
  have hF := X.hF
  have Y2 := Y.2.1
  have h17 := H.1
  have hbk := H.2.1
  unfold P_X13_member memF
  rw [rcv_m h.lo, bO_s, QM_isValue h H Y, bP_s]
  cases e : ix J x with
  | none =>
    rw [if_pos (by rfl)]
  | some i =>
    obtain ⟨M, hi, rfl⟩ := hm_some H e
    obtain ⟨m1, m2, m3⟩ := id M
    obtain ⟨a1, a2, a3, a4, a5, a6, a7, a8, a9⟩ := m2 i (Nat.zero_le _) hi
    have yi := Y.2.2 i hi
    have jl : 600 * bk + i < 1200 := by omega
    have e6 : ((Int32.ofNat (J.2.1 1 i)) = (6 : Int32)) = (J.2.1 1 i = 6) := propext (n_eq (b := 6) (by omega) (by omega))
    rw [if_neg (show ¬ (if (some i).isSome = true then (1 : Int32) else 0) = 0 by rw [if_pos (show (some i).isSome = true from rfl)]; decide), mvr h 6, bO_s, h.gI 17 rfl, bO_s, h17, m600, mva h 6 _ jl, bO_s, a1]
    simp only [e6]
    by_cases k6 : J.2.1 1 i = 6
    · rw [if_pos k6, Q13_isRow, bP_s]
      rcases isr_cases r with hr | ⟨r', hr', rfl, hr⟩
      · rw [hr, if_pos (by rfl), if_neg (by simp)]
      · have kb : kB J (some i) 6 = true := by show (decide (i < J.1) && decide (J.2.1 1 i = 6)) = true; rw [decide_eq_true hi, decide_eq_true k6]; rfl
        rw [hr, if_neg (by decide), if_pos ⟨k6, rfl⟩, n_at (by omega), n_i1, QM_mem_l X h h17 M hbk Y hR hi hr' k6 (J.1 - (i + 1)) (i + 1) F (by omega) (by omega) (by omega)]
        show _ = some (oI (if kB J (some i) 6 = true then _ else none), _)
        rw [if_pos kb]
    · rw [if_neg k6, if_neg (fun q => k6 q.1)]
end MTC
