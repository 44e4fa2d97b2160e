/-! WHAT THE MODEL ADDS TO A TOKEN -/
/-- what is said of a token -/
def mSd (o : Ob) (ys : List UInt8) : Prop := o.f 122 = (Int32.ofNat ys.length) ∧ ∃ β, mB o 121 β ∧ rdB β 0 ys.length = ys
section MAD
variable {W : WR} {G : mG} {F : Nat} {S : ST}
theorem mSd.ag {o o' : Ob} {ys : List UInt8} {fs gs as ls : List Nat} (h : mSd o ys) (a : agr fs gs as ls o o') (h1 : 122 ∉ fs) (h2 : 121 ∉ as) : mSd o' ys := by
  obtain ⟨x1, β, x2, x3⟩ := h
  exact ⟨(a.1 122 h1).trans x1, β, a.mB x2 h2, x3⟩
theorem oM_add1 {o : Ob} {ys : List UInt8} {x : Int32} {y : UInt8} (h : isM W) (hs : mSd o ys) (hl : ys.length < 60000) (hy : lo8 x = y) : ∃ o1 o2, sI (mem W (S.so 13 0 o)) 1 (W.ad (.a 13 0 121)) (Int32.ofNat ys.length) ((x.toInt8.toInt32).toInt8.toInt32) = some (mem W (S.so 13 0 o1)) ∧ gfI (mem W (S.so 13 0 o1)) (W.ad (.o 13 0)) 13 122 = some (Int32.ofNat ys.length) ∧ pfv (mem W (S.so 13 0 o1)) (W.ad (.o 13 0)) 13 122 (.int ((Int32.ofNat ys.length) + 1)) = some (mem W (S.so 13 0 o2)) ∧ mSd o2 (ys ++ [y]) ∧ agr [122] [] [121] [] o o2 := by
  obtain ⟨f1, β, b1, r1⟩ := hs
  refine ⟨o.sA 121 (fun j => sb (va_up β ys.length y j)), (o.sA 121 (fun j => sb (va_up β ys.length y j))).sf 122 (Int32.ofNat (ys.length + 1)), ?_, ?_, ?_, ⟨?_, va_up β ys.length y, ?_, ?_⟩, (agr_sA (by simp)).trans (agr_sf (by simp))⟩
  · rw [sb_lo8, sb_lo8, lo8_sb, hy]
    exact h.sB' rfl b1 hl (by decide)
  · rw [gfI_m h.lo rfl, so_eq]
    exact congrArg some f1
  · rw [pfI_m h.lo rfl, so_eq, so_so, n_i1]
  · rw [sf_eq, List.length_append]
    rfl
  · exact mB_sA _ _ _
  · rw [List.length_append]
    have h5 := rdB_app β 0 [y] ys.length
    rw [r1, Nat.zero_add] at h5
    rw [← h5]
    congr 1
    have h6 := wrB_snoc β ys.length [] y
    rw [wrB_nil, List.nil_append, List.length_nil, Nat.add_zero] at h6
    exact h6.symm
theorem oM_addByte {o : Ob} {ys : List UInt8} {x : Int32} {y : UInt8} (h : isM W) (hs : mSd o ys) (hl : ys.length < 60000) (hy : lo8 x = y) : ∃ o', P_X13_addByte G F (W.ad (.o 13 0)) x (mem W (S.so 13 0 o)) = some (mem W (S.so 13 0 o')) ∧ mSd o' (ys ++ [y]) ∧ agr [122] [] [121] [] o o' := by
  obtain ⟨o1, o2, g1, g2, g3, s2, a2⟩ := oM_add1 (S := S) h hs hl hy
  refine ⟨o2, ?_, s2, a2⟩
  unfold P_X13_addByte
  rw [h.gR 121 rfl (by decide), bO_s, gfI_m h.lo rfl, bO_s, so_eq, hs.1, g1, bO_s, g2, bO_s, g3, bO_s]
theorem oM_al_in {r9 : Nat → Nat → Int32 → Int32 → Int32 → Int32 → Int32 → mM → Option mM} {o : Ob} {ys : List UInt8} {h b n a2 : Nat} {p c k : Int32} (hM : isM W) (hd : mSd o ys) (hy : ys.length < 60000) (h6 : 6 ≤ b) (h13 : b < 13) : ∃ o', B_X13_addLetters_36 G F r9 (n + 1) (W.ad (.o 13 0)) a2 p c (Int32.ofNat h) (Int32.ofNat b) k (mem W (S.so 13 0 o)) = B_X13_addLetters_36 G F r9 n (W.ad (.o 13 0)) a2 p c (Int32.ofNat h) (Int32.ofNat (b - 6)) k (mem W (S.so 13 0 o')) ∧ mSd o' (ys ++ [ltr (h / 2 ^ (b - 6) % 64)]) ∧ agr [122] [] [121] [] o o' := by
  have hk : h / 2 ^ (b - 6) % 64 < 64 := Nat.mod_lt _ (by decide)
  obtain ⟨o1, o2, g1, g2, g3, s2, a2⟩ := oM_add1 (S := S) (x := lfI (Int32.ofNat (h / 2 ^ (b - 6) % 64))) hM hd hy (lf_tab _ hk)
  refine ⟨o2, ?_, s2, a2⟩
  have e1 := (bits6 b h6 h13).1
  rw [B_X13_addLetters_36, if_neg (by rw [lit 6, n_lt (by omega) (by omega)]; omega), e1, and31 (by omega), n_shr_and (by omega), hM.gR 121 rfl (by decide), bO_s, gfI_m hM.lo rfl, bO_s, so_eq, hd.1, QM_letterOf, bP_s, g1, bO_s, g2, bO_s, g3, bO_s]
theorem QM_al_out {r9 : Nat → Nat → Int32 → Int32 → Int32 → Int32 → Int32 → mM → Option mM} {b n a1 a2 : Nat} {p c h k : Int32} {M : mM} (h6 : b < 6) : B_X13_addLetters_36 G F r9 (n + 1) a1 a2 p c h (Int32.ofNat b) k M = r9 a1 a2 p c h (Int32.ofNat b) (k + 1) M := by
  rw [B_X13_addLetters_36, if_pos (by rw [lit 6, n_lt (by omega) (by omega)]; omega)]
theorem oM_addLetters_l {k1 p1 cnt : Nat} {β : Nat → UInt8} (X : Cx G F W) (hM : isM W) (q : (kdA 13)[k1]? = some 1) (hne : k1 ≠ 121) (hl : mLen k1 < 2 ^ 30) (hb : p1 + cnt ≤ mLen k1) (hc : cnt < 90000) : ∀ (m k n h b : Nat) (o : Ob) (ys : List UInt8), m < n → k + m = cnt → (b = 0 ∨ b = 2 ∨ b = 4) → ys.length + 2 * m + 1 < 60000 → mSd o ys → mB o k1 β → ∃ o', B_X13_addLetters_9 G F n (W.ad (.o 13 0)) (W.ad (.a 13 0 k1)) (Int32.ofNat p1) (Int32.ofNat cnt) (Int32.ofNat h) (Int32.ofNat b) (Int32.ofNat k) (mem W (S.so 13 0 o)) = some (mem W (S.so 13 0 o')) ∧ mSd o' (ys ++ encL b (h % 2 ^ b) (rdB β (p1 + k) m)) ∧ agr [122] [] [121] [] o o' := by
  have hF := X.hF
  intro m
  induction m with
  | zero =>
    intro k n h b o ys hn hk hbb hy hd hβ
    obtain ⟨n, rfl⟩ : ∃ q, n = q + 1 := ⟨n - 1, by omega⟩
    have e0 : rdB β (p1 + k) 0 = [] := rfl
    rw [B_X13_addLetters_9, if_pos ((n_le (by omega) (by omega)).mpr (by omega)), e0, encL]
    by_cases h0 : b = 0
    · subst h0
      refine ⟨o, ?_, ?_, agr.refl _ _ _ _ _⟩
      · rw [if_pos (by decide)]
      · rw [if_pos rfl, List.append_nil]
        exact hd
    · have hr : h % 2 ^ b * 2 ^ (6 - b) < 64 := by
        rcases hbb with rfl | rfl | rfl <;> omega
      obtain ⟨o1, o2, g1, g2, g3, s2, a2⟩ := oM_add1 (S := S) (x := lfI (Int32.ofNat (h % 2 ^ b * 2 ^ (6 - b)))) hM hd (by omega) (lf_tab _ hr)
      have e4 : ((Int32.ofNat h) <<< ((6 - (Int32.ofNat b)) &&& 31)) &&& 63 = (Int32.ofNat (h % 2 ^ b * 2 ^ (6 - b))) := by
        have e5 : ∀ b, b < 6 → (6 - (Int32.ofNat b)) &&& 31 = (Int32.ofNat (6 - b)) := by decide +kernel
        rw [e5 b (by omega), n_shl (by omega), lit 63, n_and, and_mask _ 6]
        congr 1
        rcases hbb with rfl | rfl | rfl <;> omega
      refine ⟨o2, ?_, ?_, a2⟩
      · rw [if_neg (by rw [z32, n_le (by omega) (by omega)]; omega), e4, hM.gR 121 rfl (by decide), bO_s, gfI_m hM.lo rfl, bO_s, so_eq, hd.1, QM_letterOf, bP_s, g1, bO_s, g2, bO_s, g3, bO_s]
      · rw [if_neg h0]
        exact s2
  | succ m ih =>
    intro k n h b o ys hn hk hbb hy hd hβ
    obtain ⟨n, rfl⟩ : ∃ q, n = q + 1 := ⟨n - 1, by omega⟩
    obtain ⟨F', hF'⟩ : ∃ q, F = q + 1 + 1 + 1 := ⟨F - 3, by omega⟩
    have e1 : rdB β (p1 + k) (m + 1) = β (p1 + k) :: rdB β (p1 + (k + 1)) m := rdB_succ _ _ _
    have e2 : (((Int32.ofNat h) <<< ((8 : Int32) &&& 31)) ||| (sb (β (p1 + k)) &&& 255)) = (Int32.ofNat (h * 256 + (β (p1 + k)).toNat)) := by
      have e5 : (8 : Int32) &&& 31 = (Int32.ofNat 8) := by decide
      rw [e5, n_shl (by decide), sb_and, b32, n_or, or_byte]
    obtain ⟨H, hH⟩ : ∃ H, h * 256 + (β (p1 + k)).toNat = H := ⟨_, rfl⟩
    have hx := (β (p1 + k)).toNat_lt
    rw [B_X13_addLetters_9, if_neg (by rw [n_le (by omega) (by omega)]; omega), n_add, hM.aB' q hβ (by omega) (by omega), bO_s, e2, bits_add8 b (by omega), hH, e1, encL]
    have eF : B_X13_addLetters_36 G F (B_X13_addLetters_9 G F n) F = B_X13_addLetters_36 G F (B_X13_addLetters_9 G F n) (F' + 1 + 1 + 1) := by rw [← hF']
    obtain ⟨o1, g1, d1, a1⟩ := oM_al_in (S := S) (r9 := B_X13_addLetters_9 G F n) (n := F' + 1 + 1) (b := b + 8) (h := H) (k := (Int32.ofNat k)) (p := (Int32.ofNat p1)) (c := (Int32.ofNat cnt)) (a2 := W.ad (.a 13 0 k1)) (F := F) (G := G) hM hd (by omega) (by omega) (by omega)
    rw [eF, g1]
    have nm : k1 ∉ [121] := by simp; exact hne
    by_cases h4 : b = 4
    · subst h4
      obtain ⟨o2, g2, d2, a2⟩ := oM_al_in (S := S) (o := o1) (r9 := B_X13_addLetters_9 G F n) (n := F' + 1) (b := 6) (h := H) (k := (Int32.ofNat k)) (p := (Int32.ofNat p1)) (c := (Int32.ofNat cnt)) (a2 := W.ad (.a 13 0 k1)) (F := F) (G := G) hM d1 (by rw [List.length_append]; simp; omega) (by omega) (by omega)
      obtain ⟨o3, g3, d3, a3⟩ := ih (k + 1) n H 0 o2 (ys ++ [ltr (H / 2 ^ (4 + 8 - 6) % 64)] ++ [ltr (H / 2 ^ (6 - 6) % 64)]) (by omega) (by omega) (Or.inl rfl) (by simp only [List.length_append, List.length_cons, List.length_nil]; omega) d2 (a2.mB (a1.mB hβ nm) nm)
      refine ⟨o3, ?_, ?_, (a1.trans a2).trans a3⟩
      · rw [show (4 + 8 - 6 : Nat) = 6 from rfl, g2, show (6 - 6 : Nat) = 0 from rfl, QM_al_out (by omega), o32, n_add, g3]
      · rw [if_pos rfl]
        have q1 : H / 2 ^ (4 + 8 - 6) % 64 = (h % 2 ^ 4 * 256 + (β (p1 + k)).toNat) / 64 % 64 := by omega
        have q2 : H / 2 ^ (6 - 6) % 64 = (h % 2 ^ 4 * 256 + (β (p1 + k)).toNat) % 64 := by omega
        rw [q1, q2, Nat.pow_zero, Nat.mod_one, List.append_assoc, List.append_assoc] at d3
        exact d3
    · obtain ⟨o3, g3, d3, a3⟩ := ih (k + 1) n H (b + 2) o1 (ys ++ [ltr (H / 2 ^ (b + 8 - 6) % 64)]) (by omega) (by omega) (by omega) (by simp only [List.length_append, List.length_cons, List.length_nil]; omega) d1 (a1.mB hβ nm)
      refine ⟨o3, ?_, ?_, a1.trans a3⟩
      · rw [show b + 8 - 6 = b + 2 from by omega, QM_al_out (by omega), o32, n_add, g3]
      · rw [if_neg h4]
        have q1 : H / 2 ^ (b + 8 - 6) % 64 = (h % 2 ^ b * 256 + (β (p1 + k)).toNat) / 2 ^ (b + 2) % 64 := by
          rcases hbb with rfl | rfl | rfl <;> omega
        have q2 : H % 2 ^ (b + 2) = (h % 2 ^ b * 256 + (β (p1 + k)).toNat) % 2 ^ (b + 2) := by
          rcases hbb with rfl | rfl | rfl <;> omega
        rw [q1, q2, List.append_assoc] at d3
        exact d3
theorem oM_addLetters {k1 p1 cnt : Nat} {β : Nat → UInt8} {o : Ob} {ys : List UInt8} (X : Cx G F W) (hM : isM W) (q : (kdA 13)[k1]? = some 1) (hne : k1 ≠ 121) (hl : mLen k1 < 2 ^ 30) (hb : p1 + cnt ≤ mLen k1) (hc : cnt < 20000) (hy : ys.length + 2 * cnt + 1 < 60000) (hs : mSd o ys) (hβ : mB o k1 β) : ∃ o', P_X13_addLetters G F (W.ad (.o 13 0)) (W.ad (.a 13 0 k1)) (Int32.ofNat p1) (Int32.ofNat cnt) (mem W (S.so 13 0 o)) = some (mem W (S.so 13 0 o')) ∧ mSd o' (ys ++ enc (rdB β p1 cnt)) ∧ agr [122] [] [121] [] o o' := by
  have := X.hF
  exact oM_addLetters_l X hM q hne hl hb (by omega) cnt 0 F 0 0 o ys (by omega) (Nat.zero_add _) (Or.inl rfl) (by omega) hs hβ
theorem oM_saidOut {o : Ob} {ys : List UInt8} (X : Cx G F W) (h : isM W) (hs : mSd o ys) (hl : ys.length < 60000) (h4 : ∃ β, mB o 4 β) : ∃ o', P_X13_saidOut G F (W.ad (.o 13 0)) (mem W (S.so 13 0 o)) = some (if ys.length ≤ 8192 then (Int32.ofNat ys.length) else -3, mem W (S.so 13 0 o')) ∧ agr [5] [] [4] [] o o' ∧ (ys.length ≤ 8192 → mOut o' ys) ∧ (¬ ys.length ≤ 8192 → o' = o) := by
  obtain ⟨f1, β, b1, r1⟩ := hs
  obtain ⟨β4, b4⟩ := h4
  have g : gfI (mem W (S.so 13 0 o)) (W.ad (.o 13 0)) 13 122 = some (Int32.ofNat ys.length) := by rw [gfI_m h.lo rfl, so_eq, f1]
  unfold P_X13_saidOut
  rw [g, bO_s]
  by_cases c : ys.length ≤ 8192
  · have t := QM_tell (G := G) (F := F) (S := S.so 13 0 o) (k := 121) (p := 0) (cnt := ys.length) X h rfl (by decide) (by decide) (by show _ ≤ 60000; omega) c (by rw [so_eq]; exact b1) (by rw [so_eq]; exact b4)
    rw [so_eq, so_so, r1] at t
    have t : P_X13_tell G F (W.ad (.o 13 0)) (W.ad (.a 13 0 121)) 0 (Int32.ofNat ys.length) (mem W (S.so 13 0 o)) = _ := t
    rw [if_pos (show (Int32.ofNat ys.length) ≤ (8192 : Int32) from (n_le (b := 8192) (by omega) (by omega)).mpr c), h.gR 121 rfl (by decide), bO_s, bO_s, rcv_m h.lo, bO_s, t, bP_s, if_pos c]
    refine ⟨_, rfl, (agr_sA (by simp)).trans (agr_sf (by simp)), fun _ => ?_, fun q => absurd c q⟩
    exact ⟨by rw [sf_eq], c, wrB β4 0 ys, mB_sA _ _ _, rdB_wrB _ _ _⟩
  · rw [if_neg (show ¬ (Int32.ofNat ys.length) ≤ (8192 : Int32) from fun q => c ((n_le (b := 8192) (by omega) (by omega)).mp q)), if_neg c]
    exact ⟨o, rfl, agr.refl _ _ _ _ _, fun q => absurd q c, fun _ => rfl⟩
end MAD
