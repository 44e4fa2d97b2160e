/-! THE MODEL'S LETTERS -/
def lfI (c : Int32) : Int32 := if 26 ≤ c then (if 52 ≤ c then (if 62 ≤ c then (if c = 62 then 45 else 95) else 48 + c - 52) else 97 + c - 26) else 65 + c
theorem QM_letterOf {G : mG} {F : Nat} {M : mM} (c : Int32) : P_X13_letterOf G F c M = some (lfI c, M) := by
  unfold P_X13_letterOf lfI
  repeat' split
  all_goals rfl
theorem lf_tab : ∀ v, v < 64 → lo8 (lfI (Int32.ofNat v)) = ltr v := by decide +kernel
theorem n_shr_and {a s : Nat} (hs : s ≤ 26) : ((Int32.ofNat a) >>> (Int32.ofNat s)) &&& 63 = (Int32.ofNat (a / 2 ^ s % 64)) := by
  apply i_ext
  rw [Int32.toBitVec_and, Int32.toBitVec_shiftRight, bv_of, bv_of (a / 2 ^ s % 64), BitVec.sshiftRight_eq', smod_n (by omega)]
  apply BitVec.eq_of_getLsbD_eq
  intro j hj
  have e63 : (63 : Int32).toBitVec = BitVec.ofNat 32 (2 ^ 6 - 1) := rfl
  rw [e63]
  simp only [BitVec.getLsbD_and, BitVec.getLsbD_sshiftRight, BitVec.getLsbD_ofNat, Nat.testBit_two_pow_sub_one]
  have h64 : a / 2 ^ s % 64 = a / 2 ^ s % 2 ^ 6 := rfl
  rw [h64, Nat.testBit_mod_two_pow, ← Nat.shiftRight_eq_div_pow, Nat.testBit_shiftRight]
  by_cases h6 : j < 6
  · have h1 : ¬ 32 ≤ j := by omega
    have h2 : s + j < 32 := by omega
    simp [h6, h1, h2, hj]
  · simp [h6]
section SAYLET
variable {W : WR} {G : mG} {F : Nat}
theorem QM_let_in {r9 : Nat → Nat → Int32 → Int32 → Int32 → Int32 → Int32 → mM → Option mM} {S : ST} {ys : List UInt8} {h b n a2 : Nat} {p c k : Int32} (hM : isM W) (hd : mDr (S 13 0) ys) (hy : ys.length < 2 ^ 30) (h6 : 6 ≤ b) (h13 : b < 13) : ∃ f v, B_X13_sayLetters_36 G F r9 (n + 1) (W.ad (.o 13 0)) a2 p c (Int32.ofNat h) (Int32.ofNat b) k (mem W S) = B_X13_sayLetters_36 G F r9 n (W.ad (.o 13 0)) a2 p c (Int32.ofNat h) (Int32.ofNat (b - 6)) k (mem W (S.so 13 0 (dr (S 13 0) f v))) ∧ mDr (dr (S 13 0) f v) (ys ++ [ltr (h / 2 ^ (b - 6) % 64)]) := by
  have hk : h / 2 ^ (b - 6) % 64 < 64 := Nat.mod_lt _ (by decide)
  obtain ⟨f, v, g, d⟩ := QM_say (G := G) (F := F) (x := lfI (Int32.ofNat (h / 2 ^ (b - 6) % 64))) hM hd hy
  rw [lf_tab _ hk] at d
  refine ⟨f, v, ?_, d⟩
  have e1 := (bits6 b h6 h13).1
  rw [B_X13_sayLetters_36, if_neg (by rw [lit 6, n_lt (by omega) (by omega)]; omega), e1, and31 (by omega), n_shr_and (by omega), QM_letterOf, bP_s, rcv_m hM.lo, bO_s, g, bO_s]
theorem QM_let_out {r9 : Nat → Nat → Int32 → Int32 → Int32 → Int32 → Int32 → mM → Option mM} {b n a1 a2 : Nat} {p c h k : Int32} {M : mM} (h6 : b < 6) : B_X13_sayLetters_36 G F r9 (n + 1) a1 a2 p c h (Int32.ofNat b) k M = r9 a1 a2 p c h (Int32.ofNat b) (k + 1) M := by
  rw [B_X13_sayLetters_36, if_pos (by rw [lit 6, n_lt (by omega) (by omega)]; omega)]
theorem mB_dr {o : Ob} {k : Nat} {β : Nat → UInt8} {f : Nat → Int32} {v : Int32} (hk : k ≠ 27) (h : mB o k β) : mB (dr o f v) k β := by
  unfold mB dr
  rw [sf_a, sA_a' hk]
  exact h
theorem QM_sayLetters_l {k1 p1 cnt : Nat} {β : Nat → UInt8} (X : Cx G F W) (hM : isM W) (q : (kdA 13)[k1]? = some 1) (hne : k1 ≠ 27) (hl : mLen k1 < 2 ^ 30) (hb : p1 + cnt ≤ mLen k1) (hc : cnt < 90000) : ∀ (m k n h b : Nat) (S : ST) (ys : List UInt8), m < n → k + m = cnt → (b = 0 ∨ b = 2 ∨ b = 4) → ys.length + 2 * m < 2 ^ 29 → mDr (S 13 0) ys → mB (S 13 0) k1 β → ∃ f v, B_X13_sayLetters_9 G F n (W.ad (.o 13 0)) (W.ad (.a 13 0 k1)) (Int32.ofNat p1) (Int32.ofNat cnt) (Int32.ofNat h) (Int32.ofNat b) (Int32.ofNat k) (mem W S) = some (mem W (S.so 13 0 (dr (S 13 0) f v))) ∧ mDr (dr (S 13 0) f v) (ys ++ encL b (h % 2 ^ b) (rdB β (p1 + k) m)) := by
  have hF := X.hF
  have hdr : ∀ (o : Ob), dr o (o.a 27) (o.f 28) = o := fun o => by unfold dr; rw [sA_self rfl, sf_self]
  intro m
  induction m with
  | zero =>
    intro k n h b S ys hn hk hbb hy hd hβ
    obtain ⟨n, rfl⟩ : ∃ q, n = q + 1 := ⟨n - 1, by omega⟩
    have e0 : rdB β (p1 + k) 0 = [] := rfl
    rw [B_X13_sayLetters_9, if_pos ((n_le (by omega) (by omega)).mpr (by omega)), e0, encL]
    by_cases h0 : b = 0
    · subst h0
      refine ⟨(S 13 0).a 27, (S 13 0).f 28, ?_, ?_⟩
      · rw [if_pos (by decide), hdr, so_self]
      · rw [if_pos rfl, hdr, List.append_nil]
        exact hd
    · have hr : h % 2 ^ b * 2 ^ (6 - b) < 64 := by
        rcases hbb with rfl | rfl | rfl <;> omega
      obtain ⟨f, v, g, d⟩ := QM_say (G := G) (F := F) (x := lfI (Int32.ofNat (h % 2 ^ b * 2 ^ (6 - b)))) hM hd (by omega)
      rw [lf_tab _ hr] at d
      have e4 : ((Int32.ofNat h) <<< ((6 - (Int32.ofNat b)) &&& 31)) &&& 63 = (Int32.ofNat (h % 2 ^ b * 2 ^ (6 - b))) := by
        have e5 : ∀ b, b < 6 → (6 - (Int32.ofNat b)) &&& 31 = (Int32.ofNat (6 - b)) := by decide +kernel
        rw [e5 b (by omega), n_shl (by omega), lit 63, n_and, and_mask _ 6]
        congr 1
        rcases hbb with rfl | rfl | rfl <;> omega
      refine ⟨f, v, ?_, ?_⟩
      · rw [if_neg (by rw [z32, n_le (by omega) (by omega)]; omega), e4, QM_letterOf, bP_s, rcv_m hM.lo, bO_s, g, bO_s]
      · rw [if_neg h0]
        exact d
  | succ m ih =>
    intro k n h b S ys hn hk hbb hy hd hβ
    obtain ⟨n, rfl⟩ : ∃ q, n = q + 1 := ⟨n - 1, by omega⟩
    obtain ⟨F', hF'⟩ : ∃ q, F = q + 1 + 1 + 1 := ⟨F - 3, by omega⟩
    have e1 : rdB β (p1 + k) (m + 1) = β (p1 + k) :: rdB β (p1 + (k + 1)) m := by
      unfold rdB
      rw [List.range_succ_eq_map, List.map_cons, List.map_map]
      congr 1
      apply List.map_congr_left
      intro j _
      show β (p1 + k + (j + 1)) = β (p1 + (k + 1) + j)
      congr 1
      omega
    have hx := (β (p1 + k)).toNat_lt
    have e2 : (((Int32.ofNat h) <<< ((8 : Int32) &&& 31)) ||| (sb (β (p1 + k)) &&& 255)) = (Int32.ofNat (h * 256 + (β (p1 + k)).toNat)) := by
      have e5 : (8 : Int32) &&& 31 = (Int32.ofNat 8) := by decide
      rw [e5, n_shl (by decide), sb_and, b32, n_or, or_byte]
    obtain ⟨H, hH⟩ : ∃ H, h * 256 + (β (p1 + k)).toNat = H := ⟨_, rfl⟩
    rw [B_X13_sayLetters_9, if_neg (by rw [n_le (by omega) (by omega)]; omega), n_add, hM.aB q hβ (by omega) (by omega), bO_s, e2, bits_add8 b (by omega), hH, e1, encL]
    have eF : B_X13_sayLetters_36 G F (B_X13_sayLetters_9 G F n) F = B_X13_sayLetters_36 G F (B_X13_sayLetters_9 G F n) (F' + 1 + 1 + 1) := by rw [← hF']
    obtain ⟨f1, v1, g1, d1⟩ := QM_let_in (r9 := B_X13_sayLetters_9 G F n) (n := F' + 1 + 1) (b := b + 8) (h := H) (k := (Int32.ofNat k)) (p := (Int32.ofNat p1)) (c := (Int32.ofNat cnt)) (a2 := W.ad (.a 13 0 k1)) (F := F) (G := G) hM hd (by omega) (by omega) (by omega)
    rw [eF, g1]
    by_cases h4 : b = 4
    · subst h4
      obtain ⟨f2, v2, g2, d2⟩ := QM_let_in (S := S.so 13 0 (dr (S 13 0) f1 v1)) (r9 := B_X13_sayLetters_9 G F n) (n := F' + 1) (b := 6) (h := H) (k := (Int32.ofNat k)) (p := (Int32.ofNat p1)) (c := (Int32.ofNat cnt)) (a2 := W.ad (.a 13 0 k1)) (F := F) (G := G) hM (by rw [so_eq]; exact d1) (by rw [List.length_append]; simp; omega) (by omega) (by omega)
      rw [so_eq, dr_dr] at g2 d2
      obtain ⟨f3, v3, g3, d3⟩ := ih (k + 1) n H 0 (S.so 13 0 (dr (S 13 0) f2 v2)) (ys ++ [ltr (H / 2 ^ (4 + 8 - 6) % 64)] ++ [ltr (H / 2 ^ (6 - 6) % 64)]) (by omega) (by omega) (Or.inl rfl) (by simp only [List.length_append, List.length_cons, List.length_nil]; omega) (by rw [so_eq]; exact d2) (by rw [so_eq]; exact mB_dr hne hβ)
      rw [so_eq, dr_dr] at g3 d3
      refine ⟨f3, v3, ?_, ?_⟩
      · rw [show (4 + 8 - 6 : Nat) = 6 from rfl, g2, show (6 - 6 : Nat) = 0 from rfl, QM_let_out (by omega), o32, n_add, so_so, g3, so_so]
      · rw [if_pos rfl]
        have q1 : H / 2 ^ (4 + 8 - 6) % 64 = (h % 2 ^ 4 * 256 + (β (p1 + k)).toNat) / 64 % 64 := by omega
        have q2 : H / 2 ^ (6 - 6) % 64 = (h % 2 ^ 4 * 256 + (β (p1 + k)).toNat) % 64 := by omega
        rw [q1, q2, Nat.pow_zero, Nat.mod_one, List.append_assoc, List.append_assoc] at d3
        exact d3
    · obtain ⟨f3, v3, g3, d3⟩ := ih (k + 1) n H (b + 2) (S.so 13 0 (dr (S 13 0) f1 v1)) (ys ++ [ltr (H / 2 ^ (b + 8 - 6) % 64)]) (by omega) (by omega) (by omega) (by simp only [List.length_append, List.length_cons, List.length_nil]; omega) (by rw [so_eq]; exact d1) (by rw [so_eq]; exact mB_dr hne hβ)
      rw [so_eq, dr_dr] at g3 d3
      refine ⟨f3, v3, ?_, ?_⟩
      · rw [show b + 8 - 6 = b + 2 from by omega, QM_let_out (by omega), o32, n_add, g3, so_so]
      · rw [if_neg h4]
        have q1 : H / 2 ^ (b + 8 - 6) % 64 = (h % 2 ^ b * 256 + (β (p1 + k)).toNat) / 2 ^ (b + 2) % 64 := by
          rcases hbb with rfl | rfl | rfl <;> omega
        have q2 : H % 2 ^ (b + 2) = (h % 2 ^ b * 256 + (β (p1 + k)).toNat) % 2 ^ (b + 2) := by
          rcases hbb with rfl | rfl | rfl <;> omega
        rw [q1, q2, List.append_assoc] at d3
        exact d3
theorem QM_sayLetters {S : ST} {ys : List UInt8} {k1 p1 cnt : Nat} {β : Nat → UInt8} (X : Cx G F W) (hM : isM W) (q : (kdA 13)[k1]? = some 1) (hne : k1 ≠ 27) (hl : mLen k1 < 2 ^ 30) (hb : p1 + cnt ≤ mLen k1) (hc : cnt < 90000) (hy : ys.length < 2 ^ 28) (hd : mDr (S 13 0) ys) (hβ : mB (S 13 0) k1 β) : ∃ f v, P_X13_sayLetters G F (W.ad (.o 13 0)) (W.ad (.a 13 0 k1)) (Int32.ofNat p1) (Int32.ofNat cnt) (mem W S) = some (mem W (S.so 13 0 (dr (S 13 0) f v))) ∧ mDr (dr (S 13 0) f v) (ys ++ enc (rdB β p1 cnt)) := by
  have := X.hF
  exact QM_sayLetters_l X hM q hne hl hb hc cnt 0 F 0 0 S ys (by omega) (Nat.zero_add _) (Or.inl rfl) (by omega) hd hβ
end SAYLET
