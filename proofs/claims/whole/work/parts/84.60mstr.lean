/-! A STRING WRITTEN: the model -/
/-- the place of a byte's letter among the model's -/
def seN (c : UInt8) : Option Nat := if c = 34 then some 0 else if c = 92 then some 1 else if c = 8 then some 2 else if c = 12 then some 3 else if c = 10 then some 4 else if c = 13 then some 5 else if c = 9 then some 6 else none
theorem seN_tab : ∀ n, n < 256 → seF (UInt8.ofNat n) = (seN (UInt8.ofNat n)).map fun k => lo8 ((mbyt.getD 82 []).getD k 0) := by decide +kernel
theorem seN_of (c : UInt8) : seF c = (seN c).map fun k => lo8 ((mbyt.getD 82 []).getD k 0) := by
  have := seN_tab c.toNat c.toNat_lt
  rwa [UInt8.ofNat_toNat] at this
theorem seN_lt {c : UInt8} {k : Nat} (h : seN c = some k) : k < 7 := by
  unfold seN at h
  repeat' split at h
  all_goals first | (have := Option.some.inj h; omega) | exact absurd h (by simp)
theorem hm_tab : ∀ n, n < 32 → lo8 (48 + b32 (UInt8.ofNat n) / 16) = hxH (UInt8.ofNat n) ∧ lo8 (if (10 : Int32) ≤ (b32 (UInt8.ofNat n) - b32 (UInt8.ofNat n) / 16 * 16) then 87 + (b32 (UInt8.ofNat n) - b32 (UInt8.ofNat n) / 16 * 16) else 48 + (b32 (UInt8.ofNat n) - b32 (UInt8.ofNat n) / 16 * 16)) = hxL (UInt8.ofNat n) := by decide +kernel
theorem hm_of {c : UInt8} (h : c.toNat < 32) : lo8 (48 + b32 c / 16) = hxH c ∧ lo8 (if (10 : Int32) ≤ (b32 c - b32 c / 16 * 16) then 87 + (b32 c - b32 c / 16 * 16) else 48 + (b32 c - b32 c / 16 * 16)) = hxL c := by
  have := hm_tab c.toNat h
  rwa [UInt8.ofNat_toNat] at this
theorem st_83 : str 83 = str 11 ∧ (mbyt.getD 82 []).length = 7 := by decide +kernel
section MST
variable {W : WR} {G : mG} {F : Nat} {S : ST}
theorem oM_sayc {o : Ob} {ys : List UInt8} {x : Int32} {y : UInt8} (h : isM W) (hd : mDr o ys) (hl : ys.length < 2 ^ 30) (hy : lo8 x = y) : ∃ o', P_X13_say G F (W.ad (.o 13 0)) x (mem W (S.so 13 0 o)) = some (mem W (S.so 13 0 o')) ∧ mDr o' (ys ++ [y]) ∧ agr [28] [] [27] [] o o' := by
  obtain ⟨f, v, g, d⟩ := QM_say (G := G) (F := F) (S := S.so 13 0 o) (x := x) (ys := ys) h (by rw [so_eq]; exact hd) hl
  rw [so_eq, so_so] at g
  rw [so_eq, hy] at d
  exact ⟨_, g, d, agr_dr⟩
theorem escF_len (c : UInt8) : (escF c).length ≤ 6 := by
  unfold escF
  cases seF c with
  | some e => exact (by decide : (2 : Nat) ≤ 6)
  | none =>
    show (if 32 ≤ c.toNat then [c] else str 11 ++ [hxH c, hxL c]).length ≤ 6
    split
    · exact (by decide : (1 : Nat) ≤ 6)
    · rw [List.length_append]
      show (str 11).length + 2 ≤ 6
      decide +kernel
theorem oM_sayStr_l {kb p n : Nat} {β : Nat → UInt8} (X : Cx G F W) (h : isM W) (qb : (kdA 13)[kb]? = some 1) (lb_ : mLen kb < 2 ^ 30) (hp : p + n ≤ mLen kb) (hne : kb ≠ 27) : ∀ (m k fuel : Nat) (o : Ob) (zs : List UInt8), m < fuel → k + m = n → mDr o zs → mB o kb β → zs.length + 6 * m < 2 ^ 28 → ∃ o', B_X13_sayString_9 G F fuel (W.ad (.o 13 0)) (W.ad (.a 13 0 kb)) (Int32.ofNat p) (Int32.ofNat n) (Int32.ofNat k) (mem W (S.so 13 0 o)) = some (mem W (S.so 13 0 o')) ∧ mDr o' (zs ++ ((rdB β (p + k) m).flatMap escF ++ [34])) ∧ agr [28] [] [27] [] o o' := by
  intro m
  induction m with
  | zero =>
    intro k fuel o zs hf hk hd hb hz
    obtain ⟨fuel, rfl⟩ : ∃ q, fuel = q + 1 := ⟨fuel - 1, by omega⟩
    obtain ⟨o', g, d, a⟩ := oM_sayc (G := G) (F := F) (S := S) (x := 34) (y := 34) h hd (by omega) rfl
    refine ⟨o', ?_, d, a⟩
    rw [B_X13_sayString_9, if_pos ((n_le (by omega) (by omega)).mpr (by omega)), rcv_m h.lo, bO_s, g, bO_s]
  | succ m ih =>
    intro k fuel o zs hf hk hd hb hz
    obtain ⟨fuel, rfl⟩ : ∃ q, fuel = q + 1 := ⟨fuel - 1, by omega⟩
    obtain ⟨c, hc⟩ : ∃ c, c = β (p + k) := ⟨_, rfl⟩
    have cl := escF_len c
    have rd : aI G (mem W (S.so 13 0 o)) 1 (W.ad (.a 13 0 kb)) ((Int32.ofNat p) + (Int32.ofNat k)) = some (sb c) := by
      rw [n_add, h.aB' qb hb (by omega) (by omega), hc]
    have sg : (rdB β (p + k) (m + 1)).flatMap escF ++ [34] = escF c ++ ((rdB β (p + (k + 1)) m).flatMap escF ++ [34]) := by
      rw [rdB_succ, List.flatMap_cons, List.append_assoc, hc]
      rfl
    rw [sg]
    have go : ∀ o1 : Ob, mDr o1 (zs ++ escF c) → agr [28] [] [27] [] o o1 → ∃ o', B_X13_sayString_9 G F fuel (W.ad (.o 13 0)) (W.ad (.a 13 0 kb)) (Int32.ofNat p) (Int32.ofNat n) ((Int32.ofNat k) + 1) (mem W (S.so 13 0 o1)) = some (mem W (S.so 13 0 o')) ∧ mDr o' (zs ++ (escF c ++ ((rdB β (p + (k + 1)) m).flatMap escF ++ [34]))) ∧ agr [28] [] [27] [] o o' := by
      intro o1 d1 a1
      obtain ⟨o', g, d, a⟩ := ih (k + 1) fuel o1 (zs ++ escF c) (by omega) (by omega) d1 (a1.mB hb (by simp; omega)) (by rw [List.length_append]; omega)
      rw [List.append_assoc] at d
      exact ⟨o', by rw [n_i1]; exact g, d, a1.trans a⟩
    have b106 : ∀ e : Option Nat, seN c = e → ∃ o', B_X13_sayString_106 G F (B_X13_sayString_9 G F fuel) (W.ad (.o 13 0)) (W.ad (.a 13 0 kb)) (Int32.ofNat p) (Int32.ofNat n) (Int32.ofNat k) (b32 c) (oI e) (mem W (S.so 13 0 o)) = some (mem W (S.so 13 0 o')) ∧ mDr o' (zs ++ (escF c ++ ((rdB β (p + (k + 1)) m).flatMap escF ++ [34]))) ∧ agr [28] [] [27] [] o o' := by
      intro e he
      have sf := seN_of c
      rw [he] at sf
      unfold B_X13_sayString_106
      cases e with
      | some q =>
        have q7 := seN_lt he
        have ec : escF c = [92, lo8 ((mbyt.getD 82 []).getD q 0)] := by unfold escF; rw [sf]; rfl
        obtain ⟨o1, g1, d1, a1⟩ := oM_sayc (G := G) (F := F) (S := S) (x := 92) (y := 92) h hd (by omega) rfl
        obtain ⟨o2, g2, d2, a2⟩ := oM_sayc (G := G) (F := F) (S := S) (x := (mbyt.getD 82 []).getD q 0) h d1 (by rw [List.length_append]; show zs.length + 1 < _; omega) rfl
        rw [if_neg (show ¬ oI (some q) < 0 from nn (by omega)), rcv_m h.lo, bO_s, g1, bO_s, srcs X (by decide), bO_s, show oI (some q) = (Int32.ofNat q) from rfl, QJ_charAt X (by decide) (by rw [st_83.2]; exact q7), bP_s, rcv_m h.lo, bO_s, g2, bO_s]
        rw [List.append_assoc] at d2
        exact go o2 (by rw [ec]; exact d2) (a1.trans a2)
      | none =>
        have sf : seF c = none := sf
        rw [if_pos (show oI none < 0 by decide)]
        simp only [b32_32]
        by_cases c32 : 32 ≤ c.toNat
        · have ec : escF c = [c] := by unfold escF; rw [sf]; exact if_pos c32
          obtain ⟨o1, g1, d1, a1⟩ := oM_sayc (G := G) (F := F) (S := S) (x := b32 c) (y := c) h hd (by omega) (lo8_b32 c)
          rw [if_pos c32, rcv_m h.lo, bO_s, g1, bO_s]
          exact go o1 (by rw [ec]; exact d1) a1
        · have ec : escF c = str 11 ++ ([hxH c] ++ [hxL c]) := by unfold escF; rw [sf]; exact if_neg c32
          obtain ⟨x1, x2⟩ := hm_of (c := c) (by omega)
          have l11 : (str 11).length = 4 := by decide +kernel
          obtain ⟨o1, g1, d1, a1⟩ := oM_say (G := G) (F := F) (S := S) (o := o) (j := 83) X h (by decide) hd (by omega)
          rw [st_83.1] at d1
          obtain ⟨o2, g2, d2, a2⟩ := oM_sayc (G := G) (F := F) (S := S) h d1 (by rw [List.length_append, l11]; omega) x1
          obtain ⟨o3, g3, d3, a3⟩ := oM_sayc (G := G) (F := F) (S := S) h d2 (by rw [List.length_append, List.length_append, l11]; show zs.length + 4 + 1 < _; omega) x2
          rw [List.append_assoc, List.append_assoc] at d3
          have gg := go o3 (by rw [ec]; exact d3) ((a1.trans a2).trans a3)
          rw [if_neg c32, rcv_m h.lo, bO_s, g1, bO_s, rcv_m h.lo, bO_s, g2, bO_s]
          by_cases z : (10 : Int32) ≤ (b32 c - b32 c / 16 * 16)
          · rw [if_pos z] at g3
            rw [if_pos z, rcv_m h.lo, bO_s, g3, bO_s]
            exact gg
          · rw [if_neg z] at g3
            rw [if_neg z, rcv_m h.lo, bO_s, g3, bO_s]
            exact gg
    rw [B_X13_sayString_9, if_neg (fun z => by have := (n_le (by omega) (by omega)).mp z; omega), rd, bO_s, sb_and]
    simp only [b32_eq (c := c) (show (8 : Int32) = b32 8 from rfl), b32_eq (c := c) (show (9 : Int32) = b32 9 from rfl), b32_eq (c := c) (show (10 : Int32) = b32 10 from rfl), b32_eq (c := c) (show (12 : Int32) = b32 12 from rfl), b32_eq (c := c) (show (13 : Int32) = b32 13 from rfl), b32_eq (c := c) (show (34 : Int32) = b32 34 from rfl), b32_eq (c := c) (show (92 : Int32) = b32 92 from rfl)]
    have bb := b106 (seN c) rfl
    unfold seN at bb
    by_cases c1 : c = 34
    · rw [if_pos c1] at bb ⊢
      exact bb
    rw [if_neg c1] at bb ⊢
    by_cases c2 : c = 92
    · rw [if_pos c2] at bb ⊢
      exact bb
    rw [if_neg c2] at bb ⊢
    by_cases c3 : c = 8
    · rw [if_pos c3] at bb ⊢
      exact bb
    rw [if_neg c3] at bb ⊢
    by_cases c4 : c = 12
    · rw [if_pos c4] at bb ⊢
      exact bb
    rw [if_neg c4] at bb ⊢
    by_cases c5 : c = 10
    · rw [if_pos c5] at bb ⊢
      exact bb
    rw [if_neg c5] at bb ⊢
    by_cases c6 : c = 13
    · rw [if_pos c6] at bb ⊢
      exact bb
    rw [if_neg c6] at bb ⊢
    by_cases c7 : c = 9
    · rw [if_pos c7] at bb ⊢
      exact bb
    rw [if_neg c7] at bb ⊢
    exact bb
theorem oM_sayString {kb p n : Nat} {β : Nat → UInt8} {o : Ob} {zs : List UInt8} (X : Cx G F W) (h : isM W) (qb : (kdA 13)[kb]? = some 1) (lb_ : mLen kb < 2 ^ 30) (hp : p + n ≤ mLen kb) (hne : kb ≠ 27) (hd : mDr o zs) (hb : mB o kb β) (hz : zs.length < 2 ^ 27) (hn : n < 90000) : ∃ o', P_X13_sayString G F (W.ad (.o 13 0)) (W.ad (.a 13 0 kb)) (Int32.ofNat p) (Int32.ofNat n) (mem W (S.so 13 0 o)) = some (mem W (S.so 13 0 o')) ∧ mDr o' (zs ++ strP (rdB β p n)) ∧ agr [28] [] [27] [] o o' := by
  have hF := X.hF
  obtain ⟨o1, g1, d1, a1⟩ := oM_sayc (G := G) (F := F) (S := S) (x := 34) (y := 34) h hd (by omega) rfl
  obtain ⟨o2, g2, d2, a2⟩ := oM_sayStr_l (G := G) (F := F) (S := S) X h qb lb_ hp hne n 0 F o1 (zs ++ [34]) (by omega) (by omega) d1 (a1.mB hb (by simp; omega)) (by rw [List.length_append]; show zs.length + 1 + 6 * n < _; omega)
  rw [List.append_assoc] at d2
  unfold P_X13_sayString
  rw [rcv_m h.lo, bO_s, g1, bO_s]
  exact ⟨o2, g2, d2, a1.trans a2⟩
end MST
