/-! TEXTS OF VALUES: the model's reader, byte by byte -/
def mro (o : Ob) (p fl top : Int32) (β : Nat → UInt8) : Ob := (((o.sf 22 p).sf 23 fl).sf 25 top).sA 15 (fun j => sb (β j))
def MA (S : ST) (o : Ob) (p fl : Int32) (u : Nat) (β : Nat → UInt8) (acc : List UInt8) : ST := S.so 13 0 (mro o p fl (Int32.ofNat (u + acc.length)) (wrB β u acc))
theorem Ob_ext2 {f f' : Nat → Int32} {g : Nat → Int64} {a a' : Nat → Nat → Int32} {l : Nat → Nat → Int64} {m : Nat → Nat → Nat → Int64} (h1 : ∀ k, f k = f' k) (h2 : ∀ k, a k = a' k) : Ob.mk f g a l m = Ob.mk f' g a' l m := by
  rw [funext h1, funext h2]
theorem mro_f {o : Ob} {p fl top : Int32} {β : Nat → UInt8} (k : Nat) : (mro o p fl top β).f k = if k = 25 then top else if k = 23 then fl else if k = 22 then p else o.f k := rfl
theorem mro_a {o : Ob} {p fl top : Int32} {β : Nat → UInt8} (k : Nat) : (mro o p fl top β).a k = if k = 15 then (fun j => sb (β j)) else o.a k := rfl
theorem mro_22 {o : Ob} {p fl top v : Int32} {β : Nat → UInt8} : (mro o p fl top β).sf 22 v = mro o v fl top β := by
  refine Ob_ext2 (fun k => ?_) (fun k => rfl)
  show (if k = 22 then v else if k = 25 then top else if k = 23 then fl else if k = 22 then p else o.f k) = if k = 25 then top else if k = 23 then fl else if k = 22 then v else o.f k
  repeat' split
  all_goals first | rfl | (exfalso; omega)
theorem mro_23 {o : Ob} {p fl top v : Int32} {β : Nat → UInt8} : (mro o p fl top β).sf 23 v = mro o p v top β := by
  refine Ob_ext2 (fun k => ?_) (fun k => rfl)
  show (if k = 23 then v else if k = 25 then top else if k = 23 then fl else if k = 22 then p else o.f k) = if k = 25 then top else if k = 23 then v else if k = 22 then p else o.f k
  repeat' split
  all_goals first | rfl | (exfalso; omega)
theorem mro_25 {o : Ob} {p fl top v : Int32} {β : Nat → UInt8} : (mro o p fl top β).sf 25 v = mro o p fl v β := by
  refine Ob_ext2 (fun k => ?_) (fun k => rfl)
  show (if k = 25 then v else if k = 25 then top else if k = 23 then fl else if k = 22 then p else o.f k) = if k = 25 then v else if k = 23 then fl else if k = 22 then p else o.f k
  repeat' split
  all_goals first | rfl | (exfalso; omega)
theorem mro_15 {o : Ob} {p fl top : Int32} {β β' : Nat → UInt8} : (mro o p fl top β).sA 15 (fun j => sb (β' j)) = mro o p fl top β' := by
  refine Ob_ext2 (fun k => rfl) (fun k => ?_)
  show (if k = 15 then (fun j => sb (β' j)) else if k = 15 then (fun j => sb (β j)) else o.a k) = if k = 15 then (fun j => sb (β' j)) else o.a k
  split <;> rfl
/-- the source that the model reads -/
abbrev isSr (W : WR) (ks : Nat) : Prop := W.r 13 0 19 = some (.a 13 0 ks) ∧ (kdA 13)[ks]? = some 1 ∧ mLen ks < 2 ^ 30 ∧ ks ≠ 15
abbrev SrC (o : Ob) (ks p0 : Nat) (s : List UInt8) : Prop := ∃ α : Nat → UInt8, mB o ks α ∧ o.f 20 = (Int32.ofNat p0) ∧ o.f 21 = (Int32.ofNat s.length) ∧ rdB α p0 s.length = s ∧ p0 + s.length ≤ mLen ks
def m7 (W : WR) (S : ST) (o : Ob) (u : Nat) (β : Nat → UInt8) (acc : List UInt8) (x : Option mM) (r : Nat ⊕ Nat) : Prop := match r with
  | .inr q => x = some (mem W (MA S o (Int32.ofNat q) (-1) u β acc))
  | .inl q => ∃ p', x = some (mem W (MA S o p' (Int32.ofNat q) u β acc))
def m7s (W : WR) (S : ST) (o : Ob) (u : Nat) (β : Nat → UInt8) (acc : List UInt8) (x : Option mM) (r : Nat ⊕ (List UInt8 × Nat)) : Prop := match r with
  | .inr (bs, q) => x = some (mem W (MA S o (Int32.ofNat q) (-1) u β (acc ++ bs)))
  | .inl q => ∃ (p' : Int32) (acc' : List UInt8), x = some (mem W (MA S o p' (Int32.ofNat q) u β acc')) ∧ acc'.length ≤ 8192
def m7f (W : WR) (S : ST) (o : Ob) (u : Nat) (β : Nat → UInt8) (acc : List UInt8) (x : Option (Int32 × mM)) (r : Nat ⊕ (Nat × Nat)) : Prop := match r with
  | .inr (v, q) => x = some ((Int32.ofNat v), mem W (MA S o (Int32.ofNat q) (-1) u β acc))
  | .inl q => ∃ v p', x = some (v, mem W (MA S o p' (Int32.ofNat q) u β acc))
def ixI : List Int32 → Int32 → Nat → Int32
  | [], _, _ => -1
  | y :: L, c, k => if y = c then (Int32.ofNat k) else ixI L c (k + 1)
def esI (n : Nat) : Int32 := if n = 34 then 0 else if n = 92 then 1 else if n = 47 then 2 else if n = 98 then 3 else if n = 102 then 4 else if n = 110 then 5 else if n = 114 then 6 else if n = 116 then 7 else if n = 117 then 8 else -1
theorem esI_ix : ∀ n, n < 256 → ixI (mbyt.getD 78 []) (((Int32.ofNat n)).toInt8.toInt32) 0 = esI n := by decide +kernel
section MRD
variable {W : WR} {G : mG} {F : Nat} {S : ST} {ks p0 u : Nat} {s acc : List UInt8} {o : Ob} {β : Nat → UInt8} {fl : Int32}
theorem ma_13 {p : Int32} : MA S o p fl u β acc 13 0 = mro o p fl (Int32.ofNat (u + acc.length)) (wrB β u acc) := by unfold MA; rw [so_eq]
theorem ma_at (h : isM W) {p : Int32} : gfI (mem W (MA S o p fl u β acc)) (W.ad (.o 13 0)) 13 22 = some p := by rw [h.gI 22 rfl, ma_13]; rfl
theorem ma_fl (h : isM W) {p : Int32} : gfI (mem W (MA S o p fl u β acc)) (W.ad (.o 13 0)) 13 23 = some fl := by rw [h.gI 23 rfl, ma_13]; rfl
theorem ma_top (h : isM W) {p : Int32} : gfI (mem W (MA S o p fl u β acc)) (W.ad (.o 13 0)) 13 25 = some (Int32.ofNat (u + acc.length)) := by rw [h.gI 25 rfl, ma_13]; rfl
theorem ma_o (h : isM W) {p : Int32} (k : Nat) (q : (kdF 13)[k]? = some 0) (hk : k ≠ 22 ∧ k ≠ 23 ∧ k ≠ 25) : gfI (mem W (MA S o p fl u β acc)) (W.ad (.o 13 0)) 13 k = some (o.f k) := by
  rw [h.gI k q, ma_13, mro_f, if_neg hk.2.2, if_neg hk.2.1, if_neg hk.1]
theorem ma_st (h : isM W) {p v : Int32} : pfv (mem W (MA S o p fl u β acc)) (W.ad (.o 13 0)) 13 22 (.int v) = some (mem W (MA S o v fl u β acc)) := by
  rw [h.pI 22 v rfl, ma_13, mro_22]
  unfold MA
  rw [so_so]
theorem ma_sf (h : isM W) {p v : Int32} : pfv (mem W (MA S o p fl u β acc)) (W.ad (.o 13 0)) 13 23 (.int v) = some (mem W (MA S o p v u β acc)) := by
  rw [h.pI 23 v rfl, ma_13, mro_23]
  unfold MA
  rw [so_so]
theorem ma_lo (h : isM W) {p : Int32} : rcv (mem W (MA S o p fl u β acc)) (W.ad (.o 13 0)) 13 = some () := rcv_m h.lo
theorem QM_good1 (h : isM W) {p : Int32} : P_X13_good G F (W.ad (.o 13 0)) (mem W (MA S o p (-1) u β acc)) = some (1, mem W (MA S o p (-1) u β acc)) := by
  unfold P_X13_good
  rw [ma_fl h, bO_s, if_neg (by decide)]
  rfl
theorem QM_good0 (h : isM W) {p : Int32} {q : Nat} (hq : q < 2 ^ 31) : P_X13_good G F (W.ad (.o 13 0)) (mem W (MA S o p (Int32.ofNat q) u β acc)) = some (0, mem W (MA S o p (Int32.ofNat q) u β acc)) := by
  unfold P_X13_good
  rw [ma_fl h, bO_s, if_pos (show (0 : Int32) ≤ (Int32.ofNat q) from (n_le (a := 0) (by omega) hq).mpr (by omega))]
  rfl
theorem QM_fail (h : isM W) {p v : Int32} : P_X13_fail G F (W.ad (.o 13 0)) v (mem W (MA S o p (-1) u β acc)) = some (mem W (MA S o p v u β acc)) := by
  unfold P_X13_fail
  rw [ma_fl h, bO_s, if_neg (by decide), ma_sf h, bO_s]
theorem src_by {α : Nat → UInt8} {p : Nat} (hr : rdB α p0 s.length = s) (hp : p < s.length) : α (p0 + p) = by8 s p := by
  have := rdB_at (β := α) (p := p0) hp
  rw [hr] at this
  unfold by8
  rw [List.getD_eq_getElem?_getD, this]
  rfl
theorem QM_at (h : isM W) (K : isSr W ks) (C : SrC o ks p0 s) {p : Nat} (hp : p < 2 ^ 30) (hl : s.length ≤ 8192) : P_X13_at G F (W.ad (.o 13 0)) (mem W (MA S o (Int32.ofNat p) fl u β acc)) = some (pB s p, mem W (MA S o (Int32.ofNat p) fl u β acc)) := by
  obtain ⟨α, c1, c2, c3, c4, c5⟩ := C
  unfold P_X13_at
  rw [ma_at h, bO_s, ma_o h 21 rfl (by decide), bO_s, c3]
  by_cases hi : s.length ≤ p
  · rw [if_pos ((n_le (by omega) (by omega)).mpr hi), pB_ge hi]
  · have e : gfR (mem W (MA S o (Int32.ofNat p) fl u β acc)) (W.ad (.o 13 0)) 13 19 = some (W.ad (.a 13 0 ks)) := gfR_m h.lo rfl K.1
    rw [if_neg (fun q => hi ((n_le (by omega) (by omega)).mp q)), e, bO_s, ma_o h 20 rfl (by decide), bO_s, bO_s, c2, n_add, h.aB (S := MA S o (Int32.ofNat p) fl u β acc) (β := α) K.2.1 (by rw [ma_13]; unfold mB; rw [mro_a, if_neg K.2.2.2]; exact c1) (by omega) (by have := K.2.2.1; omega), bO_s, sb_and, src_by c4 (by omega), pB_in (by omega)]
    rfl
theorem QM_blanks_l (h : isM W) (K : isSr W ks) (C : SrC o ks p0 s) (hl : s.length ≤ 8192) : ∀ (n p fuel : Nat), s.length - p = n → n < fuel → p ≤ s.length → B_X13_blanks_0 G F fuel (W.ad (.o 13 0)) (mem W (MA S o (Int32.ofNat p) fl u β acc)) = some (mem W (MA S o (Int32.ofNat (skb s p)) fl u β acc)) := by
  intro n
  induction n with
  | zero =>
    intro p fuel hn hf hp
    obtain ⟨fuel, rfl⟩ : ∃ q, fuel = q + 1 := ⟨fuel - 1, by omega⟩
    have e : cd s p = 0 := by unfold cd; rw [by8_ge (by omega)]; rfl
    rw [B_X13_blanks_0, ma_lo h, bO_s, QM_at h K C (by omega) hl, bP_s]
    simp only [pe32]
    rw [if_neg (by omega), ma_lo h, bO_s, QM_at h K C (by omega) hl, bP_s]
    simp only [pe9]
    rw [if_neg (by omega), ma_lo h, bO_s, QM_at h K C (by omega) hl, bP_s]
    simp only [pe10]
    rw [if_neg (by omega), ma_lo h, bO_s, QM_at h K C (by omega) hl, bP_s]
    simp only [pe13]
    rw [if_neg (by omega), skb_n (by rw [e]; rfl)]
  | succ n ih =>
    intro p fuel hn hf hp
    obtain ⟨fuel, rfl⟩ : ∃ q, fuel = q + 1 := ⟨fuel - 1, by omega⟩
    have go : isBl (cd s p) = true → (bO (gfI (mem W (MA S o (Int32.ofNat p) fl u β acc)) (W.ad (.o 13 0)) 13 22) fun v38 => bO (pfv (mem W (MA S o (Int32.ofNat p) fl u β acc)) (W.ad (.o 13 0)) 13 22 (.int (v38 + (1 : Int32)))) fun M43 => B_X13_blanks_0 G F fuel (W.ad (.o 13 0)) M43) = some (mem W (MA S o (Int32.ofNat (skb s p)) fl u β acc)) := by
      intro hb
      rw [ma_at h, bO_s, n_i1, ma_st h, bO_s, ih (p + 1) fuel (by omega) (by omega) (by omega), skb_y (by omega) hb]
    rw [B_X13_blanks_0, ma_lo h, bO_s, QM_at h K C (by omega) hl, bP_s]
    simp only [pe32]
    by_cases c1 : cd s p = 32
    · rw [if_pos c1]
      exact go (by rw [c1]; rfl)
    rw [if_neg c1, ma_lo h, bO_s, QM_at h K C (by omega) hl, bP_s]
    simp only [pe9]
    by_cases c2 : cd s p = 9
    · rw [if_pos c2]
      exact go (by rw [c2]; rfl)
    rw [if_neg c2, ma_lo h, bO_s, QM_at h K C (by omega) hl, bP_s]
    simp only [pe10]
    by_cases c3 : cd s p = 10
    · rw [if_pos c3]
      exact go (by rw [c3]; rfl)
    rw [if_neg c3, ma_lo h, bO_s, QM_at h K C (by omega) hl, bP_s]
    simp only [pe13]
    by_cases c4 : cd s p = 13
    · rw [if_pos c4]
      exact go (by rw [c4]; rfl)
    rw [if_neg c4, skb_n (by unfold isBl; rw [decide_eq_false c1, decide_eq_false c2, decide_eq_false c3, decide_eq_false c4]; rfl)]
theorem QM_blanks (X : Cx G F W) (h : isM W) (K : isSr W ks) (C : SrC o ks p0 s) (hl : s.length ≤ 8192) {p : Nat} (hp : p ≤ s.length) : P_X13_blanks G F (W.ad (.o 13 0)) (mem W (MA S o (Int32.ofNat p) fl u β acc)) = some (mem W (MA S o (Int32.ofNat (skb s p)) fl u β acc)) := QM_blanks_l h K C hl _ p F rfl (by have := X.hF; omega) hp
theorem QM_keep8 (h : isM W) {p x : Int32} (hu : u + acc.length < 16400) : P_X13_keep8 G F (W.ad (.o 13 0)) x (mem W (MA S o p fl u β acc)) = some (mem W (MA S o p fl u β (acc ++ [lo8 x]))) := by
  unfold P_X13_keep8
  have e : ∀ y : UInt8, sI (mem W (MA S o p fl u β acc)) 1 (W.ad (.a 13 0 15)) (Int32.ofNat (u + acc.length)) (sb y) = some (mem W (S.so 13 0 (mro o p fl (Int32.ofNat (u + acc.length)) (wrB β u (acc ++ [y]))))) := by
    intro y
    rw [h.sB (S := MA S o p fl u β acc) (k := 15) (β := wrB β u acc) rfl (by rw [ma_13]; rfl) (by exact hu) (by decide), ma_13, mro_15, wrB_snoc]
    unfold MA
    rw [so_so]
  rw [h.gR 15 rfl (by decide), bO_s, ma_top h, bO_s, sb_lo8 x, sb_sb, e, bO_s, h.gI 25 rfl, bO_s, so_eq, mro_f, if_pos rfl, h.pI 25 _ rfl, so_eq, so_so, mro_25, bO_s, n_i1]
  unfold MA
  rw [List.length_append, List.length_singleton, Nat.add_assoc]
theorem QM_word_l {j : Nat} (X : Cx G F W) (h : isM W) (K : isSr W ks) (C : SrC o ks p0 s) (hl : s.length ≤ 8192) (hj : j < 124) (hz : ∀ c ∈ str j, c.toNat ≠ 0) (hc : ∀ k, k < (mbyt.getD j []).length → (mbyt.getD j []).getD k 0 = b32 (lo8 ((mbyt.getD j []).getD k 0))) : ∀ (m k p fuel : Nat), m + 1 < fuel → k + m = (mbyt.getD j []).length → p ≤ s.length → m7 W S o u β acc (B_X13_word_2 G F fuel (W.ad (.o 13 0)) (G.1 j) (Int32.ofNat k) (mem W (MA S o (Int32.ofNat p) (-1) u β acc))) (wdR s ((str j).drop k) p) := by
  have hrc : rcs G (G.1 j) = some () := by
    obtain ⟨h1, v, h2, h3, h4⟩ := X.ro.1.1 j hj
    simp [rcs, h3]
  have h5 := mby_len j hj
  have hsl : (str j).length = (mbyt.getD j []).length := by unfold str; rw [List.length_map]
  intro m
  induction m with
  | zero =>
    intro k p fuel hf hk hp
    obtain ⟨fuel, rfl⟩ : ∃ q, fuel = q + 1 := ⟨fuel - 1, by omega⟩
    rw [B_X13_word_2, hrc, bO_s, QJ_length X hj, bP_s, if_pos ((n_le (by omega) (by omega)).mpr (by omega)), List.drop_of_length_le (by omega)]
    exact rfl
  | succ m ih =>
    intro k p fuel hf hk hp
    obtain ⟨fuel, rfl⟩ : ∃ q, fuel = q + 1 + 1 := ⟨fuel - 2, by omega⟩
    have hkl : k < (str j).length := by omega
    have ec : (mbyt.getD j []).getD k 0 = (Int32.ofNat ((str j)[k]).toNat) := by
      rw [hc k (by omega)]
      show b32 _ = b32 _
      congr 1
      have e : (str j)[k]? = some (lo8 ((mbyt.getD j []).getD k 0)) := by
        unfold str
        generalize mbyt.getD j [] = L at hk
        rw [List.getElem?_map, List.getD_eq_getElem?_getD, List.getElem?_eq_getElem (show k < L.length by omega)]
        rfl
      rw [List.getElem?_eq_getElem hkl] at e
      exact (Option.some.inj e).symm
    have hnz := hz _ (List.getElem_mem hkl)
    rw [B_X13_word_2, hrc, bO_s, QJ_length X hj, bP_s, if_neg (fun q => absurd ((n_le (by omega) (by omega)).mp q) (by omega)), ma_lo h, bO_s, QM_good1 h, bP_s, if_neg (by decide), ma_lo h, bO_s, QM_at h K C (by omega) hl, bP_s, bO_s, QJ_charAt X hj (by omega), bP_s, ec, List.drop_eq_getElem_cons hkl]
    show m7 _ _ _ _ _ _ _ (if cd s p = ((str j)[k]).toNat then wdR s ((str j).drop (k + 1)) (p + 1) else .inl p)
    by_cases hcd : cd s p = ((str j)[k]).toNat
    · have hi := cd_in (s := s) (p := p) (by omega)
      rw [if_pos hcd, if_pos (by rw [ck_eq (by omega) (by exact (str j)[k].toNat_lt)]; exact hcd), ma_at h, bO_s, n_i1, ma_st h, bO_s, n_i1]
      exact ih (k + 1) (p + 1) (fuel + 1) (by omega) (by omega) (by omega)
    · rw [if_neg hcd, if_neg (by rw [ck_eq (by omega) (by exact (str j)[k].toNat_lt)]; exact hcd), ma_at h, bO_s, ma_lo h, bO_s, QM_fail h, bO_s, n_i1, B_X13_word_2, hrc, bO_s, QJ_length X hj, bP_s]
      by_cases he : (mbyt.getD j []).length ≤ k + 1
      · rw [if_pos ((n_le (by omega) (by omega)).mpr he)]
        exact ⟨_, rfl⟩
      · rw [if_neg (fun q => he ((n_le (by omega) (by omega)).mp q)), ma_lo h, bO_s, QM_good0 h (by omega), bP_s, if_pos rfl]
        exact ⟨_, rfl⟩
theorem QM_word {j p : Nat} (X : Cx G F W) (h : isM W) (K : isSr W ks) (C : SrC o ks p0 s) (hl : s.length ≤ 8192) (hj : j ∈ [7, 8, 9, 10, 79, 80, 81]) (hp : p ≤ s.length) : m7 W S o u β acc (P_X13_word G F (W.ad (.o 13 0)) (G.1 j) (mem W (MA S o (Int32.ofNat p) (-1) u β acc))) (wdR s (str j) p) := by
  obtain ⟨h1, h2⟩ := wd_ok j hj
  have hj' : j < 124 := by simp only [List.mem_cons, List.not_mem_nil, or_false] at hj; omega
  have h5 := mby_len j hj'
  have := X.hF
  exact QM_word_l X h K C hl hj' h1 h2 (mbyt.getD j []).length 0 p F (by omega) (by omega) hp
theorem QM_isDg {p : Nat} {M : mM} : P_X13_isDigit G F (pB s p) M = some (if isDg (cd s p) = true then 1 else 0, M) := by
  unfold P_X13_isDigit isDg
  simp only [pl48, pg57]
  by_cases h1 : cd s p < 48
  · rw [if_pos h1, decide_eq_false (by omega)]
    rfl
  · rw [if_neg h1, decide_eq_true (by omega)]
    by_cases h2 : 57 < cd s p
    · rw [if_pos h2, decide_eq_false (by omega)]
      rfl
    · rw [if_neg h2, decide_eq_true (by omega)]
      rfl
theorem QM_digits_l (h : isM W) (K : isSr W ks) (C : SrC o ks p0 s) (hl : s.length ≤ 8192) : ∀ (n p fuel : Nat), s.length + 1 - p = n → n < fuel → p ≤ s.length + 1 → B_X13_digits_18 G F fuel (W.ad (.o 13 0)) (mem W (MA S o (Int32.ofNat p) fl u β acc)) = some (mem W (MA S o (Int32.ofNat (skp isDg s p)) fl u β acc)) := by
  intro n
  induction n with
  | zero =>
    intro p fuel hn hf hp
    obtain ⟨fuel, rfl⟩ : ∃ q, fuel = q + 1 := ⟨fuel - 1, by omega⟩
    have e : isDg (cd s p) = false := by rw [show cd s p = 0 by unfold cd; rw [by8_ge (by omega)]; rfl]; rfl
    rw [B_X13_digits_18, ma_lo h, bO_s, QM_at h K C (by omega) hl, bP_s, QM_isDg, bP_s, e, if_pos (by rfl), skp_n e]
  | succ n ih =>
    intro p fuel hn hf hp
    obtain ⟨fuel, rfl⟩ : ∃ q, fuel = q + 1 := ⟨fuel - 1, by omega⟩
    rw [B_X13_digits_18, ma_lo h, bO_s, QM_at h K C (by omega) hl, bP_s, QM_isDg, bP_s]
    cases e : isDg (cd s p) with
    | false => rw [if_pos (by rfl), skp_n e]
    | true =>
      have hi : p < s.length := cd_in (fun q => by rw [q] at e; exact absurd e (by decide))
      rw [if_neg (by decide), ma_at h, bO_s, n_i1, ma_st h, bO_s, ih (p + 1) fuel (by omega) (by omega) (by omega), skp_y hi e]
theorem QM_digits {p : Nat} (X : Cx G F W) (h : isM W) (K : isSr W ks) (C : SrC o ks p0 s) (hl : s.length ≤ 8192) (hp : p ≤ s.length + 1) : m7 W S o u β acc (P_X13_digits G F (W.ad (.o 13 0)) (mem W (MA S o (Int32.ofNat p) (-1) u β acc))) (dgR s p) := by
  have hF := X.hF
  unfold P_X13_digits dgR
  rw [ma_lo h, bO_s, QM_at h K C (by omega) hl, bP_s, QM_isDg, bP_s]
  cases e : isDg (cd s p) with
  | false =>
    rw [if_pos (by rfl), ma_at h, bO_s, ma_lo h, bO_s, QM_fail h, bO_s, QM_digits_l h K C hl _ p F rfl (by omega) hp, skp_n e, if_neg (by decide)]
    exact ⟨_, rfl⟩
  | true =>
    rw [if_neg (by decide), QM_digits_l h K C hl _ p F rfl (by omega) hp, if_pos rfl]
    exact rfl
end MRD
