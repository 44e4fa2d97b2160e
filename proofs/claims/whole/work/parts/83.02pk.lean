/-! TEXTS OF VALUES: the class's reader, byte by byte (head printed by gen/g8302.py) -/
section PKS
variable {s : List UInt8} {p : Nat}
theorem pe9 : (pB s p = (9 : Int32)) = (cd s p = 9) := ck_eq (by decide) (by decide)
theorem pe10 : (pB s p = (10 : Int32)) = (cd s p = 10) := ck_eq (by decide) (by decide)
theorem pe13 : (pB s p = (13 : Int32)) = (cd s p = 13) := ck_eq (by decide) (by decide)
theorem pe32 : (pB s p = (32 : Int32)) = (cd s p = 32) := ck_eq (by decide) (by decide)
theorem pe34 : (pB s p = (34 : Int32)) = (cd s p = 34) := ck_eq (by decide) (by decide)
theorem pe43 : (pB s p = (43 : Int32)) = (cd s p = 43) := ck_eq (by decide) (by decide)
theorem pe44 : (pB s p = (44 : Int32)) = (cd s p = 44) := ck_eq (by decide) (by decide)
theorem pe45 : (pB s p = (45 : Int32)) = (cd s p = 45) := ck_eq (by decide) (by decide)
theorem pe46 : (pB s p = (46 : Int32)) = (cd s p = 46) := ck_eq (by decide) (by decide)
theorem pe47 : (pB s p = (47 : Int32)) = (cd s p = 47) := ck_eq (by decide) (by decide)
theorem pe48 : (pB s p = (48 : Int32)) = (cd s p = 48) := ck_eq (by decide) (by decide)
theorem pe58 : (pB s p = (58 : Int32)) = (cd s p = 58) := ck_eq (by decide) (by decide)
theorem pe69 : (pB s p = (69 : Int32)) = (cd s p = 69) := ck_eq (by decide) (by decide)
theorem pe91 : (pB s p = (91 : Int32)) = (cd s p = 91) := ck_eq (by decide) (by decide)
theorem pe92 : (pB s p = (92 : Int32)) = (cd s p = 92) := ck_eq (by decide) (by decide)
theorem pe93 : (pB s p = (93 : Int32)) = (cd s p = 93) := ck_eq (by decide) (by decide)
theorem pe98 : (pB s p = (98 : Int32)) = (cd s p = 98) := ck_eq (by decide) (by decide)
theorem pe101 : (pB s p = (101 : Int32)) = (cd s p = 101) := ck_eq (by decide) (by decide)
theorem pe102 : (pB s p = (102 : Int32)) = (cd s p = 102) := ck_eq (by decide) (by decide)
theorem pe110 : (pB s p = (110 : Int32)) = (cd s p = 110) := ck_eq (by decide) (by decide)
theorem pe114 : (pB s p = (114 : Int32)) = (cd s p = 114) := ck_eq (by decide) (by decide)
theorem pe116 : (pB s p = (116 : Int32)) = (cd s p = 116) := ck_eq (by decide) (by decide)
theorem pe117 : (pB s p = (117 : Int32)) = (cd s p = 117) := ck_eq (by decide) (by decide)
theorem pe123 : (pB s p = (123 : Int32)) = (cd s p = 123) := ck_eq (by decide) (by decide)
theorem pe125 : (pB s p = (125 : Int32)) = (cd s p = 125) := ck_eq (by decide) (by decide)
theorem pe224 : (pB s p = (224 : Int32)) = (cd s p = 224) := ck_eq (by decide) (by decide)
theorem pe237 : (pB s p = (237 : Int32)) = (cd s p = 237) := ck_eq (by decide) (by decide)
theorem pe240 : (pB s p = (240 : Int32)) = (cd s p = 240) := ck_eq (by decide) (by decide)
theorem pe244 : (pB s p = (244 : Int32)) = (cd s p = 244) := ck_eq (by decide) (by decide)
theorem pl32 : (pB s p < (32 : Int32)) = (cd s p < 32) := ck_lt (by decide) (by decide)
theorem pl48 : (pB s p < (48 : Int32)) = (cd s p < 48) := ck_lt (by decide) (by decide)
theorem pl65 : (pB s p < (65 : Int32)) = (cd s p < 65) := ck_lt (by decide) (by decide)
theorem pl97 : (pB s p < (97 : Int32)) = (cd s p < 97) := ck_lt (by decide) (by decide)
theorem pl128 : (pB s p < (128 : Int32)) = (cd s p < 128) := ck_lt (by decide) (by decide)
theorem pl194 : (pB s p < (194 : Int32)) = (cd s p < 194) := ck_lt (by decide) (by decide)
theorem pl224 : (pB s p < (224 : Int32)) = (cd s p < 224) := ck_lt (by decide) (by decide)
theorem pl240 : (pB s p < (240 : Int32)) = (cd s p < 240) := ck_lt (by decide) (by decide)
theorem pg57 : ((57 : Int32) < pB s p) = (57 < cd s p) := ck_gt (by decide)
theorem pg70 : ((70 : Int32) < pB s p) = (70 < cd s p) := ck_gt (by decide)
theorem pg102 : ((102 : Int32) < pB s p) = (102 < cd s p) := ck_gt (by decide)
theorem pg223 : ((223 : Int32) < pB s p) = (223 < cd s p) := ck_gt (by decide)
theorem pg239 : ((239 : Int32) < pB s p) = (239 < cd s p) := ck_gt (by decide)
theorem pg244 : ((244 : Int32) < pB s p) = (244 < cd s p) := ck_gt (by decide)
theorem ph32 : ((32 : Int32) ≤ pB s p) = (32 ≤ cd s p) := ck_ge (by decide) (by decide)
theorem ph128 : ((128 : Int32) ≤ pB s p) = (128 ≤ cd s p) := ck_ge (by decide) (by decide)
end PKS
theorem n_i1 (a : Nat) : (Int32.ofNat a) + 1 = (Int32.ofNat (a + 1)) := n_add a 1
theorem sf_eq (o : Ob) (k : Nat) (v : Int32) : (o.sf k v).f k = v := if_pos rfl
theorem sf_ne {o : Ob} {k k' : Nat} {v : Int32} (h : k' ≠ k) : (o.sf k v).f k' = o.f k' := if_neg h
def hv37 (x : Int32) : Int32 := if x < (65 : Int32) then -1 else if (70 : Int32) < x then -1 else (x - (65 : Int32)) + (10 : Int32)
def hv17 (x : Int32) : Int32 := if x < (97 : Int32) then hv37 x else if (102 : Int32) < x then hv37 x else (x - (97 : Int32)) + (10 : Int32)
def hvI (x : Int32) : Int32 := if x < (48 : Int32) then hv17 x else if (57 : Int32) < x then hv17 x else x - (48 : Int32)
def hv (n : Nat) : Int32 := if hxV n = 16 then -1 else (Int32.ofNat (hxV n))
theorem hvI_n : ∀ n, n < 256 → hvI (Int32.ofNat n) = hv n := by decide +kernel
theorem hvI_pB (s : List UInt8) (p : Nat) : hvI (pB s p) = hv (cd s p) := by
  by_cases hp : p < s.length
  · rw [pB_in hp]
    exact hvI_n _ (cd_lt s p)
  · rw [pB_ge (by omega), show cd s p = 0 by unfold cd; rw [by8_ge (by omega)]; rfl]
    decide
theorem Q7_hexValue {G : mG} {F : Nat} {M : mM} {x : Int32} : P_X7_hexValue G F x M = some (hvI x, M) := by
  unfold P_X7_hexValue hvI B_X7_hexValue_17 hv17 B_X7_hexValue_37 hv37
  repeat' split
  all_goals rfl
/-- the reader stands over a source and a text -/
abbrev isRd (W : WR) (is_ ip t rs : Nat) : Prop := W.live (.o 7 0) = true ∧ W.r 7 0 0 = some (.o 0 is_) ∧ W.r 7 0 1 = some (.o 9 t) ∧ isB W is_ rs ∧ isB W ip 8192 ∧ W.live (.o 9 t) = true ∧ W.r 9 t 10 = some (.o 0 ip) ∧ is_ ≠ ip ∧ ∀ k, 1 ≤ k → k ≤ 9 → W.live (.a 9 t k) = true ∧ W.r 9 t k = some (.a 9 t k) ∧ W.n (.a 9 t k) = 600
def R7 (S : ST) (ip : Nat) (o b : Ob) : ST := (S.so 7 0 o).so 0 ip b
def o7 (W : WR) (S : ST) (ip : Nat) (o b : Ob) (x : Option (Int32 × mM)) (r : Nat ⊕ Nat) : Prop := match r with
  | .inr q => x = some (1, mem W (R7 S ip (o.sf 2 (Int32.ofNat q)) b))
  | .inl q => ∃ o', x = some (0, mem W (R7 S ip o' b)) ∧ o'.f 3 = (Int32.ofNat q)
def o7s (W : WR) (S : ST) (ip : Nat) (o : Ob) (pl : List UInt8) (x : Option (Int32 × mM)) (r : Nat ⊕ (List UInt8 × Nat)) : Prop := match r with
  | .inr (bs, q) => ∃ b', x = some (1, mem W (R7 S ip (o.sf 2 (Int32.ofNat q)) b')) ∧ Byt 8192 b' (pl ++ bs) false
  | .inl q => ∃ o' b' xs l, x = some (0, mem W (R7 S ip o' b')) ∧ o'.f 3 = (Int32.ofNat q) ∧ Byt 8192 b' xs l
section RD
variable {W : WR} {G : mG} {F : Nat} {S : ST} {is_ ip t rs : Nat} {s pl : List UInt8} {ls : Bool} {o b : Ob}
theorem r7_7 : R7 S ip o b 7 0 = o := by unfold R7; rw [so_ne (by omega), so_eq]
theorem r7_p : R7 S ip o b 0 ip = b := by unfold R7; rw [so_eq]
theorem r7_s (h : is_ ≠ ip) : R7 S ip o b 0 is_ = S 0 is_ := by unfold R7; rw [so_ne (by omega), so_ne (by omega)]
theorem r7g (K : isRd W is_ ip t rs) (k : Nat) (q : (kdF 7)[k]? = some 0) : gfI (mem W (R7 S ip o b)) (W.ad (.o 7 0)) 7 k = some (o.f k) := by rw [gfI_m K.1 q, r7_7]
theorem r7p (K : isRd W is_ ip t rs) (k : Nat) (q : (kdF 7)[k]? = some 0) (v : Int32) : pfv (mem W (R7 S ip o b)) (W.ad (.o 7 0)) 7 k (.int v) = some (mem W (R7 S ip (o.sf k v) b)) := by
  rw [pfI_m K.1 q, r7_7]
  unfold R7
  rw [so_comm (by omega), so_so]
theorem r7at (K : isRd W is_ ip t rs) (v : Int32) : gfI (mem W (R7 S ip (o.sf 2 v) b)) (W.ad (.o 7 0)) 7 2 = some v := by rw [r7g K 2 rfl, sf_eq]
theorem r7st (K : isRd W is_ ip t rs) (v w : Int32) : pfv (mem W (R7 S ip (o.sf 2 v) b)) (W.ad (.o 7 0)) 7 2 (.int w) = some (mem W (R7 S ip (o.sf 2 w) b)) := by rw [r7p K 2 rfl, sf_sf]
theorem r7src (K : isRd W is_ ip t rs) : gfR (mem W (R7 S ip o b)) (W.ad (.o 7 0)) 7 0 = some (W.ad (.o 0 is_)) := gfR_m K.1 rfl K.2.1
theorem r7txt (K : isRd W is_ ip t rs) : gfR (mem W (R7 S ip o b)) (W.ad (.o 7 0)) 7 1 = some (W.ad (.o 9 t)) := gfR_m K.1 rfl K.2.2.1
theorem r7pool (K : isRd W is_ ip t rs) : gfR (mem W (R7 S ip o b)) (W.ad (.o 9 t)) 9 10 = some (W.ad (.o 0 ip)) := gfR_m K.2.2.2.2.2.1 rfl K.2.2.2.2.2.2.1
theorem r7many (K : isRd W is_ ip t rs) (hs : Byt rs (S 0 is_) s ls) : gfI (mem W (R7 S ip o b)) (W.ad (.o 0 is_)) 0 1 = some (Int32.ofNat s.length) := by rw [K.2.2.2.1.gI 1 rfl, r7_s K.2.2.2.2.2.2.2.1, hs.many]
theorem r7peek {p : Nat} (K : isRd W is_ ip t rs) (hs : Byt rs (S 0 is_) s ls) (hp : p < 2 ^ 31) : P_X0_peek G F (W.ad (.o 0 is_)) (Int32.ofNat p) (mem W (R7 S ip o b)) = some (pB s p, mem W (R7 S ip o b)) := Q0_peek K.2.2.2.1 (by rw [r7_s K.2.2.2.2.2.2.2.1]; exact hs) hp
theorem r7get {p : Nat} (K : isRd W is_ ip t rs) (hs : Byt rs (S 0 is_) s ls) (hp : p < 2 ^ 31) : P_X0_get G F (W.ad (.o 0 is_)) (Int32.ofNat p) (mem W (R7 S ip o b)) = some ((Int32.ofNat (cd s p)), mem W (R7 S ip o b)) := by
  rw [Q0_get K.2.2.2.1 (by rw [r7_s K.2.2.2.2.2.2.2.1]; exact hs) hp, gB_cd]
theorem r7sl (K : isRd W is_ ip t rs) : rcv (mem W (R7 S ip o b)) (W.ad (.o 0 is_)) 0 = some () := rcv_m K.2.2.2.1.lo
theorem r7pl (K : isRd W is_ ip t rs) : rcv (mem W (R7 S ip o b)) (W.ad (.o 0 ip)) 0 = some () := rcv_m K.2.2.2.2.1.lo
theorem r7lo (K : isRd W is_ ip t rs) : rcv (mem W (R7 S ip o b)) (W.ad (.o 7 0)) 7 = some () := rcv_m K.1
theorem r7put {x : Int32} (K : isRd W is_ ip t rs) (hb : Byt 8192 b pl false) (hl : pl.length < 8192) : ∃ b', P_X0_put G F (W.ad (.o 0 ip)) x (mem W (R7 S ip o b)) = some (mem W (R7 S ip o b')) ∧ Byt 8192 b' (pl ++ [lo8 x]) false := put_fit K.2.2.2.2.1 hb hl
theorem Q7_isBlank {n : Nat} {M : mM} (hn : n < 256) : P_X7_isBlank G F (Int32.ofNat n) M = some (if isBl n = true then 1 else 0, M) := by
  have e : ∀ k, k < 256 → ((Int32.ofNat n) = (Int32.ofNat k)) = (n = k) := fun k hk => propext (n_eq (by omega) (by omega))
  have e1 : ((Int32.ofNat n) = (32 : Int32)) = (n = 32) := e 32 (by omega)
  have e2 : ((Int32.ofNat n) = (9 : Int32)) = (n = 9) := e 9 (by omega)
  have e3 : ((Int32.ofNat n) = (10 : Int32)) = (n = 10) := e 10 (by omega)
  have e4 : ((Int32.ofNat n) = (13 : Int32)) = (n = 13) := e 13 (by omega)
  unfold P_X7_isBlank isBl
  simp only [e1, e2, e3, e4]
  by_cases h1 : n = 32
  · rw [if_pos h1, decide_eq_true h1]; rfl
  rw [if_neg h1, decide_eq_false h1]
  by_cases h2 : n = 9
  · rw [if_pos h2, decide_eq_true h2]; rfl
  rw [if_neg h2, decide_eq_false h2]
  by_cases h3 : n = 10
  · rw [if_pos h3, decide_eq_true h3]; rfl
  rw [if_neg h3, decide_eq_false h3]
  by_cases h4 : n = 13
  · rw [if_pos h4, decide_eq_true h4]; rfl
  rw [if_neg h4, decide_eq_false h4]
  rfl
theorem Q7_skip_l (K : isRd W is_ ip t rs) (hs : Byt rs (S 0 is_) s ls) (hl : s.length ≤ 8192) : ∀ (n p fuel : Nat), s.length - p = n → n < fuel → p ≤ s.length → B_X7_skipBlanks_0 G F fuel (W.ad (.o 7 0)) (mem W (R7 S ip (o.sf 2 (Int32.ofNat p)) b)) = some (mem W (R7 S ip (o.sf 2 (Int32.ofNat (skb s p))) b)) := by
  intro n
  induction n with
  | zero =>
    intro p fuel hn hf hp
    obtain ⟨fuel, rfl⟩ : ∃ q, fuel = q + 1 := ⟨fuel - 1, by omega⟩
    rw [B_X7_skipBlanks_0, r7at K, bO_s, r7src K, bO_s, r7many K hs, bO_s, if_pos ((n_le (by omega) (by omega)).mpr (by omega)), skb_n (by rw [show cd s p = 0 by unfold cd; rw [by8_ge (by omega)]; rfl]; rfl)]
  | succ n ih =>
    intro p fuel hn hf hp
    obtain ⟨fuel, rfl⟩ : ∃ q, fuel = q + 1 := ⟨fuel - 1, by omega⟩
    rw [B_X7_skipBlanks_0, r7at K, bO_s, r7src K, bO_s, r7many K hs, bO_s, if_neg (fun q => absurd ((n_le (by omega) (by omega)).mp q) (by omega)), bO_s, bO_s, r7sl K, bO_s, r7get K hs (by omega), bP_s, Q7_isBlank (cd_lt s p), bP_s]
    cases h : isBl (cd s p) with
    | false => rw [if_pos (by rfl), skb_n h]
    | true =>
      rw [if_neg (by decide), r7at K, bO_s, n_i1, r7st K, bO_s, ih (p + 1) fuel (by omega) (by omega) (by omega), skb_y (by omega) h]
theorem Q7_skip {p : Nat} (X : Cx G F W) (K : isRd W is_ ip t rs) (hs : Byt rs (S 0 is_) s ls) (hl : s.length ≤ 8192) (hp : p ≤ s.length) : P_X7_skipBlanks G F (W.ad (.o 7 0)) (mem W (R7 S ip (o.sf 2 (Int32.ofNat p)) b)) = some (mem W (R7 S ip (o.sf 2 (Int32.ofNat (skb s p))) b)) := Q7_skip_l K hs hl _ p F rfl (by have := X.hF; omega) hp
theorem Q7_wrong {q : Nat} (K : isRd W is_ ip t rs) : ∃ o', P_X7_wrong G F (W.ad (.o 7 0)) (Int32.ofNat q) (mem W (R7 S ip o b)) = some (0, mem W (R7 S ip o' b)) ∧ o'.f 3 = (Int32.ofNat q) := by
  unfold P_X7_wrong
  rw [r7p K 3 rfl, bO_s]
  exact ⟨_, rfl, sf_eq _ _ _⟩
theorem Q7_word_l {j : Nat} (X : Cx G F W) (K : isRd W is_ ip t rs) (hs : Byt rs (S 0 is_) s ls) (hl : s.length ≤ 8192) (hj : j < 124) (hz : ∀ c ∈ str j, c.toNat ≠ 0) (hc : ∀ k, k < (mbyt.getD j []).length → (mbyt.getD j []).getD k 0 = b32 (lo8 ((mbyt.getD j []).getD k 0))) : ∀ (m k p fuel : Nat), m < fuel → k + m = (mbyt.getD j []).length → p ≤ s.length + 8 → o7 W S ip o b (B_X7_word_2 G F fuel (W.ad (.o 7 0)) (G.1 j) (Int32.ofNat k) (mem W (R7 S ip (o.sf 2 (Int32.ofNat p)) b))) (wdR s ((str j).drop k) p) := by
  have hrc : rcs G (G.1 j) = some () := by
    obtain ⟨h1, v, h2, h3, h4⟩ := X.ro.1.1 j hj
    simp [rcs, h3]
  have h5 := mby_len j hj
  have hsl : (str j).length = (mbyt.getD j []).length := by unfold str; rw [List.length_map]
  intro m
  induction m with
  | zero =>
    intro k p fuel hf hk hp
    obtain ⟨fuel, rfl⟩ : ∃ q, fuel = q + 1 := ⟨fuel - 1, by omega⟩
    rw [B_X7_word_2, hrc, bO_s, QJ_length X hj, bP_s, if_pos ((n_le (by omega) (by omega)).mpr (by omega)), List.drop_of_length_le (by omega)]
    exact rfl
  | succ m ih =>
    intro k p fuel hf hk hp
    obtain ⟨fuel, rfl⟩ : ∃ q, fuel = q + 1 := ⟨fuel - 1, by omega⟩
    have hkl : k < (str j).length := by omega
    have ec : (mbyt.getD j []).getD k 0 = (Int32.ofNat ((str j)[k]).toNat) := by
      rw [hc k (by omega)]
      show b32 _ = b32 _
      congr 1
      have e : (str j)[k]? = some (lo8 ((mbyt.getD j []).getD k 0)) := by
        unfold str
        generalize mbyt.getD j [] = L at hk
        rw [List.getElem?_map, List.getD_eq_getElem?_getD, List.getElem?_eq_getElem (show k < L.length by omega)]
        rfl
      rw [List.getElem?_eq_getElem hkl] at e
      exact (Option.some.inj e).symm
    have hnz := hz _ (List.getElem_mem hkl)
    rw [B_X7_word_2, hrc, bO_s, QJ_length X hj, bP_s, if_neg (fun q => absurd ((n_le (by omega) (by omega)).mp q) (by omega)), r7src K, bO_s, r7at K, bO_s, r7sl K, bO_s, r7peek K hs (by omega), bP_s, bO_s, QJ_charAt X hj (by omega), bP_s, ec, List.drop_eq_getElem_cons hkl]
    show o7 _ _ _ _ _ _ (if cd s p = ((str j)[k]).toNat then wdR s ((str j).drop (k + 1)) (p + 1) else .inl p)
    by_cases h : cd s p = ((str j)[k]).toNat
    · have hi := cd_in (s := s) (p := p) (by omega)
      rw [if_pos h, if_pos (by rw [ck_eq (by omega) (by exact (str j)[k].toNat_lt)]; exact h), r7at K, bO_s, n_i1, r7st K, bO_s, n_i1]
      exact ih (k + 1) (p + 1) fuel (by omega) (by omega) (by omega)
    · rw [if_neg h, if_neg (by rw [ck_eq (by omega) (by exact (str j)[k].toNat_lt)]; exact h), r7at K, bO_s, r7lo K, bO_s]
      obtain ⟨o', w1, w2⟩ := Q7_wrong (G := G) (F := F) (S := S) (o := o.sf 2 (Int32.ofNat p)) (b := b) (q := p) K
      rw [w1, bP_s]
      exact ⟨o', rfl, w2⟩
theorem wd_ok : ∀ j, j ∈ [7, 8, 9, 10, 79, 80, 81] → (∀ c ∈ str j, c.toNat ≠ 0) ∧ ∀ k, k < (mbyt.getD j []).length → (mbyt.getD j []).getD k 0 = b32 (lo8 ((mbyt.getD j []).getD k 0)) := by decide +kernel
theorem Q7_word {j p : Nat} (X : Cx G F W) (K : isRd W is_ ip t rs) (hs : Byt rs (S 0 is_) s ls) (hl : s.length ≤ 8192) (hj : j ∈ [7, 8, 9, 10, 79, 80, 81]) (hp : p ≤ s.length + 8) : o7 W S ip o b (P_X7_word G F (W.ad (.o 7 0)) (G.1 j) (mem W (R7 S ip (o.sf 2 (Int32.ofNat p)) b))) (wdR s (str j) p) := by
  obtain ⟨h1, h2⟩ := wd_ok j hj
  have hj' : j < 124 := by simp only [List.mem_cons, List.not_mem_nil, or_false] at hj; omega
  have h5 := mby_len j hj'
  have := X.hF
  exact Q7_word_l X K hs hl hj' h1 h2 (mbyt.getD j []).length 0 p F (by omega) (by omega) hp
theorem Q7_digits_l {p0 : Nat} (K : isRd W is_ ip t rs) (hs : Byt rs (S 0 is_) s ls) (hl : s.length ≤ 8192) (hp0 : p0 ≤ s.length + 8) : ∀ (n p fuel : Nat), s.length + 8 - p = n → n < fuel → p ≤ s.length + 8 → p0 ≤ p → o7 W S ip o b (B_X7_digits_5 G F fuel (W.ad (.o 7 0)) (Int32.ofNat p0) (mem W (R7 S ip (o.sf 2 (Int32.ofNat p)) b))) (if p0 < skp isDg s p then .inr (skp isDg s p) else .inl p0) := by
  have fin : ∀ p, isDg (cd s p) = false → p ≤ s.length + 8 → p0 ≤ p → o7 W S ip o b (B_X7_digits_64 G F (W.ad (.o 7 0)) (Int32.ofNat p0) (mem W (R7 S ip (o.sf 2 (Int32.ofNat p)) b))) (if p0 < skp isDg s p then .inr (skp isDg s p) else .inl p0) := by
    intro p hd hp h0
    rw [skp_n hd, B_X7_digits_64, r7at K, bO_s]
    by_cases h : p0 < p
    · rw [if_pos h, if_pos ((n_lt (by omega) (by omega)).mpr h)]
      exact rfl
    · have e : p = p0 := by omega
      subst e
      rw [if_neg h, if_neg (fun q => h ((n_lt (by omega) (by omega)).mp q)), bO_s, r7lo K, bO_s]
      obtain ⟨o', w1, w2⟩ := Q7_wrong (G := G) (F := F) (S := S) (o := o.sf 2 (Int32.ofNat p)) (b := b) (q := p) K
      rw [w1, bP_s, if_pos rfl]
      exact ⟨o', rfl, w2⟩
  have z : ∀ p, s.length ≤ p → isDg (cd s p) = false := fun p hp => by
    rw [show cd s p = 0 by unfold cd; rw [by8_ge (by omega)]; rfl]
    rfl
  intro n
  induction n with
  | zero =>
    intro p fuel hn hf hp h0
    obtain ⟨fuel, rfl⟩ : ∃ q, fuel = q + 1 := ⟨fuel - 1, by omega⟩
    rw [B_X7_digits_5, r7at K, bO_s, r7src K, bO_s, r7many K hs, bO_s, if_pos ((n_le (by omega) (by omega)).mpr (by omega))]
    exact fin p (z p (by omega)) (by omega) h0
  | succ n ih =>
    intro p fuel hn hf hp h0
    obtain ⟨fuel, rfl⟩ : ∃ q, fuel = q + 1 := ⟨fuel - 1, by omega⟩
    rw [B_X7_digits_5, r7at K, bO_s, r7src K, bO_s, r7many K hs, bO_s]
    have hcl := cd_lt s p
    by_cases hin : s.length ≤ p
    · rw [if_pos ((n_le (by omega) (by omega)).mpr (by omega))]
      exact fin p (z p hin) hp h0
    · rw [if_neg (fun q => absurd ((n_le (by omega) (by omega)).mp q) (by omega)), bO_s, bO_s, r7sl K, bO_s, r7get K hs (by omega), bP_s]
      by_cases h1 : cd s p < 48
      · rw [if_pos (show (Int32.ofNat (cd s p)) < (48 : Int32) from (n_lt (b := 48) (by omega) (by omega)).mpr h1)]
        exact fin p (by unfold isDg; rw [decide_eq_false (by omega)]; rfl) hp h0
      · rw [if_neg (show ¬ (Int32.ofNat (cd s p)) < (48 : Int32) from fun q => h1 ((n_lt (b := 48) (by omega) (by omega)).mp q)), r7src K, bO_s, r7at K, bO_s, r7sl K, bO_s, r7get K hs (by omega), bP_s]
        by_cases h2 : 57 < cd s p
        · rw [if_pos (show (57 : Int32) < (Int32.ofNat (cd s p)) from (n_lt (a := 57) (by omega) (by omega)).mpr h2)]
          exact fin p (by unfold isDg; rw [decide_eq_false (p := cd s p ≤ 57) (by omega), Bool.and_false]) hp h0
        · have hd : isDg (cd s p) = true := by unfold isDg; rw [decide_eq_true (by omega), decide_eq_true (by omega)]; rfl
          rw [if_neg (show ¬ (57 : Int32) < (Int32.ofNat (cd s p)) from fun q => h2 ((n_lt (a := 57) (by omega) (by omega)).mp q)), r7at K, bO_s, n_i1, r7st K, bO_s, skp_y (by omega) hd]
          exact ih (p + 1) fuel (by omega) (by omega) (by omega) (by omega)
theorem Q7_digits {p : Nat} (X : Cx G F W) (K : isRd W is_ ip t rs) (hs : Byt rs (S 0 is_) s ls) (hl : s.length ≤ 8192) (hp : p ≤ s.length + 8) : o7 W S ip o b (P_X7_digits G F (W.ad (.o 7 0)) (mem W (R7 S ip (o.sf 2 (Int32.ofNat p)) b))) (dgR s p) := by
  have hF := X.hF
  have := Q7_digits_l (G := G) (F := F) (o := o) (b := b) (p0 := p) K hs hl hp _ p F rfl (by omega) hp (Nat.le_refl _)
  unfold P_X7_digits
  rw [r7at K, bO_s]
  unfold dgR
  cases h : isDg (cd s p) with
  | false =>
    rw [skp_n h, if_neg (Nat.lt_irrefl _)] at this
    rw [if_neg (by decide)]
    exact this
  | true =>
    have hi : p < s.length := cd_in (fun e => by rw [e] at h; exact absurd h (by decide))
    have e := skp_y hi h
    have l1 := skp_le isDg s (p + 1)
    rw [if_pos (by omega)] at this
    rw [if_pos rfl]
    exact this
end RD
