/-! NUMBERS FROM BYTES AND BACK; THE CLASS'S loadLimbs, give, isZero, areSame -/
def dg (v k : Nat) : Nat := v / 4294967296 ^ k % 4294967296
theorem dg_lt (v k : Nat) : dg v k < 4294967296 := Nat.mod_lt _ (by decide)
theorem vN_dg (v : Nat) : ∀ n, vN (dg v) n = v % 4294967296 ^ n
  | 0 => by rw [Nat.pow_zero, Nat.mod_one]; rfl
  | n + 1 => by rw [vN_s, vN_dg v n, Nat.mod_pow_succ, dg, Nat.mul_comm]
theorem LV.dg {f : Nat → Int64} {n v : Nat} (h : LV f n v) : LD f n (dg v) := by
  have hl := h.lt
  obtain ⟨d, h1, h2⟩ := h
  have e := vN_inj (n := n) (fun t ht => (h1 t ht).2) (fun t _ => dg_lt v t) (h2.trans (by rw [vN_dg, Nat.mod_eq_of_lt hl]))
  intro t ht
  rw [← e t ht]
  exact h1 t ht
theorem LD.lv {f : Nat → Int64} {n v : Nat} (h : LD f n (dg v)) (hv : v < 4294967296 ^ n) : LV f n v := ⟨_, h, by rw [vN_dg, Nat.mod_eq_of_lt hv]⟩
theorem beN_fold : ∀ (xs : List UInt8) (a : Nat), xs.foldl (fun a x => 256 * a + x.toNat) a = a * 256 ^ xs.length + beN xs
  | [], a => by simp [beN]
  | x :: xs, a => by
    have e : beN (x :: xs) = x.toNat * 256 ^ xs.length + beN xs := by
      show xs.foldl (fun a x => 256 * a + x.toNat) (256 * 0 + x.toNat) = _
      rw [beN_fold xs, Nat.mul_zero, Nat.zero_add]
    rw [List.foldl_cons, beN_fold xs, e, List.length_cons, Nat.pow_succ, Nat.add_mul, Nat.mul_comm (256 ^ xs.length) 256, ← Nat.mul_assoc, Nat.mul_comm a 256, Nat.add_assoc]
theorem beN_cons (x : UInt8) (xs : List UInt8) : beN (x :: xs) = x.toNat * 256 ^ xs.length + beN xs := by
  show xs.foldl (fun a x => 256 * a + x.toNat) (256 * 0 + x.toNat) = _
  rw [beN_fold xs, Nat.mul_zero, Nat.zero_add]
theorem beN_nil : beN [] = 0 := rfl
theorem beN_app (xs ys : List UInt8) : beN (xs ++ ys) = beN xs * 256 ^ ys.length + beN ys := by
  unfold beN
  rw [List.foldl_append, beN_fold ys]
  rfl
theorem beN_lt : ∀ xs : List UInt8, beN xs < 256 ^ xs.length
  | [] => by decide
  | x :: xs => by
    have h1 := beN_lt xs
    have h2 : x.toNat < 256 := x.toNat_lt
    rw [beN_cons, List.length_cons, Nat.pow_succ]
    have : x.toNat * 256 ^ xs.length ≤ 255 * 256 ^ xs.length := Nat.mul_le_mul_right _ (by omega)
    omega
theorem B_256 (n : Nat) : 256 ^ (4 * n) = 4294967296 ^ n := by
  rw [Nat.pow_mul]
theorem p256_split (i : Nat) : 256 ^ i = 4294967296 ^ (i / 4) * 256 ^ (i % 4) := by
  rw [← B_256, ← Nat.pow_add]
  congr 1
  omega
theorem p256_4 {r : Nat} (h : r < 4) : 256 ^ r * 256 ≤ 4294967296 := by
  have : r = 0 ∨ r = 1 ∨ r = 2 ∨ r = 3 := by omega
  rcases this with rfl | rfl | rfl | rfl <;> decide
theorem dg_low {v i : Nat} (hv : v < 256 ^ i) : v / 4294967296 ^ (i / 4) < 256 ^ (i % 4) := by
  rw [p256_split] at hv
  exact Nat.div_lt_of_lt_mul hv
theorem dg_step {v i b : Nat} (hv : v < 256 ^ i) (hb : b < 256) (k : Nat) : dg (b * 256 ^ i + v) k = if k = i / 4 then dg v k + b * 256 ^ (i % 4) else dg v k := by
  have hs := p256_split i
  have hlow := dg_low hv
  have h4 := p256_4 (show i % 4 < 4 by omega)
  have hb2 : b * 256 ^ (i % 4) ≤ 255 * 256 ^ (i % 4) := Nat.mul_le_mul_right _ (by omega)
  unfold dg
  by_cases c : k = i / 4
  · rw [if_pos c, c]
    have e : b * 256 ^ i + v = v + b * 256 ^ (i % 4) * 4294967296 ^ (i / 4) := by
      rw [hs, Nat.add_comm, Nat.mul_comm (4294967296 ^ (i / 4)), Nat.mul_assoc]
    rw [e, Nat.add_mul_div_right _ _ (B_pos _), Nat.mod_eq_of_lt (a := v / 4294967296 ^ (i / 4) + b * 256 ^ (i % 4)) (b := 4294967296) (by omega), Nat.mod_eq_of_lt (a := v / 4294967296 ^ (i / 4)) (b := 4294967296) (by omega)]
  · rw [if_neg c]
    by_cases c2 : k < i / 4
    · have e : b * 256 ^ i + v = v + (b * 256 ^ (i % 4) * 4294967296 ^ (i / 4 - k - 1)) * 4294967296 * 4294967296 ^ k := by
        have e2 : 4294967296 ^ (i / 4) = 4294967296 ^ (i / 4 - k - 1) * 4294967296 * 4294967296 ^ k := by
          rw [← Nat.pow_succ, ← Nat.pow_add]
          congr 1
          omega
        rw [hs, e2, Nat.add_comm, Nat.mul_comm _ (256 ^ (i % 4)), ← Nat.mul_assoc, ← Nat.mul_assoc, ← Nat.mul_assoc]
      rw [e, Nat.add_mul_div_right _ _ (B_pos _), Nat.add_mul_mod_self_right]
    · have h1 : b * 256 ^ i + v < 4294967296 ^ k := by
        have a1 : b * 256 ^ i ≤ 255 * 256 ^ i := Nat.mul_le_mul_right _ (by omega)
        have a2 : 256 ^ i * 256 ≤ 256 ^ (4 * k) := by
          rw [← Nat.pow_succ]
          exact Nat.pow_le_pow_right (by decide) (by omega)
        rw [B_256] at a2
        omega
      have a3 : 0 ≤ b * 256 ^ i := Nat.zero_le _
      rw [Nat.div_eq_of_lt h1, Nat.div_eq_of_lt (by omega)]
/-- the low k bytes of a number, the highest first -/
def beV : Nat → Nat → List UInt8
  | 0, _ => []
  | k + 1, v => UInt8.ofNat (v / 256 ^ k) :: beV k v
theorem beV_len : ∀ k v, (beV k v).length = k
  | 0, _ => rfl
  | k + 1, v => by rw [beV, List.length_cons, beV_len]
theorem beN_beV : ∀ k v, beN (beV k v) = v % 256 ^ k
  | 0, v => by rw [beV, Nat.pow_zero, Nat.mod_one]; rfl
  | k + 1, v => by rw [beV, beN_cons, beV_len, beN_beV k v, UInt8.toNat_ofNat', Nat.mod_pow_succ (x := v) (b := 256) (k := k), Nat.mul_comm (256 ^ k), Nat.add_comm]
/-- whose cell it is -/
def ow : Cl → Nat × Nat
  | .inl (c, i) => (c, i)
  | .inr (.inl (c, i, _)) => (c, i)
  | .inr (.inr (c, i, _, _)) => (c, i)
theorem lgt_so {S : ST} {x : Cl} {c i : Nat} {o : Ob} (h : ow x ≠ (c, i)) : lgt (S.so c i o) x = lgt S x := by
  rcases x with ⟨c', i'⟩ | ⟨c', i', k'⟩ | ⟨c', i', k', j'⟩
  · rfl
  · show ((S.so c i o) c' i').l k' = _
    rw [so_ne (fun q => h (by show (c', i') = (c, i); rw [q.1, q.2]))]
    rfl
  · show ((S.so c i o) c' i').m k' j' = _
    rw [so_ne (fun q => h (by show (c', i') = (c, i); rw [q.1, q.2]))]
    rfl
theorem Ob_ext {o o' : Ob} (h1 : o'.f = o.f) (h2 : o'.g = o.g) (h3 : o'.a = o.a) (h4 : o'.l = o.l) (h5 : o'.m = o.m) : o' = o := Prod.ext h1 (Prod.ext h2 (Prod.ext h3 (Prod.ext h4 h5)))
theorem lfr.fr {L : List Cl} {L' : List (Nat × Nat)} {S S' : ST} (h : lfr L S S') (ho : ∀ x ∈ L, ow x ∈ L') : fr L' S S' := by
  intro c i hn
  refine Ob_ext (h.1 c i).1 (h.1 c i).2.1 (h.1 c i).2.2 ?_ ?_
  · funext k
    exact h.2 (.a c i k) (fun q => hn (ho _ q))
  · funext k j
    exact h.2 (.b c i k j) (fun q => hn (ho _ q))
theorem Byt.lfr {L : List Cl} {S S' : ST} {i room : Nat} {xs : List UInt8} {l : Bool} (h : lfr L S S') (b : Byt room (S 0 i) xs l) : Byt room (S' 0 i) xs l := by
  obtain ⟨a1, a2, a3, a4⟩ := b
  exact ⟨by rw [(h.1 0 i).1]; exact a1, by rw [(h.1 0 i).2.2]; exact a2, by rw [(h.1 0 i).1]; exact a3, a4⟩
theorem n_and3 {a : Nat} : (Int32.ofNat a) &&& (3 : Int32) = (Int32.ofNat (a % 4)) := by
  rw [lit 3, n_and]
  congr 1
  exact Nat.and_two_pow_sub_one_eq_mod a 2
theorem n_and7 {a : Nat} : (Int32.ofNat a) &&& (7 : Int32) = (Int32.ofNat (a % 8)) := by
  rw [lit 7, n_and]
  congr 1
  exact Nat.and_two_pow_sub_one_eq_mod a 3
theorem l_inj {a b : Nat} (ha : a < 2 ^ 63) (hb : b < 2 ^ 63) : Int64.ofNat a = Int64.ofNat b ↔ a = b := by
  constructor
  · intro h
    have := congrArg Int64.toInt h
    rw [Int64.toInt_ofNat_of_lt ha, Int64.toInt_ofNat_of_lt hb] at this
    omega
  · intro h; rw [h]
/-- a part of a row of bytes -/
def seg (xs : List UInt8) (p n : Nat) : List UInt8 := (xs.drop p).take n
theorem seg_len {xs : List UInt8} {p n : Nat} (h : p + n ≤ xs.length) : (seg xs p n).length = n := by
  unfold seg
  rw [List.length_take, List.length_drop]
  omega
theorem seg_g {xs : List UInt8} {p n j : Nat} (h : j < n) : (seg xs p n)[j]? = xs[p + j]? := by
  unfold seg
  rw [List.getElem?_take, if_pos h, List.getElem?_drop]
section LOADL
variable {W : WR} {G : mG} {F : Nat}
theorem Q6_ld27 {i ib room n N p many : Nat} {to : Cl} {xs : List UInt8} {l : Bool} (h : isMo W i) (hB : isB W ib room) (ht : lok W to N) (hn : n ≤ 32) (hN : n ≤ N) (hp : p + many ≤ xs.length) (hm : many ≤ 4 * n) : ∀ (m j fuel : Nat) (S : ST), m < fuel → j + m = many → (S 6 i).f 0 = (Int32.ofNat n) → Byt room (S 0 ib) xs l → LD (lgt S to) n (dg (beN ((seg xs p many).drop (many - j)))) → ∃ S', B_X6_loadLimbs_27 G F fuel (W.ad (.o 6 i)) (W.ad (.o 0 ib)) (Int32.ofNat p) (Int32.ofNat many) (W.ad to) (Int32.ofNat j) (mem W S) = some (mem W S') ∧ lfr [to] S S' ∧ LD (lgt S' to) n (dg (beN (seg xs p many))) := by
  intro m
  induction m with
  | zero =>
    intro j fuel S hf hj h0 hb hd
    obtain ⟨fuel, rfl⟩ : ∃ q, fuel = q + 1 := ⟨fuel - 1, by omega⟩
    obtain rfl : j = many := by omega
    rw [Nat.sub_self, List.drop_zero] at hd
    rw [B_X6_loadLimbs_27, if_pos ((n_le (by omega) (by omega)).mpr (Nat.le_refl _))]
    exact ⟨S, rfl, lfr.refl _ _, hd⟩
  | succ m ih =>
    intro j fuel S hf hj h0 hb hd
    obtain ⟨fuel, rfl⟩ : ∃ q, fuel = q + 1 := ⟨fuel - 1, by omega⟩
    have hle := hb.le
    have hr := hB.hr
    have hsl := seg_len hp
    have ex : ∃ x, (seg xs p many)[many - 1 - j]? = some x := ⟨_, List.getElem?_eq_getElem (by omega)⟩
    obtain ⟨x, hx⟩ := ex
    have hx2 : xs[p + many - 1 - j]? = some x := by
      rw [seg_g (by omega)] at hx
      rw [← hx]
      congr 1
      omega
    have hgb : gB xs (p + many - 1 - j) = b32 x := by unfold gB; rw [hx2]
    have hdr : (seg xs p many).drop (many - (j + 1)) = x :: (seg xs p many).drop (many - j) := by
      have h1 := (List.getElem?_eq_some_iff.mp hx)
      rw [show many - (j + 1) = many - 1 - j by omega, List.drop_eq_getElem_cons (by omega), h1.2]
      congr 2
      omega
    have hdl : ((seg xs p many).drop (many - j)).length = j := by rw [List.length_drop, hsl]; omega
    have hv := beN_lt ((seg xs p many).drop (many - j))
    rw [hdl] at hv
    obtain ⟨v, hvd⟩ : ∃ v, v = beN ((seg xs p many).drop (many - j)) := ⟨_, rfl⟩
    rw [← hvd] at hd hv
    have hxl : x.toNat < 256 := x.toNat_lt
    have hdj := hd (j / 4) (by omega)
    have hlow := dg_low hv
    have hdgl : dg v (j / 4) < 256 ^ (j % 4) := by
      unfold dg
      exact Nat.lt_of_le_of_lt (Nat.mod_le _ _) hlow
    have e8 : (256 : Nat) ^ (j % 4) = 2 ^ (8 * (j % 4)) := by rw [Nat.pow_mul]
    have ev : lgt S to (j / 4) ||| shlL (b32 x).toInt64 (Int32.ofNat (8 * (j % 4))) = Int64.ofNat (dg v (j / 4) + x.toNat * 256 ^ (j % 4)) := by
      rw [hdj.1, b32_64, l_shl (by omega), l_or]
      congr 1
      rw [Nat.or_comm, or_add (by rw [← e8]; exact hdgl), e8, Nat.add_comm]
    rw [B_X6_loadLimbs_27, if_neg (fun q => absurd ((n_le (by omega) (by omega)).mp q) (by omega)), h.gI, bO_s, h0, show (4 : Int32) * (Int32.ofNat n) = (Int32.ofNat (4 * n)) from n_mul 4 n, if_neg (fun q => absurd ((n_le (by omega) (by omega)).mp q) (by omega)), show (Int32.ofNat j) / (4 : Int32) = (Int32.ofNat (j / 4)) from n_div (b := 4) (by omega) (by decide), lx_get ht (by omega), bO_s, rcv_m hB.lo, bO_s, n_add, n_subL 1 (by omega), n_sub (by omega), Q0_get hB hb (by omega), bP_s, hgb, n_and3, show (8 : Int32) * (Int32.ofNat (j % 4)) = (Int32.ofNat (8 * (j % 4))) from n_mul 8 _, ev, lx_set ht (by omega), bO_s, n_addL j 1]
    obtain ⟨S', g1, g2, g3⟩ := ih (j + 1) fuel (lst S to (vp_updL (lgt S to) (j / 4) (Int64.ofNat (dg v (j / 4) + x.toNat * 256 ^ (j % 4))))) (by omega) (by omega) (by rw [(lst_fga _ _ _ _ _).1]; exact h0) (Byt.lfr (lfr_lst (L := [to]) (by simp)) hb) (by
      rw [hdr, beN_cons, hdl, ← hvd, lgt_eq ht]
      intro t htn
      rw [dg_step hv hxl]
      by_cases c : t = j / 4
      · rw [if_pos c, c, updL_eq]
        refine ⟨rfl, ?_⟩
        have h4 := p256_4 (show j % 4 < 4 by omega)
        have : x.toNat * 256 ^ (j % 4) ≤ 255 * 256 ^ (j % 4) := Nat.mul_le_mul_right _ (by omega)
        omega
      · rw [if_neg c, updL_ne c]
        exact hd t htn)
    exact ⟨S', g1, (lfr_lst (by simp)).trans g2, g3⟩
theorem Q6_ld3 {i n N l1 : Nat} {l2 l3 : Int32} {to : Cl} (h : isMo W i) (ht : lok W to N) (hn : n ≤ 32) (hN : n ≤ N) : ∀ (m j fuel : Nat) (S : ST), m < fuel → j + m = n → (S 6 i).f 0 = (Int32.ofNat n) → (∀ t, t < j → lgt S to t = 0) → ∃ S', B_X6_loadLimbs_3 G F fuel (W.ad (.o 6 i)) l1 l2 l3 (W.ad to) (Int32.ofNat j) (mem W S) = B_X6_loadLimbs_27 G F F (W.ad (.o 6 i)) l1 l2 l3 (W.ad to) 0 (mem W S') ∧ lfr [to] S S' ∧ ∀ t, t < n → lgt S' to t = 0 := by
  intro m
  induction m with
  | zero =>
    intro j fuel S hf hj h0 hz
    obtain ⟨fuel, rfl⟩ : ∃ q, fuel = q + 1 := ⟨fuel - 1, by omega⟩
    rw [B_X6_loadLimbs_3, h.gI, bO_s, h0, if_pos ((n_le (by omega) (by omega)).mpr (by omega))]
    exact ⟨S, rfl, lfr.refl _ _, fun t ht => hz t (by omega)⟩
  | succ m ih =>
    intro j fuel S hf hj h0 hz
    obtain ⟨fuel, rfl⟩ : ∃ q, fuel = q + 1 := ⟨fuel - 1, by omega⟩
    rw [B_X6_loadLimbs_3, h.gI, bO_s, h0, if_neg (fun q => absurd ((n_le (by omega) (by omega)).mp q) (by omega)), lx_set ht (by omega), bO_s, n_addL j 1]
    obtain ⟨S', g1, g2, g3⟩ := ih (j + 1) fuel (lst S to (vp_updL (lgt S to) j 0)) (by omega) (by omega) (by rw [(lst_fga _ _ _ _ _).1]; exact h0) (fun t h2 => by
      rw [lgt_eq ht]
      by_cases c : t = j
      · rw [c, updL_eq]
      · rw [updL_ne c]; exact hz t (by omega))
    exact ⟨S', g1, (lfr_lst (by simp)).trans g2, g3⟩
theorem dg_0 : dg 0 = fun _ => 0 := by
  funext k
  unfold dg
  rw [Nat.zero_div, Nat.zero_mod]
theorem Q6_load {i ib room n N p many : Nat} {S : ST} {to : Cl} {xs : List UInt8} {l : Bool} (X : Cx G F W) (h : isMo W i) (hB : isB W ib room) (ht : lok W to N) (hn : n ≤ 32) (hN : n ≤ N) (hp : p + many ≤ xs.length) (hm : many ≤ 4 * n) (h0 : (S 6 i).f 0 = (Int32.ofNat n)) (hb : Byt room (S 0 ib) xs l) : ∃ S', P_X6_loadLimbs G F (W.ad (.o 6 i)) (W.ad (.o 0 ib)) (Int32.ofNat p) (Int32.ofNat many) (W.ad to) (mem W S) = some (mem W S') ∧ lfr [to] S S' ∧ LV (lgt S' to) n (beN (seg xs p many)) := by
  have hF := X.hF
  obtain ⟨S1, g1, g2, g3⟩ := Q6_ld3 (G := G) (F := F) (l1 := W.ad (.o 0 ib)) (l2 := (Int32.ofNat p)) (l3 := (Int32.ofNat many)) h ht hn hN n 0 F S (by omega) (by omega) h0 (fun t ht => by omega)
  obtain ⟨S2, e1, e2, e3⟩ := Q6_ld27 (G := G) (F := F) (xs := xs) (l := l) h hB ht hn hN hp hm many 0 F S1 (by omega) (by omega) (by rw [(g2.1 6 i).1]; exact h0) (Byt.lfr g2 hb) (by
    rw [Nat.sub_zero, List.drop_eq_nil_of_le (by rw [seg_len hp]; omega), beN_nil, dg_0]
    exact LD_zero g3)
  refine ⟨S2, ?_, g2.trans e2, e3.lv ?_⟩
  · unfold P_X6_loadLimbs
    have g1' : B_X6_loadLimbs_3 G F F (W.ad (.o 6 i)) (W.ad (.o 0 ib)) (Int32.ofNat p) (Int32.ofNat many) (W.ad to) 0 (mem W S) = _ := g1
    rw [g1']
    exact e1
  · have := beN_lt (seg xs p many)
    rw [seg_len hp] at this
    refine Nat.lt_of_lt_of_le this ?_
    rw [← B_256]
    exact Nat.pow_le_pow_right (by decide) hm
theorem give_i {k : Nat} : ((Int32.ofNat (k + 1)) - 1 : Int32) = (Int32.ofNat k) := by rw [n_subL 1 (by omega), Nat.add_sub_cancel]
theorem Q6_give_l {i ib room n N v : Nat} {x : Cl} (h : isMo W i) (hB : isB W ib room) (hx : lok W x N) (hn : n ≤ 32) (hN : n ≤ N) (hv : v < 4294967296 ^ n) (ho : ow x ≠ (0, ib)) : ∀ (k fuel : Nat) (S : ST) (xs : List UInt8) (l : Bool), k < fuel → k ≤ 100000 → (S 6 i).f 0 = (Int32.ofNat n) → LD (lgt S x) n (dg v) → Byt room (S 0 ib) xs l → ∃ o, B_X6_give_5 G F fuel (W.ad (.o 6 i)) (W.ad x) (W.ad (.o 0 ib)) ((Int32.ofNat k) - 1) (mem W S) = some (mem W (S.so 0 ib o)) ∧ Byt room o (tkl room xs (beV k v)) (lsl room xs (beV k v) l) := by
  intro k
  induction k with
  | zero =>
    intro fuel S xs l hf hk h0 hd hb
    obtain ⟨fuel, rfl⟩ : ∃ q, fuel = q + 1 := ⟨fuel - 1, by omega⟩
    rw [B_X6_give_5, if_pos (by decide)]
    refine ⟨S 0 ib, by rw [so_self], ?_⟩
    rw [beV, tkl_nil hb.le, lsl_nil hb.le]
    exact hb
  | succ k ih =>
    intro fuel S xs l hf hk h0 hd hb
    obtain ⟨fuel, rfl⟩ : ∃ q, fuel = q + 1 := ⟨fuel - 1, by omega⟩
    have nxt : ∀ z : Int32, lo8 z = UInt8.ofNat (v / 256 ^ k) → ∃ o, (bO (P_X0_put G F (W.ad (.o 0 ib)) z (mem W S)) fun M41 => B_X6_give_5 G F fuel (W.ad (.o 6 i)) (W.ad x) (W.ad (.o 0 ib)) ((Int32.ofNat k) + -1) M41) = some (mem W (S.so 0 ib o)) ∧ Byt room o (tkl room xs (beV (k + 1) v)) (lsl room xs (beV (k + 1) v) l) := by
      intro z hz
      obtain ⟨o1, g1, b1⟩ := Q0_put1 (G := G) (F := F) (x := z) hB hb
      rw [g1, bO_s]
      rw [hz] at b1
      obtain ⟨o2, g2, b2⟩ := ih fuel (S.so 0 ib o1) _ _ (by omega) (by omega) (by rw [so_ne (by omega)]; exact h0) (by rw [lgt_so ho]; exact hd) (by rw [so_eq]; exact b1)
      rw [so_so] at g2
      refine ⟨o2, ?_, ?_⟩
      · have : (Int32.ofNat k) + -1 = (Int32.ofNat k) - 1 := by rw [Int32.sub_eq_add_neg]
        rw [this]
        exact g2
      · rw [tkl_tkl, lsl_lsl] at b2
        exact b2
    rw [B_X6_give_5, give_i, if_neg (nn (by omega)), h.gI, bO_s, h0, show (Int32.ofNat k) / (4 : Int32) = (Int32.ofNat (k / 4)) from n_div (b := 4) (by omega) (by decide)]
    by_cases c : n ≤ k / 4
    · rw [if_pos ((n_le (by omega) (by omega)).mpr c), rcv_m hB.lo, bO_s]
      refine nxt 0 ?_
      have hz : v / 256 ^ k = 0 := by
        apply Nat.div_eq_of_lt
        refine Nat.lt_of_lt_of_le hv ?_
        rw [← B_256]
        exact Nat.pow_le_pow_right (by decide) (by omega)
      rw [hz]
      rfl
    · have hdk := hd (k / 4) (by omega)
      have hlt := dg_lt v (k / 4)
      rw [if_neg (fun q => c ((n_le (by omega) (by omega)).mp q)), lx_get hx (by omega), bO_s, rcv_m hB.lo, bO_s]
      refine nxt _ ?_
      rw [n_and3, show (8 : Int32) * (Int32.ofNat (k % 4)) = (Int32.ofNat (8 * (k % 4))) from n_mul 8 _, hdk.1, ushL_n (by omega)]
      have e : (Int64.ofNat (dg v (k / 4))).toUInt64.toNat = dg v (k / 4) := by
        show (Int64.ofNat (dg v (k / 4))).toBitVec.toNat = _
        rw [bvL, BitVec.toNat_ofNat, Nat.mod_eq_of_lt (by omega)]
      rw [e, Int64.toInt32_ofNat', lo8_n]
      apply u8_eq
      have e8 : (2 : Nat) ^ (8 * (k % 4)) = 256 ^ (k % 4) := by rw [Nat.pow_mul]
      rw [e8]
      have hs := p256_split k
      rw [hs, ← Nat.div_div_eq_div_mul]
      unfold dg
      generalize v / 4294967296 ^ (k / 4) = u
      have : k % 4 = 0 ∨ k % 4 = 1 ∨ k % 4 = 2 ∨ k % 4 = 3 := by omega
      rcases this with q | q | q | q <;> rw [q] <;> omega
theorem Q6_give {i ib room n N v k : Nat} {S : ST} {x : Cl} {xs : List UInt8} {l : Bool} (X : Cx G F W) (h : isMo W i) (hB : isB W ib room) (hx : lok W x N) (hn : n ≤ 32) (hN : n ≤ N) (ho : ow x ≠ (0, ib)) (hk : k ≤ 1000) (h0 : (S 6 i).f 0 = (Int32.ofNat n)) (hd : LV (lgt S x) n v) (hb : Byt room (S 0 ib) xs l) : ∃ o, P_X6_give G F (W.ad (.o 6 i)) (W.ad x) (Int32.ofNat k) (W.ad (.o 0 ib)) (mem W S) = some (mem W (S.so 0 ib o)) ∧ Byt room o (tkl room xs (beV k v)) (lsl room xs (beV k v) l) := by
  have hF := X.hF
  exact Q6_give_l (G := G) (F := F) h hB hx hn hN hd.lt ho k F S xs l (by omega) (by omega) h0 hd.dg hb
theorem Q6_isZero_l {i n N : Nat} {S : ST} {x : Cl} {d : Nat → Nat} (h : isMo W i) (hx : lok W x N) (hn : n ≤ 32) (hN : n ≤ N) (h0 : (S 6 i).f 0 = (Int32.ofNat n)) (hd : LD (lgt S x) n d) : ∀ (m j fuel : Nat), m < fuel → j + m = n → (∀ t, t < j → d t = 0) → B_X6_isZero_2 G F fuel (W.ad (.o 6 i)) (W.ad x) (Int32.ofNat j) (mem W S) = some (if vN d n = 0 then 1 else 0, mem W S) := by
  intro m
  induction m with
  | zero =>
    intro j fuel hf hj hz
    obtain ⟨fuel, rfl⟩ : ∃ q, fuel = q + 1 := ⟨fuel - 1, by omega⟩
    obtain rfl : j = n := by omega
    rw [B_X6_isZero_2, h.gI, bO_s, h0, if_pos ((n_le (by omega) (by omega)).mpr (by omega)), if_pos (vN_zero hz), retZ1]
  | succ m ih =>
    intro j fuel hf hj hz
    obtain ⟨fuel, rfl⟩ : ∃ q, fuel = q + 1 := ⟨fuel - 1, by omega⟩
    have hdj := hd j (by omega)
    rw [B_X6_isZero_2, h.gI, bO_s, h0, if_neg (fun q => absurd ((n_le (by omega) (by omega)).mp q) (by omega)), lx_get hx (by omega), bO_s, hdj.1, n_addL j 1]
    by_cases c : d j = 0
    · rw [if_pos ((lg_cmp_eq _ _).mpr (by rw [c]; rfl)), ih (j + 1) fuel (by omega) (by omega) (fun t ht => by
        by_cases e : t = j
        · rw [e]; exact c
        · exact hz t (by omega))]
    · rw [if_neg (show ¬ lg_cmp (Int64.ofNat (d j)) 0 = 0 from fun q => c ((l_inj (b := 0) (by omega) (by omega)).mp ((lg_cmp_eq _ _).mp q))), if_neg (c := vN d n = 0) (fun q => c (vN_z q j (by omega))), retZ0]
theorem Q6_isZero {i n N v : Nat} {S : ST} {x : Cl} (X : Cx G F W) (h : isMo W i) (hx : lok W x N) (hn : n ≤ 32) (hN : n ≤ N) (h0 : (S 6 i).f 0 = (Int32.ofNat n)) (hd : LV (lgt S x) n v) : P_X6_isZero G F (W.ad (.o 6 i)) (W.ad x) (mem W S) = some (if v = 0 then 1 else 0, mem W S) := by
  have hF := X.hF
  obtain ⟨d, h1, rfl⟩ := hd
  exact Q6_isZero_l (G := G) (F := F) h hx hn hN h0 h1 n 0 F (by omega) (by omega) (fun t ht => by omega)
theorem Q6_areSame_l {i n N Ny : Nat} {S : ST} {x y : Cl} {d e : Nat → Nat} (h : isMo W i) (hx : lok W x N) (hy : lok W y Ny) (hn : n ≤ 32) (hN : n ≤ N) (hNy : n ≤ Ny) (h0 : (S 6 i).f 0 = (Int32.ofNat n)) (hd : LD (lgt S x) n d) (he : LD (lgt S y) n e) : ∀ (m j fuel : Nat), m < fuel → j + m = n → (∀ t, t < j → d t = e t) → B_X6_areSame_2 G F fuel (W.ad (.o 6 i)) (W.ad x) (W.ad y) (Int32.ofNat j) (mem W S) = some (if vN d n = vN e n then 1 else 0, mem W S) := by
  intro m
  induction m with
  | zero =>
    intro j fuel hf hj hz
    obtain ⟨fuel, rfl⟩ : ∃ q, fuel = q + 1 := ⟨fuel - 1, by omega⟩
    obtain rfl : j = n := by omega
    rw [B_X6_areSame_2, h.gI, bO_s, h0, if_pos ((n_le (by omega) (by omega)).mpr (by omega)), if_pos (vN_congr hz), retZ1]
  | succ m ih =>
    intro j fuel hf hj hz
    obtain ⟨fuel, rfl⟩ : ∃ q, fuel = q + 1 := ⟨fuel - 1, by omega⟩
    have hdj := hd j (by omega)
    have hej := he j (by omega)
    rw [B_X6_areSame_2, h.gI, bO_s, h0, if_neg (fun q => absurd ((n_le (by omega) (by omega)).mp q) (by omega)), lx_get hx (by omega), bO_s, lx_get hy (by omega), bO_s, hdj.1, hej.1, n_addL j 1]
    by_cases c : d j = e j
    · rw [if_pos ((lg_cmp_eq _ _).mpr (by rw [c])), ih (j + 1) fuel (by omega) (by omega) (fun t ht => by
        by_cases q : t = j
        · rw [q]; exact c
        · exact hz t (by omega))]
    · rw [if_neg (fun q => c ((l_inj (by omega) (by omega)).mp ((lg_cmp_eq _ _).mp q))), if_neg (c := vN d n = vN e n) (fun q => c (vN_inj (fun t ht => (hd t ht).2) (fun t ht => (he t ht).2) q j (by omega))), retZ0]
theorem Q6_areSame {i n N Ny v w : Nat} {S : ST} {x y : Cl} (X : Cx G F W) (h : isMo W i) (hx : lok W x N) (hy : lok W y Ny) (hn : n ≤ 32) (hN : n ≤ N) (hNy : n ≤ Ny) (h0 : (S 6 i).f 0 = (Int32.ofNat n)) (hd : LV (lgt S x) n v) (he : LV (lgt S y) n w) : P_X6_areSame G F (W.ad (.o 6 i)) (W.ad x) (W.ad y) (mem W S) = some (if v = w then 1 else 0, mem W S) := by
  have hF := X.hF
  obtain ⟨d, h1, rfl⟩ := hd
  obtain ⟨e, h2, rfl⟩ := he
  exact Q6_areSame_l (G := G) (F := F) h hx hy hn hN hNy h0 h1 h2 n 0 F (by omega) (by omega) (fun t ht => by omega)
end LOADL
