/-! THE MODEL'S MODULUS: int arrays as cells; order, less, add, subtract, twice -/
theorem i_mod (a : Nat) : (Int32.ofNat a) = (Int32.ofNat (a % 4294967296)) := by
  apply i_ext
  rw [bv_of, bv_of]
  apply BitVec.eq_of_toNat_eq
  rw [BitVec.toNat_ofNat, BitVec.toNat_ofNat, Nat.mod_mod]
theorem i_inj {a b : Nat} (ha : a < 4294967296) (hb : b < 4294967296) : (Int32.ofNat a) = (Int32.ofNat b) ↔ a = b := by
  constructor
  · intro h
    have := congrArg (fun x : Int32 => x.toBitVec.toNat) h
    simp only [bv_of, BitVec.toNat_ofNat] at this
    omega
  · intro h; rw [h]
theorem i_64 {d : Nat} (h : d < 4294967296) : ((Int32.ofNat d)).toInt64 &&& 4294967295 = Int64.ofNat d := by
  have e : ((d : Int).bmod Int32.size % 4294967296).toNat = d := by
    show ((d : Int).bmod 4294967296 % 4294967296).toNat = d
    rw [Int.bmod_def]
    split <;> omega
  rw [← Int64.ofInt_int32ToInt, s_lim, Int32.toInt_ofNat', e]
theorem n_an (a : Int32) : a + (-1 : Int32) = a - 1 := by rw [Int32.sub_eq_add_neg]
theorem i_of64 (a : Nat) : (Int64.ofNat a).toInt32 = (Int32.ofNat (a % 4294967296)) := by rw [Int64.toInt32_ofNat', ← i_mod]
theorem i_ofS (a : Int) : (Int64.ofInt a).toInt32 = (Int32.ofNat (a % 4294967296).toNat) := by
  rw [Int64.toInt32_ofInt]
  apply i_ext
  rw [Int32.toBitVec_ofInt, bv_of]
  apply BitVec.eq_of_toNat_eq
  rw [BitVec.toNat_ofInt, BitVec.toNat_ofNat]
  omega
theorem x31 {a : Nat} (h : a < 4294967296) : a ^^^ 2147483648 = if a < 2147483648 then a + 2147483648 else a - 2147483648 := by
  have e1 := Nat.xor_div_two_pow (a := a) (b := 2147483648) (n := 31)
  have e2 := Nat.xor_mod_two_pow (a := a) (b := 2147483648) (n := 31)
  rw [show (2147483648 : Nat) % 2 ^ 31 = 0 by decide, Nat.xor_zero] at e2
  rw [show (2147483648 : Nat) / 2 ^ 31 = 1 by decide] at e1
  generalize a ^^^ 2147483648 = c at *
  by_cases q : a < 2147483648
  · rw [if_pos q]
    rw [show a / 2 ^ 31 = 0 by omega, Nat.zero_xor] at e1
    omega
  · rw [if_neg q]
    rw [show a / 2 ^ 31 = 1 by omega, Nat.xor_self] at e1
    omega
theorem x31_toInt {a : Nat} (h : a < 4294967296) : ((Int32.ofNat a) ^^^ (-2147483648 : Int32)).toInt = (a : Int) - 2147483648 := by
  have e : (-2147483648 : Int32) = (Int32.ofNat 2147483648) := by decide
  rw [e, n_xor, x31 h, Int32.toInt_ofNat']
  show (((if a < 2147483648 then a + 2147483648 else a - 2147483648 : Nat) : Int)).bmod 4294967296 = _
  rw [Int.bmod_def]
  by_cases q : a < 2147483648
  · rw [if_pos q]
    split <;> omega
  · rw [if_neg q]
    split <;> omega
theorem x31_le {a b : Nat} (ha : a < 4294967296) (hb : b < 4294967296) : ((Int32.ofNat b) ^^^ (-2147483648 : Int32)) ≤ ((Int32.ofNat a) ^^^ (-2147483648 : Int32)) ↔ b ≤ a := by
  rw [Int32.le_iff_toInt_le, x31_toInt ha, x31_toInt hb]
  omega
/-- the limbs stand in an int array -/
def ID (f : Nat → Int32) (n : Nat) (d : Nat → Nat) : Prop := ∀ t, t < n → f t = (Int32.ofNat (d t)) ∧ d t < 4294967296
def IV (f : Nat → Int32) (n v : Nat) : Prop := ∃ d, ID f n d ∧ vN d n = v
theorem ID.congr {f g : Nat → Int32} {n : Nat} {d : Nat → Nat} (h : ID f n d) (e : ∀ t, t < n → g t = f t) : ID g n d := fun t ht => ⟨(e t ht).trans (h t ht).1, (h t ht).2⟩
theorem ID.lt {f : Nat → Int32} {n : Nat} {d : Nat → Nat} (h : ID f n d) : vN d n < 4294967296 ^ n := vN_lt (fun t ht => (h t ht).2)
theorem IV.lt {f : Nat → Int32} {n v : Nat} (h : IV f n v) : v < 4294967296 ^ n := by
  obtain ⟨d, h1, h2⟩ := h
  rw [← h2]
  exact h1.lt
theorem IV.dg {f : Nat → Int32} {n v : Nat} (h : IV f n v) : ID f n (dg v) := by
  have hl := h.lt
  obtain ⟨d, h1, h2⟩ := h
  have e := vN_inj (n := n) (fun t ht => (h1 t ht).2) (fun t _ => dg_lt v t) (h2.trans (by rw [vN_dg, Nat.mod_eq_of_lt hl]))
  intro t ht
  rw [← e t ht]
  exact h1 t ht
theorem ID.iv {f : Nat → Int32} {n v : Nat} (h : ID f n (dg v)) (hv : v < 4294967296 ^ n) : IV f n v := ⟨_, h, by rw [vN_dg, Nat.mod_eq_of_lt hv]⟩
theorem ID.snoc {f : Nat → Int32} {n x : Nat} {d : Nat → Nat} {v : Int32} (h : ID f n d) (hv : v = (Int32.ofNat x)) (hx : x < 4294967296) : ID (upd f n v) (n + 1) (vp_updN d n x) := by
  intro t ht
  by_cases c : t = n
  · rw [c, upd_eq, updN_eq]; exact ⟨hv, hx⟩
  · rw [upd_ne c, updN_ne c]; exact h t (by omega)
theorem ID_zero {f : Nat → Int32} {n : Nat} (h : ∀ t, t < n → f t = 0) : ID f n (fun _ => 0) := fun t ht => ⟨(h t ht).trans rfl, by show 0 < 4294967296; decide⟩
/-- the ints in a cell -/
def igt (S : ST) (x : Cl) : Nat → Int32 := match x with
  | .inl _ => fun _ => 0
  | .inr (.inl (c, i, k)) => (S c i).a k
  | .inr (.inr _) => fun _ => 0
def ist (S : ST) (x : Cl) (f : Nat → Int32) : ST := match x with
  | .inl _ => S
  | .inr (.inl (c, i, k)) => S.so c i ((S c i).sA k f)
  | .inr (.inr _) => S
def iok (W : WR) (x : Cl) (n : Nat) : Prop := W.live x = true ∧ W.n x = n ∧ n < 2 ^ 30 ∧ match x with
  | .inl _ => False
  | .inr (.inl (c, _, k)) => (kdA c)[k]? = some 0
  | .inr (.inr _) => False
abbrev ifr (L : List Cl) (S S' : ST) : Prop := (∀ c i, (S' c i).f = (S c i).f ∧ (S' c i).g = (S c i).g ∧ (S' c i).l = (S c i).l ∧ (S' c i).m = (S c i).m) ∧ ∀ y, y ∉ L → igt S' y = igt S y
theorem ifr.refl (L : List Cl) (S : ST) : ifr L S S := ⟨fun _ _ => ⟨rfl, rfl, rfl, rfl⟩, fun _ _ => rfl⟩
theorem ifr.trans {L : List Cl} {S S1 S2 : ST} (h1 : ifr L S S1) (h2 : ifr L S1 S2) : ifr L S S2 := ⟨fun c i => ⟨(h2.1 c i).1.trans (h1.1 c i).1, (h2.1 c i).2.1.trans (h1.1 c i).2.1, (h2.1 c i).2.2.1.trans (h1.1 c i).2.2.1, (h2.1 c i).2.2.2.trans (h1.1 c i).2.2.2⟩, fun y hy => (h2.2 y hy).trans (h1.2 y hy)⟩
theorem ifr.mono {L L' : List Cl} {S S' : ST} (h : ifr L S S') (hs : ∀ x ∈ L, x ∈ L') : ifr L' S S' := ⟨h.1, fun y hy => h.2 y (fun q => hy (hs _ q))⟩
theorem ist_fgl (S : ST) (x : Cl) (f : Nat → Int32) (c i : Nat) : ((ist S x f) c i).f = (S c i).f ∧ ((ist S x f) c i).g = (S c i).g ∧ ((ist S x f) c i).l = (S c i).l ∧ ((ist S x f) c i).m = (S c i).m := by
  rcases x with ⟨c', i'⟩ | ⟨c', i', k'⟩ | ⟨c', i', k', j'⟩
  · exact ⟨rfl, rfl, rfl, rfl⟩
  · show ((S.so c' i' ((S c' i').sA k' f)) c i).f = _ ∧ ((S.so c' i' ((S c' i').sA k' f)) c i).g = _ ∧ ((S.so c' i' ((S c' i').sA k' f)) c i).l = _ ∧ ((S.so c' i' ((S c' i').sA k' f)) c i).m = _
    rw [so_at]
    split
    · rename_i h; rw [h.1, h.2]; exact ⟨rfl, rfl, rfl, rfl⟩
    · exact ⟨rfl, rfl, rfl, rfl⟩
  · exact ⟨rfl, rfl, rfl, rfl⟩
theorem igt_ne {S : ST} {x y : Cl} {f : Nat → Int32} (h : y ≠ x) : igt (ist S x f) y = igt S y := by
  rcases x with ⟨c, i⟩ | ⟨c, i, k⟩ | ⟨c, i, k, j⟩
  · rfl
  · rcases y with ⟨c', i'⟩ | ⟨c', i', k'⟩ | ⟨c', i', k', j'⟩
    · rfl
    · show ((S.so c i ((S c i).sA k f)) c' i').a k' = (S c' i').a k'
      rw [so_at]
      split
      · rename_i q
        rw [q.1, q.2, sA_at, if_neg (fun e => h (by rw [q.1, q.2, e]))]
      · rfl
    · rfl
  · rfl
theorem ifr_ist {L : List Cl} {S : ST} {x : Cl} {f : Nat → Int32} (h : x ∈ L) : ifr L S (ist S x f) := ⟨ist_fgl S x f, fun y hy => igt_ne (fun e => hy (by rw [e]; exact h))⟩
theorem ifr.fr {L : List Cl} {L' : List (Nat × Nat)} {S S' : ST} (h : ifr L S S') (ho : ∀ x ∈ L, ow x ∈ L') : fr L' S S' := by
  intro c i hn
  refine Ob_ext (h.1 c i).1 (h.1 c i).2.1 ?_ (h.1 c i).2.2.1 (h.1 c i).2.2.2
  funext k
  exact h.2 (.a c i k) (fun q => hn (ho _ q))
theorem ifr.mB {L : List Cl} {S S' : ST} {k : Nat} {β : Nat → UInt8} (h : ifr L S S') (hb : mB (S 13 0) k β) (hk : (.a 13 0 k : Cl) ∉ L) : mB (S' 13 0) k β := (h.2 (.a 13 0 k) hk).trans hb
section ICELL
variable {W : WR} {S : ST} {G : mG} {x y : Cl} {n m : Nat}
theorem igt_eq (h : iok W x n) (S : ST) (f : Nat → Int32) : igt (ist S x f) x = f := by
  rcases x with ⟨c, i⟩ | ⟨c, i, k⟩ | ⟨c, i, k, j⟩
  · exact absurd h.2.2.2 (fun q => q)
  · show ((S.so c i ((S c i).sA k f)) c i).a k = f
    rw [so_eq, sA_at, if_pos rfl]
  · exact absurd h.2.2.2 (fun q => q)
theorem ix_get {j : Nat} (h : iok W x n) (hj : j < n) : aI G (mem W S) 0 (W.ad x) (Int32.ofNat j) = some (igt S x j) := by
  obtain ⟨h1, h2, h3, h4⟩ := h
  have hb : inB (Int32.ofNat j) (W.n x) = true := by rw [h2]; exact inB_n hj (by omega)
  rcases x with ⟨c, i⟩ | ⟨c, i, k⟩ | ⟨c, i, k, q⟩
  · exact absurd h4 (fun q => q)
  · have := aI_m (G := G) (S := S) h1 h4 (by decide) (by decide) hb
    rw [n_at (by omega)] at this
    exact this
  · exact absurd h4 (fun q => q)
theorem ix_set {j : Nat} {v : Int32} (h : iok W x n) (hj : j < n) : sI (mem W S) 0 (W.ad x) (Int32.ofNat j) v = some (mem W (ist S x (upd (igt S x) j v))) := by
  obtain ⟨h1, h2, h3, h4⟩ := h
  have hb : inB (Int32.ofNat j) (W.n x) = true := by rw [h2]; exact inB_n hj (by omega)
  rcases x with ⟨c, i⟩ | ⟨c, i, k⟩ | ⟨c, i, k, q⟩
  · exact absurd h4 (fun q => q)
  · have := sI_m (S := S) (v := v) h1 h4 (by decide) (by decide) hb
    rw [n_at (by omega)] at this
    exact this
  · exact absurd h4 (fun q => q)
end ICELL
abbrev isMd (W : WR) (i : Nat) : Prop := W.live (.o 12 i) = true ∧ ∀ k, k = 0 ∨ (3 ≤ k ∧ k < 9) → W.r 12 i k = some (.a 12 i k) ∧ iok W (.a 12 i k) (if k = 5 then 70 else 34)
def MdB (S : ST) (i n m : Nat) : Prop := (S 12 i).f 1 = (Int32.ofNat n) ∧ 1 ≤ n ∧ n ≤ 32 ∧ IV (igt S (.a 12 i 0)) n m ∧ 1 < m ∧ m % 2 = 1
def MdS (S : ST) (i n m : Nat) : Prop := MdB S i n m ∧ (∃ tw, (S 12 i).f 2 = (Int32.ofNat tw) ∧ tw < 4294967296 ∧ (tw * m + 1) % 4294967296 = 0) ∧ IV (igt S (.a 12 i 3)) n (4294967296 ^ n % m) ∧ IV (igt S (.a 12 i 4)) n (4294967296 ^ n * 4294967296 ^ n % m)
theorem MdB.ifr {S S' : ST} {i n m : Nat} {L : List Cl} (h : MdB S i n m) (f : ifr L S S') (h2 : (.a 12 i 0 : Cl) ∉ L) : MdB S' i n m := by
  obtain ⟨a, b, c, d, e⟩ := h
  exact ⟨by rw [(f.1 12 i).1]; exact a, b, c, by rw [f.2 _ h2]; exact d, e⟩
theorem MdS.ifr {S S' : ST} {i n m : Nat} {L : List Cl} (h : MdS S i n m) (f : ifr L S S') (h2 : (.a 12 i 0 : Cl) ∉ L) (h3 : (.a 12 i 3 : Cl) ∉ L) (h4 : (.a 12 i 4 : Cl) ∉ L) : MdS S' i n m := by
  obtain ⟨a, ⟨tw, b⟩, c, d⟩ := h
  exact ⟨a.ifr f h2, ⟨tw, by rw [(f.1 12 i).1]; exact b⟩, by rw [f.2 _ h3]; exact c, by rw [f.2 _ h4]; exact d⟩
theorem vN_hi {d e : Nat → Nat} {k : Nat} : ∀ (n : Nat), k ≤ n → (∀ t, k ≤ t → t < n → d t = e t) → ∃ C, vN d n = vN d k + C ∧ vN e n = vN e k + C
  | 0, h, _ => by
    obtain rfl : k = 0 := by omega
    exact ⟨0, rfl, rfl⟩
  | n + 1, h, he => by
    by_cases c : k = n + 1
    · rw [c]; exact ⟨0, rfl, rfl⟩
    · obtain ⟨C, h1, h2⟩ := vN_hi (d := d) (e := e) (k := k) n (by omega) (fun t a b => he t a (by omega))
      refine ⟨C + d n * 4294967296 ^ n, ?_, ?_⟩
      · rw [vN_s, h1]; omega
      · rw [vN_s, h2, ← he n (by omega) (by omega)]; omega
theorem stepS {A s M mm E lo P : Nat} {b b' : Int} (h : (A : Int) - M = E - b * P) (hk : (s : Int) - mm - b = lo - b' * 4294967296) : ((A + s * P : Nat) : Int) - ((M + mm * P : Nat) : Int) = ((E + lo * P : Nat) : Int) - b' * ((P * 4294967296 : Nat) : Int) := by
  have := stepI (A := A) (s := s) (M := M) (mm := mm) (E := E) (lo := lo) (P := P) (cc := -b) (c' := -b') (by rw [Int.neg_mul]; omega) (by omega)
  rw [Int.neg_mul] at this
  omega
section IMOD
variable {W : WR} {G : mG} {F : Nat}
theorem isMd.gR {S : ST} {i k : Nat} (h : isMd W i) (hk : k = 0 ∨ (3 ≤ k ∧ k < 9)) : gfR (mem W S) (W.ad (.o 12 i)) 12 k = some (W.ad (.a 12 i k)) := by
  refine gfR_m h.1 ?_ (h.2 k hk).1
  have : k = 0 ∨ k = 3 ∨ k = 4 ∨ k = 5 ∨ k = 6 ∨ k = 7 ∨ k = 8 := by omega
  rcases this with rfl | rfl | rfl | rfl | rfl | rfl | rfl <;> rfl
theorem isMd.gI {S : ST} {i : Nat} (h : isMd W i) : gfI (mem W S) (W.ad (.o 12 i)) 12 1 = some ((S 12 i).f 1) := gfI_m h.1 rfl
theorem isMd.l0 {i : Nat} (h : isMd W i) : iok W (.a 12 i 0) 34 := (h.2 0 (by omega)).2
theorem isMd.l3 {i : Nat} (h : isMd W i) : iok W (.a 12 i 3) 34 := (h.2 3 (by omega)).2
theorem isMd.l4 {i : Nat} (h : isMd W i) : iok W (.a 12 i 4) 34 := (h.2 4 (by omega)).2
theorem isMd.l5 {i : Nat} (h : isMd W i) : iok W (.a 12 i 5) 70 := (h.2 5 (by omega)).2
theorem isMd.l6 {i : Nat} (h : isMd W i) : iok W (.a 12 i 6) 34 := (h.2 6 (by omega)).2
theorem isMd.l7 {i : Nat} (h : isMd W i) : iok W (.a 12 i 7) 34 := (h.2 7 (by omega)).2
theorem isMd.l8 {i : Nat} (h : isMd W i) : iok W (.a 12 i 8) 34 := (h.2 8 (by omega)).2
def ordF (a b : Nat) : Int32 := if a = b then 0 else if b < a then 1 else -1
theorem Q12_order_l {n N Ny : Nat} {S : ST} {x y : Cl} {d e : Nat → Nat} (hx : iok W x N) (hy : iok W y Ny) (hn : n ≤ 32) (hN : n ≤ N) (hNy : n ≤ Ny) (hd : ID (igt S x) n d) (he : ID (igt S y) n e) : ∀ (k fuel : Nat), k < fuel → k ≤ n → (∀ t, k ≤ t → t < n → d t = e t) → B_X12_order_7 G F fuel (W.ad x) (W.ad y) ((Int32.ofNat k) - 1) (mem W S) = some (ordF (vN d n) (vN e n), mem W S) := by
  intro k
  induction k with
  | zero =>
    intro fuel hf hk hz
    obtain ⟨fuel, rfl⟩ : ∃ q, fuel = q + 1 := ⟨fuel - 1, by omega⟩
    rw [B_X12_order_7, if_pos (by decide)]
    have : vN d n = vN e n := vN_congr (fun t ht => hz t (by omega) ht)
    unfold ordF
    rw [if_pos this]
  | succ k ih =>
    intro fuel hf hk hz
    obtain ⟨fuel, rfl⟩ : ∃ q, fuel = q + 1 := ⟨fuel - 1, by omega⟩
    have hdk := hd k (by omega)
    have hek := he k (by omega)
    rw [B_X12_order_7, give_i, if_neg (nn (by omega)), ix_get hx (by omega), bO_s, ix_get hy (by omega), bO_s, hdk.1, hek.1]
    by_cases c : d k = e k
    · rw [if_pos (by rw [c]), n_an]
      exact ih fuel (by omega) (by omega) (fun t h1 h2 => by
        by_cases q : t = k
        · rw [q]; exact c
        · exact hz t (by omega) h2)
    · rw [if_neg (fun q => c ((i_inj hdk.2 hek.2).mp q)), bO_s, bO_s]
      obtain ⟨C, a1, a2⟩ := vN_hi (k := k + 1) n (by omega) hz
      have b1 := vN_lt (n := k) (d := d) (fun t ht => (hd t (by omega)).2)
      have b2 := vN_lt (n := k) (d := e) (fun t ht => (he t (by omega)).2)
      rw [vN_s] at a1 a2
      by_cases c2 : e k ≤ d k
      · rw [if_pos ((x31_le hdk.2 hek.2).mpr c2)]
        have : (e k + 1) * 4294967296 ^ k ≤ d k * 4294967296 ^ k := Nat.mul_le_mul_right _ (by omega)
        rw [Nat.add_mul] at this
        unfold ordF
        rw [if_neg (by omega), if_pos (by omega)]
      · rw [if_neg (fun q => c2 ((x31_le hdk.2 hek.2).mp q))]
        have : (d k + 1) * 4294967296 ^ k ≤ e k * 4294967296 ^ k := Nat.mul_le_mul_right _ (by omega)
        rw [Nat.add_mul] at this
        unfold ordF
        rw [if_neg (by omega), if_neg (by omega)]
theorem Q12_order {i n N Ny v w : Nat} {S : ST} {x y : Cl} (X : Cx G F W) (h : isMd W i) (hx : iok W x N) (hy : iok W y Ny) (hn : n ≤ 32) (hN : n ≤ N) (hNy : n ≤ Ny) (h0 : (S 12 i).f 1 = (Int32.ofNat n)) (hd : IV (igt S x) n v) (he : IV (igt S y) n w) : P_X12_order G F (W.ad (.o 12 i)) (W.ad x) (W.ad y) (mem W S) = some (ordF v w, mem W S) := by
  have hF := X.hF
  obtain ⟨d, h1, rfl⟩ := hd
  obtain ⟨e, h2, rfl⟩ := he
  unfold P_X12_order
  rw [h.gI, bO_s, h0]
  exact Q12_order_l (G := G) (F := F) hx hy hn hN hNy h1 h2 n F (by omega) (Nat.le_refl _) (fun t a b => by omega)
theorem Q12_less_l {i n N : Nat} {x : Cl} {dx dm : Nat → Nat} (h : isMd W i) (hx : iok W x N) (hn : n ≤ 32) (hN : n ≤ N) (x0 : (.a 12 i 0 : Cl) ≠ x) : ∀ (q j fuel : Nat) (S : ST) (b : Nat) (e : Nat → Nat), q < fuel → j + q = n → (S 12 i).f 1 = (Int32.ofNat n) → ID (igt S (.a 12 i 0)) n dm → (∀ t, j ≤ t → t < n → igt S x t = (Int32.ofNat (dx t)) ∧ dx t < 4294967296) → ID (igt S x) j e → b ≤ 1 → (vN dx j : Int) - vN dm j = vN e j - (b : Int) * ((4294967296 ^ j : Nat) : Int) → ∃ (S' : ST) (e' : Nat → Nat) (b' : Nat), B_X12_less_5 G F fuel (W.ad (.o 12 i)) (W.ad x) (Int64.ofNat b) (Int32.ofNat j) (mem W S) = some (mem W S') ∧ ifr [x] S S' ∧ ID (igt S' x) n e' ∧ b' ≤ 1 ∧ (vN dx n : Int) - vN dm n = vN e' n - (b' : Int) * ((4294967296 ^ n : Nat) : Int) := by
  intro q
  induction q with
  | zero =>
    intro j fuel S b e hf hj h0 hm hdx he hb hv
    obtain ⟨fuel, rfl⟩ : ∃ q, fuel = q + 1 := ⟨fuel - 1, by omega⟩
    obtain rfl : j = n := by omega
    rw [B_X12_less_5, h.gI, bO_s, h0, if_pos ((n_le (by omega) (by omega)).mpr (Nat.le_refl _))]
    exact ⟨S, e, b, rfl, ifr.refl _ _, he, hb, hv⟩
  | succ q ih =>
    intro j fuel S b e hf hj h0 hm hdx he hb hv
    obtain ⟨fuel, rfl⟩ : ∃ q, fuel = q + 1 := ⟨fuel - 1, by omega⟩
    have hxj := hdx j (by omega) (by omega)
    have hmj := hm j (by omega)
    obtain ⟨z, hz⟩ : ∃ z : Int, z = (dx j : Int) - dm j - b := ⟨_, rfl⟩
    have ea : ((((igt S x j).toInt64) &&& (4294967295 : Int64)) - (((igt S (.a 12 i 0) j).toInt64) &&& (4294967295 : Int64))) - Int64.ofNat b = Int64.ofInt z := by rw [hxj.1, hmj.1, i_64 hxj.2, i_64 hmj.2, s_nat, s_nat, s_nat, s_sub, s_sub, hz]
    rw [B_X12_less_5, h.gI, bO_s, h0, if_neg (fun q => absurd ((n_le (by omega) (by omega)).mp q) (by omega)), ix_get hx (by omega), bO_s, h.gR (by omega), bO_s, ix_get h.l0 (by omega), bO_s, ea, i_ofS, ix_set hx (by omega), bO_s, n_addL j 1]
    obtain ⟨lo, hlo⟩ : ∃ lo : Nat, lo = (z % 4294967296).toNat := ⟨_, rfl⟩
    have hlo2 : lo < 4294967296 := by omega
    rw [← hlo]
    have go : ∀ b' : Nat, b' ≤ 1 → z = lo - (b' : Int) * 4294967296 → ∃ (S' : ST) (e' : Nat → Nat) (b'' : Nat), B_X12_less_5 G F fuel (W.ad (.o 12 i)) (W.ad x) (Int64.ofNat b') (Int32.ofNat (j + 1)) (mem W (ist S x (upd (igt S x) j (Int32.ofNat lo)))) = some (mem W S') ∧ ifr [x] S S' ∧ ID (igt S' x) n e' ∧ b'' ≤ 1 ∧ (vN dx n : Int) - vN dm n = vN e' n - (b'' : Int) * ((4294967296 ^ n : Nat) : Int) := by
      intro b' hb' hzb
      obtain ⟨S', e', b'', g1, g2, g3, g4, g5⟩ := ih (j + 1) fuel (ist S x (upd (igt S x) j (Int32.ofNat lo))) b' (vp_updN e j lo) (by omega) (by omega) (by rw [(ist_fgl _ _ _ _ _).1]; exact h0) (by rw [igt_ne x0]; exact hm) (fun t h1 h2 => by rw [igt_eq hx, upd_ne (by omega)]; exact hdx t (by omega) h2) (by rw [igt_eq hx]; exact he.snoc rfl hlo2) hb' (by
        rw [vN_upd, vN_s, vN_s, Nat.pow_succ]
        exact stepS hv (by rw [← hz]; exact hzb))
      exact ⟨S', e', b'', g1, (ifr_ist (by simp)).trans g2, g3, g4, g5⟩
    by_cases c : 0 ≤ z
    · rw [if_pos ((s_nn (by omega) (by omega)).mpr c)]
      exact go 0 (by omega) (by omega)
    · rw [if_neg (fun q => c ((s_nn (by omega) (by omega)).mp q))]
      exact go 1 (by omega) (by omega)
theorem Q12_less {i n m N vx ov : Nat} {S : ST} {x : Cl} (X : Cx G F W) (h : isMd W i) (hM : MdB S i n m) (hx : iok W x N) (hN : n ≤ N) (x0 : (.a 12 i 0 : Cl) ≠ x) (hvx : IV (igt S x) n vx) (hov : ov ≤ 1) (h1 : m ≤ vx + ov * 4294967296 ^ n) (h2 : vx + ov * 4294967296 ^ n < 2 * m) : ∃ S', P_X12_less G F (W.ad (.o 12 i)) (W.ad x) (mem W S) = some (mem W S') ∧ ifr [x] S S' ∧ IV (igt S' x) n ((vx + ov * 4294967296 ^ n) % m) := by
  have hF := X.hF
  obtain ⟨h0, hn1, hn, hmv, hm1, hm2⟩ := hM
  have hml := hmv.lt
  obtain ⟨dm, hm, rfl⟩ := hmv
  obtain ⟨dx, hdx, rfl⟩ := hvx
  obtain ⟨S', e', b', g1, g2, g3, g4, g5⟩ := Q12_less_l (G := G) (F := F) (dx := dx) (dm := dm) h hx hn hN x0 n 0 F S 0 (fun _ => 0) (by omega) (by omega) h0 hm (fun t _ h2 => hdx t h2) (fun t ht => by omega) (by omega) (by simp [vN])
  refine ⟨S', g1, g2, e', g3, ?_⟩
  have hel := g3.lt
  rw [Nat.mod_eq_sub_mod h1, Nat.mod_eq_of_lt (by omega)]
  generalize 4294967296 ^ n = P at *
  have hb : b' = 0 ∨ b' = 1 := by omega
  have ho : ov = 0 ∨ ov = 1 := by omega
  rcases hb with rfl | rfl <;> rcases ho with rfl | rfl <;> omega
/-- the tail of sums: the modulus is taken away where the sum isn't below it -/
theorem Q12_tail0 {i n m N vx : Nat} {S : ST} {x : Cl} (X : Cx G F W) (h : isMd W i) (hM : MdB S i n m) (hx : iok W x N) (hN : n ≤ N) (x0 : (.a 12 i 0 : Cl) ≠ x) (hvx : IV (igt S x) n vx) (h2 : vx < 2 * m) : ∃ S', (bO (gfR (mem W S) (W.ad (.o 12 i)) 12 0) fun v47 => bO (rcv (mem W S) (W.ad (.o 12 i)) 12) fun _ => bP (P_X12_order G F (W.ad (.o 12 i)) (W.ad x) v47 (mem W S)) fun v50 M50 => if v50 < 0 then (some M50) else (bO (rcv M50 (W.ad (.o 12 i)) 12) fun _ => bO (P_X12_less G F (W.ad (.o 12 i)) (W.ad x) M50) fun M58 => some M58)) = some (mem W S') ∧ ifr [x] S S' ∧ IV (igt S' x) n (vx % m) := by
  rw [h.gR (by omega), bO_s, rcv_m h.1, bO_s, Q12_order X h hx h.l0 hM.2.2.1 hN (by have := hM.2.2.1; omega) hM.1 hvx hM.2.2.2.1, bP_s]
  unfold ordF
  by_cases c : vx < m
  · rw [if_neg (show ¬ vx = m by omega), if_neg (show ¬ m < vx by omega), if_pos (by decide)]
    refine ⟨S, rfl, ifr.refl _ _, ?_⟩
    rw [Nat.mod_eq_of_lt c]
    exact hvx
  · obtain ⟨S', g1, g2, g3⟩ := Q12_less (G := G) (F := F) (ov := 0) X h hM hx hN x0 hvx (by omega) (by omega) (by omega)
    rw [Nat.zero_mul, Nat.add_zero] at g3
    have e : ¬ (if vx = m then (0 : Int32) else if m < vx then 1 else -1) < 0 := by
      by_cases c2 : vx = m
      · rw [if_pos c2]; decide
      · rw [if_neg c2, if_pos (by omega)]; decide
    rw [if_neg e, rcv_m h.1, bO_s, g1, bO_s]
    exact ⟨S', rfl, g2, g3⟩
theorem Q12_tail1 {i n m N vx : Nat} {S : ST} {x : Cl} (X : Cx G F W) (h : isMd W i) (hM : MdB S i n m) (hx : iok W x N) (hN : n ≤ N) (x0 : (.a 12 i 0 : Cl) ≠ x) (hvx : IV (igt S x) n vx) (h2 : vx + 1 * 4294967296 ^ n < 2 * m) : ∃ S', (bO (rcv (mem W S) (W.ad (.o 12 i)) 12) fun _ => bO (P_X12_less G F (W.ad (.o 12 i)) (W.ad x) (mem W S)) fun M58 => some M58) = some (mem W S') ∧ ifr [x] S S' ∧ IV (igt S' x) n ((vx + 1 * 4294967296 ^ n) % m) := by
  have hml := hM.2.2.2.1.lt
  obtain ⟨S', g1, g2, g3⟩ := Q12_less (G := G) (F := F) (ov := 1) X h hM hx hN x0 hvx (by omega) (by omega) (by omega)
  rw [rcv_m h.1, bO_s, g1, bO_s]
  exact ⟨S', rfl, g2, g3⟩
end IMOD
