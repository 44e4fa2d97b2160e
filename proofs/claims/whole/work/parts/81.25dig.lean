/-! THE DIGEST OF THE CLASS: start, add, addWord, finish -/
section DIG2
variable {W : WR} {G : mG} {F : Nat}
theorem gI {S : ST} {c i k : Nat} {o : Ob} (lo : W.live (.o c i) = true) (q : (kdF c)[k]? = some 0) : gfI (mem W (S.so c i o)) (W.ad (.o c i)) c k = some (o.f k) := by rw [gfI_m lo q, so_eq]
theorem gL {S : ST} {c i k : Nat} {o : Ob} (lo : W.live (.o c i) = true) (q : (kdF c)[k]? = some 1) : gfL (mem W (S.so c i o)) (W.ad (.o c i)) c k = some (o.g k) := by rw [gfL_m lo q, so_eq]
theorem pI {S : ST} {c i k : Nat} {o : Ob} {v : Int32} (lo : W.live (.o c i) = true) (q : (kdF c)[k]? = some 0) : pfv (mem W (S.so c i o)) (W.ad (.o c i)) c k (.int v) = some (mem W (S.so c i (o.sf k v))) := by rw [pfI_m lo q, so_so, so_eq]
theorem pL {S : ST} {c i k : Nat} {o : Ob} {v : Int64} (lo : W.live (.o c i) = true) (q : (kdF c)[k]? = some 1) : pfv (mem W (S.so c i o)) (W.ad (.o c i)) c k (.long v) = some (mem W (S.so c i (o.sg k v))) := by rw [pfL_m lo q, so_so, so_eq]
theorem hasA.lo' {S : ST} {c i k n j : Nat} {o : Ob} (h : hasA W c i k n) (q : (kdA c)[k]? = some 0) (hj : j < n) : aI G (mem W (S.so c i o)) 0 (W.ad (.a c i k)) (Int32.ofNat j) = some (o.a k j) := by rw [h.ld q hj, so_eq]
theorem hasA.so' {S : ST} {c i k n j : Nat} {o : Ob} {v : Int32} (h : hasA W c i k n) (q : (kdA c)[k]? = some 0) (hj : j < n) : sI (mem W (S.so c i o)) 0 (W.ad (.a c i k)) (Int32.ofNat j) v = some (mem W (S.so c i (o.sA k (upd (o.a k) j v)))) := by rw [h.st q hj, so_so, so_eq]
theorem hasL.lo' {S : ST} {c i k n j : Nat} {o : Ob} (h : hasL W c i k n) (q : (kdA c)[k]? = some 2) (hj : j < n) : aL G (mem W (S.so c i o)) (W.ad (.a c i k)) (Int32.ofNat j) = some (o.l k j) := by rw [h.ld q hj, so_eq]
theorem hasL.so' {S : ST} {c i k n j : Nat} {o : Ob} {v : Int64} (h : hasL W c i k n) (q : (kdA c)[k]? = some 2) (hj : j < n) : sL (mem W (S.so c i o)) (W.ad (.a c i k)) (Int32.ofNat j) v = some (mem W (S.so c i (o.sL k (vp_updL (o.l k) j v)))) := by rw [h.st q hj, so_so, so_eq]
abbrev agD (o o' : Ob) : Prop := agr [0, 1, 3, 4] [] [2, 5, 6] [7, 8] o o'
theorem Q4_start {S : ST} {wide : Bool} (X : Cx G F W) (h : isD W) : ∃ o, P_X4_start G F (W.ad (.o 4 0)) (if wide then 512 else 256) (mem W S) = some (mem W (S.so 4 0 o)) ∧ DG o wide [] ∧ agD (S 4 0) o := by
  have hlo := h.1
  have h5 := h.2.2.1
  have h7 := h.l7
  obtain ⟨x1, x2⟩ := X.ro.1.2.1 1 rfl
  obtain ⟨x3, x4⟩ := X.ro.1.2.2 2 rfl
  have e1 : ∀ S, srI G (mem W S) (G.1 1001) = some (8, fun k => mt_1.getD k 0) := by
    intro S; unfold srI; rw [mem_lo x1]; exact x2
  have e2 : ∀ S, srL G (mem W S) (G.1 1002) = some (8, fun k => mt_2.getD k 0) := by
    intro S; unfold srL; rw [mem_lo x3]; exact x4
  have last : ∀ (o : Ob) (v : Int32), B_X4_start_32 G F (W.ad (.o 4 0)) (W.ad (.o 4 0)) v (mem W (S.so 4 0 o)) = some (mem W (S.so 4 0 (((((o.sf 1 v).sf 3 0).sf 4 0).sA 5 (va_cpy (fun k => mt_1.getD k 0) (o.a 5) 0 0 8)).sL 7 (va_cpy (fun k => mt_2.getD k 0) (o.l 7) 0 0 8)))) := by
    intro o v
    unfold B_X4_start_32
    rw [pI hlo rfl, bO_s, pI hlo rfl, bO_s, pI hlo rfl, bO_s, h5.g hlo rfl, bO_s]
    have c1 := cpI_g (p := 0) (q := 0) (m := 8) (e1 (S.so 4 0 (((o.sf 1 v).sf 3 0).sf 4 0))) h5.1 rfl (by decide) (by decide) (by decide) (by decide) (by rw [h5.2.2.1]; decide)
    have c2 := cpL_g (p := 0) (q := 0) (m := 8) (e2 (S.so 4 0 ((((o.sf 1 v).sf 3 0).sf 4 0).sA 5 (va_cpy (fun k => mt_1.getD k 0) (o.a 5) 0 0 8)))) h7.1 rfl (by decide) (by decide) (by decide) (by decide) (by rw [h7.2.2.1]; decide)
    rw [so_so, so_eq] at c1 c2
    erw [c1]
    rw [bO_s, h7.g hlo rfl, bO_s]
    erw [c2]
    rfl
  have dg : ∀ (o : Ob), DG ((((((o.sf 0 (if wide then 1 else 0)).sf 1 (Int32.ofNat (bb wide))).sf 3 0).sf 4 0).sA 5 (va_cpy (fun k => mt_1.getD k 0) (o.a 5) 0 0 8)).sL 7 (va_cpy (fun k => mt_2.getD k 0) (o.l 7) 0 0 8)) wide [] := by
    intro o
    refine ⟨rfl, rfl, ?_, rfl, fun j hj => absurd hj (by simp), ?_, ?_⟩
    · show (0 : Int32) = _
      simp
    · intro hw k hk
      show ((((((o.sf 0 (if wide then 1 else 0)).sf 1 (Int32.ofNat (bb wide))).sf 3 0).sf 4 0).sA 5 (va_cpy (fun k => mt_1.getD k 0) (o.a 5) 0 0 8))).a 5 k = _
      rw [sA_a, va_cpy, if_pos ⟨by omega, by omega⟩]
      simp [hs8]
    · intro hw k hk
      rw [sL_l, va_cpy, if_pos ⟨by omega, by omega⟩]
      simp [hs8W]
  have ag : ∀ (o : Ob) (v w : Int32) (f : Nat → Int32) (g : Nat → Int64), agD o ((((((o.sf 0 w).sf 1 v).sf 3 0).sf 4 0).sA 5 f).sL 7 g) := by
    intro o v w f g
    exact (((((agr_sf (by decide)).trans (agr_sf (by decide))).trans (agr_sf (by decide))).trans (agr_sf (by decide))).trans (agr_sA (by decide))).trans (agr_sL (by decide))
  unfold P_X4_start
  cases wide with
  | true =>
    rw [if_pos (by rfl), pfZ_m hlo rfl (by decide), bO_s, gI hlo rfl, bO_s, if_neg (by rw [sf_f, if_pos rfl]; decide)]
    rw [last]
    exact ⟨_, rfl, dg (S 4 0), ag _ _ _ _ _⟩
  | false =>
    rw [if_neg (by decide), pfZ_m hlo rfl (by decide), bO_s, gI hlo rfl, bO_s, if_pos (by rfl)]
    rw [last]
    exact ⟨_, rfl, dg (S 4 0), ag _ _ _ _ _⟩
theorem agD_of {o o' : Ob} (h : agr [3, 4] [] [2, 5, 6] [7, 8] o o') : agD o o' := h.mono (by decide) (by decide) (by decide) (by decide)
theorem Q4_add_l {i room stop : Nat} {xs : List UInt8} {lost : Bool} {wide : Bool} (X : Cx G F W) (h : isD W) (hB : isB W i room) (hs : stop < 2 ^ 26) : ∀ (m k n : Nat) (S : ST) (msg : List UInt8), m < n → k + m = stop → stop ≤ xs.length → Byt room (S 0 i) xs lost → DG (S 4 0) wide msg → msg.length + m < 2 ^ 27 → ∃ o, B_X4_add_3 G F n (W.ad (.o 4 0)) (W.ad (.o 0 i)) (Int32.ofNat stop) (Int32.ofNat k) (mem W S) = some (mem W (S.so 4 0 o)) ∧ DG o wide (msg ++ (xs.drop k).take m) ∧ agD (S 4 0) o := by
  intro m
  induction m with
  | zero =>
    intro k n S msg hn hk hx hb hd hl
    cases n with
    | zero => omega
    | succ n =>
      refine ⟨S 4 0, ?_, by simpa using hd, agr.refl _ _ _ _ _⟩
      rw [B_X4_add_3, if_pos ((n_le (by omega) (by omega)).mpr (by omega)), so_self]
  | succ m ih =>
    intro k n S msg hn hk hx hb hd hl
    cases n with
    | zero => omega
    | succ n =>
      rw [B_X4_add_3, if_neg (fun q => absurd ((n_le (by omega) (by omega)).mp q) (by omega)), rcv_m hB.lo, bO_s, Q0_get hB hb (by omega), bP_s, rcv_m h.1, bO_s, gB_lt (show k < xs.length by omega)]
      obtain ⟨o, g1, g2, g3⟩ := Q4_addByte (S := S) (y := xs[k]'(by omega)) X h hd (by omega)
      rw [g1, bO_s, n_addL k 1]
      obtain ⟨o2, g4, g5, g6⟩ := ih (k + 1) n (S.so 4 0 o) (msg ++ [xs[k]'(by omega)]) (by omega) (by omega) hx (by rw [so_ne (by omega)]; exact hb) (by rw [so_eq]; exact g2) (by rw [List.length_append]; simp; omega)
      refine ⟨o2, by rw [g4, so_so], ?_, (agD_of g3).trans (by rw [so_eq] at g6; exact g6)⟩
      have e : (xs.drop k).take (m + 1) = [xs[k]'(by omega)] ++ (xs.drop (k + 1)).take m := by
        rw [List.drop_eq_getElem_cons (show k < xs.length by omega)]
        rfl
      rw [e, ← List.append_assoc]
      exact g5
theorem Q4_add {S : ST} {i room k stop : Nat} {xs msg : List UInt8} {lost : Bool} {wide : Bool} (X : Cx G F W) (h : isD W) (hB : isB W i room) (hk : k ≤ stop) (hs : stop ≤ xs.length) (hs2 : stop < 90000) (hb : Byt room (S 0 i) xs lost) (hd : DG (S 4 0) wide msg) (hl : msg.length < 2 ^ 26) : ∃ o, P_X4_add G F (W.ad (.o 4 0)) (W.ad (.o 0 i)) (Int32.ofNat k) (Int32.ofNat stop) (mem W S) = some (mem W (S.so 4 0 o)) ∧ DG o wide (msg ++ (xs.drop k).take (stop - k)) ∧ agD (S 4 0) o := Q4_add_l X h hB (by omega) (stop - k) k F S msg (by have := X.hF; omega) (by omega) hs hb hd (by omega)
theorem Q4_addI {S : ST} {x : Int32} {wide : Bool} {msg : List UInt8} (X : Cx G F W) (h : isD W) (hg : DG (S 4 0) wide msg) (hl : msg.length < 2 ^ 27) : ∃ o, P_X4_addByte G F (W.ad (.o 4 0)) (x &&& 255) (mem W S) = some (mem W (S.so 4 0 o)) ∧ DG o wide (msg ++ [lo8 x]) ∧ agD (S 4 0) o := by
  rw [and255]
  obtain ⟨o, h1, h2, h3⟩ := Q4_addByte X h hg hl
  exact ⟨o, h1, h2, agD_of h3⟩
theorem ushI_n {x : Int32} {s : Nat} (hs : s < 32) : ushI x (Int32.ofNat s) = (Int32.ofNat (x.toUInt32.toNat / 2 ^ s)) := by
  unfold ushI
  apply i_ext
  apply BitVec.eq_of_toNat_eq
  rw [bv_of, BitVec.toNat_ofNat]
  have e : (((Int32.ofNat s)).toUInt32 &&& Int32.toUInt32 31) = UInt32.ofNat s := by
    have : ∀ s, s < 32 → (((Int32.ofNat s)).toUInt32 &&& Int32.toUInt32 31) = UInt32.ofNat s := by decide +kernel
    exact this s hs
  rw [e]
  have h2 : x.toUInt32.toNat < 2 ^ 32 := x.toUInt32.toNat_lt
  have h3 : (UInt32.ofNat s).toNat = s := by
    rw [UInt32.toNat_ofNat_of_lt' (by show s < 2 ^ 32; omega)]
  show (x.toUInt32 >>> UInt32.ofNat s).toNat = _
  rw [UInt32.toNat_shiftRight, h3, Nat.mod_eq_of_lt hs, Nat.shiftRight_eq_div_pow]
  exact (Nat.mod_eq_of_lt (Nat.lt_of_le_of_lt (Nat.div_le_self _ _) h2)).symm
theorem ush24 (x : Int32) : ushI x 24 &&& 255 = ushI x 24 := by
  rw [lit 24, ushI_n (by decide), lit 255, n_and]
  congr 1
  rw [show (255 : Nat) = 2 ^ 8 - 1 from rfl, and_mask]
  have h2 : x.toUInt32.toNat < 2 ^ 32 := x.toUInt32.toNat_lt
  omega
theorem Q4_addWord {S : ST} {x : Int32} {wide : Bool} {msg : List UInt8} (X : Cx G F W) (h : isD W) (hg : DG (S 4 0) wide msg) (hl : msg.length < 2 ^ 26) : ∃ o, P_X4_addWord G F (W.ad (.o 4 0)) x (mem W S) = some (mem W (S.so 4 0 o)) ∧ DG o wide (msg ++ w4 x) ∧ agD (S 4 0) o := by
  unfold P_X4_addWord
  obtain ⟨o1, h1, d1, a1⟩ := Q4_addI (x := ushI x 24) X h hg (by omega)
  rw [ush24] at h1
  obtain ⟨o2, h2, d2, a2⟩ := Q4_addI (S := S.so 4 0 o1) (x := ushI x 16) X h (by rw [so_eq]; exact d1) (by simp; omega)
  obtain ⟨o3, h3, d3, a3⟩ := Q4_addI (S := S.so 4 0 o2) (x := ushI x 8) X h (by rw [so_eq]; exact d2) (by simp; omega)
  obtain ⟨o4, h4, d4, a4⟩ := Q4_addI (S := S.so 4 0 o3) (x := x) X h (by rw [so_eq]; exact d3) (by simp; omega)
  rw [so_so] at h2 h3 h4
  rw [so_eq] at a2 a3 a4
  rw [rcv_m h.1, bO_s, h1, bO_s, rcv_m h.1, bO_s, h2, bO_s, rcv_m h.1, bO_s, h3, bO_s, rcv_m h.1, bO_s, h4, bO_s]
  refine ⟨o4, rfl, ?_, ((a1.trans a2).trans a3).trans a4⟩
  have e : msg ++ w4 x = (((msg ++ [lo8 (ushI x 24)]) ++ [lo8 (ushI x 16)]) ++ [lo8 (ushI x 8)]) ++ [lo8 x] := by simp [w4]
  rw [e]
  exact d4
theorem Q4_addZ {S : ST} {wide : Bool} {msg : List UInt8} (X : Cx G F W) (h : isD W) (hg : DG (S 4 0) wide msg) (hl : msg.length < 2 ^ 27) : ∃ o, P_X4_addByte G F (W.ad (.o 4 0)) 0 (mem W S) = some (mem W (S.so 4 0 o)) ∧ DG o wide (msg ++ [0]) ∧ agD (S 4 0) o := Q4_addI (x := 0) X h hg hl
/-- the words go out -/
theorem Q4_fin_c {i room : Nat} {wide : Bool} {p : List UInt8} (h : isD W) (hB : isB W i room) : ∀ (m k n : Nat) (S : ST) (xs : List UInt8) (lost : Bool), m < n → k + m = 8 → DG (S 4 0) wide p → Byt room (S 0 i) xs lost → ∃ o, B_X4_finish_109 G F n (W.ad (.o 4 0)) (W.ad (.o 0 i)) (Int32.ofNat k) (mem W S) = some (mem W (S.so 0 i o)) ∧ Byt room o (tkl room xs (cat (shaW wide p) m k)) (lsl room xs (cat (shaW wide p) m k) lost) := by
  intro m
  induction m with
  | zero =>
    intro k n S xs lost hn hk hd hb
    cases n with
    | zero => omega
    | succ n =>
      refine ⟨S 0 i, ?_, by rw [cat, tkl_nil hb.le, lsl_nil hb.le]; exact hb⟩
      rw [B_X4_finish_109, if_pos (by rw [lit 8]; exact (n_le (by omega) (by omega)).mpr (by omega)), so_self]
  | succ m ih =>
    intro k n S xs lost hn hk hd hb
    cases n with
    | zero => omega
    | succ n =>
      rw [B_X4_finish_109, if_neg (by rw [lit 8]; exact fun q => absurd ((n_le (by omega) (by omega)).mp q) (by omega)), gfI_m h.1 rfl, bO_s, hd.1]
      have go : ∀ (o : Ob) (ys : List UInt8), ys = shaW wide p k → Byt room o (tkl room xs ys) (lsl room xs ys lost) → ∃ o', B_X4_finish_109 G F n (W.ad (.o 4 0)) (W.ad (.o 0 i)) (Int32.ofNat (k + 1)) (mem W (S.so 0 i o)) = some (mem W (S.so 0 i o')) ∧ Byt room o' (tkl room xs (cat (shaW wide p) (m + 1) k)) (lsl room xs (cat (shaW wide p) (m + 1) k) lost) := by
        intro o ys hy hbo
        obtain ⟨o2, g1, g2⟩ := ih (k + 1) n (S.so 0 i o) _ _ (by omega) (by omega) (by rw [so_ne (by omega)]; exact hd) (by rw [so_eq]; exact hbo)
        rw [so_so] at g1
        rw [tkl_tkl, lsl_lsl, hy] at g2
        exact ⟨o2, g1, g2⟩
      cases wide with
      | false =>
        rw [if_pos (by rfl), h.2.2.1.g h.1 rfl, bO_s, h.2.2.1.ld rfl (by omega), bO_s, rcv_m hB.lo, bO_s, hd.2.2.2.2.2.1 rfl k (by omega)]
        obtain ⟨o1, g1, g2⟩ := Q0_putWord (S := S) (x := hs8 p (p.length / 64) k) (G := G) (F := F) hB hb
        rw [g1, bO_s, n_addL k 1]
        exact go o1 _ rfl g2
      | true =>
        rw [if_neg (by decide), h.l7.g h.1 rfl, bO_s, h.l7.ld rfl (by omega), bO_s, rcv_m hB.lo, bO_s, hd.2.2.2.2.2.2 rfl k (by omega)]
        obtain ⟨o1, g1, g2⟩ := Q0_putWord (S := S) (x := (ushL (hs8W p (p.length / 128) k) 32).toInt32) (G := G) (F := F) hB hb
        rw [g1, bO_s, h.l7.g h.1 rfl, bO_s, h.l7.ld rfl (by omega), bO_s, rcv_m hB.lo, bO_s, so_ne (by omega), hd.2.2.2.2.2.2 rfl k (by omega)]
        obtain ⟨o2, g3, g4⟩ := Q0_putWord (S := S.so 0 i o1) (x := (hs8W p (p.length / 128) k).toInt32) (G := G) (F := F) hB (by rw [so_eq]; exact g2)
        rw [so_so] at g3
        rw [tkl_tkl, lsl_lsl] at g4
        rw [g3, bO_s, n_addL k 1]
        exact go o2 _ rfl g4
/-- the bytes of the length still to come -/
def sfx (bits : Int32) : Nat → List UInt8
  | 0 => []
  | m + 1 => (if 4 ≤ m then 0 else lo8 (ushI bits (Int32.ofNat (8 * m)))) :: sfx bits m
theorem dn_t : ∀ m, m < 17 → (¬ ((Int32.ofNat (m + 1)) - 1) < 0) ∧ ((Int32.ofNat (m + 1)) - 1 = (Int32.ofNat m)) ∧ (((Int32.ofNat (m + 1)) - 1) + (-1) = (Int32.ofNat m) - 1) ∧ ((4 : Int32) ≤ (Int32.ofNat m) ↔ 4 ≤ m) ∧ (8 : Int32) * (Int32.ofNat m) = (Int32.ofNat (8 * m)) := by decide +kernel
theorem Q4_fin_b {i room : Nat} {wide : Bool} {bits : Int32} (X : Cx G F W) (h : isD W) (hB : isB W i room) {xs : List UInt8} {lost : Bool} : ∀ (m n : Nat) (S : ST) (p : List UInt8), m < n → m ≤ 16 → DG (S 4 0) wide p → p.length + m < 2 ^ 26 → Byt room (S 0 i) xs lost → ∃ S', B_X4_finish_70 G F n (W.ad (.o 4 0)) (W.ad (.o 0 i)) bits ((Int32.ofNat m) - 1) (mem W S) = some (mem W S') ∧ fr [(4, 0), (0, i)] S S' ∧ DG (S' 4 0) wide (p ++ sfx bits m) ∧ agD (S 4 0) (S' 4 0) ∧ Byt room (S' 0 i) (tkl room xs (cat (shaW wide (p ++ sfx bits m)) 8 0)) (lsl room xs (cat (shaW wide (p ++ sfx bits m)) 8 0) lost) := by
  intro m
  induction m with
  | zero =>
    intro n S p hn hm hd hl hb
    cases n with
    | zero => omega
    | succ n =>
      rw [B_X4_finish_70, if_pos (by decide)]
      obtain ⟨o, g1, g2⟩ := Q4_fin_c (G := G) (F := F) h hB 8 0 F S xs lost (by have := X.hF; omega) rfl hd hb
      refine ⟨S.so 0 i o, g1, fr_so (by simp), ?_, ?_, ?_⟩
      · rw [so_ne (by omega), sfx, List.append_nil]; exact hd
      · rw [so_ne (by omega)]; exact agr.refl _ _ _ _ _
      · rw [so_eq, sfx, List.append_nil]; exact g2
  | succ m ih =>
    intro n S p hn hm hd hl hb
    cases n with
    | zero => omega
    | succ n =>
      obtain ⟨t1, t2, t3, t4, t5⟩ := dn_t m (by omega)
      rw [B_X4_finish_70, if_neg t1, t3, t2, rcv_m h.1, bO_s, bO_s, t5]
      have go : ∀ (x : Int32), lo8 x = (if 4 ≤ m then 0 else lo8 (ushI bits (Int32.ofNat (8 * m)))) → ∃ S', (bO (P_X4_addByte G F (W.ad (.o 4 0)) (x &&& 255) (mem W S)) fun M97 => B_X4_finish_70 G F n (W.ad (.o 4 0)) (W.ad (.o 0 i)) bits ((Int32.ofNat m) - 1) M97) = some (mem W S') ∧ fr [(4, 0), (0, i)] S S' ∧ DG (S' 4 0) wide (p ++ sfx bits (m + 1)) ∧ agD (S 4 0) (S' 4 0) ∧ Byt room (S' 0 i) (tkl room xs (cat (shaW wide (p ++ sfx bits (m + 1))) 8 0)) (lsl room xs (cat (shaW wide (p ++ sfx bits (m + 1))) 8 0) lost) := by
        intro x hx
        obtain ⟨o, g1, g2, g3⟩ := Q4_addI (x := x) X h hd (by omega)
        rw [g1, bO_s]
        obtain ⟨S', e1, e2, e3, e4, e5⟩ := ih n (S.so 4 0 o) (p ++ [lo8 x]) (by omega) (by omega) (by rw [so_eq]; exact g2) (by simp; omega) (by rw [so_ne (by omega)]; exact hb)
        have ea : p ++ [lo8 x] ++ sfx bits m = p ++ sfx bits (m + 1) := by rw [sfx, List.append_assoc, hx]; rfl
        rw [ea] at e3 e5
        rw [so_eq] at e4
        exact ⟨S', e1, (fr_so (by simp)).trans e2, e3, g3.trans e4, e5⟩
      by_cases h4 : 4 ≤ m
      · rw [if_pos (t4.mpr h4)]
        exact go 0 (by rw [if_pos h4]; rfl)
      · rw [if_neg (fun q => h4 (t4.mp q))]
        exact go _ (by rw [if_neg h4])
theorem bb_pos (wide : Bool) : 0 < bb wide := by cases wide <;> decide
theorem lb_lt (wide : Bool) : lb wide < bb wide := by cases wide <;> decide
theorem Q4_fin_a {i room : Nat} {wide : Bool} {bits : Int32} (X : Cx G F W) (h : isD W) (hB : isB W i room) {xs : List UInt8} {lost : Bool} : ∀ (z k n : Nat) (S : ST) (p : List UInt8), z < n → k + z < 128 → (p.length + z) % bb wide = bb wide - lb wide → (∀ j, j < z → (p.length + j) % bb wide ≠ bb wide - lb wide) → DG (S 4 0) wide p → p.length + z < 2 ^ 25 → Byt room (S 0 i) xs lost → ∃ S', B_X4_finish_33 G F n (W.ad (.o 4 0)) (W.ad (.o 0 i)) bits (Int32.ofNat (lb wide)) (Int32.ofNat k) (mem W S) = some (mem W S') ∧ fr [(4, 0), (0, i)] S S' ∧ DG (S' 4 0) wide (p ++ List.replicate z 0 ++ sfx bits (lb wide)) ∧ agD (S 4 0) (S' 4 0) ∧ Byt room (S' 0 i) (tkl room xs (cat (shaW wide (p ++ List.replicate z 0 ++ sfx bits (lb wide))) 8 0)) (lsl room xs (cat (shaW wide (p ++ List.replicate z 0 ++ sfx bits (lb wide))) 8 0) lost) := by
  have hbl := lb_lt wide
  have hb128 : bb wide ≤ 128 := by cases wide <;> decide
  have hlb16 : lb wide ≤ 16 := by cases wide <;> decide
  have hbp := bb_pos wide
  intro z
  induction z with
  | zero =>
    intro k n S p hn hk hz hne hd hl hb
    cases n with
    | zero => omega
    | succ n =>
      rw [B_X4_finish_33, if_neg (by rw [lit 128]; exact fun q => absurd ((n_le (by omega) (by omega)).mp q) (by omega)), gfI_m h.1 rfl, bO_s, gfI_m h.1 rfl, bO_s, hd.2.1, hd.2.2.1, n_sub (by omega), if_pos (by rw [← hz, Nat.add_zero])]
      obtain ⟨S', e⟩ := Q4_fin_b (bits := bits) X h hB (lb wide) F S p (by have := X.hF; omega) (by omega) hd (by omega) hb
      rw [List.replicate_zero, List.append_nil]
      exact ⟨S', e⟩
  | succ z ih =>
    intro k n S p hn hk hz hne hd hl hb
    cases n with
    | zero => omega
    | succ n =>
      have hml : p.length % bb wide < bb wide := Nat.mod_lt _ hbp
      rw [B_X4_finish_33, if_neg (by rw [lit 128]; exact fun q => absurd ((n_le (by omega) (by omega)).mp q) (by omega)), gfI_m h.1 rfl, bO_s, gfI_m h.1 rfl, bO_s, hd.2.1, hd.2.2.1, n_sub (by omega), if_neg (fun q => hne 0 (by omega) (by rw [Nat.add_zero]; exact (n_eq (by omega) (by omega)).mp q)), rcv_m h.1, bO_s]
      obtain ⟨o, g1, g2, g3⟩ := Q4_addZ X h hd (by omega)
      rw [g1, bO_s, n_addL k 1]
      obtain ⟨S', e1, e2, e3, e4, e5⟩ := ih (k + 1) n (S.so 4 0 o) (p ++ [0]) (by omega) (by omega) (by rw [← hz]; simp; congr 1; omega) (fun j hj => by have := hne (j + 1) (by omega); rw [show p.length + (j + 1) = (p ++ [(0 : UInt8)]).length + j by simp; omega] at this; exact this) (by rw [so_eq]; exact g2) (by simp; omega) (by rw [so_ne (by omega)]; exact hb)
      have ea : p ++ [0] ++ List.replicate z 0 ++ sfx bits (lb wide) = p ++ List.replicate (z + 1) 0 ++ sfx bits (lb wide) := by
        rw [List.append_assoc p, List.replicate_succ]; rfl
      rw [ea] at e3 e5
      rw [so_eq] at e4
      exact ⟨S', e1, (fr_so (by simp)).trans e2, e3, g3.trans e4, e5⟩
theorem padZ_ok (wide : Bool) (n : Nat) : (n + 1 + padZ wide n) % bb wide = bb wide - lb wide ∧ (∀ j, j < padZ wide n → (n + 1 + j) % bb wide ≠ bb wide - lb wide) ∧ padZ wide n < bb wide := by
  unfold padZ
  cases wide <;> simp only [bb, lb] <;> simp only [Bool.false_eq_true, if_false, if_true] <;> (refine ⟨by omega, fun j hj => by omega, by omega⟩)
theorem ushI0 (x : Int32) : ushI x (Int32.ofNat 0) = x := by
  rw [ushI_n (by decide)]
  apply i_ext
  apply BitVec.eq_of_toNat_eq
  rw [bv_of, BitVec.toNat_ofNat, Nat.pow_zero, Nat.div_one]
  exact Nat.mod_eq_of_lt x.toUInt32.toNat_lt
theorem sfx_lenB (wide : Bool) (n : Nat) : sfx (Int32.ofNat (8 * n)) (lb wide) = lenB wide n := by
  have e4 : ∀ b : Int32, sfx b 4 = w4 b := by
    intro b
    show [lo8 (ushI b (Int32.ofNat 24)), lo8 (ushI b (Int32.ofNat 16)), lo8 (ushI b (Int32.ofNat 8)), lo8 (ushI b (Int32.ofNat 0))] = _
    rw [ushI0]
    rfl
  cases wide
  · show 0 :: 0 :: 0 :: 0 :: sfx _ 4 = _
    rw [e4]
    rfl
  · show 0 :: 0 :: 0 :: 0 :: 0 :: 0 :: 0 :: 0 :: 0 :: 0 :: 0 :: 0 :: sfx _ 4 = _
    rw [e4]
    rfl
theorem Q4_finish {S : ST} {i room : Nat} {wide : Bool} {msg xs : List UInt8} {lost : Bool} (X : Cx G F W) (h : isD W) (hB : isB W i room) (hd : DG (S 4 0) wide msg) (hl : msg.length < 2 ^ 20) (hb : Byt room (S 0 i) xs lost) : ∃ S', P_X4_finish G F (W.ad (.o 4 0)) (W.ad (.o 0 i)) (mem W S) = some (mem W S') ∧ fr [(4, 0), (0, i)] S S' ∧ DG (S' 4 0) wide (padF wide msg) ∧ agD (S 4 0) (S' 4 0) ∧ Byt room (S' 0 i) (tkl room xs (sha wide msg)) (lsl room xs (sha wide msg) lost) := by
  obtain ⟨z1, z2, z3⟩ := padZ_ok wide msg.length
  have hb128 : bb wide ≤ 128 := by cases wide <;> decide
  unfold P_X4_finish
  rw [gfI_m h.1 rfl, bO_s, gfI_m h.1 rfl, bO_s, hd.2.2.2.1, hd.1, rcv_m h.1, bO_s, bO_s]
  obtain ⟨o, g1, g2, g3⟩ := Q4_addI (S := S) (x := 128) X h hd (by omega)
  have g1' : P_X4_addByte G F (W.ad (.o 4 0)) 128 (mem W S) = some (mem W (S.so 4 0 o)) := g1
  have g2' : DG o wide (msg ++ [128]) := g2
  rw [g1', bO_s, bO_s, lit 8, n_mul]
  obtain ⟨S', e1, e2, e3, e4, e5⟩ := Q4_fin_a (bits := (Int32.ofNat (8 * msg.length))) X h hB (padZ wide msg.length) 0 F (S.so 4 0 o) (msg ++ [128]) (by have := X.hF; omega) (by omega) (by simpa using z1) (fun j hj => by simpa using z2 j hj) (by rw [so_eq]; exact g2') (by simp; omega) (by rw [so_ne (by omega)]; exact hb)
  rw [sfx_lenB] at e3 e5
  rw [so_eq] at e4
  have fin : (if (if wide = true then (1 : Int32) else 0) = 0 then B_X4_finish_33 G F F (W.ad (.o 4 0)) (W.ad (.o 0 i)) (Int32.ofNat (8 * msg.length)) (Int32.ofNat 8) 0 (mem W (S.so 4 0 o)) else B_X4_finish_33 G F F (W.ad (.o 4 0)) (W.ad (.o 0 i)) (Int32.ofNat (8 * msg.length)) 16 0 (mem W (S.so 4 0 o))) = some (mem W S') := by
    cases wide
    · exact e1
    · exact e1
  exact ⟨S', fin, (fr_so (by simp)).trans e2, e3, g3.trans e4, e5⟩
end DIG2
