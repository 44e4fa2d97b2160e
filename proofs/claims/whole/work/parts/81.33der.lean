/-! derive -/
def dmsg (k : Nat) (z nm u v : List UInt8) (many : Nat) : List UInt8 := (((((((w4 (Int32.ofNat k) ++ z) ++ w4 (Int32.ofNat nm.length)) ++ nm) ++ w4 (Int32.ofNat u.length)) ++ u) ++ w4 (Int32.ofNat v.length)) ++ v) ++ w4 (Int32.ofNat (8 * many))
def derF (z nm u v : List UInt8) (many : Nat) : List UInt8 := (sha false (dmsg 1 z nm u v many) ++ sha false (dmsg 2 z nm u v many)).take many
theorem derF_len {z nm u v : List UInt8} {many : Nat} (h : many ≤ 64) : (derF z nm u v many).length = many := by
  unfold derF
  rw [List.length_take, List.length_append, sha_len, sha_len]
  simp
  omega
theorem dmsg_len (k : Nat) (z nm u v : List UInt8) (many : Nat) : (dmsg k z nm u v many).length = z.length + nm.length + u.length + v.length + 20 := by
  simp [dmsg, w4_len]
  omega
section DER
variable {W : WR} {G : mG} {F : Nat}
/-- one whole Bytes is added -/
theorem Q4_addAll {S : ST} {o0 : Ob} {i room : Nat} {xs msg : List UInt8} {lost wide : Bool} (X : Cx G F W) (h : isD W) (hB : isB W i room) (hb : Byt room (S 0 i) xs lost) (hs2 : xs.length < 90000) (hd : DG o0 wide msg) (hl : msg.length < 2 ^ 26) : ∃ o, P_X4_add G F (W.ad (.o 4 0)) (W.ad (.o 0 i)) 0 (Int32.ofNat xs.length) (mem W (S.so 4 0 o0)) = some (mem W (S.so 4 0 o)) ∧ DG o wide (msg ++ xs) ∧ agD o0 o := by
  obtain ⟨o, g1, g2, g3⟩ := Q4_add (S := S.so 4 0 o0) (k := 0) (stop := xs.length) (xs := xs) X h hB (by omega) (by omega) hs2 (by rw [so_ne (by omega)]; exact hb) (by rw [so_eq]; exact hd) hl
  rw [so_so] at g1
  rw [so_eq] at g3
  rw [List.drop_zero, Nat.sub_zero, List.take_length] at g2
  exact ⟨o, g1, g2, g3⟩
theorem Q4_addWord' {S : ST} {o0 : Ob} {x : Int32} {wide : Bool} {msg : List UInt8} (X : Cx G F W) (h : isD W) (hg : DG o0 wide msg) (hl : msg.length < 2 ^ 26) : ∃ o, P_X4_addWord G F (W.ad (.o 4 0)) x (mem W (S.so 4 0 o0)) = some (mem W (S.so 4 0 o)) ∧ DG o wide (msg ++ w4 x) ∧ agD o0 o := by
  obtain ⟨o, g1, g2, g3⟩ := Q4_addWord (S := S.so 4 0 o0) (x := x) X h (by rw [so_eq]; exact hg) hl
  rw [so_so] at g1
  rw [so_eq] at g3
  exact ⟨o, g1, g2, g3⟩
theorem Q4_der_r {iz inm iu iv rz rn ru rv many k : Nat} {z nm u v ys : List UInt8} {lz ln lu lv : Bool} {S : ST} {K : mM → Option mM} (X : Cx G F W) (h : isD W) (hZ : isB W iz rz) (hN : isB W inm rn) (hU : isB W iu ru) (hV : isB W iv rv) (bz : Byt rz (S 0 iz) z lz) (bn : Byt rn (S 0 inm) nm ln) (bu : Byt ru (S 0 iu) u lu) (bv : Byt rv (S 0 iv) v lv) (sz : z.length ≤ 22528) (sn : nm.length ≤ 22528) (su : u.length ≤ 22528) (sv : v.length ≤ 22528) (by_ : Byt 64 (S 0 67) ys false) (hy : ys.length + 32 ≤ 64) : ∃ S', (bO (rcv (mem W S) (W.ad (.o 4 0)) 4) fun _ =>
  bO (P_X4_start G F (W.ad (.o 4 0)) (256 : Int32) (mem W S)) fun M32 =>
  bO (rcv M32 (W.ad (.o 4 0)) 4) fun _ =>
  bO (P_X4_addWord G F (W.ad (.o 4 0)) (Int32.ofNat k) M32) fun M38 =>
  bO (gfI M38 (W.ad (.o 0 iz)) 0 1) fun v45 =>
  bO (rcv M38 (W.ad (.o 4 0)) 4) fun _ =>
  bO (P_X4_add G F (W.ad (.o 4 0)) (W.ad (.o 0 iz)) (0 : Int32) v45 M38) fun M48 =>
  bO (gfI M48 (W.ad (.o 0 inm)) 0 1) fun v53 =>
  bO (rcv M48 (W.ad (.o 4 0)) 4) fun _ =>
  bO (P_X4_addWord G F (W.ad (.o 4 0)) v53 M48) fun M56 =>
  bO (gfI M56 (W.ad (.o 0 inm)) 0 1) fun v63 =>
  bO (rcv M56 (W.ad (.o 4 0)) 4) fun _ =>
  bO (P_X4_add G F (W.ad (.o 4 0)) (W.ad (.o 0 inm)) (0 : Int32) v63 M56) fun M66 =>
  bO (gfI M66 (W.ad (.o 0 iu)) 0 1) fun v71 =>
  bO (rcv M66 (W.ad (.o 4 0)) 4) fun _ =>
  bO (P_X4_addWord G F (W.ad (.o 4 0)) v71 M66) fun M74 =>
  bO (gfI M74 (W.ad (.o 0 iu)) 0 1) fun v81 =>
  bO (rcv M74 (W.ad (.o 4 0)) 4) fun _ =>
  bO (P_X4_add G F (W.ad (.o 4 0)) (W.ad (.o 0 iu)) (0 : Int32) v81 M74) fun M84 =>
  bO (gfI M84 (W.ad (.o 0 iv)) 0 1) fun v90 =>
  bO (rcv M84 (W.ad (.o 4 0)) 4) fun _ =>
  bO (P_X4_addWord G F (W.ad (.o 4 0)) v90 M84) fun M93 =>
  bO (gfI M93 (W.ad (.o 0 iv)) 0 1) fun v102 =>
  bO (rcv M93 (W.ad (.o 4 0)) 4) fun _ =>
  bO (P_X4_add G F (W.ad (.o 4 0)) (W.ad (.o 0 iv)) (0 : Int32) v102 M93) fun M105 =>
  bO (rcv M105 (W.ad (.o 4 0)) 4) fun _ =>
  bO (P_X4_addWord G F (W.ad (.o 4 0)) ((8 : Int32) * (Int32.ofNat many)) M105) fun M114 =>
  bO (gfR M114 (W.ad (.o 4 0)) 4 10) fun v119 =>
  bO (rcv M114 (W.ad (.o 4 0)) 4) fun _ =>
  bO (P_X4_finish G F (W.ad (.o 4 0)) v119 M114) K) = K (mem W S') ∧ fr [(4, 0), (0, 67)] S S' ∧ Byt 64 (S' 0 67) (ys ++ sha false (dmsg k z nm u v many)) false := by
  have lo := h.1
  obtain ⟨o1, g1, d1, -⟩ := Q4_start (S := S) (wide := false) X h
  have g1' : P_X4_start G F (W.ad (.o 4 0)) 256 (mem W S) = some (mem W (S.so 4 0 o1)) := g1
  obtain ⟨o2, g2, d2, -⟩ := Q4_addWord' (S := S) (x := (Int32.ofNat k)) X h d1 (by decide)
  obtain ⟨o3, g3, d3, -⟩ := Q4_addAll X h hZ bz (by omega) d2 (by simp [w4_len])
  obtain ⟨o4, g4, d4, -⟩ := Q4_addWord' (S := S) (x := (Int32.ofNat nm.length)) X h d3 (by simp [w4_len]; omega)
  obtain ⟨o5, g5, d5, -⟩ := Q4_addAll X h hN bn (by omega) d4 (by simp [w4_len]; omega)
  obtain ⟨o6, g6, d6, -⟩ := Q4_addWord' (S := S) (x := (Int32.ofNat u.length)) X h d5 (by simp [w4_len]; omega)
  obtain ⟨o7, g7, d7, -⟩ := Q4_addAll X h hU bu (by omega) d6 (by simp [w4_len]; omega)
  obtain ⟨o8, g8, d8, -⟩ := Q4_addWord' (S := S) (x := (Int32.ofNat v.length)) X h d7 (by simp [w4_len]; omega)
  obtain ⟨o9, g9, d9, -⟩ := Q4_addAll X h hV bv (by omega) d8 (by simp [w4_len]; omega)
  obtain ⟨oa, ga, da, -⟩ := Q4_addWord' (S := S) (x := (Int32.ofNat (8 * many))) X h d9 (by simp [w4_len]; omega)
  rw [List.nil_append] at da
  have dl := dmsg_len k z nm u v many
  obtain ⟨S', gb, fb, -, -, bb_⟩ := Q4_finish (S := S.so 4 0 oa) (i := 67) (msg := dmsg k z nm u v many) (xs := ys) (lost := false) X h h.in.2 (by rw [so_eq]; exact da) (by omega) (by rw [so_ne (by omega)]; exact by_)
  have hs32 : (sha false (dmsg k z nm u v many)).length = 32 := sha_len _ _
  rw [tkl_fit (by omega), lsl_fit (by omega)] at bb_
  have gi : ∀ (o : Ob) (i room : Nat) (xs : List UInt8) (l : Bool), isB W i room → Byt room (S 0 i) xs l → gfI (mem W (S.so 4 0 o)) (W.ad (.o 0 i)) 0 1 = some (Int32.ofNat xs.length) := by
    intro o i room xs l hB hb
    rw [hB.gI 1 rfl, so_ne (by omega), hb.many]
  rw [rcv_m lo, bO_s, g1', bO_s, rcv_m lo, bO_s, g2, bO_s, gi _ _ _ _ _ hZ bz, bO_s, rcv_m lo, bO_s, g3, bO_s, gi _ _ _ _ _ hN bn, bO_s, rcv_m lo, bO_s, g4, bO_s, gi _ _ _ _ _ hN bn, bO_s, rcv_m lo, bO_s, g5, bO_s, gi _ _ _ _ _ hU bu, bO_s, rcv_m lo, bO_s, g6, bO_s, gi _ _ _ _ _ hU bu, bO_s, rcv_m lo, bO_s, g7, bO_s, gi _ _ _ _ _ hV bv, bO_s, rcv_m lo, bO_s, g8, bO_s, gi _ _ _ _ _ hV bv, bO_s, rcv_m lo, bO_s, g9, bO_s, rcv_m lo, bO_s, show (8 : Int32) * (Int32.ofNat many) = (Int32.ofNat (8 * many)) from n_mul 8 many, ga, bO_s, gfR_m lo rfl h.in.1, bO_s, rcv_m lo, bO_s, gb, bO_s]
  exact ⟨S', rfl, (fr_so (by simp)).trans fb, bb_⟩
/-- the end: the first many of them -/
theorem Q4_der_e {it rt many : Nat} {ys t : List UInt8} {lt : Bool} {S : ST} (h : isD W) (hT : isB W it rt) (ht : it ≠ 67) (bt : Byt rt (S 0 it) t lt) (by_ : Byt 64 (S 0 67) ys false) (hm : many ≤ 64) (hr : many ≤ rt) : ∃ S', (bO (gfR (mem W S) (W.ad (.o 4 0)) 4 10) fun v132 =>
  bO (rcv (mem W S) v132 0) fun _ =>
  bO (P_X0_cutTo G F v132 (Int32.ofNat many) (mem W S)) fun M137 =>
  bO (gfR M137 (W.ad (.o 4 0)) 4 10) fun v143 =>
  bO (rcv M137 (W.ad (.o 0 it)) 0) fun _ =>
  bO (P_X0_become G F (W.ad (.o 0 it)) v143 M137) fun M146 =>
  some M146) = some (mem W S') ∧ fr [(4, 0), (0, 67), (0, it)] S S' ∧ Byt rt (S' 0 it) (ys.take many) false ∧ ∃ ys l, Byt 64 (S' 0 67) ys l := by
  obtain ⟨o1, g1, b1⟩ := Q0_cutTo (G := G) (F := F) (S := S) (n := many) h.in.2 by_ (by omega)
  obtain ⟨o2, g2, b2⟩ := Q0_become (G := G) (F := F) (S := S.so 0 67 o1) hT (by rw [so_ne (by omega)]; exact bt) h.in.2 (by rw [so_eq]; exact b1) (fun q => ht q.symm)
  have hl : (ys.take many).length ≤ many := by rw [List.length_take]; omega
  rw [tkl_fit (by simp; omega), lsl_fit (by simp; omega), List.nil_append] at b2
  rw [gfR_m h.1 rfl h.in.1, bO_s, rcv_m h.in.2.lo, bO_s, g1, bO_s, gfR_m h.1 rfl h.in.1, bO_s, rcv_m hT.lo, bO_s, g2, bO_s]
  exact ⟨_, rfl, (fr_so (by simp)).trans (fr_so (by simp)), by rw [so_eq]; exact b2, _, _, by rw [so_ne (by omega), so_eq]; exact b1⟩
theorem Q4_putDerived {iz inm iu iv it rz rn ru rv rt many : Nat} {z nm u v t w : List UInt8} {lz ln lu lv lt lw : Bool} {S : ST} (X : Cx G F W) (h : isD W) (hZ : isB W iz rz) (hN : isB W inm rn) (hU : isB W iu ru) (hV : isB W iv rv) (hT : isB W it rt) (nz : iz ≠ 67) (nn_ : inm ≠ 67) (nu : iu ≠ 67) (nv : iv ≠ 67) (nt : it ≠ 67) (bz : Byt rz (S 0 iz) z lz) (bn : Byt rn (S 0 inm) nm ln) (bu : Byt ru (S 0 iu) u lu) (bv : Byt rv (S 0 iv) v lv) (bt : Byt rt (S 0 it) t lt) (bw : Byt 64 (S 0 67) w lw) (sz : z.length ≤ 22528) (sn : nm.length ≤ 22528) (su : u.length ≤ 22528) (sv : v.length ≤ 22528) (hm : many = 16 ∨ many = 32 ∨ many = 64) (hr : many ≤ rt) : ∃ S', P_X4_putDerived G F (W.ad (.o 4 0)) (W.ad (.o 0 iz)) (W.ad (.o 0 inm)) (W.ad (.o 0 iu)) (W.ad (.o 0 iv)) (Int32.ofNat many) (W.ad (.o 0 it)) (mem W S) = some (mem W S') ∧ fr [(4, 0), (0, 67), (0, it)] S S' ∧ Byt rt (S' 0 it) (derF z nm u v many) false ∧ ∃ ys l, Byt 64 (S' 0 67) ys l := by
  have hF := X.hF
  have hm64 : many ≤ 64 := by omega
  obtain ⟨n, hn⟩ : ∃ n, F = n + 3 := ⟨F - 3, by omega⟩
  unfold P_X4_putDerived
  obtain ⟨o0, g0, b0⟩ := Q0_clear (G := G) (F := F) (S := S) h.in.2 bw
  rw [gfR_m h.1 rfl h.in.1, bO_s, rcv_m h.in.2.lo, bO_s, g0, bO_s]
  have e0 : B_X4_putDerived_10 G F F = B_X4_putDerived_10 G F (n + 3) := by rw [← hn]
  rw [e0, B_X4_putDerived_10, if_neg (by decide), gfR_m h.1 rfl h.in.1, bO_s, h.in.2.gI 1 rfl, bO_s, so_eq, b0.many, if_neg (by rcases hm with rfl | rfl | rfl <;> decide)]
  obtain ⟨S1, g1, f1, b1⟩ := Q4_der_r (S := S.so 0 67 o0) (k := 1) (ys := []) (many := many) (K := fun M122 => B_X4_putDerived_10 G F (n + 2) (W.ad (.o 4 0)) (W.ad (.o 0 iz)) (W.ad (.o 0 inm)) (W.ad (.o 0 iu)) (W.ad (.o 0 iv)) (Int32.ofNat many) (W.ad (.o 0 it)) (1 + 1) M122) X h hZ hN hU hV (by rw [so_ne (by omega)]; exact bz) (by rw [so_ne (by omega)]; exact bn) (by rw [so_ne (by omega)]; exact bu) (by rw [so_ne (by omega)]; exact bv) sz sn su sv (by rw [so_eq]; exact b0) (by decide)
  rw [List.nil_append] at b1
  have f1' : ∀ i, i ≠ 67 → S1 0 i = S 0 i := fun i hi => by rw [f1 0 i (by simp [hi]), so_ne (by omega)]
  have fr1 : fr [(4, 0), (0, 67), (0, it)] S S1 := (fr_so (by simp)).trans (f1.mono (by simp))
  suffices hh : ∃ S', B_X4_putDerived_10 G F (n + 1 + 1) (W.ad (.o 4 0)) (W.ad (.o 0 iz)) (W.ad (.o 0 inm)) (W.ad (.o 0 iu)) (W.ad (.o 0 iv)) (Int32.ofNat many) (W.ad (.o 0 it)) (1 + 1) (mem W S1) = some (mem W S') ∧ fr [(4, 0), (0, 67), (0, it)] S S' ∧ Byt rt (S' 0 it) (derF z nm u v many) false ∧ ∃ ys l, Byt 64 (S' 0 67) ys l by
    obtain ⟨S', q1, q2⟩ := hh
    exact ⟨S', g1.trans q1, q2⟩
  have l32 : (sha false (dmsg 1 z nm u v many)).length = 32 := sha_len _ _
  have l32' : (sha false (dmsg 2 z nm u v many)).length = 32 := sha_len _ _
  rw [B_X4_putDerived_10, if_neg (by decide), gfR_m h.1 rfl h.in.1, bO_s, h.in.2.gI 1 rfl, bO_s, b1.many, l32]
  by_cases hc : many ≤ 32
  · rw [if_pos ((n_le (by omega) (by omega)).mpr hc), bO_s]
    obtain ⟨S2, g2, f2, b2, c2⟩ := Q4_der_e (G := G) (F := F) (S := S1) (many := many) h hT nt (by rw [f1' it nt]; exact bt) b1 hm64 hr
    rw [gfR_m h.1 rfl h.in.1, bO_s] at g2
    refine ⟨S2, g2, fr1.trans f2, ?_, c2⟩
    have : derF z nm u v many = (sha false (dmsg 1 z nm u v many)).take many := by
      unfold derF
      rw [List.take_append_of_le_length (by omega)]
    rw [this]
    exact b2
  · rw [if_neg (fun q => hc ((n_le (by omega) (by omega)).mp q))]
    obtain ⟨S2, g2, f2, b2⟩ := Q4_der_r (S := S1) (k := 2) (ys := sha false (dmsg 1 z nm u v many)) (many := many) (K := fun M122 => B_X4_putDerived_10 G F (n + 1) (W.ad (.o 4 0)) (W.ad (.o 0 iz)) (W.ad (.o 0 inm)) (W.ad (.o 0 iu)) (W.ad (.o 0 iv)) (Int32.ofNat many) (W.ad (.o 0 it)) (1 + 1 + 1) M122) X h hZ hN hU hV (by rw [f1' _ nz]; exact bz) (by rw [f1' _ nn_]; exact bn) (by rw [f1' _ nu]; exact bu) (by rw [f1' _ nv]; exact bv) sz sn su sv b1 (by omega)
    have f2' : ∀ i, i ≠ 67 → S2 0 i = S 0 i := fun i hi => by rw [f2 0 i (by simp [hi]), f1' i hi]
    suffices hh : ∃ S', B_X4_putDerived_10 G F (n + 1) (W.ad (.o 4 0)) (W.ad (.o 0 iz)) (W.ad (.o 0 inm)) (W.ad (.o 0 iu)) (W.ad (.o 0 iv)) (Int32.ofNat many) (W.ad (.o 0 it)) (1 + 1 + 1) (mem W S2) = some (mem W S') ∧ fr [(4, 0), (0, 67), (0, it)] S S' ∧ Byt rt (S' 0 it) (derF z nm u v many) false ∧ ∃ ys l, Byt 64 (S' 0 67) ys l by
      obtain ⟨S', q1, q2⟩ := hh
      exact ⟨S', g2.trans q1, q2⟩
    obtain ⟨S3, g3, f3, b3, c3⟩ := Q4_der_e (G := G) (F := F) (S := S2) (many := many) h hT nt (by rw [f2' it nt]; exact bt) b2 hm64 hr
    rw [B_X4_putDerived_10, if_pos (by decide)]
    exact ⟨S3, g3, (fr1.trans (f2.mono (by simp))).trans f3, b3, c3⟩
end DER
