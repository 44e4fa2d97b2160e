/-! SEALED CONTENT CHAINED: the class -/
def padC (u : List UInt8) : List UInt8 := u ++ List.replicate (16 - u.length % 16) (UInt8.ofNat (16 - u.length % 16))
theorem padC_len (u : List UInt8) : (padC u).length = (u.length / 16 + 1) * 16 := by
  unfold padC
  rw [List.length_append, List.length_replicate]
  omega
def cbcE (ks : Nat → UInt8) (nr : Nat) : Nat → List UInt8 → List UInt8 → List UInt8
  | 0, _, _ => []
  | m + 1, prev, xs => fwd ks nr (m16 fun k => prev.getD k 0 ^^^ xs.getD k 0) ++ cbcE ks nr m (fwd ks nr (m16 fun k => prev.getD k 0 ^^^ xs.getD k 0)) (xs.drop 16)
def cbcF (ks : Nat → UInt8) (nr : Nat) (iv u : List UInt8) : List UInt8 := cbcE ks nr (u.length / 16 + 1) iv (padC u)
theorem cbcE_len (ks : Nat → UInt8) (nr : Nat) : ∀ (m : Nat) (prev xs : List UInt8), (cbcE ks nr m prev xs).length = 16 * m := by
  intro m
  induction m with
  | zero => intro _ _; rfl
  | succ m ih => intro prev xs; rw [cbcE, List.length_append, fwd_len, ih]; omega
def ucbc (ks : Nat → UInt8) (nr : Nat) : Nat → List UInt8 → List UInt8 → List UInt8
  | 0, _, _ => []
  | m + 1, prev, xs => (m16 fun k => (bck ks nr (pad16 xs)).getD k 0 ^^^ prev.getD k 0) ++ ucbc ks nr m (pad16 xs) (xs.drop 16)
theorem ucbc_len (ks : Nat → UInt8) (nr : Nat) : ∀ (m : Nat) (prev xs : List UInt8), (ucbc ks nr m prev xs).length = 16 * m := by
  intro m
  induction m with
  | zero => intro _ _; rfl
  | succ m ih => intro prev xs; rw [ucbc, List.length_append, m16_len, ih]; omega
def fillOf (D : List UInt8) : Nat := (D.getD (D.length - 1) 0).toNat
def fillOK (D : List UInt8) : Bool := decide (1 ≤ fillOf D) && (decide (fillOf D ≤ 16) && (List.range (fillOf D)).all fun j => D.getD (D.length - fillOf D + j) 0 == UInt8.ofNat (fillOf D))
def unpadF (D : List UInt8) : Option (List UInt8) := if fillOK D then some (D.take (D.length - fillOf D)) else none
def wayM (way : Nat) : Nat := if way = 1 then 32 else 16
def wayK (way : Nat) : Nat := if way = 0 then 32 else if way = 1 then 64 else if way = 2 then 16 else 32
def cmsg (iv al xs : List UInt8) : List UInt8 := (((al ++ iv) ++ xs) ++ w4 0) ++ w4 (Int32.ofNat (8 * al.length))
def cmarkF (way : Nat) (key iv al xs : List UInt8) : List UInt8 := (hmac (decide (way ≠ 0)) (key.take (key.length / 2)) (cmsg iv al xs)).take (wayM way)
theorem hmac_len (wide : Bool) (key msg : List UInt8) : (hmac wide key msg).length = if wide then 64 else 32 := sha_len _ _
theorem cmarkF_len (way : Nat) (key iv al xs : List UInt8) (hw : way < 2) : (cmarkF way key iv al xs).length = wayM way := by
  unfold cmarkF
  rw [List.length_take, hmac_len]
  unfold wayM
  have : way = 0 ∨ way = 1 := by omega
  rcases this with rfl | rfl <;> decide
theorem way_t7 {W : WR} {G : mG} {F : Nat} {S : ST} {way : Nat} (X : Cx G F W) (hw : way < 4) : aI G (mem W S) 0 (G.1 1007) (Int32.ofNat way) = some (Int32.ofNat (wayM way)) := by
  have hl : (mtI 7).length = 4 := by decide +kernel
  have := tab_at (W := W) (S := S) (t := 7) (j := way) X rfl (by omega) (by omega)
  rw [show (1000 + 7 : Nat) = 1007 from rfl] at this
  rw [this]
  have : way = 0 ∨ way = 1 ∨ way = 2 ∨ way = 3 := by omega
  rcases this with rfl | rfl | rfl | rfl <;> rfl
theorem way_t5 {W : WR} {G : mG} {F : Nat} {S : ST} {way : Nat} (X : Cx G F W) (hw : way < 4) : aI G (mem W S) 0 (G.1 1005) (Int32.ofNat way) = some (Int32.ofNat (wayK way)) := by
  have hl : (mtI 5).length = 4 := by decide +kernel
  have := tab_at (W := W) (S := S) (t := 5) (j := way) X rfl (by omega) (by omega)
  rw [show (1000 + 5 : Nat) = 1005 from rfl] at this
  rw [this]
  have : way = 0 ∨ way = 1 ∨ way = 2 ∨ way = 3 := by omega
  rcases this with rfl | rfl | rfl | rfl <;> rfl
section CBC
variable {W : WR} {G : mG} {F : Nat} {ks : Nat → UInt8} {nr : Nat}
/-- 16 of the block go out -/
theorem Q2_pc_o {r71 : Nat → Nat → Nat → Int32 → Int32 → Int32 → mM → Option mM} {a3 it room at_ : Nat} {l5 l6 : Int32} {s : List UInt8} (h : isCo W) (hB : isB W it room) (hs0 : s.length = 16) : ∀ (m j n : Nat) (S : ST) (xs : List UInt8) (l : Bool), m < n → j + m = 16 → CL S 2 0 2 s → Byt room (S 0 it) xs l → ∃ o, B_X2_putChained_144 G F r71 n (W.ad (.o 2 0)) a3 (W.ad (.o 0 it)) l5 l6 (Int32.ofNat at_) (Int32.ofNat j) (mem W S) = r71 (W.ad (.o 2 0)) a3 (W.ad (.o 0 it)) l5 l6 (Int32.ofNat (at_ + 16)) (mem W (S.so 0 it o)) ∧ Byt room o (tkl room xs (s.drop j)) (lsl room xs (s.drop j) l) := by
  have h2 := h.2.2.2.1
  intro m
  induction m with
  | zero =>
    intro j n S xs l hn hj hs hb
    obtain ⟨n, rfl⟩ : ∃ q, n = q + 1 := ⟨n - 1, by omega⟩
    obtain rfl : j = 16 := by omega
    rw [B_X2_putChained_144, if_pos (by decide), n_addL _ 16]
    exact ⟨S 0 it, by rw [so_self], by rw [List.drop_of_length_le (by omega), tkl_nil hb.le, lsl_nil hb.le]; exact hb⟩
  | succ m ih =>
    intro j n S xs l hn hj hs hb
    obtain ⟨n, rfl⟩ : ∃ q, n = q + 1 := ⟨n - 1, by omega⟩
    have hv : (S 2 0).a 2 j = b32 (s[j]'(by omega)) := by rw [hs j (by omega), gB_lt (by omega)]
    rw [B_X2_putChained_144, if_neg (by rw [lit 16]; exact fun q => absurd ((n_le (by omega) (by omega)).mp q) (by omega)), h2.g h.1 rfl, bO_s, h2.ld rfl (by omega), bO_s, rcv_m hB.lo, bO_s, hv]
    obtain ⟨o, g1, g2⟩ := Q0_put1 (S := S) (x := b32 (s[j]'(by omega))) (G := G) (F := F) hB hb
    rw [g1, bO_s, n_addL j 1]
    obtain ⟨o2, g3, g4⟩ := ih (j + 1) n (S.so 0 it o) _ _ (by omega) (by omega) (fun t ht => by rw [so_ne (by omega)]; exact hs t ht) (by rw [so_eq]; exact g2)
    rw [so_so] at g3
    rw [tkl_tkl, lsl_lsl, b32_lo, show [s[j]'(by omega)] ++ s.drop (j + 1) = s.drop j from (List.drop_eq_getElem_cons (by omega)).symm] at g4
    exact ⟨o2, g3, g4⟩
theorem Q2_pc_m {i3 it r3 rt : Nat} {u : List UInt8} {l3 : Bool} (X : Cx G F W) (hc : isCi W) (h : isCo W) (hB3 : isB W i3 r3) (hT : isB W it rt) (n3 : i3 ≠ it) (hu : u.length < 90000) : ∀ (m b n : Nat) (S : ST) (prev xs : List UInt8) (l : Bool), m < n → b + m = u.length / 16 + 1 → KS S ks nr → Byt r3 (S 0 i3) u l3 → CL S 2 0 2 prev → Byt rt (S 0 it) xs l → ∃ S', B_X2_putChained_71 G F n (W.ad (.o 2 0)) (W.ad (.o 0 i3)) (W.ad (.o 0 it)) (Int32.ofNat ((u.length / 16 + 1) * 16)) (Int32.ofNat ((u.length / 16 + 1) * 16 - u.length)) (Int32.ofNat (16 * b)) (mem W S) = some (mem W S') ∧ fr [(1, 0), (2, 0), (0, it)] S S' ∧ cA S S' ∧ Byt rt (S' 0 it) (tkl rt xs (cbcE ks nr m prev ((padC u).drop (16 * b)))) (lsl rt xs (cbcE ks nr m prev ((padC u).drop (16 * b))) l) := by
  have hF := X.hF
  have lo := h.1
  have h2 := h.2.2.2.1
  have hpl := padC_len u
  have hfl : (u.length / 16 + 1) * 16 - u.length = 16 - u.length % 16 := by omega
  intro m
  induction m with
  | zero =>
    intro b n S prev xs l hn hb hk hx hp ht
    obtain ⟨n, rfl⟩ : ∃ q, n = q + 1 := ⟨n - 1, by omega⟩
    rw [B_X2_putChained_71, if_pos ((n_le (by omega) (by omega)).mpr (by omega))]
    exact ⟨S, rfl, fr.refl _ _, cA.refl _, by rw [cbcE, tkl_nil ht.le, lsl_nil ht.le]; exact ht⟩
  | succ m ih =>
    intro b n S prev xs l hn hb hk hx hp ht
    obtain ⟨n, rfl⟩ : ∃ q, n = q + 1 := ⟨n - 1, by omega⟩
    rw [B_X2_putChained_71, if_neg (fun q => absurd ((n_le (by omega) (by omega)).mp q) (by omega))]
    obtain ⟨r71, hr71⟩ : ∃ r71, r71 = B_X2_putChained_71 G F n := ⟨_, rfl⟩
    rw [← hr71]
    obtain ⟨n', S1, e, a1, c1⟩ := loopS (fun n' j S => B_X2_putChained_81 G F r71 n' (W.ad (.o 2 0)) (W.ad (.o 0 i3)) (W.ad (.o 0 it)) (Int32.ofNat ((u.length / 16 + 1) * 16)) (Int32.ofNat ((u.length / 16 + 1) * 16 - u.length)) (Int32.ofNat (16 * b)) (Int32.ofNat j) (mem W S)) (fun j S' => arF [(2, 0, 2)] S S' ∧ ∀ t, t < 16 → (S' 2 0).a 2 t = if t < j then b32 (prev.getD t 0 ^^^ ((padC u).drop (16 * b)).getD t 0) else b32 (prev.getD t 0)) 16 (by
      intro n1 j S1 hj hI
      obtain ⟨i1, i2⟩ := hI
      have hb1 : Byt r3 (S1 0 i3) u l3 := by rw [i1.ob (c := 0) (i := i3) (by simp)]; exact hx
      have fin : ∀ y : UInt8, y = ((padC u).drop (16 * b)).getD j 0 → ∃ S', (bO (sI (mem W S1) 0 (W.ad (.a 2 0 2)) (Int32.ofNat j) (b32 (prev.getD j 0) ^^^ b32 y)) fun M123 => B_X2_putChained_81 G F r71 n1 (W.ad (.o 2 0)) (W.ad (.o 0 i3)) (W.ad (.o 0 it)) (Int32.ofNat ((u.length / 16 + 1) * 16)) (Int32.ofNat ((u.length / 16 + 1) * 16 - u.length)) (Int32.ofNat (16 * b)) ((Int32.ofNat j) + 1) M123) = B_X2_putChained_81 G F r71 n1 (W.ad (.o 2 0)) (W.ad (.o 0 i3)) (W.ad (.o 0 it)) (Int32.ofNat ((u.length / 16 + 1) * 16)) (Int32.ofNat ((u.length / 16 + 1) * 16 - u.length)) (Int32.ofNat (16 * b)) (Int32.ofNat (j + 1)) (mem W S') ∧ arF [(2, 0, 2)] S S' ∧ ∀ t, t < 16 → (S' 2 0).a 2 t = if t < j + 1 then b32 (prev.getD t 0 ^^^ ((padC u).drop (16 * b)).getD t 0) else b32 (prev.getD t 0) := by
        intro y hy
        rw [h2.sa rfl hj, bO_s, n_addL j 1]
        refine ⟨_, rfl, i1.trans (arF_sa (by simp)), fun t ht => ?_⟩
        rw [sa_eq]
        by_cases et : t = j
        · rw [et, upd_eq, if_pos (by omega), hy, b32_x]
        · rw [upd_ne et, i2 t ht]
          by_cases tj : t < j
          · rw [if_pos tj, if_pos (by omega)]
          · rw [if_neg tj, if_neg (by omega)]
      have ev : (S1 2 0).a 2 j = b32 (prev.getD j 0) := by rw [i2 j hj, if_neg (by omega)]
      show ∃ S', B_X2_putChained_81 G F r71 (n1 + 1) _ _ _ _ _ _ _ _ = _ ∧ _
      rw [B_X2_putChained_81, if_neg (by rw [lit 16]; exact fun q => absurd ((n_le (by omega) (by omega)).mp q) (by omega)), h2.g lo rfl, bO_s, h2.ld rfl hj, bO_s, hB3.gI 1 rfl, bO_s, hb1.many, n_add, ev]
      by_cases hcc : u.length ≤ 16 * b + j
      · rw [if_pos ((n_le (by omega) (by omega)).mpr hcc)]
        have e2 : (Int32.ofNat ((u.length / 16 + 1) * 16 - u.length)) = b32 (UInt8.ofNat (16 - u.length % 16)) := by
          unfold b32
          rw [hfl, UInt8.toNat_ofNat', Nat.mod_eq_of_lt (show 16 - u.length % 16 < 2 ^ 8 by omega)]
        have := fin (UInt8.ofNat (16 - u.length % 16)) (by
          rw [List.getD_eq_getElem?_getD, List.getElem?_drop]
          unfold padC
          rw [List.getElem?_append_right hcc, List.getElem?_replicate, if_pos (by omega)]
          rfl)
        rw [← e2] at this
        exact this
      · rw [if_neg (fun q => hcc ((n_le (by omega) (by omega)).mp q)), rcv_m hB3.lo, bO_s, Q0_get hB3 hb1 (by omega), bP_s, gB_D]
        refine fin _ ?_
        rw [List.getD_eq_getElem?_getD, List.getD_eq_getElem?_getD, List.getElem?_drop]
        unfold padC
        rw [List.getElem?_append_left (by omega)]) 16 0 F S (by omega) rfl ⟨arF.refl _ _, fun t htt => by rw [if_neg (by omega), hp t htt, gB_D]⟩
    have e' : B_X2_putChained_81 G F r71 F (W.ad (.o 2 0)) (W.ad (.o 0 i3)) (W.ad (.o 0 it)) (Int32.ofNat ((u.length / 16 + 1) * 16)) (Int32.ofNat ((u.length / 16 + 1) * 16 - u.length)) (Int32.ofNat (16 * b)) 0 (mem W S) = B_X2_putChained_81 G F r71 (n' + 1) (W.ad (.o 2 0)) (W.ad (.o 0 i3)) (W.ad (.o 0 it)) (Int32.ofNat ((u.length / 16 + 1) * 16)) (Int32.ofNat ((u.length / 16 + 1) * 16 - u.length)) (Int32.ofNat (16 * b)) 16 (mem W S1) := e
    have c1' : CL S1 2 0 2 (m16 fun k => prev.getD k 0 ^^^ ((padC u).drop (16 * b)).getD k 0) := fun t htt => by rw [c1 t htt, if_pos htt, m16_g htt]
    have ca1 : cA S S1 := cA_ar a1 (by decide)
    obtain ⟨S2, g2, a2, ca2, c2⟩ := Q2_fwd X hc h (KS_ag ca1 hk) c1'
    obtain ⟨C, hC⟩ : ∃ C, C = fwd ks nr (m16 fun k => prev.getD k 0 ^^^ ((padC u).drop (16 * b)).getD k 0) := ⟨_, rfl⟩
    rw [← hC] at c2
    have lC : C.length = 16 := by rw [hC]; exact fwd_len _ _ _
    have o2 : ∀ j, S2 0 j = S 0 j := fun j => by rw [a2.ob (c := 0) (i := j) (by simp), a1.ob (c := 0) (i := j) (by simp)]
    rw [e', B_X2_putChained_81, if_pos (by decide), gfR_m lo rfl h.2.2.1, bO_s, h2.g lo rfl, bO_s, rcv_m hc.1, bO_s, g2, bO_s]
    obtain ⟨o3, g3, b3⟩ := Q2_pc_o (G := G) (F := F) (r71 := r71) (a3 := W.ad (.o 0 i3)) (at_ := 16 * b) (l5 := (Int32.ofNat ((u.length / 16 + 1) * 16))) (l6 := (Int32.ofNat ((u.length / 16 + 1) * 16 - u.length))) h hT lC 16 0 F S2 xs l (by omega) rfl c2 (by rw [o2]; exact ht)
    have g3' : B_X2_putChained_144 G F r71 F (W.ad (.o 2 0)) (W.ad (.o 0 i3)) (W.ad (.o 0 it)) (Int32.ofNat ((u.length / 16 + 1) * 16)) (Int32.ofNat ((u.length / 16 + 1) * 16 - u.length)) (Int32.ofNat (16 * b)) 0 (mem W S2) = _ := g3
    rw [List.drop_zero] at b3
    have ca3 : cA S (S2.so 0 it o3) := by
      show agr [] [] [3] [] (S 1 0) ((S2.so 0 it o3) 1 0)
      rw [so_ne (by omega)]
      exact ca1.trans ca2
    rw [g3', hr71, show 16 * b + 16 = 16 * (b + 1) by omega]
    obtain ⟨S4, g4, f4, ca4, b4⟩ := ih (b + 1) n (S2.so 0 it o3) C _ _ (by omega) (by omega) (KS_ag ca3 hk) (by rw [so_ne (by omega), o2]; exact hx) (fun t htt => by rw [so_ne (by omega)]; exact c2 t htt) (by rw [so_eq]; exact b3)
    rw [tkl_tkl, lsl_lsl] at b4
    refine ⟨S4, g4, (((a1.fr (by simp)).trans (a2.fr (by simp))).trans (fr_so (by simp))).trans f4, ca3.trans ca4, ?_⟩
    rw [cbcE, List.drop_drop, ← hC]
    exact b4
theorem Q2_putChained {S : ST} {ik i1 i3 it rk r1 r3 rt : Nat} {key iv u ts : List UInt8} {lk l1 l3 lt : Bool} (X : Cx G F W) (hc : isCi W) (h : isCo W) (hK : isB W ik rk) (hB1 : isB W i1 r1) (hB3 : isB W i3 r3) (hT : isB W it rt) (n3 : i3 ≠ it) (hu : u.length < 90000) (hkl : key.length = 32 ∨ key.length = 64) (bk : Byt rk (S 0 ik) key lk) (b1 : Byt r1 (S 0 i1) iv l1) (b3 : Byt r3 (S 0 i3) u l3) (bt : Byt rt (S 0 it) ts lt) : ∃ S', P_X2_putChained G F (W.ad (.o 2 0)) (W.ad (.o 0 ik)) (W.ad (.o 0 i1)) (W.ad (.o 0 i3)) (W.ad (.o 0 it)) (mem W S) = some (mem W S') ∧ fr [(1, 0), (2, 0), (0, it)] S S' ∧ agr [2] [] [1, 3] [] (S 1 0) (S' 1 0) ∧ Byt rt (S' 0 it) (tkl rt ts (cbcF (ksF (key.length / 2 / 4) (key.drop (key.length / 2))) (key.length / 2 / 4 + 6) iv u)) (lsl rt ts (cbcF (ksF (key.length / 2 / 4) (key.drop (key.length / 2))) (key.length / 2 / 4 + 6) iv u) lt) := by
  have hF := X.hF
  have lo := h.1
  have h2 := h.2.2.2.1
  unfold P_X2_putChained
  obtain ⟨o1, g1, a1, k1⟩ := Q1_become (S := S) (p := key.length / 2) (n := key.length / 2) X hc hK bk (by omega) (by omega) (by omega)
  rw [List.take_of_length_le (by rw [List.length_drop]; omega)] at k1
  have d2 : (Int32.ofNat key.length) / (2 : Int32) = (Int32.ofNat (key.length / 2)) := n_div (b := 2) (by omega) (by decide)
  have d16 : ((Int32.ofNat u.length) / (16 : Int32) + (1 : Int32)) * (16 : Int32) = (Int32.ofNat ((u.length / 16 + 1) * 16)) := by
    rw [show (Int32.ofNat u.length) / (16 : Int32) = (Int32.ofNat (u.length / 16)) from n_div (b := 16) (by omega) (by decide), n_addL _ 1]
    exact n_mul _ 16
  rw [gfR_m lo rfl h.2.2.1, bO_s, hK.gI 1 rfl, bO_s, bO_s, bk.many, d2, rcv_m hc.1, bO_s, g1, bO_s, hB3.gI 1 rfl, bO_s, so_ne (by omega), b3.many]
  unfold P_X2_sealedBytes
  rw [if_neg (by decide), bP_s, hB3.gI 1 rfl, bO_s, so_ne (by omega), b3.many, d16, n_sub (by omega)]
  obtain ⟨n', S1, e, a2, c2⟩ := loopS (fun n j S => B_X2_putChained_42 G F n (W.ad (.o 2 0)) (W.ad (.o 0 i1)) (W.ad (.o 0 i3)) (W.ad (.o 0 it)) (Int32.ofNat ((u.length / 16 + 1) * 16)) (Int32.ofNat ((u.length / 16 + 1) * 16 - u.length)) (Int32.ofNat j) (mem W S)) (fun j S' => arF [(2, 0, 2)] (S.so 1 0 o1) S' ∧ ∀ t, t < j → (S' 2 0).a 2 t = gB iv t) 16 (by
    intro n j S1 hj hI
    obtain ⟨i1_, i2_⟩ := hI
    have hb1 : Byt r1 (S1 0 i1) iv l1 := by rw [i1_.ob (c := 0) (i := i1) (by simp), so_ne (by omega)]; exact b1
    show ∃ S', B_X2_putChained_42 G F (n + 1) _ _ _ _ _ _ _ _ = _ ∧ _
    rw [B_X2_putChained_42, if_neg (by rw [lit 16]; exact fun q => absurd ((n_le (by omega) (by omega)).mp q) (by omega)), h2.g lo rfl, bO_s, rcv_m hB1.lo, bO_s, Q0_get hB1 hb1 (by omega), bP_s, h2.sa rfl hj, bO_s, n_addL j 1]
    refine ⟨_, rfl, i1_.trans (arF_sa (by simp)), fun t ht => ?_⟩
    rw [sa_eq]
    by_cases et : t = j
    · rw [et, upd_eq]
    · rw [upd_ne et]
      exact i2_ t (by omega)) 16 0 F (S.so 1 0 o1) (by omega) rfl ⟨arF.refl _ _, fun t ht => absurd ht (Nat.not_lt_zero _)⟩
  have e' : B_X2_putChained_42 G F F (W.ad (.o 2 0)) (W.ad (.o 0 i1)) (W.ad (.o 0 i3)) (W.ad (.o 0 it)) (Int32.ofNat ((u.length / 16 + 1) * 16)) (Int32.ofNat ((u.length / 16 + 1) * 16 - u.length)) 0 (mem W (S.so 1 0 o1)) = B_X2_putChained_42 G F (n' + 1) (W.ad (.o 2 0)) (W.ad (.o 0 i1)) (W.ad (.o 0 i3)) (W.ad (.o 0 it)) (Int32.ofNat ((u.length / 16 + 1) * 16)) (Int32.ofNat ((u.length / 16 + 1) * 16 - u.length)) 16 (mem W S1) := e
  have o2 : ∀ j, S1 0 j = S 0 j := fun j => by rw [a2.ob (c := 0) (i := j) (by simp), so_ne (by omega)]
  rw [e', B_X2_putChained_42, if_pos (by decide)]
  obtain ⟨S3, g3, f3, ca3, b3'⟩ := Q2_pc_m (u := u) X hc h hB3 hT n3 hu (u.length / 16 + 1) 0 F S1 iv ts lt (by omega) (by omega) (KS_ar a2 (by decide) k1) (by rw [o2]; exact b3) c2 (by rw [o2]; exact bt)
  rw [Nat.mul_zero] at g3
  rw [Nat.mul_zero, List.drop_zero] at b3'
  refine ⟨S3, g3, ((fr_so (by simp)).trans (a2.fr (by simp))).trans f3, ?_, b3'⟩
  have x2 := a2.ag 1 0 [] (by decide)
  rw [so_eq] at x2
  exact ((a1.mono (by decide) (by decide) (by decide) (by decide)).trans (x2.mono (by decide) (by decide) (by decide) (by decide))).trans (ca3.mono (by decide) (by decide) (by decide) (by decide))
end CBC
