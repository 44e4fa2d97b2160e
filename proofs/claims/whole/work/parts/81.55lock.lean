/-! SEALED CONTENT: the class, lock and unlock -/
theorem fillOK_iff (D : List UInt8) : fillOK D = true ↔ (1 ≤ fillOf D ∧ fillOf D ≤ 16 ∧ ∀ j, j < fillOf D → D.getD (D.length - fillOf D + j) 0 = UInt8.ofNat (fillOf D)) := by
  unfold fillOK
  simp only [Bool.and_eq_true, decide_eq_true_eq, List.all_eq_true, List.mem_range, beq_iff_eq]
section LOCK
variable {W : WR} {G : mG} {F : Nat} {ks : Nat → UInt8} {nr : Nat}
theorem Q2_uc_o {r23 : Nat → Nat → Nat → Int32 → Nat → Int32 → mM → Option (Int32 × mM)} {a2 a3 it room at_ : Nat} {l4 : Int32} {s prev : List UInt8} (h : isCo W) (hB : isB W it room) : ∀ (m j n : Nat) (S : ST) (xs : List UInt8) (l : Bool), m < n → j + m = 16 → CL S 2 0 2 s → CL S 2 0 3 prev → Byt room (S 0 it) xs l → ∃ o, B_X2_putUnchained_109 G F r23 n (W.ad (.o 2 0)) a2 a3 l4 (W.ad (.o 0 it)) (Int32.ofNat at_) (Int32.ofNat j) (mem W S) = r23 (W.ad (.o 2 0)) a2 a3 l4 (W.ad (.o 0 it)) (Int32.ofNat (at_ + 16)) (mem W (S.so 0 it o)) ∧ Byt room o (tkl room xs ((m16 fun k => s.getD k 0 ^^^ prev.getD k 0).drop j)) (lsl room xs ((m16 fun k => s.getD k 0 ^^^ prev.getD k 0).drop j) l) := by
  have h2 := h.2.2.2.1
  have h3 := h.2.2.2.2.1
  intro m
  induction m with
  | zero =>
    intro j n S xs l hn hj hs hp hb
    obtain ⟨n, rfl⟩ : ∃ q, n = q + 1 := ⟨n - 1, by omega⟩
    obtain rfl : j = 16 := by omega
    rw [B_X2_putUnchained_109, if_pos (by decide), n_addL _ 16]
    exact ⟨S 0 it, by rw [so_self], by rw [List.drop_of_length_le (by rw [m16_len]; omega), tkl_nil hb.le, lsl_nil hb.le]; exact hb⟩
  | succ m ih =>
    intro j n S xs l hn hj hs hp hb
    obtain ⟨n, rfl⟩ : ∃ q, n = q + 1 := ⟨n - 1, by omega⟩
    rw [B_X2_putUnchained_109, if_neg (by rw [lit 16]; exact fun q => absurd ((n_le (by omega) (by omega)).mp q) (by omega)), h2.g h.1 rfl, bO_s, h2.ld rfl (by omega), bO_s, h3.g h.1 rfl, bO_s, h3.ld rfl (by omega), bO_s, rcv_m hB.lo, bO_s, hs j (by omega), hp j (by omega), gB_D, gB_D, b32_x]
    obtain ⟨o, g1, g2⟩ := Q0_put1 (S := S) (x := b32 (s.getD j 0 ^^^ prev.getD j 0)) (G := G) (F := F) hB hb
    rw [g1, bO_s, n_addL j 1]
    obtain ⟨o2, g3, g4⟩ := ih (j + 1) n (S.so 0 it o) _ _ (by omega) (by omega) (fun t ht => by rw [so_ne (by omega)]; exact hs t ht) (fun t ht => by rw [so_ne (by omega)]; exact hp t ht) (by rw [so_eq]; exact g2)
    rw [so_so] at g3
    have ed : (m16 fun k => s.getD k 0 ^^^ prev.getD k 0).drop j = (s.getD j 0 ^^^ prev.getD j 0) :: (m16 fun k => s.getD k 0 ^^^ prev.getD k 0).drop (j + 1) := by
      rw [List.drop_eq_getElem_cons (by rw [m16_len]; omega)]
      congr 1
      simp [m16]
    rw [tkl_tkl, lsl_lsl, b32_lo] at g4
    rw [ed]
    exact ⟨o2, g3, g4⟩
/-- the last: what fills it -/
theorem Q2_uc_f {it room f : Nat} {D : List UInt8} {l : Bool} {S : ST} (hB : isB W it room) (hb : Byt room (S 0 it) D l) (hD : D.length < 80000) (hf : 1 ≤ f ∧ f ≤ 16) (hfD : f ≤ D.length) : ∀ (m j n : Nat), m < n → j + m = f → (∀ t, t < j → D.getD (D.length - f + t) 0 = UInt8.ofNat f) → ∃ o, B_X2_putUnchained_181 G F n (Int32.ofNat D.length) (W.ad (.o 0 it)) (Int32.ofNat f) (Int32.ofNat (D.length - f + j)) (mem W S) = some (if (∀ t, t < f → D.getD (D.length - f + t) 0 = UInt8.ofNat f) then 1 else 0, mem W (S.so 0 it o)) ∧ ((∀ t, t < f → D.getD (D.length - f + t) 0 = UInt8.ofNat f) → Byt room o (D.take (D.length - f)) l) ∧ ∃ xs l, Byt room o xs l := by
  intro m
  induction m with
  | zero =>
    intro j n hn hj hok
    obtain ⟨n, rfl⟩ : ∃ q, n = q + 1 := ⟨n - 1, by omega⟩
    obtain rfl : j = f := by omega
    rw [B_X2_putUnchained_181, if_pos ((n_le (by omega) (by omega)).mpr (by omega)), rcv_m hB.lo, bO_s, n_sub (by omega)]
    obtain ⟨o, g1, b1⟩ := Q0_cutTo (G := G) (F := F) (S := S) (n := D.length - j) hB hb (by omega)
    rw [g1, bO_s, retZ1, if_pos hok]
    exact ⟨o, rfl, fun _ => b1, _, _, b1⟩
  | succ m ih =>
    intro j n hn hj hok
    obtain ⟨n, rfl⟩ : ∃ q, n = q + 1 := ⟨n - 1, by omega⟩
    have hf32 : (Int32.ofNat f) = b32 (UInt8.ofNat f) := by
      unfold b32
      rw [UInt8.toNat_ofNat', Nat.mod_eq_of_lt (show f < 2 ^ 8 by omega)]
    rw [B_X2_putUnchained_181, if_neg (fun q => absurd ((n_le (by omega) (by omega)).mp q) (by omega)), rcv_m hB.lo, bO_s, Q0_get hB hb (by omega), bP_s, gB_D]
    by_cases hv : D.getD (D.length - f + j) 0 = UInt8.ofNat f
    · rw [if_pos (by rw [hv, hf32]), n_addL _ 1]
      exact ih (j + 1) n (by omega) (by omega) (fun t ht => by
        by_cases e : t = j
        · rw [e]; exact hv
        · exact hok t (by omega))
    · rw [if_neg (by rw [hf32]; exact fun q => hv (b32_inj q)), retZ0, if_neg (fun q => hv (q j (by omega)))]
      exact ⟨S 0 it, by rw [so_self], fun q => absurd (q j (by omega)) hv, D, l, hb⟩
theorem Q2_uc_m {i1 i3 it r1 r3 rt many : Nat} {iv u : List UInt8} {l1 l3 : Bool} (X : Cx G F W) (hc : isCi W) (h : isCo W) (hB1 : isB W i1 r1) (hB3 : isB W i3 r3) (hT : isB W it rt) (n1 : i1 ≠ it) (n3 : i3 ≠ it) (hm : many ≤ u.length) (hu : u.length < 80000) (h16 : many % 16 = 0) : ∀ (m b n : Nat) (S : ST) (xs : List UInt8) (l : Bool), m < n → b + m = many / 16 → KS S ks nr → IB S → Byt r1 (S 0 i1) iv l1 → Byt r3 (S 0 i3) u l3 → Byt rt (S 0 it) xs l → ∃ n' S', B_X2_putUnchained_23 G F n (W.ad (.o 2 0)) (W.ad (.o 0 i1)) (W.ad (.o 0 i3)) (Int32.ofNat many) (W.ad (.o 0 it)) (Int32.ofNat (16 * b)) (mem W S) = B_X2_putUnchained_23 G F (n' + 1) (W.ad (.o 2 0)) (W.ad (.o 0 i1)) (W.ad (.o 0 i3)) (Int32.ofNat many) (W.ad (.o 0 it)) (Int32.ofNat many) (mem W S') ∧ fr [(1, 0), (2, 0), (0, it)] S S' ∧ cA S S' ∧ Byt rt (S' 0 it) (tkl rt xs (ucbc ks nr m (if b = 0 then iv else pad16 ((u.take many).drop (16 * (b - 1)))) ((u.take many).drop (16 * b)))) (lsl rt xs (ucbc ks nr m (if b = 0 then iv else pad16 ((u.take many).drop (16 * (b - 1)))) ((u.take many).drop (16 * b))) l) := by
  have hF := X.hF
  have lo := h.1
  have h2 := h.2.2.2.1
  have h3 := h.2.2.2.2.1
  have htl : (u.take many).length = many := by rw [List.length_take]; omega
  have gat : ∀ j, j < many → gB u j = b32 ((u.take many).getD j 0) := by
    intro j hj
    rw [gB_D, List.getD_eq_getElem?_getD, List.getD_eq_getElem?_getD, List.getElem?_take_of_lt hj]
  intro m
  induction m with
  | zero =>
    intro b n S xs l hn hb hk hI hx1 hx3 ht
    obtain ⟨n, rfl⟩ : ∃ q, n = q + 1 := ⟨n - 1, by omega⟩
    rw [show 16 * b = many by omega]
    exact ⟨n, S, rfl, fr.refl _ _, cA.refl _, by rw [ucbc, tkl_nil ht.le, lsl_nil ht.le]; exact ht⟩
  | succ m ih =>
    intro b n S xs l hn hb hk hI hx1 hx3 ht
    obtain ⟨n, rfl⟩ : ∃ q, n = q + 1 := ⟨n - 1, by omega⟩
    rw [B_X2_putUnchained_23, if_neg (fun q => absurd ((n_le (by omega) (by omega)).mp q) (by omega))]
    obtain ⟨r23, hr23⟩ : ∃ r23, r23 = B_X2_putUnchained_23 G F n := ⟨_, rfl⟩
    rw [← hr23]
    obtain ⟨prev, hprev⟩ : ∃ prev, prev = (if b = 0 then iv else pad16 ((u.take many).drop (16 * (b - 1)))) := ⟨_, rfl⟩
    rw [← hprev]
    obtain ⟨n', S1, e, a1, c1⟩ := loopS (fun n' j S => B_X2_putUnchained_33 G F r23 n' (W.ad (.o 2 0)) (W.ad (.o 0 i1)) (W.ad (.o 0 i3)) (Int32.ofNat many) (W.ad (.o 0 it)) (Int32.ofNat (16 * b)) (Int32.ofNat j) (mem W S)) (fun j S' => arF [(2, 0, 2), (2, 0, 3)] S S' ∧ ∀ t, t < j → (S' 2 0).a 2 t = gB (pad16 ((u.take many).drop (16 * b))) t ∧ (S' 2 0).a 3 t = gB prev t) 16 (by
      intro n1 j S1 hj hI1
      obtain ⟨i1_, i2_⟩ := hI1
      have hb1 : ∀ S', arF [(2, 0, 2), (2, 0, 3)] S S' → Byt r1 (S' 0 i1) iv l1 := fun S' q => by rw [q.ob (c := 0) (i := i1) (by simp)]; exact hx1
      have hb3 : ∀ S', arF [(2, 0, 2), (2, 0, 3)] S S' → Byt r3 (S' 0 i3) u l3 := fun S' q => by rw [q.ob (c := 0) (i := i3) (by simp)]; exact hx3
      obtain ⟨S2, hS2⟩ : ∃ S2, S2 = S1.sa 2 0 2 (upd ((S1 2 0).a 2) j (gB u (16 * b + j))) := ⟨_, rfl⟩
      have a2 : arF [(2, 0, 2), (2, 0, 3)] S S2 := by rw [hS2]; exact i1_.trans (arF_sa (by simp))
      have ev2 : gB u (16 * b + j) = gB (pad16 ((u.take many).drop (16 * b))) j := by
        rw [gat _ (by omega), pad16, m16_g hj, List.getD_eq_getElem?_getD, List.getD_eq_getElem?_getD, List.getElem?_drop]
      have fin : ∀ v : Int32, v = gB prev j → ∃ S', (bO (sI (mem W S2) 0 (W.ad (.a 2 0 3)) (Int32.ofNat j) v) fun M88 => B_X2_putUnchained_33 G F r23 n1 (W.ad (.o 2 0)) (W.ad (.o 0 i1)) (W.ad (.o 0 i3)) (Int32.ofNat many) (W.ad (.o 0 it)) (Int32.ofNat (16 * b)) ((Int32.ofNat j) + 1) M88) = B_X2_putUnchained_33 G F r23 n1 (W.ad (.o 2 0)) (W.ad (.o 0 i1)) (W.ad (.o 0 i3)) (Int32.ofNat many) (W.ad (.o 0 it)) (Int32.ofNat (16 * b)) (Int32.ofNat (j + 1)) (mem W S') ∧ arF [(2, 0, 2), (2, 0, 3)] S S' ∧ ∀ t, t < j + 1 → (S' 2 0).a 2 t = gB (pad16 ((u.take many).drop (16 * b))) t ∧ (S' 2 0).a 3 t = gB prev t := by
        intro v hv
        rw [h3.sa rfl hj, bO_s, n_addL j 1]
        refine ⟨_, rfl, a2.trans (arF_sa (by simp)), fun t ht => ?_⟩
        rw [sa_ne (by decide), sa_eq, hS2, sa_eq, sa_ne (by decide)]
        by_cases et : t = j
        · rw [et, upd_eq, upd_eq]
          exact ⟨ev2, hv⟩
        · rw [upd_ne et, upd_ne et]
          exact i2_ t (by omega)
      show ∃ S', B_X2_putUnchained_33 G F r23 (n1 + 1) _ _ _ _ _ _ _ _ = _ ∧ _
      rw [B_X2_putUnchained_33, if_neg (by rw [lit 16]; exact fun q => absurd ((n_le (by omega) (by omega)).mp q) (by omega)), h2.g lo rfl, bO_s, rcv_m hB3.lo, bO_s, n_add, Q0_get hB3 (hb3 S1 i1_) (by omega), bP_s, h2.sa rfl hj, bO_s, ← hS2, h3.g lo rfl, bO_s]
      by_cases hb0 : b = 0
      · rw [if_pos (show (Int32.ofNat (16 * b)) = 0 by rw [hb0]; rfl), rcv_m hB1.lo, bO_s, Q0_get hB1 (hb1 S2 a2) (by omega), bP_s]
        exact fin _ (by rw [hprev, if_pos hb0])
      · rw [if_neg (show ¬ (Int32.ofNat (16 * b)) = 0 by rw [z32]; exact fun q => hb0 (by have := (n_eq (by omega) (by omega)).mp q; omega)), rcv_m hB3.lo, bO_s, n_subL 16 (by omega), n_add, Q0_get hB3 (hb3 S2 a2) (by omega), bP_s]
        refine fin _ ?_
        rw [hprev, if_neg hb0, gat _ (by omega), pad16, m16_g hj, List.getD_eq_getElem?_getD, List.getD_eq_getElem?_getD, List.getElem?_drop, show 16 * b - 16 + j = 16 * (b - 1) + j by omega]) 16 0 F S (by omega) rfl ⟨arF.refl _ _, fun t ht => absurd ht (Nat.not_lt_zero _)⟩
    have e' : B_X2_putUnchained_33 G F r23 F (W.ad (.o 2 0)) (W.ad (.o 0 i1)) (W.ad (.o 0 i3)) (Int32.ofNat many) (W.ad (.o 0 it)) (Int32.ofNat (16 * b)) 0 (mem W S) = B_X2_putUnchained_33 G F r23 (n' + 1) (W.ad (.o 2 0)) (W.ad (.o 0 i1)) (W.ad (.o 0 i3)) (Int32.ofNat many) (W.ad (.o 0 it)) (Int32.ofNat (16 * b)) 16 (mem W S1) := e
    have ca1 : cA S S1 := cA_ar a1 (by decide)
    obtain ⟨S2, g2, a2, c2⟩ := Q1_backward (S := S1) X hc (aB2 h) (KS_ag ca1 hk) (IB_ag ca1 hI) (fun t htt => (c1 t htt).1)
    have ca2 : cA S1 S2 := cA_ar a2 (by decide)
    have p2 : CL S2 2 0 3 prev := fun t htt => by rw [a2.1 2 0 3 (by decide)]; exact (c1 t htt).2
    have o2 : ∀ j, S2 0 j = S 0 j := fun j => by rw [a2.ob (c := 0) (i := j) (by simp), a1.ob (c := 0) (i := j) (by simp)]
    rw [e', B_X2_putUnchained_33, if_pos (by decide), gfR_m lo rfl h.2.2.1, bO_s, h2.g lo rfl, bO_s, rcv_m hc.1, bO_s, g2, bO_s]
    obtain ⟨o3, g3, b3⟩ := Q2_uc_o (G := G) (F := F) (r23 := r23) (a2 := W.ad (.o 0 i1)) (a3 := W.ad (.o 0 i3)) (at_ := 16 * b) (l4 := (Int32.ofNat many)) h hT 16 0 F S2 xs l (by omega) rfl c2 p2 (by rw [o2]; exact ht)
    have g3' : B_X2_putUnchained_109 G F r23 F (W.ad (.o 2 0)) (W.ad (.o 0 i1)) (W.ad (.o 0 i3)) (Int32.ofNat many) (W.ad (.o 0 it)) (Int32.ofNat (16 * b)) 0 (mem W S2) = _ := g3
    rw [List.drop_zero] at b3
    have ca3 : cA S (S2.so 0 it o3) := by
      show agr [] [] [3] [] (S 1 0) ((S2.so 0 it o3) 1 0)
      rw [so_ne (by omega)]
      exact ca1.trans ca2
    rw [g3', hr23, show 16 * b + 16 = 16 * (b + 1) by omega]
    obtain ⟨n4, S4, g4, f4, ca4, b4⟩ := ih (b + 1) n (S2.so 0 it o3) _ _ (by omega) (by omega) (KS_ag ca3 hk) (IB_ag ca3 hI) (by rw [so_ne (by omega), o2]; exact hx1) (by rw [so_ne (by omega), o2]; exact hx3) (by rw [so_eq]; exact b3)
    rw [tkl_tkl, lsl_lsl, if_neg (by omega), Nat.add_sub_cancel] at b4
    refine ⟨n4, S4, g4, (((a1.fr (by simp)).trans (a2.fr (by simp))).trans (fr_so (by simp))).trans f4, ca3.trans ca4, ?_⟩
    rw [ucbc, List.drop_drop]
    exact b4
theorem Q2_putUnchained {S : ST} {ik i1 i3 it rk r1 r3 rt many : Nat} {key iv u : List UInt8} {lk l1 l3 : Bool} (X : Cx G F W) (hc : isCi W) (h : isCo W) (hK : isB W ik rk) (hB1 : isB W i1 r1) (hB3 : isB W i3 r3) (hT : isB W it rt) (n1 : i1 ≠ it) (n3 : i3 ≠ it) (hm : many ≤ u.length) (hu : u.length < 80000) (h16 : many % 16 = 0) (h0 : 0 < many) (hrt : many ≤ rt) (hkl : key.length = 32 ∨ key.length = 64) (hI : IB S) (bk : Byt rk (S 0 ik) key lk) (b1 : Byt r1 (S 0 i1) iv l1) (b3 : Byt r3 (S 0 i3) u l3) (bt : Byt rt (S 0 it) [] false) : ∃ S', P_X2_putUnchained G F (W.ad (.o 2 0)) (W.ad (.o 0 ik)) (W.ad (.o 0 i1)) (W.ad (.o 0 i3)) (Int32.ofNat many) (W.ad (.o 0 it)) (mem W S) = some (if (unpadF (ucbc (ksF (key.length / 2 / 4) (key.drop (key.length / 2))) (key.length / 2 / 4 + 6) (many / 16) iv (u.take many))).isSome then 1 else 0, mem W S') ∧ fr [(1, 0), (2, 0), (0, it)] S S' ∧ agr [2] [] [1, 3] [] (S 1 0) (S' 1 0) ∧ (∃ xs l, Byt rt (S' 0 it) xs l) ∧ ∀ v, unpadF (ucbc (ksF (key.length / 2 / 4) (key.drop (key.length / 2))) (key.length / 2 / 4 + 6) (many / 16) iv (u.take many)) = some v → Byt rt (S' 0 it) v false := by
  have hF := X.hF
  have lo := h.1
  unfold P_X2_putUnchained
  obtain ⟨o1, g1, a1, k1⟩ := Q1_become (S := S) (p := key.length / 2) (n := key.length / 2) X hc hK bk (by omega) (by omega) (by omega)
  rw [List.take_of_length_le (by rw [List.length_drop]; omega)] at k1
  have d2 : (Int32.ofNat key.length) / (2 : Int32) = (Int32.ofNat (key.length / 2)) := n_div (b := 2) (by omega) (by decide)
  rw [gfR_m lo rfl h.2.2.1, bO_s, hK.gI 1 rfl, bO_s, bO_s, bk.many, d2, rcv_m hc.1, bO_s, g1, bO_s]
  have hI1 : IB (S.so 1 0 o1) := fun x => by rw [so_eq, a1.2.2.1 0 (by decide)]; exact hI x
  obtain ⟨n', S2, g2, f2, ca2, b2⟩ := Q2_uc_m (many := many) X hc h hB1 hB3 hT n1 n3 hm hu h16 (many / 16) 0 F (S.so 1 0 o1) [] false (by omega) (by omega) k1 hI1 (by rw [so_ne (by omega)]; exact b1) (by rw [so_ne (by omega)]; exact b3) (by rw [so_ne (by omega)]; exact bt)
  rw [Nat.mul_zero] at g2
  rw [Nat.mul_zero, List.drop_zero, if_pos rfl] at b2
  obtain ⟨D, hD⟩ : ∃ D, D = ucbc (ksF (key.length / 2 / 4) (key.drop (key.length / 2))) (key.length / 2 / 4 + 6) (many / 16) iv (u.take many) := ⟨_, rfl⟩
  rw [← hD] at b2 ⊢
  have lD : D.length = many := by rw [hD, ucbc_len]; omega
  rw [tkl_fit (by simp; omega), lsl_fit (by simp; omega), List.nil_append] at b2
  have f12 : fr [(1, 0), (2, 0), (0, it)] S S2 := (fr_so (by simp)).trans f2
  have ag2 : agr [2] [] [1, 3] [] (S 1 0) (S2 1 0) := by
    have := ca2
    unfold cA at this
    rw [so_eq] at this
    exact (a1.mono (by decide) (by decide) (by decide) (by decide)).trans (this.mono (by decide) (by decide) (by decide) (by decide))
  have g2' : B_X2_putUnchained_23 G F F (W.ad (.o 2 0)) (W.ad (.o 0 i1)) (W.ad (.o 0 i3)) (Int32.ofNat many) (W.ad (.o 0 it)) 0 (mem W (S.so 1 0 o1)) = _ := g2
  have hfb : (D.getD (D.length - 1) 0).toNat < 256 := UInt8.toNat_lt _
  have ef : gB D (many - 1) = (Int32.ofNat (fillOf D)) := by
    rw [gB_D, fillOf, lD]
    rfl
  rw [g2', B_X2_putUnchained_23, if_pos ((n_le (by omega) (by omega)).mpr (Nat.le_refl _)), rcv_m hT.lo, bO_s, n_subL 1 (by omega), Q0_get hT b2 (by omega), bP_s, ef]
  have hf256 : fillOf D < 256 := hfb
  by_cases c1 : fillOf D < 1
  · rw [if_pos (by rw [lit 1]; exact (n_lt (by omega) (by omega)).mpr c1), retZ0]
    have hno : fillOK D = false := by
      cases q : fillOK D
      · rfl
      · exact absurd ((fillOK_iff D).mp q).1 (by omega)
    unfold unpadF
    rw [hno]
    exact ⟨S2, rfl, f12, ag2, ⟨D, false, b2⟩, fun v q => absurd q (by simp)⟩
  · rw [if_neg (by rw [lit 1]; exact fun q => c1 ((n_lt (by omega) (by omega)).mp q))]
    by_cases c2 : fillOf D ≤ 16
    · rw [if_pos (by rw [lit 16]; exact (n_le (by omega) (by omega)).mpr c2), n_sub (by omega)]
      obtain ⟨o3, g3, b3', q3⟩ := Q2_uc_f (G := G) (F := F) (S := S2) (f := fillOf D) hT b2 (by omega) ⟨by omega, c2⟩ (by omega) (fillOf D) 0 F (by omega) (by omega) (fun t ht => absurd ht (Nat.not_lt_zero _))
      rw [Nat.add_zero, lD] at g3
      rw [g3]
      refine ⟨S2.so 0 it o3, ?_, f12.trans (fr_so (by simp)), by rw [so_ne (by omega)]; exact ag2, by rw [so_eq]; exact q3, ?_⟩
      · congr 2
        unfold unpadF
        by_cases hq : ∀ t, t < fillOf D → D.getD (many - fillOf D + t) 0 = UInt8.ofNat (fillOf D)
        · rw [if_pos hq, if_pos ((fillOK_iff D).mpr ⟨by omega, c2, by rw [lD]; exact hq⟩)]
          rfl
        · have hno : fillOK D = false := by
            cases z : fillOK D
            · rfl
            · exact absurd (by have := ((fillOK_iff D).mp z).2.2; rw [lD] at this; exact this) hq
          rw [if_neg hq, hno]
          rfl
      · intro v hv
        unfold unpadF at hv
        by_cases hq : fillOK D = true
        · rw [if_pos hq] at hv
          rw [so_eq, ← Option.some.inj hv]
          exact b3' ((fillOK_iff D).mp hq).2.2
        · rw [if_neg hq] at hv
          exact absurd hv (by simp)
    · rw [if_neg (by rw [lit 16]; exact fun q => c2 ((n_le (by omega) (by omega)).mp q)), retZ0]
      have hno : fillOK D = false := by
        cases q : fillOK D
        · rfl
        · exact absurd ((fillOK_iff D).mp q).2.1 (by omega)
      unfold unpadF
      rw [hno]
      exact ⟨S2, rfl, f12, ag2, ⟨D, false, b2⟩, fun v q => absurd q (by simp)⟩
end LOCK
