/-! TEXTS OF VALUES: the class's reader begins a value, closes one, reads a name -/
theorem sf_comm {o : Ob} {k k' : Nat} {v w : Int32} (h : k ≠ k') : (o.sf k v).sf k' w = (o.sf k' w).sf k v := by
  refine Ob_ext2 (fun j => ?_) (fun j => rfl)
  show (if j = k' then w else if j = k then v else o.f j) = if j = k then v else if j = k' then w else o.f j
  repeat' split
  all_goals first | rfl | (exfalso; omega)
def lfR (s : List UInt8) (J : JT) (kd p op na nm : Nat) : Nat ⊕ (Nat × JT) := if kd < 3 then sB (wdR s (wdB kd) p) fun q => .inr (q, bgn J kd p op na nm)
    else if kd = 3 then sB (nmS s p (nmR s p)) fun y => .inr (y.2, snm (bgn J 3 p op na nm) J.1 y.1)
    else sB (stR s p) fun y => .inr (y.2, snm (bgn J 4 p op na nm) J.1 y.1)
def o7l (W : WR) (S : ST) (ip t : Nat) (o : Ob) (y : Option (Int32 × mM)) (r : Nat ⊕ (Nat × JT)) : Prop := match r with
  | .inr (q, J') => ∃ x' o' b' : Ob, y = some (1, mem W (R7 (S.so 9 t x') ip (o'.sf 2 (Int32.ofNat q)) b')) ∧ TbC x' J' ∧ Byt 8192 b' J'.2.2 false ∧ o'.f 4 = o.f 4 ∧ o'.f 5 = o.f 5 ∧ o'.f 6 = 5
  | .inl q => ∃ (x' o' b' : Ob) (xs : List UInt8) (l : Bool), y = some (0, mem W (R7 (S.so 9 t x') ip o' b')) ∧ o'.f 3 = (Int32.ofNat q) ∧ Byt 8192 b' xs l
theorem tb7 {x : Ob} {J : JT} {n m : Nat} {pl : List UInt8} (C : TbC x J) : TbC (x.sA 7 (upd (x.a 7) n (Int32.ofNat m))) (J.1, upT J.2.1 7 n m, pl) := by
  refine ⟨C.1, fun i hi => ?_⟩
  have Ci := C.2 i hi
  have mb : mbr (upT J.2.1 7 n m) i → mbr J.2.1 i := by
    rintro ⟨q1, q2⟩
    unfold upT at q1 q2
    simp only [show (1 = 7) = False by decide, show (2 = 7) = False by decide, false_and, if_false] at q1 q2
    exact ⟨q1, q2⟩
  show x.a 1 i = (Int32.ofNat (upT J.2.1 7 n m 1 i)) ∧ x.a 2 i = paI (upT J.2.1 7 n m 2 i) ∧ x.a 3 i = (Int32.ofNat (upT J.2.1 7 n m 3 i)) ∧ x.a 4 i = (Int32.ofNat (upT J.2.1 7 n m 4 i)) ∧ x.a 5 i = (Int32.ofNat (upT J.2.1 7 n m 5 i)) ∧ x.a 6 i = (Int32.ofNat (upT J.2.1 7 n m 6 i)) ∧ (if i = n then (Int32.ofNat m) else x.a 7 i) = (Int32.ofNat (upT J.2.1 7 n m 7 i)) ∧ (mbr (upT J.2.1 7 n m) i → x.a 8 i = (Int32.ofNat (upT J.2.1 7 n m 8 i)) ∧ x.a 9 i = (Int32.ofNat (upT J.2.1 7 n m 9 i)))
  refine ⟨?_, ?_, ?_, ?_, ?_, ?_, ?_, fun q => ⟨?_, ?_⟩⟩
  · exact Ci.1
  · exact Ci.2.1
  · exact Ci.2.2.1
  · exact Ci.2.2.2.1
  · exact Ci.2.2.2.2.1
  · exact Ci.2.2.2.2.2.1
  · unfold upT
    by_cases e : i = n
    · rw [if_pos e, if_pos ⟨rfl, e⟩]
    · rw [if_neg e, if_neg (fun q => e q.2)]
      exact Ci.2.2.2.2.2.2.1
  · exact (Ci.2.2.2.2.2.2.2 (mb q)).1
  · exact (Ci.2.2.2.2.2.2.2 (mb q)).2
section RDC
variable {W : WR} {G : mG} {F : Nat} {S : ST} {is_ ip t rs : Nat} {s : List UInt8} {ls : Bool} {o b x : Ob} {J : JT}
theorem Q7_kind {p : Nat} {M : mM} : P_X7_kindBegunBy G F (pB s p) M = some (if kdB (cd s p) = 7 then -1 else (Int32.ofNat (kdB (cd s p))), M) := by
  unfold P_X7_kindBegunBy kdB
  simp only [pe34, pe91, pe102, pe110, pe116, pe123, pe45, pl48, pg57]
  repeat' split
  all_goals first | rfl | (exfalso; omega)
theorem hs9 (hs : Byt rs (S 0 is_) s ls) : Byt rs ((S.so 9 t x) 0 is_) s ls := by rw [so_ne (by omega)]; exact hs
theorem Q7_b46 {kd p op na nm : Nat} (K : isRd W is_ ip t rs) (C : TbC x J) (Y : JX J) (hn : J.1 < 600) (ho : op ≤ J.1) (hb : Byt 8192 b J.2.2 false) (h4 : o.f 4 = paI op) (hm : op ≠ 0 → J.2.1 1 (op - 1) = 6 → o.f 7 = (Int32.ofNat na) ∧ o.f 8 = (Int32.ofNat nm)) : ∃ x', TbC x' (bgn J kd p op na nm) ∧ B_X7_begin_46 G F (W.ad (.o 7 0)) (Int32.ofNat kd) (mem W (R7 (S.so 9 t x) ip (o.sf 2 (Int32.ofNat p)) b)) = (if (Int32.ofNat kd) < (5 : Int32) then (if (Int32.ofNat kd) = (0 : Int32) then (bO (rcv (mem W (R7 (S.so 9 t x') ip (o.sf 2 (Int32.ofNat p)) b)) (W.ad (.o 7 0)) 7) fun _ =>
  bP (P_X7_word G F (W.ad (.o 7 0)) (G.1 7) (mem W (R7 (S.so 9 t x') ip (o.sf 2 (Int32.ofNat p)) b))) fun v159 M159 =>
  B_X7_begin_204 G F (W.ad (.o 7 0)) (Int32.ofNat J.1) v159 M159)
  else (if (Int32.ofNat kd) = (1 : Int32) then (bO (rcv (mem W (R7 (S.so 9 t x') ip (o.sf 2 (Int32.ofNat p)) b)) (W.ad (.o 7 0)) 7) fun _ =>
  bP (P_X7_word G F (W.ad (.o 7 0)) (G.1 8) (mem W (R7 (S.so 9 t x') ip (o.sf 2 (Int32.ofNat p)) b))) fun v170 M170 =>
  B_X7_begin_204 G F (W.ad (.o 7 0)) (Int32.ofNat J.1) v170 M170)
  else (if (Int32.ofNat kd) = (2 : Int32) then (bO (rcv (mem W (R7 (S.so 9 t x') ip (o.sf 2 (Int32.ofNat p)) b)) (W.ad (.o 7 0)) 7) fun _ =>
  bP (P_X7_word G F (W.ad (.o 7 0)) (G.1 9) (mem W (R7 (S.so 9 t x') ip (o.sf 2 (Int32.ofNat p)) b))) fun v181 M181 =>
  B_X7_begin_204 G F (W.ad (.o 7 0)) (Int32.ofNat J.1) v181 M181)
  else (if (Int32.ofNat kd) = (3 : Int32) then (bO (rcv (mem W (R7 (S.so 9 t x') ip (o.sf 2 (Int32.ofNat p)) b)) (W.ad (.o 7 0)) 7) fun _ =>
  bP (P_X7_number G F (W.ad (.o 7 0)) (mem W (R7 (S.so 9 t x') ip (o.sf 2 (Int32.ofNat p)) b))) fun v190 M190 =>
  B_X7_begin_204 G F (W.ad (.o 7 0)) (Int32.ofNat J.1) v190 M190)
  else (bO (rcv (mem W (R7 (S.so 9 t x') ip (o.sf 2 (Int32.ofNat p)) b)) (W.ad (.o 7 0)) 7) fun _ =>
  bP (P_X7_string G F (W.ad (.o 7 0)) (mem W (R7 (S.so 9 t x') ip (o.sf 2 (Int32.ofNat p)) b))) fun v199 M199 =>
  B_X7_begin_204 G F (W.ad (.o 7 0)) (Int32.ofNat J.1) v199 M199)))))
  else (bO (pfv (mem W (R7 (S.so 9 t x') ip (o.sf 2 (Int32.ofNat p)) b)) (W.ad (.o 7 0)) 7 4 (.int (Int32.ofNat J.1))) fun M96 =>
  bO (gfI M96 (W.ad (.o 7 0)) 7 5) fun v101 =>
  bO (pfv M96 (W.ad (.o 7 0)) 7 5 (.int (v101 + (1 : Int32)))) fun M106 =>
  if (Int32.ofNat kd) = (5 : Int32) then (bO (rcv M106 (W.ad (.o 7 0)) 7) fun _ =>
  bP (P_X7_goOn G F (W.ad (.o 7 0)) (1 : Int32) M106) fun v120 M120 =>
  retZ v120 M120)
  else (bO (rcv M106 (W.ad (.o 7 0)) 7) fun _ =>
  bP (P_X7_goOn G F (W.ad (.o 7 0)) (3 : Int32) M106) fun v120 M120 =>
  retZ v120 M120))) := by
  obtain ⟨x1, g1, e1⟩ := Q9_begin (G := G) (F := F) (S := S) (o := o.sf 2 (Int32.ofNat p)) (kd := kd) (p := p) K C hn ho hb
  have e8 : x1.a 8 = x.a 8 := by rw [e1]; split <;> rfl
  have e9 : (x1.sA 8 (upd (x.a 8) J.1 (o.f 7))).a 9 = x.a 9 := by rw [e1]; split <;> rfl
  refine ⟨(x1.sA 8 (upd (x.a 8) J.1 (o.f 7))).sA 9 (upd (x.a 9) J.1 (o.f 8)), by rw [e1]; exact bg_C C Y hn ho hm, ?_⟩
  unfold B_X7_begin_46
  rw [r7txt K, bO_s, r7at K, bO_s, r7g K 4 rfl, bO_s, sf_ne (by decide), h4, rcv_m K.tx.1, bO_s, g1, bP_s, r7txt K, bO_s, t9r K.tx 8, bO_s, r7g K 7 rfl, bO_s, sf_ne (by decide), x9s K 8 J.1 hn, bO_s, e8, r7txt K, bO_s, t9r K.tx 9, bO_s, r7g K 8 rfl, bO_s, sf_ne (by decide), x9s K 9 J.1 hn, bO_s, e9]
theorem Q7_goOn {p : Nat} {st : Int32} (K : isRd W is_ ip t rs) : P_X7_goOn G F (W.ad (.o 7 0)) st (mem W (R7 S ip (o.sf 2 (Int32.ofNat p)) b)) = some (1, mem W (R7 S ip ((o.sf 6 st).sf 2 (Int32.ofNat (p + 1))) b)) := by
  unfold P_X7_goOn
  rw [r7at K, bO_s, n_i1, r7st K, bO_s, r7p K 6 rfl, bO_s, sf_comm (by decide)]
  rfl
theorem Q7_begin_bad {p dep : Nat} (K : isRd W is_ ip t rs) (C : TbC x J) (Y : JX J) (h5 : o.f 5 = (Int32.ofNat dep)) (hd : dep < 1000) (hbad : kdB (cd s p) = 7 ∨ 600 ≤ J.1 ∨ (5 ≤ kdB (cd s p) ∧ 40 ≤ dep)) : ∃ o' : Ob, P_X7_begin G F (W.ad (.o 7 0)) (pB s p) (mem W (R7 (S.so 9 t x) ip (o.sf 2 (Int32.ofNat p)) b)) = some (0, mem W (R7 (S.so 9 t x) ip o' b)) ∧ o'.f 3 = (Int32.ofNat p) := by
  obtain ⟨o', w1, w2⟩ := Q7_wrong (G := G) (F := F) (S := S.so 9 t x) (o := o.sf 2 (Int32.ofNat p)) (b := b) (q := p) K
  have Y2 := Y.2.1
  have hk := kdB_le (cd s p)
  unfold P_X7_begin
  rw [Q7_kind, bP_s]
  by_cases c1 : kdB (cd s p) = 7
  · rw [if_pos c1, if_pos rfl, r7at K, bO_s, r7lo K, bO_s, w1, bP_s]
    exact ⟨o', rfl, w2⟩
  · rw [if_neg c1, if_neg (n_nm (by omega)), r7txt K, bO_s, x9f K, bO_s, C.1]
    by_cases c2 : 600 ≤ J.1
    · rw [if_pos (show (600 : Int32) ≤ (Int32.ofNat J.1) from (n_le (a := 600) (by omega) (by omega)).mpr c2), r7at K, bO_s, r7lo K, bO_s, w1, bP_s]
      exact ⟨o', rfl, w2⟩
    · have c3 : 5 ≤ kdB (cd s p) ∧ 40 ≤ dep := by omega
      rw [if_neg (show ¬ (600 : Int32) ≤ (Int32.ofNat J.1) from fun q => c2 ((n_le (a := 600) (by omega) (by omega)).mp q)), if_neg (show ¬ (Int32.ofNat (kdB (cd s p))) < (5 : Int32) from fun q => absurd ((n_lt (b := 5) (by omega) (by omega)).mp q) (by omega)), r7g K 5 rfl, bO_s, sf_ne (by decide), h5, if_neg (show ¬ (Int32.ofNat dep) < (40 : Int32) from fun q => absurd ((n_lt (b := 40) (by omega) (by omega)).mp q) (by omega)), r7at K, bO_s, r7lo K, bO_s, w1, bP_s]
      exact ⟨o', rfl, w2⟩
theorem Q7_begin_good {p dep : Nat} (K : isRd W is_ ip t rs) (C : TbC x J) (Y : JX J) (h5 : o.f 5 = (Int32.ofNat dep)) (hd : dep < 1000) (hbad : ¬ (kdB (cd s p) = 7 ∨ 600 ≤ J.1 ∨ (5 ≤ kdB (cd s p) ∧ 40 ≤ dep))) : P_X7_begin G F (W.ad (.o 7 0)) (pB s p) (mem W (R7 (S.so 9 t x) ip (o.sf 2 (Int32.ofNat p)) b)) = B_X7_begin_46 G F (W.ad (.o 7 0)) (Int32.ofNat (kdB (cd s p))) (mem W (R7 (S.so 9 t x) ip (o.sf 2 (Int32.ofNat p)) b)) := by
  have hk := kdB_le (cd s p)
  unfold P_X7_begin
  rw [Q7_kind, bP_s, if_neg (show ¬ kdB (cd s p) = 7 by omega), if_neg (n_nm (by omega)), r7txt K, bO_s, x9f K, bO_s, C.1, if_neg (show ¬ (600 : Int32) ≤ (Int32.ofNat J.1) from fun q => absurd ((n_le (a := 600) (by omega) (by have := Y.2.1; omega)).mp q) (by omega))]
  by_cases c3 : kdB (cd s p) < 5
  · rw [if_pos (show (Int32.ofNat (kdB (cd s p))) < (5 : Int32) from (n_lt (b := 5) (by omega) (by omega)).mpr c3)]
  · rw [if_neg (show ¬ (Int32.ofNat (kdB (cd s p))) < (5 : Int32) from fun q => c3 ((n_lt (b := 5) (by omega) (by omega)).mp q)), r7g K 5 rfl, bO_s, sf_ne (by decide), h5, if_pos (show (Int32.ofNat dep) < (40 : Int32) from (n_lt (b := 40) (by omega) (by omega)).mpr (by omega))]
theorem Q7_begin_open {p op dep na nm : Nat} (K : isRd W is_ ip t rs) (C : TbC x J) (Y : JX J) (ho : op ≤ J.1) (hb : Byt 8192 b J.2.2 false) (h4 : o.f 4 = paI op) (h5 : o.f 5 = (Int32.ofNat dep)) (hm : op ≠ 0 → J.2.1 1 (op - 1) = 6 → o.f 7 = (Int32.ofNat na) ∧ o.f 8 = (Int32.ofNat nm)) (hk : 5 ≤ kdB (cd s p)) (hbad : ¬ (kdB (cd s p) = 7 ∨ 600 ≤ J.1 ∨ (5 ≤ kdB (cd s p) ∧ 40 ≤ dep))) : ∃ x' o' : Ob, P_X7_begin G F (W.ad (.o 7 0)) (pB s p) (mem W (R7 (S.so 9 t x) ip (o.sf 2 (Int32.ofNat p)) b)) = some (1, mem W (R7 (S.so 9 t x') ip (o'.sf 2 (Int32.ofNat (p + 1))) b)) ∧ TbC x' (bgn J (kdB (cd s p)) p op na nm) ∧ o'.f 4 = (Int32.ofNat J.1) ∧ o'.f 5 = (Int32.ofNat (dep + 1)) ∧ o'.f 6 = (if kdB (cd s p) = 6 then 3 else 1) := by
  have hk7 := kdB_le (cd s p)
  obtain ⟨x', C', g⟩ := Q7_b46 (G := G) (F := F) (S := S) (kd := kdB (cd s p)) (p := p) K C Y (by omega) ho hb h4 hm
  have f5 : ∀ st : Int32, ((((o.sf 4 (Int32.ofNat J.1)).sf 5 (Int32.ofNat (dep + 1))).sf 6 st).f 4 = (Int32.ofNat J.1)) ∧ ((((o.sf 4 (Int32.ofNat J.1)).sf 5 (Int32.ofNat (dep + 1))).sf 6 st).f 5 = (Int32.ofNat (dep + 1))) ∧ ((((o.sf 4 (Int32.ofNat J.1)).sf 5 (Int32.ofNat (dep + 1))).sf 6 st).f 6 = st) := fun st => ⟨rfl, rfl, rfl⟩
  rw [Q7_begin_good K C Y h5 (by omega) hbad, g, if_neg (show ¬ (Int32.ofNat (kdB (cd s p))) < (5 : Int32) from fun q => absurd ((n_lt (b := 5) (by omega) (by omega)).mp q) (by omega)), r7p K 4 rfl, bO_s, r7g K 5 rfl, bO_s, sf_ne (by decide), sf_ne (by decide), h5, r7p K 5 rfl, bO_s, n_i1, sf_comm (k := 2) (k' := 4) (by decide), sf_comm (k := 2) (k' := 5) (by decide)]
  by_cases c : kdB (cd s p) = 6
  · rw [c, if_neg (show ¬ (Int32.ofNat 6) = (5 : Int32) by decide), r7lo K, bO_s, Q7_goOn K, bP_s, if_pos rfl]
    exact ⟨x', _, rfl, by rw [c] at C'; exact C', f5 3⟩
  · have c5 : kdB (cd s p) = 5 := by omega
    rw [c5, if_pos (show (Int32.ofNat 5) = (5 : Int32) from rfl), r7lo K, bO_s, Q7_goOn K, bP_s, if_neg (by decide)]
    exact ⟨x', _, rfl, by rw [c5] at C'; exact C', f5 1⟩
theorem Q7_b204 {n m : Nat} {xs : List UInt8} {l : Bool} {v : Int32} (hv : v = 0 ∨ v = 1) (K : isRd W is_ ip t rs) (hn : n < 600) (hb : Byt 8192 b xs l) (h6 : x.a 6 n = (Int32.ofNat m)) : B_X7_begin_204 G F (W.ad (.o 7 0)) (Int32.ofNat n) v (mem W (R7 (S.so 9 t x) ip o b)) = some (v, mem W (R7 (S.so 9 t (x.sA 7 (upd (x.a 7) n ((Int32.ofNat xs.length) - (Int32.ofNat m))))) ip (o.sf 6 5) b)) := by
  unfold B_X7_begin_204
  rw [r7txt K, bO_s, t9r K.tx 7, bO_s, bO_s, t9p K.tx, bO_s, K.2.2.2.2.1.gI 1 rfl, bO_s, r7_p, hb.many, bO_s, t9r K.tx 6, bO_s, x9a K 6 n hn, bO_s, h6, x9s K 7 n hn, bO_s, r7p K 6 rfl, bO_s]
  rcases hv with rfl | rfl <;> rfl
theorem Q7_begin_leaf {p op dep na nm : Nat} (X : Cx G F W) (K : isRd W is_ ip t rs) (hs : Byt rs (S 0 is_) s ls) (hl : s.length ≤ 8192) (w : JW s p J) (C : TbC x J) (ho : op ≤ J.1) (hb : Byt 8192 b J.2.2 false) (h4 : o.f 4 = paI op) (h5 : o.f 5 = (Int32.ofNat dep)) (hm : op ≠ 0 → J.2.1 1 (op - 1) = 6 → o.f 7 = (Int32.ofNat na) ∧ o.f 8 = (Int32.ofNat nm)) (hk : kdB (cd s p) < 5) (hd : dep < 1000) (hbad : ¬ (kdB (cd s p) = 7 ∨ 600 ≤ J.1 ∨ (5 ≤ kdB (cd s p) ∧ 40 ≤ dep))) : o7l W S ip t o (P_X7_begin G F (W.ad (.o 7 0)) (pB s p) (mem W (R7 (S.so 9 t x) ip (o.sf 2 (Int32.ofNat p)) b))) (lfR s J (kdB (cd s p)) p op na nm) := by
  have Y := w.x hl
  have hp := cd_in (s := s) (p := p) (fun e => hbad (Or.inl (by rw [e]; rfl)))
  obtain ⟨x', C', g⟩ := Q7_b46 (G := G) (F := F) (S := S) (kd := kdB (cd s p)) (p := p) K C Y (by omega) ho hb h4 hm
  have h6 : x'.a 6 J.1 = (Int32.ofNat J.2.2.length) := by
    rw [(C'.2 J.1 (Nat.lt_succ_self _)).2.2.2.2.2.1]
    show (Int32.ofNat (bgT J.2.1 J.1 _ p op J.2.2.length na nm 6 J.1)) = _
    rw [bgT_n]
    rfl
  have h7 : x'.a 7 J.1 = (Int32.ofNat 0) := by
    rw [(C'.2 J.1 (Nat.lt_succ_self _)).2.2.2.2.2.2.1]
    show (Int32.ofNat (bgT J.2.1 J.1 _ p op J.2.2.length na nm 7 J.1)) = _
    rw [bgT_n]
    rfl
  have eqs : ∀ k, k < 100 → ((Int32.ofNat (kdB (cd s p))) = (Int32.ofNat k)) = (kdB (cd s p) = k) := fun k hk => propext (n_eq (by omega) (by omega))
  have word : ∀ (j : Nat), j ∈ [7, 8, 9, 10, 79, 80, 81] → kdB (cd s p) < 3 → str j = wdB (kdB (cd s p)) → o7l W S ip t o (bO (rcv (mem W (R7 (S.so 9 t x') ip (o.sf 2 (Int32.ofNat p)) b)) (W.ad (.o 7 0)) 7) fun _ => bP (P_X7_word G F (W.ad (.o 7 0)) (G.1 j) (mem W (R7 (S.so 9 t x') ip (o.sf 2 (Int32.ofNat p)) b))) fun v159 M159 => B_X7_begin_204 G F (W.ad (.o 7 0)) (Int32.ofNat J.1) v159 M159) (lfR s J (kdB (cd s p)) p op na nm) := by
    intro j hj hk3 hw
    unfold lfR
    rw [if_pos hk3, ← hw, r7lo K, bO_s]
    have q := Q7_word (G := G) (F := F) (S := S.so 9 t x') (o := o) (b := b) (j := j) (p := p) X K (hs9 hs) hl hj (by omega)
    cases hq : wdR s (str j) p with
    | inl y =>
      rw [hq] at q
      obtain ⟨o', q1, q2⟩ := q
      rw [q1, bP_s, Q7_b204 (Or.inl rfl) K (by omega) hb h6]
      exact ⟨_, _, b, _, _, rfl, by rw [sf_ne (by decide)]; exact q2, hb⟩
    | inr y =>
      rw [hq] at q
      have q : P_X7_word G F (W.ad (.o 7 0)) (G.1 j) (mem W (R7 (S.so 9 t x') ip (o.sf 2 (Int32.ofNat p)) b)) = some (1, mem W (R7 (S.so 9 t x') ip (o.sf 2 (Int32.ofNat y)) b)) := q
      rw [q, bP_s, Q7_b204 (Or.inr rfl) K (by omega) hb h6, n_sub (Nat.le_refl _), Nat.sub_self, ← h7, sf_comm (by decide)]
      refine ⟨x', o.sf 6 5, b, ?_, C', hb, rfl, rfl, rfl⟩
      have e : upd (x'.a 7) J.1 (x'.a 7 J.1) = x'.a 7 := by
        funext j
        unfold upd
        split
        · rename_i e
          rw [e]
        · rfl
      rw [e, sA_self rfl]
  have tail : ∀ (P : Option (Int32 × mM)) (r : Nat ⊕ (List UInt8 × Nat)) (kd : Nat), kd = kdB (cd s p) → o7s W (S.so 9 t x') ip o J.2.2 P r → o7l W S ip t o (bP P fun v190 M190 => B_X7_begin_204 G F (W.ad (.o 7 0)) (Int32.ofNat J.1) v190 M190) (sB r fun y => .inr (y.2, snm (bgn J kd p op na nm) J.1 y.1)) := by
    intro P r kd hkd q
    cases r with
    | inl y =>
      obtain ⟨o', b', xs, l, q1, q2, q3⟩ := q
      rw [q1, bP_s, Q7_b204 (Or.inl rfl) K (by omega) q3 h6]
      exact ⟨_, _, b', _, _, rfl, by rw [sf_ne (by decide)]; exact q2, q3⟩
    | inr y =>
      obtain ⟨bs, y⟩ := y
      obtain ⟨b', q1, q2⟩ := q
      rw [q1, bP_s, Q7_b204 (Or.inr rfl) K (by omega) q2 h6, n_sub (by rw [List.length_append]; omega), sf_comm (by decide), show (J.2.2 ++ bs).length - J.2.2.length = bs.length by rw [List.length_append]; omega, hkd]
      exact ⟨_, o.sf 6 5, b', rfl, tb7 C', q2, rfl, rfl, rfl⟩
  rw [Q7_begin_good K C Y h5 hd hbad, g, if_pos (show (Int32.ofNat (kdB (cd s p))) < (5 : Int32) from (n_lt (b := 5) (by omega) (by omega)).mpr hk)]
  by_cases c0 : kdB (cd s p) = 0
  · rw [if_pos (show (Int32.ofNat (kdB (cd s p))) = (0 : Int32) by rw [c0]; rfl)]
    exact word 7 (by decide) (by omega) (by rw [c0]; rfl)
  rw [if_neg (show ¬ (Int32.ofNat (kdB (cd s p))) = (0 : Int32) from fun q => c0 ((n_eq (b := 0) (by omega) (by omega)).mp q))]
  by_cases c1 : kdB (cd s p) = 1
  · rw [if_pos (show (Int32.ofNat (kdB (cd s p))) = (1 : Int32) by rw [c1]; rfl)]
    exact word 8 (by decide) (by omega) (by rw [c1]; rfl)
  rw [if_neg (show ¬ (Int32.ofNat (kdB (cd s p))) = (1 : Int32) from fun q => c1 ((n_eq (b := 1) (by omega) (by omega)).mp q))]
  by_cases c2 : kdB (cd s p) = 2
  · rw [if_pos (show (Int32.ofNat (kdB (cd s p))) = (2 : Int32) by rw [c2]; rfl)]
    exact word 9 (by decide) (by omega) (by rw [c2]; rfl)
  rw [if_neg (show ¬ (Int32.ofNat (kdB (cd s p))) = (2 : Int32) from fun q => c2 ((n_eq (b := 2) (by omega) (by omega)).mp q))]
  by_cases c3 : kdB (cd s p) = 3
  · rw [if_pos (show (Int32.ofNat (kdB (cd s p))) = (3 : Int32) by rw [c3]; rfl), r7lo K, bO_s]
    have r := tail _ _ 3 c3.symm (Q7_number (G := G) (F := F) (S := S.so 9 t x') (o := o) (b := b) (p := p) X K (hs9 hs) hb hl w.1 (by omega))
    unfold lfR
    rw [if_neg (by omega), if_pos c3]
    exact r
  · rw [if_neg (show ¬ (Int32.ofNat (kdB (cd s p))) = (3 : Int32) from fun q => c3 ((n_eq (b := 3) (by omega) (by omega)).mp q)), r7lo K, bO_s]
    have r := tail _ _ 4 (by omega) (Q7_string (G := G) (F := F) (S := S.so 9 t x') (o := o) (b := b) (p := p) X K (hs9 hs) hl hb w.1 hp)
    unfold lfR
    rw [if_neg (by omega), if_neg c3]
    exact r
theorem Q7_close {p v op dep : Nat} (K : isRd W is_ ip t rs) (C : TbC x J) (Y : JX J) (hv : v < J.1) (h4 : o.f 4 = (Int32.ofNat v)) (h5 : o.f 5 = (Int32.ofNat (dep + 1))) (ho : J.2.1 2 v = op) : ∃ o' : Ob, P_X7_close G F (W.ad (.o 7 0)) (mem W (R7 (S.so 9 t x) ip (o.sf 2 (Int32.ofNat p)) b)) = some (1, mem W (R7 (S.so 9 t x) ip (o'.sf 2 (Int32.ofNat (p + 1))) b)) ∧ o'.f 4 = paI op ∧ o'.f 5 = (Int32.ofNat dep) ∧ o'.f 6 = 5 := by
  have Y2 := Y.2.1
  unfold P_X7_close
  rw [r7txt K, bO_s, r7g K 4 rfl, bO_s, sf_ne (by decide), h4, rcv_m K.tx.1, bO_s, Q9_has (S := R7 (S.so 9 t x) ip (o.sf 2 (Int32.ofNat p)) b) K.tx (by rw [x7_9]; exact C) Y (by omega), bP_s, if_pos hv, if_neg (by decide), r7txt K, bO_s, t9r K.tx 2, bO_s, r7g K 4 rfl, bO_s, sf_ne (by decide), h4, x9a K 2 v (by omega), bO_s, (C.2 v hv).2.1, ho, r7p K 4 rfl, bO_s, r7g K 5 rfl, bO_s, sf_ne (by decide), sf_ne (by decide), h5, r7p K 5 rfl, bO_s, r7lo K, bO_s, show (Int32.ofNat (dep + 1)) - (1 : Int32) = (Int32.ofNat dep) from n_sub (a := dep + 1) (b := 1) (by omega), sf_comm (k := 2) (k' := 4) (by decide), sf_comm (k := 2) (k' := 5) (by decide), Q7_goOn K, bP_s]
  exact ⟨_, rfl, rfl, rfl, rfl⟩
end RDC
