/-! TEXTS OF VALUES: the class's reader, its loop -/
def nmQ (s : List UInt8) (p : Nat) (J : JT) (v : Nat) : Nat ⊕ (List UInt8 × Nat) := if cd s p = 34 then sB (stR s p) (fun y => if dupB J v y.1 = true then .inl p else .inr y) else .inl p
theorem nameR_q (s : List UInt8) (p : Nat) (J : JT) (v : Nat) : nameR s p J v = sB (nmQ s p J v) fun y => if cd s (skb s y.2) = 58 then .inr (skb s (skb s y.2 + 1), (J.1, J.2.1, J.2.2 ++ y.1), J.2.2.length, y.1.length) else .inl (skb s y.2) := by
  unfold nameR nmQ
  split
  · cases stR s p with
    | inl q => rfl
    | inr y =>
      show (if dupB J v y.1 = true then _ else _) = sB (if dupB J v y.1 = true then _ else _) _
      split <;> rfl
  · rfl
def rdD (G : mG) (F fuel A : Nat) (c k1 st : Int32) (M : mM) : Option (Int32 × mM) :=
  if st = (0 : Int32) then (bO (rcv M A 7) fun _ =>
  bP (P_X7_begin G F A c M) fun v151 M151 =>
  B_X7_read_47 G F fuel A v151 k1 M151)
  else (if st = (1 : Int32) then (if c = (93 : Int32) then (bO (rcv M A 7) fun _ =>
  bP (P_X7_close G F A M) fun v166 M166 =>
  B_X7_read_47 G F fuel A v166 k1 M166)
  else (bO (rcv M A 7) fun _ =>
  bP (P_X7_begin G F A c M) fun v175 M175 =>
  B_X7_read_47 G F fuel A v175 k1 M175))
  else (if st = (2 : Int32) then (bO (rcv M A 7) fun _ =>
  bP (P_X7_memberName G F A c M) fun v185 M185 =>
  B_X7_read_47 G F fuel A v185 k1 M185)
  else (if st = (3 : Int32) then (if c = (125 : Int32) then (bO (rcv M A 7) fun _ =>
  bP (P_X7_close G F A M) fun v200 M200 =>
  B_X7_read_47 G F fuel A v200 k1 M200)
  else (bO (rcv M A 7) fun _ =>
  bP (P_X7_memberName G F A c M) fun v209 M209 =>
  B_X7_read_47 G F fuel A v209 k1 M209))
  else (if st = (4 : Int32) then (if c = (58 : Int32) then (bO (rcv M A 7) fun _ =>
  bP (P_X7_goOn G F A (0 : Int32) M) fun v225 M225 =>
  B_X7_read_47 G F fuel A v225 k1 M225)
  else (bO (gfI M A 7 2) fun v233 =>
  bO (rcv M A 7) fun _ =>
  bP (P_X7_wrong G F A v233 M) fun v236 M236 =>
  B_X7_read_47 G F fuel A v236 k1 M236))
  else (bO (rcv M A 7) fun _ =>
  bP (P_X7_after G F A c M) fun v246 M246 =>
  B_X7_read_47 G F fuel A v246 k1 M246)))))
def o7v (W : WR) (G : mG) (F : Nat) (S : ST) (ip t ln : Nat) (op dep : Nat) (run : Option (Int32 × mM)) (r : Nat ⊕ (Nat × JT)) : Prop := match r with
  | .inl q => ∃ (x' o' b' : Ob) (xs : List UInt8) (l : Bool), run = some ((Int32.ofNat q), mem W (R7 (S.so 9 t x') ip o' b')) ∧ Byt 8192 b' xs l
  | .inr (q, J') => ∃ (x' o' b' : Ob) (k' fuel' : Nat), run = B_X7_read_47 G F fuel' (W.ad (.o 7 0)) 1 (Int32.ofNat k') (mem W (R7 (S.so 9 t x') ip (o'.sf 2 (Int32.ofNat q)) b')) ∧ TbC x' J' ∧ Byt 8192 b' J'.2.2 false ∧ o'.f 4 = paI op ∧ o'.f 5 = (Int32.ofNat dep) ∧ o'.f 6 = 5 ∧ k' ≤ q ∧ ln + 2 ≤ fuel' + q
section RDL
variable {W : WR} {G : mG} {F : Nat} {S : ST} {is_ ip t rs : Nat} {s : List UInt8} {ls : Bool} {o b x : Ob} {J : JT}
theorem rd_in {k fuel p : Nat} (X : Cx G F W) (K : isRd W is_ ip t rs) (hs : Byt rs (S 0 is_) s ls) (hl : s.length ≤ 8192) (hk : k ≤ s.length) (hp : p ≤ s.length) (hq : skb s p < s.length) : B_X7_read_47 G F (fuel + 1) (W.ad (.o 7 0)) 1 (Int32.ofNat k) (mem W (R7 S ip (o.sf 2 (Int32.ofNat p)) b)) = rdD G F fuel (W.ad (.o 7 0)) (pB s (skb s p)) (Int32.ofNat (k + 1)) (o.f 6) (mem W (R7 S ip (o.sf 2 (Int32.ofNat (skb s p))) b)) := by
  have hn : ¬ pB s (skb s p) = (-1 : Int32) := by rw [pB_in hq]; exact n_nm (by have := cd_lt s (skb s p); omega)
  rw [B_X7_read_47, r7src K, bO_s, r7many K hs, bO_s, if_neg (fun q => absurd ((n_lt (by omega) (by omega)).mp q) (by omega)), if_neg (by decide), r7lo K, bO_s, Q7_skip X K hs hl hp, bO_s, r7src K, bO_s, r7at K, bO_s, r7sl K, bO_s, r7peek K hs (by omega), bP_s, if_neg hn, r7g K 6 rfl, bO_s, sf_ne (by decide), n_i1]
  rfl
theorem rd_end {k fuel p : Nat} (X : Cx G F W) (K : isRd W is_ ip t rs) (hs : Byt rs (S 0 is_) s ls) (hl : s.length ≤ 8192) (hk : k ≤ s.length) (hp : p ≤ s.length) (hq : ¬ skb s p < s.length) : B_X7_read_47 G F (fuel + 1) (W.ad (.o 7 0)) 1 (Int32.ofNat k) (mem W (R7 S ip (o.sf 2 (Int32.ofNat p)) b)) = some (if o.f 6 = 5 ∧ o.f 4 = -1 then -1 else (Int32.ofNat (skb s p)), mem W (R7 S ip (o.sf 2 (Int32.ofNat (skb s p))) b)) := by
  have hle := skb_len hp
  have hn : pB s (skb s p) = (-1 : Int32) := pB_ge (by omega)
  rw [B_X7_read_47, r7src K, bO_s, r7many K hs, bO_s, if_neg (fun q => absurd ((n_lt (by omega) (by omega)).mp q) (by omega)), if_neg (by decide), r7lo K, bO_s, Q7_skip X K hs hl hp, bO_s, r7src K, bO_s, r7at K, bO_s, r7sl K, bO_s, r7peek K hs (by omega), bP_s, if_pos hn, r7g K 6 rfl, bO_s, sf_ne (by decide)]
  by_cases c1 : o.f 6 = 5
  · rw [if_pos c1, r7g K 4 rfl, bO_s, sf_ne (by decide)]
    by_cases c2 : o.f 4 = -1
    · rw [if_pos c2, if_pos ⟨c1, c2⟩]
    · rw [if_neg c2, if_neg (fun q => c2 q.2), r7at K, bO_s]
  · rw [if_neg c1, if_neg (fun q => c1 q.1), r7at K, bO_s]
theorem rd_bad {k fuel : Nat} (K : isRd W is_ ip t rs) (hs : Byt rs (S 0 is_) s ls) : B_X7_read_47 G F (fuel + 1) (W.ad (.o 7 0)) 0 (Int32.ofNat k) (mem W (R7 S ip o b)) = some (o.f 3, mem W (R7 S ip o b)) := by
  rw [B_X7_read_47, r7src K, bO_s, r7many K hs, bO_s, r7g K 3 rfl, bO_s, if_pos rfl]
  split <;> rfl
def o7n (W : WR) (S : ST) (ip : Nat) (o : Ob) (pl : List UInt8) (y : Option (Int32 × mM)) (r : Nat ⊕ (List UInt8 × Nat)) : Prop := match r with
  | .inr (bs, q) => ∃ o' b' : Ob, y = some (1, mem W (R7 S ip (o'.sf 2 (Int32.ofNat q)) b')) ∧ Byt 8192 b' (pl ++ bs) false ∧ o'.f 4 = o.f 4 ∧ o'.f 5 = o.f 5 ∧ o'.f 6 = 4 ∧ o'.f 7 = (Int32.ofNat pl.length) ∧ o'.f 8 = (Int32.ofNat bs.length)
  | .inl q => ∃ (o' b' : Ob) (xs : List UInt8) (l : Bool), y = some (0, mem W (R7 S ip o' b')) ∧ o'.f 3 = (Int32.ofNat q) ∧ Byt 8192 b' xs l
theorem Q7_memberName {p v : Nat} (X : Cx G F W) (K : isRd W is_ ip t rs) (hs : Byt rs (S 0 is_) s ls) (hl : s.length ≤ 8192) (w : JW s p J) (C : TbC x J) (hb : Byt 8192 b J.2.2 false) (h4 : o.f 4 = (Int32.ofNat v)) (hv : v < J.1) (hk : J.2.1 1 v = 6) : o7n W (S.so 9 t x) ip o J.2.2 (P_X7_memberName G F (W.ad (.o 7 0)) (pB s p) (mem W (R7 (S.so 9 t x) ip (o.sf 2 (Int32.ofNat p)) b))) (nmQ s p J v) := by
  have hp := w.2.1
  have Y := w.x hl
  have Y2 := Y.2.1
  have Y1 := Y.1
  unfold P_X7_memberName nmQ
  rw [r7at K, bO_s]
  simp only [pe34]
  by_cases c1 : cd s p = 34
  · have hi := cd_in (s := s) (p := p) (by omega)
    rw [if_pos c1, if_pos c1, r7txt K, bO_s, t9p K.tx, bO_s, K.2.2.2.2.1.gI 1 rfl, bO_s, r7_p, hb.many, r7p K 7 rfl, bO_s, r7lo K, bO_s, sf_comm (k := 2) (k' := 7) (by decide)]
    have q := Q7_string (G := G) (F := F) (S := S.so 9 t x) (o := o.sf 7 (Int32.ofNat J.2.2.length)) (b := b) (p := p) X K (hs9 hs) hl hb w.1 hi
    cases hq : stR s p with
    | inl y =>
      rw [hq] at q
      obtain ⟨o', b', xs, l, q1, q2, q3⟩ := q
      rw [q1, bP_s, if_pos rfl]
      exact ⟨o', b', xs, l, rfl, q2, q3⟩
    | inr y =>
      obtain ⟨bs, y⟩ := y
      rw [hq] at q
      have k1 := stR_ok hq
      obtain ⟨b', q1, q2⟩ := q
      have hbl := q2.le
      have e7 : ((o.sf 7 (Int32.ofNat J.2.2.length)).sf 2 (Int32.ofNat y)).f 7 = (Int32.ofNat J.2.2.length) := rfl
      have kb : kB J (some v) 6 = true := by show (decide (v < J.1) && decide (J.2.1 1 v = 6)) = true; rw [decide_eq_true hv, decide_eq_true hk]; rfl
      have C' : TbC x (J.1, J.2.1, J.2.2 ++ bs) := C
      have Y' : JX (J.1, J.2.1, J.2.2 ++ bs) := ⟨q2.le, Y2, fun i hi => by have := Y.2.2 i hi; refine ⟨this.1, this.2.1, this.2.2.1, this.2.2.2.1, this.2.2.2.2.1, ?_, ?_⟩ <;> (show _ ≤ (J.2.2 ++ bs).length; rw [List.length_append]; simp only; omega)⟩
      have sg : seg (J.2.2 ++ bs) J.2.2.length bs.length = bs := by
        unfold seg
        rw [List.drop_left, List.take_length]
      have nmd := Q9_named (G := G) (F := F) (S := R7 (S.so 9 t x) ip (((o.sf 7 (Int32.ofNat J.2.2.length)).sf 8 (Int32.ofNat bs.length)).sf 2 (Int32.ofNat y)) b') (ib := ip) (fr := J.2.2.length) (c := bs.length) (o := some v) X K.tx (by rw [x7_9]; exact C') Y' (by rw [r7_p]; exact q2) K.tx.2.2.1 (by rw [r7_p]; exact q2) (by rw [List.length_append]; omega) sg (by rw [List.length_append] at hbl; omega) (fun i hi => by have := Option.some.inj hi; omega)
      have nmd : P_X9_named G F (W.ad (.o 9 t)) (Int32.ofNat v) (W.ad (.o 0 ip)) (Int32.ofNat J.2.2.length) (Int32.ofNat bs.length) (mem W (R7 (S.so 9 t x) ip (((o.sf 7 (Int32.ofNat J.2.2.length)).sf 8 (Int32.ofNat bs.length)).sf 2 (Int32.ofNat y)) b')) = _ := nmd
      have f8 : (((o.sf 7 (Int32.ofNat J.2.2.length)).sf 8 (Int32.ofNat bs.length)).sf 2 (Int32.ofNat y)).f 8 = (Int32.ofNat bs.length) := rfl
      have f7 : (((o.sf 7 (Int32.ofNat J.2.2.length)).sf 8 (Int32.ofNat bs.length)).sf 2 (Int32.ofNat y)).f 7 = (Int32.ofNat J.2.2.length) := rfl
      have f4 : (((o.sf 7 (Int32.ofNat J.2.2.length)).sf 8 (Int32.ofNat bs.length)).sf 2 (Int32.ofNat y)).f 4 = (Int32.ofNat v) := h4
      rw [q1, bP_s, if_neg (by decide), r7txt K, bO_s, t9p K.tx, bO_s, K.2.2.2.2.1.gI 1 rfl, bO_s, r7_p, q2.many, r7g K 7 rfl, bO_s, e7, n_sub (by rw [List.length_append]; omega), show (J.2.2 ++ bs).length - J.2.2.length = bs.length by rw [List.length_append]; omega, r7p K 8 rfl, bO_s, sf_comm (k := 2) (k' := 8) (by decide), r7txt K, bO_s, r7g K 4 rfl, bO_s, bO_s, t9p K.tx, bO_s, r7g K 7 rfl, bO_s, r7g K 8 rfl, bO_s, rcv_m K.tx.1, bO_s, f4, f7, f8, nmd, bP_s]
      show o7n _ _ _ _ _ _ (if dupB J v bs = true then .inl p else .inr (bs, y))
      rw [dupB_f kb]
      cases hf : fN (J.1, J.2.1, J.2.2 ++ bs) bs (some v) with
      | none =>
        rw [if_pos (show oI none = -1 from rfl), if_neg (show ¬ (none : Option Nat).isSome = true by decide), r7p K 6 rfl, bO_s, sf_comm (k := 2) (k' := 6) (by decide)]
        exact ⟨_, b', rfl, q2, rfl, rfl, rfl, rfl, rfl⟩
      | some i =>
        have hlt : i < J.1 := fN_lt (J := (J.1, J.2.1, J.2.2 ++ bs)) hf
        obtain ⟨o', w1, w2⟩ := Q7_wrong (G := G) (F := F) (S := S.so 9 t x) (o := ((o.sf 7 (Int32.ofNat J.2.2.length)).sf 8 (Int32.ofNat bs.length)).sf 2 (Int32.ofNat y)) (b := b') (q := p) K
        rw [if_neg (show ¬ oI (some i) = -1 from n_nm (by omega)), if_pos (show (some i).isSome = true from rfl), r7lo K, bO_s, w1, bP_s]
        exact ⟨o', b', _, _, rfl, w2, q2⟩
  · obtain ⟨o', w1, w2⟩ := Q7_wrong (G := G) (F := F) (S := S.so 9 t x) (o := o.sf 2 (Int32.ofNat p)) (b := b) (q := p) K
    rw [if_neg c1, if_neg c1, bO_s, r7lo K, bO_s, w1, bP_s]
    exact ⟨o', b, _, _, rfl, w2, hb⟩
/-- what comes behind a value that is in an open one -/
theorem Q7_after {p v op dep : Nat} {obj : Bool} (K : isRd W is_ ip t rs) (hl : s.length ≤ 8192) (w : JW s p J) (C : TbC x J) (h4 : o.f 4 = (Int32.ofNat v)) (h5 : o.f 5 = (Int32.ofNat (dep + 1))) (hv : v < J.1) (hk : J.2.1 1 v = if obj then 6 else 5) (ho : J.2.1 2 v = op) (hp : p < s.length) : (cd s p = 44 → P_X7_after G F (W.ad (.o 7 0)) (pB s p) (mem W (R7 (S.so 9 t x) ip (o.sf 2 (Int32.ofNat p)) b)) = some (1, mem W (R7 (S.so 9 t x) ip ((o.sf 6 (if obj then 2 else 0)).sf 2 (Int32.ofNat (p + 1))) b))) ∧ (cd s p = clB obj → ∃ o' : Ob, P_X7_after G F (W.ad (.o 7 0)) (pB s p) (mem W (R7 (S.so 9 t x) ip (o.sf 2 (Int32.ofNat p)) b)) = some (1, mem W (R7 (S.so 9 t x) ip (o'.sf 2 (Int32.ofNat (p + 1))) b)) ∧ o'.f 4 = paI op ∧ o'.f 5 = (Int32.ofNat dep) ∧ o'.f 6 = 5) ∧ (cd s p ≠ 44 → cd s p ≠ clB obj → ∃ o' : Ob, P_X7_after G F (W.ad (.o 7 0)) (pB s p) (mem W (R7 (S.so 9 t x) ip (o.sf 2 (Int32.ofNat p)) b)) = some (0, mem W (R7 (S.so 9 t x) ip o' b)) ∧ o'.f 3 = (Int32.ofNat p)) := by
  have Y := w.x hl
  have Y2 := Y.2.1
  have e : P_X7_after G F (W.ad (.o 7 0)) (pB s p) (mem W (R7 (S.so 9 t x) ip (o.sf 2 (Int32.ofNat p)) b)) = B_X7_after_45 G F (W.ad (.o 7 0)) (pB s p) (if obj then 1 else 0) (mem W (R7 (S.so 9 t x) ip (o.sf 2 (Int32.ofNat p)) b)) := by
    unfold P_X7_after
    rw [r7txt K, bO_s, r7g K 4 rfl, bO_s, sf_ne (by decide), h4, rcv_m K.tx.1, bO_s, Q9_has (S := R7 (S.so 9 t x) ip (o.sf 2 (Int32.ofNat p)) b) K.tx (by rw [x7_9]; exact C) Y (by omega), bP_s, if_pos hv, if_neg (by decide), r7txt K, bO_s, t9r K.tx 1, bO_s, r7g K 4 rfl, bO_s, sf_ne (by decide), h4, x9a K 1 v (by omega), bO_s, (C.2 v hv).1, hk]
    cases obj <;> rfl
  obtain ⟨ow, w1, w2⟩ := Q7_wrong (G := G) (F := F) (S := S.so 9 t x) (o := o.sf 2 (Int32.ofNat p)) (b := b) (q := p) K
  obtain ⟨oc, c1, c2⟩ := Q7_close (G := G) (F := F) (S := S) (o := o) (b := b) (p := p) K C Y hv h4 h5 ho
  rw [e]
  unfold B_X7_after_45
  simp only [pe44, pe93, pe125]
  cases obj with
  | false =>
    refine ⟨fun c => ?_, fun c => ?_, fun n1 n2 => ?_⟩
    · rw [if_pos c, if_pos (by rfl), r7lo K, bO_s, Q7_goOn K, bP_s]
      rfl
    · have c : cd s p = 93 := c
      rw [if_neg (by omega), if_pos (by rfl), if_pos c, r7lo K, bO_s, c1, bP_s]
      exact ⟨oc, rfl, c2⟩
    · have n2 : cd s p ≠ 93 := n2
      rw [if_neg n1, if_pos (by rfl), if_neg n2, r7at K, bO_s, r7lo K, bO_s, w1, bP_s]
      exact ⟨ow, rfl, w2⟩
  | true =>
    refine ⟨fun c => ?_, fun c => ?_, fun n1 n2 => ?_⟩
    · rw [if_pos c, if_neg (by decide), r7lo K, bO_s, Q7_goOn K, bP_s]
      rfl
    · have c : cd s p = 125 := c
      rw [if_neg (by omega), if_neg (by decide), if_pos c, r7lo K, bO_s, c1, bP_s]
      exact ⟨oc, rfl, c2⟩
    · have n2 : cd s p ≠ 125 := n2
      rw [if_neg n1, if_neg (by decide), if_neg n2, r7at K, bO_s, r7lo K, bO_s, w1, bP_s]
      exact ⟨ow, rfl, w2⟩
end RDL
