/-! THE CALLS json value text name member: the class -/
theorem lp_inv {s : List UInt8} {obj : Bool} {v : Nat} {rvd : Nat → JT → Nat → Nat → Nat ⊕ (Nat × JT)} {P : JT → Prop} (hp : ∀ J bs, P J → P (J.1, J.2.1, J.2.2 ++ bs)) (hr : RVok s rvd v) (hv : ∀ p J na nm q J', JW s p J → v < J.1 → na + nm ≤ J.2.2.length → rvd p J na nm = .inr (q, J') → P J → P J') : ∀ {f p q : Nat} {J J' : JT}, JW s p J → v < J.1 → lp s obj v rvd f p J = .inr (q, J') → P J → P J' := by
  intro f
  induction f with
  | zero => exact fun _ _ h => absurd h (by simp [lp])
  | succ f ih =>
    intro p q J J' hw hvj h hP
    have h : (sB (if obj then nameR s p J v else .inr (p, J, 0, 0)) fun y => sB (rvd y.1 y.2.1 y.2.2.1 y.2.2.2) fun z => lpE s (clB obj) (lp s obj v rvd f) z) = .inr (q, J') := h
    have key : ∀ y : Nat × JT × Nat × Nat, JW s y.1 y.2.1 → y.2.2.1 + y.2.2.2 ≤ y.2.1.2.2.length → y.2.1.1 = J.1 → P y.2.1 → (sB (rvd y.1 y.2.1 y.2.2.1 y.2.2.2) fun z => lpE s (clB obj) (lp s obj v rvd f) z) = .inr (q, J') → P J' := by
      intro y w1 m1 n1 p1 h
      cases hz : rvd y.1 y.2.1 y.2.2.1 y.2.2.2 with
      | inl x => rw [hz] at h; exact absurd h (by simp [sB])
      | inr z =>
        obtain ⟨z1, z2⟩ := z
        rw [hz] at h
        obtain ⟨l2, w2, k2, n2⟩ := hr _ _ _ _ _ _ w1 (by omega) m1 hz
        have p2 := hv _ _ _ _ _ _ w1 (by omega) m1 hz p1
        have l3 := skb_le s z1
        have h : (if cd s (skb s z1) = 44 then lp s obj v rvd f (skb s (skb s z1 + 1)) z2 else if cd s (skb s z1) = (clB obj) then .inr (skb s z1 + 1, z2) else .inl (skb s z1)) = Sum.inr (q, J') := h
        split at h
        · rename_i hc
          have hi := cd_in (s := s) (p := skb s z1) (by omega)
          have l4 := skb_le s (skb s z1 + 1)
          have l5 := skb_len (s := s) (p := skb s z1 + 1) (by omega)
          exact ih (w2.mono (q := skb s (skb s z1 + 1)) (by omega) l5) (by omega) h p2
        · split at h
          · have g2 := congrArg Prod.snd (Sum.inr.inj h)
            simp only at g2
            rw [← g2]
            exact p2
          · exact absurd h (by simp)
    cases obj with
    | false => exact key (p, J, 0, 0) hw (Nat.zero_le _) rfl hP h
    | true =>
      cases hn : nameR s p J v with
      | inl y =>
        rw [show (if true = true then nameR s p J v else .inr (p, J, 0, 0)) = nameR s p J v from rfl, hn] at h
        exact absurd h (by simp [sB])
      | inr y =>
        rw [show (if true = true then nameR s p J v else .inr (p, J, 0, 0)) = nameR s p J v from rfl, hn] at h
        obtain ⟨k1, k2, k3, k4, k5, bs, k6⟩ := nameR_ok hw hn
        refine key y k2 k3 k4 ?_ h
        have e : y.2.1 = (J.1, J.2.1, J.2.2 ++ bs) := by
          obtain ⟨a, ⟨b, c, d⟩, e⟩ := y
          simp only at k4 k5 k6
          rw [k4, k5, k6]
        rw [e]
        exact hp J bs hP
theorem rv_inv {s : List UInt8} {P : JT → Prop} (hb : ∀ J kd p op na nm, P J → op ≤ J.1 → P (bgn J kd p op na nm)) (hs : ∀ J i bs, P J → P (snm J i bs)) (hp : ∀ J bs, P J → P (J.1, J.2.1, J.2.2 ++ bs)) : ∀ {d p op dep na nm q : Nat} {J J' : JT}, JW s p J → op ≤ J.1 → na + nm ≤ J.2.2.length → rv s d p J op dep na nm = .inr (q, J') → P J → P J' := by
  intro d
  induction d with
  | zero => exact fun _ _ _ h => absurd h (by simp [rv])
  | succ d ih =>
    intro p op dep na nm q J J' hw ho hm h hP
    rw [rv] at h
    split at h
    · exact absurd h (by simp)
    · rename_i hbad
      have hk := kdB_le (cd s p)
      have hi := cd_in (s := s) (p := p) (fun e => hbad (Or.inl (by rw [e]; rfl)))
      split at h
      · cases h1 : wdR s (wdB (kdB (cd s p))) p with
        | inl x => rw [h1] at h; exact absurd h (by simp [sB])
        | inr x =>
          rw [h1] at h
          have g2 := congrArg Prod.snd (Sum.inr.inj h)
          simp only at g2
          rw [← g2]
          exact hb _ _ _ _ _ _ hP ho
      · split at h
        · cases h1 : nmS s p (nmR s p) with
          | inl x => rw [h1] at h; exact absurd h (by simp [sB])
          | inr x =>
            rw [h1] at h
            have g2 := congrArg Prod.snd (Sum.inr.inj h)
            simp only at g2
            rw [← g2]
            exact hs _ _ _ (hb _ _ _ _ _ _ hP ho)
        · split at h
          · cases h1 : stR s p with
            | inl x => rw [h1] at h; exact absurd h (by simp [sB])
            | inr x =>
              rw [h1] at h
              have g2 := congrArg Prod.snd (Sum.inr.inj h)
              simp only at g2
              rw [← g2]
              exact hs _ _ _ (hb _ _ _ _ _ _ hP ho)
          · have hP1 := hb J (kdB (cd s p)) p op na nm hP ho
            unfold mnR at h
            split at h
            · have g2 := congrArg Prod.snd (Sum.inr.inj h)
              simp only at g2
              rw [← g2]
              exact hP1
            · have w := bgn_W (kd := kdB (cd s p)) hw (by omega) (by omega) ho hm
              have l2 := skb_len (s := s) (p := p + 1) (by omega)
              have l1 := skb_le s (p + 1)
              exact lp_inv (v := J.1) hp (fun p' J2 na' nm' q' J3 hw' hv' hm' hr' => rv_ok hw' (by omega) hm' hr') (fun p' J2 na' nm' q' J3 hw' hv' hm' hr' hP' => ih hw' (by omega) hm' hr' hP') (w.mono (by omega) l2) (Nat.lt_succ_self _) h hP1
theorem rd_inv {s : List UInt8} {P : JT → Prop} (hb : ∀ J kd p op na nm, P J → op ≤ J.1 → P (bgn J kd p op na nm)) (hs : ∀ J i bs, P J → P (snm J i bs)) (hp : ∀ J bs, P J → P (J.1, J.2.1, J.2.2 ++ bs)) (h0 : P (0, (fun _ _ => 0), [])) {J : JT} (h : rdT s = .inr J) : P J := by
  unfold rdT at h
  have w0 : JW s (skb s 0) (0, (fun _ _ => 0), []) := ⟨Nat.zero_le _, skb_len (Nat.zero_le _), Nat.zero_le _, fun i hi => absurd hi (Nat.not_lt_zero _)⟩
  cases hr : rv s 45 (skb s 0) (0, (fun _ _ => 0), []) 0 0 0 0 with
  | inl q => rw [hr] at h; exact absurd h (by simp [sB])
  | inr z =>
    obtain ⟨q, J2⟩ := z
    rw [hr] at h
    have h : (if skb s q < s.length then Sum.inl (skb s q) else Sum.inr J2 : Nat ⊕ JT) = .inr J := h
    split at h
    · exact absurd h (by simp)
    · rw [← Sum.inr.inj h]
      exact rv_inv hb hs hp w0 (Nat.le_refl _) (Nat.le_refl _) hr h0
/-- who is in nothing has no place -/
def JZ (J : JT) : Prop := ∀ i, i < J.1 → J.2.1 2 i = 0 → J.2.1 3 i = 0
theorem rd_Z {s : List UInt8} {J : JT} (h : rdT s = .inr J) : JZ J := by
  refine rd_inv (P := JZ) (fun J kd p op na nm hP ho i hi => ?_) (fun J i bs hP j hj => ?_) (fun J bs hP => hP) (fun i hi => absurd hi (Nat.not_lt_zero _)) h
  · have hi : i < J.1 + 1 := hi
    show bgT J.2.1 J.1 kd p op J.2.2.length na nm 2 i = 0 → bgT J.2.1 J.1 kd p op J.2.2.length na nm 3 i = 0
    by_cases e : i = J.1
    · subst e
      rw [bgT_n, bgT_n]
      intro q
      have q : op = 0 := q
      show (if op = 0 then 0 else _) = 0
      rw [if_pos q]
    · rw [bgT_o e (by omega), bgT_o e (by omega)]
      exact hP i (by omega)
  · exact hP j hj
def ix (J : JT) (x : Int32) : Option Nat := if x < 0 then none else if x.toNatClampNeg < J.1 then some x.toNatClampNeg else none
theorem ix_n {J : JT} {i : Nat} (h : i < 2 ^ 31) : ix J (Int32.ofNat i) = if i < J.1 then some i else none := by
  unfold ix
  rw [if_neg (nn h), n_at h]
theorem ix_neg {J : JT} {x : Int32} (h : x < 0) : ix J x = none := if_pos h
def valF (J : JT) (x w : Int32) : Int32 := match ix J x with
  | none => -2
  | some i => if w = 0 then (Int32.ofNat (J.2.1 1 i)) else if w = 1 then (if J.2.1 1 i < 5 then (Int32.ofNat (J.2.1 7 i)) else (Int32.ofNat (J.2.1 5 i))) else if w = 2 then paI (J.2.1 2 i) else if w = 3 then (Int32.ofNat (J.2.1 3 i)) else if w = 4 then (Int32.ofNat (J.2.1 4 i)) else -2
def txtF (J : JT) (x : Int32) : Option (List UInt8) := match ix J x with
  | none => none
  | some i => if J.2.1 1 i = 4 ∨ J.2.1 1 i = 3 then some (seg J.2.2 (J.2.1 6 i) (J.2.1 7 i)) else none
def namF (J : JT) (x : Int32) : Option (List UInt8) := match ix J x with
  | none => none
  | some i => if J.2.1 2 i ≠ 0 ∧ J.2.1 1 (J.2.1 2 i - 1) = 6 then some (seg J.2.2 (J.2.1 8 i) (J.2.1 9 i)) else none
def memF (J : JT) (rows : Nat → List UInt8) (x r : Int32) : Int32 := match ix J x with
  | none => -2
  | some i => if J.2.1 1 i = 6 ∧ isr r = true then oI (fN J (rows r.toNatClampNeg) (some i)) else -2
section TC
variable {W : WR} {G : mG} {F : Nat} {S : ST} {t ip : Nat} {J : JT}
theorem Q11_value {x w : Int32} (h : isT W) (h7 : W.r 11 0 7 = some (.o 9 t)) (K : isTx W t ip) (C : TbC (S 9 t) J) (Y : JX J) : P_X11_value G F (W.ad (.o 11 0)) x w (mem W S) = some (valF J x w, mem W S) := by
  have Y2 := Y.2.1
  have e7 : gfR (mem W S) (W.ad (.o 11 0)) 11 7 = some (W.ad (.o 9 t)) := h.gR rfl h7
  unfold P_X11_value valF
  rw [e7, bO_s, rcv_m K.1, bO_s]
  rcases i_cases x with hx | ⟨i, hi, rfl⟩
  · rw [Q9_has_n hx, bP_s, if_pos rfl, ix_neg hx]
  · rw [Q9_has K C Y hi, bP_s, ix_n hi]
    by_cases hj : i < J.1
    · obtain ⟨c1, c2, c3, c4, c5, c6, c7, c8⟩ := C.2 i hj
      have yk := (Y.2.2 i hj).1
      rw [if_pos hj, if_neg (by decide), if_pos hj]
      simp only [e7, bO_s, t9r K 1, t9r K 2, t9r K 3, t9r K 4, t9r K 5, t9r K 7, t9a K 1 i (show i < 600 by omega), t9a K 2 i (show i < 600 by omega), t9a K 3 i (show i < 600 by omega), t9a K 4 i (show i < 600 by omega), t9a K 5 i (show i < 600 by omega), t9a K 7 i (show i < 600 by omega), c1, c2, c3, c4, c5, c7]
      have e5 : ((Int32.ofNat (J.2.1 1 i)) < (5 : Int32)) = (J.2.1 1 i < 5) := propext (n_lt (b := 5) (by omega) (by omega))
      simp only [e5]
      repeat' split
      all_goals rfl
    · rw [if_neg hj, if_pos rfl, if_neg hj]
theorem Q11_text {x : Int32} {tt : List UInt8} {l lp : Bool} (h : isT W) (h7 : W.r 11 0 7 = some (.o 9 t)) (K : isTx W t ip) (C : TbC (S 9 t) J) (Y : JX J) (bp : Byt 8192 (S 0 ip) J.2.2 lp) (hip : ip ≠ 9) (hs : Byt 8192 (S 0 9) tt l) : ∃ o, P_X11_text G F (W.ad (.o 11 0)) x (mem W S) = some (match txtF J x with | some u => (Int32.ofNat u.length) | none => -2, mem W (S.so 0 9 o)) ∧ match txtF J x with | some u => Byt 8192 o u false | none => o = S 0 9 := by
  have Y2 := Y.2.1
  have Y1 := Y.1
  have e7 : gfR (mem W S) (W.ad (.o 11 0)) 11 7 = some (W.ad (.o 9 t)) := h.gR rfl h7
  have no : ∃ o, some ((-2 : Int32), mem W S) = some ((-2 : Int32), mem W (S.so 0 9 o)) ∧ o = S 0 9 := ⟨S 0 9, by rw [so_self], rfl⟩
  unfold P_X11_text txtF
  rw [e7, bO_s, rcv_m K.1, bO_s]
  rcases i_cases x with hx | ⟨i, hi, rfl⟩
  · rw [Q9_has_n hx, bP_s, if_pos rfl, ix_neg hx]
    exact no
  · rw [Q9_has K C Y hi, bP_s, ix_n hi]
    by_cases hj : i < J.1
    · obtain ⟨c1, c2, c3, c4, c5, c6, c7, c8⟩ := C.2 i hj
      obtain ⟨y1, y2, y3, y4, y5, y6, y7⟩ := Y.2.2 i hj
      have sl : (seg J.2.2 (J.2.1 6 i) (J.2.1 7 i)).length = J.2.1 7 i := seg_len y6
      obtain ⟨o, g, b⟩ := Q11_show (G := G) (F := F) (S := S) (i := ip) (p := J.2.1 6 i) (n := J.2.1 7 i) h hs K.2.2.1 bp hip y6 (by omega)
      have b40 : B_X11_text_40 G F (W.ad (.o 11 0)) (Int32.ofNat i) (mem W S) = some ((Int32.ofNat (J.2.1 7 i)), mem W (S.so 0 9 o)) := by
        unfold B_X11_text_40
        rw [e7, bO_s, t9p K, bO_s, bO_s, t9r K 6, bO_s, t9a K 6 i (by omega), bO_s, c6, bO_s, t9r K 7, bO_s, t9a K 7 i (by omega), bO_s, c7, rcv_m h.lo, bO_s, g, bP_s]
      rw [if_pos hj, if_neg (by decide), if_pos hj, e7, bO_s, t9r K 1, bO_s, t9a K 1 i (by omega), bO_s, c1]
      have e4 : ((Int32.ofNat (J.2.1 1 i)) = (4 : Int32)) = (J.2.1 1 i = 4) := propext (n_eq (b := 4) (by omega) (by omega))
      have e3 : ((Int32.ofNat (J.2.1 1 i)) = (3 : Int32)) = (J.2.1 1 i = 3) := propext (n_eq (b := 3) (by omega) (by omega))
      simp only [e4]
      by_cases k4 : J.2.1 1 i = 4
      · simp only [if_pos k4, if_pos (Or.inl k4 : J.2.1 1 i = 4 ∨ J.2.1 1 i = 3), b40, sl]
        exact ⟨o, rfl, b⟩
      · rw [if_neg k4, bO_s, t9r K 1, bO_s, t9a K 1 i (by omega), bO_s, c1]
        simp only [e3]
        by_cases k3 : J.2.1 1 i = 3
        · simp only [if_pos k3, if_pos (Or.inr k3 : J.2.1 1 i = 4 ∨ J.2.1 1 i = 3), b40, sl]
          exact ⟨o, rfl, b⟩
        · simp only [if_neg k3, if_neg (show ¬ (J.2.1 1 i = 4 ∨ J.2.1 1 i = 3) by omega)]
          exact no
    · rw [if_neg hj, if_pos rfl, if_neg hj]
      exact no
theorem paI_oI {op : Nat} : paI op = oI (if op = 0 then none else some (op - 1)) := by
  unfold paI
  by_cases e : op = 0
  · rw [if_pos e, if_pos e]
    rfl
  · rw [if_neg e, if_neg e]
    rfl
theorem Q11_name {x : Int32} {tt : List UInt8} {l lp : Bool} (h : isT W) (h7 : W.r 11 0 7 = some (.o 9 t)) (K : isTx W t ip) (C : TbC (S 9 t) J) (Y : JX J) (bp : Byt 8192 (S 0 ip) J.2.2 lp) (hip : ip ≠ 9) (hs : Byt 8192 (S 0 9) tt l) : ∃ o, P_X11_name G F (W.ad (.o 11 0)) x (mem W S) = some (match namF J x with | some u => (Int32.ofNat u.length) | none => -2, mem W (S.so 0 9 o)) ∧ match namF J x with | some u => Byt 8192 o u false | none => o = S 0 9 := by
  have Y2 := Y.2.1
  have Y1 := Y.1
  have e7 : gfR (mem W S) (W.ad (.o 11 0)) 11 7 = some (W.ad (.o 9 t)) := h.gR rfl h7
  have no : ∃ o, some ((-2 : Int32), mem W S) = some ((-2 : Int32), mem W (S.so 0 9 o)) ∧ o = S 0 9 := ⟨S 0 9, by rw [so_self], rfl⟩
  unfold P_X11_name namF
  rw [e7, bO_s, rcv_m K.1, bO_s]
  rcases i_cases x with hx | ⟨i, hi, rfl⟩
  · rw [Q9_has_n hx, bP_s, if_pos rfl, ix_neg hx]
    exact no
  · rw [Q9_has K C Y hi, bP_s, ix_n hi]
    by_cases hj : i < J.1
    · obtain ⟨c1, c2, c3, c4, c5, c6, c7, c8⟩ := C.2 i hj
      obtain ⟨y1, y2, y3, y4, y5, y6, y7⟩ := Y.2.2 i hj
      have kb : kB J (if J.2.1 2 i = 0 then none else some (J.2.1 2 i - 1)) 6 = true ↔ J.2.1 2 i ≠ 0 ∧ J.2.1 1 (J.2.1 2 i - 1) = 6 := by
        by_cases e : J.2.1 2 i = 0
        · rw [if_pos e]
          exact ⟨fun q => absurd (show false = true from q) (by decide), fun q => absurd e q.1⟩
        · rw [if_neg e]
          show (decide (J.2.1 2 i - 1 < J.1) && decide (J.2.1 1 (J.2.1 2 i - 1) = 6)) = true ↔ _
          rw [Bool.and_eq_true, decide_eq_true_iff, decide_eq_true_iff]
          exact ⟨fun q => ⟨e, q.2⟩, fun q => ⟨by omega, q.2⟩⟩
      rw [if_pos hj, if_neg (by decide), if_pos hj, e7, bO_s, bO_s, t9r K 2, bO_s, t9a K 2 i (by omega), bO_s, c2, rcv_m K.1, bO_s, paI_oI, show (6 : Int32) = (Int32.ofNat 6) from rfl, Q9_isKind K C Y (fun j hj2 => by split at hj2; exact absurd hj2 (by simp); have := Option.some.inj hj2; omega) (by decide), bP_s]
      by_cases m : J.2.1 2 i ≠ 0 ∧ J.2.1 1 (J.2.1 2 i - 1) = 6
      · obtain ⟨c8, c9⟩ := c8 m
        have sl : (seg J.2.2 (J.2.1 8 i) (J.2.1 9 i)).length = J.2.1 9 i := seg_len y7
        obtain ⟨o, g, b⟩ := Q11_show (G := G) (F := F) (S := S) (i := ip) (p := J.2.1 8 i) (n := J.2.1 9 i) h hs K.2.2.1 bp hip y7 (by omega)
        rw [if_pos (kb.mpr m), if_neg (by decide), e7, bO_s, t9p K, bO_s, bO_s, t9r K 8, bO_s, t9a K 8 i (by omega), bO_s, c8, bO_s, t9r K 9, bO_s, t9a K 9 i (by omega), bO_s, c9, rcv_m h.lo, bO_s, g, bP_s]
        simp only [if_pos m, sl]
        exact ⟨o, rfl, b⟩
      · rw [if_neg (fun q => m (kb.mp q)), if_pos rfl]
        simp only [if_neg m]
        exact no
    · rw [if_neg hj, if_pos rfl, if_neg hj]
      exact no
theorem Q11_member {x r : Int32} {rows : Nat → List UInt8} {lp : Bool} (X : Cx G F W) (h : isT W) (h7 : W.r 11 0 7 = some (.o 9 t)) (K : isTx W t ip) (C : TbC (S 9 t) J) (Y : JX J) (bp : Byt 8192 (S 0 ip) J.2.2 lp) (hR : ∀ r, r < 8 → ∃ l, Byt 8192 (S 0 r) (rows r) l) : P_X11_member G F (W.ad (.o 11 0)) x r (mem W S) = some (memF J rows x r, mem W S) := by
  have Y2 := Y.2.1
  have e7 : gfR (mem W S) (W.ad (.o 11 0)) 11 7 = some (W.ad (.o 9 t)) := h.gR rfl h7
  unfold P_X11_member memF
  rw [e7, bO_s, rcv_m K.1, bO_s]
  rcases i_cases x with hx | ⟨i, hi, rfl⟩
  · unfold P_X9_isKind
    rw [rcv_m K.1, bO_s, Q9_has_n hx, bP_s, if_pos rfl, ix_neg hx]
    rfl
  · have ek := Q9_isKind (G := G) (F := F) (o := some i) (kd := 6) K C Y (fun j hj => by have := Option.some.inj hj; omega) (by decide)
    have ek : P_X9_isKind G F (W.ad (.o 9 t)) (Int32.ofNat i) 6 (mem W S) = some (if (decide (i < J.1) && decide (J.2.1 1 i = 6)) = true then 1 else 0, mem W S) := ek
    rw [ek, bP_s, ix_n hi]
    by_cases hj : i < J.1
    · rw [decide_eq_true hj, Bool.true_and, if_pos hj]
      by_cases k6 : J.2.1 1 i = 6
      · rw [if_pos (decide_eq_true k6), if_neg (by decide), rcv_m h.lo, bO_s, Q11_isRow, bP_s]
        rcases isr_cases r with hr | ⟨r', hr', rfl, hr⟩
        · rw [hr, if_pos (by rfl)]
          simp only [Bool.false_eq_true, and_false, if_false]
        · obtain ⟨lr, br⟩ := hR r' hr'
          have hle := br.le
          have nm := Q9_named (G := G) (F := F) (ib := r') (fr := 0) (c := (rows r').length) (o := some i) X K C Y bp (h.rb r' hr') br (by omega) (seg_all rfl) (by omega) (fun j hj => by have := Option.some.inj hj; omega)
          have nm : P_X9_named G F (W.ad (.o 9 t)) (Int32.ofNat i) (W.ad (.o 0 r')) 0 (Int32.ofNat (rows r').length) (mem W S) = _ := nm
          rw [hr, if_neg (by decide), e7, bO_s, h.gR rfl h.ra, bO_s, h.row hr', bO_s, bO_s, h.row hr', bO_s, (h.rb r' hr').gI 1 rfl, bO_s, br.many, rcv_m K.1, bO_s, nm, bP_s, n_at (by omega)]
          simp only [k6, and_self, if_true]
      · rw [decide_eq_false k6, if_neg (show ¬ false = true by decide), if_pos rfl]
        simp only [k6, false_and, if_false]
    · rw [decide_eq_false hj, Bool.false_and, if_neg (show ¬ false = true by decide), if_pos rfl, if_neg hj]
end TC
