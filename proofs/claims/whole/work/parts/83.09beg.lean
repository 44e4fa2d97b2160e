/-! TEXTS OF VALUES: the class's reader, a step at a time -/
section STEP
variable {W : WR} {G : mG} {F : Nat} {S : ST} {is_ ip t rs : Nat} {s : List UInt8} {ls : Bool} {o b x : Ob} {J : JT}
theorem x7_9 : R7 (S.so 9 t x) ip o b 9 t = x := by unfold R7; rw [so_ne (by omega), so_ne (by omega), so_eq]
theorem x7_so {x' : Ob} : (R7 (S.so 9 t x) ip o b).so 9 t x' = R7 (S.so 9 t x') ip o b := by
  unfold R7
  rw [so_comm (by omega), so_comm (S := S.so 9 t x) (by omega), so_so]
theorem x9f (K : isRd W is_ ip t rs) : gfI (mem W (R7 (S.so 9 t x) ip o b)) (W.ad (.o 9 t)) 9 0 = some (x.f 0) := by rw [t9f K.tx, x7_9]
theorem x9p {v : Int32} (K : isRd W is_ ip t rs) : pfv (mem W (R7 (S.so 9 t x) ip o b)) (W.ad (.o 9 t)) 9 0 (.int v) = some (mem W (R7 (S.so 9 t (x.sf 0 v)) ip o b)) := by rw [pfI_m K.tx.1 rfl, x7_9, x7_so]
theorem x9a (K : isRd W is_ ip t rs) (k i : Nat) (hi : i < 600) (h1 : 1 ≤ k := by decide) (h9 : k ≤ 9 := by decide) : aI G (mem W (R7 (S.so 9 t x) ip o b)) 0 (W.ad (.a 9 t k)) (Int32.ofNat i) = some (x.a k i) := by rw [t9a K.tx k i hi h1 h9, x7_9]
theorem x9s {v : Int32} (K : isRd W is_ ip t rs) (k i : Nat) (hi : i < 600) (h1 : 1 ≤ k := by decide) (h9 : k ≤ 9 := by decide) : sI (mem W (R7 (S.so 9 t x) ip o b)) 0 (W.ad (.a 9 t k)) (Int32.ofNat i) v = some (mem W (R7 (S.so 9 t (x.sA k (upd (x.a k) i v))) ip o b)) := by
  rw [sI_m (K.tx.2.2.2 k h1 h9).1 (t9k h1 h9).2 (by decide) (by decide) (by rw [(K.tx.2.2.2 k h1 h9).2.2]; exact inB_n hi (by decide)), n_at (by omega), x7_9, x7_so]
theorem paI_lt0 {op : Nat} (h : op < 2 ^ 31) : (paI op < 0) = (op = 0) := by
  unfold paI
  by_cases e : op = 0
  · rw [if_pos e]
    exact propext ⟨fun _ => e, fun _ => by decide⟩
  · rw [if_neg e]
    exact propext ⟨fun q => absurd q (nn (by omega)), fun q => absurd q e⟩
/-- a text's object with one more value -/
def bgO (x : Ob) (n : Nat) (kd p pl pr : Int32) : Ob := (((((((x.sf 0 (Int32.ofNat (n + 1))).sA 1 (upd (x.a 1) n kd)).sA 4 (upd (x.a 4) n p)).sA 2 (upd (x.a 2) n pr)).sA 5 (upd (x.a 5) n 0)).sA 6 (upd (x.a 6) n pl)).sA 7 (upd (x.a 7) n 0)).sA 3 (upd (x.a 3) n 0)
theorem Q9_begin {kd p op : Nat} {pl : List UInt8} {lp : Bool} (K : isRd W is_ ip t rs) (C : TbC x J) (hn : J.1 < 600) (ho : op ≤ J.1) (hb : Byt 8192 b pl lp) : ∃ x', P_X9_begin G F (W.ad (.o 9 t)) (Int32.ofNat kd) (Int32.ofNat p) (paI op) (mem W (R7 (S.so 9 t x) ip o b)) = some ((Int32.ofNat J.1), mem W (R7 (S.so 9 t x') ip o b)) ∧ x' = (if op = 0 then bgO x J.1 (Int32.ofNat kd) (Int32.ofNat p) (Int32.ofNat pl.length) (paI op) else ((bgO x J.1 (Int32.ofNat kd) (Int32.ofNat p) (Int32.ofNat pl.length) (paI op)).sA 3 (upd (upd (x.a 3) J.1 0) J.1 ((upd (x.a 5) J.1 0) (op - 1)))).sA 5 (upd (upd (x.a 5) J.1 0) (op - 1) ((upd (x.a 5) J.1 0) (op - 1) + 1))) := by
  unfold P_X9_begin
  rw [x9f K, bO_s, bO_s, C.1, n_i1, x9p K, bO_s, t9r K.tx 1, bO_s, x9s K 1 J.1 hn, bO_s, t9r K.tx 4, bO_s, x9s K 4 J.1 hn, bO_s, t9r K.tx 2, bO_s, x9s K 2 J.1 hn, bO_s, t9r K.tx 5, bO_s, show (0 : Int32) = (Int32.ofNat 0) from rfl, x9s K 5 J.1 hn, bO_s, t9r K.tx 6, bO_s, t9p K.tx, bO_s, K.2.2.2.2.1.gI 1 rfl, bO_s, r7_p, hb.many, x9s K 6 J.1 hn, bO_s, t9r K.tx 7, bO_s, x9s K 7 J.1 hn, bO_s, t9r K.tx 3, bO_s, x9s K 3 J.1 hn, bO_s]
  have eb : ((((((((x.sf 0 (Int32.ofNat (J.1 + 1))).sA 1 (upd ((x.sf 0 (Int32.ofNat (J.1 + 1))).a 1) J.1 (Int32.ofNat kd))).sA 4 (upd (((x.sf 0 (Int32.ofNat (J.1 + 1))).sA 1 (upd ((x.sf 0 (Int32.ofNat (J.1 + 1))).a 1) J.1 (Int32.ofNat kd))).a 4) J.1 (Int32.ofNat p))).sA 2 (upd ((((x.sf 0 (Int32.ofNat (J.1 + 1))).sA 1 (upd ((x.sf 0 (Int32.ofNat (J.1 + 1))).a 1) J.1 (Int32.ofNat kd))).sA 4 (upd (((x.sf 0 (Int32.ofNat (J.1 + 1))).sA 1 (upd ((x.sf 0 (Int32.ofNat (J.1 + 1))).a 1) J.1 (Int32.ofNat kd))).a 4) J.1 (Int32.ofNat p))).a 2) J.1 (paI op))).sA 5 (upd (x.a 5) J.1 (Int32.ofNat 0))).sA 6 (upd (x.a 6) J.1 (Int32.ofNat pl.length))).sA 7 (upd (x.a 7) J.1 (Int32.ofNat 0))).sA 3 (upd (x.a 3) J.1 (Int32.ofNat 0))) = bgO x J.1 (Int32.ofNat kd) (Int32.ofNat p) (Int32.ofNat pl.length) (paI op) := rfl
  by_cases e : op = 0
  · rw [if_pos e, if_pos (show paI op < (Int32.ofNat 0) by rw [show (Int32.ofNat 0) = (0 : Int32) from rfl, paI_lt0 (by omega)]; exact e)]
    exact ⟨_, rfl, eb⟩
  · have ep : paI op = (Int32.ofNat (op - 1)) := if_neg e
    rw [if_neg e, if_neg (show ¬ paI op < (Int32.ofNat 0) by rw [show (Int32.ofNat 0) = (0 : Int32) from rfl, paI_lt0 (by omega)]; exact e), t9r K.tx 3, bO_s, t9r K.tx 5, bO_s, ep, x9a K 5 (op - 1) (by omega), bO_s, x9s K 3 J.1 hn, bO_s, t9r K.tx 5, bO_s, x9a K 5 (op - 1) (by omega), bO_s, x9s K 5 (op - 1) (by omega), bO_s]
    exact ⟨_, rfl, rfl⟩
theorem bg_C {kd p op na nm : Nat} {u v : Int32} (C : TbC x J) (Y : JX J) (hn : J.1 < 600) (ho : op ≤ J.1) (hm : (op ≠ 0 → J.2.1 1 (op - 1) = 6 → u = (Int32.ofNat na) ∧ v = (Int32.ofNat nm))) : TbC (((if op = 0 then bgO x J.1 (Int32.ofNat kd) (Int32.ofNat p) (Int32.ofNat J.2.2.length) (paI op) else ((bgO x J.1 (Int32.ofNat kd) (Int32.ofNat p) (Int32.ofNat J.2.2.length) (paI op)).sA 3 (upd (upd (x.a 3) J.1 0) J.1 ((upd (x.a 5) J.1 0) (op - 1)))).sA 5 (upd (upd (x.a 5) J.1 0) (op - 1) ((upd (x.a 5) J.1 0) (op - 1) + 1))).sA 8 (upd (x.a 8) J.1 u)).sA 9 (upd (x.a 9) J.1 v)) (bgn J kd p op na nm) := by
  refine ⟨?_, fun i hi => ?_⟩
  · by_cases e : op = 0
    · rw [if_pos e]; rfl
    · rw [if_neg e]; rfl
  · have hi : i < J.1 + 1 := hi
    have mb : mbr (bgT J.2.1 J.1 kd p op J.2.2.length na nm) i → (i = J.1 → op ≠ 0 ∧ J.2.1 1 (op - 1) = 6) ∧ (i ≠ J.1 → mbr J.2.1 i) := by
      rintro ⟨q1, q2⟩
      constructor
      · intro e
        subst e
        rw [bgT_n] at q1 q2
        have q1 : op ≠ 0 := q1
        have q2 : bgT J.2.1 J.1 kd p op J.2.2.length na nm 1 (op - 1) = 6 := q2
        rw [bgT_o (by omega) (by omega)] at q2
        exact ⟨q1, q2⟩
      · intro e
        rw [bgT_o e (by omega)] at q1 q2
        have := (Y.2.2 i (by omega)).2.1
        rw [bgT_o (by omega) (by omega)] at q2
        exact ⟨q1, q2⟩
    show _ = (Int32.ofNat (bgT J.2.1 J.1 kd p op J.2.2.length na nm 1 i)) ∧ _ = paI (bgT J.2.1 J.1 kd p op J.2.2.length na nm 2 i) ∧ _ = (Int32.ofNat (bgT J.2.1 J.1 kd p op J.2.2.length na nm 3 i)) ∧ _ = (Int32.ofNat (bgT J.2.1 J.1 kd p op J.2.2.length na nm 4 i)) ∧ _ = (Int32.ofNat (bgT J.2.1 J.1 kd p op J.2.2.length na nm 5 i)) ∧ _ = (Int32.ofNat (bgT J.2.1 J.1 kd p op J.2.2.length na nm 6 i)) ∧ _ = (Int32.ofNat (bgT J.2.1 J.1 kd p op J.2.2.length na nm 7 i)) ∧ (mbr (bgT J.2.1 J.1 kd p op J.2.2.length na nm) i → _ = (Int32.ofNat (bgT J.2.1 J.1 kd p op J.2.2.length na nm 8 i)) ∧ _ = (Int32.ofNat (bgT J.2.1 J.1 kd p op J.2.2.length na nm 9 i)))
    have a8 : ∀ (y : Ob), ((y.sA 8 (upd (x.a 8) J.1 u)).sA 9 (upd (x.a 9) J.1 v)).a 8 i = if i = J.1 then u else x.a 8 i := fun y => rfl
    have a9 : ∀ (y : Ob), ((y.sA 8 (upd (x.a 8) J.1 u)).sA 9 (upd (x.a 9) J.1 v)).a 9 i = if i = J.1 then v else x.a 9 i := fun y => rfl
    have ak : ∀ (y : Ob) (k : Nat), k ≠ 8 → k ≠ 9 → ((y.sA 8 (upd (x.a 8) J.1 u)).sA 9 (upd (x.a 9) J.1 v)).a k i = y.a k i := fun y k h1 h2 => by rw [sA_a' h2, sA_a' h1]
    rw [ak _ 1 (by decide) (by decide), ak _ 2 (by decide) (by decide), ak _ 3 (by decide) (by decide), ak _ 4 (by decide) (by decide), ak _ 5 (by decide) (by decide), ak _ 6 (by decide) (by decide), ak _ 7 (by decide) (by decide), a8, a9]
    have gk : ∀ k, k ≠ 3 → k ≠ 5 → (if op = 0 then bgO x J.1 (Int32.ofNat kd) (Int32.ofNat p) (Int32.ofNat J.2.2.length) (paI op) else ((bgO x J.1 (Int32.ofNat kd) (Int32.ofNat p) (Int32.ofNat J.2.2.length) (paI op)).sA 3 (upd (upd (x.a 3) J.1 0) J.1 ((upd (x.a 5) J.1 0) (op - 1)))).sA 5 (upd (upd (x.a 5) J.1 0) (op - 1) ((upd (x.a 5) J.1 0) (op - 1) + 1))).a k i = (bgO x J.1 (Int32.ofNat kd) (Int32.ofNat p) (Int32.ofNat J.2.2.length) (paI op)).a k i := by
      intro k h3 h5
      split
      · rfl
      · rw [sA_a' h5, sA_a' h3]
    rw [gk 1 (by decide) (by decide), gk 2 (by decide) (by decide), gk 4 (by decide) (by decide), gk 6 (by decide) (by decide), gk 7 (by decide) (by decide)]
    have b1 : (bgO x J.1 (Int32.ofNat kd) (Int32.ofNat p) (Int32.ofNat J.2.2.length) (paI op)).a 1 i = if i = J.1 then (Int32.ofNat kd) else x.a 1 i := rfl
    have b2 : (bgO x J.1 (Int32.ofNat kd) (Int32.ofNat p) (Int32.ofNat J.2.2.length) (paI op)).a 2 i = if i = J.1 then paI op else x.a 2 i := rfl
    have b4 : (bgO x J.1 (Int32.ofNat kd) (Int32.ofNat p) (Int32.ofNat J.2.2.length) (paI op)).a 4 i = if i = J.1 then (Int32.ofNat p) else x.a 4 i := rfl
    have b6 : (bgO x J.1 (Int32.ofNat kd) (Int32.ofNat p) (Int32.ofNat J.2.2.length) (paI op)).a 6 i = if i = J.1 then (Int32.ofNat J.2.2.length) else x.a 6 i := rfl
    have b7 : (bgO x J.1 (Int32.ofNat kd) (Int32.ofNat p) (Int32.ofNat J.2.2.length) (paI op)).a 7 i = if i = J.1 then 0 else x.a 7 i := rfl
    have b3 : (if op = 0 then bgO x J.1 (Int32.ofNat kd) (Int32.ofNat p) (Int32.ofNat J.2.2.length) (paI op) else ((bgO x J.1 (Int32.ofNat kd) (Int32.ofNat p) (Int32.ofNat J.2.2.length) (paI op)).sA 3 (upd (upd (x.a 3) J.1 0) J.1 ((upd (x.a 5) J.1 0) (op - 1)))).sA 5 (upd (upd (x.a 5) J.1 0) (op - 1) ((upd (x.a 5) J.1 0) (op - 1) + 1))).a 3 i = if i = J.1 then (if op = 0 then 0 else if op - 1 = J.1 then 0 else x.a 5 (op - 1)) else x.a 3 i := by
      by_cases e : op = 0
      · rw [if_pos e, if_pos e]
        rfl
      · rw [if_neg e, if_neg e]
        show (if i = J.1 then _ else if i = J.1 then _ else _) = _
        split
        · rfl
        · rfl
    have b5 : (if op = 0 then bgO x J.1 (Int32.ofNat kd) (Int32.ofNat p) (Int32.ofNat J.2.2.length) (paI op) else ((bgO x J.1 (Int32.ofNat kd) (Int32.ofNat p) (Int32.ofNat J.2.2.length) (paI op)).sA 3 (upd (upd (x.a 3) J.1 0) J.1 ((upd (x.a 5) J.1 0) (op - 1)))).sA 5 (upd (upd (x.a 5) J.1 0) (op - 1) ((upd (x.a 5) J.1 0) (op - 1) + 1))).a 5 i = if i = J.1 then 0 else if i + 1 = op then x.a 5 i + 1 else x.a 5 i := by
      by_cases e : op = 0
      · rw [if_pos e]
        show (if i = J.1 then _ else _) = _
        split
        · rfl
        · rw [if_neg (by omega)]
      · rw [if_neg e]
        show (if i = op - 1 then (if op - 1 = J.1 then 0 else x.a 5 (op - 1)) + 1 else if i = J.1 then 0 else x.a 5 i) = _
        by_cases e2 : i = op - 1
        · rw [if_pos e2, if_neg (by omega), if_neg (by omega), if_pos (by omega), e2]
        · rw [if_neg e2, if_neg (c := i + 1 = op) (by omega)]
    rw [b1, b2, b3, b4, b5, b6, b7]
    by_cases e : i = J.1
    · subst e
      simp only [if_true, bgT_n]
      refine ⟨rfl, rfl, ?_, rfl, rfl, rfl, rfl, fun q => hm ((mb q).1 rfl).1 ((mb q).1 rfl).2⟩
      show _ = (Int32.ofNat (if op = 0 then 0 else J.2.1 5 (op - 1)))
      by_cases e : op = 0
      · rw [if_pos e, if_pos e]
        rfl
      · rw [if_neg e, if_neg e, if_neg (by omega), (C.2 (op - 1) (by omega)).2.2.2.2.1]
    · have Ci := C.2 i (by omega)
      simp only [if_neg e]
      rw [bgT_o (k := 1) e (by omega), bgT_o (k := 2) e (by omega), bgT_o (k := 3) e (by omega), bgT_o (k := 4) e (by omega), bgT_o (k := 6) e (by omega), bgT_o (k := 7) e (by omega), bgT_o (k := 8) e (by omega), bgT_o (k := 9) e (by omega)]
      refine ⟨Ci.1, Ci.2.1, Ci.2.2.1, Ci.2.2.2.1, ?_, Ci.2.2.2.2.2.1, Ci.2.2.2.2.2.2.1, fun q => Ci.2.2.2.2.2.2.2 ((mb q).2 e)⟩
      unfold bgT
      rw [if_neg e]
      by_cases e2 : i + 1 = op
      · rw [if_pos e2, if_pos ⟨rfl, e2⟩, Ci.2.2.2.2.1, n_i1]
      · rw [if_neg e2, if_neg (fun q => e2 q.2), Ci.2.2.2.2.1]
end STEP
