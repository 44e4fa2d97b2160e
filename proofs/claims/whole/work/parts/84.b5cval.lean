/-! VALUES WRITTEN: the class -/
/-- what a Bytes holds when all this was put into it -/
def wrO (o : Ob) (L : List UInt8) : Prop := Byt 8192 o (tkl 8192 [] L) (lsl 8192 [] L false)
def upV (T : Nat → Nat → Nat) : List UInt8 → Nat → Nat → Prop
  | [], o, x => o = x
  | b :: z, o, x => x < o ∧ b = clV T (o - 1) ∧ upV T z (T 2 (o - 1)) x
theorem upV_snoc {T : Nat → Nat → Nat} {v : Nat} (h2 : T 2 v ≤ v) : ∀ {z : List UInt8} {o : Nat}, upV T z o (v + 1) → upV T (z ++ [clV T v]) o (T 2 v) := by
  intro z
  induction z with
  | nil =>
    intro o h
    have h : o = v + 1 := h
    subst h
    exact ⟨by omega, rfl, rfl⟩
  | cons b z ih =>
    intro o h
    obtain ⟨h1, h3, h4⟩ := h
    exact ⟨by omega, h3, ih h4⟩
theorem upV_len {T : Nat → Nat → Nat} {N : Nat} (h2 : ∀ i, i < N → T 2 i ≤ i) : ∀ {z : List UInt8} {o x : Nat}, o ≤ N → upV T z o x → z.length + x ≤ o := by
  intro z
  induction z with
  | nil =>
    intro o x _ h
    have h : o = x := h
    rw [h]
    exact Nat.le_of_eq (Nat.zero_add _)
  | cons b z ih =>
    intro o x ho h
    obtain ⟨h1, h3, h4⟩ := h
    have := h2 (o - 1) (by omega)
    have := ih (by omega) h4
    rw [List.length_cons]
    omega
section CVL
variable {W : WR} {G : mG} {F : Nat} {S : ST} {t ip it : Nat} {J : JT} {lp : Bool} {o : Ob} {L : List UInt8}
theorem w_put {x : Int32} (hT : isB W it 8192) (hw : wrO o L) : ∃ o', P_X0_put G F (W.ad (.o 0 it)) x (mem W (S.so 0 it o)) = some (mem W (S.so 0 it o')) ∧ wrO o' (L ++ [lo8 x]) := by
  obtain ⟨o', g, b⟩ := Q0_put (G := G) (F := F) (S := S.so 0 it o) (x := x) hT (by rw [so_eq]; exact hw)
  rw [so_so] at g
  refine ⟨o', g, ?_⟩
  unfold wrO
  rw [← tkl_tkl, ← lsl_lsl]
  have e : lsl 8192 (tkl 8192 [] L) [lo8 x] (lsl 8192 [] L false) = (lsl 8192 [] L false || decide (8192 ≤ (tkl 8192 [] L).length)) := by
    show (_ || decide (8192 < (tkl 8192 [] L).length + 1)) = _
    congr 1
    exact decide_eq_decide.mpr Nat.lt_succ_iff
  rw [e]
  exact b
theorem w_text {j : Nat} (X : Cx G F W) (hT : isB W it 8192) (hj : j < 124) (hw : wrO o L) : ∃ o', P_X0_putText G F (W.ad (.o 0 it)) (G.1 j) (mem W (S.so 0 it o)) = some (mem W (S.so 0 it o')) ∧ wrO o' (L ++ str j) := by
  obtain ⟨o', g, b⟩ := Q0_putText (G := G) (F := F) (S := S.so 0 it o) X hT hj (by rw [so_eq]; exact hw)
  rw [so_so] at g
  refine ⟨o', g, ?_⟩
  unfold wrO
  rw [← tkl_tkl, ← lsl_lsl]
  exact b
theorem w_part {p n lr : Nat} {ys : List UInt8} {l2 : Bool} (hT : isB W it 8192) (hP : isB W ip lr) (hne : ip ≠ it) (bp : Byt lr (S 0 ip) ys l2) (hle : p + n ≤ ys.length) (hw : wrO o L) : ∃ o', P_X0_putPart G F (W.ad (.o 0 it)) (W.ad (.o 0 ip)) (Int32.ofNat p) (Int32.ofNat n) (mem W (S.so 0 it o)) = some (mem W (S.so 0 it o')) ∧ wrO o' (L ++ seg ys p n) := by
  obtain ⟨o', g, b⟩ := Q0_putPart (G := G) (F := F) (S := S.so 0 it o) hT (by rw [so_eq]; exact hw) hP (by rw [so_ne (by omega)]; exact bp) hle
  rw [so_so] at g
  refine ⟨o', g, ?_⟩
  unfold wrO
  rw [← tkl_tkl, ← lsl_lsl]
  exact b
theorem w_str {p n : Nat} {ys : List UInt8} {l2 : Bool} (X : Cx G F W) (hT : isB W it 8192) (hP : isB W ip 8192) (hne : ip ≠ it) (bp : Byt 8192 (S 0 ip) ys l2) (hle : p + n ≤ ys.length) (hw : wrO o L) : ∃ o', P_X9_putString G F (W.ad (.o 0 ip)) (Int32.ofNat p) (Int32.ofNat n) (W.ad (.o 0 it)) (mem W (S.so 0 it o)) = some (mem W (S.so 0 it o')) ∧ wrO o' (L ++ strP (seg ys p n)) := by
  obtain ⟨o', g, b⟩ := Q9_putString (G := G) (F := F) (S := S.so 0 it o) X hP hT hne hle (by have := bp.le; omega) (by rw [so_ne (by omega)]; exact bp) (by rw [so_eq]; exact hw)
  rw [so_so] at g
  refine ⟨o', g, ?_⟩
  unfold wrO
  rw [← tkl_tkl, ← lsl_lsl]
  exact b
theorem c9I (K : isTx W t ip) (C : TbC (S 9 t) J) : gfI (mem W (S.so 0 it o)) (W.ad (.o 9 t)) 9 0 = some (Int32.ofNat J.1) := by rw [t9f K, so_ne (by omega), C.1]
theorem c9a (K : isTx W t ip) (k i : Nat) (hi : i < 600) (h1 : 1 ≤ k := by decide) (h9 : k ≤ 9 := by decide) : aI G (mem W (S.so 0 it o)) 0 (W.ad (.a 9 t k)) (Int32.ofNat i) = some ((S 9 t).a k i) := by rw [t9a K k i hi h1 h9, so_ne (by omega)]
theorem paI_s (v : Nat) : paI (v + 1) = (Int32.ofNat v) := if_neg (Nat.succ_ne_zero v)
theorem Q9_close_l (K : isTx W t ip) (C : TbC (S 9 t) J) (Y : JX J) (hT : isB W it 8192) {x : Nat} : ∀ (z : List UInt8) (f st y : Nat) (o : Ob) (L : List UInt8), z.length < f → st + z.length ≤ J.1 → y ≤ J.1 → upV J.2.1 z y x → wrO o L → ∃ o', B_X9_closeTo_6 G F f (W.ad (.o 9 t)) (paI x) (W.ad (.o 0 it)) (paI y) (Int32.ofNat st) (mem W (S.so 0 it o)) = some (paI x, mem W (S.so 0 it o')) ∧ wrO o' (L ++ z) := by
  intro z
  induction z with
  | nil =>
    intro f st y o L hf hs hy hu hw
    obtain ⟨f, rfl⟩ : ∃ q, f = q + 1 := ⟨f - 1, by omega⟩
    have hu : y = x := hu
    subst hu
    refine ⟨o, ?_, by rw [List.append_nil]; exact hw⟩
    rw [B_X9_closeTo_6, c9I K C, bO_s]
    split
    · rfl
    · rw [if_pos rfl]
  | cons b z ih =>
    intro f st y o L hf hs hy hu hw
    have Y2 := Y.2.1
    rw [List.length_cons] at hf hs
    obtain ⟨f, rfl⟩ : ∃ q, f = q + 1 := ⟨f - 1, by omega⟩
    obtain ⟨u1, u2, u3⟩ := hu
    obtain ⟨v, rfl⟩ : ∃ v, y = v + 1 := ⟨y - 1, by omega⟩
    rw [show v + 1 - 1 = v from rfl] at u2 u3
    have cv := C.2 v (by omega)
    have yv := Y.2.2 v (by omega)
    have ne : paI (v + 1) ≠ paI x := by
      rw [paI_s]
      intro q
      have := (paI_eq (T := x) (v := v) (by omega) (by omega)).mp q.symm
      omega
    obtain ⟨o1, g1, w1⟩ := w_put (G := G) (F := F) (S := S) (x := if J.2.1 1 v = 6 then 125 else 93) hT hw
    have eb : lo8 (if J.2.1 1 v = 6 then 125 else 93) = b := by
      rw [u2]
      unfold clV
      split <;> rfl
    rw [eb] at w1
    obtain ⟨o2, g2, w2⟩ := ih f (st + 1) (J.2.1 2 v) o1 _ (by omega) (by omega) (by omega) u3 w1
    rw [List.append_assoc] at w2
    refine ⟨o2, ?_, w2⟩
    rw [B_X9_closeTo_6, c9I K C, bO_s, if_neg (fun q => absurd ((n_le (by omega) (by omega)).mp q) (by omega)), if_neg ne, paI_s, if_neg (nn (by omega)), t9r K 1, bO_s, c9a K 1 v (by omega), bO_s, cv.1]
    have e6 : ((Int32.ofNat (J.2.1 1 v)) = (6 : Int32)) = (J.2.1 1 v = 6) := propext (n_eq (b := 6) (by omega) (by decide))
    by_cases h6 : J.2.1 1 v = 6
    · rw [if_pos h6] at g1
      rw [if_pos (e6.mpr h6), rcv_m hT.1, bO_s, g1, bO_s, t9r K 2, bO_s, c9a K 2 v (by omega), bO_s, cv.2.1, n_i1, g2]
    · rw [if_neg h6] at g1
      rw [if_neg (fun q => h6 (e6.mp q)), rcv_m hT.1, bO_s, g1, bO_s, t9r K 2, bO_s, c9a K 2 v (by omega), bO_s, cv.2.1, n_i1, g2]
theorem Q9_closeTo {x y : Nat} {z : List UInt8} (X : Cx G F W) (K : isTx W t ip) (C : TbC (S 9 t) J) (Y : JX J) (hT : isB W it 8192) (hy : y ≤ J.1) (hu : upV J.2.1 z y x) (hw : wrO o L) : ∃ o', P_X9_closeTo G F (W.ad (.o 9 t)) (paI x) (paI y) (W.ad (.o 0 it)) (mem W (S.so 0 it o)) = some (paI x, mem W (S.so 0 it o')) ∧ wrO o' (L ++ z) := by
  have hF := X.hF
  have Y2 := Y.2.1
  have hl := upV_len (fun i hi => (Y.2.2 i hi).2.1) hy hu
  exact Q9_close_l (G := G) (F := F) K C Y hT z F 0 y o L (by omega) (by omega) hy hu hw
def stV (T : Nat → Nat → Nat) (pl : List UInt8) (v : Nat) : List UInt8 := if T 1 v < 5 then scV T pl v else [opV T v]
theorem Q9_putStart {v : Nat} (X : Cx G F W) (K : isTx W t ip) (C : TbC (S 9 t) J) (Y : JX J) (hT : isB W it 8192) (hne : ip ≠ it) (bp : Byt 8192 (S 0 ip) J.2.2 lp) (hv : v < J.1) (hw : wrO o L) : ∃ o', P_X9_putStart G F (W.ad (.o 9 t)) (Int32.ofNat v) (W.ad (.o 0 it)) (mem W (S.so 0 it o)) = some (mem W (S.so 0 it o')) ∧ wrO o' (L ++ stV J.2.1 J.2.2 v) := by
  have Y2 := Y.2.1
  have cv := C.2 v hv
  have yv := Y.2.2 v hv
  have ek : ∀ n : Nat, n < 100 → ((Int32.ofNat (J.2.1 1 v)) = (Int32.ofNat n)) = (J.2.1 1 v = n) := fun n hn => propext (n_eq (by omega) (by omega))
  unfold P_X9_putStart
  rw [t9r K 1, bO_s, c9a K 1 v (by omega), bO_s, cv.1]
  by_cases k0 : J.2.1 1 v = 0
  · obtain ⟨o1, g1, w1⟩ := w_text (G := G) (F := F) (S := S) (j := 12) X hT (by decide) hw
    refine ⟨o1, ?_, ?_⟩
    · rw [if_pos (by rw [k0]; rfl), rcv_m hT.1, bO_s, g1, bO_s]
    · rw [show stV J.2.1 J.2.2 v = str 12 by unfold stV scV; rw [k0]; rfl]
      exact w1
  rw [if_neg (show ¬ (Int32.ofNat (J.2.1 1 v)) = 0 from fun q => k0 ((ek 0 (by decide)).mp q))]
  by_cases k1 : J.2.1 1 v = 1
  · obtain ⟨o1, g1, w1⟩ := w_text (G := G) (F := F) (S := S) (j := 13) X hT (by decide) hw
    refine ⟨o1, ?_, ?_⟩
    · rw [if_pos (by rw [k1]; rfl), rcv_m hT.1, bO_s, g1, bO_s]
    · rw [show stV J.2.1 J.2.2 v = str 13 by unfold stV scV; rw [k1]; rfl]
      exact w1
  rw [if_neg (show ¬ (Int32.ofNat (J.2.1 1 v)) = 1 from fun q => k1 ((ek 1 (by decide)).mp q))]
  by_cases k2 : J.2.1 1 v = 2
  · obtain ⟨o1, g1, w1⟩ := w_text (G := G) (F := F) (S := S) (j := 14) X hT (by decide) hw
    refine ⟨o1, ?_, ?_⟩
    · rw [if_pos (by rw [k2]; rfl), rcv_m hT.1, bO_s, g1, bO_s]
    · rw [show stV J.2.1 J.2.2 v = str 14 by unfold stV scV; rw [k2]; rfl]
      exact w1
  rw [if_neg (show ¬ (Int32.ofNat (J.2.1 1 v)) = 2 from fun q => k2 ((ek 2 (by decide)).mp q))]
  by_cases k3 : J.2.1 1 v = 3
  · obtain ⟨o1, g1, w1⟩ := w_part (G := G) (F := F) (S := S) (p := J.2.1 6 v) (n := J.2.1 7 v) hT K.2.2.1 hne bp (by omega) hw
    refine ⟨o1, ?_, ?_⟩
    · rw [if_pos (by rw [k3]; rfl), t9p K, bO_s, t9r K 6, bO_s, c9a K 6 v (by omega), bO_s, t9r K 7, bO_s, c9a K 7 v (by omega), bO_s, rcv_m hT.1, bO_s, cv.2.2.2.2.2.1, cv.2.2.2.2.2.2.1, g1, bO_s]
    · rw [show stV J.2.1 J.2.2 v = seg J.2.2 (J.2.1 6 v) (J.2.1 7 v) by unfold stV scV; rw [k3]; rfl]
      exact w1
  rw [if_neg (show ¬ (Int32.ofNat (J.2.1 1 v)) = 3 from fun q => k3 ((ek 3 (by decide)).mp q))]
  by_cases k4 : J.2.1 1 v = 4
  · obtain ⟨o1, g1, w1⟩ := w_str (G := G) (F := F) (S := S) (p := J.2.1 6 v) (n := J.2.1 7 v) X hT K.2.2.1 hne bp (by omega) hw
    refine ⟨o1, ?_, ?_⟩
    · rw [if_pos (by rw [k4]; rfl), t9p K, bO_s, t9r K 6, bO_s, c9a K 6 v (by omega), bO_s, t9r K 7, bO_s, c9a K 7 v (by omega), bO_s, cv.2.2.2.2.2.1, cv.2.2.2.2.2.2.1, g1, bO_s]
    · rw [show stV J.2.1 J.2.2 v = strP (seg J.2.2 (J.2.1 6 v) (J.2.1 7 v)) by unfold stV scV; rw [k4]; rfl]
      exact w1
  rw [if_neg (show ¬ (Int32.ofNat (J.2.1 1 v)) = 4 from fun q => k4 ((ek 4 (by decide)).mp q))]
  have s5 : stV J.2.1 J.2.2 v = [opV J.2.1 v] := by unfold stV; exact if_neg (by omega)
  rw [s5]
  by_cases k5 : J.2.1 1 v = 5
  · obtain ⟨o1, g1, w1⟩ := w_put (G := G) (F := F) (S := S) (x := 91) hT hw
    refine ⟨o1, ?_, ?_⟩
    · rw [if_pos (by rw [k5]; rfl), rcv_m hT.1, bO_s, g1, bO_s]
    · rw [show opV J.2.1 v = lo8 91 by unfold opV; rw [k5]; rfl]
      exact w1
  rw [if_neg (show ¬ (Int32.ofNat (J.2.1 1 v)) = 5 from fun q => k5 ((ek 5 (by decide)).mp q))]
  · obtain ⟨o1, g1, w1⟩ := w_put (G := G) (F := F) (S := S) (x := 123) hT hw
    refine ⟨o1, ?_, ?_⟩
    · rw [rcv_m hT.1, bO_s, g1, bO_s]
    · rw [show opV J.2.1 v = lo8 123 by unfold opV; rw [if_pos (by omega)]; rfl]
      exact w1
/-- one value of the loop: all that is in it -/
def cSub (W : WR) (G : mG) (F : Nat) (S : ST) (t it : Nat) (J : JT) (top : Nat) (R : Nat → Nat → List UInt8 → Prop) : Prop := ∀ v e Lv n op o L, R v e Lv → top ≤ v → e ≤ J.1 → op ≤ v → wrO o L → ∃ o' X z y, B_X9_putValue_105 G F (B_X9_putValue_5 G F (n + (e - v - 1))) (W.ad (.o 9 t)) (Int32.ofNat top) (W.ad (.o 0 it)) (paI op) (Int32.ofNat v) (mem W (S.so 0 it o)) = B_X9_putValue_5 G F n (W.ad (.o 9 t)) (Int32.ofNat top) (W.ad (.o 0 it)) (paI y) (Int32.ofNat e) (mem W (S.so 0 it o')) ∧ wrO o' (L ++ X) ∧ y ≤ e ∧ X ++ z = Lv ∧ ((J.2.1 1 v < 5 ∧ y = op ∧ z = []) ∨ (5 ≤ J.2.1 1 v ∧ upV J.2.1 z y (J.2.1 2 v) ∧ 0 < y))
theorem Q9_kids {top v : Nat} {R : Nat → Nat → List UInt8 → Prop} (X : Cx G F W) (K : isTx W t ip) (C : TbC (S 9 t) J) (Y : JX J) (hT : isB W it 8192) (hne : ip ≠ it) (bp : Byt 8192 (S 0 ip) J.2.2 lp) (hR : cSub W G F S t it J top R) (htv : top ≤ v) (hv : v < J.1) : ∀ (r k e n m y : Nat) (z L' L : List UInt8) (o : Ob), kdO R J.2.1 J.2.2 v r k e n L' → v < k → e ≤ J.1 → y ≤ k → upV J.2.1 z y (v + 1) → wrO o L → ∃ o' X' z' y', B_X9_putValue_5 G F (m + (e - k)) (W.ad (.o 9 t)) (Int32.ofNat top) (W.ad (.o 0 it)) (paI y) (Int32.ofNat k) (mem W (S.so 0 it o)) = B_X9_putValue_5 G F m (W.ad (.o 9 t)) (Int32.ofNat top) (W.ad (.o 0 it)) (paI y') (Int32.ofNat e) (mem W (S.so 0 it o')) ∧ wrO o' (L ++ X') ∧ y' ≤ e ∧ upV J.2.1 z' y' (v + 1) ∧ X' ++ z' = z ++ L' := by
  have Y2 := Y.2.1
  intro r
  induction r with
  | zero =>
    intro k e n m y z L' L o h hk he hy hu hw
    obtain ⟨h1, h2⟩ := h
    subst h1
    refine ⟨o, [], z, y, ?_, by rw [List.append_nil]; exact hw, hy, hu, by rw [h2, List.append_nil]; rfl⟩
    rw [Nat.sub_self, Nat.add_zero]
  | succ r ih =>
    intro k e n m y z L' L o h hk he hy hu hw
    obtain ⟨a1, a2, k', L1, L2, b1, b2, b3, b4, b5⟩ := h
    have ck := C.2 k (by omega)
    have yk := Y.2.2 k (by omega)
    have yv := Y.2.2 v hv
    obtain ⟨f, hf⟩ : ∃ f, m + (e - k) = f + 1 := ⟨m + (e - k) - 1, by omega⟩
    have hf2 : f = (m + (e - k')) + (k' - k - 1) := by omega
    obtain ⟨o1, g1, w1⟩ := Q9_closeTo (G := G) (F := F) (S := S) X K C Y hT (by omega) hu hw
    have pk : paI (J.2.1 2 k) = (Int32.ofNat v) := by rw [a1, paI_s]
    have fin : ∀ (o2 : Ob), wrO o2 (L ++ z ++ (spV n ++ nmV J.2.1 J.2.2 v k)) → ∃ o' X' z' y', B_X9_putValue_105 G F (B_X9_putValue_5 G F f) (W.ad (.o 9 t)) (Int32.ofNat top) (W.ad (.o 0 it)) (Int32.ofNat v) (Int32.ofNat k) (mem W (S.so 0 it o2)) = B_X9_putValue_5 G F m (W.ad (.o 9 t)) (Int32.ofNat top) (W.ad (.o 0 it)) (paI y') (Int32.ofNat e) (mem W (S.so 0 it o')) ∧ wrO o' (L ++ X') ∧ y' ≤ e ∧ upV J.2.1 z' y' (v + 1) ∧ X' ++ z' = z ++ L' := by
      intro o2 w2
      obtain ⟨o3, X1, z1, y1, g3, w3, l3, e3, d3⟩ := hR k k' L1 (m + (e - k')) (v + 1) o2 _ b3 (by omega) (by omega) (by omega) w2
      have u3 : upV J.2.1 z1 y1 (v + 1) := by
        rcases d3 with ⟨_, q1, q2⟩ | ⟨_, q1, _⟩
        · rw [q1, q2]
          exact rfl
        · rw [a1] at q1
          exact q1
      obtain ⟨o4, X2, z2, y2, g4, w4, l4, u4, e4⟩ := ih k' e (n + 1) m y1 z1 L2 _ o3 b4 (by omega) he l3 u3 w3
      refine ⟨o4, z ++ ((spV n ++ nmV J.2.1 J.2.2 v k) ++ (X1 ++ X2)), z2, y2, ?_, ?_, l4, u4, ?_⟩
      · rw [hf2, ← paI_s v, g3, g4]
      · rw [List.append_assoc, List.append_assoc, List.append_assoc] at w4
        exact w4
      · rw [b5, ← e3]
        simp only [List.append_assoc]
        rw [e4]
    have b67 : ∀ (o2 : Ob), wrO o2 (L ++ z ++ spV n) → ∃ o' X' z' y', B_X9_putValue_67 G F (B_X9_putValue_5 G F f) (W.ad (.o 9 t)) (Int32.ofNat top) (W.ad (.o 0 it)) (Int32.ofNat v) (Int32.ofNat k) (mem W (S.so 0 it o2)) = B_X9_putValue_5 G F m (W.ad (.o 9 t)) (Int32.ofNat top) (W.ad (.o 0 it)) (paI y') (Int32.ofNat e) (mem W (S.so 0 it o')) ∧ wrO o' (L ++ X') ∧ y' ≤ e ∧ upV J.2.1 z' y' (v + 1) ∧ X' ++ z' = z ++ L' := by
      intro o2 w2
      have ik : P_X9_isKind G F (W.ad (.o 9 t)) (Int32.ofNat v) (6 : Int32) (mem W (S.so 0 it o2)) = some (if kB J (some v) 6 = true then 1 else 0, mem W (S.so 0 it o2)) := Q9_isKind (o := some v) (kd := 6) K (by rw [so_ne (by omega)]; exact C) Y (fun i hi => by have := Option.some.inj hi; omega) (by decide)
      have kb : (kB J (some v) 6 = true) = (J.2.1 1 v = 6) := by
        show ((decide (v < J.1) && decide (J.2.1 1 v = 6)) = true) = _
        rw [decide_eq_true hv, Bool.true_and, decide_eq_true_iff]
      unfold B_X9_putValue_67
      rw [rcv_m K.1, bO_s, ik, bP_s]
      by_cases h6 : J.2.1 1 v = 6
      · rw [if_pos (kb.mpr h6), if_neg (by decide)]
        have mb := ck.2.2.2.2.2.2.2 ⟨by omega, by rw [a1]; exact h6⟩
        obtain ⟨o3, g3, w3⟩ := w_str (G := G) (F := F) (S := S) (p := J.2.1 8 k) (n := J.2.1 9 k) X hT K.2.2.1 hne bp (by omega) w2
        obtain ⟨o4, g4, w4⟩ := w_put (G := G) (F := F) (S := S) (x := 58) hT w3
        have w5 : wrO o4 (L ++ z ++ (spV n ++ nmV J.2.1 J.2.2 v k)) := by
          have : nmV J.2.1 J.2.2 v k = strP (seg J.2.2 (J.2.1 8 k) (J.2.1 9 k)) ++ [58] := if_pos h6
          rw [this]
          rw [List.append_assoc, List.append_assoc] at w4
          rw [show lo8 58 = 58 from rfl] at w4
          exact w4
        obtain ⟨o', X', z', y', g, q⟩ := fin o4 w5
        refine ⟨o', X', z', y', ?_, q⟩
        rw [t9p K, bO_s, t9r K 8, bO_s, c9a K 8 k (by omega), bO_s, t9r K 9, bO_s, c9a K 9 k (by omega), bO_s, mb.1, mb.2, g3, bO_s, rcv_m hT.1, bO_s, g4, bO_s, g]
      · rw [if_neg (fun q => h6 (kb.mp q)), if_pos rfl]
        refine fin o2 ?_
        rw [show nmV J.2.1 J.2.2 v k = [] from if_neg h6, List.append_nil]
        exact w2
    have pre : B_X9_putValue_5 G F (m + (e - k)) (W.ad (.o 9 t)) (Int32.ofNat top) (W.ad (.o 0 it)) (paI y) (Int32.ofNat k) (mem W (S.so 0 it o)) = bO (gfR (mem W (S.so 0 it o1)) (W.ad (.o 9 t)) 9 3) fun v52 => bO (aI G (mem W (S.so 0 it o1)) 0 v52 (Int32.ofNat k)) fun v57 => if v57 ≤ 0 then (B_X9_putValue_67 G F (B_X9_putValue_5 G F f) (W.ad (.o 9 t)) (Int32.ofNat top) (W.ad (.o 0 it)) (Int32.ofNat v) (Int32.ofNat k) (mem W (S.so 0 it o1))) else (bO (rcv (mem W (S.so 0 it o1)) (W.ad (.o 0 it)) 0) fun _ => bO (P_X0_put G F (W.ad (.o 0 it)) (44 : Int32) (mem W (S.so 0 it o1))) fun M64 => B_X9_putValue_67 G F (B_X9_putValue_5 G F f) (W.ad (.o 9 t)) (Int32.ofNat top) (W.ad (.o 0 it)) (Int32.ofNat v) (Int32.ofNat k) M64) := by
      rw [hf, B_X9_putValue_5, c9I K C, bO_s, if_neg (fun q => absurd ((n_le (by omega) (by omega)).mp q) (by omega)), if_neg (fun q => absurd ((n_eq (by omega) (by omega)).mp q) (by omega)), t9r K 2, bO_s, c9a K 2 k (by omega), bO_s, ck.2.1, pk, if_neg (fun q => absurd ((n_lt (by omega) (by omega)).mp q) (by omega))]
      unfold B_X9_putValue_31
      rw [if_neg (fun q => absurd ((n_le (by omega) (by omega)).mp q) (by omega)), t9r K 2, bO_s, c9a K 2 k (by omega), bO_s, ck.2.1, pk, rcv_m K.1, bO_s, ← paI_s v, g1, bP_s]
    rw [pre, t9r K 3, bO_s, c9a K 3 k (by omega), bO_s, ck.2.2.1, a2]
    by_cases h0 : n = 0
    · rw [if_pos (by rw [h0]; decide)]
      refine b67 o1 ?_
      rw [show spV n = [] from if_pos h0, List.append_nil]
      exact w1
    · have n6 : n ≤ 600 := by omega
      rw [if_neg (show ¬ (Int32.ofNat n) ≤ (0 : Int32) from fun q => h0 (by have := (n_le (b := 0) (by omega) (by omega)).mp q; omega)), rcv_m hT.1, bO_s]
      obtain ⟨o2, g2, w2⟩ := w_put (G := G) (F := F) (S := S) (x := 44) hT w1
      rw [g2, bO_s]
      refine b67 o2 ?_
      rw [show spV n = [44] from if_neg h0]
      exact w2
theorem Q9_sub {top : Nat} (X : Cx G F W) (K : isTx W t ip) (C : TbC (S 9 t) J) (Y : JX J) (hT : isB W it 8192) (hne : ip ≠ it) (bp : Byt 8192 (S 0 ip) J.2.2 lp) : ∀ d, cSub W G F S t it J top (ouV J.2.1 J.2.2 d) := by
  have Y2 := Y.2.1
  intro d
  induction d with
  | zero => exact fun _ _ _ _ _ _ _ h => absurd h id
  | succ d ih =>
    intro v e Lv n op o L h htv he hop hw
    have hlt := ouV_lt h
    have cv := C.2 v (by omega)
    have yv := Y.2.2 v (by omega)
    obtain ⟨o1, g1, w1⟩ := Q9_putStart (G := G) (F := F) (S := S) X K C Y hT hne bp (show v < J.1 by omega) hw
    unfold B_X9_putValue_105
    rw [rcv_m K.1, bO_s, g1, bO_s, t9r K 1, bO_s, c9a K 1 v (by omega), bO_s, cv.1]
    rcases h with ⟨a, b, c⟩ | ⟨a, b, L', c, d⟩
    · rw [show stV J.2.1 J.2.2 v = scV J.2.1 J.2.2 v from if_pos a, ← c] at w1
      refine ⟨o1, Lv, [], op, ?_, w1, by omega, List.append_nil _, Or.inl ⟨a, rfl, rfl⟩⟩
      rw [if_pos (show (Int32.ofNat (J.2.1 1 v)) < (5 : Int32) from (n_lt (b := 5) (by omega) (by decide)).mpr a), n_i1, b, show n + (v + 1 - v - 1) = n by omega]
    · rw [show stV J.2.1 J.2.2 v = [opV J.2.1 v] from if_neg (by omega)] at w1
      obtain ⟨o2, X2, z2, y2, g2, w2, l2, u2, e2⟩ := Q9_kids (top := top) (v := v) X K C Y hT hne bp ih htv (by omega) _ _ _ _ n (v + 1) [] L' _ o1 c (Nat.lt_succ_self v) he (Nat.le_refl _) rfl w1
      have s2 := upV_snoc (T := J.2.1) (v := v) yv.2.1 u2
      have ly := upV_len (fun i hi => (Y.2.2 i hi).2.1) (show y2 ≤ J.1 by omega) u2
      refine ⟨o2, opV J.2.1 v :: X2, z2 ++ [clV J.2.1 v], y2, ?_, ?_, l2, ?_, Or.inr ⟨a, s2, by omega⟩⟩
      · rw [if_neg (show ¬ (Int32.ofNat (J.2.1 1 v)) < (5 : Int32) from fun q => absurd ((n_lt (b := 5) (by omega) (by decide)).mp q) (by omega)), n_i1, show n + (e - v - 1) = n + (e - (v + 1)) by omega, ← paI_s v, g2]
      · rw [List.append_assoc] at w2
        exact w2
      · rw [d, List.cons_append, ← List.append_assoc, e2]
        rfl
theorem Q9_putValue {v e : Nat} {Lv : List UInt8} (X : Cx G F W) (K : isTx W t ip) (C : TbC (S 9 t) J) (Y : JX J) (hT : isB W it 8192) (hne : ip ≠ it) (bp : Byt 8192 (S 0 ip) J.2.2 lp) (hv : ouV J.2.1 J.2.2 45 v e Lv) (he : e ≤ J.1) (hE : e = J.1 ∨ J.2.1 2 e ≤ v) (hw : wrO o L) : ∃ o', P_X9_putValue G F (W.ad (.o 9 t)) (Int32.ofNat v) (W.ad (.o 0 it)) (mem W (S.so 0 it o)) = some (mem W (S.so 0 it o')) ∧ wrO o' (L ++ Lv) := by
  have Y2 := Y.2.1
  have hF := X.hF
  have hlt := ouV_lt hv
  have cv := C.2 v (by omega)
  obtain ⟨n, hn⟩ : ∃ n, F = ((n + 1) + (e - v - 1)) + 1 := ⟨F - (e - v) - 1, by omega⟩
  obtain ⟨o1, X1, z1, y1, g1, w1, l1, e1, d1⟩ := Q9_sub (top := v) (lp := lp) X K C Y hT hne bp 45 v e Lv (n + 1) 0 o L hv (Nat.le_refl _) he (Nat.zero_le _) hw
  have last : B_X9_putValue_5 G F (n + 1) (W.ad (.o 9 t)) (Int32.ofNat v) (W.ad (.o 0 it)) (paI y1) (Int32.ofNat e) (mem W (S.so 0 it o1)) = B_X9_putValue_132 G F (W.ad (.o 9 t)) (Int32.ofNat v) (W.ad (.o 0 it)) (paI y1) (mem W (S.so 0 it o1)) := by
    rw [B_X9_putValue_5, c9I K C, bO_s]
    rcases Nat.lt_or_ge e J.1 with h | h
    · have ce := C.2 e h
      have h2 : J.2.1 2 e ≤ v := by omega
      rw [if_neg (fun q => absurd ((n_le (by omega) (by omega)).mp q) (by omega)), if_neg (fun q => absurd ((n_eq (by omega) (by omega)).mp q) (by omega)), t9r K 2, bO_s, c9a K 2 e (by omega), bO_s, ce.2.1]
      refine if_pos ?_
      unfold paI
      split
      · exact Int32.lt_of_lt_of_le (b := 0) (by decide) (Int32.not_lt.mp (nn (by omega)))
      · exact (n_lt (by omega) (by omega)).mpr (by omega)
    · rw [if_pos ((n_le (by omega) (by omega)).mpr h)]
  have pre : P_X9_putValue G F (W.ad (.o 9 t)) (Int32.ofNat v) (W.ad (.o 0 it)) (mem W (S.so 0 it o)) = B_X9_putValue_132 G F (W.ad (.o 9 t)) (Int32.ofNat v) (W.ad (.o 0 it)) (paI y1) (mem W (S.so 0 it o1)) := by
    rw [← last, ← g1]
    show B_X9_putValue_5 G F F _ _ _ _ _ _ = _
    have : B_X9_putValue_5 G F F (W.ad (.o 9 t)) (Int32.ofNat v) (W.ad (.o 0 it)) (-1) (Int32.ofNat v) (mem W (S.so 0 it o)) = B_X9_putValue_5 G F (((n + 1) + (e - v - 1)) + 1) (W.ad (.o 9 t)) (Int32.ofNat v) (W.ad (.o 0 it)) (-1) (Int32.ofNat v) (mem W (S.so 0 it o)) := by rw [← hn]
    rw [this, B_X9_putValue_5, c9I K C, bO_s, if_neg (fun q => absurd ((n_le (by omega) (by omega)).mp q) (by omega)), if_pos rfl]
    unfold B_X9_putValue_31
    rw [if_pos (Int32.le_refl _)]
    rfl
  rw [pre]
  unfold B_X9_putValue_132
  rcases d1 with ⟨_, q1, q2⟩ | ⟨_, q1, q2⟩
  · rw [q1, if_pos (show paI 0 = -1 from rfl)]
    rw [q2, List.append_nil] at e1
    rw [e1] at w1
    exact ⟨o1, rfl, w1⟩
  · obtain ⟨o2, g2, w2⟩ := Q9_closeTo (G := G) (F := F) (S := S) X K C Y hT (by omega) q1 w1
    obtain ⟨y, rfl⟩ : ∃ y, y1 = y + 1 := ⟨y1 - 1, by omega⟩
    refine ⟨o2, ?_, ?_⟩
    · rw [if_neg (by rw [paI_s]; exact n_nm (by omega)), t9r K 2, bO_s, c9a K 2 v (by omega), bO_s, cv.2.1, rcv_m K.1, bO_s, g2, bP_s]
    · rw [List.append_assoc, e1] at w2
      exact w2
end CVL
