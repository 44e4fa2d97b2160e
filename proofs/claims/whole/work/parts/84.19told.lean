/-! CALLS drop, told, print: the class -/
def isk (A : Nat → Option KY) (x : Int32) : Bool := decide (0 ≤ x ∧ x < 16) && (A x.toNatClampNeg).isSome
theorem isk_cases (A : Nat → Option KY) (x : Int32) : (x < 0 ∨ (16 : Int32) ≤ x) ∧ isk A x = false ∨ ∃ k, k < 16 ∧ x = (Int32.ofNat k) ∧ isk A x = (A k).isSome := by
  rcases i_cases x with h | ⟨j, hj, rfl⟩
  · refine Or.inl ⟨Or.inl h, ?_⟩
    unfold isk
    rw [decide_eq_false (fun q => absurd h (Int32.not_lt.mpr q.1)), Bool.false_and]
  · by_cases h8 : j < 16
    · refine Or.inr ⟨j, h8, rfl, ?_⟩
      unfold isk
      rw [decide_eq_true ⟨by rw [z32, n_le (by omega) hj]; omega, by rw [lit 16, n_lt hj (by omega)]; exact h8⟩, Bool.true_and, n_at hj]
    · refine Or.inl ⟨Or.inr (by rw [lit 16, n_le (by omega) hj]; omega), ?_⟩
      unfold isk
      rw [decide_eq_false (fun q => h8 (by have := q.2; rwa [lit 16, n_lt hj (by omega)] at this)), Bool.false_and]
def tldF (K : KY) (w : Int32) : Int32 := if w = 0 then (Int32.ofNat (K.1)) else if w = 1 then (if K.1 = 2 then 32 else (Int32.ofNat (K.2.1.1.length))) else if w = 2 then (if K.2.1.2.2.isSome = true then 1 else 0) else if w = 3 then (Int32.ofNat (K.2.2.1)) else if w = 4 then (match K.2.2.2.2 with
  | none => -1
  | some d => (Int32.ofNat d.length)) else if w = 5 then (if K.2.2.2.1 = -1 then 0 else 1) else -2
def tldW (A : Nat → Option KY) (x w : Int32) : Int32 := if isk A x = true then (match A x.toNatClampNeg with
  | none => -2
  | some K => tldF K w) else -2
def drpW (A : Nat → Option KY) (x : Int32) : Int32 × (Nat → Option KY) := if isk A x = true then (1, up A x.toNatClampNeg none) else (-2, A)
def pmF (xy : List UInt8) : List UInt8 := str 50 ++ (enc (seg xy 0 32) ++ (str 51 ++ (enc (seg xy 32 32) ++ [34])))
/-- a key as it is printed -/
def prF (K : KY) : List UInt8 := if K.1 = 0 then str 44 ++ (enc K.2.1.1 ++ str 45) else if K.1 = 1 then str 46 ++ (enc K.2.1.2.1 ++ (str 47 ++ (enc K.2.1.1 ++ str 48))) else str 49 ++ (pmF K.2.1.1 ++ [125])
theorem KyV.kd {K : KY} (h : KyV K) : K.1 ≤ 2 := by
  obtain ⟨s, J, kd, k, h1, h2, h3, h4, h5⟩ := h
  rw [h5]
  exact (kyR_k h3).1
theorem KyV.p64 {K : KY} (h : KyV K) (e : K.1 = 2) : K.2.1.1.length = 64 := by
  obtain ⟨s, J, kd, k, h1, h2, h3, h4, h5⟩ := h
  rw [h5] at e ⊢
  have e : kd = 2 := e
  have := (kyR_k h3).2
  rw [e] at this
  exact (kyN_2 this).1
section TOLD
variable {W : WR} {G : mG} {F : Nat} {S : ST} {z sl z0 s0 : Nat} {σ κ rk : Nat → Nat} {A : Nat → Option KY}
theorem Q11_isKey (h : KHS W S z sl z0 s0 σ κ rk A) (hl : W.live (.o 11 0) = true) (x : Int32) : P_X11_isKey G F (W.ad (.o 11 0)) x (mem W S) = some (if isk A x = true then 1 else 0, mem W S) := by
  have g10 : gfR (mem W S) (W.ad (.o 11 0)) 11 10 = some (W.ad (.a 11 0 10)) := gfR_m hl rfl h.2.1.1
  unfold P_X11_isKey
  rcases isk_cases A x with ⟨q, e⟩ | ⟨k, hk, rfl, e⟩
  · rw [e, if_neg Bool.false_ne_true]
    by_cases c : x < 0
    · rw [if_pos c, rz0]
    · rw [if_neg c, if_pos (q.resolve_left c), rz0]
  · rw [e, if_neg (nn (by omega)), if_neg (show ¬ (16 : Int32) ≤ (Int32.ofNat k) from fun q => by have := (n_le (a := 16) (b := k) (by omega) (by omega)).mp q; omega), g10, bO_s, h.ky hk, bO_s, h.th hk, bO_s]
    cases A k <;> rfl
theorem Q11_drop (h : KHS W S z sl z0 s0 σ κ rk A) (hl : W.live (.o 11 0) = true) (x : Int32) : ∃ S', P_X11_drop G F (W.ad (.o 11 0)) x (mem W S) = some ((drpW A x).1, mem W S') ∧ frK [] S S' ∧ KHS W S' z sl z0 s0 σ κ rk (drpW A x).2 := by
  have g10 : gfR (mem W S) (W.ad (.o 11 0)) 11 10 = some (W.ad (.a 11 0 10)) := gfR_m hl rfl h.2.1.1
  unfold P_X11_drop drpW
  rw [rcv_m hl, bO_s, Q11_isKey h hl, bP_s]
  rcases isk_cases A x with ⟨q, e⟩ | ⟨k, hk, rfl, e⟩
  · rw [e, if_neg Bool.false_ne_true, if_pos rfl, if_neg Bool.false_ne_true]
    exact ⟨S, rfl, fun _ _ _ _ _ => rfl, h⟩
  · cases eA : A k with
    | none =>
      have e' : isk A (Int32.ofNat k) = false := by rw [e, eA]; rfl
      rw [e', if_neg Bool.false_ne_true, if_pos rfl, if_neg Bool.false_ne_true]
      exact ⟨S, rfl, fun _ _ _ _ _ => rfl, h⟩
    | some K =>
      obtain ⟨⟨h1, h2⟩, i0, h3, h4, h5, h6⟩ := id h
      have hj := h1 k (by omega)
      have lk := (h3 (σ k) hj).1.1
      have e' : isk A (Int32.ofNat k) = true := by rw [e, eA]; rfl
      rw [e', if_pos rfl, if_neg (by decide), if_pos rfl, g10, bO_s, h.ky hk, bO_s, pfZ_m lk rfl (Or.inl rfl), bO_s, n_at (by omega)]
      obtain ⟨S', hS⟩ : ∃ S', S' = S.so 5 (σ k) ((S 5 (σ k)).sf 0 0) := ⟨_, rfl⟩
      have zz : ∀ i, S' 0 i = S 0 i := fun i => by rw [hS]; exact so_ne (by omega)
      refine ⟨S', by rw [hS], fun c i a b d => by rw [hS]; exact so_ne (fun q => a q.1), ⟨h1, h2⟩, i0, fun j hj => ?_, h4, fun i hi => ?_, h6⟩
      · obtain ⟨x1, x2, x3, x4, x5, ⟨y1, y2, y3⟩, x7⟩ := h3 j hj
        exact ⟨x1, x2, x3, x4, x5, ⟨by rw [zz]; exact y1, by rw [zz]; exact y2, by rw [zz]; exact y3⟩, by rw [zz]; exact x7⟩
      · show match up A k none i with | none => (S' 5 (σ i)).f 0 = 0 | some K => (S' 5 (σ i)).f 0 = 1 ∧ KyO S' (σ i) (κ (σ i)) (rk (σ i)) K ∧ KyV K
        by_cases a : i = k
        · rw [a, up_eq, hS, so_eq, sf_eq]
        · rw [up_ne a]
          have hn : σ i ≠ σ k := fun e => a (h2 i k (by omega) (by omega) e)
          have s5 : S' 5 (σ i) = S 5 (σ i) := by rw [hS]; exact so_ne (fun q => hn q.2)
          rw [s5]
          have q := h5 i hi
          cases e : A i with
          | none => rw [e] at q; exact q
          | some K2 =>
            rw [e] at q
            exact ⟨q.1, q.2.1.same (fun _ _ => by rw [s5]) (zz _) (zz _) (zz _) (zz _), q.2.2⟩
theorem Q11_told (h : KHS W S z sl z0 s0 σ κ rk A) (hl : W.live (.o 11 0) = true) (x w : Int32) : P_X11_told G F (W.ad (.o 11 0)) x w (mem W S) = some (tldW A x w, mem W S) := by
  have g10 : gfR (mem W S) (W.ad (.o 11 0)) 11 10 = some (W.ad (.a 11 0 10)) := gfR_m hl rfl h.2.1.1
  unfold P_X11_told tldW
  rw [rcv_m hl, bO_s, Q11_isKey h hl, bP_s]
  rcases isk_cases A x with ⟨q, e⟩ | ⟨k, hk, rfl, e⟩
  · rw [e, if_neg Bool.false_ne_true, if_pos rfl, if_neg Bool.false_ne_true]
  · rw [n_at (by omega)]
    cases eA : A k with
    | none =>
      have e' : isk A (Int32.ofNat k) = false := by rw [e, eA]; rfl
      rw [e', if_neg Bool.false_ne_true, if_pos rfl, if_neg Bool.false_ne_true]
    | some K =>
      obtain ⟨⟨h1, h2⟩, i0, h3, h4, h5, h6⟩ := id h
      have hj := h1 k (by omega)
      obtain ⟨H, x2, x3, x4, x5, x6, x7⟩ := h3 (σ k) hj
      have q := h5 k hk
      rw [eA] at q
      obtain ⟨q0, ⟨o1, o2, o3, o4, o5, ⟨t1, t2, t3⟩, o7⟩, qv⟩ := q
      have k2 := qv.kd
      have e' : isk A (Int32.ofNat k) = true := by rw [e, eA]; rfl
      rw [e', if_pos rfl, if_neg (by decide), if_pos rfl, g10, bO_s, h.ky hk, bO_s]
      show _ = some (tldF K w, mem W S)
      unfold tldF
      by_cases w0 : w = 0
      · rw [if_pos w0, if_pos w0, ko_I H rfl, bO_s, o1]
      rw [if_neg w0, if_neg w0]
      by_cases w1 : w = 1
      · rw [if_pos w1, if_pos w1, ko_I H rfl, bO_s, o1]
        by_cases c : K.1 = 2
        · rw [if_pos c, c, if_pos (show (Int32.ofNat 2) = (2 : Int32) from rfl)]
        · rw [if_neg c, if_neg (show ¬ (Int32.ofNat (K.1)) = (2 : Int32) from fun q => c ((n_eq (b := 2) (by omega) (by omega)).mp q)), gfR_m H.1 rfl H.2.1, bO_s, H.2.2.2.2.1.gI 1 rfl, bO_s, t1.many]
      rw [if_neg w1, if_neg w1]
      by_cases w2 : w = 2
      · rw [if_pos w2, if_pos w2, ko_I H rfl, bO_s, o2]
        cases K.2.1.2.2 <;> rfl
      rw [if_neg w2, if_neg w2]
      by_cases w3 : w = 3
      · rw [if_pos w3, if_pos w3, ko_I H rfl, bO_s, o3]
      rw [if_neg w3, if_neg w3]
      by_cases w4 : w = 4
      · rw [if_pos w4, if_pos w4, ko_I H rfl, bO_s, o5]
        cases ek : K.2.2.2.2 with
        | none => rfl
        | some d =>
          rw [ek] at o7
          rw [if_neg (show ¬ (if (some d : Option (List UInt8)).isSome = true then (1 : Int32) else 0) = 0 by rw [if_pos (show (some d : Option (List UInt8)).isSome = true from rfl)]; decide), gfR_m H.1 rfl x2, bO_s, x3.gI 1 rfl, bO_s, o7.many]
          rfl
      rw [if_neg w4, if_neg w4]
      by_cases w5 : w = 5
      · rw [if_pos w5, if_pos w5, ko_I H rfl, bO_s, o4]
        by_cases c : K.2.2.2.1 = -1
        · rw [if_pos c, if_pos c]
        · rw [if_neg c, if_neg c]
      rw [if_neg w5, if_neg w5]
theorem Q5_putPoint {ix rx it rt : Nat} {xy xs : List UInt8} {lx l : Bool} (X : Cx G F W) (hX : isB W ix rx) (bx : Byt rx (S 0 ix) xy lx) (hT : isB W it rt) (bt : Byt rt (S 0 it) xs l) (hne : ix ≠ it) (hl : 64 ≤ xy.length) : ∃ o, P_X5_putPointMembers G F (W.ad (.o 0 ix)) (W.ad (.o 0 it)) (mem W S) = some (mem W (S.so 0 it o)) ∧ Byt rt o (tkl rt xs (pmF xy)) (lsl rt xs (pmF xy) l) := by
  have bx' : ∀ o, Byt rx ((S.so 0 it o) 0 ix) xy lx := fun o => by rw [so_ne (fun q => hne q.2)]; exact bx
  obtain ⟨o1, g1, b1⟩ := Q0_putText (G := G) (F := F) (S := S) (j := 50) X hT (by decide) bt
  obtain ⟨o2, g2, b2⟩ := Q0_putLetters (G := G) (F := F) (S := S.so 0 it o1) (st := 0) (stop := 32) X hT (by rw [so_eq]; exact b1) hX (bx' o1) hne (by omega) (by omega) (by omega)
  rw [so_so, show (xy.drop 0).take (32 - 0) = seg xy 0 32 from rfl, show encL 0 0 (seg xy 0 32) = enc (seg xy 0 32) from rfl, tkl_tkl, lsl_lsl] at *
  have g2 : P_X0_putLetters G F (W.ad (.o 0 it)) (W.ad (.o 0 ix)) 0 32 (mem W (S.so 0 it o1)) = _ := g2
  obtain ⟨o3, g3, b3⟩ := Q0_putText (G := G) (F := F) (S := S.so 0 it o2) (j := 51) X hT (by decide) (by rw [so_eq]; exact b2)
  obtain ⟨o4, g4, b4⟩ := Q0_putLetters (G := G) (F := F) (S := S.so 0 it o3) (st := 32) (stop := 64) X hT (by rw [so_eq]; exact b3) hX (bx' o3) hne (by omega) (by omega) (by omega)
  have g4 : P_X0_putLetters G F (W.ad (.o 0 it)) (W.ad (.o 0 ix)) 32 64 (mem W (S.so 0 it o3)) = _ := g4
  obtain ⟨o5, g5, b5⟩ := Q0_put1 (G := G) (F := F) (S := S.so 0 it o4) (x := 34) hT (by rw [so_eq]; exact b4)
  rw [so_so] at g3 g4 g5
  refine ⟨o5, ?_, ?_⟩
  · unfold P_X5_putPointMembers
    rw [rcv_m hT.lo, bO_s, g1, bO_s, rcv_m hT.lo, bO_s, g2, bO_s, rcv_m hT.lo, bO_s, g3, bO_s, rcv_m hT.lo, bO_s, g4, bO_s, rcv_m hT.lo, bO_s, g5, bO_s]
  · rw [show (xy.drop 32).take (64 - 32) = seg xy 32 32 from rfl, show encL 0 0 (seg xy 32 32) = enc (seg xy 32 32) from rfl, show lo8 (34 : Int32) = 34 from rfl] at b5
    rw [tkl_tkl, lsl_lsl, tkl_tkl, lsl_lsl, tkl_tkl, lsl_lsl] at b5
    unfold pmF
    simp only [List.append_assoc] at b5
    exact b5
theorem KHS.at_ (h : KHS W S z sl z0 s0 σ κ rk A) {k : Nat} {K : KY} (hk : k < 16) (e : A k = some K) : isKo W (σ k) ∧ σ k ≤ 16 ∧ KyO S (σ k) (κ (σ k)) (rk (σ k)) K ∧ KyV K ∧ W.r 5 (σ k) 9 = some (.o 0 (κ (σ k))) ∧ isB W (κ (σ k)) (rk (σ k)) ∧ 94 ≤ κ (σ k) := by
  obtain ⟨h1, _, h3, _, h5, _⟩ := h
  have q := h5 k hk
  rw [e] at q
  have hj := h1.1 k (by omega)
  have x := h3 (σ k) hj
  exact ⟨x.1, hj, q.2.1, q.2.2, x.2.1, x.2.2.1, x.2.2.2.2.1⟩
theorem Q5_putPrinted {j κ' rk' it rt : Nat} {K : KY} {xs : List UInt8} {l : Bool} (X : Cx G F W) (H : isKo W j) (hj : j ≤ 16) (O : KyO S j κ' rk' K) (V : KyV K) (hT : isB W it rt) (bt : Byt rt (S 0 it) xs l) (hne : it < 16) : ∃ o, P_X5_putPrinted G F (W.ad (.o 5 j)) (W.ad (.o 0 it)) (mem W S) = some (mem W (S.so 0 it o)) ∧ Byt rt o (tkl rt xs (prF K)) (lsl rt xs (prF K) l) := by
  obtain ⟨o1, o2, o3, o4, o5, ⟨t1, t2, t3⟩, o7⟩ := O
  have k2 := V.kd
  have bm : ∀ o, Byt 128 ((S.so 0 it o) 0 (16 + 3 * j)) K.2.1.1 false := fun o => by rw [so_ne (by omega)]; exact t1
  have be : ∀ o, Byt 128 ((S.so 0 it o) 0 (17 + 3 * j)) K.2.1.2.1 false := fun o => by rw [so_ne (by omega)]; exact t2
  have r6 : ∀ S : ST, gfR (mem W S) (W.ad (.o 5 j)) 5 6 = some (W.ad (.o 0 (16 + 3 * j))) := fun S => gfR_m H.1 rfl H.2.1
  have r7 : ∀ S : ST, gfR (mem W S) (W.ad (.o 5 j)) 5 7 = some (W.ad (.o 0 (17 + 3 * j))) := fun S => gfR_m H.1 rfl H.2.2.1
  have lm := t1.le
  have le := t2.le
  have hm := H.2.2.2.2.1
  have he := H.2.2.2.2.2.1
  -- letters of the whole
  have lt : ∀ (o : Ob) (ys zs : List UInt8) (ly : Bool) (i : Nat), isB W i 128 → i ≠ it → Byt 128 ((S.so 0 it o) 0 i) ys ly → Byt rt o (tkl rt xs zs) (lsl rt xs zs l) → ∃ o', P_X0_putLetters G F (W.ad (.o 0 it)) (W.ad (.o 0 i)) 0 (Int32.ofNat ys.length) (mem W (S.so 0 it o)) = some (mem W (S.so 0 it o')) ∧ Byt rt o' (tkl rt xs (zs ++ enc ys)) (lsl rt xs (zs ++ enc ys) l) := by
    intro o ys zs ly i hi hn by_ bo
    have := by_.le
    obtain ⟨o', g, b⟩ := Q0_putLetters (G := G) (F := F) (S := S.so 0 it o) (st := 0) (stop := ys.length) X hT (by rw [so_eq]; exact bo) hi by_ hn (by omega) (by omega) (by omega)
    rw [so_so] at g
    rw [List.drop_zero, Nat.sub_zero, List.take_length, tkl_tkl, lsl_lsl] at b
    exact ⟨o', g, b⟩
  have tx : ∀ (o : Ob) (zs : List UInt8) (q : Nat), q < 124 → Byt rt o (tkl rt xs zs) (lsl rt xs zs l) → ∃ o', P_X0_putText G F (W.ad (.o 0 it)) (G.1 q) (mem W (S.so 0 it o)) = some (mem W (S.so 0 it o')) ∧ Byt rt o' (tkl rt xs (zs ++ str q)) (lsl rt xs (zs ++ str q) l) := by
    intro o zs q hq bo
    obtain ⟨o', g, b⟩ := Q0_putText (G := G) (F := F) (S := S.so 0 it o) (j := q) X hT hq (by rw [so_eq]; exact bo)
    rw [so_so] at g
    rw [tkl_tkl, lsl_lsl] at b
    exact ⟨o', g, b⟩
  unfold P_X5_putPrinted prF
  rw [ko_I H rfl, bO_s, o1]
  by_cases e0 : K.1 = 0
  · rw [if_pos e0, e0, if_pos (show (Int32.ofNat 0) = (0 : Int32) from rfl)]
    obtain ⟨p1, g1, b1⟩ := Q0_putText (G := G) (F := F) (S := S) (j := 44) X hT (by decide) bt
    obtain ⟨p2, g2, b2⟩ := lt p1 K.2.1.1 (str 44) false _ hm (by omega) (bm p1) b1
    obtain ⟨p3, g3, b3⟩ := tx p2 _ 45 (by decide) b2
    rw [List.append_assoc] at b3
    refine ⟨p3, ?_, b3⟩
    rw [rcv_m hT.lo, bO_s, g1, bO_s, r6, bO_s, bO_s, hm.gI 1 rfl, bO_s, rcv_m hT.lo, bO_s, (bm p1).many, g2, bO_s, rcv_m hT.lo, bO_s, g3, bO_s]
  · rw [if_neg e0, if_neg (show ¬ (Int32.ofNat (K.1)) = (0 : Int32) from fun q => e0 ((n_eq (b := 0) (by omega) (by omega)).mp q)), bO_s]
    by_cases e1 : K.1 = 1
    · rw [if_pos e1, e1, if_pos (show (Int32.ofNat 1) = (1 : Int32) from rfl)]
      obtain ⟨p1, g1, b1⟩ := Q0_putText (G := G) (F := F) (S := S) (j := 46) X hT (by decide) bt
      obtain ⟨p2, g2, b2⟩ := lt p1 K.2.1.2.1 (str 46) false _ he (by omega) (be p1) b1
      obtain ⟨p3, g3, b3⟩ := tx p2 _ 47 (by decide) b2
      obtain ⟨p4, g4, b4⟩ := lt p3 K.2.1.1 _ false _ hm (by omega) (bm p3) b3
      obtain ⟨p5, g5, b5⟩ := tx p4 _ 48 (by decide) b4
      simp only [List.append_assoc] at b5
      refine ⟨p5, ?_, b5⟩
      rw [rcv_m hT.lo, bO_s, g1, bO_s, r7, bO_s, bO_s, he.gI 1 rfl, bO_s, rcv_m hT.lo, bO_s, (be p1).many, g2, bO_s, rcv_m hT.lo, bO_s, g3, bO_s, r6, bO_s, bO_s, hm.gI 1 rfl, bO_s, rcv_m hT.lo, bO_s, (bm p3).many, g4, bO_s, rcv_m hT.lo, bO_s, g5, bO_s]
    · have e2 : K.1 = 2 := by omega
      rw [if_neg e1, if_neg (show ¬ (Int32.ofNat (K.1)) = (1 : Int32) from fun q => e1 ((n_eq (b := 1) (by omega) (by omega)).mp q))]
      obtain ⟨p1, g1, b1⟩ := Q0_putText (G := G) (F := F) (S := S) (j := 49) X hT (by decide) bt
      obtain ⟨p2, g2, b2⟩ := Q5_putPoint (G := G) (F := F) (S := S.so 0 it p1) X hm (bm p1) hT (by rw [so_eq]; exact b1) (by omega) (by rw [V.p64 e2]; decide)
      obtain ⟨p3, g3, b3⟩ := Q0_put1 (G := G) (F := F) (S := (S.so 0 it p1).so 0 it p2) (x := 125) hT (by rw [so_eq]; exact b2)
      rw [so_so] at g2
      rw [so_so, so_so] at g3
      rw [tkl_tkl, lsl_lsl, tkl_tkl, lsl_lsl, show lo8 (125 : Int32) = 125 from rfl] at b3
      refine ⟨p3, ?_, b3⟩
      rw [rcv_m hT.lo, bO_s, g1, bO_s, r6, bO_s, g2, bO_s, rcv_m hT.lo, bO_s, g3, bO_s]
end TOLD
