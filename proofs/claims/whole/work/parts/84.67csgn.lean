/-! A SIGNED TOKEN COMPOSED: the class -/
/-- a token of a head and a payload, or the reason why not -/
def sgnT (a : Nat) (K : KY) (rnd hb pay : List UInt8) (bare : Bool) : Int32 ⊕ List UInt8 := if (bare && pay.any (fun x => decide (x = 46))) = true then .inl (-5) else match sgF a K (enc hb ++ (46 :: (if bare = true then pay else enc pay))) rnd with
  | none => .inl (-4)
  | some sg => if (enc hb ++ (46 :: (if bare = true then pay else enc pay))).length + 1 + (enc sg).length ≤ 8192 then .inr ((enc hb ++ (46 :: (if bare = true then pay else enc pay))) ++ (46 :: enc sg)) else .inl (-3)
def ansT (r : Int32 ⊕ List UInt8) : Int32 := match r with
  | .inl v => v
  | .inr t => (Int32.ofNat t.length)
/-- what is shown then -/
def shwT (S S' : ST) (r : Int32 ⊕ List UInt8) : Prop := match r with
  | .inl _ => S' 0 9 = S 0 9
  | .inr t => Byt 8192 (S' 0 9) t false
abbrev sgM : List (Nat × Nat) := (0, 11) :: (0, 9) :: sgL
theorem AB.so {W : WR} {S : ST} {i room : Nat} {o : Ob} {xs : List UInt8} {l : Bool} (ab : AB W S) (hB : isB W i room) (b : Byt room o xs l) : AB W (S.so 0 i o) := by
  refine ab.keep (L := [(0, i)]) (fr_so (List.mem_singleton.mpr rfl)) (fun k r q hk => ?_)
  have q := congrArg Prod.snd (List.mem_singleton.mp q)
  simp only at q
  subst q
  rw [so_eq, hk.one hB]
  exact ⟨_, _, b⟩
section CSN
variable {W : WR} {G : mG} {F : Nat} {S : ST} {j κ rk : Nat} {K : KY}
theorem Q11_sgn326 {V : Nat → Int} {a ir rr : Nat} {msg rnd : List UInt8} {lr : Bool} (X : Cx G F W) (A : isA W) (ab : AB W S) (C : CK S V) (H : isKo W j) (hj : j ≤ 16) (O : KyO S j κ rk K) (V_ : KyV K) (ha : a < 5) (hm : maySg K a true = true) (b11 : Byt 22528 (S 0 11) msg false) (hml : msg.length ≤ 22000) (hR : isB W ir rr) (hir : ir < 11) (hrr : rr ≤ 8192) (br : Byt rr (S 0 ir) rnd lr) (r : Int32 ⊕ List UInt8) (hr : r = match sgF a K msg rnd with | none => .inl (-4) | some sg => if msg.length + 1 + (enc sg).length ≤ 8192 then .inr (msg ++ (46 :: enc sg)) else .inl (-3)) : ∃ S' V', B_X11_sign_326 G F (W.ad (.o 11 0)) (W.ad (.o 11 0)) (W.ad (.o 5 j)) (Int32.ofNat a) (W.ad (.o 0 ir)) (mem W S) = some (ansT r, mem W S') ∧ fr sgM S S' ∧ AB W S' ∧ CK S' V' ∧ shwT S S' r := by
  obtain ⟨h, hd, hrs, hcu, htk, hci, hco, h12, h13, h14, h15, h16, h17⟩ := id A
  obtain ⟨w4, B4, w5, B5, w6, B6, w3, B3⟩ := h.wk
  obtain ⟨S1, V1, g1, f1, ab1, C1, q1⟩ := Q11_makeSig (G := G) (F := F) X A ab C H hj O V_ ha hm b11 hR hir hrr br
  have f1' : fr sgM S S1 := f1.mono (fun x hx => List.mem_cons_of_mem _ (List.mem_cons_of_mem _ hx))
  have b11' : Byt 22528 (S1 0 11) msg false := by rw [f1 0 11 (by simp [sgL])]; exact b11
  have s9 : S1 0 9 = S 0 9 := f1 0 9 (by simp [sgL])
  unfold B_X11_sign_326
  rw [rcv_m h.lo, bO_s, g1, bP_s]
  cases e : sgF a K msg rnd with
  | none =>
    rw [e] at hr
    have hr : r = .inl (-4) := hr
    rw [if_pos (by rfl), hr]
    exact ⟨S1, V1, rfl, f1', ab1, C1, s9⟩
  | some sg =>
    rw [e] at hr
    have hr : r = if msg.length + 1 + (enc sg).length ≤ 8192 then .inr (msg ++ (46 :: enc sg)) else .inl (-3) := hr
    obtain ⟨b12, sl⟩ := q1 sg e
    have el := enc_len sg
    rw [if_neg (show ¬ (if (some sg).isSome = true then (1 : Int32) else 0) = 0 by rw [if_pos (show (some sg).isSome = true from rfl)]; decide), h.gR rfl w4, bO_s, B4.gI 1 rfl, bO_s, b11'.many, h.gR rfl w5, bO_s, B5.gI 1 rfl, bO_s, b12.many, Q0_lettersFor (by omega), bP_s, ← el, show (Int32.ofNat msg.length) + (1 : Int32) = (Int32.ofNat (msg.length + 1)) from n_i1 _, n_add]
    by_cases c : msg.length + 1 + (enc sg).length ≤ 8192
    · rw [if_pos c] at hr
      obtain ⟨o2, g2, b2⟩ := Q0_putc (G := G) (F := F) (S := S1) (x := 46) (y := 46) B4 b11' rfl
      have b12' : Byt 8192 ((S1.so 0 11 o2) 0 12) sg false := by rw [so_ne (by omega)]; exact b12
      obtain ⟨o3, g3, b3⟩ := Q0_putLetters (G := G) (F := F) (S := S1.so 0 11 o2) (i := 11) (i2 := 12) (st := 0) (stop := sg.length) X B4 (by rw [so_eq]; exact b2) B5 b12' (by omega) (by omega) (by omega) (by omega)
      rw [so_so] at g3
      rw [List.drop_zero, Nat.sub_zero, List.take_length, tkl_tkl, lsl_lsl] at b3
      have b3 : Byt 22528 o3 (tkl 22528 msg (46 :: enc sg)) (lsl 22528 msg (46 :: enc sg) false) := b3
      have l46 : (46 :: enc sg).length = (enc sg).length + 1 := rfl
      rw [tkl_fit (by omega), lsl_fit (by omega)] at b3
      have ab3 : AB W (S1.so 0 11 o3) := ab1.so B4 b3
      obtain ⟨x9, l9, b9⟩ := ab3 9 8192 (by decide) h.sb
      have tl : (msg ++ (46 :: enc sg)).length ≤ 8192 := by rw [List.length_append]; omega
      obtain ⟨o4, g4, b4⟩ := Q11_show (G := G) (F := F) (S := S1.so 0 11 o3) (i := 11) (p := 0) (n := (msg ++ (46 :: enc sg)).length) h b9 B4 (by rw [so_eq]; exact b3) (by omega) (by omega) tl
      rw [List.drop_zero, List.take_length] at b4
      have g3 : P_X0_putLetters G F (W.ad (.o 0 11)) (W.ad (.o 0 12)) 0 (Int32.ofNat sg.length) (mem W (S1.so 0 11 o2)) = _ := g3
      have g4 : P_X11_show G F (W.ad (.o 11 0)) (W.ad (.o 0 11)) 0 (Int32.ofNat (msg ++ (46 :: enc sg)).length) (mem W (S1.so 0 11 o3)) = _ := g4
      rw [if_pos (show (Int32.ofNat (msg.length + 1 + (enc sg).length)) ≤ (8192 : Int32) from (n_le (b := 8192) (by omega) (by omega)).mpr c), h.gR rfl w4, bO_s, rcv_m B4.lo, bO_s, g2, bO_s, h.gR rfl w4, bO_s, h.gR rfl w5, bO_s, bO_s, B5.gI 1 rfl, bO_s, b12'.many, rcv_m B4.lo, bO_s, g3, bO_s, h.gR rfl w4, bO_s, bO_s, B4.gI 1 rfl, bO_s, so_eq, b3.many, rcv_m h.lo, bO_s, g4, bP_s, hr]
      refine ⟨(S1.so 0 11 o3).so 0 9 o4, V1, rfl, (f1'.trans (fr_so (by simp [sgM]))).trans (fr_so (by simp [sgM])), ab3.so h.sb b4, ?_, ?_⟩
      · exact (C1.fr (L := [(0, 11)]) (fr_so (by simp)) (by simp)).fr (L := [(0, 9)]) (fr_so (by simp)) (by simp)
      · show Byt 8192 (((S1.so 0 11 o3).so 0 9 o4) 0 9) _ false
        rw [so_eq]
        exact b4
    · rw [if_neg c] at hr
      rw [if_neg (show ¬ (Int32.ofNat (msg.length + 1 + (enc sg).length)) ≤ (8192 : Int32) from fun q => c ((n_le (b := 8192) (by omega) (by omega)).mp q)), hr]
      exact ⟨S1, V1, rfl, f1', ab1, C1, s9⟩
theorem Q11_sgn182 {V : Nat → Int} {a p q : Nat} {rows : Nat → List UInt8} {hb : List UInt8} {lh bare : Bool} (hκ : 94 ≤ κ) (X : Cx G F W) (A : isA W) (ab : AB W S) (C : CK S V) (H : isKo W j) (hj : j ≤ 16) (O : KyO S j κ rk K) (V_ : KyV K) (ha : a < 5) (hm : maySg K a true = true) (hR : ∀ r, r < 8 → ∃ l, Byt 8192 (S 0 r) (rows r) l) (hp : p < 8) (hq : 3 ≤ a → q < 8) (bh : Byt 8192 (S 0 83) hb lh) (f3 : (S 10 0).f 3 = if bare = true then 1 else 0) (y : Int32) (hy : 3 ≤ a → y = (Int32.ofNat q)) (r : Int32 ⊕ List UInt8) (hr : r = sgnT a K (if 3 ≤ a then rows q else []) hb (rows p) bare) : ∃ S' V', B_X11_sign_182 G F (W.ad (.o 11 0)) (Int32.ofNat a) (Int32.ofNat p) y (if 3 ≤ a then 1 else 0) (W.ad (.o 5 j)) (mem W S) = some (ansT r, mem W S') ∧ fr sgM S S' ∧ AB W S' ∧ CK S' V' ∧ shwT S S' r := by
  obtain ⟨h, hd, hrs, hcu, htk, hci, hco, h12, h13, h14, h15, h16, h17⟩ := id A
  obtain ⟨w4, B4, w5, B5, w6, B6, w3, B3⟩ := h.wk
  obtain ⟨lp, bp⟩ := hR p hp
  have hl := bh.le
  have pl := bp.le
  have eh := enc_len hb
  have ep := enc_len (rows p)
  have B83 : isB W 83 8192 := htk.2.1.2
  have g17 : ∀ S : ST, gfR (mem W S) (W.ad (.o 11 0)) 11 17 = some (W.ad (.o 10 0)) := fun S => h.gR rfl h17
  -- from the message on
  have go303 : ∀ (S1 : ST) (msg : List UInt8), fr sgM S S1 → S1 0 9 = S 0 9 → AB W S1 → CK S1 V → Byt 22528 (S1 0 11) msg false → msg.length ≤ 22000 → (r = match sgF a K msg (if 3 ≤ a then rows q else []) with | none => .inl (-4) | some sg => if msg.length + 1 + (enc sg).length ≤ 8192 then .inr (msg ++ (46 :: enc sg)) else .inl (-3)) → (∀ c i, ¬ (c = 0 ∧ i = 11) → S1 c i = S c i) → ∃ S' V', B_X11_sign_303 G F (W.ad (.o 11 0)) (Int32.ofNat a) y (if 3 ≤ a then 1 else 0) (W.ad (.o 5 j)) (mem W S1) = some (ansT r, mem W S') ∧ fr sgM S S' ∧ AB W S' ∧ CK S' V' ∧ shwT S S' r := by
    intro S1 msg f1 s9 ab1 C1 b11 ml hr1 e1
    have O1 : KyO S1 j κ rk K := O.same (fun k _ => by rw [e1 5 j (by omega)]) (by rw [e1 0 κ (by omega)]) (by rw [e1 0 _ (by omega)]) (by rw [e1 0 _ (by omega)]) (by rw [e1 0 _ (by omega)])
    have fin : ∀ (ir rr : Nat) (rnd : List UInt8) (lr : Bool), rnd = (if 3 ≤ a then rows q else []) → isB W ir rr → ir < 11 → rr ≤ 8192 → Byt rr (S1 0 ir) rnd lr → ∃ S' V', B_X11_sign_326 G F (W.ad (.o 11 0)) (W.ad (.o 11 0)) (W.ad (.o 5 j)) (Int32.ofNat a) (W.ad (.o 0 ir)) (mem W S1) = some (ansT r, mem W S') ∧ fr sgM S S' ∧ AB W S' ∧ CK S' V' ∧ shwT S S' r := by
      intro ir rr rnd lr hrn hB hir hrr br
      subst hrn
      obtain ⟨S', V', z1, z2, z3, z4, z5⟩ := Q11_sgn326 (G := G) (F := F) X A ab1 C1 H hj O1 V_ ha hm b11 ml hB hir hrr br r hr1
      refine ⟨S', V', z1, f1.trans z2, z3, z4, ?_⟩
      revert z5
      cases r with
      | inl v => intro z5; exact (show S' 0 9 = S1 0 9 from z5).trans s9
      | inr t => exact id
    unfold B_X11_sign_303
    by_cases c : 3 ≤ a
    · obtain ⟨lq, bq⟩ := hR q (hq c)
      rw [if_pos c, if_neg (by decide), h.gR rfl h.ra, bO_s, hy c, h.row (hq c), bO_s]
      exact fin q 8192 (rows q) lq (by rw [if_pos c]) (h.rb q (hq c)) (by have := hq c; omega) (by omega) (by rw [e1 _ _ (by have := hq c; omega)]; exact bq)
    · obtain ⟨x10, l10, b10⟩ := ab1 10 0 (by decide) B3
      have x0 : x10 = [] := List.length_eq_zero_iff.mp (by have := b10.le; omega)
      rw [if_neg c, if_pos rfl, h.gR rfl w3, bO_s]
      exact fin 10 0 [] l10 (by rw [if_neg c]) B3 (by omega) (by omega) (by rw [← x0]; exact b10)
  -- the message
  have go210 : (bare && (rows p).any (fun x => decide (x = 46))) = false → ∃ S' V', B_X11_sign_210 G F (W.ad (.o 11 0)) (Int32.ofNat a) (Int32.ofNat p) y (if 3 ≤ a then 1 else 0) (W.ad (.o 5 j)) (mem W S) = some (ansT r, mem W S') ∧ fr sgM S S' ∧ AB W S' ∧ CK S' V' ∧ shwT S S' r := by
    intro hno
    have hr : r = match sgF a K (enc hb ++ (46 :: (if bare = true then rows p else enc (rows p)))) (if 3 ≤ a then rows q else []) with | none => .inl (-4) | some sg => if (enc hb ++ (46 :: (if bare = true then rows p else enc (rows p)))).length + 1 + (enc sg).length ≤ 8192 then .inr ((enc hb ++ (46 :: (if bare = true then rows p else enc (rows p)))) ++ (46 :: enc sg)) else .inl (-3) := by
      rw [hr]
      unfold sgnT
      rw [hno]
      rfl
    obtain ⟨x11, l11, b11⟩ := ab 11 22528 (by decide) B4
    obtain ⟨o1, g1, b1⟩ := Q0_clear (G := G) (F := F) (S := S) B4 b11
    have bh1 : Byt 8192 ((S.so 0 11 o1) 0 83) hb lh := by rw [so_ne (by omega)]; exact bh
    obtain ⟨o2, g2, b2⟩ := Q0_putLetters (G := G) (F := F) (S := S.so 0 11 o1) (i := 11) (i2 := 83) (st := 0) (stop := hb.length) X B4 (by rw [so_eq]; exact b1) B83 bh1 (by omega) (by omega) (by omega) (by omega)
    rw [so_so] at g2
    rw [List.drop_zero, Nat.sub_zero, List.take_length] at b2
    have b2 : Byt 22528 o2 (tkl 22528 [] (enc hb)) (lsl 22528 [] (enc hb) false) := b2
    obtain ⟨o3, g3, b3⟩ := Q0_putc (G := G) (F := F) (S := S.so 0 11 o2) (x := 46) (y := 46) B4 (by rw [so_eq]; exact b2) rfl
    rw [so_so] at g3
    rw [tkl_tkl, lsl_lsl] at b3
    have g2 : P_X0_putLetters G F (W.ad (.o 0 11)) (W.ad (.o 0 83)) 0 (Int32.ofNat hb.length) (mem W (S.so 0 11 o1)) = _ := g2
    have bp3 : Byt 8192 ((S.so 0 11 o3) 0 p) (rows p) lp := by rw [so_ne (by omega)]; exact bp
    have f3' : ((S.so 0 11 o3) 10 0).f 3 = if bare = true then 1 else 0 := by rw [so_ne (by omega)]; exact f3
    have fin : ∀ (o4 : Ob) (w : List UInt8), w = (if bare = true then rows p else enc (rows p)) → Byt 22528 o4 (tkl 22528 [] (enc hb ++ [46] ++ w)) (lsl 22528 [] (enc hb ++ [46] ++ w) false) → ∃ S' V', B_X11_sign_303 G F (W.ad (.o 11 0)) (Int32.ofNat a) y (if 3 ≤ a then 1 else 0) (W.ad (.o 5 j)) (mem W (S.so 0 11 o4)) = some (ansT r, mem W S') ∧ fr sgM S S' ∧ AB W S' ∧ CK S' V' ∧ shwT S S' r := by
      intro o4 w hw b4
      rw [← hw] at hr
      have wl : w.length ≤ 10923 := by
        rw [hw]
        split <;> omega
      have ml : (enc hb ++ (46 :: w)).length ≤ 22000 := by
        rw [List.length_append, List.length_cons]
        omega
      have em : enc hb ++ [46] ++ w = enc hb ++ (46 :: w) := by rw [List.append_assoc]; rfl
      rw [em, tkl_fit (by rw [List.length_nil]; omega), lsl_fit (by rw [List.length_nil]; omega), List.nil_append] at b4
      exact go303 (S.so 0 11 o4) _ (fr_so (by simp [sgM])) (by rw [so_ne (by omega)]) (ab.so B4 b4) (C.fr (L := [(0, 11)]) (fr_so (by simp)) (by simp)) (by rw [so_eq]; exact b4) ml hr (fun c i z => so_ne z)
    unfold B_X11_sign_210
    rw [h.gR rfl w4, bO_s, rcv_m B4.lo, bO_s, g1, bO_s, h.gR rfl w4, bO_s, g17, bO_s, tk0 htk, bO_s, bO_s, tk0 htk, bO_s, B83.gI 1 rfl, bO_s, bh1.many, rcv_m B4.lo, bO_s, g2, bO_s, h.gR rfl w4, bO_s, rcv_m B4.lo, bO_s, g3, bO_s, g17, bO_s, gfI_m htk.1.1 rfl, bO_s, f3']
    cases bare with
    | false =>
      obtain ⟨o4, g4, b4⟩ := Q0_putLetters (G := G) (F := F) (S := S.so 0 11 o3) (i := 11) (i2 := p) (st := 0) (stop := (rows p).length) X B4 (by rw [so_eq]; exact b3) (h.rb p hp) bp3 (by omega) (by omega) (by omega) (by omega)
      rw [so_so] at g4
      rw [List.drop_zero, Nat.sub_zero, List.take_length, tkl_tkl, lsl_lsl] at b4
      have g4 : P_X0_putLetters G F (W.ad (.o 0 11)) (W.ad (.o 0 p)) 0 (Int32.ofNat (rows p).length) (mem W (S.so 0 11 o3)) = _ := g4
      rw [if_pos (show (if false = true then (1 : Int32) else 0) = 0 from rfl), h.gR rfl w4, bO_s, h.gR rfl h.ra, bO_s, h.row hp, bO_s, bO_s, h.row hp, bO_s, (h.rb p hp).gI 1 rfl, bO_s, bp3.many, rcv_m B4.lo, bO_s, g4, bO_s]
      exact fin o4 (enc (rows p)) rfl b4
    | true =>
      obtain ⟨o4, g4, b4⟩ := Q0_putAll (G := G) (F := F) (S := S.so 0 11 o3) (i := 11) (i2 := p) B4 (by rw [so_eq]; exact b3) (h.rb p hp) bp3
      rw [so_so] at g4
      rw [tkl_tkl, lsl_lsl] at b4
      rw [if_neg (show ¬ (if true = true then (1 : Int32) else 0) = 0 by decide), h.gR rfl w4, bO_s, h.gR rfl h.ra, bO_s, h.row hp, bO_s, rcv_m B4.lo, bO_s, g4, bO_s]
      exact fin o4 (rows p) rfl b4
  unfold B_X11_sign_182
  rw [g17, bO_s, gfI_m htk.1.1 rfl, bO_s, f3]
  cases bare with
  | false =>
    rw [if_pos (show (if false = true then (1 : Int32) else 0) = 0 from rfl)]
    exact go210 rfl
  | true =>
    have ae : (rows p).any (fun x => decide (b32 x = (46 : Int32))) = (rows p).any (fun x => decide (x = 46)) := by
      congr 1
      funext x
      exact decide_eq_decide.mpr (Iff.of_eq (b32_eq (c := x) (show (46 : Int32) = b32 46 from rfl)))
    have ho := Q0_holds (G := G) (F := F) (c := 46) X (h.rb p hp) (by decide) bp
    rw [ae] at ho
    rw [if_neg (show ¬ (if true = true then (1 : Int32) else 0) = 0 by decide), h.gR rfl h.ra, bO_s, h.row hp, bO_s, rcv_m (h.rb p hp).lo, bO_s, ho, bP_s]
    cases e : (rows p).any (fun x => decide (x = 46)) with
    | false =>
      rw [if_pos (by rfl)]
      exact go210 (by rw [e]; rfl)
    | true =>
      have hr : r = .inl (-5) := by
        rw [hr]
        unfold sgnT
        rw [e]
        rfl
      rw [if_neg (by decide), hr]
      exact ⟨S, V, rfl, fr.refl _ _, ab, C, rfl⟩
end CSN
