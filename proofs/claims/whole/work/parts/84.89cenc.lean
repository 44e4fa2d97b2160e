/-! A SEALED TOKEN COMPOSED: the class -/
/-- a sealed token of its parts -/
def tokB (w : Nat) (hb sk iv c : List UInt8) : List UInt8 := enc hb ++ ((46 :: enc sk) ++ (46 :: enc iv) ++ (46 :: enc (c.take (c.length - wayM w))) ++ (46 :: enc (c.drop (c.length - wayM w))))
def slZ (w : Nat) (hb sk iv ck pay : List UInt8) : Int32 ⊕ List UInt8 := if hb.length ≤ 8192 ∧ (tokB w hb sk iv (sealF w ck iv (enc hb) pay)).length ≤ 8192 then .inr (tokB w hb sk iv (sealF w ck iv (enc hb) pay)) else .inl (-3)
def cnN (w n : Nat) : Nat := if 2 ≤ w then n else (n / 16 + 1) * 16
theorem cnN_le (w n : Nat) : cnN w n ≤ n + 16 := by unfold cnN; split <;> omega
theorem wayM_32 (w : Nat) : wayM w ≤ 32 := by unfold wayM; split <;> omega
theorem tokB_len {w : Nat} (hw : w < 4) (hb sk iv ck pay : List UInt8) : (tokB w hb sk iv (sealF w ck iv (enc hb) pay)).length = (hb.length * 4 + 2) / 3 + (sk.length * 4 + 2) / 3 + (iv.length * 4 + 2) / 3 + (cnN w pay.length * 4 + 2) / 3 + (wayM w * 4 + 2) / 3 + 4 := by
  have sl := sealF_len w ck iv (enc hb) pay hw
  have sl : (sealF w ck iv (enc hb) pay).length = cnN w pay.length + wayM w := sl
  unfold tokB
  rw [sl, show cnN w pay.length + wayM w - wayM w = cnN w pay.length by omega]
  simp only [List.length_append, List.length_cons, enc_len, List.length_take, List.length_drop, sl]
  rw [show min (cnN w pay.length) (cnN w pay.length + wayM w) = cnN w pay.length by omega, show cnN w pay.length + wayM w - cnN w pay.length = wayM w by omega]
  omega
abbrev enL : List (Nat × Nat) := [(3, 0), (6, 0), (6, 1), (8, 0), (1, 0), (2, 0), (4, 0), (0, 9), (0, 11), (0, 12), (0, 67), (0, 68), (0, 69), (0, 71), (0, 89), (0, 90), (0, 92), (0, 93)]
section CEN
variable {W : WR} {G : mG} {F : Nat} {S : ST} {j κ rk : Nat} {K : KY}
theorem Q10_sealedLetters {w n : Nat} {hb sk iv : List UInt8} {l1 l2 l3 : Bool} (X : Cx G F W) (h : isTK W) (hw : w < 4) (hn : n ≤ 8192) (b83 : Byt 8192 (S 0 83) hb l1) (b90 : Byt 128 (S 0 90) sk l2) (b91 : Byt 16 (S 0 91) iv l3) (f2 : (S 10 0).f 2 = (Int32.ofNat w)) : P_X10_sealedLetters G F (W.ad (.o 10 0)) (Int32.ofNat n) (mem W S) = some ((Int32.ofNat ((hb.length * 4 + 2) / 3 + (sk.length * 4 + 2) / 3 + (iv.length * 4 + 2) / 3 + (cnN w n * 4 + 2) / 3 + (wayM w * 4 + 2) / 3 + 4)), mem W S) := by
  have g10 : ∀ S, gfR (mem W S) (W.ad (.o 10 0)) 10 10 = some (W.ad (.o 0 90)) := fun S => gfR_m h.1.1 rfl (h.2.2 10 (by decide) (by decide)).1
  have g11 : ∀ S, gfR (mem W S) (W.ad (.o 10 0)) 10 11 = some (W.ad (.o 0 91)) := fun S => gfR_m h.1.1 rfl (h.2.2 11 (by decide) (by decide)).1
  have B90 : isB W 90 128 := (h.2.2 10 (by decide) (by decide)).2
  have B91 : isB W 91 16 := (h.2.2 11 (by decide) (by decide)).2
  have n1 := b83.le
  have n2 := b90.le
  have n3 := b91.le
  have n4 := cnN_le w n
  have n5 := wayM_32 w
  have sb_ : P_X2_sealedBytes G F (Int32.ofNat w) (Int32.ofNat n) (mem W S) = some ((Int32.ofNat (cnN w n)), mem W S) := by
    unfold P_X2_sealedBytes cnN
    by_cases h2 : 2 ≤ w
    · rw [if_pos (by rw [lit 2]; exact (n_le (by omega) (by omega)).mpr h2), if_pos h2]
    · rw [if_neg (by rw [lit 2]; exact fun q => h2 ((n_le (by omega) (by omega)).mp q)), if_neg h2, show (Int32.ofNat n) / (16 : Int32) = (Int32.ofNat (n / 16)) from n_div (b := 16) (by omega) (by decide), n_addL _ 1, show (Int32.ofNat (n / 16 + 1)) * (16 : Int32) = (Int32.ofNat ((n / 16 + 1) * 16)) from n_mul _ 16]
  unfold P_X10_sealedLetters
  rw [tk0 h, bO_s, h.2.1.2.gI 1 rfl, bO_s, b83.many, Q0_lettersFor (by omega), bP_s, g10, bO_s, B90.gI 1 rfl, bO_s, b90.many, Q0_lettersFor (by omega), bP_s, g11, bO_s, B91.gI 1 rfl, bO_s, b91.many, Q0_lettersFor (by omega), bP_s, gfI_m h.1.1 rfl, bO_s, f2, sb_, bP_s, Q0_lettersFor (by omega), bP_s, gfI_m h.1.1 rfl, bO_s, f2, way_t7 X hw, bO_s, Q0_lettersFor (by omega), bP_s, n_add, n_add, n_add, n_add, n_addL _ 4]
theorem Q11_enc291 {V : Nat → Int} {a w p iu iv_ ru rv : Nat} {hb fs ck sd iv u v pay : List UInt8} {lu lv lp : Bool} (X : Cx G F W) (A : isA W) (ab : AB W S) (C : CK S V) (H : isKo W j) (hj : j ≤ 16) (T : KyT S j K.2.1) (V_ : KyV K) (ha : a < 6) (hw : w < 4) (hm : maySl K a w false = true) (f1 : (S 10 0).f 1 = (Int32.ofNat a)) (f2 : (S 10 0).f 2 = (Int32.ofNat w)) (b83 : Byt 8192 (S 0 83) (tkl 8192 [] hb) (lsl 8192 [] hb false)) (b87 : Byt 32 (S 0 87) fs false) (b89 : Byt 64 (S 0 89) ck false) (b88 : Byt 32 (S 0 88) sd false) (b91 : Byt 16 (S 0 91) iv false) (hfs : 4 ≤ a → fs.length = 32 ∧ secF fs = true) (hck : a ≠ 0 → a ≠ 4 → ck.length = wayK w) (hsd : a = 3 → sd.length = 32) (hU : isB W iu ru) (bu : Byt ru (S 0 iu) u lu) (hV : isB W iv_ rv) (bv : Byt rv (S 0 iv_) v lv) (nu : iu < 11) (nv : iv_ < 11) (hu : u.length ≤ 8192) (hv : v.length ≤ 8192) (hp : p < 8) (bp : Byt 8192 (S 0 p) pay lp) (r : Int32 ⊕ List UInt8) (hr : r = slZ w hb (skF a w K fs ck sd u v) iv (ckF a w K fs ck u v) pay) : ∃ S' V', B_X11_encrypt_291 G F (W.ad (.o 11 0)) (Int32.ofNat w) (Int32.ofNat p) (W.ad (.o 11 0)) (W.ad (.o 5 j)) (W.ad (.o 0 iu)) (W.ad (.o 0 iv_)) (mem W S) = some (ansT r, mem W S') ∧ fr enL S S' ∧ AB W S' ∧ CK S' V' ∧ cW S S' ∧ shwT S S' r := by
  obtain ⟨h, hd, hrs, hcu, htk, hci, hco, h12, h13, h14, h15, h16, h17⟩ := id A
  obtain ⟨w4, B4, w5, B5, w6, B6, w3, B3⟩ := h.wk
  have g17 : ∀ S : ST, gfR (mem W S) (W.ad (.o 11 0)) 11 17 = some (W.ad (.o 10 0)) := fun S => h.gR rfl h17
  have g4 : ∀ S : ST, gfR (mem W S) (W.ad (.o 11 0)) 11 4 = some (W.ad (.o 0 11)) := fun S => h.gR rfl w4
  have g5 : ∀ S : ST, gfR (mem W S) (W.ad (.o 11 0)) 11 5 = some (W.ad (.o 0 12)) := fun S => h.gR rfl w5
  have g9 : ∀ S, gfR (mem W S) (W.ad (.o 10 0)) 10 9 = some (W.ad (.o 0 89)) := fun S => gfR_m htk.1.1 rfl (htk.2.2 9 (by decide) (by decide)).1
  have g10 : ∀ S, gfR (mem W S) (W.ad (.o 10 0)) 10 10 = some (W.ad (.o 0 90)) := fun S => gfR_m htk.1.1 rfl (htk.2.2 10 (by decide) (by decide)).1
  have g11 : ∀ S, gfR (mem W S) (W.ad (.o 10 0)) 10 11 = some (W.ad (.o 0 91)) := fun S => gfR_m htk.1.1 rfl (htk.2.2 11 (by decide) (by decide)).1
  have B83 : isB W 83 8192 := htk.2.1.2
  have B89 : isB W 89 64 := (htk.2.2 9 (by decide) (by decide)).2
  have B90 : isB W 90 128 := (htk.2.2 10 (by decide) (by decide)).2
  have B91 : isB W 91 16 := (htk.2.2 11 (by decide) (by decide)).2
  have pl := bp.le
  have wm := wayM_32 w
  obtain ⟨S1, V1, z1, q1, ab1, C1, cw1, c89, c90⟩ := Q11_makeSealedKey (G := G) (F := F) (S := S) (K := K) (a := a) (w := w) (iu := iu) (iv := iv_) X A ab C H hj T V_ ha hw hm f1 f2 b87 b89 b88 hfs hck hsd hU bu hV bv nu nv hu hv
  have ckl : (ckF a w K fs ck u v).length = wayK w := by
    obtain ⟨kd, ln⟩ := maySl_kd hm
    unfold ckF
    by_cases c0 : a = 0
    · rw [if_pos c0]
      subst c0
      exact of_decide_eq_true ln
    rw [if_neg c0]
    by_cases c4 : a = 4
    · rw [if_pos c4, dkF_len]
      unfold dkM
      rw [if_pos c4]
    rw [if_neg c4]
    exact hck c0 c4
  obtain ⟨sk, hsk⟩ : ∃ sk, sk = skF a w K fs ck sd u v := ⟨_, rfl⟩
  obtain ⟨ce, hce⟩ : ∃ ce, ce = ckF a w K fs ck u v := ⟨_, rfl⟩
  rw [← hsk] at c90 hr
  rw [← hce] at c89 hr ckl
  have q1' : fr enL S S1 := q1.mono (by simp)
  have s9 : S1 0 9 = S 0 9 := q1 0 9 (by simp)
  have b83' : Byt 8192 (S1 0 83) (tkl 8192 [] hb) (lsl 8192 [] hb false) := by rw [q1 0 83 (by simp)]; exact b83
  have b91' : Byt 16 (S1 0 91) iv false := by rw [q1 0 91 (by simp)]; exact b91
  have bp' : Byt 8192 (S1 0 p) pay lp := by rw [q1 0 p (by simp; omega)]; exact bp
  have f2' : (S1 10 0).f 2 = (Int32.ofNat w) := by rw [q1 10 0 (by simp), f2]
  have ivl := b91.le
  have skl := c90.le
  unfold B_X11_encrypt_291
  rw [rcv_m h.lo, bO_s, z1, bO_s, g17, bO_s, tk0 htk, bO_s, B83.gI 2 rfl, bO_s, b83'.lost]
  have tl := tokB_len hw hb sk iv ce pay
  have cl := cnN_le w pay.length
  by_cases c : hb.length ≤ 8192
  · rw [tkl_fit (by rw [List.length_nil]; omega), lsl_fit (by rw [List.length_nil]; omega), List.nil_append] at b83'
    rw [lsl_fit (by rw [List.length_nil]; omega), if_pos (show (if false = true then (1 : Int32) else 0) = 0 from rfl), bO_s, h.gR rfl h.ra, bO_s, h.row hp, bO_s, (h.rb p hp).gI 1 rfl, bO_s, bp'.many, rcv_m htk.1.1, bO_s, Q10_sealedLetters X htk hw pl b83' c90 b91' f2', bP_s, ← tl]
    by_cases c2 : (tokB w hb sk iv (sealF w ce iv (enc hb) pay)).length ≤ 8192
    · have hr : r = .inr (tokB w hb sk iv (sealF w ce iv (enc hb) pay)) := by
        rw [hr]
        unfold slZ
        rw [if_pos ⟨c, c2⟩]
      have sl : (sealF w ce iv (enc hb) pay).length = cnN w pay.length + wayM w := sealF_len w ce iv (enc hb) pay hw
      have hel := enc_len hb
      obtain ⟨x11, l11, b11⟩ := ab1 11 22528 (by decide) B4
      obtain ⟨o1, y1, d1⟩ := Q0_clear (G := G) (F := F) (S := S1) B4 b11
      have b83_1 : Byt 8192 ((S1.so 0 11 o1) 0 83) hb false := by rw [so_ne (by omega)]; exact b83'
      obtain ⟨o2, y2, d2⟩ := Q0_putLetters (G := G) (F := F) (S := S1.so 0 11 o1) (i := 11) (i2 := 83) (st := 0) (stop := hb.length) X B4 (by rw [so_eq]; exact d1) B83 b83_1 (by omega) (by omega) (by omega) (by omega)
      rw [so_so] at y2
      rw [List.drop_zero, Nat.sub_zero, List.take_length] at d2
      have d2 : Byt 22528 o2 (tkl 22528 [] (enc hb)) (lsl 22528 [] (enc hb) false) := d2
      rw [tkl_fit (by rw [List.length_nil]; omega), lsl_fit (by rw [List.length_nil]; omega), List.nil_append] at d2
      have y2 : P_X0_putLetters G F (W.ad (.o 0 11)) (W.ad (.o 0 83)) 0 (Int32.ofNat hb.length) (mem W (S1.so 0 11 o1)) = _ := y2
      obtain ⟨S2, hS2⟩ : ∃ S2, S2 = S1.so 0 11 o2 := ⟨_, rfl⟩
      rw [← hS2] at y2
      have q2 : fr [(0, 11)] S1 S2 := by rw [hS2]; exact fr_so (by simp)
      have d2' : Byt 22528 (S2 0 11) (enc hb) false := by rw [hS2, so_eq]; exact d2
      have ab2 : AB W S2 := by rw [hS2]; exact ab1.so B4 d2
      have C2 : CK S2 V1 := C1.fr q2 (by simp)
      obtain ⟨x12, l12, b12⟩ := ab2 12 8192 (by decide) B5
      obtain ⟨x67, l67, b67⟩ := ab2 67 64 (by decide) hd.in.2
      obtain ⟨x68, l68, b68⟩ := ab2 68 64 (by decide) hco.2.2.2.2.2.2
      have e89 : Byt 64 (S2 0 89) ce false := by rw [q2 0 89 (by simp)]; exact c89
      have e90 : Byt 128 (S2 0 90) sk false := by rw [q2 0 90 (by simp)]; exact c90
      have e91 : Byt 16 (S2 0 91) iv false := by rw [q2 0 91 (by simp)]; exact b91'
      have ep : Byt 8192 (S2 0 p) pay lp := by rw [q2 0 p (by simp; omega)]; exact bp'
      obtain ⟨S3, y3, q3, cw3, d12, d68, d67⟩ := Q2_lock (G := G) (F := F) (S := S2) (ik := 89) (i1 := 91) (i2 := 11) (i3 := p) (it := 12) (way := w) X hd hci hco B89 B91 B4 (h.rb p hp) B5 (by omega) (by omega) (by omega) (by omega) (by omega) hw ckl e89 e91 d2' ep b12 b68 b67 (by omega) (by omega) (by omega) (by omega)
      obtain ⟨cc, hcc⟩ : ∃ cc, cc = sealF w ce iv (enc hb) pay := ⟨_, rfl⟩
      rw [← hcc] at d12 hr sl c2
      have c12 : cc.length ≤ 8192 := d12.le
      have ab3 : AB W S3 := ab2.keep q3 (fun i room q hB => by
        simp only [LK, List.mem_cons, Prod.mk.injEq, List.not_mem_nil, or_false] at q
        rcases q with q | q | q | q | q | q
        · omega
        · omega
        · omega
        · rw [q.2] at hB ⊢
          rw [hB.one hd.in.2]
          exact d67
        · rw [q.2] at hB ⊢
          rw [hB.one hco.2.2.2.2.2.2]
          exact d68
        · rw [q.2] at hB ⊢
          rw [hB.one B5]
          exact ⟨_, _, d12⟩)
      have C3 : CK S3 V1 := C2.fr q3 (by simp [LK])
      have d11 : Byt 22528 (S3 0 11) (enc hb) false := by rw [q3 0 11 (by simp [LK])]; exact d2'
      have i90 : ∀ o, Byt 128 ((S3.so 0 11 o) 0 90) sk false := fun o => by rw [so_ne (by omega), q3 0 90 (by simp [LK])]; exact e90
      have i90' : Byt 128 (S3 0 90) sk false := by rw [q3 0 90 (by simp [LK])]; exact e90
      have i91 : ∀ o, Byt 16 ((S3.so 0 11 o) 0 91) iv false := fun o => by rw [so_ne (by omega), q3 0 91 (by simp [LK])]; exact e91
      have i12 : ∀ o, Byt 8192 ((S3.so 0 11 o) 0 12) cc false := fun o => by rw [so_ne (by omega)]; exact d12
      obtain ⟨p1, t1, m1⟩ := Q0_putLetterPart (G := G) (F := F) (S := S3) (i := 11) (i2 := 90) (st := 0) (stop := sk.length) X B4 d11 B90 i90' (by omega) (by omega) (by omega) (by omega)
      rw [List.drop_zero, Nat.sub_zero, List.take_length] at m1
      obtain ⟨p2, t2, m2⟩ := Q0_putLetterPart (G := G) (F := F) (S := S3.so 0 11 p1) (i := 11) (i2 := 91) (st := 0) (stop := iv.length) X B4 (by rw [so_eq]; exact m1) B91 (i91 p1) (by omega) (by omega) (by omega) (by omega)
      rw [List.drop_zero, Nat.sub_zero, List.take_length, tkl_tkl, lsl_lsl] at m2
      rw [so_so] at t2
      obtain ⟨p3, t3, m3⟩ := Q0_putLetterPart (G := G) (F := F) (S := S3.so 0 11 p2) (i := 11) (i2 := 12) (st := 0) (stop := cc.length - wayM w) X B4 (by rw [so_eq]; exact m2) B5 (i12 p2) (by omega) (by omega) (by omega) (by omega)
      rw [List.drop_zero, Nat.sub_zero, tkl_tkl, lsl_lsl] at m3
      rw [so_so] at t3
      obtain ⟨p4, t4, m4⟩ := Q0_putLetterPart (G := G) (F := F) (S := S3.so 0 11 p3) (i := 11) (i2 := 12) (st := cc.length - wayM w) (stop := cc.length) X B4 (by rw [so_eq]; exact m3) B5 (i12 p3) (by omega) (by omega) (by omega) (by omega)
      rw [tkl_tkl, lsl_lsl, show (cc.drop (cc.length - wayM w)).take (cc.length - (cc.length - wayM w)) = cc.drop (cc.length - wayM w) from List.take_of_length_le (by rw [List.length_drop]; omega)] at m4
      rw [so_so] at t4
      have t1 : P_X0_putLetterPart G F (W.ad (.o 0 11)) (W.ad (.o 0 90)) 0 (Int32.ofNat sk.length) (mem W S3) = _ := t1
      have t2 : P_X0_putLetterPart G F (W.ad (.o 0 11)) (W.ad (.o 0 91)) 0 (Int32.ofNat iv.length) (mem W (S3.so 0 11 p1)) = _ := t2
      have t3 : P_X0_putLetterPart G F (W.ad (.o 0 11)) (W.ad (.o 0 12)) 0 (Int32.ofNat (cc.length - wayM w)) (mem W (S3.so 0 11 p2)) = _ := t3
      have ft : (tokB w hb sk iv cc).length ≤ 8192 := c2
      have ft' : (enc hb).length + ((46 :: enc sk) ++ (46 :: enc iv) ++ (46 :: enc (cc.take (cc.length - wayM w))) ++ (46 :: enc (cc.drop (cc.length - wayM w)))).length ≤ 8192 := by
        unfold tokB at ft
        rw [List.length_append] at ft
        exact ft
      have m4 : Byt 22528 p4 (tkl 22528 (enc hb) ((46 :: enc sk) ++ (46 :: enc iv) ++ (46 :: enc (cc.take (cc.length - wayM w))) ++ (46 :: enc (cc.drop (cc.length - wayM w))))) (lsl 22528 (enc hb) ((46 :: enc sk) ++ (46 :: enc iv) ++ (46 :: enc (cc.take (cc.length - wayM w))) ++ (46 :: enc (cc.drop (cc.length - wayM w)))) false) := m4
      rw [tkl_fit (by omega), lsl_fit (by omega)] at m4
      have m4 : Byt 22528 p4 (tokB w hb sk iv cc) false := m4
      have ab4 : AB W (S3.so 0 11 p4) := ab3.so B4 m4
      obtain ⟨x9, l9, b9⟩ := ab4 9 8192 (by decide) h.sb
      obtain ⟨o5, t5, m5⟩ := Q11_show (G := G) (F := F) (S := S3.so 0 11 p4) (i := 11) (p := 0) (n := (tokB w hb sk iv cc).length) h b9 B4 (by rw [so_eq]; exact m4) (by omega) (by omega) ft
      rw [List.drop_zero, List.take_length] at m5
      have t5 : P_X11_show G F (W.ad (.o 11 0)) (W.ad (.o 0 11)) 0 (Int32.ofNat (tokB w hb sk iv cc).length) (mem W (S3.so 0 11 p4)) = _ := t5
      have nsb : (Int32.ofNat cc.length) - (Int32.ofNat (wayM w)) = (Int32.ofNat (cc.length - wayM w)) := n_sub (by omega)
      rw [← hcc, if_pos (show (Int32.ofNat (tokB w hb sk iv cc).length) ≤ (8192 : Int32) from (n_le (b := 8192) (by omega) (by omega)).mpr ft), g4, bO_s, rcv_m B4.lo, bO_s, y1, bO_s, g4, bO_s, g17, bO_s, tk0 htk, bO_s, bO_s, tk0 htk, bO_s, B83.gI 1 rfl, bO_s, b83_1.many, rcv_m B4.lo, bO_s, y2, bO_s, h.gR rfl h14, bO_s, g17, bO_s, g9, bO_s, bO_s, g11, bO_s, g4, bO_s, h.gR rfl h.ra, bO_s, h.row hp, bO_s, g5, bO_s, rcv_m hco.1, bO_s, y3, bO_s]
      rw [g4, bO_s, g17, bO_s, g10, bO_s, bO_s, g10, bO_s, B90.gI 1 rfl, bO_s, i90'.many, rcv_m B4.lo, bO_s, t1, bO_s]
      rw [g4, bO_s, g17, bO_s, g11, bO_s, bO_s, g11, bO_s, B91.gI 1 rfl, bO_s, (i91 p1).many, rcv_m B4.lo, bO_s, t2, bO_s]
      rw [g4, bO_s, g5, bO_s, bO_s, B5.gI 1 rfl, bO_s, (i12 p2).many, way_t7 X hw, bO_s, nsb, rcv_m B4.lo, bO_s, t3, bO_s]
      rw [g4, bO_s, g5, bO_s, bO_s, B5.gI 1 rfl, bO_s, (i12 p3).many, way_t7 X hw, bO_s, bO_s, B5.gI 1 rfl, bO_s, (i12 p3).many, nsb, rcv_m B4.lo, bO_s, t4, bO_s]
      rw [g4, bO_s, bO_s, B4.gI 1 rfl, bO_s, so_eq, m4.many, rcv_m h.lo, bO_s, t5, bP_s, hr]
      refine ⟨(S3.so 0 11 p4).so 0 9 o5, V1, rfl, (((q1'.trans (q2.mono (by simp))).trans (q3.mono (by simp [LK]))).trans (fr_so (by simp))).trans (fr_so (by simp)), ab4.so h.sb m5, ?_, ((cw1.trans (cW.of q2 (by simp))).trans (agr.mono cw3 (by simp) (by simp) (by simp) (by simp))).trans ((cW.of (L := [(0, 11)]) (fr_so (by simp)) (by simp)).trans (cW.of (L := [(0, 9)]) (fr_so (by simp)) (by simp))), ?_⟩
      · exact (C3.fr (L := [(0, 11)]) (fr_so (by simp)) (by simp)).fr (L := [(0, 9)]) (fr_so (by simp)) (by simp)
      · show Byt 8192 (((S3.so 0 11 p4).so 0 9 o5) 0 9) _ false
        rw [so_eq]
        exact m5
    · have hr : r = .inl (-3) := by
        rw [hr]
        unfold slZ
        rw [if_neg (fun q => c2 q.2)]
      rw [if_neg (show ¬ (Int32.ofNat (tokB w hb sk iv (sealF w ce iv (enc hb) pay)).length) ≤ (8192 : Int32) from fun q => c2 ((n_le (b := 8192) (by omega) (by omega)).mp q)), hr]
      exact ⟨S1, V1, rfl, q1', ab1, C1, cw1, s9⟩
  · have hr : r = .inl (-3) := by
      rw [hr]
      unfold slZ
      rw [if_neg (fun q => c q.1)]
    have ls : lsl 8192 [] hb false = true := by
      unfold lsl
      rw [List.length_nil, decide_eq_true (by omega)]
      rfl
    rw [ls, if_neg (by decide), hr]
    exact ⟨S1, V1, rfl, q1', ab1, C1, cw1, s9⟩
end CEN
