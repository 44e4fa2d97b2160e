/-! THE CONTENT'S KEY OF A SEALED TOKEN: the class -/
def uwO (key u : List UInt8) : Option (List UInt8) := if 8 ≤ u.length ∧ mayW (u.length - 8) = true then unwrapF key u else none
def kcF (a w : Nat) (K : KY) (sk pt u v : List UInt8) : Option (List UInt8) := if a = 0 then (if sk = [] then some K.2.1.1 else none) else if a = 3 then oaO K.2.1.1 sk (K.2.1.2.2.getD []) else if a = 4 then (if sk = [] then some (dkF a w (K.2.1.2.2.getD []) pt u v) else none) else if a = 5 then uwO (dkF a w (K.2.1.2.2.getD []) pt u v) sk else uwO K.2.1.1 sk
abbrev kcL : List (Nat × Nat) := [(3, 0), (6, 0), (6, 1), (8, 0), (1, 0), (4, 0), (0, 67), (0, 69), (0, 70), (0, 71), (0, 89), (0, 92), (0, 93)]
section CCK
variable {W : WR} {G : mG} {F : Nat} {S : ST} {j κ rk : Nat} {K : KY}
theorem Q1_putUnw {i1 i2 i3 room1 room2 room3 : Nat} {key u t : List UInt8} {l1 l2 l3 : Bool} (X : Cx G F W) (h : isCi W) (hB1 : isB W i1 room1) (hB2 : isB W i2 room2) (hB3 : isB W i3 room3) (hkl : key.length = 16 ∨ key.length = 32) (hr3 : 64 ≤ room3) (hr2 : room2 ≤ 8192) (hI : IB S) (hb1 : Byt room1 (S 0 i1) key l1) (hb2 : Byt room2 (S 0 i2) u l2) (hb3 : Byt room3 (S 0 i3) t l3) : ∃ S', P_X1_putUnwrapped G F (W.ad (.o 1 0)) (W.ad (.o 0 i1)) (W.ad (.o 0 i2)) (W.ad (.o 0 i3)) (mem W S) = some (if (uwO key u).isSome = true then 1 else 0, mem W S') ∧ fr [(1, 0), (0, i3)] S S' ∧ cW S S' ∧ (∃ xs l, Byt room3 (S' 0 i3) xs l) ∧ ∀ v, uwO key u = some v → Byt room3 (S' 0 i3) v false := by
  have ul := hb2.le
  by_cases c : 8 ≤ u.length ∧ mayW (u.length - 8) = true
  · obtain ⟨S', g, f, a, q⟩ := Q1_putUnwrapped (G := G) (F := F) (S := S) X h hB1 hB2 hB3 hkl c.1 c.2 hr3 hI hb1 hb2 hb3
    have eu : uwO key u = unwrapF key u := by unfold uwO; rw [if_pos c]
    rw [eu]
    refine ⟨S', g, f, a, ?_, ?_⟩
    · revert q
      cases unwrapF key u with
      | none => intro q; exact ⟨_, _, by rw [show S' 0 i3 = S 0 i3 from q]; exact hb3⟩
      | some v => intro q; exact ⟨_, _, q⟩
    · intro v hv
      rw [hv] at q
      exact q
  · have eu : uwO key u = none := by unfold uwO; rw [if_neg c]
    rw [eu]
    refine ⟨S, ?_, fr.refl _ _, agr.refl _ _ _ _ _, ⟨_, _, hb3⟩, fun v hv => absurd hv (by simp)⟩
    unfold P_X1_putUnwrapped
    rw [hB2.gI 1 rfl, bO_s, hb2.many]
    by_cases h8 : 8 ≤ u.length
    · have hm : mayW (u.length - 8) = false := by
        cases e : mayW (u.length - 8) with
        | false => rfl
        | true => exact absurd ⟨h8, e⟩ c
      rw [n_subL 8 h8, Q1_mayWrap (by omega), bP_s, hm, if_pos (by rfl), retZ0]
      rfl
    · rw [neg_may (by omega), bP_s, if_pos rfl, retZ0]
      rfl
theorem Q11_kc40 {V : Nat → Int} {a w : Nat} {sk pt u v : List UInt8} (X : Cx G F W) (A : isA W) (ab : AB W S) (C : CK S V) (I : IB S) (H : isKo W j) (hj : j ≤ 16) (T : KyT S j K.2.1) (V_ : KyV K) (ha : a < 6) (hw : w < 4) (hm : maySl K a w true = true) (f1 : (S 10 0).f 1 = (Int32.ofNat a)) (b90 : Byt 128 (S 0 90) sk false) (b92 : 4 ≤ a → Byt 64 (S 0 92) (dkF a w (K.2.1.2.2.getD []) pt u v) false) : ∃ S', B_X11_contentKeyComes_40 G F (W.ad (.o 11 0)) (W.ad (.o 5 j)) (mem W S) = some (if (kcF a w K sk pt u v).isSome = true then 1 else 0, mem W S') ∧ fr kcL S S' ∧ AB W S' ∧ CK S' V ∧ cW S S' ∧ ∀ ck, kcF a w K sk pt u v = some ck → Byt 64 (S' 0 89) ck false := by
  obtain ⟨h, hd, hrs, hcu, htk, hci, hco, h12, h13, h14, h15, h16, h17⟩ := id A
  obtain ⟨t1, t2, t3⟩ := T
  obtain ⟨kd, ln⟩ := maySl_kd hm
  have g17 : ∀ S : ST, gfR (mem W S) (W.ad (.o 11 0)) 11 17 = some (W.ad (.o 10 0)) := fun S => h.gR rfl h17
  have g9 : ∀ S, gfR (mem W S) (W.ad (.o 10 0)) 10 9 = some (W.ad (.o 0 89)) := fun S => gfR_m htk.1.1 rfl (htk.2.2 9 (by decide) (by decide)).1
  have g10 : ∀ S, gfR (mem W S) (W.ad (.o 10 0)) 10 10 = some (W.ad (.o 0 90)) := fun S => gfR_m htk.1.1 rfl (htk.2.2 10 (by decide) (by decide)).1
  have g12 : ∀ S, gfR (mem W S) (W.ad (.o 10 0)) 10 12 = some (W.ad (.o 0 92)) := fun S => gfR_m htk.1.1 rfl (htk.2.2 12 (by decide) (by decide)).1
  have B89 : isB W 89 64 := (htk.2.2 9 (by decide) (by decide)).2
  have B90 : isB W 90 128 := (htk.2.2 10 (by decide) (by decide)).2
  have B92 : isB W 92 64 := (htk.2.2 12 (by decide) (by decide)).2
  have k64 : isB W (16 + 3 * j) 128 := H.2.2.2.2.1
  have k66 : isB W (18 + 3 * j) 128 := H.2.2.2.2.2.2
  have wl := wayK_le w
  have x1 : gfI (mem W S) (W.ad (.o 10 0)) 10 1 = some (Int32.ofNat a) := by rw [gfI_m htk.1.1 rfl, f1]
  have n1 := t1.le
  have n3 := t3.le
  have skl := b90.le
  obtain ⟨x89, l89, b89⟩ := ab 89 64 (by decide) B89
  unfold B_X11_contentKeyComes_40
  rw [g17, bO_s, x1, bO_s]
  -- unwrapped with some key
  have unw : ∀ (ik rk_ : Nat) (key : List UInt8) (lk : Bool), isB W ik rk_ → Byt rk_ (S 0 ik) key lk → (key.length = 16 ∨ key.length = 32) → kcF a w K sk pt u v = uwO key sk → ∃ S', (bP (P_X1_putUnwrapped G F (W.ad (.o 1 0)) (W.ad (.o 0 ik)) (W.ad (.o 0 90)) (W.ad (.o 0 89)) (mem W S)) fun v234 M234 => retZ v234 M234) = some (if (kcF a w K sk pt u v).isSome = true then 1 else 0, mem W S') ∧ fr kcL S S' ∧ AB W S' ∧ CK S' V ∧ cW S S' ∧ ∀ ck, kcF a w K sk pt u v = some ck → Byt 64 (S' 0 89) ck false := by
    intro ik rk_ key lk hB bk hkl ek
    obtain ⟨S', z1, z2, z3, z4, z5⟩ := Q1_putUnw (G := G) (F := F) (S := S) (i1 := ik) (i2 := 90) (i3 := 89) X hci hB B90 B89 hkl (by decide) (by decide) I bk b90 b89
    rw [ek, z1, bP_s]
    refine ⟨S', ?_, z2.mono (by simp), ab.keep z2 (fun i room q hB => ?_), C.fr z2 (by simp), z3, z5⟩
    · cases (uwO key sk).isSome <;> rfl
    · simp only [List.mem_cons, Prod.mk.injEq, List.not_mem_nil, or_false] at q
      rcases q with q | q
      · omega
      · rw [q.2] at hB ⊢
        rw [hB.one B89]
        exact z4
  -- a key that becomes the content's
  have bec : ∀ (ik rk_ : Nat) (key : List UInt8) (lk : Bool), isB W ik rk_ → Byt rk_ (S 0 ik) key lk → ik ≠ 89 → key.length ≤ 64 → kcF a w K sk pt u v = (if sk = [] then some key else none) → ∃ S', (bO (P_X0_become G F (W.ad (.o 0 89)) (W.ad (.o 0 ik)) (mem W S)) fun M95 => bO (gfR M95 (W.ad (.o 11 0)) 11 17) fun v99 => bO (gfR M95 v99 10 10) fun v102 => bO (gfI M95 v102 0 1) fun v105 => if v105 = 0 then (retZ (1 : Int32) M95) else (retZ (0 : Int32) M95)) = some (if (kcF a w K sk pt u v).isSome = true then 1 else 0, mem W S') ∧ fr kcL S S' ∧ AB W S' ∧ CK S' V ∧ cW S S' ∧ ∀ ck, kcF a w K sk pt u v = some ck → Byt 64 (S' 0 89) ck false := by
    intro ik rk_ key lk hB bk hne hkl ek
    obtain ⟨o, z1, z2⟩ := Q0_become (G := G) (F := F) (S := S) (i := 89) (i2 := ik) B89 b89 hB bk hne
    rw [tkl_fit (by rw [List.length_nil]; omega), lsl_fit (by rw [List.length_nil]; omega), List.nil_append] at z2
    have b90' : Byt 128 ((S.so 0 89 o) 0 90) sk false := by rw [so_ne (by omega)]; exact b90
    have x0 : ((Int32.ofNat sk.length) = (0 : Int32)) = (sk = []) := propext ((n_eq (b := 0) (by omega) (by omega)).trans List.length_eq_zero_iff)
    rw [ek, z1, bO_s, g17, bO_s, g10, bO_s, B90.gI 1 rfl, bO_s, b90'.many]
    simp only [x0]
    refine ⟨S.so 0 89 o, ?_, fr_so (by simp), ab.so B89 z2, C.fr (L := [(0, 89)]) (fr_so (by simp)) (by simp), cW.of (L := [(0, 89)]) (fr_so (by simp)) (by simp), fun ck hck => ?_⟩
    · by_cases c : sk = []
      · rw [if_pos c, if_pos c]
        rfl
      · rw [if_neg c, if_neg c]
        rfl
    · by_cases c : sk = []
      · rw [if_pos c] at hck
        rw [← Option.some.inj hck, so_eq]
        exact z2
      · rw [if_neg c] at hck
        exact absurd hck (by simp)
  have h6 : a = 0 ∨ a = 1 ∨ a = 2 ∨ a = 3 ∨ a = 4 ∨ a = 5 := by omega
  rcases h6 with rfl | rfl | rfl | rfl | rfl | rfl
  · have ln : K.2.1.1.length = wayK w := of_decide_eq_true ln
    rw [if_pos (by decide), bO_s, g9, bO_s, gfR_m H.1 rfl H.2.1, bO_s, rcv_m B89.lo, bO_s]
    exact bec _ _ _ _ k64 t1 (by omega) (by omega) rfl
  · have ln : K.2.1.1.length = 16 := of_decide_eq_true ln
    rw [if_neg (by decide), if_pos (by decide), h.gR rfl h13, bO_s, gfR_m H.1 rfl H.2.1, bO_s, bO_s, g10, bO_s, bO_s, g9, bO_s, rcv_m hci.1, bO_s]
    exact unw _ _ _ _ k64 t1 (Or.inl ln) rfl
  · have ln : K.2.1.1.length = 32 := of_decide_eq_true ln
    rw [if_neg (by decide), if_neg (by decide), if_pos (by decide), h.gR rfl h13, bO_s, gfR_m H.1 rfl H.2.1, bO_s, bO_s, g10, bO_s, bO_s, g9, bO_s, rcv_m hci.1, bO_s]
    exact unw _ _ _ _ k64 t1 (Or.inr ln) rfl
  · have ln : (decide (66 + wayK w ≤ K.2.1.1.length) && (!true || K.2.1.2.2.isSome)) = true := ln
    rw [Bool.and_eq_true, decide_eq_true_iff] at ln
    obtain ⟨r1, r2, r3, r4⟩ := V_.rsa kd
    obtain ⟨u69, l69, b69⟩ := ab 69 128 (by decide) hrs.2.2.2.2.2.2.2.2.1
    obtain ⟨u70, l70, b70⟩ := ab 70 128 (by decide) hrs.2.2.2.2.2.2.2.2.2.1
    obtain ⟨u71, l71, b71⟩ := ab 71 32 (by decide) hrs.2.2.2.2.2.2.2.2.2.2.1
    obtain ⟨S', z1, z2, z3, z4, z5, z6, z7⟩ := Q8_openOaep (G := G) (F := F) (S := S) (is_ := 90) (id_ := 18 + 3 * j) (in_ := 16 + 3 * j) (it := 89) X hrs hd B90 b90 k66 t3 (by omega) k64 t1 r1 (by omega) B89 b89 (by decide) b69 b70 b71 (by omega) (by omega) (by omega) (by omega)
    rw [if_neg (by decide), if_neg (by decide), if_neg (by decide), if_pos (by decide), h.gR rfl h15, bO_s, bO_s, g10, bO_s, gfR_m H.1 rfl H.2.2.2.1, bO_s, gfR_m H.1 rfl H.2.1, bO_s, bO_s, g9, bO_s, rcv_m hrs.1, bO_s, z1, bP_s]
    refine ⟨S', ?_, z2.mono (by simp), ab.keep z2 (fun i room q hB => ?_), C.fr z2 (by simp), cW.of z2 (by simp), z7⟩
    · show retZ (if (oaO K.2.1.1 sk (K.2.1.2.2.getD [])).isSome = true then 1 else 0) _ = some (if (oaO K.2.1.1 sk (K.2.1.2.2.getD [])).isSome = true then 1 else 0, _)
      cases (oaO K.2.1.1 sk (K.2.1.2.2.getD [])).isSome <;> rfl
    · simp only [List.mem_cons, Prod.mk.injEq, List.not_mem_nil, or_false] at q
      rcases q with q | q | q | q | q | q | q
      · omega
      · omega
      · omega
      · rw [q.2] at hB ⊢
        rw [hB.one hrs.2.2.2.2.2.2.2.2.1]
        exact z3
      · rw [q.2] at hB ⊢
        rw [hB.one hrs.2.2.2.2.2.2.2.2.2.1]
        exact z4
      · rw [q.2] at hB ⊢
        rw [hB.one hrs.2.2.2.2.2.2.2.2.2.2.1]
        exact z5
      · rw [q.2] at hB ⊢
        rw [hB.one B89]
        exact z6
  · rw [if_neg (by decide), if_neg (by decide), if_neg (by decide), if_neg (by decide), if_pos (by decide), bO_s, g9, bO_s, bO_s, g12, bO_s, rcv_m B89.lo, bO_s]
    exact bec 92 64 _ _ B92 (b92 (by decide)) (by omega) (by rw [dkF_len]; rcases dkM_v 4 w with q | q | q <;> omega) rfl
  · rw [if_neg (by decide), if_neg (by decide), if_neg (by decide), if_neg (by decide), if_neg (by decide), if_pos (by decide), h.gR rfl h13, bO_s, bO_s, g12, bO_s, bO_s, g10, bO_s, bO_s, g9, bO_s, rcv_m hci.1, bO_s]
    exact unw 92 64 _ _ B92 (b92 (by decide)) (Or.inl (by rw [dkF_len]; rfl)) rfl
theorem Q11_contentKeyComes {V : Nat → Int} {a w : Nat} {sk pt u v : List UInt8} {lp lu lv : Bool} (X : Cx G F W) (A : isA W) (ab : AB W S) (C : CK S V) (I : IB S) (H : isKo W j) (hj : j ≤ 16) (T : KyT S j K.2.1) (V_ : KyV K) (ha : a < 6) (hw : w < 4) (hm : maySl K a w true = true) (f1 : (S 10 0).f 1 = (Int32.ofNat a)) (f2 : (S 10 0).f 2 = (Int32.ofNat w)) (b90 : Byt 128 (S 0 90) sk false) (bp : 4 ≤ a → Byt 64 (S 0 86) pt lp ∧ pt.length = 64 ∧ onC (beN (seg pt 0 32)) (beN (seg pt 32 32)) = true) (bu : 4 ≤ a → Byt 4608 (S 0 84) u lu) (bv : 4 ≤ a → Byt 4608 (S 0 85) v lv) : ∃ S' V', P_X11_contentKeyComes G F (W.ad (.o 11 0)) (W.ad (.o 5 j)) (mem W S) = some (if (kcF a w K sk pt u v).isSome = true then 1 else 0, mem W S') ∧ fr kcL S S' ∧ AB W S' ∧ CK S' V' ∧ cW S S' ∧ ∀ ck, kcF a w K sk pt u v = some ck → Byt 64 (S' 0 89) ck false := by
  obtain ⟨h, hd, hrs, hcu, htk, hci, hco, h12, h13, h14, h15, h16, h17⟩ := id A
  have g17 : ∀ S : ST, gfR (mem W S) (W.ad (.o 11 0)) 11 17 = some (W.ad (.o 10 0)) := fun S => h.gR rfl h17
  have g4 : ∀ S, gfR (mem W S) (W.ad (.o 10 0)) 10 4 = some (W.ad (.o 0 84)) := fun S => gfR_m htk.1.1 rfl (htk.2.2 4 (by decide) (by decide)).1
  have g5 : ∀ S, gfR (mem W S) (W.ad (.o 10 0)) 10 5 = some (W.ad (.o 0 85)) := fun S => gfR_m htk.1.1 rfl (htk.2.2 5 (by decide) (by decide)).1
  have g6 : ∀ S, gfR (mem W S) (W.ad (.o 10 0)) 10 6 = some (W.ad (.o 0 86)) := fun S => gfR_m htk.1.1 rfl (htk.2.2 6 (by decide) (by decide)).1
  have B84 : isB W 84 4608 := (htk.2.2 4 (by decide) (by decide)).2
  have B85 : isB W 85 4608 := (htk.2.2 5 (by decide) (by decide)).2
  have B86 : isB W 86 64 := (htk.2.2 6 (by decide) (by decide)).2
  have k66 : isB W (18 + 3 * j) 128 := H.2.2.2.2.2.2
  obtain ⟨t1, t2, t3⟩ := id T
  have x1 : gfI (mem W S) (W.ad (.o 10 0)) 10 1 = some (Int32.ofNat a) := by rw [gfI_m htk.1.1 rfl, f1]
  have x4 : ((Int32.ofNat a) < (4 : Int32)) = (a < 4) := propext (n_lt (b := 4) (by omega) (by omega))
  unfold P_X11_contentKeyComes
  rw [g17, bO_s, x1, bO_s]
  simp only [x4]
  by_cases c : a < 4
  · obtain ⟨S', q1, q2, q3, q4, q5, q6⟩ := Q11_kc40 (G := G) (F := F) (S := S) (a := a) (w := w) (sk := sk) (pt := pt) (u := u) (v := v) X A ab C I H hj T V_ ha hw hm f1 b90 (fun q => by omega)
    rw [if_pos c, q1]
    exact ⟨S', V, rfl, q2, q3, q4, q5, q6⟩
  · have ha4 : 4 ≤ a := by omega
    obtain ⟨kd, ln⟩ := maySl_kd hm
    have kd : K.1 = 2 := by
      rw [kd]
      unfold slKd
      rw [if_neg (by omega), if_neg (by omega)]
    have ls : K.2.1.2.2.isSome = true := by
      unfold slLn at ln
      rw [if_neg (by omega), if_neg (by omega), if_neg (by omega), if_neg (by omega)] at ln
      exact ln
    obtain ⟨d, hd'⟩ := Option.isSome_iff_exists.mp ls
    obtain ⟨dl, ds⟩ := (V_.ec kd).2 d hd'
    have dg : K.2.1.2.2.getD [] = d := by rw [hd']; rfl
    rw [seg_all dl] at ds
    obtain ⟨bp, pl, on⟩ := bp ha4
    have bu := bu ha4
    have bv := bv ha4
    have ul := bu.le
    have vl := bv.le
    obtain ⟨S2, V2, p1, p2, p3, p4, p5⟩ := Q11_agree (G := G) (F := F) (S := S) (a := a) (w := w) (is_ := 18 + 3 * j) (ip := 86) (iu := 84) (iv := 85) (sec := K.2.1.2.2.getD []) (pt := pt) (u := u) (v := v) X A ab C ha ha4 hw f1 f2 k66 t3 (by rw [dg]; exact dl) (by rw [dg]; exact ds) B86 bp (by omega) on B84 bu B85 bv (by simp) (by simp) (by omega) (by omega)
    have cw2 : cW S S2 := cW.of p2 (by simp)
    have I2 : IB S2 := fun x => by
      rw [cw2.2.2.1 0 (by decide)]
      exact I x
    obtain ⟨S', q1, q2, q3, q4, q5, q6⟩ := Q11_kc40 (G := G) (F := F) (S := S2) (a := a) (w := w) (sk := sk) (pt := pt) (u := u) (v := v) X A p3 p4 I2 H hj ⟨by rw [p2 0 _ (by simp; omega)]; exact t1, by rw [p2 0 _ (by simp; omega)]; exact t2, by rw [p2 0 _ (by simp; omega)]; exact t3⟩ V_ ha hw hm (by rw [p2 10 0 (by simp)]; exact f1) (by rw [p2 0 90 (by simp)]; exact b90) (fun _ => p5)
    rw [if_neg c, gfR_m H.1 rfl H.2.2.2.1, bO_s, bO_s, g6, bO_s, bO_s, g4, bO_s, bO_s, g5, bO_s, rcv_m h.lo, bO_s, p1, bO_s, q1]
    exact ⟨S', V2, rfl, (p2.mono (by simp)).trans q2, q3, q4, cw2.trans q5, q6⟩
end CCK
