/-! THE KEY OF A SEALED TOKEN: the class -/
/-- the content's key -/
def ckF (a w : Nat) (K : KY) (fs ck u v : List UInt8) : List UInt8 := if a = 0 then K.2.1.1 else if a = 4 then dkF a w fs K.2.1.1 u v else ck
/-- the sealed key -/
def skF (a w : Nat) (K : KY) (fs ck sd u v : List UInt8) : List UInt8 := if a = 0 ∨ a = 4 then [] else if a = 3 then powF (oaF sd ck K.2.1.1.length) K.2.1.2.1 K.2.1.1 else if a = 5 then wrapF (dkF a w fs K.2.1.1 u v) ck else wrapF K.2.1.1 ck
abbrev mkL : List (Nat × Nat) := [(3, 0), (6, 0), (6, 1), (8, 0), (1, 0), (4, 0), (0, 67), (0, 69), (0, 71), (0, 89), (0, 90), (0, 92), (0, 93)]
/-- what is left of the cipher: its tables stand -/
abbrev cW (S S' : ST) : Prop := agr [2] [] [1, 3, 4, 5] [] (S 1 0) (S' 1 0)
theorem cW.of {S S' : ST} {L : List (Nat × Nat)} (f : fr L S S') (h : (1, 0) ∉ L) : cW S S' := by
  show agr [2] [] [1, 3, 4, 5] [] (S 1 0) (S' 1 0)
  rw [f 1 0 h]
  exact agr.refl _ _ _ _ _
theorem cW.trans {S S1 S2 : ST} (h1 : cW S S1) (h2 : cW S1 S2) : cW S S2 := agr.trans h1 h2
section CSK
variable {W : WR} {G : mG} {F : Nat} {S : ST} {j κ rk : Nat} {K : KY}
theorem Q11_msk38 {V : Nat → Int} {a w : Nat} {fs ck sd u v x90 : List UInt8} (X : Cx G F W) (A : isA W) (ab : AB W S) (C : CK S V) (H : isKo W j) (hj : j ≤ 16) (T : KyT S j K.2.1) (V_ : KyV K) (ha : a < 6) (hw : w < 4) (hm : maySl K a w false = true) (f1 : (S 10 0).f 1 = (Int32.ofNat a)) (b89 : Byt 64 (S 0 89) ck false) (b88 : Byt 32 (S 0 88) sd false) (b90 : Byt 128 (S 0 90) [] false) (b92 : 4 ≤ a → Byt 64 (S 0 92) (dkF a w fs K.2.1.1 u v) false) (hck : a ≠ 0 → a ≠ 4 → ck.length = wayK w) (hsd : a = 3 → sd.length = 32) : ∃ S' V', B_X11_makeSealedKey_38 G F (W.ad (.o 11 0)) (W.ad (.o 5 j)) (mem W S) = some (mem W S') ∧ fr mkL S S' ∧ AB W S' ∧ CK S' V' ∧ cW S S' ∧ Byt 64 (S' 0 89) (ckF a w K fs ck u v) false ∧ Byt 128 (S' 0 90) (skF a w K fs ck sd u v) false := by
  obtain ⟨h, hd, hrs, hcu, htk, hci, hco, h12, h13, h14, h15, h16, h17⟩ := id A
  obtain ⟨t1, t2, t3⟩ := T
  obtain ⟨kd, ln⟩ := maySl_kd hm
  have g17 : ∀ S : ST, gfR (mem W S) (W.ad (.o 11 0)) 11 17 = some (W.ad (.o 10 0)) := fun S => h.gR rfl h17
  have g8 : ∀ S, gfR (mem W S) (W.ad (.o 10 0)) 10 8 = some (W.ad (.o 0 88)) := fun S => gfR_m htk.1.1 rfl (htk.2.2 8 (by decide) (by decide)).1
  have g9 : ∀ S, gfR (mem W S) (W.ad (.o 10 0)) 10 9 = some (W.ad (.o 0 89)) := fun S => gfR_m htk.1.1 rfl (htk.2.2 9 (by decide) (by decide)).1
  have g10 : ∀ S, gfR (mem W S) (W.ad (.o 10 0)) 10 10 = some (W.ad (.o 0 90)) := fun S => gfR_m htk.1.1 rfl (htk.2.2 10 (by decide) (by decide)).1
  have g12 : ∀ S, gfR (mem W S) (W.ad (.o 10 0)) 10 12 = some (W.ad (.o 0 92)) := fun S => gfR_m htk.1.1 rfl (htk.2.2 12 (by decide) (by decide)).1
  have B88 : isB W 88 32 := (htk.2.2 8 (by decide) (by decide)).2
  have B89 : isB W 89 64 := (htk.2.2 9 (by decide) (by decide)).2
  have B90 : isB W 90 128 := (htk.2.2 10 (by decide) (by decide)).2
  have B92 : isB W 92 64 := (htk.2.2 12 (by decide) (by decide)).2
  have k64 : isB W (16 + 3 * j) 128 := H.2.2.2.2.1
  have k65 : isB W (17 + 3 * j) 128 := H.2.2.2.2.2.1
  have wl := wayK_le w
  have x1 : gfI (mem W S) (W.ad (.o 10 0)) 10 1 = some (Int32.ofNat a) := by rw [gfI_m htk.1.1 rfl, f1]
  have n1 := t1.le
  have n2 := t2.le
  unfold B_X11_makeSealedKey_38
  rw [g17, bO_s, x1, bO_s]
  -- wrapped with some key
  have wrap : ∀ (ik rk_ : Nat) (key : List UInt8) (lk : Bool), isB W ik rk_ → Byt rk_ (S 0 ik) key lk → (key.length = 16 ∨ key.length = 32) → ck.length = wayK w → ∃ S', P_X1_putWrapped G F (W.ad (.o 1 0)) (W.ad (.o 0 ik)) (W.ad (.o 0 89)) (W.ad (.o 0 90)) (mem W S) = some (mem W S') ∧ fr mkL S S' ∧ AB W S' ∧ CK S' V ∧ cW S S' ∧ Byt 64 (S' 0 89) ck false ∧ Byt 128 (S' 0 90) (wrapF key ck) false := by
    intro ik rk_ key lk hB bk hkl hcl
    obtain ⟨S', z1, z2, z3, z4⟩ := Q1_putWrapped (G := G) (F := F) (S := S) (i1 := ik) (i2 := 89) (i3 := 90) X hci hB B89 B90 (by decide) hkl (by rw [hcl]; exact mayW_w w) (by decide) bk b89 b90
    refine ⟨S', z1, z2.mono (by simp), ab.keep z2 (fun i room q hB => ?_), C.fr z2 (by simp), z3, by rw [z2 0 89 (by simp)]; exact b89, z4⟩
    simp only [List.mem_cons, Prod.mk.injEq, List.not_mem_nil, or_false] at q
    rcases q with q | q
    · omega
    · rw [q.2] at hB ⊢
      rw [hB.one B90]
      exact ⟨_, _, z4⟩
  -- a key that becomes the content's
  have bec : ∀ (ik rk_ : Nat) (key : List UInt8) (lk : Bool), isB W ik rk_ → Byt rk_ (S 0 ik) key lk → ik ≠ 89 → key.length ≤ 64 → ∃ S', P_X0_become G F (W.ad (.o 0 89)) (W.ad (.o 0 ik)) (mem W S) = some (mem W S') ∧ fr mkL S S' ∧ AB W S' ∧ CK S' V ∧ cW S S' ∧ Byt 64 (S' 0 89) key false ∧ Byt 128 (S' 0 90) [] false := by
    intro ik rk_ key lk hB bk hne hkl
    obtain ⟨o, z1, z2⟩ := Q0_become (G := G) (F := F) (S := S) (i := 89) (i2 := ik) B89 b89 hB bk hne
    rw [tkl_fit (by rw [List.length_nil]; omega), lsl_fit (by rw [List.length_nil]; omega), List.nil_append] at z2
    exact ⟨S.so 0 89 o, z1, fr_so (by simp), ab.so B89 z2, C.fr (L := [(0, 89)]) (fr_so (by simp)) (by simp), cW.of (L := [(0, 89)]) (fr_so (by simp)) (by simp), by rw [so_eq]; exact z2, by rw [so_ne (by omega)]; exact b90⟩
  have h6 : a = 0 ∨ a = 1 ∨ a = 2 ∨ a = 3 ∨ a = 4 ∨ a = 5 := by omega
  rcases h6 with rfl | rfl | rfl | rfl | rfl | rfl
  · have ln : K.2.1.1.length = wayK w := of_decide_eq_true ln
    obtain ⟨S', z1, z2, z3, z4, zc, z5, z6⟩ := bec _ _ _ _ k64 t1 (by omega) (by omega)
    rw [if_pos (by decide), bO_s, g9, bO_s, gfR_m H.1 rfl H.2.1, bO_s, rcv_m B89.lo, bO_s, z1, bO_s]
    exact ⟨S', V, rfl, z2, z3, z4, zc, z5, z6⟩
  · have ln : K.2.1.1.length = 16 := of_decide_eq_true ln
    obtain ⟨S', z1, z2, z3, z4, zc, z5, z6⟩ := wrap _ _ _ _ k64 t1 (Or.inl ln) (hck (by decide) (by decide))
    rw [if_neg (by decide), if_pos (by decide), h.gR rfl h13, bO_s, gfR_m H.1 rfl H.2.1, bO_s, bO_s, g9, bO_s, bO_s, g10, bO_s, rcv_m hci.1, bO_s, z1, bO_s]
    exact ⟨S', V, rfl, z2, z3, z4, zc, z5, z6⟩
  · have ln : K.2.1.1.length = 32 := of_decide_eq_true ln
    obtain ⟨S', z1, z2, z3, z4, zc, z5, z6⟩ := wrap _ _ _ _ k64 t1 (Or.inr ln) (hck (by decide) (by decide))
    rw [if_neg (by decide), if_neg (by decide), if_pos (by decide), h.gR rfl h13, bO_s, gfR_m H.1 rfl H.2.1, bO_s, bO_s, g9, bO_s, bO_s, g10, bO_s, rcv_m hci.1, bO_s, z1, bO_s]
    exact ⟨S', V, rfl, z2, z3, z4, zc, z5, z6⟩
  · have ln : (decide (66 + wayK w ≤ K.2.1.1.length) && (!false || K.2.1.2.2.isSome)) = true := ln
    rw [Bool.and_eq_true, decide_eq_true_iff] at ln
    have hcl := hck (by decide) (by decide)
    have sdl := hsd rfl
    obtain ⟨r1, r2, r3, r4⟩ := V_.rsa kd
    obtain ⟨u69, l69, b69⟩ := ab 69 128 (by decide) hrs.2.2.2.2.2.2.2.2.1
    obtain ⟨u71, l71, b71⟩ := ab 71 32 (by decide) hrs.2.2.2.2.2.2.2.2.2.2.1
    obtain ⟨S', z1, z2, z3, z4, z5, z6⟩ := Q8_sealOaep (G := G) (F := F) (S := S) (im := 89) (is_ := 88) (ie := 17 + 3 * j) (in_ := 16 + 3 * j) (it := 90) X hrs hd B89 b89 B88 b88 (by omega) k65 t2 (by omega) k64 t1 r1 (by omega) B90 b90 (by omega) b69 b71 (by omega) (by omega) (by omega) (by omega) (by omega)
    rw [seg_all sdl] at z6
    rw [if_neg (by decide), if_neg (by decide), if_neg (by decide), if_pos (by decide), h.gR rfl h15, bO_s, bO_s, g9, bO_s, bO_s, g8, bO_s, gfR_m H.1 rfl H.2.2.1, bO_s, gfR_m H.1 rfl H.2.1, bO_s, bO_s, g10, bO_s, rcv_m hrs.1, bO_s, z1, bO_s]
    refine ⟨S', V, rfl, z2.mono (by simp), ab.keep z2 (fun i room q hB => ?_), C.fr z2 (by simp), cW.of z2 (by simp), ?_, z6⟩
    · simp only [List.mem_cons, Prod.mk.injEq, List.not_mem_nil, or_false] at q
      rcases q with q | q | q | q | q | q
      · omega
      · omega
      · omega
      · rw [q.2] at hB ⊢
        rw [hB.one hrs.2.2.2.2.2.2.2.2.1]
        exact z4
      · rw [q.2] at hB ⊢
        rw [hB.one hrs.2.2.2.2.2.2.2.2.2.2.1]
        exact z5
      · rw [q.2] at hB ⊢
        rw [hB.one B90]
        exact ⟨_, _, z6⟩
    · show Byt 64 (S' 0 89) ck false
      rw [z2 0 89 (by simp)]
      exact b89
  · obtain ⟨S', z1, z2, z3, z4, zc, z5, z6⟩ := bec 92 64 _ _ B92 (b92 (by decide)) (by omega) (by rw [dkF_len]; rcases dkM_v 4 w with q | q | q <;> omega)
    rw [if_neg (by decide), if_neg (by decide), if_neg (by decide), if_neg (by decide), if_pos (by decide), bO_s, g9, bO_s, bO_s, g12, bO_s, rcv_m B89.lo, bO_s, z1, bO_s]
    exact ⟨S', V, rfl, z2, z3, z4, zc, z5, z6⟩
  · obtain ⟨S', z1, z2, z3, z4, zc, z5, z6⟩ := wrap 92 64 _ _ B92 (b92 (by decide)) (Or.inl (by rw [dkF_len]; rfl)) (hck (by decide) (by decide))
    rw [if_neg (by decide), if_neg (by decide), if_neg (by decide), if_neg (by decide), if_neg (by decide), if_pos (by decide), h.gR rfl h13, bO_s, bO_s, g12, bO_s, bO_s, g9, bO_s, bO_s, g10, bO_s, rcv_m hci.1, bO_s, z1, bO_s]
    exact ⟨S', V, rfl, z2, z3, z4, zc, z5, z6⟩
theorem Q11_makeSealedKey {V : Nat → Int} {a w iu iv ru rv : Nat} {fs ck sd u v : List UInt8} {lu lv : Bool} (X : Cx G F W) (A : isA W) (ab : AB W S) (C : CK S V) (H : isKo W j) (hj : j ≤ 16) (T : KyT S j K.2.1) (V_ : KyV K) (ha : a < 6) (hw : w < 4) (hm : maySl K a w false = true) (f1 : (S 10 0).f 1 = (Int32.ofNat a)) (f2 : (S 10 0).f 2 = (Int32.ofNat w)) (b87 : Byt 32 (S 0 87) fs false) (b89 : Byt 64 (S 0 89) ck false) (b88 : Byt 32 (S 0 88) sd false) (hfs : 4 ≤ a → fs.length = 32 ∧ secF fs = true) (hck : a ≠ 0 → a ≠ 4 → ck.length = wayK w) (hsd : a = 3 → sd.length = 32) (hU : isB W iu ru) (bu : Byt ru (S 0 iu) u lu) (hV : isB W iv rv) (bv : Byt rv (S 0 iv) v lv) (nu : iu < 11) (nv : iv < 11) (hu : u.length ≤ 8192) (hv : v.length ≤ 8192) : ∃ S' V', P_X11_makeSealedKey G F (W.ad (.o 11 0)) (W.ad (.o 5 j)) (W.ad (.o 0 iu)) (W.ad (.o 0 iv)) (mem W S) = some (mem W S') ∧ fr mkL S S' ∧ AB W S' ∧ CK S' V' ∧ cW S S' ∧ Byt 64 (S' 0 89) (ckF a w K fs ck u v) false ∧ Byt 128 (S' 0 90) (skF a w K fs ck sd u v) false := by
  obtain ⟨h, hd, hrs, hcu, htk, hci, hco, h12, h13, h14, h15, h16, h17⟩ := id A
  have g17 : ∀ S : ST, gfR (mem W S) (W.ad (.o 11 0)) 11 17 = some (W.ad (.o 10 0)) := fun S => h.gR rfl h17
  have g7 : ∀ S, gfR (mem W S) (W.ad (.o 10 0)) 10 7 = some (W.ad (.o 0 87)) := fun S => gfR_m htk.1.1 rfl (htk.2.2 7 (by decide) (by decide)).1
  have g10 : ∀ S, gfR (mem W S) (W.ad (.o 10 0)) 10 10 = some (W.ad (.o 0 90)) := fun S => gfR_m htk.1.1 rfl (htk.2.2 10 (by decide) (by decide)).1
  have B87 : isB W 87 32 := (htk.2.2 7 (by decide) (by decide)).2
  have B90 : isB W 90 128 := (htk.2.2 10 (by decide) (by decide)).2
  have k64 : isB W (16 + 3 * j) 128 := H.2.2.2.2.1
  obtain ⟨x90, l90, b90⟩ := ab 90 128 (by decide) B90
  obtain ⟨o1, z1, b1⟩ := Q0_clear (G := G) (F := F) (S := S) B90 b90
  obtain ⟨S1, hS1⟩ : ∃ S1, S1 = S.so 0 90 o1 := ⟨_, rfl⟩
  rw [← hS1] at z1
  have fr1 : fr [(0, 90)] S S1 := by rw [hS1]; exact fr_so (by simp)
  have b90' : Byt 128 (S1 0 90) [] false := by rw [hS1, so_eq]; exact b1
  have ab1 : AB W S1 := by rw [hS1]; exact ab.so B90 b1
  have C1 : CK S1 V := C.fr fr1 (by simp)
  have y1 : (S1 10 0).f 1 = (Int32.ofNat a) := by rw [fr1 10 0 (by simp), f1]
  have y2 : (S1 10 0).f 2 = (Int32.ofNat w) := by rw [fr1 10 0 (by simp), f2]
  have x1 : gfI (mem W S1) (W.ad (.o 10 0)) 10 1 = some (Int32.ofNat a) := by rw [gfI_m htk.1.1 rfl, y1]
  obtain ⟨t1, t2, t3⟩ := id T
  have kt : ∀ (S' : ST) (L : List (Nat × Nat)), fr L S S' → (0, 16 + 3 * j) ∉ L → (0, 17 + 3 * j) ∉ L → (0, 18 + 3 * j) ∉ L → KyT S' j K.2.1 := fun S' L f q1 q2 q3 => ⟨by rw [f 0 _ q1]; exact t1, by rw [f 0 _ q2]; exact t2, by rw [f 0 _ q3]; exact t3⟩
  have x4 : ((Int32.ofNat a) < (4 : Int32)) = (a < 4) := propext (n_lt (b := 4) (by omega) (by omega))
  unfold P_X11_makeSealedKey
  rw [g17, bO_s, g10, bO_s, rcv_m B90.lo, bO_s, z1, bO_s, g17, bO_s, x1, bO_s]
  simp only [x4]
  by_cases c : a < 4
  · obtain ⟨S', V', q1, q2, q3, q4, qc, q5, q6⟩ := Q11_msk38 (G := G) (F := F) (S := S1) (a := a) (w := w) (fs := fs) (ck := ck) (sd := sd) (u := u) (v := v) (x90 := []) X A ab1 C1 H hj (kt S1 _ fr1 (by simp; omega) (by simp; omega) (by simp; omega)) V_ ha hw hm y1 (by rw [fr1 0 89 (by simp)]; exact b89) (by rw [fr1 0 88 (by simp)]; exact b88) b90' (fun q => by omega) hck hsd
    rw [if_pos c, q1]
    exact ⟨S', V', rfl, (fr1.mono (by simp)).trans q2, q3, q4, (cW.of fr1 (by simp)).trans qc, q5, q6⟩
  · have ha4 : 4 ≤ a := by omega
    obtain ⟨kd, ln⟩ := maySl_kd hm
    have kd : K.1 = 2 := by
      rw [kd]
      unfold slKd
      rw [if_neg (by omega), if_neg (by omega)]
    obtain ⟨fl, fsec⟩ := hfs ha4
    have on := (V_.ec kd).1
    have e64 := V_.ec64 kd
    obtain ⟨S2, V2, p1, p2, p3, p4, p5⟩ := Q11_agree (G := G) (F := F) (S := S1) (a := a) (w := w) (is_ := 87) (ip := 16 + 3 * j) (iu := iu) (iv := iv) X A ab1 C1 ha ha4 hw y1 y2 B87 (by rw [fr1 0 87 (by simp)]; exact b87) fl fsec k64 (by rw [fr1 0 _ (by simp; omega)]; exact t1) (by omega) on hU (by rw [fr1 0 _ (by simp; omega)]; exact bu) hV (by rw [fr1 0 _ (by simp; omega)]; exact bv) (by simp; omega) (by simp; omega) hu hv
    have fr2 : fr (((0, 90) : Nat × Nat) :: agL3) S S2 := (fr1.mono (by simp)).trans (p2.mono (fun x hx => List.mem_cons_of_mem _ hx))
    obtain ⟨S', V', q1, q2, q3, q4, qc, q5, q6⟩ := Q11_msk38 (G := G) (F := F) (S := S2) (a := a) (w := w) (fs := fs) (ck := ck) (sd := sd) (u := u) (v := v) (x90 := []) X A p3 p4 H hj (kt S2 _ fr2 (by simp; omega) (by simp; omega) (by simp; omega)) V_ ha hw hm (by rw [fr2 10 0 (by simp), f1]) (by rw [fr2 0 89 (by simp)]; exact b89) (by rw [fr2 0 88 (by simp)]; exact b88) (by rw [p2 0 90 (by simp)]; exact b90') (fun _ => p5) hck hsd
    rw [if_neg c, bO_s, g7, bO_s, gfR_m H.1 rfl H.2.1, bO_s, rcv_m h.lo, bO_s, p1, bO_s, q1]
    exact ⟨S', V', rfl, (fr2.mono (by simp)).trans q2, q3, q4, (cW.of fr2 (by simp)).trans qc, q5, q6⟩
end CSK
