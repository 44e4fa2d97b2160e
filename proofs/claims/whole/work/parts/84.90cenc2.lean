/-! CALL encrypt: the class -/
/-- the fresh point of a secret -/
def epF (fs : List UInt8) : List UInt8 := ptB ((affS (mulS fs bpt)).getD (0, 0))
theorem epF_len (fs : List UInt8) : (epF fs).length = 64 := ptB_len _
def rwO (rows : Nat → List UInt8) (x : Int32) : Option (List UInt8) := if isr x = true then some (rows x.toNatClampNeg) else none
theorem rwO_n {rows : Nat → List UInt8} {x : Int32} (h : isr x = false) : rwO rows x = none := by
  unfold rwO
  rw [h]
  rfl
theorem rwO_s {rows : Nat → List UInt8} {r : Nat} (h : r < 8) : rwO rows (Int32.ofNat r) = some (rows r) := by
  unfold rwO
  rw [isr_i h, if_pos rfl, n_at (by omega)]
def encT (a w : Nat) (K : KY) (rnd pay : List UInt8) (u v : Option (List UInt8)) : Int32 ⊕ List UInt8 := if ndN a w ≤ rnd.length ∧ (a < 4 ∨ secF (seg rnd 0 (fmN a)) = true) then slZ w (slP a w K (epF (seg rnd 0 (fmN a))) u v) (skF a w K (seg rnd 0 (fmN a)) (seg rnd (fmN a) (kmN a w)) (seg rnd (fmN a + kmN a w) (smN a)) (u.getD []) (v.getD [])) (seg rnd (fmN a + kmN a w + smN a) (ivOf w)) (ckF a w K (seg rnd 0 (fmN a)) (seg rnd (fmN a) (kmN a w)) (u.getD []) (v.getD [])) pay else .inl (-4)
def encV (a w : Nat) (K : KY) (rnd pay : List UInt8) (u v : Option (List UInt8)) : Int32 ⊕ List UInt8 := if maySl K a w false = true then encT a w K rnd pay u v else .inl (-26)
/-- encrypt from its head on, however that is made -/
def e239 (G : mG) (F : Nat) (l0 : Nat) (l3 l4 l6 l7 : Int32) (l8 sk0 : Nat) (k : mM → Option mM) (M : mM) : Option (Int32 × mM) :=
  bO (rcv M sk0 10) fun _ =>
  bO (k M) fun M239 =>
  bO (rcv M239 l0 11) fun _ =>
  bP (P_X11_isRow G F l0 l6 M239) fun v248 M248 =>
  if v248 = 0 then (bO (gfR M248 l0 11 3) fun v265 =>
  B_X11_encrypt_268 G F l0 l3 l4 l7 l0 l8 v265 M248)
  else (bO (gfR M248 l0 11 0) fun v255 =>
  bO (aR M248 4 v255 l6) fun v260 =>
  B_X11_encrypt_268 G F l0 l3 l4 l7 l0 l8 v260 M248)
abbrev enL2 : List (Nat × Nat) := (0, 83) :: enL
section CE2
variable {W : WR} {G : mG} {F : Nat} {S : ST} {j κ rk : Nat} {K : KY}
theorem pickR {rows : Nat → List UInt8} (h : isT W) (ab : AB W S) (hR : ∀ r, r < 8 → ∃ l, Byt 8192 (S 0 r) (rows r) l) (x : Int32) : ∃ iu ru u lu, isB W iu ru ∧ iu < 11 ∧ Byt ru (S 0 iu) u lu ∧ u.length ≤ 8192 ∧ u = (rwO rows x).getD [] ∧ ∀ (S' : ST) (f : Nat → Option (Int32 × mM)), (if (if isr x = true then (1 : Int32) else 0) = 0 then (bO (gfR (mem W S') (W.ad (.o 11 0)) 11 3) f) else (bO (gfR (mem W S') (W.ad (.o 11 0)) 11 0) fun v => bO (aR (mem W S') 4 v x) f)) = f (W.ad (.o 0 iu)) := by
  obtain ⟨w4, B4, w5, B5, w6, B6, w3, B3⟩ := h.wk
  rcases isr_cases x with e | ⟨r, hr, rfl, e⟩
  · obtain ⟨x10, l10, b10⟩ := ab 10 0 (by decide) B3
    have x0 : x10 = [] := List.length_eq_zero_iff.mp (by have := b10.le; omega)
    rw [x0] at b10
    refine ⟨10, 0, [], l10, B3, by omega, b10, by simp, by rw [rwO_n e]; rfl, fun S' f => ?_⟩
    rw [e, if_pos (by rfl), h.gR rfl w3, bO_s]
  · obtain ⟨l, b⟩ := hR r hr
    refine ⟨r, 8192, rows r, l, h.rb r hr, by omega, b, b.le, by rw [rwO_s hr]; rfl, fun S' f => ?_⟩
    rw [e, if_neg (by decide), h.gR rfl h.ra, bO_s, h.row hr, bO_s]
theorem Q11_e239 {V : Nat → Int} {a w p : Nat} {x6 x7 : Int32} {k2 k3 : mM → Option mM} {rows : Nat → List UInt8} {fs ck sd iv pt : List UInt8} (X : Cx G F W) (A : isA W) (ab : AB W S) (C : CK S V) (H : isKo W j) (hj : j ≤ 16) (O : KyO S j κ rk K) (h9 : W.r 5 j 9 = some (.o 0 κ)) (hB : isB W κ rk) (hrk : rk < 100000) (hκ : 94 ≤ κ) (V_ : KyV K) (ha : a < 6) (hw : w < 4) (hm : maySl K a w false = true) (f1 : (S 10 0).f 1 = (Int32.ofNat a)) (f2 : (S 10 0).f 2 = (Int32.ofNat w)) (b87 : Byt 32 (S 0 87) fs false) (b89 : Byt 64 (S 0 89) ck false) (b88 : Byt 32 (S 0 88) sd false) (b91 : Byt 16 (S 0 91) iv false) (hfs : 4 ≤ a → fs.length = 32 ∧ secF fs = true) (hck : a ≠ 0 → a ≠ 4 → ck.length = wayK w) (hsd : a = 3 → sd.length = 32) (bq : 4 ≤ a → Byt 64 (S 0 86) pt false ∧ pt.length = 64) (hp : p < 8) (hR : ∀ r, r < 8 → ∃ l, Byt 8192 (S 0 r) (rows r) l) (q2 : saysH W S k2 (pyP 64 (rwO rows x6))) (q3 : saysH W S k3 (pyP 65 (rwO rows x7))) (r : Int32 ⊕ List UInt8) (hr : r = slZ w (slP a w K pt (rwO rows x6) (rwO rows x7)) (skF a w K fs ck sd ((rwO rows x6).getD []) ((rwO rows x7).getD [])) iv (ckF a w K fs ck ((rwO rows x6).getD []) ((rwO rows x7).getD [])) (rows p)) : ∃ S' V', e239 G F (W.ad (.o 11 0)) (Int32.ofNat w) (Int32.ofNat p) x6 x7 (W.ad (.o 5 j)) (W.ad (.o 10 0)) (mshF G F (W.ad (.o 10 0)) (W.ad (.o 5 j)) k2 k3) (mem W S) = some (ansT r, mem W S') ∧ fr enL2 S S' ∧ AB W S' ∧ CK S' V' ∧ cW S S' ∧ shwT S S' r := by
  obtain ⟨h, hd, hrs, hcu, htk, hci, hco, h12, h13, h14, h15, h16, h17⟩ := id A
  obtain ⟨x83, l83, b83⟩ := ab 83 8192 (by decide) htk.2.1.2
  obtain ⟨o1, g1, b1⟩ := Q10_makeSealed (G := G) (F := F) (S := S) (a := a) (w := w) (u := rwO rows x6) (v := rwO rows x7) (k2 := k2) (k3 := k3) (pt := pt) X htk ha hw hj H O h9 hB hrk hκ b83 f1 f2 bq q2 q3
  obtain ⟨S1, hS1⟩ : ∃ S1, S1 = S.so 0 83 o1 := ⟨_, rfl⟩
  rw [← hS1] at g1
  have fr1 : fr [(0, 83)] S S1 := by rw [hS1]; exact fr_so (by simp)
  have ab1 : AB W S1 := by rw [hS1]; exact ab.so htk.2.1.2 b1
  have b83' : Byt 8192 (S1 0 83) (tkl 8192 [] (slP a w K pt (rwO rows x6) (rwO rows x7))) (lsl 8192 [] (slP a w K pt (rwO rows x6) (rwO rows x7)) false) := by rw [hS1, so_eq]; exact b1
  have hR1 : ∀ r, r < 8 → ∃ l, Byt 8192 (S1 0 r) (rows r) l := fun r hr => by
    rw [fr1 0 r (by simp; omega)]
    exact hR r hr
  obtain ⟨t1, t2, t3⟩ := O.2.2.2.2.2.1
  have T1 : KyT S1 j K.2.1 := ⟨by rw [fr1 0 _ (by simp; omega)]; exact t1, by rw [fr1 0 _ (by simp; omega)]; exact t2, by rw [fr1 0 _ (by simp; omega)]; exact t3⟩
  obtain ⟨iu, ru, u, lu, hU, nu, bu, ul, eu, pu⟩ := pickR (S := S1) (rows := rows) h ab1 hR1 x6
  obtain ⟨iv_, rv, v, lv, hV, nv, bv, vl, ev, pv⟩ := pickR (S := S1) (rows := rows) h ab1 hR1 x7
  rw [← eu, ← ev] at hr
  obtain ⟨lp, bp⟩ := hR1 p hp
  obtain ⟨S2, V2, z1, z2, z3, z4, zc, z5⟩ := Q11_enc291 (G := G) (F := F) (S := S1) (K := K) (a := a) (w := w) (p := p) (iu := iu) (iv_ := iv_) X A ab1 (C.fr fr1 (by simp)) H hj T1 V_ ha hw hm (by rw [fr1 10 0 (by simp)]; exact f1) (by rw [fr1 10 0 (by simp)]; exact f2) b83' (by rw [fr1 0 87 (by simp)]; exact b87) (by rw [fr1 0 89 (by simp)]; exact b89) (by rw [fr1 0 88 (by simp)]; exact b88) (by rw [fr1 0 91 (by simp)]; exact b91) hfs hck hsd hU bu hV bv nu nv ul vl hp bp r hr
  unfold e239
  rw [rcv_m htk.1.1, bO_s, g1, bO_s, rcv_m h.lo, bO_s, Q11_isRow, bP_s, pu]
  unfold B_X11_encrypt_268
  rw [rcv_m h.lo, bO_s, Q11_isRow, bP_s, pv, z1]
  refine ⟨S2, V2, rfl, (fr1.mono (by simp)).trans (z2.mono (fun x hx => List.mem_cons_of_mem _ hx)), z3, z4, (cW.of fr1 (by simp)).trans zc, ?_⟩
  revert z5
  cases r with
  | inl v => intro z5; exact (show S2 0 9 = S1 0 9 from z5).trans (fr1 0 9 (by simp))
  | inr t => exact id
theorem Q11_enc193 {V : Nat → Int} {a w p : Nat} {x6 x7 : Int32} {rows : Nat → List UInt8} {fs ck sd iv pt : List UInt8} (X : Cx G F W) (A : isA W) (ab : AB W S) (C : CK S V) (H : isKo W j) (hj : j ≤ 16) (O : KyO S j κ rk K) (h9 : W.r 5 j 9 = some (.o 0 κ)) (hB : isB W κ rk) (hrk : rk < 100000) (hκ : 94 ≤ κ) (V_ : KyV K) (ha : a < 6) (hw : w < 4) (hm : maySl K a w false = true) (f1 : (S 10 0).f 1 = (Int32.ofNat a)) (f2 : (S 10 0).f 2 = (Int32.ofNat w)) (b87 : Byt 32 (S 0 87) fs false) (b89 : Byt 64 (S 0 89) ck false) (b88 : Byt 32 (S 0 88) sd false) (b91 : Byt 16 (S 0 91) iv false) (hfs : 4 ≤ a → fs.length = 32 ∧ secF fs = true) (hck : a ≠ 0 → a ≠ 4 → ck.length = wayK w) (hsd : a = 3 → sd.length = 32) (bq : 4 ≤ a → Byt 64 (S 0 86) pt false ∧ pt.length = 64) (hp : p < 8) (hR : ∀ r, r < 8 → ∃ l, Byt 8192 (S 0 r) (rows r) l) (r : Int32 ⊕ List UInt8) (hr : r = slZ w (slP a w K pt (rwO rows x6) (rwO rows x7)) (skF a w K fs ck sd ((rwO rows x6).getD []) ((rwO rows x7).getD [])) iv (ckF a w K fs ck ((rwO rows x6).getD []) ((rwO rows x7).getD [])) (rows p)) : ∃ S' V', B_X11_encrypt_193 G F (W.ad (.o 11 0)) (Int32.ofNat w) (Int32.ofNat p) x6 x7 (W.ad (.o 5 j)) (mem W S) = some (ansT r, mem W S') ∧ fr enL2 S S' ∧ AB W S' ∧ CK S' V' ∧ cW S S' ∧ shwT S S' r := by
  obtain ⟨h, hd, hrs, hcu, htk, hci, hco, h12, h13, h14, h15, h16, h17⟩ := id A
  have go : ∀ (k2 k3 : mM → Option mM), saysH W S k2 (pyP 64 (rwO rows x6)) → saysH W S k3 (pyP 65 (rwO rows x7)) → ∃ S' V', e239 G F (W.ad (.o 11 0)) (Int32.ofNat w) (Int32.ofNat p) x6 x7 (W.ad (.o 5 j)) (W.ad (.o 10 0)) (mshF G F (W.ad (.o 10 0)) (W.ad (.o 5 j)) k2 k3) (mem W S) = some (ansT r, mem W S') ∧ fr enL2 S S' ∧ AB W S' ∧ CK S' V' ∧ cW S S' ∧ shwT S S' r := fun k2 k3 q2 q3 => Q11_e239 X A ab C H hj O h9 hB hrk hκ V_ ha hw hm f1 f2 b87 b89 b88 b91 hfs hck hsd bq hp hR q2 q3 r hr
  unfold B_X11_encrypt_193
  rw [h.gR rfl h17, bO_s, rcv_m h.lo, bO_s, Q11_isRow, bP_s]
  rcases isr_cases x6 with e6 | ⟨r6, hr6, rfl, e6⟩
  · rw [e6, if_pos (show (if false = true then (1 : Int32) else 0) = 0 from rfl), rcv_m h.lo, bO_s, Q11_isRow, bP_s]
    have s6 : saysH W S (fun M => P_X10_putParty_n2 G F (W.ad (.o 10 0)) (G.1 64) M) (pyP 64 (rwO rows x6)) := by rw [rwO_n e6]; exact saysH.none
    rcases isr_cases x7 with e7 | ⟨r7, hr7, rfl, e7⟩
    · rw [e7, if_pos (show (if false = true then (1 : Int32) else 0) = 0 from rfl)]
      exact go (fun M => P_X10_putParty_n2 G F (W.ad (.o 10 0)) (G.1 64) M) (fun M => P_X10_putParty_n2 G F (W.ad (.o 10 0)) (G.1 65) M) s6 (by rw [rwO_n e7]; exact saysH.none)
    · obtain ⟨l7, b7⟩ := hR r7 hr7
      rw [e7, if_neg (show ¬ (if true = true then (1 : Int32) else 0) = 0 by decide), h.gR rfl h.ra, bO_s, h.row hr7, bO_s]
      exact go (fun M => P_X10_putParty_n2 G F (W.ad (.o 10 0)) (G.1 64) M) (fun M => P_X10_putParty G F (W.ad (.o 10 0)) (G.1 65) (W.ad (.o 0 r7)) M) s6 (by rw [rwO_s hr7]; exact saysH.some X htk (by decide) (by omega) (h.rb r7 hr7) (by decide) b7)
  · obtain ⟨l6, b6⟩ := hR r6 hr6
    rw [e6, if_neg (show ¬ (if true = true then (1 : Int32) else 0) = 0 by decide), h.gR rfl h.ra, bO_s, h.row hr6, bO_s, rcv_m h.lo, bO_s, Q11_isRow, bP_s]
    have s6 : saysH W S (fun M => P_X10_putParty G F (W.ad (.o 10 0)) (G.1 64) (W.ad (.o 0 r6)) M) (pyP 64 (rwO rows (Int32.ofNat r6))) := by rw [rwO_s hr6]; exact saysH.some X htk (by decide) (by omega) (h.rb r6 hr6) (by decide) b6
    rcases isr_cases x7 with e7 | ⟨r7, hr7, rfl, e7⟩
    · rw [e7, if_pos (show (if false = true then (1 : Int32) else 0) = 0 from rfl)]
      exact go (fun M => P_X10_putParty G F (W.ad (.o 10 0)) (G.1 64) (W.ad (.o 0 r6)) M) (fun M => P_X10_putParty_n2 G F (W.ad (.o 10 0)) (G.1 65) M) s6 (by rw [rwO_n e7]; exact saysH.none)
    · obtain ⟨l7, b7⟩ := hR r7 hr7
      rw [e7, if_neg (show ¬ (if true = true then (1 : Int32) else 0) = 0 by decide), h.gR rfl h.ra, bO_s, h.row hr7, bO_s]
      exact go (fun M => P_X10_putParty G F (W.ad (.o 10 0)) (G.1 64) (W.ad (.o 0 r6)) M) (fun M => P_X10_putParty G F (W.ad (.o 10 0)) (G.1 65) (W.ad (.o 0 r7)) M) s6 (by rw [rwO_s hr7]; exact saysH.some X htk (by decide) (by omega) (h.rb r7 hr7) (by decide) b7)
abbrev enL3 : List (Nat × Nat) := (0, 86) :: enL2
theorem Q11_enc141 {V : Nat → Int} {a w p : Nat} {x6 x7 : Int32} {rows : Nat → List UInt8} {fs ck sd iv : List UInt8} (X : Cx G F W) (A : isA W) (ab : AB W S) (C : CK S V) (H : isKo W j) (hj : j ≤ 16) (O : KyO S j κ rk K) (h9 : W.r 5 j 9 = some (.o 0 κ)) (hB : isB W κ rk) (hrk : rk < 100000) (hκ : 94 ≤ κ) (V_ : KyV K) (ha : a < 6) (hw : w < 4) (hm : maySl K a w false = true) (f1 : (S 10 0).f 1 = (Int32.ofNat a)) (f2 : (S 10 0).f 2 = (Int32.ofNat w)) (b87 : Byt 32 (S 0 87) fs false) (b89 : Byt 64 (S 0 89) ck false) (b88 : Byt 32 (S 0 88) sd false) (b91 : Byt 16 (S 0 91) iv false) (hfs : 4 ≤ a → fs.length = 32 ∧ secF fs = true) (hck : a ≠ 0 → a ≠ 4 → ck.length = wayK w) (hsd : a = 3 → sd.length = 32) (hp : p < 8) (hR : ∀ r, r < 8 → ∃ l, Byt 8192 (S 0 r) (rows r) l) (r : Int32 ⊕ List UInt8) (hr : r = slZ w (slP a w K (epF fs) (rwO rows x6) (rwO rows x7)) (skF a w K fs ck sd ((rwO rows x6).getD []) ((rwO rows x7).getD [])) iv (ckF a w K fs ck ((rwO rows x6).getD []) ((rwO rows x7).getD [])) (rows p)) : ∃ S' V', B_X11_encrypt_141 G F (W.ad (.o 11 0)) (Int32.ofNat a) (Int32.ofNat w) (Int32.ofNat p) x6 x7 (W.ad (.o 5 j)) (mem W S) = some (ansT r, mem W S') ∧ fr enL3 S S' ∧ AB W S' ∧ CK S' V' ∧ cW S S' ∧ shwT S S' r := by
  obtain ⟨h, hd, hrs, hcu, htk, hci, hco, h12, h13, h14, h15, h16, h17⟩ := id A
  obtain ⟨w4, B4, w5, B5, w6, B6, w3, B3⟩ := h.wk
  have x4 : ((Int32.ofNat a) < (4 : Int32)) = (a < 4) := propext (n_lt (b := 4) (by omega) (by omega))
  unfold B_X11_encrypt_141
  simp only [x4]
  by_cases c : a < 4
  · rw [if_pos c]
    obtain ⟨S', V', z1, z2, z3⟩ := Q11_enc193 (G := G) (F := F) (pt := epF fs) X A ab C H hj O h9 hB hrk hκ V_ ha hw hm f1 f2 b87 b89 b88 b91 hfs hck hsd (fun q => by omega) hp hR r hr
    exact ⟨S', V', z1, z2.mono (fun x hx => List.mem_cons_of_mem _ hx), z3⟩
  · obtain ⟨fl, fsec⟩ := hfs (by omega)
    have g7 : ∀ S, gfR (mem W S) (W.ad (.o 10 0)) 10 7 = some (W.ad (.o 0 87)) := fun S => gfR_m htk.1.1 rfl (htk.2.2 7 (by decide) (by decide)).1
    have g6 : ∀ S, gfR (mem W S) (W.ad (.o 10 0)) 10 6 = some (W.ad (.o 0 86)) := fun S => gfR_m htk.1.1 rfl (htk.2.2 6 (by decide) (by decide)).1
    have g16 : ∀ S : ST, gfR (mem W S) (W.ad (.o 11 0)) 11 16 = some (W.ad (.o 3 0)) := fun S => h.gR rfl h16
    have g17 : ∀ S : ST, gfR (mem W S) (W.ad (.o 11 0)) 11 17 = some (W.ad (.o 10 0)) := fun S => h.gR rfl h17
    have B86 : isB W 86 64 := (htk.2.2 6 (by decide) (by decide)).2
    have B87 : isB W 87 32 := (htk.2.2 7 (by decide) (by decide)).2
    obtain ⟨x10, l10, b10⟩ := ab 10 0 (by decide) B3
    have x0 : x10 = [] := List.length_eq_zero_iff.mp (by have := b10.le; omega)
    rw [x0] at b10
    have e9 : (V (9 + 2 * 0), V (10 + 2 * 0)) = bpt := by
      show (V 9, V 10) = bpt
      rw [C.2.1, C.2.2.1]
      rfl
    obtain ⟨S1, V1, z1, k1, C1, e1, J1⟩ := Q3_sumUp (G := G) (F := F) (S := S) (ms := fs) (ns := []) (pk := 0) (qk := 0) pr_p X hcu B87 B3 (Or.inl rfl) (Or.inl rfl) C.c C.2.2.2.2.1 b87 b10
    rw [sumS_nil _ _ _ (V (9 + 2 * 0), V (10 + 2 * 0)), e9] at J1
    have J1 : CJ V1 (mulS fs bpt) := J1
    have K1 : CK S1 V1 := C.keep k1 (by simp [wc]) C1 (fun k hk _ _ => e1 k hk)
    obtain ⟨x86, l86, b86⟩ := ab 86 64 (by decide) B86
    obtain ⟨S2, V2, z2, k2, K2, e2, r2⟩ := Q3_putSum (G := G) (F := F) (S := S1) (it := 86) X hcu K1 J1 B86 (by decide) (by decide) (Byt.lfr k1 b86)
    obtain ⟨q, hq⟩ := k_some fl fsec
    rw [hq] at z2 r2
    have r2 : Byt 64 (S2 0 86) (ptB q) false := r2
    rw [show ptB q = epF fs by unfold epF; rw [hq]; rfl] at r2
    have f12 : fr [(3, 0), (6, 1), (0, 86)] S S2 := (k1.fr (L' := [(3, 0), (6, 1), (0, 86)]) (by simp [ow, wc])).trans k2
    have ab2 : AB W S2 := ab.keep f12 (fun i room q hB => by
      simp only [List.mem_cons, Prod.mk.injEq, List.not_mem_nil, or_false] at q
      rcases q with q | q | q
      · omega
      · omega
      · rw [q.2] at hB ⊢
        rw [hB.one B86]
        exact ⟨_, _, r2⟩)
    have O2 : KyO S2 j κ rk K := O.same (fun k _ => by rw [f12 5 _ (by simp)]) (by rw [f12 0 _ (by simp; omega)]) (by rw [f12 0 _ (by simp; omega)]) (by rw [f12 0 _ (by simp; omega)]) (by rw [f12 0 _ (by simp; omega)])
    obtain ⟨S', V', y1, y2, y3, y4, yc, y5⟩ := Q11_enc193 (G := G) (F := F) (S := S2) (pt := epF fs) X A ab2 K2 H hj O2 h9 hB hrk hκ V_ ha hw hm (by rw [f12 10 0 (by simp)]; exact f1) (by rw [f12 10 0 (by simp)]; exact f2) (by rw [f12 0 87 (by simp)]; exact b87) (by rw [f12 0 89 (by simp)]; exact b89) (by rw [f12 0 88 (by simp)]; exact b88) (by rw [f12 0 91 (by simp)]; exact b91) hfs hck hsd (fun _ => ⟨r2, epF_len fs⟩) hp (fun r hr => by rw [f12 0 r (by simp; omega)]; exact hR r hr) r hr
    rw [if_neg c, g16, bO_s, g17, bO_s, g7, bO_s, bO_s, hcu.gA 0 (by decide) rfl, bO_s, h.gR rfl w3, bO_s, bO_s, hcu.gA 0 (by decide) rfl, bO_s, rcv_m hcu.1, bO_s, z1, bO_s, g16, bO_s, g17, bO_s, g6, bO_s, rcv_m hcu.1, bO_s, z2, bP_s, y1]
    refine ⟨S', V', rfl, (f12.mono (by simp)).trans (y2.mono (fun x hx => List.mem_cons_of_mem _ hx)), y3, y4, (cW.of f12 (by simp)).trans yc, ?_⟩
    revert y5
    cases r with
    | inl v => intro y5; exact (show S' 0 9 = S2 0 9 from y5).trans (f12 0 9 (by simp))
    | inr t => exact id
end CE2
