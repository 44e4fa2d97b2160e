/-! CALL sign: the class -/
abbrev isW (W : WR) (t : Nat) : Prop := isA W ∧ W.r 11 0 8 = some (.o 9 t) ∧ W.r 11 0 9 = some (.o 7 0) ∧ W.live (.o 7 0) = true ∧ isTx W t (14 + t) ∧ t < 2
/-- the wires once a text was read -/
def rdW (W : WR) (n t : Nat) : WR := (W.sr 7 0 0 (.o 0 n)).sr 7 0 1 (.o 9 t)
theorem rdW_y (W : WR) (n t : Nat) : WY W (rdW W n t) := (WY.sr (Or.inl rfl)).trans (WY.sr (Or.inl rfl))
theorem WY.tk {W W' : WR} (h : WY W W') (q : isTK W) : isTK W' := by
  obtain ⟨⟨a1, a2, a3, a4⟩, ⟨b1, b2⟩, c⟩ := q
  exact ⟨⟨h.lv a1, h.rr a1 (by omega) a2, h.lv a3, h.nn a3 a4⟩, ⟨h.rr a1 (by omega) b1, h.b b2⟩, fun k x y => ⟨h.rr a1 (by omega) (c k x y).1, h.b (c k x y).2⟩⟩
theorem isW.rd {W : WR} {n t : Nat} (w : isW W t) : isW (rdW W n t) t := by
  have y := rdW_y W n t
  obtain ⟨⟨h, hd, hrs, hcu, htk, hci, hco, h12, h13, h14, h15, h16, h17⟩, w8, w9, w7, wt, tl⟩ := w
  have e8 : (rdW W n t).r 11 0 8 = some (.o 9 t) := by
    unfold rdW
    rw [sr_ne (by omega), sr_ne (by omega)]
    exact w8
  exact ⟨⟨y.t h, y.d hd, y.rs hrs, y.cu hcu, y.tk htk, y.ci hci, y.co hco, y.rr h.lo (by omega) h12, y.rr h.lo (by omega) h13, y.rr h.lo (by omega) h14, y.rr h.lo (by omega) h15, y.rr h.lo (by omega) h16, y.rr h.lo (by omega) h17⟩, e8, y.rr h.lo (by omega) w9, y.lv w7, y.tx wt, tl⟩
theorem AB.rd {W : WR} {S : ST} {n t : Nat} (ab : AB W S) : AB (rdW W n t) S := by
  intro i room h9 hB
  refine ab i room h9 ⟨hB.1, hB.2.1, ?_, hB.2.2.2.1, hB.2.2.2.2⟩
  have q := hB.2.2.1
  unfold rdW at q
  rw [sr_ne (by omega), sr_ne (by omega)] at q
  exact q
abbrev tkL (t : Nat) : List (Nat × Nat) := [(4, 0), (6, 0), (6, 1), (6, 2), (8, 0), (3, 0), (10, 0), (7, 0), (9, t), (0, 9), (0, 11), (0, 12), (0, 13), (0, 14 + t), (0, 67), (0, 68), (0, 69), (0, 70), (0, 71), (0, 76), (0, 77), (0, 78), (0, 83), (0, 84), (0, 85), (0, 86), (0, 87), (0, 88), (0, 89), (0, 90), (0, 91), (0, 92), (0, 93)]
theorem tkL_k {t : Nat} (ht : t < 2) : noK (tkL t) := by
  intro x hx
  simp only [tkL, List.mem_cons, List.not_mem_nil, or_false] at hx
  rcases hx with e | e | e | e | e | e | e | e | e | e | e | e | e | e | e | e | e | e | e | e | e | e | e | e | e | e | e | e | e | e | e | e | e <;> rw [e] <;> simp <;> omega
def sgnH (a : Nat) (K : KY) (rn : List UInt8) (hd : Option (List UInt8)) (pay : List UInt8) : Int32 ⊕ List UInt8 := match hd with
  | none => sgnT a K rn (sgnP a K) pay false
  | some s => (match rdT s with
    | .inl _ => .inl (-22)
    | .inr J => if sgR J = 0 then (if sgA J = some a then sgnT a K rn s pay (brB J) else .inl (-27)) else .inl (sgR J))
def sgnV (a : Nat) (K : KY) (rn : List UInt8) (hd : Option (List UInt8)) (pay : List UInt8) : Int32 ⊕ List UInt8 := if maySg K a true = true then sgnH a K rn hd pay else .inl (-26)
section CSI
variable {W : WR} {G : mG} {F : Nat} {S : ST} {z sl z0 s0 t : Nat} {σ κ rk : Nat → Nat} {A : Nat → Option KY} {K : KY} {V : Nat → Int}
theorem Q11_rowNone {M : mM} {a : Nat} (ha : rcv M a 11 = some ()) (x : Int32) : P_X11_isRowOrNone G F a x M = some (if decide (x = -1) || isr x then 1 else 0, M) := by
  unfold P_X11_isRowOrNone
  by_cases c : x = -1
  · rw [if_pos c, decide_eq_true c]
    rfl
  · rw [if_neg c, ha, bO_s, Q11_isRow, bP_s, decide_eq_false c]
    cases isr x <;> rfl
theorem Q11_sgn68 {k a p q : Nat} {hd : Option Nat} {rows : Nat → List UInt8} (X : Cx G F W) (w : isW W t) (ab : AB W S) (C : CK S V) (hK : KHS W S z sl z0 s0 σ κ rk A) (hR : ∀ r, r < 8 → ∃ l, Byt 8192 (S 0 r) (rows r) l) (hk : k < 16) (e : A k = some K) (ha : a < 5) (hh : ∀ n, hd = some n → n < 8) (hp : p < 8) (hq : 3 ≤ a → q < 8) (y : Int32) (hy : 3 ≤ a → y = (Int32.ofNat q)) (r : Int32 ⊕ List UInt8) (hr : r = sgnV a K (if 3 ≤ a then rows q else []) (hd.map rows) (rows p)) : ∃ W' S' V', B_X11_sign_68 G F (W.ad (.o 11 0)) (Int32.ofNat k) (Int32.ofNat a) (oI hd) (Int32.ofNat p) y (if 3 ≤ a then 1 else 0) (mem W S) = some (ansT r, mem W' S') ∧ (W' = W ∨ ∃ n, W' = rdW W n t) ∧ isW W' t ∧ fr (tkL t) S S' ∧ AB W' S' ∧ CK S' V' ∧ KHS W' S' z sl z0 s0 σ κ rk A ∧ shwT S S' r := by
  obtain ⟨A_, w8, w9, w7, wt, tl⟩ := id w
  obtain ⟨h, hd_, hrs, hcu, htk, hci, hco, h12, h13, h14, h15, h16, h17⟩ := id A_
  obtain ⟨H, hj, O, V_, x2, x3, x4⟩ := hK.at_ hk e
  have rk9 : rk (σ k) < 100000 := by
    have := (hK.2.2.1 (σ k) hj).2.2.2.1
    obtain ⟨q, q1, q2, q3⟩ := rmK_q this
    omega
  have g10 : gfR (mem W S) (W.ad (.o 11 0)) 11 10 = some (W.ad (.a 11 0 10)) := gfR_m h.lo rfl hK.2.1.1
  have ms := Q5_maySign (G := G) (F := F) (w := a) true H O V_ (by omega)
  have ms : P_X5_maySign G F (W.ad (.o 5 (σ k))) (Int32.ofNat a) 1 (mem W S) = _ := ms
  have nk := tkL_k tl
  unfold B_X11_sign_68
  rw [g10, bO_s, hK.ky hk, bO_s, rcv_m H.1, bO_s, ms, bP_s]
  by_cases c : maySg K a true = true
  · have hr : r = sgnH a K (if 3 ≤ a then rows q else []) (hd.map rows) (rows p) := by
      rw [hr]
      unfold sgnV
      rw [if_pos c]
    rw [if_pos c, if_neg (by decide)]
    have x1 : (oI hd = (-1 : Int32)) = (hd = none) := oI_n (fun i hi => by have := hh i hi; omega)
    simp only [x1]
    cases hd with
    | none =>
      have hr : r = sgnT a K (if 3 ≤ a then rows q else []) (sgnP a K) (rows p) false := hr
      obtain ⟨x83, l83, b83⟩ := ab 83 8192 (by decide) htk.2.1.2
      obtain ⟨o1, t1, g1, ht1, b1⟩ := Q10_makeSigned (G := G) (F := F) (S := S) (a := a) X htk ha hj H O V_ x2 x3 rk9 x4 b83
      obtain ⟨S1, hS1⟩ : ∃ S1, S1 = (S.so 10 0 t1).so 0 83 o1 := ⟨_, rfl⟩
      rw [← hS1] at g1
      have f1 : fr [(10, 0), (0, 83)] S S1 := by rw [hS1]; exact (fr_so (by simp)).trans (fr_so (by simp))
      have ab1 : AB W S1 := by
        rw [hS1]
        exact (ab.keep (L := [(10, 0)]) (fr_so (by simp)) (fun i room q => absurd q (by simp))).so htk.2.1.2 b1
      have O1 : KyO S1 (σ k) (κ (σ k)) (rk (σ k)) K := O.same (fun k _ => by rw [f1 5 _ (by simp)]) (by rw [f1 0 _ (by simp; omega)]) (by rw [f1 0 _ (by simp; omega)]) (by rw [f1 0 _ (by simp; omega)]) (by rw [f1 0 _ (by simp; omega)])
      obtain ⟨S2, V2, z1, z2, z3, z4, z5⟩ := Q11_sgn182 (G := G) (F := F) (S := S1) (rows := rows) (hb := sgnP a K) (bare := false) (p := p) (q := q) x4 X A_ ab1 (C.fr f1 (by simp)) H hj O1 V_ ha c (fun r hr => by rw [f1 0 r (by simp; omega)]; exact hR r hr) hp hq (by rw [hS1, so_eq]; exact b1) (by rw [hS1, so_ne (by omega), so_eq, ht1, sf_eq]; rfl) y hy r hr
      have fL : fr (tkL t) S S2 := (f1.mono (by simp [tkL])).trans (z2.mono (by simp [sgM, sgL, tkL]))
      rw [if_pos rfl, h.gR rfl h17, bO_s, rcv_m htk.1.1, bO_s, g1, bO_s, z1]
      refine ⟨W, S2, V2, rfl, Or.inl rfl, w, fL, z3, z4, hK.fm fL nk, ?_⟩
      revert z5
      cases r with
      | inl v => intro z5; exact (show S2 0 9 = S1 0 9 from z5).trans (f1 0 9 (by simp))
      | inr tok => exact id
    | some n =>
      have hn := hh n rfl
      obtain ⟨ln, bn⟩ := hR n hn
      have nl := bn.le
      have hr : r = (match rdT (rows n) with | .inl _ => .inl (-22) | .inr J => if sgR J = 0 then (if sgA J = some a then sgnT a K (if 3 ≤ a then rows q else []) (rows n) (rows p) (brB J) else .inl (-27)) else .inl (sgR J)) := hr
      obtain ⟨xp, lp, bp⟩ := ab (14 + t) 8192 (by have := w.2.2.2.2.2; omega) wt.2.2.1
      obtain ⟨S1, g1, f1, q1⟩ := Q7_read (G := G) (F := F) (S := S) (is_ := n) X w7 (h.rb n hn) wt (by omega) bn nl bp
      obtain ⟨W1, hW1⟩ : ∃ W1, W1 = rdW W n t := ⟨_, rfl⟩
      have y1 : WY W W1 := by rw [hW1]; exact rdW_y W n t
      have w1 : isW W1 t := by rw [hW1]; exact w.rd
      have ad : W1.ad = W.ad := by rw [hW1]; rfl
      have g1 : P_X7_read G F (W.ad (.o 7 0)) (W.ad (.o 0 n)) (W.ad (.o 9 t)) (mem W S) = some (match rdT (rows n) with | .inl q => (Int32.ofNat q) | .inr _ => -1, mem W1 S1) := by
        rw [hW1]
        exact g1
      have X1 := y1.cx X
      have f1L : fr (tkL t) S S1 := f1.mono (by simp [tkL])
      have bp1 : ∃ xs l, Byt 8192 (S1 0 (14 + t)) xs l := by
        revert q1
        cases rdT (rows n) with
        | inl _ => exact id
        | inr J => exact fun q => ⟨_, _, q.2.1⟩
      have ab1 : AB W1 S1 := by
        have q : AB W S1 := ab.keep f1 (fun i room q hB => by
          simp only [List.mem_cons, Prod.mk.injEq, List.not_mem_nil, or_false] at q
          rcases q with q | q | q
          · omega
          · rw [q.2] at hB ⊢
            rw [hB.one wt.2.2.1]
            exact bp1
          · omega)
        rw [hW1]
        exact q.rd
      have C1 : CK S1 V := C.fr f1 (by simp; omega)
      have k1 : KHS W1 S1 z sl z0 s0 σ κ rk A := by
        rw [hW1]
        exact ((hK.fm f1L nk).wr (Or.inl rfl) (h.rb n hn).lo).wr (Or.inl rfl) wt.1
      have s9 : S1 0 9 = S 0 9 := f1 0 9 (by simp; omega)
      rw [if_neg (by simp), h.gR rfl w9, bO_s, h.gR rfl h.ra, bO_s, show oI (some n) = (Int32.ofNat n) from rfl, h.row hn, bO_s, h.gR rfl w8, bO_s, rcv_m w7, bO_s, g1, bP_s]
      obtain ⟨A1, w18, w19, w17, w1t, _⟩ := id w1
      obtain ⟨h1, hd1, hrs1, hcu1, htk1, hci1, hco1, h112, h113, h114, h115, h116, h117⟩ := id A1
      have two : (∃ p, rdT (rows n) = .inl p) ∨ ∃ J, rdT (rows n) = .inr J := by
        cases rdT (rows n) with
        | inl p => exact Or.inl ⟨p, rfl⟩
        | inr J => exact Or.inr ⟨J, rfl⟩
      rcases two with ⟨pp, er⟩ | ⟨J, er⟩
      · rw [er] at hr
        have hr : r = .inl (-22) := hr
        rw [er, hr]
        show ∃ W' S' V', (if (Int32.ofNat pp) = (-1 : Int32) then _ else some ((-22 : Int32), mem W1 S1)) = _ ∧ _
        rw [if_neg (n_nm (rdT_b nl er))]
        exact ⟨W1, S1, V, rfl, Or.inr ⟨n, hW1⟩, w1, f1L, ab1, C1, k1, s9⟩
      · rw [er] at hr q1
        obtain ⟨u1, u2, u3⟩ := q1
        have hr : r = if sgR J = 0 then (if sgA J = some a then sgnT a K (if 3 ≤ a then rows q else []) (rows n) (rows p) (brB J) else .inl (-27)) else .inl (sgR J) := hr
        obtain ⟨o2, g2, a2, v2⟩ := Q10_signedHead (G := G) (F := F) (W := W1) (S := S1) X1 htk1.1 w1t u1 u3 u2
        have f2 : fr (tkL t) S (S1.so 10 0 o2) := f1L.trans (fr_so (by simp [tkL]))
        have ab2 : AB W1 (S1.so 10 0 o2) := ab1.keep (L := [(10, 0)]) (fr_so (by simp)) (fun i room q => absurd q (by simp))
        have C2 : CK (S1.so 10 0 o2) V := C1.fr (L := [(10, 0)]) (fr_so (by simp)) (by simp)
        have k2 : KHS W1 (S1.so 10 0 o2) z sl z0 s0 σ κ rk A := k1.fm (L := [(10, 0)]) (fr_so (by simp)) (by intro x hx; simp at hx; rw [hx]; simp)
        have s29 : (S1.so 10 0 o2) 0 9 = S 0 9 := by rw [so_ne (by omega)]; exact s9
        rw [er, ← ad]
        show ∃ W' S' V', (if (-1 : Int32) = (-1 : Int32) then _ else _) = _ ∧ _
        rw [if_pos rfl, h1.gR rfl h117, bO_s, h1.gR rfl w18, bO_s, rcv_m htk1.1.1, bO_s, g2, bP_s]
        by_cases c0 : sgR J = 0
        · rw [if_pos c0] at hr
          obtain ⟨v1, v3, v15⟩ := v2 c0
          have f1' : gfI (mem W1 (S1.so 10 0 o2)) (W1.ad (.o 10 0)) 10 1 = some (oI (sgA J)) := by rw [gfI_m htk1.1.1 rfl, so_eq, v1]
          rw [if_pos c0, h1.gR rfl h117, bO_s, f1', bO_s]
          have xa : (oI (sgA J) = (Int32.ofNat a)) = (sgA J = some a) := by
            cases es : sgA J with
            | none => exact propext ⟨fun q => absurd q.symm (n_nm (by omega)), fun q => absurd q (by simp)⟩
            | some b =>
              have := ls_lt es
              exact propext ⟨fun q => by rw [(n_eq (by omega) (by omega)).mp q], fun q => by rw [Option.some.inj q]; rfl⟩
          simp only [xa]
          by_cases c1 : sgA J = some a
          · rw [if_pos c1] at hr
            have bn2 : Byt 8192 ((S1.so 10 0 o2) 0 n) (rows n) ln := by rw [so_ne (by omega), f1 0 n (by simp; omega)]; exact bn
            obtain ⟨x83, l83, b83⟩ := ab2 83 8192 (by decide) htk1.2.1.2
            obtain ⟨o3, g3, b3⟩ := Q0_become (G := G) (F := F) (W := W1) (S := S1.so 10 0 o2) (i := 83) (i2 := n) htk1.2.1.2 b83 (h1.rb n hn) bn2 (by omega)
            rw [tkl_fit (by rw [List.length_nil]; omega), lsl_fit (by rw [List.length_nil]; omega), List.nil_append] at b3
            obtain ⟨S3, hS3⟩ : ∃ S3, S3 = (S1.so 10 0 o2).so 0 83 o3 := ⟨_, rfl⟩
            rw [← hS3] at g3
            have f3 : fr [(0, 83)] (S1.so 10 0 o2) S3 := by rw [hS3]; exact fr_so (by simp)
            have ab3 : AB W1 S3 := by rw [hS3]; exact ab2.so htk1.2.1.2 b3
            obtain ⟨H1, hj1, O1, V1_, xx2, xx3, xx4⟩ := k2.at_ hk e
            have O3 : KyO S3 (σ k) (κ (σ k)) (rk (σ k)) K := O1.same (fun k _ => by rw [f3 5 _ (by simp)]) (by rw [f3 0 _ (by simp; omega)]) (by rw [f3 0 _ (by simp; omega)]) (by rw [f3 0 _ (by simp; omega)]) (by rw [f3 0 _ (by simp; omega)])
            have hR3 : ∀ r, r < 8 → ∃ l, Byt 8192 (S3 0 r) (rows r) l := fun r hr => by
              rw [f3 0 r (by simp; omega), so_ne (by omega), f1 0 r (by simp; omega)]
              exact hR r hr
            obtain ⟨S4, V4, z1, z2, z3, z4, z5⟩ := Q11_sgn182 (G := G) (F := F) (W := W1) (S := S3) (rows := rows) (hb := rows n) (bare := brB J) (p := p) (q := q) xx4 X1 A1 ab3 (C2.fr f3 (by simp)) H1 hj1 O3 V1_ ha c hR3 hp hq (by rw [hS3, so_eq]; exact b3) (by rw [hS3, so_ne (by omega), so_eq]; exact v3) y hy r hr
            have fL : fr (tkL t) S S4 := (f2.trans (f3.mono (by simp [tkL]))).trans (z2.mono (by simp [sgM, sgL, tkL]))
            have fL1 : fr (tkL t) (S1.so 10 0 o2) S4 := (f3.mono (by simp [tkL])).trans (z2.mono (by simp [sgM, sgL, tkL]))
            rw [if_pos c1, bO_s, tk0 htk1, bO_s, h1.gR rfl h1.ra, bO_s, h1.row hn, bO_s, rcv_m htk1.2.1.2.lo, bO_s, g3, bO_s, z1]
            refine ⟨W1, S4, V4, rfl, Or.inr ⟨n, hW1⟩, w1, fL, z3, z4, k2.fm fL1 nk, ?_⟩
            revert z5
            cases r with
            | inl v => intro z5; exact (show S4 0 9 = S3 0 9 from z5).trans ((f3 0 9 (by simp)).trans s29)
            | inr tok => exact id
          · rw [if_neg c1] at hr
            rw [if_neg c1, hr]
            exact ⟨W1, _, V, rfl, Or.inr ⟨n, hW1⟩, w1, f2, ab2, C2, k2, s29⟩
        · rw [if_neg c0] at hr
          rw [if_neg c0, hr]
          exact ⟨W1, _, V, rfl, Or.inr ⟨n, hW1⟩, w1, f2, ab2, C2, k2, s29⟩
  · have hr : r = .inl (-26) := by
      rw [hr]
      unfold sgnV
      rw [if_neg c]
    rw [if_neg c, if_pos rfl, hr]
    exact ⟨W, S, V, rfl, Or.inl rfl, w, fr.refl _ _, ab, C, hK, rfl⟩
theorem Q11_sign {k a p q : Nat} {hd : Option Nat} {rows : Nat → List UInt8} (X : Cx G F W) (w : isW W t) (ab : AB W S) (C : CK S V) (hK : KHS W S z sl z0 s0 σ κ rk A) (hR : ∀ r, r < 8 → ∃ l, Byt 8192 (S 0 r) (rows r) l) (hk : k < 16) (e : A k = some K) (ha : a < 5) (hh : ∀ n, hd = some n → n < 8) (hp : p < 8) (hq : 3 ≤ a → q < 8) (y : Int32) (hy : 3 ≤ a → y = (Int32.ofNat q)) (r : Int32 ⊕ List UInt8) (hr : r = sgnV a K (if 3 ≤ a then rows q else []) (hd.map rows) (rows p)) : ∃ W' S' V', P_X11_sign G F (W.ad (.o 11 0)) (Int32.ofNat k) (Int32.ofNat a) (oI hd) (Int32.ofNat p) y (mem W S) = some (ansT r, mem W' S') ∧ (W' = W ∨ ∃ n, W' = rdW W n t) ∧ isW W' t ∧ fr (tkL t) S S' ∧ AB W' S' ∧ CK S' V' ∧ KHS W' S' z sl z0 s0 σ κ rk A ∧ shwT S S' r := by
  obtain ⟨A_, w8, w9, w7, wt, tl⟩ := id w
  have h := A_.1
  obtain ⟨W', S', V', g, rest⟩ := Q11_sgn68 (G := G) (F := F) X w ab C hK hR hk e ha hh hp hq y hy r hr
  refine ⟨W', S', V', ?_, rest⟩
  have ik : isk A (Int32.ofNat k) = true := by
    rcases isk_cases A (Int32.ofNat k) with ⟨q, _⟩ | ⟨k', hk', ek, e'⟩
    · rcases q with q | q
      · exact absurd q (nn (by omega))
      · have := (n_le (a := 16) (b := k) (by omega) (by omega)).mp q
        omega
    · have := (n_eq (by omega) (by omega)).mp ek
      subst this
      rw [e', e]
      rfl
  have hn : (decide (oI hd = -1) || isr (oI hd)) = true := by
    cases hd with
    | none => rfl
    | some n =>
      have e' : isr (oI (some n)) = true := isr_i (hh n rfl)
      rw [e', Bool.or_true]
  have x3 : ((Int32.ofNat a) = (3 : Int32)) = (a = 3) := propext (n_eq (b := 3) (by omega) (by omega))
  have x4 : ((Int32.ofNat a) = (4 : Int32)) = (a = 4) := propext (n_eq (b := 4) (by omega) (by omega))
  have b15 : B_X11_sign_15 G F (W.ad (.o 11 0)) (Int32.ofNat k) (Int32.ofNat a) (oI hd) (Int32.ofNat p) y (if 3 ≤ a then 1 else 0) (mem W S) = B_X11_sign_68 G F (W.ad (.o 11 0)) (Int32.ofNat k) (Int32.ofNat a) (oI hd) (Int32.ofNat p) y (if 3 ≤ a then 1 else 0) (mem W S) := by
    unfold B_X11_sign_15
    rw [rcv_m h.lo, bO_s, Q11_isKey hK h.lo, bP_s, ik, if_pos rfl, if_neg (by decide), if_neg (nn (by omega)), if_neg (show ¬ (5 : Int32) ≤ (Int32.ofNat a) from fun q => by have := (n_le (a := 5) (by omega) (by omega)).mp q; omega), rcv_m h.lo, bO_s, Q11_rowNone (rcv_m h.lo), bP_s, hn, if_pos rfl, if_neg (by decide), rcv_m h.lo, bO_s, Q11_isRow, bP_s, isr_i hp, if_neg (by decide)]
    by_cases c : 3 ≤ a
    · rw [if_pos c, if_neg (by decide), rcv_m h.lo, bO_s, Q11_isRow, bP_s, hy c, isr_i (hq c), if_neg (by decide)]
    · rw [if_neg c, if_pos rfl]
  unfold P_X11_sign
  simp only [x3, x4]
  rw [← g, ← b15]
  by_cases c3 : a = 3
  · rw [if_pos c3, if_pos (by omega)]
  · rw [if_neg c3]
    by_cases c4 : a = 4
    · rw [if_pos c4, if_pos (by omega)]
    · rw [if_neg c4, if_neg (by omega)]
/-- what sign refuses outright -/
def sgnBad (A : Nat → Option KY) (k alg head pay rnd : Int32) : Bool := !isk A k || (decide (alg < 0) || (decide (5 ≤ alg) || (!(decide (head = -1) || isr head) || (!isr pay || (decide (alg = 3 ∨ alg = 4) && !isr rnd)))))
theorem Q11_sign_bad {k alg head pay rnd : Int32} (hl : W.live (.o 11 0) = true) (hK : KHS W S z sl z0 s0 σ κ rk A) (hb : sgnBad A k alg head pay rnd = true) : P_X11_sign G F (W.ad (.o 11 0)) k alg head pay rnd (mem W S) = some (-2, mem W S) := by
  have b15 : ∀ x : Int32, (x = 0 → ¬ (alg = 3 ∨ alg = 4)) → B_X11_sign_15 G F (W.ad (.o 11 0)) k alg head pay rnd x (mem W S) = some (-2, mem W S) := by
    intro x hx
    unfold B_X11_sign_15 sgnBad at *
    rw [rcv_m hl, bO_s, Q11_isKey hK hl, bP_s]
    cases c1 : isk A k with
    | false => rw [if_neg Bool.false_ne_true, if_pos rfl]
    | true =>
      rw [c1] at hb
      rw [if_pos rfl, if_neg (by decide)]
      by_cases c2 : alg < 0
      · rw [if_pos c2]
      rw [if_neg c2]
      rw [decide_eq_false c2] at hb
      by_cases c3 : (5 : Int32) ≤ alg
      · rw [if_pos c3]
      rw [if_neg c3, rcv_m hl, bO_s, Q11_rowNone (rcv_m hl), bP_s]
      rw [decide_eq_false c3] at hb
      cases c4 : (decide (head = -1) || isr head) with
      | false => rw [if_neg Bool.false_ne_true, if_pos rfl]
      | true =>
        rw [c4] at hb
        rw [if_pos rfl, if_neg (by decide), rcv_m hl, bO_s, Q11_isRow, bP_s]
        cases c5 : isr pay with
        | false => rw [if_neg Bool.false_ne_true, if_pos rfl]
        | true =>
          rw [c5] at hb
          have hb : (decide (alg = 3 ∨ alg = 4) && !isr rnd) = true := hb
          rw [Bool.and_eq_true, decide_eq_true_iff] at hb
          rw [if_pos rfl, if_neg (by decide), if_neg (fun q => hx q hb.1), rcv_m hl, bO_s, Q11_isRow, bP_s]
          cases c6 : isr rnd with
          | false => rw [if_neg Bool.false_ne_true, if_pos rfl]
          | true => rw [c6] at hb; exact absurd hb.2 (by decide)
  unfold P_X11_sign
  by_cases c3 : alg = 3
  · rw [if_pos c3]
    exact b15 1 (fun q => absurd q (by decide))
  · rw [if_neg c3]
    by_cases c4 : alg = 4
    · rw [if_pos c4]
      exact b15 1 (fun q => absurd q (by decide))
    · rw [if_neg c4]
      exact b15 0 (fun _ q => q.elim c3 c4)
end CSI
