/-! CALL decrypt: the class -/
def dcR (J : JT) : Int32 := if slR J = 0 ∧ 4 ≤ (slA J).getD 0 ∧ onC (beN (seg (epB J) 0 32)) (beN (seg (epB J) 32 32)) = false then -23 else slR J
def dcF (J : JT) (xs : List UInt8) : KY → Option (List UInt8) := fun K => opO ((slA J).getD 0) ((slW J).getD 0) K (whB xs ((slW J).getD 0)) (dec (ptX xs 1)) (epB J) ((paB J (fd J 71)).getD []) ((paB J (fd J 72)).getD []) (dec (ptX xs 2)) (xs.take (peP xs 0)) (dec (ptX xs 3) ++ dec (ptX xs 4))
def dcT (A : Nat → Option KY) (J : JT) (xs : List UInt8) : Bool ⊕ (Nat × List UInt8) := dcK A J ((slA J).getD 0) ((slW J).getD 0) (dcF J xs) 16 0 false
def shO (r : Bool ⊕ (Nat × List UInt8)) : Option (List UInt8) := match r with
  | .inl _ => none
  | .inr p => some p.2
/-- what decrypt answers, and what it shows -/
def decW (A : Nat → Option KY) (xs : List UInt8) : Int32 × Option (List UInt8) := if (ptA xs).length = 4 then (if (∀ p, p < 5 → fltF (ptX xs p) = none) then (match rdT (dec (ptX xs 0)) with
  | .inl _ => (-22, none)
  | .inr J => if dcR J = 0 then (ansD (dcT A J xs), shO (dcT A J xs)) else (dcR J, none)) else (-21, none)) else (-20, none)
theorem slR_0 {J : JT} (h : slR J = 0) : ∃ a w, slA J = some a ∧ slW J = some w ∧ a < 6 ∧ w < 4 ∧ (a < 4 ∨ agB J = true) ∧ (fd J 55 = none ∨ kB J (fd J 55) 4 = true) := by
  unfold slR at h
  by_cases c1 : (hdS J && (kB J (fd J 66) 4 && (fd J 67).isNone)) = true
  · rw [if_pos c1] at h
    by_cases c2 : fd J 54 = none
    · rw [if_pos c2] at h
      by_cases c3 : slA J = none ∨ slW J = none
      · rw [if_pos c3] at h
        exact absurd h (by decide)
      rw [if_neg c3] at h
      by_cases c4 : (slA J).getD 0 < 4 ∨ agB J = true
      · obtain ⟨a, ea⟩ := Option.ne_none_iff_exists'.mp (fun q => c3 (Or.inl q))
        obtain ⟨w, ew⟩ := Option.ne_none_iff_exists'.mp (fun q => c3 (Or.inr q))
        have al := ls_lt ea
        have wl := ls_lt ew
        refine ⟨a, w, ea, ew, by omega, by omega, ?_, ?_⟩
        · rw [ea] at c4
          exact c4
        · rw [Bool.and_eq_true] at c1
          have q := c1.1
          unfold hdS at q
          rw [Bool.and_eq_true, Bool.and_eq_true, Bool.and_eq_true, decide_eq_true_iff] at q
          exact q.2.2.1
      · rw [if_neg c4] at h
        exact absurd h (by decide)
    · rw [if_neg c2] at h
      exact absurd h (by decide)
  · rw [if_neg c1] at h
    exact absurd h (by decide)
theorem agB_1 {J : JT} (h : agB J = true) : (epB J).length = 64 ∧ (∃ d, paB J (fd J 71) = some d) ∧ ∃ d, paB J (fd J 72) = some d := by
  unfold agB at h
  rw [Bool.and_eq_true, Bool.and_eq_true, Bool.and_eq_true, Bool.and_eq_true, Bool.and_eq_true, decide_eq_true_iff] at h
  obtain ⟨_, _, _, ⟨e1, e2⟩, e3, e4⟩ := h
  unfold inL at e1 e2
  rw [Bool.and_eq_true, decide_eq_true_iff, decide_eq_true_iff] at e1 e2
  refine ⟨?_, Option.isSome_iff_exists.mp e3, Option.isSome_iff_exists.mp e4⟩
  unfold epB
  rw [List.length_append]
  omega
section CD2
variable {W : WR} {G : mG} {F : Nat} {S : ST} {z sl z0 s0 t : Nat} {σ κ rk : Nat → Nat} {A : Nat → Option KY} {V : Nat → Int}
theorem Q11_dec35 {r : Nat} {xs : List UInt8} {l : Bool} (X : Cx G F W) (A_ : isA W) (T : SPT (S 10 0) xs) (h4 : (ptA xs).length = 4) (hr : r < 8) (bx : Byt 8192 (S 0 r) xs l) : ∀ (m k n : Nat), k + m = 5 → ((∀ p, k ≤ p → p < 5 → fltF (ptX xs p) = none) → B_X11_decrypt_35 G F (n + m) (W.ad (.o 11 0)) (W.ad (.o 0 r)) (Int32.ofNat k) (mem W S) = B_X11_decrypt_35 G F n (W.ad (.o 11 0)) (W.ad (.o 0 r)) (Int32.ofNat 5) (mem W S)) ∧ (¬ (∀ p, k ≤ p → p < 5 → fltF (ptX xs p) = none) → B_X11_decrypt_35 G F (n + m) (W.ad (.o 11 0)) (W.ad (.o 0 r)) (Int32.ofNat k) (mem W S) = some (-21, mem W S)) := by
  obtain ⟨h, hd, hrs, hcu, htk, hci, hco, h12, h13, h14, h15, h16, h17⟩ := id A_
  intro m
  induction m with
  | zero =>
    intro k n hk
    have : k = 5 := by omega
    subst this
    exact ⟨fun _ => rfl, fun q => absurd (fun p q1 q2 => by omega) q⟩
  | succ m ih =>
    intro k n hk
    obtain ⟨i1, i2⟩ := ih (k + 1) n (by omega)
    have lt := Q10_isFaulty (G := G) (F := F) (S := S) (p := k) X htk.1 T (by omega) (h.rb r hr) bx
    have st : B_X11_decrypt_35 G F (n + (m + 1)) (W.ad (.o 11 0)) (W.ad (.o 0 r)) (Int32.ofNat k) (mem W S) = if fltF (ptX xs k) = none then B_X11_decrypt_35 G F (n + m) (W.ad (.o 11 0)) (W.ad (.o 0 r)) (Int32.ofNat (k + 1)) (mem W S) else some (-21, mem W S) := by
      show B_X11_decrypt_35 G F ((n + m) + 1) _ _ _ _ = _
      rw [B_X11_decrypt_35, if_neg (show ¬ (5 : Int32) ≤ (Int32.ofNat k) from fun q => by have := (n_le (a := 5) (by omega) (by omega)).mp q; omega), h.gR rfl h17, bO_s, rcv_m htk.1.1, bO_s, lt, bP_s, n_i1]
      by_cases c : fltF (ptX xs k) = none
      · rw [if_pos c, if_pos c, if_pos rfl]
      · rw [if_neg c, if_neg c, if_neg (by decide)]
    rw [st]
    refine ⟨fun q => ?_, fun q => ?_⟩
    · rw [if_pos (q k (Nat.le_refl _) (by omega))]
      exact i1 (fun p q1 q2 => q p (by omega) q2)
    · by_cases c : fltF (ptX xs k) = none
      · rw [if_pos c]
        refine i2 (fun z => q (fun p q1 q2 => ?_))
        by_cases e : p = k
        · rw [e]
          exact c
        · exact z p (by omega) q2
      · rw [if_neg c]
theorem Q11_decrypt {r : Nat} {xs : List UInt8} {l : Bool} (X : Cx G F W) (w : isW W t) (ab : AB W S) (C : CK S V) (I : IB S) (hK : KHS W S z sl z0 s0 σ κ rk A) (hr : r < 8) (bx : Byt 8192 (S 0 r) xs l) : ∃ W' S' V', P_X11_decrypt G F (W.ad (.o 11 0)) (Int32.ofNat r) (mem W S) = some ((decW A xs).1, mem W' S') ∧ (W' = W ∨ ∃ n, W' = rdW W n t) ∧ isW W' t ∧ fr (tkE t) S S' ∧ AB W' S' ∧ CK S' V' ∧ cW S S' ∧ KHS W' S' z sl z0 s0 σ κ rk A ∧ shwO S S' (decW A xs).2 := by
  obtain ⟨A_, w8, w9, w7, wt, tl⟩ := id w
  obtain ⟨h, hd, hrs, hcu, htk, hci, hco, h12, h13, h14, h15, h16, h17⟩ := id A_
  have nk := tkE_k tl
  have hF := X.hF
  have xl := bx.le
  have hin := h.rb r hr
  obtain ⟨o1, g1, a1, q1⟩ := Q10_split (G := G) (F := F) (S := S) (parts := 5) X htk.1 hin bx (by decide) (by decide)
  have g1 : P_X10_split G F (W.ad (.o 10 0)) (W.ad (.o 0 r)) 5 (mem W S) = _ := g1
  obtain ⟨S1, hS1⟩ : ∃ S1, S1 = S.so 10 0 o1 := ⟨_, rfl⟩
  rw [← hS1] at g1
  have f1 : fr [(10, 0)] S S1 := by rw [hS1]; exact fr_so (by simp)
  have f1L : fr (tkE t) S S1 := f1.mono (by simp [tkE, tkL])
  have ab1 : AB W S1 := ab.keep f1 (fun i room q => absurd q (by simp))
  have C1 : CK S1 V := C.fr f1 (by simp)
  have k1 : KHS W S1 z sl z0 s0 σ κ rk A := hK.fm f1L nk
  have bx1 : Byt 8192 (S1 0 r) xs l := by rw [f1 0 r (by simp)]; exact bx
  unfold P_X11_decrypt
  rw [rcv_m h.lo, bO_s, Q11_isRow, bP_s, isr_i hr, if_pos rfl, if_neg (by decide), h.gR rfl h.ra, bO_s, h.row hr, bO_s, h.gR rfl h17, bO_s, rcv_m htk.1.1, bO_s, g1, bP_s]
  by_cases c2 : (ptA xs).length = 4
  · have T : SPT (S1 10 0) xs := by
      obtain ⟨t1, t2⟩ := q1 (by omega)
      rw [hS1, so_eq]
      refine ⟨by omega, fun t ht => t1 t (by omega), ?_⟩
      rw [c2]
      exact t2
    obtain ⟨y1, y2⟩ := Q11_dec35 (G := G) (F := F) (S := S1) X A_ T c2 hr bx1 5 0 (F - 5) rfl
    rw [show F - 5 + 5 = F by omega] at y1 y2
    have al5 : (∀ p, 0 ≤ p → p < 5 → fltF (ptX xs p) = none) ↔ (∀ p, p < 5 → fltF (ptX xs p) = none) := ⟨fun q p hp => q p (Nat.zero_le _) hp, fun q p _ hp => q p hp⟩
    rw [if_pos (show (ptA xs).length + 1 = 5 by omega), if_neg (by decide)]
    by_cases c0 : ∀ p, p < 5 → fltF (ptX xs p) = none
    · have y1 := y1 (al5.mpr c0)
      have y1 : B_X11_decrypt_35 G F F (W.ad (.o 11 0)) (W.ad (.o 0 r)) 0 (mem W S1) = _ := y1
      obtain ⟨n5, hn5⟩ : ∃ n5, F - 5 = n5 + 1 := ⟨F - 6, by omega⟩
      rw [y1, hn5, B_X11_decrypt_35, if_pos (by decide)]
      have pl0 : (ptX xs 0).length ≤ xs.length := by
        unfold ptX
        rw [List.length_take, List.length_drop]
        omega
      obtain ⟨x83, l83, b83⟩ := ab1 83 8192 (by decide) htk.2.1.2
      obtain ⟨o2, g2, b2⟩ := Q10_readPart (G := G) (F := F) (S := S1) (p := 0) (it := 83) (rt := 8192) X htk.1 T (Nat.zero_le _) hin bx1 htk.2.1.2 b83 (by omega) (c0 0 (by decide)) (by omega)
      have g2 : P_X10_readPart G F (W.ad (.o 10 0)) (W.ad (.o 0 r)) 0 (W.ad (.o 0 83)) (mem W S1) = _ := g2
      obtain ⟨S2, hS2⟩ : ∃ S2, S2 = S1.so 0 83 o2 := ⟨_, rfl⟩
      rw [← hS2] at g2
      have f2 : fr [(0, 83)] S1 S2 := by rw [hS2]; exact fr_so (by simp)
      have f2L : fr (tkE t) S S2 := f1L.trans (f2.mono (by simp [tkE, tkL]))
      have ab2 : AB W S2 := by rw [hS2]; exact ab1.so htk.2.1.2 b2
      have b2' : Byt 8192 (S2 0 83) (dec (ptX xs 0)) false := by rw [hS2, so_eq]; exact b2
      have dl := dec_len (ptX xs 0)
      obtain ⟨hb, hhb⟩ : ∃ hb, hb = dec (ptX xs 0) := ⟨_, rfl⟩
      rw [← hhb] at b2' dl
      obtain ⟨xp, lp, bp⟩ := ab2 (14 + t) 8192 (by have := w.2.2.2.2.2; omega) wt.2.2.1
      obtain ⟨S3, g3, f3, q3⟩ := Q7_read (G := G) (F := F) (S := S2) (is_ := 83) X w7 htk.2.1.2 wt (by omega) b2' (by omega) bp
      obtain ⟨W1, hW1⟩ : ∃ W1, W1 = rdW W 83 t := ⟨_, rfl⟩
      have y1' : WY W W1 := by rw [hW1]; exact rdW_y W 83 t
      have w1 : isW W1 t := by rw [hW1]; exact w.rd
      have ad : W1.ad = W.ad := by rw [hW1]; rfl
      have g3 : P_X7_read G F (W.ad (.o 7 0)) (W.ad (.o 0 83)) (W.ad (.o 9 t)) (mem W S2) = some (match rdT hb with | .inl q => (Int32.ofNat q) | .inr _ => -1, mem W1 S3) := by
        rw [hW1]
        exact g3
      have X1 := y1'.cx X
      have f3L : fr (tkE t) S S3 := f2L.trans (f3.mono (by simp [tkE, tkL]))
      have bp3 : ∃ xs l, Byt 8192 (S3 0 (14 + t)) xs l := by
        revert q3
        cases rdT hb with
        | inl _ => exact id
        | inr J => exact fun q => ⟨_, _, q.2.1⟩
      have ab3 : AB W1 S3 := by
        have q : AB W S3 := ab2.keep f3 (fun i room q hB => by
          simp only [List.mem_cons, Prod.mk.injEq, List.not_mem_nil, or_false] at q
          rcases q with q | q | q
          · omega
          · rw [q.2] at hB ⊢
            rw [hB.one wt.2.2.1]
            exact bp3
          · omega)
        rw [hW1]
        exact q.rd
      have C3 : CK S3 V := (C1.fr f2 (by simp)).fr f3 (by simp; omega)
      have k3 : KHS W1 S3 z sl z0 s0 σ κ rk A := by
        rw [hW1]
        exact ((hK.fm f3L nk).wr (Or.inl rfl) htk.2.1.2.lo).wr (Or.inl rfl) wt.1
      have s9 : S3 0 9 = S 0 9 := by rw [f3 0 9 (by simp; omega), f2 0 9 (by simp), f1 0 9 (by simp)]
      have bx3 : Byt 8192 (S3 0 r) xs l := by rw [f3 0 r (by simp; omega), f2 0 r (by simp; omega)]; exact bx1
      have T3 : SPT (S3 10 0) xs := by rw [f3 10 0 (by simp), f2 10 0 (by simp)]; exact T
      have cw3 : cW S S3 := ((cW.of f1 (by simp)).trans (cW.of f2 (by simp))).trans (cW.of f3 (by simp))
      rw [h.gR rfl h17, bO_s, bO_s, tk0 htk, bO_s, rcv_m htk.1.1, bO_s, g2, bO_s, h.gR rfl w9, bO_s, h.gR rfl h17, bO_s, tk0 htk, bO_s, h.gR rfl w8, bO_s, rcv_m w7, bO_s, g3, bP_s]
      obtain ⟨A1, w18, w19, w17, w1t, _⟩ := id w1
      obtain ⟨h1, hd1, hrs1, hcu1, htk1, hci1, hco1, h112, h113, h114, h115, h116, h117⟩ := id A1
      have two : (∃ p, rdT hb = .inl p) ∨ ∃ J, rdT hb = .inr J := by
        cases rdT hb with
        | inl p => exact Or.inl ⟨p, rfl⟩
        | inr J => exact Or.inr ⟨J, rfl⟩
      rcases two with ⟨pp, er⟩ | ⟨J, er⟩
      · have hv : decW A xs = (-22, none) := by
          unfold decW
          rw [if_pos c2, if_pos c0, ← hhb, er]
        rw [er, hv]
        show ∃ W' S' V', (if (Int32.ofNat pp) = (-1 : Int32) then _ else some ((-22 : Int32), mem W1 S3)) = _ ∧ _
        rw [if_neg (n_nm (rdT_b (by omega) er))]
        exact ⟨W1, S3, V, rfl, Or.inr ⟨83, hW1⟩, w1, f3L, ab3, C3, cw3, k3, s9⟩
      · have pl := rd_pl er
        rw [er] at q3
        obtain ⟨u1, u2, u3⟩ := q3
        have hv : decW A xs = if dcR J = 0 then (ansD (dcT A J xs), shO (dcT A J xs)) else (dcR J, none) := by
          unfold decW
          rw [if_pos c2, if_pos c0, ← hhb, er]
        have B84 : isB W1 84 4608 := (htk1.2.2 4 (by decide) (by decide)).2
        have B85 : isB W1 85 4608 := (htk1.2.2 5 (by decide) (by decide)).2
        have B86 : isB W1 86 64 := (htk1.2.2 6 (by decide) (by decide)).2
        obtain ⟨S4, g4, f4, a4, bk4, v4⟩ := Q10_sealedHead (G := G) (F := F) (W := W1) (S := S3) X1 htk1 w1t u1 u3 u2 (by omega) (by omega) ⟨ab3 84 4608 (by decide) B84, ab3 85 4608 (by decide) B85, ab3 86 64 (by decide) B86⟩
        have f4L : fr (tkE t) S S4 := f3L.trans (f4.mono (by simp [tkE, tkL]))
        have ab4 : AB W1 S4 := ab3.keep f4 (fun i room q hB => by
          simp only [List.mem_cons, Prod.mk.injEq, List.not_mem_nil, or_false] at q
          rcases q with q | q | q | q
          · omega
          · rw [q.2] at hB ⊢
            rw [hB.one B84]
            exact bk4.1
          · rw [q.2] at hB ⊢
            rw [hB.one B85]
            exact bk4.2.1
          · rw [q.2] at hB ⊢
            rw [hB.one B86]
            exact bk4.2.2)
        have C4 : CK S4 V := C3.fr f4 (by simp)
        have k4 : KHS W1 S4 z sl z0 s0 σ κ rk A := k3.fm (L := tkE t) (f4.mono (by simp [tkE, tkL])) nk
        have s49 : S4 0 9 = S 0 9 := by rw [f4 0 9 (by simp)]; exact s9
        have bx4 : Byt 8192 (S4 0 r) xs l := by rw [f4 0 r (by simp; omega)]; exact bx3
        have cw4 : cW S S4 := cw3.trans (cW.of f4 (by simp))
        have T4 : SPT (S4 10 0) xs := by
          obtain ⟨z1, z2, z3⟩ := T3
          exact ⟨z1, fun q hq => by rw [a4.2.2.1 14 (by decide)]; exact z2 q hq, by rw [a4.2.2.1 14 (by decide)]; exact z3⟩
        rw [er, ← ad]
        show ∃ W' S' V', (if (-1 : Int32) = (-1 : Int32) then _ else _) = _ ∧ _
        rw [if_pos rfl, h1.gR rfl h117, bO_s, h1.gR rfl w18, bO_s, rcv_m htk1.1.1, bO_s, g4, bP_s]
        by_cases c3 : slR J = 0
        · obtain ⟨v1, v2, v15, v16⟩ := v4 c3
          obtain ⟨a, wy, ea, ew, al, wl, ag, kd⟩ := slR_0 c3
          rw [ea] at v1 v16
          rw [ew] at v2
          have v1 : (S4 10 0).f 1 = (Int32.ofNat a) := v1
          have v2 : (S4 10 0).f 2 = (Int32.ofNat wy) := v2
          have x1 : gfI (mem W1 S4) (W1.ad (.o 10 0)) 10 1 = some (Int32.ofNat a) := by rw [gfI_m htk1.1.1 rfl, v1]
          have x4 : ((Int32.ofNat a) < (4 : Int32)) = (a < 4) := propext (n_lt (b := 4) (by omega) (by omega))
          obtain ⟨w14, B4, w15, B5, _⟩ := h1.wk
          have hin1 := h1.rb r hr
          -- from its key on
          have go : ∀ (S5 : ST) (V5 : Nat → Int), fr [(3, 0), (6, 1)] S4 S5 → CK S5 V5 → (4 ≤ a → onC (beN (seg (epB J) 0 32)) (beN (seg (epB J) 32 32)) = true) → ∃ W' S' V', B_X11_decrypt_151 G F (W1.ad (.o 11 0)) (W1.ad (.o 0 r)) (mem W1 S5) = some ((decW A xs).1, mem W' S') ∧ (W' = W ∨ ∃ n, W' = rdW W n t) ∧ isW W' t ∧ fr (tkE t) S S' ∧ AB W' S' ∧ CK S' V' ∧ cW S S' ∧ KHS W' S' z sl z0 s0 σ κ rk A ∧ shwO S S' (decW A xs).2 := by
            intro S5 V5 f5 C5 on
            have hd0 : dcR J = 0 := by
              unfold dcR
              rw [if_neg (fun q => by
                rw [ea] at q
                have q2 := q.2.2
                rw [on q.2.1] at q2
                exact absurd q2 (by decide)), c3]
            rw [if_pos hd0] at hv
            have ab5 : AB W1 S5 := ab4.keep f5 (fun i room q => absurd q (by simp))
            obtain ⟨x11, l11, b11⟩ := ab5 11 22528 (by decide) B4
            obtain ⟨o6, g6, b6⟩ := Q0_clear (G := G) (F := F) (W := W1) (S := S5) B4 b11
            have pe := part_le (xs := xs) (p := 0) (by omega)
            have bx5 : Byt 8192 (S5 0 r) xs l := by rw [f5 0 r (by simp)]; exact bx4
            have T5 : SPT (S5 10 0) xs := by rw [f5 10 0 (by simp)]; exact T4
            have bx6 : Byt 8192 ((S5.so 0 11 o6) 0 r) xs l := by rw [so_ne (by omega)]; exact bx5
            have T6 : SPT ((S5.so 0 11 o6) 10 0) xs := by rw [so_ne (by omega)]; exact T5
            have pe1 : P_X10_partEnd G F (W1.ad (.o 10 0)) 0 (mem W1 (S5.so 0 11 o6)) = some ((Int32.ofNat (peP xs 0)), mem W1 (S5.so 0 11 o6)) := Q10_end (p := 0) htk1.1 T6 (by omega)
            obtain ⟨o7, g7, b7⟩ := Q0_putPart (G := G) (F := F) (W := W1) (S := S5.so 0 11 o6) (i := 11) (i2 := r) (p := 0) (n := peP xs 0) B4 (by rw [so_eq]; exact b6) hin1 bx6 (by omega)
            rw [so_so] at g7
            have ml : (xs.take (peP xs 0)).length ≤ 8192 := by
              rw [List.length_take]
              omega
            rw [List.drop_zero, tkl_fit (by rw [List.length_nil]; omega), lsl_fit (by rw [List.length_nil]; omega), List.nil_append] at b7
            have g7 : P_X0_putPart G F (W1.ad (.o 0 11)) (W1.ad (.o 0 r)) 0 (Int32.ofNat (peP xs 0)) (mem W1 (S5.so 0 11 o6)) = _ := g7
            obtain ⟨S7, hS7⟩ : ∃ S7, S7 = S5.so 0 11 o7 := ⟨_, rfl⟩
            rw [← hS7] at g7
            have f7 : fr [(0, 11)] S5 S7 := by rw [hS7]; exact fr_so (by simp)
            have ab7 : AB W1 S7 := by rw [hS7]; exact ab5.so B4 b7
            have b11' : Byt 22528 (S7 0 11) (xs.take (peP xs 0)) false := by rw [hS7, so_eq]; exact b7
            have s710 : S7 10 0 = S4 10 0 := by rw [f7 10 0 (by simp), f5 10 0 (by simp)]
            obtain ⟨S8, g8, f8, ab8, q8⟩ := Q10_readSealedParts (G := G) (F := F) (W := W1) (S := S7) (w := wy) (r := r) X1 htk1 ab7 (by rw [s710]; exact T4) c2 wl (by rw [s710]; exact v2) hr hin1 (by rw [f7 0 r (by simp; omega)]; exact bx5) B5 c0
            have f48 : fr [(3, 0), (6, 1), (0, 11), (0, 12), (0, 90), (0, 91)] S4 S8 := ((f5.mono (by simp)).trans (f7.mono (by simp))).trans (f8.mono (by simp))
            have f48L : fr (tkE t) S4 S8 := f48.mono (by simp [tkE, tkL])
            have C8 : CK S8 V5 := (C5.fr f7 (by simp)).fr f8 (by simp)
            have cw8 : cW S S8 := cw4.trans (cW.of f48 (by simp))
            have b4h : 4 ≤ a → (Byt 64 (S8 0 86) (epB J) false ∧ (epB J).length = 64 ∧ onC (beN (seg (epB J) 0 32)) (beN (seg (epB J) 32 32)) = true) ∧ Byt 4608 (S8 0 84) ((paB J (fd J 71)).getD []) false ∧ Byt 4608 (S8 0 85) ((paB J (fd J 72)).getD []) false := fun q => by
              obtain ⟨e1, ⟨d1, e2⟩, d2, e3⟩ := agB_1 (ag.resolve_left (by omega))
              obtain ⟨r1, r2, r3⟩ := v16 q
              refine ⟨⟨by rw [f48 0 86 (by simp)]; exact r1, e1, on q⟩, ?_, ?_⟩
              · rw [f48 0 84 (by simp), e2]
                exact r2 d1 e2
              · rw [f48 0 85 (by simp), e3]
                exact r3 d2 e3
            obtain ⟨S9, V9, z1, z2, z3, z4, zc, z5, z6⟩ := Q11_dec195 (G := G) (F := F) (W := W1) (A := A) (J := J) (a := a) (w := wy) (wh := whB xs wy) (sk := dec (ptX xs 1)) (pt := epB J) (u := (paB J (fd J 71)).getD []) (v := (paB J (fd J 72)).getD []) (iv := dec (ptX xs 2)) (al := xs.take (peP xs 0)) (c := dec (ptX xs 3) ++ dec (ptX xs 4)) X1 A1 w18 w1t tl u3 al wl kd 16 0 F false S8 V5 (by omega) rfl ab8 C8 (fun x => by rw [cw8.2.2.1 0 (by decide)]; exact I x) (k4.fm f48L nk) (by rw [f48 9 t (by simp), f4 9 t (by simp)]; exact u1) (by rw [f48 0 (14 + t) (by simp; omega), f4 0 (14 + t) (by simp; omega)]; exact u2) (by rw [f48 10 0 (by simp)]; exact v15) (by rw [f48 10 0 (by simp)]; exact v1) (by rw [f48 10 0 (by simp)]; exact v2) (by rw [f8 0 11 (by simp)]; exact b11') q8 b4h
            have z1 : B_X11_decrypt_195 G F F (W1.ad (.o 11 0)) (if whB xs wy = true then 1 else 0) 0 0 (mem W1 S8) = _ := z1
            have ed : dcK A J a wy (fun K => opO a wy K (whB xs wy) (dec (ptX xs 1)) (epB J) ((paB J (fd J 71)).getD []) ((paB J (fd J 72)).getD []) (dec (ptX xs 2)) (xs.take (peP xs 0)) (dec (ptX xs 3) ++ dec (ptX xs 4))) 16 0 false = dcT A J xs := by
              unfold dcT dcF
              rw [ea, ew]
              rfl
            rw [ed] at z1 z6
            unfold B_X11_decrypt_151
            rw [h1.gR rfl w14, bO_s, rcv_m B4.lo, bO_s, g6, bO_s, h1.gR rfl w14, bO_s, h1.gR rfl h117, bO_s, rcv_m htk1.1.1, bO_s, pe1, bP_s, rcv_m B4.lo, bO_s, g7, bO_s, h1.gR rfl h117, bO_s, h1.gR rfl w15, bO_s, rcv_m htk1.1.1, bO_s, g8, bP_s, z1, hv]
            refine ⟨W1, S9, V9, rfl, Or.inr ⟨83, hW1⟩, w1, (f4L.trans f48L).trans (z2.mono (by simp [tkE, tkL])), z3, z4, cw8.trans zc, z5, ?_⟩
            revert z6
            show shwD S8 S9 (dcT A J xs) → shwO S S9 (shO (dcT A J xs))
            cases dcT A J xs with
            | inl b => intro z6; exact (show S9 0 9 = S8 0 9 from z6).trans ((f48 0 9 (by simp)).trans s49)
            | inr b => exact id
          rw [if_pos c3, h1.gR rfl h117, bO_s, x1, bO_s]
          simp only [x4]
          by_cases c4 : a < 4
          · rw [if_pos c4]
            exact go S4 V (fr.refl _ _) C4 (fun q => by omega)
          · obtain ⟨r1, _⟩ := v16 (show 4 ≤ (some a).getD 0 by show 4 ≤ a; omega)
            obtain ⟨el, _⟩ := agB_1 (ag.resolve_left c4)
            obtain ⟨S5, V5, g5, f5, C5, _, _⟩ := Q3_load (G := G) (F := F) (W := W1) (S := S4) (ib := 86) X1 hcu1 C4 B86 r1 (by omega)
            have f5' : fr [(3, 0), (6, 1)] S4 S5 := f5.fr (by simp [ow, wc])
            have g6r : gfR (mem W1 S4) (W1.ad (.o 10 0)) 10 6 = some (W1.ad (.o 0 86)) := gfR_m htk1.1.1 rfl (htk1.2.2 6 (by decide) (by decide)).1
            rw [if_neg c4, h1.gR rfl h116, bO_s, bO_s, g6r, bO_s, rcv_m hcu1.1, bO_s, g5, bP_s]
            cases on : onC (beN (seg (epB J) 0 32)) (beN (seg (epB J) 32 32)) with
            | true =>
              rw [if_neg (show ¬ (if true = true then (1 : Int32) else 0) = 0 by decide)]
              exact go S5 V5 f5' C5 (fun _ => on)
            | false =>
              have hd1 : dcR J = -23 := by
                unfold dcR
                rw [if_pos ⟨c3, by rw [ea]; show 4 ≤ a; omega, on⟩]
              rw [hd1, if_neg (by decide)] at hv
              rw [if_pos (show (if false = true then (1 : Int32) else 0) = 0 from rfl), hv]
              exact ⟨W1, S5, V5, rfl, Or.inr ⟨83, hW1⟩, w1, f4L.trans (f5'.mono (by simp [tkE, tkL])), ab4.keep f5' (fun i room q => absurd q (by simp)), C5, cw4.trans (cW.of f5' (by simp)), k4.fm (L := tkE t) (f5'.mono (by simp [tkE, tkL])) nk, by show S5 0 9 = S 0 9; rw [f5' 0 9 (by simp)]; exact s49⟩
        · have hd1 : dcR J = slR J := by
            unfold dcR
            rw [if_neg (fun q => c3 q.1)]
          rw [hd1, if_neg c3] at hv
          rw [if_neg c3, hv]
          exact ⟨W1, S4, V, rfl, Or.inr ⟨83, hW1⟩, w1, f4L, ab4, C4, cw4, k4, s49⟩
    · have hv : decW A xs = (-21, none) := by
        unfold decW
        rw [if_pos c2, if_neg c0]
      have y2 := y2 (fun q => c0 (al5.mp q))
      have y2 : B_X11_decrypt_35 G F F (W.ad (.o 11 0)) (W.ad (.o 0 r)) 0 (mem W S1) = _ := y2
      rw [y2, hv]
      exact ⟨W, S1, V, rfl, Or.inl rfl, w, f1L, ab1, C1, cW.of f1 (by simp), k1, f1 0 9 (by simp)⟩
  · have hv : decW A xs = (-20, none) := by
      unfold decW
      rw [if_neg c2]
    rw [if_neg (show ¬ (ptA xs).length + 1 = 5 by omega), if_pos rfl, hv]
    exact ⟨W, S1, V, rfl, Or.inl rfl, w, f1L, ab1, C1, cW.of f1 (by simp), k1, f1 0 9 (by simp)⟩
theorem Q11_decrypt_bad {x : Int32} (hl : W.live (.o 11 0) = true) (hx : isr x = false) : P_X11_decrypt G F (W.ad (.o 11 0)) x (mem W S) = some (-2, mem W S) := by
  unfold P_X11_decrypt
  rw [rcv_m hl, bO_s, Q11_isRow, bP_s, hx, if_pos (by rfl)]
end CD2
