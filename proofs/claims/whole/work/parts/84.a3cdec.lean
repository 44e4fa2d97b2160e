/-! CALL decrypt: the class's keys in turn -/
/-- what a key opens -/
def opO (a w : Nat) (K : KY) (wh : Bool) (sk pt u v iv al c : List UInt8) : Option (List UInt8) := if wh = true then (match kcF a w K sk pt u v with
  | none => none
  | some ck => if ck.length = wayK w then openF w ck iv al c else none) else none
/-- the first key that opens; else whether one might -/
def dcK (A : Nat → Option KY) (J : JT) (a w : Nat) (f : KY → Option (List UInt8)) : Nat → Nat → Bool → Bool ⊕ (Nat × List UInt8)
  | 0, _, may => .inl may
  | m + 1, k, may => match A k with
    | none => dcK A J a w f m (k + 1) may
    | some K => if (kdS J K && maySl K a w true) = true then (match f K with
      | some p => .inr (k, p)
      | none => dcK A J a w f m (k + 1) true) else dcK A J a w f m (k + 1) may
def ansD (r : Bool ⊕ (Nat × List UInt8)) : Int32 := match r with
  | .inl may => if may = true then -27 else -26
  | .inr p => (Int32.ofNat p.1)
def shwD (S S' : ST) (r : Bool ⊕ (Nat × List UInt8)) : Prop := match r with
  | .inl _ => S' 0 9 = S 0 9
  | .inr p => Byt 8192 (S' 0 9) p.2 false
abbrev dcL : List (Nat × Nat) := [(3, 0), (6, 0), (6, 1), (8, 0), (1, 0), (2, 0), (4, 0), (0, 9), (0, 13), (0, 67), (0, 68), (0, 69), (0, 70), (0, 71), (0, 89), (0, 92), (0, 93)]
theorem dcL_k : noK dcL := by
  intro x hx
  simp only [dcL, List.mem_cons, List.not_mem_nil, or_false] at hx
  rcases hx with e | e | e | e | e | e | e | e | e | e | e | e | e | e | e | e | e <;> rw [e] <;> simp
section CDC
variable {W : WR} {G : mG} {F : Nat} {z sl z0 s0 t : Nat} {σ κ rk : Nat → Nat} {A : Nat → Option KY} {J : JT} {lp : Bool}
theorem Q11_dec195 {a w : Nat} {wh : Bool} {sk pt u v iv al c : List UInt8} {la lq lu lv : Bool} (X : Cx G F W) (A_ : isA W) (w8 : W.r 11 0 8 = some (.o 9 t)) (wt : isTx W t (14 + t)) (tl : t < 2) (Y : JX J) (ha : a < 6) (hw : w < 4) (kd : fd J 55 = none ∨ kB J (fd J 55) 4 = true) : ∀ (m k fuel : Nat) (may : Bool) (S : ST) (V : Nat → Int), m < fuel → k + m = 16 → AB W S → CK S V → IB S → KHS W S z sl z0 s0 σ κ rk A → TbC (S 9 t) J → Byt 8192 (S 0 (14 + t)) J.2.2 lp → (S 10 0).f 15 = oI (fd J 55) → (S 10 0).f 1 = (Int32.ofNat a) → (S 10 0).f 2 = (Int32.ofNat w) → Byt 22528 (S 0 11) al la → (wh = true → Byt 128 (S 0 90) sk false ∧ Byt 16 (S 0 91) iv false ∧ Byt 8192 (S 0 12) c false) → (4 ≤ a → (Byt 64 (S 0 86) pt lq ∧ pt.length = 64 ∧ onC (beN (seg pt 0 32)) (beN (seg pt 32 32)) = true) ∧ Byt 4608 (S 0 84) u lu ∧ Byt 4608 (S 0 85) v lv) → ∃ S' V', B_X11_decrypt_195 G F fuel (W.ad (.o 11 0)) (if wh = true then 1 else 0) (if may = true then 1 else 0) (Int32.ofNat k) (mem W S) = some (ansD (dcK A J a w (fun K => opO a w K wh sk pt u v iv al c) m k may), mem W S') ∧ fr dcL S S' ∧ AB W S' ∧ CK S' V' ∧ cW S S' ∧ KHS W S' z sl z0 s0 σ κ rk A ∧ shwD S S' (dcK A J a w (fun K => opO a w K wh sk pt u v iv al c) m k may) := by
  obtain ⟨h, hd, hrs, hcu, htk, hci, hco, h12, h13, h14, h15, h16, h17⟩ := id A_
  obtain ⟨w4, B4, w5, B5, w6, B6, w3, B3⟩ := h.wk
  have g17 : ∀ S : ST, gfR (mem W S) (W.ad (.o 11 0)) 11 17 = some (W.ad (.o 10 0)) := fun S => h.gR rfl h17
  have g9 : ∀ S, gfR (mem W S) (W.ad (.o 10 0)) 10 9 = some (W.ad (.o 0 89)) := fun S => gfR_m htk.1.1 rfl (htk.2.2 9 (by decide) (by decide)).1
  have g11 : ∀ S, gfR (mem W S) (W.ad (.o 10 0)) 10 11 = some (W.ad (.o 0 91)) := fun S => gfR_m htk.1.1 rfl (htk.2.2 11 (by decide) (by decide)).1
  have B89 : isB W 89 64 := (htk.2.2 9 (by decide) (by decide)).2
  have B91 : isB W 91 16 := (htk.2.2 11 (by decide) (by decide)).2
  intro m
  induction m with
  | zero =>
    intro k fuel may S V hf' hk ab C I hK Ct bp f15 f1 f2 b11 bw b4
    obtain ⟨fuel, rfl⟩ : ∃ q, fuel = q + 1 := ⟨fuel - 1, by omega⟩
    refine ⟨S, V, ?_, fr.refl _ _, ab, C, agr.refl _ _ _ _ _, hK, rfl⟩
    rw [B_X11_decrypt_195, if_pos (show (16 : Int32) ≤ (Int32.ofNat k) from (n_le (a := 16) (by omega) (by omega)).mpr (by omega))]
    cases may <;> rfl
  | succ m ih =>
    intro k fuel may S V hf' hk ab C I hK Ct bp f15 f1 f2 b11 bw b4
    obtain ⟨fuel, rfl⟩ : ∃ q, fuel = q + 1 := ⟨fuel - 1, by omega⟩
    have k16 : k < 16 := by omega
    have g10 : ∀ S' : ST, gfR (mem W S') (W.ad (.o 11 0)) 11 10 = some (W.ad (.a 11 0 10)) := fun S' => gfR_m h.lo rfl hK.2.1.1
    have nx := fun may' => ih (k + 1) fuel may' S V (by omega) (by omega) ab C I hK Ct bp f15 f1 f2 b11 bw b4
    obtain ⟨f, hf⟩ : ∃ f : KY → Option (List UInt8), f = fun K => opO a w K wh sk pt u v iv al c := ⟨_, rfl⟩
    rw [← hf] at ih nx ⊢
    rw [B_X11_decrypt_195, if_neg (show ¬ (16 : Int32) ≤ (Int32.ofNat k) from fun q => by have := (n_le (a := 16) (by omega) (by omega)).mp q; omega), g10, bO_s, hK.ky k16, bO_s, hK.th k16, bO_s]
    show ∃ S' V', _ = some (ansD (match A k with | none => dcK A J a w f m (k + 1) may | some K => if (kdS J K && maySl K a w true) = true then (match f K with | some p => .inr (k, p) | none => dcK A J a w f m (k + 1) true) else dcK A J a w f m (k + 1) may), mem W S') ∧ fr dcL S S' ∧ AB W S' ∧ CK S' V' ∧ cW S S' ∧ KHS W S' z sl z0 s0 σ κ rk A ∧ shwD S S' (match A k with | none => dcK A J a w f m (k + 1) may | some K => if (kdS J K && maySl K a w true) = true then (match f K with | some p => .inr (k, p) | none => dcK A J a w f m (k + 1) true) else dcK A J a w f m (k + 1) may)
    cases e : A k with
    | none =>
      rw [if_pos (show (if (none : Option KY).isSome = true then (1 : Int32) else 0) = 0 from rfl), n_i1]
      exact nx may
    | some K =>
      obtain ⟨H, hj, O, V_, y2, y3, y4⟩ := hK.at_ k16 e
      have rk9 : rk (σ k) < 2 ^ 20 := by
        obtain ⟨q, q1, q2, q3⟩ := rmK_q (hK.2.2.1 (σ k) hj).2.2.2.1
        omega
      have ks := Q10_kidSuits (G := G) (F := F) (S := S) X htk.1 wt Ct Y bp H O y2 y3 rk9 f15 kd
      have ms := Q5_maySeal (G := G) (F := F) (w := a) (way := w) true X H O V_ (by omega) hw
      have ms : P_X5_maySeal G F (W.ad (.o 5 (σ k))) (Int32.ofNat a) (Int32.ofNat w) 1 (mem W S) = _ := ms
      have x1 : gfI (mem W S) (W.ad (.o 10 0)) 10 1 = some (Int32.ofNat a) := by rw [gfI_m htk.1.1 rfl, f1]
      have x2 : gfI (mem W S) (W.ad (.o 10 0)) 10 2 = some (Int32.ofNat w) := by rw [gfI_m htk.1.1 rfl, f2]
      show ∃ S' V', _ = some (ansD (if (kdS J K && maySl K a w true) = true then (match f K with | some p => .inr (k, p) | none => dcK A J a w f m (k + 1) true) else dcK A J a w f m (k + 1) may), mem W S') ∧ fr dcL S S' ∧ AB W S' ∧ CK S' V' ∧ cW S S' ∧ KHS W S' z sl z0 s0 σ κ rk A ∧ shwD S S' (if (kdS J K && maySl K a w true) = true then (match f K with | some p => .inr (k, p) | none => dcK A J a w f m (k + 1) true) else dcK A J a w f m (k + 1) may)
      rw [if_neg (show ¬ (if (some K : Option KY).isSome = true then (1 : Int32) else 0) = 0 by rw [if_pos (show (some K : Option KY).isSome = true from rfl)]; decide), h.gR rfl h17, bO_s, h.gR rfl w8, bO_s, bO_s, hK.ky k16, bO_s, rcv_m htk.1.1, bO_s, ks, bP_s]
      by_cases c1 : kdS J K = true
      · rw [if_pos c1, if_neg (by decide), g10, bO_s, hK.ky k16, bO_s, h.gR rfl h17, bO_s, x1, bO_s, bO_s, x2, bO_s, rcv_m H.1, bO_s, ms, bP_s]
        by_cases c2 : maySl K a w true = true
        · have cc : (kdS J K && maySl K a w true) = true := by rw [c1, c2]; rfl
          -- the next key, from some memory on
          have go : ∀ (S1 : ST) (V1 : Nat → Int), fr dcL S S1 → S1 0 9 = S 0 9 → AB W S1 → CK S1 V1 → cW S S1 → f K = none → ∃ S' V', B_X11_decrypt_195 G F fuel (W.ad (.o 11 0)) (if wh = true then 1 else 0) 1 ((Int32.ofNat k) + 1) (mem W S1) = some (ansD (match f K with | some p => .inr (k, p) | none => dcK A J a w f m (k + 1) true), mem W S') ∧ fr dcL S S' ∧ AB W S' ∧ CK S' V' ∧ cW S S' ∧ KHS W S' z sl z0 s0 σ κ rk A ∧ shwD S S' (match f K with | some p => .inr (k, p) | none => dcK A J a w f m (k + 1) true) := by
            intro S1 V1 f1' s9 ab1 C1 cw1 hfk
            rw [hfk]
            have s10 : S1 10 0 = S 10 0 := f1' 10 0 (by simp)
            obtain ⟨S2, V2, z1, z2, z3, z4, zc, z5, z6⟩ := ih (k + 1) fuel true S1 V1 (by omega) (by omega) ab1 C1 (fun x => by rw [cw1.2.2.1 0 (by decide)]; exact I x) (hK.fm f1' dcL_k) (by rw [f1' 9 t (by simp)]; exact Ct) (by rw [f1' 0 (14 + t) (by simp; omega)]; exact bp) (by rw [s10]; exact f15) (by rw [s10]; exact f1) (by rw [s10]; exact f2) (by rw [f1' 0 11 (by simp)]; exact b11) (fun q => by
              obtain ⟨q1, q2, q3⟩ := bw q
              exact ⟨by rw [f1' 0 90 (by simp)]; exact q1, by rw [f1' 0 91 (by simp)]; exact q2, by rw [f1' 0 12 (by simp)]; exact q3⟩) (fun q => by
              obtain ⟨q1, q2, q3⟩ := b4 q
              exact ⟨by rw [f1' 0 86 (by simp)]; exact q1, by rw [f1' 0 84 (by simp)]; exact q2, by rw [f1' 0 85 (by simp)]; exact q3⟩)
            have z1 : B_X11_decrypt_195 G F fuel (W.ad (.o 11 0)) (if wh = true then 1 else 0) 1 (Int32.ofNat (k + 1)) (mem W S1) = _ := z1
            rw [n_i1, z1]
            refine ⟨S2, V2, rfl, f1'.trans z2, z3, z4, cw1.trans zc, z5, ?_⟩
            revert z6
            cases dcK A J a w f m (k + 1) true with
            | inl b => intro z6; exact (show S2 0 9 = S1 0 9 from z6).trans s9
            | inr b => exact id
          simp only [if_pos cc]
          rw [if_pos c2, if_neg (by decide)]
          cases wh with
          | false =>
            rw [if_pos (show (if false = true then (1 : Int32) else 0) = 0 from rfl)]
            exact go S V (fr.refl _ _) rfl ab C (agr.refl _ _ _ _ _) (by rw [hf]; rfl)
          | true =>
            obtain ⟨b90, b91, b12⟩ := bw rfl
            have cl := b12.le
            have il := b91.le
            have all := b11.le
            obtain ⟨S1, V1, q1, q2, q3, q4, q5, q6⟩ := Q11_contentKeyComes (G := G) (F := F) (S := S) (K := K) (a := a) (w := w) (sk := sk) (pt := pt) (u := u) (v := v) X A_ ab C I H hj O.2.2.2.2.2.1 V_ ha hw c2 f1 f2 b90 (fun q => (b4 q).1) (fun q => (b4 q).2.1) (fun q => (b4 q).2.2)
            have q2' : fr dcL S S1 := q2.mono (by simp)
            have s9 : S1 0 9 = S 0 9 := q2 0 9 (by simp)
            rw [if_neg (show ¬ (if true = true then (1 : Int32) else 0) = 0 by decide), g10, bO_s, hK.ky k16, bO_s, rcv_m h.lo, bO_s, q1, bP_s]
            have fk : f K = match kcF a w K sk pt u v with | none => none | some ck => if ck.length = wayK w then openF w ck iv al c else none := by
              rw [hf]
              rfl
            cases ek : kcF a w K sk pt u v with
            | none =>
              rw [ek] at fk
              rw [if_pos (show (if (none : Option (List UInt8)).isSome = true then (1 : Int32) else 0) = 0 from rfl)]
              exact go S1 V1 q2' s9 q3 q4 q5 fk
            | some ck =>
              rw [ek] at fk
              have fk : f K = if ck.length = wayK w then openF w ck iv al c else none := fk
              have b89 := q6 ck ek
              have ckl := b89.le
              obtain ⟨x13, l13, b13⟩ := q3 13 8192 (by decide) B6
              obtain ⟨x68, l68, b68⟩ := q3 68 64 (by decide) hco.2.2.2.2.2.2
              obtain ⟨x67, l67, b67⟩ := q3 67 64 (by decide) hd.in.2
              have I1 : IB S1 := fun x => by
                rw [q5.2.2.1 0 (by decide)]
                exact I x
              obtain ⟨S2, p1, p2, p3, p4, p5, p6, p7⟩ := Q2_unlock (G := G) (F := F) (S := S1) (ik := 89) (i1 := 91) (i2 := 11) (i3 := 12) (it := 13) (way := w) X hd hci hco B89 B91 B4 B5 B6 (by omega) (by omega) (by omega) (by omega) (by omega) hw I1 b89 (by rw [q2 0 91 (by simp)]; exact b91) (by rw [q2 0 11 (by simp)]; exact b11) (by rw [q2 0 12 (by simp)]; exact b12) b13 b68 b67 (by omega) (by omega) (by omega) (by omega) (by omega)
              have p2' : fr dcL S S2 := q2'.trans (p2.mono (by simp [LK]))
              have s29 : S2 0 9 = S 0 9 := by rw [p2 0 9 (by simp [LK])]; exact s9
              have cw2 : cW S S2 := q5.trans (agr.mono p3 (by simp) (by simp) (by simp) (by simp))
              have C2 : CK S2 V1 := q4.fr p2 (by simp [LK])
              have ab2 : AB W S2 := q3.keep p2 (fun i room q hB => by
                simp only [LK, List.mem_cons, Prod.mk.injEq, List.not_mem_nil, or_false] at q
                rcases q with q | q | q | q | q | q
                · omega
                · omega
                · omega
                · rw [q.2] at hB ⊢
                  rw [hB.one hd.in.2]
                  exact p7
                · rw [q.2] at hB ⊢
                  rw [hB.one hco.2.2.2.2.2.2]
                  exact p6
                · rw [q.2] at hB ⊢
                  rw [hB.one B6]
                  exact p4)
              have y2' : gfI (mem W S1) (W.ad (.o 10 0)) 10 2 = some (Int32.ofNat w) := by rw [gfI_m htk.1.1 rfl, q2 10 0 (by simp), f2]
              rw [if_neg (show ¬ (if (some ck).isSome = true then (1 : Int32) else 0) = 0 by rw [if_pos (show (some ck).isSome = true from rfl)]; decide), h.gR rfl h14, bO_s, g17, bO_s, y2', bO_s, bO_s, g9, bO_s, bO_s, g11, bO_s, h.gR rfl w4, bO_s, h.gR rfl w5, bO_s, h.gR rfl w6, bO_s, rcv_m hco.1, bO_s, p1, bP_s]
              by_cases c5 : ck.length = wayK w ∧ (openF w ck iv al c).isSome = true
              · obtain ⟨pl, hpl⟩ := Option.isSome_iff_exists.mp c5.2
                have fk : f K = some pl := by rw [fk, if_pos c5.1, hpl]
                have bp13 := p5 pl c5.1 hpl
                have ple := bp13.le
                obtain ⟨x9, l9, b9⟩ := ab2 9 8192 (by decide) h.sb
                obtain ⟨o3, t3, m3⟩ := Q11_show (G := G) (F := F) (S := S2) (i := 13) (p := 0) (n := pl.length) h b9 B6 bp13 (by omega) (by omega) ple
                rw [List.drop_zero, List.take_length] at m3
                have t3 : P_X11_show G F (W.ad (.o 11 0)) (W.ad (.o 0 13)) 0 (Int32.ofNat pl.length) (mem W S2) = _ := t3
                rw [if_pos c5, if_neg (by decide), h.gR rfl w6, bO_s, bO_s, B6.gI 1 rfl, bO_s, bp13.many, rcv_m h.lo, bO_s, t3, bP_s, fk]
                refine ⟨S2.so 0 9 o3, V1, rfl, p2'.trans (fr_so (by simp)), ab2.so h.sb m3, C2.fr (L := [(0, 9)]) (fr_so (by simp)) (by simp), cw2.trans (cW.of (L := [(0, 9)]) (fr_so (by simp)) (by simp)), hK.fm (p2'.trans (fr_so (by simp))) dcL_k, ?_⟩
                show Byt 8192 ((S2.so 0 9 o3) 0 9) pl false
                rw [so_eq]
                exact m3
              · have fk : f K = none := by
                  rw [fk]
                  by_cases c6 : ck.length = wayK w
                  · rw [if_pos c6]
                    cases eo : openF w ck iv al c with
                    | none => rfl
                    | some p => exact absurd ⟨c6, by rw [eo]; rfl⟩ c5
                  · rw [if_neg c6]
                rw [if_neg c5, if_pos rfl]
                exact go S2 V1 p2' s29 ab2 C2 cw2 fk
        · have cc : ¬ (kdS J K && maySl K a w true) = true := by rw [Bool.eq_false_iff.mpr c2, Bool.and_false]; decide
          simp only [if_neg cc]
          rw [if_neg c2, if_pos rfl, n_i1]
          exact nx may
      · have cc : ¬ (kdS J K && maySl K a w true) = true := by rw [Bool.eq_false_iff.mpr c1, Bool.false_and]; decide
        simp only [if_neg cc]
        rw [if_neg c1, if_pos rfl, n_i1]
        exact nx may
end CDC
