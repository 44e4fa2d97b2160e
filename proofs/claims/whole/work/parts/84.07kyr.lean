/-! A KEY'S NUMBERS: the class -/
abbrev Ky3 : Type := List UInt8 × List UInt8 × Option (List UInt8)
def rsaN (J : JT) : Option Ky3 := if inL (lB J (fd J 25)) 64 128 = true ∧ suitsF (lB J (fd J 25)) = true ∧ inL (lB J (fd J 26)) 1 128 = true ∧ suitsF (lB J (fd J 26)) = true ∧ belF (lB J (fd J 26)) (lB J (fd J 25)) = true then (if kyD J 1 = true then (if inL (lB J (fd J 23)) 1 128 = true ∧ gN (lB J (fd J 23)) 0 ≠ 0 ∧ belF (lB J (fd J 23)) (lB J (fd J 25)) = true then some (lB J (fd J 25), lB J (fd J 26), some (lB J (fd J 23))) else none) else some (lB J (fd J 25), lB J (fd J 26), none)) else none
def ecN (J : JT) : Option Ky3 := if inL (lB J (fd J 29)) 32 32 = true ∧ inL (lB J (fd J 30)) 32 32 = true then (if kyD J 2 = true then (if inL (lB J (fd J 23)) 32 32 = true then some (lB J (fd J 29) ++ lB J (fd J 30), [], some (lB J (fd J 23))) else none) else some (lB J (fd J 29) ++ lB J (fd J 30), [], none)) else none
def kyN (J : JT) (kd : Nat) : Option Ky3 := if kd = 0 then (if inL (lB J (fd J 24)) 1 128 = true then some (lB J (fd J 24), [], none) else none) else if kd = 1 then rsaN J else ecN J
def kyR (J : JT) : Nat ⊕ (Nat × Ky3) := if kB J (some 0) 6 = true then (match kyKind J with
  | none => .inl 3
  | some kd => if okN J 20 = true ∧ okN J 21 = true ∧ okN J 22 = true then (if kyL J kd = true then (match kyN J kd with
    | none => .inl 6
    | some k => .inr (kd, k)) else .inl 5) else .inl 4) else .inl 2
theorem lB_of {J : JT} {o : Option Nat} (h : (ltB J o).isSome = true) : ltB J o = some (lB J o) := by
  unfold lB
  cases e : ltB J o with
  | none => rw [e] at h; exact absurd h (by decide)
  | some d => rfl
def KyT (S : ST) (j : Nat) (k : Ky3) : Prop := Byt 128 (S 0 (16 + 3 * j)) k.1 false ∧ Byt 128 (S 0 (17 + 3 * j)) k.2.1 false ∧ Byt 128 (S 0 (18 + 3 * j)) (k.2.2.getD []) false
def KyE (S : ST) (j : Nat) : Prop := (∃ a l, Byt 128 (S 0 (16 + 3 * j)) a l) ∧ (∃ a l, Byt 128 (S 0 (17 + 3 * j)) a l) ∧ ∃ a l, Byt 128 (S 0 (18 + 3 * j)) a l
theorem KyT.e {S : ST} {j : Nat} {k : Ky3} (h : KyT S j k) : KyE S j := ⟨⟨_, _, h.1⟩, ⟨_, _, h.2.1⟩, _, _, h.2.2⟩
abbrev kyFr (j : Nat) : List (Nat × Nat) := [(0, 16 + 3 * j), (0, 17 + 3 * j), (0, 18 + 3 * j)]
def oK (W : WR) (S : ST) (j : Nat) (x : Option (Int32 × mM)) (r : Option Ky3) : Prop := match r with
  | some k => ∃ S', x = some (1, mem W S') ∧ fr (kyFr j) S S' ∧ KyT S' j k
  | none => ∃ S', x = some (0, mem W S') ∧ fr (kyFr j) S S' ∧ KyE S' j
section KYR
variable {W : WR} {G : mG} {F : Nat} {S : ST} {t ip j : Nat} {J : JT} {lp : Bool}
theorem put0 {o : Option Nat} {it lo hi : Nat} (X : Cx G F W) (K : isTx W t ip) (C : TbC (S 9 t) J) (Y : JX J) (bp : Byt 8192 (S 0 ip) J.2.2 lp) (ho : ∀ i, o = some i → i < 2 ^ 31) (hT : isB W it 128) (bt : Byt 128 (S 0 it) [] false) (hne : it ≠ ip) (hhi : hi ≤ 128) (hlo : lo < 2 ^ 30) (hd : (ltB J o).isSome = true) : ∃ o', P_X9_putLettered G F (W.ad (.o 9 t)) (oI o) (Int32.ofNat lo) (Int32.ofNat hi) (W.ad (.o 0 it)) (mem W S) = some (if inL (lB J o) lo hi = true then 1 else 0, mem W (S.so 0 it o')) ∧ Byt 128 o' (if inL (lB J o) lo hi = true then lB J o else []) false := by
  obtain ⟨o', g, b⟩ := Q9_putLettered (G := G) (F := F) (lo := lo) (hi := hi) X K C Y bp ho hT bt hne hlo (by omega) (lB_of hd)
  refine ⟨o', g, ?_⟩
  by_cases e : inL (lB J o) lo hi = true
  · rw [if_pos e] at b ⊢
    have e' := e
    unfold inL at e'
    rw [Bool.and_eq_true, decide_eq_true_iff, decide_eq_true_iff] at e'
    rw [tkl_fit (by rw [List.length_nil]; omega), lsl_fit (by rw [List.length_nil]; omega), List.nil_append] at b
    exact b
  · rw [if_neg e] at b ⊢
    rw [b]
    exact bt
theorem Q5_takeRsa (X : Cx G F W) (H : isKo W j) (K : isTx W t ip) (hip : ip < 16) (C : TbC (S 9 t) J) (Y : JX J) (bp : Byt 8192 (S 0 ip) J.2.2 lp) (E : KyT S j ([], [], none)) (hL : kyL J 1 = true) (h5 : (S 5 j).f 5 = if kyD J 1 = true then 1 else 0) : oK W S j (P_X5_takeRsa G F (W.ad (.o 5 j)) (W.ad (.o 9 t)) (mem W S)) (rsaN J) := by
  have hL' : ((ltB J (fd J 25)).isSome = true ∧ (ltB J (fd J 26)).isSome = true) ∧ (kyD J 1 = false ∨ (ltB J (fd J 23)).isSome = true) := by
    unfold kyL at hL
    rw [if_neg (by decide), if_pos rfl, Bool.and_eq_true, Bool.and_eq_true, Bool.or_eq_true, Bool.not_eq_true'] at hL
    exact hL
  obtain ⟨⟨l25, l26⟩, l23⟩ := hL'
  obtain ⟨E1, E2, E3⟩ := E
  have E3 : Byt 128 (S 0 (18 + 3 * j)) [] false := E3
  obtain ⟨o1, g1, b1⟩ := put0 (G := G) (F := F) (lo := 64) (hi := 128) X K C Y bp (fN_b Y) H.2.2.2.2.1 E1 (by omega) (by decide) (by decide) l25
  have g1 : P_X9_putLettered G F (W.ad (.o 9 t)) (oI (fd J 25)) 64 128 (W.ad (.o 0 (16 + 3 * j))) (mem W S) = _ := g1
  obtain ⟨S1, hS1⟩ : ∃ S1, S1 = S.so 0 (16 + 3 * j) o1 := ⟨_, rfl⟩
  rw [← hS1] at g1
  have b1' : Byt 128 (S1 0 (16 + 3 * j)) (if inL (lB J (fd J 25)) 64 128 = true then lB J (fd J 25) else []) false := by rw [hS1, so_eq]; exact b1
  have C1 : TbC (S1 9 t) J := by rw [hS1, so_ne (by omega)]; exact C
  have bp1 : Byt 8192 (S1 0 ip) J.2.2 lp := by rw [hS1, so_ne (by omega)]; exact bp
  have e17 : Byt 128 (S1 0 (17 + 3 * j)) [] false := by rw [hS1, so_ne (by omega)]; exact E2
  have e18 : Byt 128 (S1 0 (18 + 3 * j)) [] false := by rw [hS1, so_ne (by omega)]; exact E3
  have f1 : fr (kyFr j) S S1 := by rw [hS1]; exact fr_so (by simp [kyFr])
  have r6 : ∀ S : ST, gfR (mem W S) (W.ad (.o 5 j)) 5 6 = some (W.ad (.o 0 (16 + 3 * j))) := fun S => gfR_m H.1 rfl H.2.1
  have r7 : ∀ S : ST, gfR (mem W S) (W.ad (.o 5 j)) 5 7 = some (W.ad (.o 0 (17 + 3 * j))) := fun S => gfR_m H.1 rfl H.2.2.1
  have r8 : ∀ S : ST, gfR (mem W S) (W.ad (.o 5 j)) 5 8 = some (W.ad (.o 0 (18 + 3 * j))) := fun S => gfR_m H.1 rfl H.2.2.2.1
  unfold P_X5_takeRsa rsaN
  rw [rcv_m K.1, bO_s, Q9_find0 X K C Y bp (by decide), bP_s, r6, bO_s, rcv_m K.1, bO_s, g1, bP_s]
  by_cases c1 : inL (lB J (fd J 25)) 64 128 = true
  · rw [if_pos c1] at b1'
    rw [if_pos c1, if_neg (by decide), r6, bO_s, Q6_suits H.2.2.2.2.1 b1', bP_s]
    by_cases c2 : suitsF (lB J (fd J 25)) = true
    · obtain ⟨o2, g2, b2⟩ := put0 (G := G) (F := F) (S := S1) (lo := 1) (hi := 128) X K C1 Y bp1 (fN_b Y) H.2.2.2.2.2.1 e17 (by omega) (by decide) (by decide) l26
      have g2 : P_X9_putLettered G F (W.ad (.o 9 t)) (oI (fd J 26)) 1 128 (W.ad (.o 0 (17 + 3 * j))) (mem W S1) = _ := g2
      obtain ⟨S2, hS2⟩ : ∃ S2, S2 = S1.so 0 (17 + 3 * j) o2 := ⟨_, rfl⟩
      rw [← hS2] at g2
      have b2' : Byt 128 (S2 0 (17 + 3 * j)) (if inL (lB J (fd J 26)) 1 128 = true then lB J (fd J 26) else []) false := by rw [hS2, so_eq]; exact b2
      have C2 : TbC (S2 9 t) J := by rw [hS2, so_ne (by omega)]; exact C1
      have bp2 : Byt 8192 (S2 0 ip) J.2.2 lp := by rw [hS2, so_ne (by omega)]; exact bp1
      have d16 : Byt 128 (S2 0 (16 + 3 * j)) (lB J (fd J 25)) false := by rw [hS2, so_ne (by omega)]; exact b1'
      have d18 : Byt 128 (S2 0 (18 + 3 * j)) [] false := by rw [hS2, so_ne (by omega)]; exact e18
      have f2 : fr (kyFr j) S S2 := f1.trans (by rw [hS2]; exact fr_so (by simp [kyFr]))
      have h52 : (S2 5 j).f 5 = if kyD J 1 = true then 1 else 0 := by rw [f2 5 j (by simp [kyFr])]; exact h5
      rw [if_pos c2, if_neg (by decide), rcv_m K.1, bO_s, Q9_find0 X K C1 Y bp1 (by decide), bP_s, r7, bO_s, rcv_m K.1, bO_s, g2, bP_s]
      by_cases c3 : inL (lB J (fd J 26)) 1 128 = true
      · rw [if_pos c3] at b2'
        rw [if_pos c3, if_neg (by decide), r7, bO_s, Q6_suits H.2.2.2.2.2.1 b2', bP_s]
        by_cases c4 : suitsF (lB J (fd J 26)) = true
        · rw [if_pos c4, if_neg (by decide), r7, bO_s, r6, bO_s, Q0_isBelow X H.2.2.2.2.2.1 b2' H.2.2.2.2.1 d16 (by decide) (by decide), bP_s]
          by_cases c5 : belF (lB J (fd J 26)) (lB J (fd J 25)) = true
          · have cc : inL (lB J (fd J 25)) 64 128 = true ∧ suitsF (lB J (fd J 25)) = true ∧ inL (lB J (fd J 26)) 1 128 = true ∧ suitsF (lB J (fd J 26)) = true ∧ belF (lB J (fd J 26)) (lB J (fd J 25)) = true := ⟨c1, c2, c3, c4, c5⟩
            rw [if_pos c5, if_neg (by decide), ko_I H rfl, bO_s, h52, if_pos cc]
            by_cases cD : kyD J 1 = true
            · have l23' := l23.resolve_left (by rw [cD]; decide)
              obtain ⟨o3, g3, b3⟩ := put0 (G := G) (F := F) (S := S2) (lo := 1) (hi := 128) X K C2 Y bp2 (fN_b Y) H.2.2.2.2.2.2 d18 (by omega) (by decide) (by decide) l23'
              have g3 : P_X9_putLettered G F (W.ad (.o 9 t)) (oI (fd J 23)) 1 128 (W.ad (.o 0 (18 + 3 * j))) (mem W S2) = _ := g3
              obtain ⟨S3, hS3⟩ : ∃ S3, S3 = S2.so 0 (18 + 3 * j) o3 := ⟨_, rfl⟩
              rw [← hS3] at g3
              have b3' : Byt 128 (S3 0 (18 + 3 * j)) (if inL (lB J (fd J 23)) 1 128 = true then lB J (fd J 23) else []) false := by rw [hS3, so_eq]; exact b3
              have t16 : Byt 128 (S3 0 (16 + 3 * j)) (lB J (fd J 25)) false := by rw [hS3, so_ne (by omega)]; exact d16
              have t17 : Byt 128 (S3 0 (17 + 3 * j)) (lB J (fd J 26)) false := by rw [hS3, so_ne (by omega)]; exact b2'
              have f3 : fr (kyFr j) S S3 := f2.trans (by rw [hS3]; exact fr_so (by simp [kyFr]))
              rw [if_pos cD, if_neg (by decide), if_pos cD, rcv_m K.1, bO_s, Q9_find0 X K C2 Y bp2 (by decide), bP_s, r8, bO_s, rcv_m K.1, bO_s, g3, bP_s]
              by_cases c6 : inL (lB J (fd J 23)) 1 128 = true
              · rw [if_pos c6] at b3'
                have hl3 := b3'.le
                have g0 := Q0_get (G := G) (F := F) (S := S3) (j := 0) H.2.2.2.2.2.2 b3' (by decide)
                have g0 : P_X0_get G F (W.ad (.o 0 (18 + 3 * j))) 0 (mem W S3) = some (gB (lB J (fd J 23)) 0, mem W S3) := g0
                rw [if_pos c6, if_neg (by decide), r8, bO_s, rcv_m H.2.2.2.2.2.2.lo, bO_s, g0, bP_s, gB_gN]
                have e0 : ((Int32.ofNat (gN (lB J (fd J 23)) 0)) = (0 : Int32)) = (gN (lB J (fd J 23)) 0 = 0) := by
                  have : gN (lB J (fd J 23)) 0 < 256 := gN_lt _ _
                  exact propext (n_eq (b := 0) (by omega) (by omega))
                simp only [e0]
                by_cases c7 : gN (lB J (fd J 23)) 0 = 0
                · rw [if_pos c7, if_neg (fun q => q.2.1 c7)]
                  exact ⟨S3, rfl, f3, ⟨_, _, t16⟩, ⟨_, _, t17⟩, _, _, b3'⟩
                · rw [if_neg c7, r8, bO_s, r6, bO_s, Q0_isBelow X H.2.2.2.2.2.2 b3' H.2.2.2.2.1 t16 (by decide) (by decide), bP_s]
                  by_cases c8 : belF (lB J (fd J 23)) (lB J (fd J 25)) = true
                  · rw [if_pos c8, if_neg (by decide), if_pos ⟨c6, c7, c8⟩]
                    exact ⟨S3, rfl, f3, t16, t17, b3'⟩
                  · rw [if_neg c8, if_pos rfl, if_neg (fun q => c8 q.2.2)]
                    exact ⟨S3, rfl, f3, ⟨_, _, t16⟩, ⟨_, _, t17⟩, _, _, b3'⟩
              · rw [if_neg c6, if_pos rfl, if_neg (fun q => c6 q.1)]
                exact ⟨S3, rfl, f3, ⟨_, _, t16⟩, ⟨_, _, t17⟩, _, _, b3'⟩
            · rw [if_neg cD, if_pos rfl, if_neg cD]
              exact ⟨S2, rfl, f2, d16, b2', d18⟩
          · rw [if_neg c5, if_pos rfl, if_neg (fun q => c5 q.2.2.2.2)]
            exact ⟨S2, rfl, f2, ⟨_, _, d16⟩, ⟨_, _, b2'⟩, _, _, d18⟩
        · rw [if_neg c4, if_pos rfl, if_neg (fun q => c4 q.2.2.2.1)]
          exact ⟨S2, rfl, f2, ⟨_, _, d16⟩, ⟨_, _, b2'⟩, _, _, d18⟩
      · rw [if_neg c3, if_pos rfl, if_neg (fun q => c3 q.2.2.1)]
        exact ⟨S2, rfl, f2, ⟨_, _, d16⟩, ⟨_, _, b2'⟩, _, _, d18⟩
    · rw [if_neg c2, if_pos rfl, if_neg (fun q => c2 q.2.1)]
      exact ⟨S1, rfl, f1, ⟨_, _, b1'⟩, ⟨_, _, e17⟩, _, _, e18⟩
  · rw [if_neg c1, if_pos rfl, if_neg (fun q => c1 q.1)]
    exact ⟨S1, rfl, f1, ⟨_, _, b1'⟩, ⟨_, _, e17⟩, _, _, e18⟩
end KYR
