/-! A KEY'S TEXT: the class -/
abbrev fd (J : JT) (j : Nat) : Option Nat := fN J (str j) (some 0)
def kyKind (J : JT) : Option Nat := if sayB J (fd J 16) (str 17) = true then some 0 else if sayB J (fd J 16) (str 18) = true then some 1 else if sayB J (fd J 16) (str 19) = true then some 2 else none
def okN (J : JT) (j : Nat) : Bool := decide (fd J j = none) || kB J (fd J j) 4
def kyD (J : JT) (kd : Nat) : Bool := decide (kd ≠ 0) && (fd J 23).isSome
def ptL (J : JT) (o : Option Nat) : Bool := sayB J (fN J (str 27) o) (str 28) && ((ltB J (fN J (str 29) o)).isSome && (ltB J (fN J (str 30) o)).isSome)
def kyL (J : JT) (kd : Nat) : Bool := if kd = 0 then (ltB J (fd J 24)).isSome else (if kd = 1 then (ltB J (fd J 25)).isSome && (ltB J (fd J 26)).isSome else ptL J (some 0)) && (!kyD J kd || (ltB J (fd J 23)).isSome)
def lB (J : JT) (o : Option Nat) : List UInt8 := (ltB J o).getD []
def inL (d : List UInt8) (lo hi : Nat) : Bool := decide (lo ≤ d.length) && decide (d.length ≤ hi)
section KEY
variable {W : WR} {G : mG} {F : Nat} {S : ST} {t ip : Nat} {J : JT} {lp : Bool}
theorem fN_b {w : List UInt8} {o : Option Nat} (Y : JX J) : ∀ i, fN J w o = some i → i < 2 ^ 31 := fun i h => by have := fN_lt h; have := Y.2.1; omega
theorem Q9_putLettered {o : Option Nat} {it rt lo hi : Nat} {tt d : List UInt8} {l : Bool} (X : Cx G F W) (K : isTx W t ip) (C : TbC (S 9 t) J) (Y : JX J) (bp : Byt 8192 (S 0 ip) J.2.2 lp) (ho : ∀ i, o = some i → i < 2 ^ 31) (hT : isB W it rt) (bt : Byt rt (S 0 it) tt l) (hne : it ≠ ip) (hlo : lo < 2 ^ 30) (hhi : hi < 2 ^ 30) (hd : ltB J o = some d) : ∃ o', P_X9_putLettered G F (W.ad (.o 9 t)) (oI o) (Int32.ofNat lo) (Int32.ofNat hi) (W.ad (.o 0 it)) (mem W S) = some (if inL d lo hi = true then 1 else 0, mem W (S.so 0 it o')) ∧ (if inL d lo hi = true then Byt rt o' (tkl rt tt d) (lsl rt tt d l) else o' = S 0 it) := by
  have Y2 := Y.2.1
  have Y1 := Y.1
  cases o with
  | none => exact absurd hd (by simp [ltB])
  | some i =>
    have hd : (if kB J (some i) 4 = true ∧ fltF (seg J.2.2 (J.2.1 6 i) (J.2.1 7 i)) = none then some (dec (seg J.2.2 (J.2.1 6 i) (J.2.1 7 i))) else none) = some d := hd
    split at hd
    · rename_i hk
      have hd := (Option.some.inj hd).symm
      obtain ⟨e1, e2⟩ := kB_lt hk.1 rfl
      obtain ⟨c1, c2, c3, c4, c5, c6, c7, c8⟩ := C.2 i e1
      have y := Y.2.2 i e1
      have dl : d.length = J.2.1 7 i * 3 / 4 := by rw [hd, dec_len, seg_len (by omega)]
      have hh : P_X9_has G F (W.ad (.o 9 t)) (oI (some i)) (mem W S) = some (if i < J.1 then 1 else 0, mem W S) := Q9_has K C Y (ho i rfl)
      unfold P_X9_putLettered
      rw [rcv_m K.1, bO_s, hh, bP_s, if_pos e1, if_neg (by decide), t9r K 7, bO_s]
      show ∃ o', (bO (aI G (mem W S) 0 (W.ad (.a 9 t 7)) (Int32.ofNat i)) _) = _ ∧ _
      rw [t9a K 7 i (by omega), bO_s, c7, Q0_bytesFor (by omega), bP_s, ← dl]
      unfold inL
      by_cases h1 : d.length < lo
      · rw [if_pos ((n_lt (by omega) (by omega)).mpr h1), decide_eq_false (show ¬ lo ≤ d.length by omega), Bool.false_and, if_neg (by decide)]
        exact ⟨S 0 it, by rw [so_self]; rfl, by rw [if_neg (by decide)]⟩
      · rw [if_neg (fun q => h1 ((n_lt (by omega) (by omega)).mp q)), decide_eq_true (show lo ≤ d.length by omega), Bool.true_and]
        by_cases h2 : d.length ≤ hi
        · obtain ⟨o', g, b⟩ := Q0_putUnlettered (G := G) (F := F) (S := S) (i := it) (i2 := ip) (st := J.2.1 6 i) (stop := J.2.1 6 i + J.2.1 7 i) X hT bt K.2.2.1 bp (fun q => hne q.symm) (by omega) (by omega) (by omega) (by rw [show J.2.1 6 i + J.2.1 7 i - J.2.1 6 i = J.2.1 7 i by omega]; exact flt_none hk.2)
          rw [show J.2.1 6 i + J.2.1 7 i - J.2.1 6 i = J.2.1 7 i by omega] at b
          rw [if_pos ((n_le (by omega) (by omega)).mpr h2), decide_eq_true h2, if_pos rfl, t9p K, bO_s, t9r K 6, bO_s]
          show ∃ o', (bO (aI G (mem W S) 0 (W.ad (.a 9 t 6)) (Int32.ofNat i)) _) = _ ∧ _
          rw [t9a K 6 i (by omega), bO_s, bO_s]
          show ∃ o', (bO (aI G (mem W S) 0 (W.ad (.a 9 t 6)) (Int32.ofNat i)) _) = _ ∧ _
          rw [t9a K 6 i (by omega), bO_s, t9r K 7, bO_s]
          show ∃ o', (bO (aI G (mem W S) 0 (W.ad (.a 9 t 7)) (Int32.ofNat i)) _) = _ ∧ _
          rw [t9a K 7 i (by omega), bO_s, c6, c7, n_add, rcv_m hT.lo, bO_s, g, bO_s]
          refine ⟨o', rfl, ?_⟩
          rw [if_pos rfl, hd]
          exact b
        · rw [if_neg (fun q => h2 ((n_le (by omega) (by omega)).mp q)), decide_eq_false h2, if_neg (by decide)]
          exact ⟨S 0 it, by rw [so_self]; rfl, by rw [if_neg (by decide)]⟩
    · exact absurd hd (by simp)
theorem Q5_pointThere {o : Option Nat} (X : Cx G F W) (K : isTx W t ip) (C : TbC (S 9 t) J) (Y : JX J) (bp : Byt 8192 (S 0 ip) J.2.2 lp) (ho : ∀ i, o = some i → i < 2 ^ 31) : P_X5_isPointThere G F (W.ad (.o 9 t)) (oI o) (mem W S) = some (if ptL J o = true then 1 else 0, mem W S) := by
  unfold P_X5_isPointThere ptL
  rw [rcv_m K.1, bO_s, Q9_find X K C Y bp (by decide) ho, bP_s, rcv_m K.1, bO_s, Q9_says X K C Y bp (by decide) (fN_b Y), bP_s]
  cases sayB J (fN J (str 27) o) (str 28) with
  | false => rfl
  | true =>
    rw [if_pos rfl, if_neg (by decide), rcv_m K.1, bO_s, Q9_find X K C Y bp (by decide) ho, bP_s, rcv_m K.1, bO_s, Q9_areLetters X K C Y bp (fN_b Y), bP_s, Bool.true_and]
    cases (ltB J (fN J (str 29) o)).isSome with
    | false => rfl
    | true =>
      rw [if_pos rfl, if_neg (by decide), rcv_m K.1, bO_s, Q9_find X K C Y bp (by decide) ho, bP_s, rcv_m K.1, bO_s, Q9_areLetters X K C Y bp (fN_b Y), bP_s, Bool.true_and]
      cases (ltB J (fN J (str 30) o)).isSome with
      | false => rfl
      | true => rfl
/-- a key's object: where its parts lie -/
abbrev isKo (W : WR) (j : Nat) : Prop := W.live (.o 5 j) = true ∧ W.r 5 j 6 = some (.o 0 (16 + 3 * j)) ∧ W.r 5 j 7 = some (.o 0 (17 + 3 * j)) ∧ W.r 5 j 8 = some (.o 0 (18 + 3 * j)) ∧ isB W (16 + 3 * j) 128 ∧ isB W (17 + 3 * j) 128 ∧ isB W (18 + 3 * j) 128
theorem ko_I {j k : Nat} (H : isKo W j) (q : (kdF 5)[k]? = some 0) : gfI (mem W S) (W.ad (.o 5 j)) 5 k = some ((S 5 j).f k) := gfI_m H.1 q
theorem Q5_lettersThere {j kd : Nat} (X : Cx G F W) (H : isKo W j) (K : isTx W t ip) (C : TbC (S 9 t) J) (Y : JX J) (bp : Byt 8192 (S 0 ip) J.2.2 lp) (hk : kd ≤ 2) (h1 : (S 5 j).f 1 = (Int32.ofNat kd)) (h5 : (S 5 j).f 5 = if kyD J kd = true then 1 else 0) : P_X5_areLettersThere G F (W.ad (.o 5 j)) (W.ad (.o 9 t)) (mem W S) = some (if kyL J kd = true then 1 else 0, mem W S) := by
  have lst : ∀ (b : Bool), B_X5_areLettersThere_68 G F (W.ad (.o 5 j)) (W.ad (.o 9 t)) (if b then 1 else 0) (mem W S) = some (if (b && (!kyD J kd || (ltB J (fd J 23)).isSome)) = true then 1 else 0, mem W S) := by
    intro b
    unfold B_X5_areLettersThere_68
    cases b with
    | false => rfl
    | true =>
      rw [if_neg (by decide), ko_I H rfl, bO_s, h5, Bool.true_and]
      cases kyD J kd with
      | false => rfl
      | true =>
        rw [if_pos rfl, if_neg (by decide), rcv_m K.1, bO_s, Q9_find0 X K C Y bp (by decide), bP_s, rcv_m K.1, bO_s, Q9_areLetters X K C Y bp (fN_b Y), bP_s]
        show _ = some (if (false || (ltB J (fd J 23)).isSome) = true then 1 else 0, _)
        rw [Bool.false_or]
        cases (ltB J (fN J (str 23) (some 0))).isSome <;> rfl
  unfold P_X5_areLettersThere kyL
  rw [ko_I H rfl, bO_s, h1]
  by_cases c0 : kd = 0
  · subst c0
    rw [if_pos (show (Int32.ofNat 0) = (0 : Int32) from rfl), if_pos rfl, rcv_m K.1, bO_s, Q9_find0 X K C Y bp (by decide), bP_s, rcv_m K.1, bO_s, Q9_areLetters X K C Y bp (fN_b Y), bP_s]
    cases (ltB J (fN J (str 24) (some 0))).isSome <;> rfl
  · rw [if_neg (show ¬ (Int32.ofNat kd) = (0 : Int32) from fun q => c0 ((n_eq (b := 0) (by omega) (by omega)).mp q)), if_neg c0, bO_s]
    by_cases c1 : kd = 1
    · subst c1
      rw [if_pos (show (Int32.ofNat 1) = (1 : Int32) from rfl), if_pos rfl, rcv_m K.1, bO_s, Q9_find0 X K C Y bp (by decide), bP_s, rcv_m K.1, bO_s, Q9_areLetters X K C Y bp (fN_b Y), bP_s]
      cases (ltB J (fN J (str 25) (some 0))).isSome with
      | false => exact lst false
      | true =>
        rw [if_pos rfl, if_neg (by decide), rcv_m K.1, bO_s, Q9_find0 X K C Y bp (by decide), bP_s, rcv_m K.1, bO_s, Q9_areLetters X K C Y bp (fN_b Y), bP_s, Bool.true_and]
        cases (ltB J (fN J (str 26) (some 0))).isSome with
        | false => exact lst false
        | true => exact lst true
    · have pt := Q5_pointThere (G := G) (F := F) (o := some 0) X K C Y bp (fun i h => by have := Option.some.inj h; omega)
      have pt : P_X5_isPointThere G F (W.ad (.o 9 t)) 0 (mem W S) = _ := pt
      rw [if_neg (show ¬ (Int32.ofNat kd) = (1 : Int32) from fun q => c1 ((n_eq (b := 1) (by omega) (by omega)).mp q)), if_neg c1, pt, bP_s]
      exact lst (ptL J (some 0))
end KEY
