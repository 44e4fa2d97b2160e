/-! CALL verify: the class -/
/-- the first key that tells the signature right; else whether one might -/
def vrK (A : Nat → Option KY) (J : JT) (a : Nat) (msg sg : List UInt8) : Nat → Nat → Bool → Bool ⊕ Nat
  | 0, _, may => .inl may
  | m + 1, k, may => match A k with
    | none => vrK A J a msg sg m (k + 1) may
    | some K => if (kdS J K && maySg K a false) = true then (if svF a K msg sg = true then .inr k else vrK A J a msg sg m (k + 1) true) else vrK A J a msg sg m (k + 1) may
def ansK (r : Bool ⊕ Nat) : Int32 := match r with
  | .inl may => if may = true then -27 else -26
  | .inr k => (Int32.ofNat k)
def shwK (S S' : ST) (r : Bool ⊕ Nat) (pay : List UInt8) : Prop := match r with
  | .inl _ => S' 0 9 = S 0 9
  | .inr _ => Byt 8192 (S' 0 9) pay false
abbrev vfL : List (Nat × Nat) := (0, 9) :: svL
theorem vfL_k : noK vfL := by
  intro x hx
  simp only [vfL, svL, List.mem_cons, List.not_mem_nil, or_false] at hx
  rcases hx with e | e | e | e | e | e | e | e | e | e | e | e | e | e | e <;> rw [e] <;> simp
/-- what a token's payload tells -/
def payB (xs : List UInt8) (bare : Bool) : List UInt8 := if bare = true then ptX xs 1 else dec (ptX xs 1)
section CVY
variable {W : WR} {G : mG} {F : Nat} {z sl z0 s0 t : Nat} {σ κ rk : Nat → Nat} {A : Nat → Option KY} {J : JT} {lp : Bool}
theorem Q11_showPay {S : ST} {r : Nat} {xs : List UInt8} {l bare : Bool} (X : Cx G F W) (A_ : isA W) (ab : AB W S) (T : SPT (S 10 0) xs) (h2 : (ptA xs).length = 2) (hr : r < 8) (bx : Byt 8192 (S 0 r) xs l) (f3 : (S 10 0).f 3 = if bare = true then 1 else 0) (hf : bare = false → fltF (ptX xs 1) = none) : ∃ o, P_X11_showPayload G F (W.ad (.o 11 0)) (W.ad (.o 0 r)) (mem W S) = some (mem W (S.so 0 9 o)) ∧ Byt 8192 o (payB xs bare) false := by
  obtain ⟨h, hd, hrs, hcu, htk, hci, hco, h12, h13, h14, h15, h16, h17⟩ := id A_
  have hl := bx.le
  obtain ⟨x9, l9, b9⟩ := ab 9 8192 (by decide) h.sb
  obtain ⟨p1, p2⟩ := part_le (xs := xs) (p := 1) (by omega)
  have pl : (ptX xs 1).length = peP xs 1 - stP (ptA xs) 1 := by
    show (seg xs (stP (ptA xs) 1) (peP xs 1 - stP (ptA xs) 1)).length = _
    exact seg_len (by omega)
  have q1 : ∀ S : ST, SPT (S 10 0) xs → P_X10_partStart G F (W.ad (.o 10 0)) 1 (mem W S) = some ((Int32.ofNat (stP (ptA xs) 1)), mem W S) := fun S T => Q10_start (p := 1) htk.1 T (by omega)
  have q2 : ∀ S : ST, SPT (S 10 0) xs → P_X10_partEnd G F (W.ad (.o 10 0)) 1 (mem W S) = some ((Int32.ofNat (peP xs 1)), mem W S) := fun S T => Q10_end (p := 1) htk.1 T (by omega)
  unfold P_X11_showPayload payB
  rw [h.gR rfl h17, bO_s, gfI_m htk.1.1 rfl, bO_s, f3]
  cases bare with
  | false =>
    obtain ⟨o, g, b⟩ := Q10_readPart (G := G) (F := F) (S := S) (p := 1) (it := 9) (rt := 8192) X htk.1 T (by omega) (h.rb r hr) bx h.sb b9 (by omega) (hf rfl) (by omega)
    have g : P_X10_readPart G F (W.ad (.o 10 0)) (W.ad (.o 0 r)) 1 (W.ad (.o 0 9)) (mem W S) = _ := g
    rw [if_pos (show (if false = true then (1 : Int32) else 0) = 0 from rfl), bO_s, h.gR rfl h.shown, bO_s, rcv_m htk.1.1, bO_s, g, bO_s]
    exact ⟨o, rfl, b⟩
  | true =>
    obtain ⟨o, g, b⟩ := Q11_show (G := G) (F := F) (S := S) (i := r) (p := stP (ptA xs) 1) (n := peP xs 1 - stP (ptA xs) 1) h b9 (h.rb r hr) bx (by omega) (by omega) (by omega)
    rw [if_neg (show ¬ (if true = true then (1 : Int32) else 0) = 0 by decide), bO_s, rcv_m htk.1.1, bO_s, q1 S T, bP_s, h.gR rfl h17, bO_s, rcv_m htk.1.1, bO_s, q2 S T, bP_s, h.gR rfl h17, bO_s, rcv_m htk.1.1, bO_s, q1 S T, bP_s, rcv_m h.lo, bO_s, n_sub p1, g, bP_s]
    exact ⟨o, rfl, b⟩
theorem Q11_vrf187 {r a : Nat} {xs msg sg : List UInt8} {l lm ls bare : Bool} (X : Cx G F W) (A_ : isA W) (w8 : W.r 11 0 8 = some (.o 9 t)) (wt : isTx W t (14 + t)) (tl : t < 2) (Y : JX J) (ha : a < 5) (h2 : (ptA xs).length = 2) (hr : r < 8) (kd : fd J 55 = none ∨ kB J (fd J 55) 4 = true) (hf : bare = false → fltF (ptX xs 1) = none) : ∀ (m k fuel : Nat) (may : Bool) (S : ST) (V : Nat → Int), m < fuel → k + m = 16 → AB W S → CK S V → KHS W S z sl z0 s0 σ κ rk A → TbC (S 9 t) J → Byt 8192 (S 0 (14 + t)) J.2.2 lp → (S 10 0).f 15 = oI (fd J 55) → (S 10 0).f 1 = (Int32.ofNat a) → ((S 10 0).f 3 = if bare = true then 1 else 0) → SPT (S 10 0) xs → Byt 22528 (S 0 11) msg lm → Byt 8192 (S 0 12) sg ls → Byt 8192 (S 0 r) xs l → ∃ S' V', B_X11_verify_187 G F fuel (W.ad (.o 11 0)) (W.ad (.o 0 r)) (if may = true then 1 else 0) (Int32.ofNat k) (mem W S) = some (ansK (vrK A J a msg sg m k may), mem W S') ∧ fr vfL S S' ∧ AB W S' ∧ CK S' V' ∧ KHS W S' z sl z0 s0 σ κ rk A ∧ shwK S S' (vrK A J a msg sg m k may) (payB xs bare) := by
  obtain ⟨h, hd, hrs, hcu, htk, hci, hco, h12, h13, h14, h15, h16, h17⟩ := id A_
  intro m
  induction m with
  | zero =>
    intro k fuel may S V hf' hk ab C hK Ct bp f15 f1 f3 T b11 b12 bx
    obtain ⟨fuel, rfl⟩ : ∃ q, fuel = q + 1 := ⟨fuel - 1, by omega⟩
    refine ⟨S, V, ?_, fr.refl _ _, ab, C, hK, rfl⟩
    rw [B_X11_verify_187, if_pos (show (16 : Int32) ≤ (Int32.ofNat k) from (n_le (a := 16) (by omega) (by omega)).mpr (by omega))]
    cases may <;> rfl
  | succ m ih =>
    intro k fuel may S V hf' hk ab C hK Ct bp f15 f1 f3 T b11 b12 bx
    obtain ⟨fuel, rfl⟩ : ∃ q, fuel = q + 1 := ⟨fuel - 1, by omega⟩
    have k16 : k < 16 := by omega
    have g10 : ∀ S' : ST, gfR (mem W S') (W.ad (.o 11 0)) 11 10 = some (W.ad (.a 11 0 10)) := fun S' => gfR_m h.lo rfl hK.2.1.1
    have nx := fun may' => ih (k + 1) fuel may' S V (by omega) (by omega) ab C hK Ct bp f15 f1 f3 T b11 b12 bx
    rw [B_X11_verify_187, if_neg (show ¬ (16 : Int32) ≤ (Int32.ofNat k) from fun q => by have := (n_le (a := 16) (by omega) (by omega)).mp q; omega), g10, bO_s, hK.ky k16, bO_s, hK.th k16, bO_s]
    show ∃ S' V', _ = some (ansK (match A k with | none => vrK A J a msg sg m (k + 1) may | some K => if (kdS J K && maySg K a false) = true then (if svF a K msg sg = true then .inr k else vrK A J a msg sg m (k + 1) true) else vrK A J a msg sg m (k + 1) may), mem W S') ∧ fr vfL S S' ∧ AB W S' ∧ CK S' V' ∧ KHS W S' z sl z0 s0 σ κ rk A ∧ shwK S S' (match A k with | none => vrK A J a msg sg m (k + 1) may | some K => if (kdS J K && maySg K a false) = true then (if svF a K msg sg = true then .inr k else vrK A J a msg sg m (k + 1) true) else vrK A J a msg sg m (k + 1) may) (payB xs bare)
    cases e : A k with
    | none =>
      rw [if_pos (show (if (none : Option KY).isSome = true then (1 : Int32) else 0) = 0 from rfl), n_i1]
      exact nx may
    | some K =>
      obtain ⟨H, hj, O, V_, y2, y3, y4⟩ := hK.at_ k16 e
      have rk9 : rk (σ k) < 2 ^ 20 := by
        obtain ⟨q, q1, q2, q3⟩ := rmK_q (hK.2.2.1 (σ k) hj).2.2.2.1
        omega
      have ks := Q10_kidSuits (G := G) (F := F) (S := S) X htk.1 wt Ct Y bp H O y2 y3 rk9 f15 kd
      have ms := Q5_maySign (G := G) (F := F) (w := a) false H O V_ (by omega)
      have ms : P_X5_maySign G F (W.ad (.o 5 (σ k))) (Int32.ofNat a) 0 (mem W S) = _ := ms
      have x1 : gfI (mem W S) (W.ad (.o 10 0)) 10 1 = some (Int32.ofNat a) := by rw [gfI_m htk.1.1 rfl, f1]
      show ∃ S' V', _ = some (ansK (if (kdS J K && maySg K a false) = true then (if svF a K msg sg = true then .inr k else vrK A J a msg sg m (k + 1) true) else vrK A J a msg sg m (k + 1) may), mem W S') ∧ fr vfL S S' ∧ AB W S' ∧ CK S' V' ∧ KHS W S' z sl z0 s0 σ κ rk A ∧ shwK S S' (if (kdS J K && maySg K a false) = true then (if svF a K msg sg = true then .inr k else vrK A J a msg sg m (k + 1) true) else vrK A J a msg sg m (k + 1) may) (payB xs bare)
      rw [if_neg (show ¬ (if (some K : Option KY).isSome = true then (1 : Int32) else 0) = 0 by rw [if_pos (show (some K : Option KY).isSome = true from rfl)]; decide), h.gR rfl h17, bO_s, h.gR rfl w8, bO_s, bO_s, hK.ky k16, bO_s, rcv_m htk.1.1, bO_s, ks, bP_s]
      by_cases c1 : kdS J K = true
      · rw [if_pos c1, if_neg (by decide), g10, bO_s, hK.ky k16, bO_s, h.gR rfl h17, bO_s, x1, bO_s, rcv_m H.1, bO_s, ms, bP_s]
        by_cases c2 : maySg K a false = true
        · have cc : (kdS J K && maySg K a false) = true := by rw [c1, c2]; rfl
          obtain ⟨S1, V1, q1, q2, q3, q4⟩ := Q11_sigRight (G := G) (F := F) (S := S) X A_ ab C H hj O V_ ha c2 f1 b11 b12
          have q2' : fr vfL S S1 := q2.mono (fun x hx => List.mem_cons_of_mem _ hx)
          have k1 : KHS W S1 z sl z0 s0 σ κ rk A := hK.fm q2' vfL_k
          have s10 : S1 10 0 = S 10 0 := q2 10 0 (by simp [svL])
          have br1 : Byt 8192 (S1 0 r) xs l := by rw [q2 0 r (by simp [svL]; omega)]; exact bx
          have s9 : S1 0 9 = S 0 9 := q2 0 9 (by simp [svL])
          simp only [if_pos cc]
          rw [if_pos c2, if_neg (by decide), g10, bO_s, hK.ky k16, bO_s, rcv_m h.lo, bO_s, q1, bP_s]
          by_cases c3 : svF a K msg sg = true
          · obtain ⟨o, g, b⟩ := Q11_showPay (G := G) (F := F) (S := S1) (bare := bare) X A_ q3 (by rw [s10]; exact T) h2 hr br1 (by rw [s10]; exact f3) hf
            simp only [if_pos c3]
            rw [if_neg (by decide), rcv_m h.lo, bO_s, g, bO_s]
            refine ⟨S1.so 0 9 o, V1, rfl, q2'.trans (fr_so (by simp)), q3.so h.sb b, q4.fr (L := [(0, 9)]) (fr_so (by simp)) (by simp), k1.fm (L := vfL) (fr_so (by simp)) vfL_k, ?_⟩
            show Byt 8192 ((S1.so 0 9 o) 0 9) _ false
            rw [so_eq]
            exact b
          · simp only [if_neg c3]
            obtain ⟨S2, V2, z1, z2, z3, z4, z5, z6⟩ := ih (k + 1) fuel true S1 V1 (by omega) (by omega) q3 q4 k1 (by rw [q2 9 t (by simp [svL])]; exact Ct) (by rw [q2 0 (14 + t) (by simp [svL]; omega)]; exact bp) (by rw [s10]; exact f15) (by rw [s10]; exact f1) (by rw [s10]; exact f3) (by rw [s10]; exact T) (by rw [q2 0 11 (by simp [svL])]; exact b11) (by rw [q2 0 12 (by simp [svL])]; exact b12) br1
            have z1 : B_X11_verify_187 G F fuel (W.ad (.o 11 0)) (W.ad (.o 0 r)) 1 (Int32.ofNat (k + 1)) (mem W S1) = _ := z1
            rw [if_pos trivial, n_i1, z1]
            refine ⟨S2, V2, rfl, q2'.trans z2, z3, z4, z5, ?_⟩
            revert z6
            cases vrK A J a msg sg m (k + 1) true with
            | inl b => intro z6; exact (show S2 0 9 = S1 0 9 from z6).trans s9
            | inr b => exact id
        · have cc : ¬ (kdS J K && maySg K a false) = true := by rw [Bool.eq_false_iff.mpr c2, Bool.and_false]; decide
          simp only [if_neg cc]
          rw [if_neg c2, if_pos rfl, n_i1]
          exact nx may
      · have cc : ¬ (kdS J K && maySg K a false) = true := by rw [Bool.eq_false_iff.mpr c1, Bool.false_and]; decide
        simp only [if_neg cc]
        rw [if_neg c1, if_pos rfl, n_i1]
        exact nx may
end CVY
