/-! A KEY'S NUMBERS BELONG TOGETHER: the class -/
def blF (kd : Nat) (k : Ky3) : Bool := if kd = 1 then (match k.2.2 with
  | none => true
  | some d => rpF k.1 k.2.1 d) else if kd = 2 then onC (beN (seg k.1 0 32)) (beN (seg k.1 32 32)) && (match k.2.2 with
  | none => true
  | some d => pairF d k.1) else true
theorem rz1 (M : mM) : retZ (1 : Int32) M = some (1, M) := rfl
theorem rz0 (M : mM) : retZ (0 : Int32) M = some (0, M) := rfl
theorem kyN_1 {J : JT} {k : Ky3} (h : kyN J 1 = some k) : suitsF k.1 = true := by
  have h : rsaN J = some k := h
  unfold rsaN at h
  split at h
  · rename_i c
    split at h
    · split at h
      · rw [← Option.some.inj h]; exact c.2.1
      · exact absurd h (by simp)
    · rw [← Option.some.inj h]; exact c.2.1
  · exact absurd h (by simp)
theorem inL_eq {d : List UInt8} {n : Nat} (h : inL d n n = true) : d.length = n := by
  unfold inL at h
  rw [Bool.and_eq_true, decide_eq_true_iff, decide_eq_true_iff] at h
  omega
theorem kyN_2 {J : JT} {k : Ky3} (h : kyN J 2 = some k) : k.1.length = 64 ∧ ∀ d, k.2.2 = some d → d.length = 32 := by
  have h : ecN J = some k := h
  unfold ecN at h
  split at h
  · rename_i c
    have l1 := inL_eq c.1
    have l2 := inL_eq c.2
    split at h
    · split at h
      · rename_i c3
        rw [← Option.some.inj h]
        exact ⟨by rw [List.length_append, l1, l2], fun d e => by rw [← Option.some.inj e]; exact inL_eq c3⟩
      · exact absurd h (by simp)
    · rw [← Option.some.inj h]
      exact ⟨by rw [List.length_append, l1, l2], fun d e => absurd e (by simp)⟩
  · exact absurd h (by simp)
abbrev blFr : List (Nat × Nat) := [(6, 0), (8, 0), (0, 69), (0, 70), (3, 0), (6, 1), (0, 76)]
section BLG
variable {W : WR} {G : mG} {F : Nat} {S : ST} {j : Nat}
theorem Q11_belong {kd : Nat} {k : Ky3} {V : Nat → Int} (X : Cx G F W) (hl : W.live (.o 11 0) = true) (r15 : W.r 11 0 15 = some (.o 8 0)) (r16 : W.r 11 0 16 = some (.o 3 0)) (hR : isRs W) (hC : isCu W) (H : isKo W j) (hj : j ≤ 16) (K : CK S V) (T : KyT S j k) (hk : kd ≤ 2) (h1 : (S 5 j).f 1 = (Int32.ofNat kd)) (h5 : (S 5 j).f 5 = if k.2.2.isSome = true then 1 else 0) (c1 : kd = 1 → suitsF k.1 = true) (c2 : kd = 2 → k.1.length = 64 ∧ ∀ d, k.2.2 = some d → d.length = 32) (b69 : ∃ t l, Byt 128 (S 0 69) t l) (b70 : ∃ t l, Byt 128 (S 0 70) t l) (b76 : ∃ t l, Byt 64 (S 0 76) t l) : ∃ S' V', P_X11_numbersBelong G F (W.ad (.o 11 0)) (W.ad (.o 5 j)) (mem W S) = some (if blF kd k = true then 1 else 0, mem W S') ∧ fr blFr S S' ∧ CK S' V' ∧ (∃ t l, Byt 128 (S' 0 69) t l) ∧ (∃ t l, Byt 128 (S' 0 70) t l) ∧ ∃ t l, Byt 64 (S' 0 76) t l := by
  obtain ⟨t1, t2, t3⟩ := T
  have g15 : ∀ S : ST, gfR (mem W S) (W.ad (.o 11 0)) 11 15 = some (W.ad (.o 8 0)) := fun S => gfR_m hl rfl r15
  have g16 : ∀ S : ST, gfR (mem W S) (W.ad (.o 11 0)) 11 16 = some (W.ad (.o 3 0)) := fun S => gfR_m hl rfl r16
  have r6 : ∀ S : ST, gfR (mem W S) (W.ad (.o 5 j)) 5 6 = some (W.ad (.o 0 (16 + 3 * j))) := fun S => gfR_m H.1 rfl H.2.1
  have r7 : ∀ S : ST, gfR (mem W S) (W.ad (.o 5 j)) 5 7 = some (W.ad (.o 0 (17 + 3 * j))) := fun S => gfR_m H.1 rfl H.2.2.1
  have r8 : ∀ S : ST, gfR (mem W S) (W.ad (.o 5 j)) 5 8 = some (W.ad (.o 0 (18 + 3 * j))) := fun S => gfR_m H.1 rfl H.2.2.2.1
  obtain ⟨u1, m1, b69⟩ := b69
  obtain ⟨u2, m2, b70⟩ := b70
  obtain ⟨u3, m3, b76⟩ := b76
  have stay : ∀ (P : Option (Int32 × mM)) (b : Bool), P = some (if b = true then 1 else 0, mem W S) → b = blF kd k → ∃ S' V', P = some (if blF kd k = true then 1 else 0, mem W S') ∧ fr blFr S S' ∧ CK S' V' ∧ (∃ t l, Byt 128 (S' 0 69) t l) ∧ (∃ t l, Byt 128 (S' 0 70) t l) ∧ ∃ t l, Byt 64 (S' 0 76) t l := fun P b h1 h2 => ⟨S, V, by rw [← h2]; exact h1, fr.refl _ _, K, ⟨_, _, b69⟩, ⟨_, _, b70⟩, _, _, b76⟩
  unfold P_X11_numbersBelong
  rw [ko_I H rfl, bO_s, h1]
  by_cases e1 : kd = 1
  · subst e1
    rw [if_pos (show (Int32.ofNat 1) = (1 : Int32) from rfl), ko_I H rfl, bO_s, h5]
    cases ed : k.2.2 with
    | none =>
      rw [if_pos (by rfl), rz1]
      exact stay _ true rfl (by unfold blF; rw [if_pos rfl, ed])
    | some d =>
      rw [ed] at t3
      obtain ⟨S', q1, q2, q3, q4⟩ := Q8_isPair (G := G) (F := F) (S := S) (in_ := 16 + 3 * j) (ie := 17 + 3 * j) (id_ := 18 + 3 * j) X hR H.2.2.2.2.1 H.2.2.2.2.2.1 H.2.2.2.2.2.2 t1 t2 t3 b69 b70 (by omega) (by omega) (by omega) (c1 rfl)
      have eb : blF 1 k = rpF k.1 k.2.1 d := by unfold blF; rw [if_pos rfl, ed]
      refine ⟨S', V, ?_, q2.mono (by simp), K.fr q2 (by simp), q3, q4, u3, m3, by rw [q2 0 76 (by simp)]; exact b76⟩
      rw [if_neg (show ¬ (if (some d).isSome = true then (1 : Int32) else 0) = 0 by rw [if_pos (show (some d).isSome = true from rfl)]; decide), g15, bO_s, r6, bO_s, r7, bO_s, r8, bO_s, rcv_m hR.1, bO_s]
      rw [show (Option.some d).getD [] = d from rfl] at q1
      rw [q1, bP_s, eb]
      cases rpF k.1 k.2.1 d <;> rfl
  · rw [if_neg (show ¬ (Int32.ofNat kd) = (1 : Int32) from fun q => e1 ((n_eq (b := 1) (by omega) (by omega)).mp q))]
    by_cases e2 : kd = 2
    · subst e2
      obtain ⟨l64, l32⟩ := c2 rfl
      obtain ⟨S1, V1, q1, f1, K1, _, _⟩ := Q3_load (G := G) (F := F) X hC K H.2.2.2.2.1 t1 (by omega)
      have f1' : fr [(3, 0), (6, 1)] S S1 := f1.fr (by simp [ow, wc])
      have eb : blF 2 k = (onC (beN (seg k.1 0 32)) (beN (seg k.1 32 32)) && (match k.2.2 with | none => true | some d => pairF d k.1)) := by unfold blF; rw [if_neg (by decide), if_pos rfl]
      have fx : fr blFr S S1 := f1'.mono (by simp)
      have w69 : Byt 128 (S1 0 69) u1 m1 := by rw [f1' 0 69 (by simp)]; exact b69
      have w70 : Byt 128 (S1 0 70) u2 m2 := by rw [f1' 0 70 (by simp)]; exact b70
      have w76 : Byt 64 (S1 0 76) u3 m3 := by rw [f1' 0 76 (by simp)]; exact b76
      have k5 : S1 5 j = S 5 j := f1' 5 j (by simp)
      rw [if_pos (show (Int32.ofNat 2) = (2 : Int32) from rfl), g16, bO_s, r6, bO_s, rcv_m hC.1, bO_s, q1, bP_s, eb]
      cases co : onC (beN (seg k.1 0 32)) (beN (seg k.1 32 32)) with
      | false =>
        rw [if_neg Bool.false_ne_true, if_pos rfl, rz0, Bool.false_and, if_neg Bool.false_ne_true]
        exact ⟨S1, V1, rfl, fx, K1, ⟨_, _, w69⟩, ⟨_, _, w70⟩, _, _, w76⟩
      | true =>
        rw [if_pos rfl, if_neg (by decide), ko_I H rfl, bO_s, k5, h5, Bool.true_and]
        cases ed : k.2.2 with
        | none =>
          rw [if_pos (by rfl), rz1]
          exact ⟨S1, V1, rfl, fx, K1, ⟨_, _, w69⟩, ⟨_, _, w70⟩, _, _, w76⟩
        | some d =>
          rw [ed] at t3
          obtain ⟨S2, V2, q2, f2, K2, x76⟩ := Q3_isPair (G := G) (F := F) (S := S1) (id_ := 18 + 3 * j) (ix := 16 + 3 * j) pr_p X hC K1 H.2.2.2.2.2.2 (by rw [f1' 0 _ (by simp)]; exact t3) (by rw [show (Option.some d).getD [] = d from rfl, l32 d ed]; decide) H.2.2.2.2.1 (by rw [f1' 0 _ (by simp)]; exact t1) (by decide) (by omega) w76
          rw [show (Option.some d).getD [] = d from rfl] at q2
          refine ⟨S2, V2, ?_, fx.trans (f2.mono (by simp)), K2, ⟨_, _, by rw [f2 0 69 (by simp)]; exact w69⟩, ⟨_, _, by rw [f2 0 70 (by simp)]; exact w70⟩, x76⟩
          rw [if_neg (show ¬ (if (some d).isSome = true then (1 : Int32) else 0) = 0 by rw [if_pos (show (some d).isSome = true from rfl)]; decide), g16, bO_s, r8, bO_s, r6, bO_s, rcv_m hC.1, bO_s, q2, bP_s]
          show _ = some (if pairF d k.1 = true then 1 else 0, mem W S2)
          cases pairF d k.1 <;> rfl
    · rw [if_neg (show ¬ (Int32.ofNat kd) = (2 : Int32) from fun q => e2 ((n_eq (b := 2) (by omega) (by omega)).mp q)), rz1]
      exact stay _ true rfl (by unfold blF; rw [if_neg e1, if_neg e2])
end BLG
