/-! A PLACE FOR A KEY: the model -/
section MSL
variable {W : WR} {G : mG} {F : Nat} {S : ST} {bk : Nat} {o : Ob} {A : Nat → Option KY}
theorem KM.th (K : KM o A) {k : Nat} (hk : k < 16) : o.a 83 k = if (A k).isSome = true then 1 else 0 := by
  obtain ⟨α85, α87, α89, α92, α94, b, q⟩ := K
  have q := q k hk
  cases e : A k with
  | none => rw [e] at q; rw [q.1]; rfl
  | some K => rw [e] at q; rw [q.1]; rfl
theorem oM_a83 (h : isM W) {k : Nat} (hk : k < 16) : aI G (mem W (S.so 13 0 o)) 3 (W.ad (.a 13 0 83)) (Int32.ofNat k) = some (o.a 83 k) := by
  rw [aI_m (h.la 83 (by decide)) rfl (by decide) (by decide) (by rw [h.n 83 (by decide)]; exact inB_n hk (by decide)), n_at (by omega), so_eq]
theorem oM_453 {kd : Int32} (h : isM W) (K : KM o A) : ∀ (m k fuel : Nat), m < fuel → k + m = 16 → B_X13_key_453 G F fuel (W.ad (.o 13 0)) (Int32.ofNat bk) kd (Int32.ofNat k) (mem W (S.so 13 0 o)) = match fnF (fun q => (A q).isNone) m k with | none => some (-17, mem W (S.so 13 0 o)) | some q => bO (P_X13_keepKey G F (W.ad (.o 13 0)) (Int32.ofNat q) kd (Int32.ofNat bk) (mem W (S.so 13 0 o))) fun M => some ((Int32.ofNat q), M) := by
  intro m
  induction m with
  | zero =>
    intro k fuel hf hk
    obtain ⟨fuel, rfl⟩ : ∃ q, fuel = q + 1 := ⟨fuel - 1, by omega⟩
    have hk : k = 16 := by omega
    subst hk
    rw [B_X13_key_453, if_pos (show (16 : Int32) ≤ (Int32.ofNat 16) by decide), if_pos (show (Int32.ofNat 16) = (16 : Int32) from rfl)]
    rfl
  | succ m ih =>
    intro k fuel hf hk
    obtain ⟨fuel, rfl⟩ : ∃ q, fuel = q + 1 := ⟨fuel - 1, by omega⟩
    have hk16 : k < 16 := by omega
    rw [B_X13_key_453, if_neg (show ¬ (16 : Int32) ≤ (Int32.ofNat k) from fun q => by have := (n_le (a := 16) (b := k) (by omega) (by omega)).mp q; omega), h.gR 83 rfl (by decide), bO_s, oM_a83 h hk16, bO_s, K.th hk16]
    show _ = match (if (A k).isNone = true then some k else fnF (fun q => (A q).isNone) m (k + 1)) with | none => _ | some q => _
    cases e : A k with
    | some K2 =>
      rw [if_neg (show ¬ (if (some K2 : Option KY).isSome = true then (1 : Int32) else 0) = 0 by rw [if_pos (show (some K2 : Option KY).isSome = true from rfl)]; decide), if_neg (show ¬ (some K2 : Option KY).isNone = true by simp), n_i1]
      exact ih (k + 1) fuel (by omega) (by omega)
    | none =>
      rw [if_pos (show (if (none : Option KY).isSome = true then (1 : Int32) else 0) = 0 by rfl), if_pos (show (none : Option KY).isNone = true from rfl), if_neg (show ¬ (Int32.ofNat k) = (16 : Int32) from fun q => by have := (n_eq (b := 16) (by omega) (by omega)).mp q; omega), rcv_m h.lo, bO_s]
/-- is there such a key? -/
theorem oM_isKey (h : isM W) (K : KM o A) (x : Int32) : P_X13_isKey G F (W.ad (.o 13 0)) x (mem W (S.so 13 0 o)) = some (if isk A x = true then 1 else 0, mem W (S.so 13 0 o)) := by
  unfold P_X13_isKey
  rcases isk_cases A x with ⟨q, e⟩ | ⟨k, hk, rfl, e⟩
  · rw [e, if_neg Bool.false_ne_true]
    by_cases c : x < 0
    · rw [if_pos c, rz0]
    · rw [if_neg c, if_pos (q.resolve_left c), rz0]
  · rw [e, if_neg (nn (by omega)), if_neg (show ¬ (16 : Int32) ≤ (Int32.ofNat k) from fun q => by have := (n_le (a := 16) (b := k) (by omega) (by omega)).mp q; omega), h.gR 83 rfl (by decide), bO_s, oM_a83 h hk, bO_s, K.th hk]
    cases A k <;> rfl
end MSL
