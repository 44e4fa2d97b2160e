/-! BYTES FOR LETTERS -/
def lvI (c : Int32) : Int32 :=
  let l57 := if c = 45 then 62 else if c = 95 then 63 else -1
  let l37 := if c < 48 then l57 else if 57 < c then l57 else c - 48 + 52
  let l17 := if c < 97 then l37 else if 122 < c then l37 else c - 97 + 26
  if c < 65 then l17 else if 90 < c then l17 else c - 65
/-- what a letter stands for -/
def sv (x : UInt8) : Option Nat := if 65 ≤ x.toNat ∧ x.toNat ≤ 90 then some (x.toNat - 65) else if 97 ≤ x.toNat ∧ x.toNat ≤ 122 then some (x.toNat - 71) else if 48 ≤ x.toNat ∧ x.toNat ≤ 57 then some (x.toNat + 4) else if x.toNat = 45 then some 62 else if x.toNat = 95 then some 63 else none
def oN (o : Option Nat) : Int32 := match o with
  | some n => (Int32.ofNat n)
  | none => -1
theorem lv_tab : ∀ n, n < 256 → lvI (Int32.ofNat n) = oN (sv (UInt8.ofNat n)) := by decide +kernel
theorem lv_b32 (x : UInt8) : lvI (b32 x) = oN (sv x) := by
  have := lv_tab x.toNat x.toNat_lt
  rwa [UInt8.ofNat_toNat] at this
theorem sv_lt {x : UInt8} {v : Nat} (h : sv x = some v) : v < 64 := by
  unfold sv at h
  repeat' split at h
  all_goals (cases h; try omega)
theorem Q0_letterValue {G : mG} {F : Nat} {M : mM} (c : Int32) : P_X0_letterValue G F c M = some (lvI c, M) := by
  unfold P_X0_letterValue B_X0_letterValue_17 B_X0_letterValue_37 B_X0_letterValue_57 lvI
  simp only []
  repeat' split
  all_goals rfl
/-- the place of the first fault -/
def fltF (zs : List UInt8) : Option Nat := match zs.findIdx? (fun x => (sv x).isNone) with
  | some k => some k
  | none => if zs.length % 4 = 1 then some zs.length else if zs.length % 4 = 2 ∧ ((zs.getLast?.bind sv).getD 0) % 16 ≠ 0 then some (zs.length - 1) else if zs.length % 4 = 3 ∧ ((zs.getLast?.bind sv).getD 0) % 4 ≠ 0 then some (zs.length - 1) else none
/-- the bytes; b bits are left over (0, 2, 4, 6), they say r -/
def decL : Nat → Nat → List UInt8 → List UInt8
  | _, _, [] => []
  | b, r, x :: xs => if b = 0 then decL 6 ((r * 64 + (sv x).getD 0) % 64) xs else UInt8.ofNat ((r * 64 + (sv x).getD 0) / 2 ^ (b - 2)) :: decL (b - 2) ((r * 64 + (sv x).getD 0) % 2 ^ (b - 2)) xs
theorem lo8_n (n : Nat) : lo8 (Int32.ofNat n) = UInt8.ofNat n := by
  apply UInt8.toNat_inj.mp
  show ((Int32.ofNat n)).toBitVec.toNat % 256 = _
  rw [bv_of, BitVec.toNat_ofNat, UInt8.toNat_ofNat']
  omega
section UNLET
variable {W : WR} {S : ST} {G : mG} {F i room : Nat} {xs : List UInt8} {lost : Bool} {i2 room2 : Nat} {ys : List UInt8} {lost2 : Bool}
theorem or_six {a v : Nat} (hv : v < 64) : a * 2 ^ 6 ||| v = a * 64 + v := by
  rw [Nat.mul_comm a, ← Nat.two_pow_add_eq_or_of_lt (by omega)]
theorem bits_add6 : ∀ b, b < 7 → (Int32.ofNat b) + 6 = (Int32.ofNat (b + 6)) := by decide +kernel
theorem bits_m8 : ∀ b, b < 5 → (((Int32.ofNat (b + 2)) + 6) + (-8)) &&& 31 = (Int32.ofNat b) ∧ (((Int32.ofNat (b + 2)) + 6) + (-8)) = (Int32.ofNat b) := by decide +kernel
theorem Q0_putUn_l {stop : Nat} (X : Cx G F W) (hB : isB W i room) (hB2 : isB W i2 room2) (hne : i2 ≠ i) (hst : stop < 2 ^ 31) (hsy : stop ≤ ys.length) : ∀ (m k n h b : Nat) (S : ST) (xs : List UInt8) (lost : Bool), m < n → k + m = stop → h < 65536 → (b = 0 ∨ b = 2 ∨ b = 4 ∨ b = 6) → (∀ x ∈ (ys.drop k).take m, sv x ≠ none) → Byt room (S 0 i) xs lost → Byt room2 (S 0 i2) ys lost2 → ∃ o, B_X0_putUnlettered_9 G F n (W.ad (.o 0 i)) (W.ad (.o 0 i2)) (Int32.ofNat stop) (Int32.ofNat h) (Int32.ofNat b) (Int32.ofNat k) (mem W S) = some (mem W (S.so 0 i o)) ∧ Byt room o (tkl room xs (decL b (h % 2 ^ b) ((ys.drop k).take m))) (lsl room xs (decL b (h % 2 ^ b) ((ys.drop k).take m)) lost) := by
  have hF := X.hF
  intro m
  induction m with
  | zero =>
    intro k n h b S xs lost hn hk hh hbb hall hb hb2
    obtain ⟨n, rfl⟩ : ∃ q, n = q + 1 := ⟨n - 1, by omega⟩
    rw [B_X0_putUnlettered_9, if_pos ((n_le (by omega) (by omega)).mpr (by omega)), List.take_zero, decL]
    exact ⟨S 0 i, by rw [so_self], by rw [tkl_nil hb.le, lsl_nil hb.le]; exact hb⟩
  | succ m ih =>
    intro k n h b S xs lost hn hk hh hbb hall hb hb2
    obtain ⟨n, rfl⟩ : ∃ q, n = q + 1 := ⟨n - 1, by omega⟩
    have hky : k < ys.length := by omega
    have e1 : (ys.drop k).take (m + 1) = ys[k] :: (ys.drop (k + 1)).take m := by
      rw [List.drop_eq_getElem_cons hky, List.take_succ_cons]
    rw [e1] at hall
    have hs0 := hall ys[k] List.mem_cons_self
    obtain ⟨v, hv⟩ : ∃ v, sv ys[k] = some v := by
      cases hq : sv ys[k] with
      | none => exact absurd hq hs0
      | some v => exact ⟨v, rfl⟩
    have hv64 := sv_lt hv
    have hall' : ∀ x ∈ (ys.drop (k + 1)).take m, sv x ≠ none := fun x hx => hall x (List.mem_cons_of_mem _ hx)
    rw [B_X0_putUnlettered_9, if_neg (by rw [n_le (by omega) (by omega)]; omega), rcv_m hB2.lo, bO_s, Q0_get hB2 hb2 (by omega), bP_s, gB_lt hky, Q0_letterValue, bP_s, lv_b32, hv, e1, decL, hv]
    have e2 : (((Int32.ofNat h) <<< ((6 : Int32) &&& 31)) ||| oN (some v)) &&& 65535 = (Int32.ofNat ((h * 64 + v) % 65536)) := by
      have e5 : (6 : Int32) &&& 31 = (Int32.ofNat 6) := by decide
      show (((Int32.ofNat h) <<< ((6 : Int32) &&& 31)) ||| (Int32.ofNat v)) &&& 65535 = _
      rw [e5, n_shl (by decide), n_or, or_six hv64, lit 65535, n_and, and_mask _ 16]
    rw [e2]
    have hh2 : (h * 64 + v) % 65536 < 65536 := Nat.mod_lt _ (by decide)
    obtain ⟨H, hH⟩ : ∃ H, (h * 64 + v) % 65536 = H := ⟨_, rfl⟩
    rw [hH] at hh2 ⊢
    have c2 : ∀ o, (S.so 0 i o) 0 i2 = S 0 i2 := fun o => so_ne (fun q => hne q.2)
    simp only [Option.getD_some]
    by_cases h0 : b = 0
    · subst h0
      rw [if_pos (by decide), if_pos rfl, bits_add6 0 (by omega), o32, n_add]
      obtain ⟨o3, g3, b3⟩ := ih (k + 1) n H 6 S xs lost (by omega) (by omega) hh2 (by omega) hall' hb hb2
      refine ⟨o3, g3, ?_⟩
      have q2 : H % 2 ^ 6 = (h % 2 ^ 0 * 64 + v) % 64 := by omega
      rw [q2] at b3
      exact b3
    · obtain ⟨b', rfl⟩ : ∃ q, b = q + 2 := ⟨b - 2, by omega⟩
      have hb5 : b' < 5 := by omega
      rw [if_neg (by rw [bits_add6 _ (by omega), lit 8, n_lt (by omega) (by omega)]; omega), if_neg h0, rcv_m hB.lo, bO_s, (bits_m8 b' hb5).1, (bits_m8 b' hb5).2, n_shr (by omega) (by omega)]
      obtain ⟨o1, g1, b1⟩ := Q0_put1 (G := G) (F := F) (x := (Int32.ofNat (H / 2 ^ b'))) hB hb
      rw [g1, bO_s, o32, n_add]
      obtain ⟨o3, g3, b3⟩ := ih (k + 1) n H b' (S.so 0 i o1) _ _ (by omega) (by omega) hh2 (by omega) hall' (by rw [so_eq]; exact b1) (by rw [c2]; exact hb2)
      refine ⟨o3, by rw [g3, so_so], ?_⟩
      rw [tkl_tkl, lsl_lsl, lo8_n] at b3
      rw [show b' + 2 - 2 = b' from rfl]
      have q1 : UInt8.ofNat (H / 2 ^ b') = UInt8.ofNat ((h % 2 ^ (b' + 2) * 64 + v) / 2 ^ b') := by
        apply UInt8.toNat_inj.mp
        rw [UInt8.toNat_ofNat', UInt8.toNat_ofNat']
        have hbc : b' = 0 ∨ b' = 2 ∨ b' = 4 := by omega
        rcases hbc with rfl | rfl | rfl <;> omega
      have q2 : H % 2 ^ b' = (h % 2 ^ (b' + 2) * 64 + v) % 2 ^ b' := by
        have hbc : b' = 0 ∨ b' = 2 ∨ b' = 4 := by omega
        rcases hbc with rfl | rfl | rfl <;> omega
      rw [q1, q2] at b3
      exact b3
theorem Q0_putUnlettered {st stop : Nat} (X : Cx G F W) (hB : isB W i room) (hb : Byt room (S 0 i) xs lost) (hB2 : isB W i2 room2) (hb2 : Byt room2 (S 0 i2) ys lost2) (hne : i2 ≠ i) (h1 : st ≤ stop) (h2 : stop ≤ ys.length) (h3 : stop < 90000) (hall : ∀ x ∈ (ys.drop st).take (stop - st), sv x ≠ none) : ∃ o, P_X0_putUnlettered G F (W.ad (.o 0 i)) (W.ad (.o 0 i2)) (Int32.ofNat st) (Int32.ofNat stop) (mem W S) = some (mem W (S.so 0 i o)) ∧ Byt room o (tkl room xs (decL 0 0 ((ys.drop st).take (stop - st)))) (lsl room xs (decL 0 0 ((ys.drop st).take (stop - st))) lost) := by
  have := X.hF
  exact Q0_putUn_l (lost2 := lost2) X hB hB2 hne (by omega) h2 (stop - st) st F 0 0 S xs lost (by omega) (by omega) (by omega) (Or.inl rfl) hall hb hb2
end UNLET
