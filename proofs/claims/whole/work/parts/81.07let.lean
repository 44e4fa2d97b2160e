/-! LETTERS FOR BYTES -/
def ltr (n : Nat) : UInt8 := (str 15).getD n 0
theorem ltr_ok : ∀ k, k < 64 → lo8 ((mbyt.getD 15 []).getD k 0) = ltr k := by decide +kernel
/-- letters, with b bits left over (0, 2, 4) that say r -/
def encL : Nat → Nat → List UInt8 → List UInt8
  | b, r, [] => if b = 0 then [] else [ltr (r * 2 ^ (6 - b))]
  | b, r, x :: xs => if b = 4 then ltr ((r * 256 + x.toNat) / 64 % 64) :: ltr ((r * 256 + x.toNat) % 64) :: encL 0 0 xs else ltr ((r * 256 + x.toNat) / 2 ^ (b + 2) % 64) :: encL (b + 2) ((r * 256 + x.toNat) % 2 ^ (b + 2)) xs
section LETTERS
variable {W : WR} {S : ST} {G : mG} {F i room : Nat} {xs : List UInt8} {lost : Bool} {i2 room2 : Nat} {ys : List UInt8} {lost2 : Bool}
theorem bits6' : ∀ b, b < 13 → 6 ≤ b → (Int32.ofNat b) + (-6) = (Int32.ofNat (b - 6)) ∧ ((Int32.ofNat b) - 6) &&& 31 = (Int32.ofNat (b - 6)) := by decide +kernel
theorem bits6 (b : Nat) (h1 : 6 ≤ b) (h2 : b < 13) : (Int32.ofNat b) + (-6) = (Int32.ofNat (b - 6)) ∧ ((Int32.ofNat b) - 6) &&& 31 = (Int32.ofNat (b - 6)) := bits6' b h2 h1
theorem Q0_let_in {r9 : Nat → Nat → Int32 → Int32 → Int32 → Int32 → mM → Option mM} {h b n a2 : Nat} {st k : Int32} (X : Cx G F W) (hB : isB W i room) (hb : Byt room (S 0 i) xs lost) (hh : h < 65536) (h6 : 6 ≤ b) (h13 : b < 13) : ∃ o, B_X0_putLetters_35 G F r9 (n + 1) (W.ad (.o 0 i)) a2 st (Int32.ofNat h) (Int32.ofNat b) k (mem W S) = B_X0_putLetters_35 G F r9 n (W.ad (.o 0 i)) a2 st (Int32.ofNat h) (Int32.ofNat (b - 6)) k (mem W (S.so 0 i o)) ∧ Byt room o (tkl room xs [ltr (h / 2 ^ (b - 6) % 64)]) (lsl room xs [ltr (h / 2 ^ (b - 6) % 64)] lost) := by
  obtain ⟨-, v, -, h3, -⟩ := X.ro.1.1 15 (by decide)
  have e3 : rcs G (G.1 15) = some () := by simp [rcs, h3]
  have hl : (mbyt.getD 15 []).length = 64 := by decide +kernel
  have hk : h / 2 ^ (b - 6) % 64 < 64 := Nat.mod_lt _ (by decide)
  obtain ⟨o, h1, h2⟩ := Q0_put1 (G := G) (F := F) (x := (mbyt.getD 15 []).getD (h / 2 ^ (b - 6) % 64) 0) hB hb
  rw [ltr_ok _ hk] at h2
  refine ⟨o, ?_, h2⟩
  have e4 : ((Int32.ofNat h) >>> (((Int32.ofNat b) - 6) &&& 31)) &&& 63 = (Int32.ofNat (h / 2 ^ (b - 6) % 64)) := by
    rw [(bits6 b h6 h13).2, n_shr (by omega) (by omega), lit 63, n_and, and_mask _ 6]
  rw [B_X0_putLetters_35, if_neg (by rw [lit 6, n_lt (by omega) (by omega)]; omega), e3, bO_s, e4, QJ_charAt X (by decide) (by omega), bP_s, rcv_m hB.lo, bO_s, h1, bO_s, (bits6 b h6 h13).1]
theorem Q0_let_out {r9 : Nat → Nat → Int32 → Int32 → Int32 → Int32 → mM → Option mM} {b n a1 a2 : Nat} {st h k : Int32} {M : mM} (h6 : b < 6) : B_X0_putLetters_35 G F r9 (n + 1) a1 a2 st h (Int32.ofNat b) k M = r9 a1 a2 st h (Int32.ofNat b) (k + 1) M := by
  rw [B_X0_putLetters_35, if_pos (by rw [lit 6, n_lt (by omega) (by omega)]; omega)]
theorem or_byte {a : Nat} (x : UInt8) : a * 2 ^ 8 ||| x.toNat = a * 256 + x.toNat := by
  have hx := x.toNat_lt
  rw [Nat.mul_comm a, ← Nat.two_pow_add_eq_or_of_lt (by omega)]
theorem bits_add8 : ∀ b, b < 5 → (Int32.ofNat b) + 8 = (Int32.ofNat (b + 8)) := by decide +kernel
theorem Q0_putLetters_l {stop : Nat} (X : Cx G F W) (hB : isB W i room) (hB2 : isB W i2 room2) (hne : i2 ≠ i) (hst : stop < 2 ^ 31) (hsy : stop ≤ ys.length) : ∀ (m k n h b : Nat) (S : ST) (xs : List UInt8) (lost : Bool), m < n → k + m = stop → h < 65536 → (b = 0 ∨ b = 2 ∨ b = 4) → Byt room (S 0 i) xs lost → Byt room2 (S 0 i2) ys lost2 → ∃ o, B_X0_putLetters_9 G F n (W.ad (.o 0 i)) (W.ad (.o 0 i2)) (Int32.ofNat stop) (Int32.ofNat h) (Int32.ofNat b) (Int32.ofNat k) (mem W S) = some (mem W (S.so 0 i o)) ∧ Byt room o (tkl room xs (encL b (h % 2 ^ b) ((ys.drop k).take m))) (lsl room xs (encL b (h % 2 ^ b) ((ys.drop k).take m)) lost) := by
  obtain ⟨-, v, -, h3, -⟩ := X.ro.1.1 15 (by decide)
  have e3 : rcs G (G.1 15) = some () := by simp [rcs, h3]
  have hl : (mbyt.getD 15 []).length = 64 := by decide +kernel
  have hF := X.hF
  intro m
  induction m with
  | zero =>
    intro k n h b S xs lost hn hk hh hbb hb hb2
    obtain ⟨n, rfl⟩ : ∃ q, n = q + 1 := ⟨n - 1, by omega⟩
    rw [B_X0_putLetters_9, if_pos ((n_le (by omega) (by omega)).mpr (by omega)), List.take_zero, encL]
    by_cases h0 : b = 0
    · subst h0
      rw [if_pos (by decide), if_pos rfl]
      exact ⟨S 0 i, by rw [so_self], by rw [tkl_nil hb.le, lsl_nil hb.le]; exact hb⟩
    · have hr : h % 2 ^ b * 2 ^ (6 - b) < 64 := by
        rcases hbb with rfl | rfl | rfl <;> omega
      obtain ⟨o, h1, h2⟩ := Q0_put1 (G := G) (F := F) (x := (mbyt.getD 15 []).getD (h % 2 ^ b * 2 ^ (6 - b)) 0) hB hb
      rw [ltr_ok _ hr] at h2
      have e4 : ((Int32.ofNat h) <<< ((6 - (Int32.ofNat b)) &&& 31)) &&& 63 = (Int32.ofNat (h % 2 ^ b * 2 ^ (6 - b))) := by
        have e5 : ∀ b, b < 6 → (6 - (Int32.ofNat b)) &&& 31 = (Int32.ofNat (6 - b)) := by decide +kernel
        rw [e5 b (by omega), n_shl (by omega), lit 63, n_and, and_mask _ 6]
        congr 1
        rcases hbb with rfl | rfl | rfl <;> omega
      rw [if_neg (by rw [z32, n_le (by omega) (by omega)]; omega), if_neg h0, e3, bO_s, e4, QJ_charAt X (by decide) (by omega), bP_s, rcv_m hB.lo, bO_s, h1, bO_s]
      exact ⟨o, rfl, h2⟩
  | succ m ih =>
    intro k n h b S xs lost hn hk hh hbb hb hb2
    obtain ⟨n, rfl⟩ : ∃ q, n = q + 1 := ⟨n - 1, by omega⟩
    obtain ⟨F', hF'⟩ : ∃ q, F = q + 1 + 1 + 1 := ⟨F - 3, by omega⟩
    have hky : k < ys.length := by omega
    have e1 : (ys.drop k).take (m + 1) = ys[k] :: (ys.drop (k + 1)).take m := by
      rw [List.drop_eq_getElem_cons hky, List.take_succ_cons]
    have hx := ys[k].toNat_lt
    rw [B_X0_putLetters_9, if_neg (by rw [n_le (by omega) (by omega)]; omega), rcv_m hB2.lo, bO_s, Q0_get hB2 hb2 (by omega), bP_s, gB_lt hky, e1, encL]
    have e2 : (((Int32.ofNat h) <<< ((8 : Int32) &&& 31)) ||| b32 ys[k]) &&& 65535 = (Int32.ofNat ((h * 256 + ys[k].toNat) % 65536)) := by
      have e5 : (8 : Int32) &&& 31 = (Int32.ofNat 8) := by decide
      rw [e5, n_shl (by decide), b32, n_or, or_byte, lit 65535, n_and, and_mask _ 16]
    rw [e2, bits_add8 b (by omega)]
    have hh2 : (h * 256 + ys[k].toNat) % 65536 < 65536 := Nat.mod_lt _ (by decide)
    obtain ⟨H, hH⟩ : ∃ H, (h * 256 + ys[k].toNat) % 65536 = H := ⟨_, rfl⟩
    rw [hH] at hh2 ⊢
    obtain ⟨o1, g1, b1⟩ := Q0_let_in (r9 := B_X0_putLetters_9 G F n) (n := F' + 1 + 1) (b := b + 8) (h := H) (k := (Int32.ofNat k)) (st := (Int32.ofNat stop)) (a2 := W.ad (.o 0 i2)) X hB hb hh2 (by omega) (by omega)
    have eF : B_X0_putLetters_35 G F (B_X0_putLetters_9 G F n) F = B_X0_putLetters_35 G F (B_X0_putLetters_9 G F n) (F' + 1 + 1 + 1) := by rw [← hF']
    rw [eF, g1]
    have b1' : Byt room ((S.so 0 i o1) 0 i) (tkl room xs [ltr (H / 2 ^ (b + 8 - 6) % 64)]) (lsl room xs [ltr (H / 2 ^ (b + 8 - 6) % 64)] lost) := by
      rw [so_eq]
      exact b1
    have c2 : ∀ o, (S.so 0 i o) 0 i2 = S 0 i2 := fun o => so_ne (fun q => hne q.2)
    by_cases h4 : b = 4
    · subst h4
      rw [if_pos rfl]
      obtain ⟨o2, g2, b2⟩ := Q0_let_in (S := S.so 0 i o1) (r9 := B_X0_putLetters_9 G F n) (n := F' + 1) (b := 6) (h := H) (k := (Int32.ofNat k)) (st := (Int32.ofNat stop)) (a2 := W.ad (.o 0 i2)) X hB b1' hh2 (by omega) (by omega)
      rw [show (4 + 8 - 6 : Nat) = 6 from rfl, g2, show (6 - 6 : Nat) = 0 from rfl, Q0_let_out (by omega), o32, n_add, so_so]
      obtain ⟨o3, g3, b3⟩ := ih (k + 1) n H 0 (S.so 0 i o2) _ _ (by omega) (by omega) hh2 (Or.inl rfl) (by rw [so_eq]; exact b2) (by rw [c2]; exact hb2)
      refine ⟨o3, by rw [g3, so_so], ?_⟩
      rw [tkl_tkl, lsl_lsl, tkl_tkl, lsl_lsl] at b3
      have q1 : H / 2 ^ (4 + 8 - 6) % 64 = (h % 2 ^ 4 * 256 + ys[k].toNat) / 64 % 64 := by omega
      have q2 : H / 2 ^ (6 - 6) % 64 = (h % 2 ^ 4 * 256 + ys[k].toNat) % 64 := by omega
      rw [q1, q2, Nat.pow_zero, Nat.mod_one] at b3
      exact b3
    · rw [if_neg h4]
      rw [show b + 8 - 6 = b + 2 from by omega, Q0_let_out (by omega), o32, n_add]
      obtain ⟨o3, g3, b3⟩ := ih (k + 1) n H (b + 2) (S.so 0 i o1) _ _ (by omega) (by omega) hh2 (by omega) (by rw [so_eq]; exact b1) (by rw [c2]; exact hb2)
      refine ⟨o3, by rw [g3, so_so], ?_⟩
      rw [tkl_tkl, lsl_lsl] at b3
      have q1 : H / 2 ^ (b + 8 - 6) % 64 = (h % 2 ^ b * 256 + ys[k].toNat) / 2 ^ (b + 2) % 64 := by
        rcases hbb with rfl | rfl | rfl <;> omega
      have q2 : H % 2 ^ (b + 2) = (h % 2 ^ b * 256 + ys[k].toNat) % 2 ^ (b + 2) := by
        rcases hbb with rfl | rfl | rfl <;> omega
      rw [q1, q2] at b3
      exact b3
theorem Q0_putLetters {st stop : Nat} (X : Cx G F W) (hB : isB W i room) (hb : Byt room (S 0 i) xs lost) (hB2 : isB W i2 room2) (hb2 : Byt room2 (S 0 i2) ys lost2) (hne : i2 ≠ i) (h1 : st ≤ stop) (h2 : stop ≤ ys.length) (h3 : stop < 90000) : ∃ o, P_X0_putLetters G F (W.ad (.o 0 i)) (W.ad (.o 0 i2)) (Int32.ofNat st) (Int32.ofNat stop) (mem W S) = some (mem W (S.so 0 i o)) ∧ Byt room o (tkl room xs (encL 0 0 ((ys.drop st).take (stop - st)))) (lsl room xs (encL 0 0 ((ys.drop st).take (stop - st))) lost) := by
  have := X.hF
  exact Q0_putLetters_l (lost2 := lost2) X hB hB2 hne (by omega) h2 (stop - st) st F 0 0 S xs lost (by omega) (by omega) (by omega) (Or.inl rfl) hb hb2
theorem Q0_putLetterPart {st stop : Nat} (X : Cx G F W) (hB : isB W i room) (hb : Byt room (S 0 i) xs lost) (hB2 : isB W i2 room2) (hb2 : Byt room2 (S 0 i2) ys lost2) (hne : i2 ≠ i) (h1 : st ≤ stop) (h2 : stop ≤ ys.length) (h3 : stop < 90000) : ∃ o, P_X0_putLetterPart G F (W.ad (.o 0 i)) (W.ad (.o 0 i2)) (Int32.ofNat st) (Int32.ofNat stop) (mem W S) = some (mem W (S.so 0 i o)) ∧ Byt room o (tkl room xs (46 :: encL 0 0 ((ys.drop st).take (stop - st)))) (lsl room xs (46 :: encL 0 0 ((ys.drop st).take (stop - st))) lost) := by
  obtain ⟨o1, g1, b1⟩ := Q0_put1 (G := G) (F := F) (x := 46) hB hb
  obtain ⟨o2, g2, b2⟩ := Q0_putLetters (S := S.so 0 i o1) X hB (by rw [so_eq]; exact b1) hB2 (by rw [so_ne (fun q => hne q.2)]; exact hb2) hne h1 h2 h3
  refine ⟨o2, ?_, ?_⟩
  · simp only [P_X0_putLetterPart, rcv_m hB.lo, bO_s, g1, g2, so_so]
  · rw [tkl_tkl, lsl_lsl] at b2
    exact b2
end LETTERS
