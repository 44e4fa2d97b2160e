/-! THE CALLS hash AND code OF THE CLASS; what is refused -/
section HASH
variable {W : WR} {G : mG} {F : Nat} {S : ST} {t u v : List UInt8} {l l2 l3 : Bool}
theorem Q11_hash {r : Nat} {wide : Bool} (X : Cx G F W) (h : isT W) (hd : isD W) (h12 : W.r 11 0 12 = some (.o 4 0)) (hr : r < 8) (hs : Byt 8192 (S 0 9) t l) (hb : Byt 8192 (S 0 r) u l2) : ∃ S', P_X11_hash G F (W.ad (.o 11 0)) (if wide then 512 else 256) (Int32.ofNat r) (mem W S) = some ((Int32.ofNat (sha wide u).length), mem W S') ∧ fr [(4, 0), (0, 9)] S S' ∧ Byt 8192 (S' 0 9) (sha wide u) false := by
  have hul := hb.le
  have hin := h.rb r hr
  have main : ∃ S', B_X11_hash_14 G F (W.ad (.o 11 0)) (if wide then 512 else 256) (Int32.ofNat r) (mem W S) = some ((Int32.ofNat (sha wide u).length), mem W S') ∧ fr [(4, 0), (0, 9)] S S' ∧ Byt 8192 (S' 0 9) (sha wide u) false := by
    unfold B_X11_hash_14
    obtain ⟨o1, g1, d1, a1⟩ := Q4_start (S := S) (wide := wide) X hd
    rw [rcv_m h.lo, bO_s, Q11_isRow, bP_s, isr_i hr, if_neg (by decide), h.gR rfl h12, bO_s, rcv_m hd.1, bO_s, g1, bO_s, h.gR rfl h12, bO_s, h.gR rfl h.ra, bO_s, h.row hr, bO_s, bO_s, h.row hr, bO_s, hin.gI 1 rfl, bO_s, rcv_m hd.1, bO_s, so_ne (by omega), hb.many]
    obtain ⟨o2, g2, d2, a2⟩ := Q4_add (S := S.so 4 0 o1) (k := 0) (stop := u.length) (xs := u) X hd hin (by omega) (by omega) (by omega) (by rw [so_ne (by omega)]; exact hb) (by rw [so_eq]; exact d1) (by decide)
    rw [so_so] at g2
    rw [List.nil_append, List.drop_zero, Nat.sub_zero, List.take_length] at d2
    have g2' : P_X4_add G F (W.ad (.o 4 0)) (W.ad (.o 0 r)) 0 (Int32.ofNat u.length) (mem W (S.so 4 0 o1)) = some (mem W (S.so 4 0 o2)) := g2
    rw [g2', bO_s, h.gR rfl h.shown, bO_s, rcv_m h.sb.lo, bO_s]
    obtain ⟨o3, g3, b3⟩ := Q0_clear (G := G) (F := F) (S := S.so 4 0 o2) h.sb (by rw [so_ne (by omega)]; exact hs)
    rw [g3, bO_s, h.gR rfl h12, bO_s, h.gR rfl h.shown, bO_s, rcv_m hd.1, bO_s]
    obtain ⟨S4, g4, f4, d4, a4, b4⟩ := Q4_finish (S := (S.so 4 0 o2).so 0 9 o3) (i := 9) (xs := []) (lost := false) X hd h.sb (by rw [so_ne (by omega), so_eq]; exact d2) (by omega) (by rw [so_eq]; exact b3)
    have hsl := sha64 wide u
    rw [tkl_fit (by simp; omega), lsl_fit (by simp; omega), List.nil_append] at b4
    rw [g4, bO_s, h.gR rfl h.shown, bO_s, h.sb.gI 1 rfl, bO_s, b4.many]
    exact ⟨S4, rfl, ((fr_so (by simp)).trans (fr_so (by simp))).trans f4, b4⟩
  unfold P_X11_hash
  cases wide
  · rw [if_pos (by rfl)]; exact main
  · rw [if_neg (by decide), if_pos (by rfl)]; exact main
theorem Q11_code {r rk : Nat} {wide : Bool} {ys : List UInt8} {l4 : Bool} (X : Cx G F W) (h : isT W) (hd : isD W) (h12 : W.r 11 0 12 = some (.o 4 0)) (hr : r < 8) (hrk : rk < 8) (hs : Byt 8192 (S 0 9) t l) (hb : Byt 8192 (S 0 r) u l2) (hk : Byt 8192 (S 0 rk) v l3) (hi : Byt 64 (S 0 67) ys l4) : ∃ S', P_X11_code G F (W.ad (.o 11 0)) (if wide then 512 else 256) (Int32.ofNat rk) (Int32.ofNat r) (mem W S) = some ((Int32.ofNat (hmac wide v u).length), mem W S') ∧ fr [(4, 0), (0, 67), (0, 9)] S S' ∧ Byt 8192 (S' 0 9) (hmac wide v u) false ∧ ∃ ys l, Byt 64 (S' 0 67) ys l := by
  have hul := hb.le
  have hvl := hk.le
  have hin := h.rb r hr
  have hink := h.rb rk hrk
  have hb128 : bb wide ≤ 128 := by cases wide <;> decide
  have main : ∃ S', B_X11_code_14 G F (W.ad (.o 11 0)) (if wide then 512 else 256) (Int32.ofNat rk) (Int32.ofNat r) (mem W S) = some ((Int32.ofNat (hmac wide v u).length), mem W S') ∧ fr [(4, 0), (0, 67), (0, 9)] S S' ∧ Byt 8192 (S' 0 9) (hmac wide v u) false ∧ ∃ ys l, Byt 64 (S' 0 67) ys l := by
    unfold B_X11_code_14
    rw [rcv_m h.lo, bO_s, Q11_isRow, bP_s, isr_i hrk, if_neg (by decide), rcv_m h.lo, bO_s, Q11_isRow, bP_s, isr_i hr, if_neg (by decide), h.gR rfl h12, bO_s, h.gR rfl h.ra, bO_s, h.row hrk, bO_s, bO_s, h.row hrk, bO_s, hink.gI 1 rfl, bO_s, rcv_m hd.1, bO_s, hk.many]
    obtain ⟨S1, g1, f1, d1, k1, ys1, l1, i1⟩ := Q4_startCode (S := S) (wide := wide) (i := rk) (start := 0) (stop := v.length) (xs := v) X hd hink (by omega) (by omega) (by omega) (by omega) hk hi
    rw [List.drop_zero, Nat.sub_zero, List.take_length] at d1 k1
    have g1' : P_X4_startCode G F (W.ad (.o 4 0)) (if wide then 512 else 256) (W.ad (.o 0 rk)) 0 (Int32.ofNat v.length) (mem W S) = some (mem W S1) := g1
    have hb1 : Byt 8192 (S1 0 r) u l2 := by rw [f1 0 r (by simp; omega)]; exact hb
    rw [g1', bO_s, h.gR rfl h12, bO_s, h.gR rfl h.ra, bO_s, h.row hr, bO_s, bO_s, h.row hr, bO_s, hin.gI 1 rfl, bO_s, rcv_m hd.1, bO_s, hb1.many]
    obtain ⟨o2, g2, d2, a2⟩ := Q4_add (S := S1) (k := 0) (stop := u.length) (xs := u) X hd hin (by omega) (by omega) (by omega) hb1 d1 (by rw [xk_len]; omega)
    rw [List.drop_zero, Nat.sub_zero, List.take_length] at d2
    have g2' : P_X4_add G F (W.ad (.o 4 0)) (W.ad (.o 0 r)) 0 (Int32.ofNat u.length) (mem W S1) = some (mem W (S1.so 4 0 o2)) := g2
    rw [g2', bO_s, h.gR rfl h.shown, bO_s, rcv_m h.sb.lo, bO_s]
    obtain ⟨o3, g3, b3⟩ := Q0_clear (G := G) (F := F) (S := S1.so 4 0 o2) h.sb (by rw [so_ne (by omega), f1 0 9 (by simp)]; exact hs)
    rw [g3, bO_s, h.gR rfl h12, bO_s, h.gR rfl h.shown, bO_s, rcv_m hd.1, bO_s]
    obtain ⟨S4, g4, f4, b4, i4⟩ := Q4_finishCode (S := (S1.so 4 0 o2).so 0 9 o3) (i := 9) (xs := []) (l1 := false) (key := v) (msg := u) X hd h.sb (by omega) (by rw [so_ne (by omega), so_eq]; exact d2) (by omega) (fun t ht => by rw [so_ne (by omega), so_eq, a2.2.2.1 9 (by decide)]; exact k1 t ht) (by rw [so_eq]; exact b3) (by rw [so_ne (by omega), so_ne (by omega)]; exact i1)
    have hsl : (hmac wide v u).length ≤ 64 := sha64 wide _
    rw [tkl_fit (by simp; omega), lsl_fit (by simp; omega), List.nil_append] at b4
    rw [g4, bO_s, h.gR rfl h.shown, bO_s, h.sb.gI 1 rfl, bO_s, b4.many]
    exact ⟨S4, rfl, (((f1.mono (by simp)).trans (fr_so (by simp))).trans (fr_so (by simp))).trans (f4.mono (by simp)), b4, i4⟩
  unfold P_X11_code
  cases wide
  · rw [if_pos (by rfl)]; exact main
  · rw [if_neg (by decide), if_pos (by rfl)]; exact main
theorem hash_bad {b x : Int32} (a : Nat) (M : mM) (ha : rcv M a 11 = some ()) (hx : ¬ (b = 256 ∨ b = 512) ∨ isr x = false) : P_X11_hash G F a b x M = some (-2, M) := by
  unfold P_X11_hash
  rcases hx with hx | hx
  · rw [if_neg (fun q => hx (.inl q)), if_neg (fun q => hx (.inr q))]
  · have e : B_X11_hash_14 G F a b x M = some (-2, M) := by
      unfold B_X11_hash_14
      rw [ha, bO_s, Q11_isRow, bP_s, hx, if_pos (by rfl)]
    rw [e]
    split
    · rfl
    · split <;> rfl
theorem mhash_bad {b x : Int32} (a : Nat) (M : mM) (hx : ¬ (b = 256 ∨ b = 512) ∨ isr x = false) : P_X13_hash G F a b x M = some (-2, M) := by
  unfold P_X13_hash
  rcases hx with hx | hx
  · rw [if_neg (fun q => hx (.inl q)), if_neg (fun q => hx (.inr q))]
  · have e : B_X13_hash_14 G F a b x M = some (-2, M) := by
      unfold B_X13_hash_14
      rw [Q13_isRow, bP_s, hx, if_pos (by rfl)]
    rw [e]
    split
    · rfl
    · split <;> rfl
theorem code_bad {b x y : Int32} (a : Nat) (M : mM) (ha : rcv M a 11 = some ()) (hx : ¬ (b = 256 ∨ b = 512) ∨ isr x = false ∨ isr y = false) : P_X11_code G F a b x y M = some (-2, M) := by
  unfold P_X11_code
  rcases hx with hx | hx
  · rw [if_neg (fun q => hx (.inl q)), if_neg (fun q => hx (.inr q))]
  · have e : B_X11_code_14 G F a b x y M = some (-2, M) := by
      unfold B_X11_code_14
      rw [ha, bO_s, Q11_isRow, bP_s]
      cases hq : isr x
      · rw [if_pos (by rfl)]
      · rw [if_neg (by decide), ha, bO_s, Q11_isRow, bP_s, (hx.resolve_left (by rw [hq]; decide)), if_pos (by rfl)]
    rw [e]
    split
    · rfl
    · split <;> rfl
theorem mcode_bad {b x y : Int32} (a : Nat) (M : mM) (hx : ¬ (b = 256 ∨ b = 512) ∨ isr x = false ∨ isr y = false) : P_X13_code G F a b x y M = some (-2, M) := by
  unfold P_X13_code
  rcases hx with hx | hx
  · rw [if_neg (fun q => hx (.inl q)), if_neg (fun q => hx (.inr q))]
  · have e : B_X13_code_14 G F a b x y M = some (-2, M) := by
      unfold B_X13_code_14
      rw [Q13_isRow, bP_s]
      cases hq : isr x
      · rw [if_pos (by rfl)]
      · rw [if_neg (by decide), Q13_isRow, bP_s, (hx.resolve_left (by rw [hq]; decide)), if_pos (by rfl)]
    rw [e]
    split
    · rfl
    · split <;> rfl
end HASH
