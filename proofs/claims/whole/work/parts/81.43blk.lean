/-! THE CALL block -/
theorem retZ1 (M : mM) : retZ 1 M = some (1, M) := rfl
theorem retZ0 (M : mM) : retZ 0 M = some (0, M) := rfl
theorem fwd_len (ks : Nat → UInt8) (nr : Nat) (s : List UInt8) : (fwd ks nr s).length = 16 := by
  have : ∀ m r (s : List UInt8), s.length = 16 → (fwdL ks nr m r s).length = 16 := by
    intro m
    induction m with
    | zero => intro r s h; exact h
    | succ m ih => intro r s h; exact ih _ _ (m16_len _)
  exact this _ _ _ (m16_len _)
theorem bck_len (ks : Nat → UInt8) (nr : Nat) (s : List UInt8) : (bck ks nr s).length = 16 := by
  have : ∀ r (s : List UInt8), (bckL ks r s).length = 16 := by
    intro r
    induction r with
    | zero => intro s; exact m16_len _
    | succ r ih => intro s; exact ih _
  exact this _ _
/-- a block, forth or back -/
def blkF (key s : List UInt8) (back : Bool) : List UInt8 := if back then bck (ksF (key.length / 4) key) (key.length / 4 + 6) s else fwd (ksF (key.length / 4) key) (key.length / 4 + 6) s
theorem blkF_len (key s : List UInt8) (back : Bool) : (blkF key s back).length = 16 := by
  unfold blkF
  cases back
  · exact fwd_len _ _ _
  · exact bck_len _ _ _
theorem list16 {s : List UInt8} {n : Nat} (h : s.length = n) (k : Nat) (hk : k ≤ n) : (s.drop k).take (n - k) = s.drop k := List.take_of_length_le (by simp; omega)
section BLK
variable {W : WR} {G : mG} {F : Nat}
theorem aB4 (h : isCi W) : aB W 1 0 4 := ⟨h.2.2.2.2.1, rfl, by decide, by decide, by decide⟩
/-- the 16 of the block go out -/
theorem Q1_pb_o {i room : Nat} {s : List UInt8} (h : isCi W) (hB : isB W i room) (hs0 : s.length = 16) : ∀ (m j n : Nat) (S : ST) (xs : List UInt8) (l : Bool), m < n → j + m = 16 → CL S 1 0 4 s → Byt room (S 0 i) xs l → ∃ o, B_X1_putBlock_55 G F n (W.ad (.o 1 0)) (W.ad (.o 0 i)) (Int32.ofNat j) (mem W S) = some (mem W (S.so 0 i o)) ∧ Byt room o (tkl room xs (s.drop j)) (lsl room xs (s.drop j) l) := by
  have h4 := h.2.2.2.2.1
  intro m
  induction m with
  | zero =>
    intro j n S xs l hn hj hs hb
    obtain ⟨n, rfl⟩ : ∃ q, n = q + 1 := ⟨n - 1, by omega⟩
    obtain rfl : j = 16 := by omega
    rw [B_X1_putBlock_55, if_pos (by decide)]
    exact ⟨S 0 i, by rw [so_self], by rw [List.drop_of_length_le (by omega), tkl_nil hb.le, lsl_nil hb.le]; exact hb⟩
  | succ m ih =>
    intro j n S xs l hn hj hs hb
    obtain ⟨n, rfl⟩ : ∃ q, n = q + 1 := ⟨n - 1, by omega⟩
    have hv : (S 1 0).a 4 j = b32 (s[j]'(by omega)) := by rw [hs j (by omega), gB_lt (by omega)]
    rw [B_X1_putBlock_55, if_neg (by rw [lit 16]; exact fun q => absurd ((n_le (by omega) (by omega)).mp q) (by omega)), h4.g h.1 rfl, bO_s, h4.ld rfl (by omega), bO_s, rcv_m hB.lo, bO_s, hv]
    obtain ⟨o, g1, g2⟩ := Q0_put1 (S := S) (x := b32 (s[j]'(by omega))) (G := G) (F := F) hB hb
    rw [g1, bO_s, n_addL j 1]
    obtain ⟨o2, g3, g4⟩ := ih (j + 1) n (S.so 0 i o) _ _ (by omega) (by omega) (fun t ht => by rw [so_ne (by omega)]; exact hs t ht) (by rw [so_eq]; exact g2)
    rw [so_so] at g3
    have el : lo8 (b32 (s[j]'(by omega))) = s[j]'(by omega) := by
      unfold b32
      rw [lo8_n, UInt8.ofNat_toNat]
    rw [tkl_tkl, lsl_lsl, el, show [s[j]'(by omega)] ++ s.drop (j + 1) = s.drop j from (List.drop_eq_getElem_cons (by omega)).symm] at g4
    exact ⟨o2, g3, g4⟩
theorem Q1_putBlock {S : ST} {i1 i2 room1 room2 nr : Nat} {ks : Nat → UInt8} {s xs : List UInt8} {l1 l2 : Bool} {back : Bool} (X : Cx G F W) (h : isCi W) (hB1 : isB W i1 room1) (hB2 : isB W i2 room2) (hs0 : s.length = 16) (hk : KS S ks nr) (hI : IB S) (hb1 : Byt room1 (S 0 i1) s l1) (hb2 : Byt room2 (S 0 i2) xs l2) : ∃ S', P_X1_putBlock G F (W.ad (.o 1 0)) (W.ad (.o 0 i1)) (if back then 1 else 0) (W.ad (.o 0 i2)) (mem W S) = some (mem W S') ∧ fr [(1, 0), (0, i2)] S S' ∧ agr [] [] [3, 4] [] (S 1 0) (S' 1 0) ∧ Byt room2 (S' 0 i2) (tkl room2 xs (if back then bck ks nr s else fwd ks nr s)) (lsl room2 xs (if back then bck ks nr s else fwd ks nr s) l2) := by
  have hF := X.hF
  have h4 := h.2.2.2.2.1
  obtain ⟨n', S1, e, a1, c1⟩ := loopS (fun n j S => B_X1_putBlock_3 G F n (W.ad (.o 1 0)) (W.ad (.o 0 i1)) (if back then 1 else 0) (W.ad (.o 0 i2)) (Int32.ofNat j) (mem W S)) (fun j S' => arF [(1, 0, 4)] S S' ∧ ∀ t, t < j → (S' 1 0).a 4 t = gB s t) 16 (by
    intro n j S1 hj hI1
    obtain ⟨i1_, i2_⟩ := hI1
    have hb : Byt room1 (S1 0 i1) s l1 := by rw [i1_.ob (c := 0) (i := i1) (by simp)]; exact hb1
    show ∃ S', B_X1_putBlock_3 G F (n + 1) _ _ _ _ _ _ = _ ∧ _
    rw [B_X1_putBlock_3, if_neg (by rw [lit 16]; exact fun q => absurd ((n_le (by omega) (by omega)).mp q) (by omega)), h4.g h.1 rfl, bO_s, rcv_m hB1.lo, bO_s, Q0_get hB1 hb (by omega), bP_s, h4.sa rfl hj, bO_s, n_addL j 1]
    refine ⟨_, rfl, i1_.trans (arF_sa (by simp)), fun t ht => ?_⟩
    rw [sa_eq]
    by_cases et : t = j
    · rw [et, upd_eq]
    · rw [upd_ne et]
      exact i2_ t (by omega)) 16 0 F S (by omega) rfl ⟨arF.refl _ _, fun t ht => absurd ht (Nat.not_lt_zero _)⟩
  have fin : ∀ (S2 : ST) (s2 : List UInt8), s2.length = 16 → arF [(1, 0, 3), (1, 0, 4)] S S2 → CL S2 1 0 4 s2 → ∃ S', B_X1_putBlock_55 G F F (W.ad (.o 1 0)) (W.ad (.o 0 i2)) 0 (mem W S2) = some (mem W S') ∧ fr [(1, 0), (0, i2)] S S' ∧ agr [] [] [3, 4] [] (S 1 0) (S' 1 0) ∧ Byt room2 (S' 0 i2) (tkl room2 xs s2) (lsl room2 xs s2 l2) := by
    intro S2 s2 hl a2 c2
    obtain ⟨o, g1, g2⟩ := Q1_pb_o (G := G) (F := F) h hB2 hl 16 0 F S2 xs l2 (by omega) rfl c2 (by rw [a2.ob (c := 0) (i := i2) (by simp)]; exact hb2)
    refine ⟨_, g1, (a2.fr (by simp)).trans (fr_so (by simp)), ?_, by rw [so_eq]; exact g2⟩
    rw [so_ne (by omega)]
    obtain ⟨x1, x2, x3, x4⟩ := a2.2 1 0
    exact ⟨fun k _ => by rw [x1], fun k _ => by rw [x2], fun k hk => a2.1 1 0 k (by simpa using hk), fun k _ => by rw [x3], x4⟩
  have e' : B_X1_putBlock_3 G F F (W.ad (.o 1 0)) (W.ad (.o 0 i1)) (if back then 1 else 0) (W.ad (.o 0 i2)) 0 (mem W S) = B_X1_putBlock_3 G F (n' + 1) (W.ad (.o 1 0)) (W.ad (.o 0 i1)) (if back then 1 else 0) (W.ad (.o 0 i2)) 16 (mem W S1) := e
  unfold P_X1_putBlock
  rw [e', B_X1_putBlock_3, if_pos (by decide)]
  have k1 := KS_ar a1 (by decide) hk
  have b1 := IB_ar a1 (by decide) hI
  cases back with
  | false =>
    rw [if_pos (by rfl), h4.g h.1 rfl, bO_s, rcv_m h.1, bO_s]
    obtain ⟨S2, g1, g2, g3⟩ := Q1_forward (S := S1) X h (aB4 h) k1 c1
    rw [g1, bO_s]
    exact fin S2 _ (fwd_len _ _ _) ((a1.mono (by decide)).trans g2) g3
  | true =>
    rw [if_neg (by decide), h4.g h.1 rfl, bO_s, rcv_m h.1, bO_s]
    obtain ⟨S2, g1, g2, g3⟩ := Q1_backward (S := S1) X h (aB4 h) k1 b1 c1
    rw [g1, bO_s]
    exact fin S2 _ (bck_len _ _ _) ((a1.mono (by decide)).trans g2) g3
/-- a cipher's key -/
def isCK (rows : Nat → List UInt8) (x : Int32) : Bool := isr x && (decide ((rows x.toNatClampNeg).length = 16) || decide ((rows x.toNatClampNeg).length = 32))
theorem Q11_isCipherKey {S : ST} {rows : Nat → List UInt8} {x : Int32} (h : isT W) (hR : ∀ r, r < 8 → ∃ l, Byt 8192 (S 0 r) (rows r) l) : P_X11_isCipherKey G F (W.ad (.o 11 0)) x (mem W S) = some (if isCK rows x then 1 else 0, mem W S) := by
  unfold P_X11_isCipherKey isCK
  rw [rcv_m h.lo, bO_s, Q11_isRow, bP_s]
  rcases isr_cases x with hx | ⟨r, hr, rfl, hx⟩
  · rw [hx, if_pos (by rfl)]
    rfl
  · obtain ⟨l, hb⟩ := hR r hr
    have hl := hb.le
    rw [hx, if_neg (by decide), h.gR rfl h.ra, bO_s, h.row hr, bO_s, (h.rb r hr).gI 1 rfl, bO_s, hb.many, n_at (by omega)]
    by_cases h16 : (rows r).length = 16
    · rw [if_pos (by rw [h16]; rfl), h16]
      rfl
    · rw [if_neg (by rw [lit 16]; exact fun q => h16 ((n_eq (by omega) (by omega)).mp q)), bO_s, h.row hr, bO_s, (h.rb r hr).gI 1 rfl, bO_s, hb.many]
      by_cases h32 : (rows r).length = 32
      · rw [if_pos (by rw [h32]; rfl), h32]
        rfl
      · rw [if_neg (by rw [lit 32]; exact fun q => h32 ((n_eq (by omega) (by omega)).mp q))]
        simp [h16, h32]
        rfl
theorem QM_isCipherKey {S : ST} {rows : Nat → List UInt8} {x : Int32} (h : isM W) (hR : mRows (S 13 0) rows) : P_X13_isCipherKey G F (W.ad (.o 13 0)) x (mem W S) = some (if isCK rows x then 1 else 0, mem W S) := by
  obtain ⟨β, r1, r2⟩ := hR
  unfold P_X13_isCipherKey isCK
  rw [Q13_isRow, bP_s]
  rcases isr_cases x with hx | ⟨r, hr, rfl, hx⟩
  · rw [hx, if_pos (by rfl)]
    rfl
  · obtain ⟨r3, r4, r5⟩ := r2 r hr
    rw [hx, if_neg (by decide), h.gR 3 rfl (by decide), bO_s, h.aN rfl (show r < 8 from hr) (by decide), bO_s, r3, n_at (by omega)]
    by_cases h16 : (rows r).length = 16
    · rw [if_pos (by rw [h16]; rfl), h16]
      rfl
    · rw [if_neg (by rw [lit 16]; exact fun q => h16 ((n_eq (by omega) (by omega)).mp q)), bO_s, h.aN rfl (show r < 8 from hr) (by decide), bO_s, r3]
      by_cases h32 : (rows r).length = 32
      · rw [if_pos (by rw [h32]; rfl), h32]
        rfl
      · rw [if_neg (by rw [lit 32]; exact fun q => h32 ((n_eq (by omega) (by omega)).mp q))]
        simp [h16, h32]
        rfl
/-- what block answers, what comes to OUT -/
def blockF (rows : Nat → List UInt8) (x y : Int32) (back : Bool) : Option (List UInt8) := if isCK rows x && (isr y && decide ((rows y.toNatClampNeg).length = 16)) then some (blkF (rows x.toNatClampNeg) (rows y.toNatClampNeg) back) else none
theorem isCK_i {rows : Nat → List UInt8} {x : Int32} (h : isCK rows x = true) : ∃ r, r < 8 ∧ x = (Int32.ofNat r) ∧ ((rows r).length = 16 ∨ (rows r).length = 32) := by
  unfold isCK at h
  rcases isr_cases x with hx | ⟨r, hr, rfl, hx⟩
  · rw [hx] at h; simp at h
  · rw [n_at (by omega), hx] at h
    simp at h
    exact ⟨r, hr, rfl, h⟩
theorem Q11_block {S : ST} {rows : Nat → List UInt8} {t : List UInt8} {l : Bool} {x y bk : Int32} {back : Bool} (hbk0 : bk = if back then 1 else 0) (X : Cx G F W) (h : isT W) (hc : isCi W) (h13 : W.r 11 0 13 = some (.o 1 0)) (hI : IB S) (hs : Byt 8192 (S 0 9) t l) (hR : ∀ r, r < 8 → ∃ l, Byt 8192 (S 0 r) (rows r) l) : ∃ S', P_X11_block G F (W.ad (.o 11 0)) x y bk (mem W S) = some (match blockF rows x y back with | some u => (Int32.ofNat u.length) | none => -2, mem W S') ∧ fr [(1, 0), (0, 9)] S S' ∧ agr [2] [] [1, 3, 4] [] (S 1 0) (S' 1 0) ∧ match blockF rows x y back with | some u => Byt 8192 (S' 0 9) u false | none => S' = S := by
  unfold P_X11_block blockF
  rw [rcv_m h.lo, bO_s, Q11_isCipherKey h hR, bP_s]
  cases hk : isCK rows x
  · rw [if_pos (by rfl)]
    exact ⟨S, rfl, fr.refl _ _, agr.refl _ _ _ _ _, rfl⟩
  · rw [if_neg (by decide), rcv_m h.lo, bO_s, Q11_isRow, bP_s]
    obtain ⟨rk, hrk, rfl, hkl⟩ := isCK_i hk
    rcases isr_cases y with hy | ⟨r, hr, rfl, hy⟩
    · rw [hy, if_pos (by rfl)]
      exact ⟨S, rfl, fr.refl _ _, agr.refl _ _ _ _ _, rfl⟩
    · obtain ⟨lr, hb⟩ := hR r hr
      obtain ⟨lk, hbk⟩ := hR rk hrk
      have hl := hb.le
      have hlk := hbk.le
      rw [hy, if_neg (by decide), h.gR rfl h.ra, bO_s, h.row hr, bO_s, (h.rb r hr).gI 1 rfl, bO_s, hb.many, n_at (by omega), n_at (by omega)]
      by_cases h16 : (rows r).length = 16
      · rw [if_pos (show (Int32.ofNat (rows r).length) = (16 : Int32) by rw [h16]; rfl), if_pos (show (true && (true && decide ((rows r).length = 16))) = true by simp [h16]), h.gR rfl h13, bO_s, bO_s, h.row hrk, bO_s, bO_s, h.row hrk, bO_s, (h.rb rk hrk).gI 1 rfl, bO_s, hbk.many, rcv_m hc.1, bO_s]
        obtain ⟨o1, g1, a1, k1⟩ := Q1_become (S := S) (p := 0) (n := (rows rk).length) X hc (h.rb rk hrk) hbk hkl (by omega) (by omega)
        rw [List.drop_zero, List.take_length] at k1
        have g1' : P_X1_become G F (W.ad (.o 1 0)) (W.ad (.o 0 rk)) 0 (Int32.ofNat (rows rk).length) (mem W S) = some (mem W (S.so 1 0 o1)) := g1
        rw [g1', bO_s, h.gR rfl h.shown, bO_s, rcv_m h.sb.lo, bO_s]
        obtain ⟨o2, g2, b2⟩ := Q0_clear (G := G) (F := F) (S := S.so 1 0 o1) h.sb (by rw [so_ne (by omega)]; exact hs)
        rw [g2, bO_s, h.gR rfl h13, bO_s, h.gR rfl h.ra, bO_s, h.row hr, bO_s, h.gR rfl h.shown, bO_s, rcv_m hc.1, bO_s]
        have k2 : KS ((S.so 1 0 o1).so 0 9 o2) (ksF ((rows rk).length / 4) (rows rk)) ((rows rk).length / 4 + 6) := by
          refine ⟨?_, k1.2.1, ?_⟩
          · rw [so_ne (by omega)]; exact k1.1
          · rw [so_ne (by omega)]; exact k1.2.2
        have i2 : IB ((S.so 1 0 o1).so 0 9 o2) := fun x => by rw [so_ne (by omega), so_eq, a1.2.2.1 0 (by decide)]; exact hI x
        obtain ⟨S3, g3, f3, a3, b3⟩ := Q1_putBlock (S := (S.so 1 0 o1).so 0 9 o2) (i1 := r) (i2 := 9) (s := rows r) (xs := []) (l2 := false) (back := back) X hc (h.rb r hr) h.sb h16 k2 i2 (by rw [so_ne (by omega), so_ne (by omega)]; exact hb) (by rw [so_eq]; exact b2)
        have bl := blkF_len (rows rk) (rows r) back
        have b3' : Byt 8192 (S3 0 9) (tkl 8192 [] (blkF (rows rk) (rows r) back)) (lsl 8192 [] (blkF (rows rk) (rows r) back) false) := b3
        rw [tkl_fit (by simp; omega), lsl_fit (by simp; omega), List.nil_append] at b3'
        rw [hbk0, g3, bO_s, h.gR rfl h.shown, bO_s, h.sb.gI 1 rfl, bO_s, b3'.many]
        refine ⟨S3, rfl, ((fr_so (by simp)).trans (fr_so (by simp))).trans f3, ?_, b3'⟩
        rw [so_ne (by omega), so_eq] at a3
        exact (a1.mono (by decide) (by decide) (by decide) (by decide)).trans (a3.mono (by decide) (by decide) (by decide) (by decide))
      · rw [if_neg (show ¬ (Int32.ofNat (rows r).length) = (16 : Int32) by rw [lit 16]; exact fun q => h16 ((n_eq (by omega) (by omega)).mp q)), if_neg (show ¬ (true && (true && decide ((rows r).length = 16))) = true by simp [h16])]
        exact ⟨S, rfl, fr.refl _ _, agr.refl _ _ _ _ _, rfl⟩
end BLK
