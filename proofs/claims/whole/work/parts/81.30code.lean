/-! CODES WITH KEYS: the class -/
def xk (k : List UInt8) (v : UInt8) (n : Nat) : List UInt8 := (List.range n).map fun j => k.getD j 0 ^^^ v
theorem xk_len (k : List UInt8) (v : UInt8) (n : Nat) : (xk k v n).length = n := by simp [xk]
def keyK (wide : Bool) (key : List UInt8) : List UInt8 := if bb wide < key.length then sha wide key else key
def hmac (wide : Bool) (key msg : List UInt8) : List UInt8 := sha wide (xk (keyK wide key) 92 (bb wide) ++ sha wide (xk (keyK wide key) 54 (bb wide) ++ msg))
theorem gB_D (k : List UInt8) (j : Nat) : gB k j = b32 (k.getD j 0) := by
  unfold gB
  rw [List.getD_eq_getElem?_getD]
  cases k[j]? <;> rfl
theorem keyK_len (wide : Bool) (key : List UInt8) : (keyK wide key).length ≤ bb wide := by
  unfold keyK
  split
  · rw [sha_len]; cases wide <;> decide
  · omega
section CODE
variable {W : WR} {G : mG} {F : Nat}
theorem isD.in {W : WR} (h : isD W) : W.r 4 0 10 = some (.o 0 67) ∧ isB W 67 64 := h.2.2.2.2.2.2.2.2.2.2.2
theorem Q4_akb_l {v : UInt8} {k : List UInt8} {wide : Bool} (X : Cx G F W) (h : isD W) : ∀ (m j n : Nat) (S : ST) (msg : List UInt8), m < n → j + m = bb wide → DG (S 4 0) wide msg → msg.length + m < 2 ^ 27 → (∀ j, j < 128 → (S 4 0).a 9 j = gB k j) → ∃ o, B_X4_addKeyBlock_2 G F n (W.ad (.o 4 0)) (Int32.ofNat v.toNat) (Int32.ofNat j) (mem W S) = some (mem W (S.so 4 0 o)) ∧ DG o wide (msg ++ (xk k v (bb wide)).drop j) ∧ agD (S 4 0) o := by
  have hb128 : bb wide ≤ 128 := by cases wide <;> decide
  intro m
  induction m with
  | zero =>
    intro j n S msg hn hj hd hl hk
    obtain ⟨n, rfl⟩ : ∃ q, n = q + 1 := ⟨n - 1, by omega⟩
    rw [B_X4_addKeyBlock_2, gfI_m h.1 rfl, bO_s, hd.2.1, if_pos ((n_le (by omega) (by omega)).mpr (by omega))]
    refine ⟨S 4 0, by rw [so_self], ?_, agr.refl _ _ _ _ _⟩
    rw [List.drop_of_length_le (by rw [xk_len]; omega), List.append_nil]
    exact hd
  | succ m ih =>
    intro j n S msg hn hj hd hl hk
    obtain ⟨n, rfl⟩ : ∃ q, n = q + 1 := ⟨n - 1, by omega⟩
    rw [B_X4_addKeyBlock_2, gfI_m h.1 rfl, bO_s, hd.2.1, if_neg (fun q => absurd ((n_le (by omega) (by omega)).mp q) (by omega)), h.2.2.2.2.1.g h.1 rfl, bO_s, h.2.2.2.2.1.ld rfl (show j < 128 by omega), bO_s, rcv_m h.1, bO_s, hk j (by omega), gB_D, b32_xor _ v.toNat_lt, UInt8.ofNat_toNat]
    obtain ⟨o, g1, g2, g3⟩ := Q4_addByte (S := S) (y := k.getD j 0 ^^^ v) X h hd (by omega)
    rw [g1, bO_s, n_addL j 1]
    have g3' := agD_of g3
    obtain ⟨o2, g4, g5, g6⟩ := ih (j + 1) n (S.so 4 0 o) _ (by omega) (by omega) (by rw [so_eq]; exact g2) (by simp; omega) (by rw [so_eq, g3'.2.2.1 9 (by decide)]; exact hk)
    rw [so_so] at g4
    rw [so_eq] at g6
    refine ⟨o2, g4, ?_, g3'.trans g6⟩
    have e : (xk k v (bb wide)).drop j = (k.getD j 0 ^^^ v) :: (xk k v (bb wide)).drop (j + 1) := by
      rw [List.drop_eq_getElem_cons (by rw [xk_len]; omega)]
      simp [xk]
    rw [e, List.append_cons]
    exact g5
theorem Q4_addKeyBlock {v : UInt8} {k msg : List UInt8} {wide : Bool} {S : ST} (X : Cx G F W) (h : isD W) (hd : DG (S 4 0) wide msg) (hl : msg.length < 2 ^ 26) (hk : ∀ j, j < 128 → (S 4 0).a 9 j = gB k j) : ∃ o, P_X4_addKeyBlock G F (W.ad (.o 4 0)) (Int32.ofNat v.toNat) (mem W S) = some (mem W (S.so 4 0 o)) ∧ DG o wide (msg ++ xk k v (bb wide)) ∧ agD (S 4 0) o := by
  have hb128 : bb wide ≤ 128 := by cases wide <;> decide
  have hF := X.hF
  exact Q4_akb_l X h (bb wide) 0 F S msg (by omega) (by omega) hd (by omega) hk
/-- the key block is filled, then added -/
theorem Q4_sc_l {i room start stop : Nat} {xs ys : List UInt8} {l1 l2 wide hashed : Bool} (X : Cx G F W) (h : isD W) (hB : isB W i room) (hs : start ≤ stop) (hx : stop ≤ xs.length) (hx2 : xs.length < 90000) : ∀ (m j n : Nat) (S : ST), m < n → j + m = 128 → Byt room (S 0 i) xs l1 → Byt 64 (S 0 67) ys l2 → DG (S 4 0) wide [] → (∀ t, t < j → (S 4 0).a 9 t = gB (if hashed then ys else (xs.drop start).take (stop - start)) t) → ∃ o, B_X4_startCode_59 G F n (W.ad (.o 4 0)) (W.ad (.o 0 i)) (Int32.ofNat start) (Int32.ofNat stop) (if hashed then 1 else 0) (Int32.ofNat j) (mem W S) = some (mem W (S.so 4 0 o)) ∧ DG o wide (xk (if hashed then ys else (xs.drop start).take (stop - start)) 54 (bb wide)) ∧ ∀ t, t < 128 → o.a 9 t = gB (if hashed then ys else (xs.drop start).take (stop - start)) t := by
  intro m
  induction m with
  | zero =>
    intro j n S hn hj hb1 hb2 hd hk
    obtain ⟨n, rfl⟩ : ∃ q, n = q + 1 := ⟨n - 1, by omega⟩
    obtain rfl : j = 128 := by omega
    rw [B_X4_startCode_59, if_pos (by decide), rcv_m h.1, bO_s]
    obtain ⟨o, g1, g2, g3⟩ := Q4_addKeyBlock (v := 54) X h hd (by decide) hk
    have g1' : P_X4_addKeyBlock G F (W.ad (.o 4 0)) 54 (mem W S) = some (mem W (S.so 4 0 o)) := g1
    rw [g1', bO_s]
    exact ⟨o, rfl, g2, fun t ht => by rw [g3.2.2.1 9 (by decide)]; exact hk t ht⟩
  | succ m ih =>
    intro j n S hn hj hb1 hb2 hd hk
    obtain ⟨n, rfl⟩ : ∃ q, n = q + 1 := ⟨n - 1, by omega⟩
    have h9 := h.2.2.2.2.1
    rw [B_X4_startCode_59, if_neg (by rw [lit 128]; exact fun q => absurd ((n_le (by omega) (by omega)).mp q) (by omega)), h9.g h.1 rfl, bO_s]
    have go : ∀ (v : Int32), v = gB (if hashed then ys else (xs.drop start).take (stop - start)) j → ∃ o, (bO (sI (mem W S) 0 (W.ad (.a 4 0 9)) (Int32.ofNat j) v) fun M111 => B_X4_startCode_59 G F n (W.ad (.o 4 0)) (W.ad (.o 0 i)) (Int32.ofNat start) (Int32.ofNat stop) (if hashed then 1 else 0) ((Int32.ofNat j) + 1) M111) = some (mem W (S.so 4 0 o)) ∧ DG o wide (xk (if hashed then ys else (xs.drop start).take (stop - start)) 54 (bb wide)) ∧ ∀ t, t < 128 → o.a 9 t = gB (if hashed then ys else (xs.drop start).take (stop - start)) t := by
      intro v hv
      rw [h9.st rfl (show j < 128 by omega), bO_s, n_addL j 1]
      obtain ⟨o, g1, g2, g3⟩ := ih (j + 1) n (S.so 4 0 ((S 4 0).sA 9 (upd ((S 4 0).a 9) j v))) (by omega) (by omega) (by rw [so_ne (by omega)]; exact hb1) (by rw [so_ne (by omega)]; exact hb2) (by rw [so_eq]; exact hd) (fun t ht => by
        rw [so_eq, sA_a, upd]
        by_cases e : t = j
        · rw [if_pos e, e, hv]
        · rw [if_neg e]; exact hk t (by omega))
      rw [so_so] at g1
      exact ⟨o, g1, g2, g3⟩
    cases hashed with
    | true =>
      rw [if_neg (by decide), gfR_m h.1 rfl h.in.1, bO_s, rcv_m h.in.2.lo, bO_s, Q0_get h.in.2 hb2 (by omega), bP_s]
      exact go _ rfl
    | false =>
      rw [if_pos (by rfl), n_add]
      by_cases hc : stop ≤ start + j
      · rw [if_pos ((n_le (by omega) (by omega)).mpr hc)]
        refine go 0 ?_
        rw [if_neg (by decide), gB, List.getElem?_eq_none (by simp; omega)]
      · rw [if_neg (fun q => hc ((n_le (by omega) (by omega)).mp q)), rcv_m hB.lo, bO_s, Q0_get hB hb1 (by omega), bP_s]
        refine go _ ?_
        rw [if_neg (by decide), gB, gB, List.getElem?_take_of_lt (by omega), List.getElem?_drop]
theorem Q4_startCode {i room start stop : Nat} {xs ys : List UInt8} {l1 l2 wide : Bool} {S : ST} (X : Cx G F W) (h : isD W) (hB : isB W i room) (hi : i ≠ 67) (hs : start ≤ stop) (hx : stop ≤ xs.length) (hx2 : xs.length < 90000) (hb1 : Byt room (S 0 i) xs l1) (hb2 : Byt 64 (S 0 67) ys l2) : ∃ S', P_X4_startCode G F (W.ad (.o 4 0)) (if wide then 512 else 256) (W.ad (.o 0 i)) (Int32.ofNat start) (Int32.ofNat stop) (mem W S) = some (mem W S') ∧ fr [(4, 0), (0, 67)] S S' ∧ DG (S' 4 0) wide (xk (keyK wide ((xs.drop start).take (stop - start))) 54 (bb wide)) ∧ (∀ t, t < 128 → (S' 4 0).a 9 t = gB (keyK wide ((xs.drop start).take (stop - start))) t) ∧ ∃ ys l, Byt 64 (S' 0 67) ys l := by
  have hb128 : bb wide ≤ 128 := by cases wide <;> decide
  have hF := X.hF
  have hin := h.in
  have hkl : ((xs.drop start).take (stop - start)).length = stop - start := by simp; omega
  unfold P_X4_startCode
  obtain ⟨o1, g1, d1, a1⟩ := Q4_start (S := S) (wide := wide) X h
  rw [rcv_m h.1, bO_s, g1, bO_s, gfR_m h.1 rfl hin.1, bO_s, rcv_m hin.2.lo, bO_s]
  obtain ⟨p1, g2, b2⟩ := Q0_clear (G := G) (F := F) (S := S.so 4 0 o1) hin.2 (by rw [so_ne (by omega)]; exact hb2)
  rw [g2, bO_s, gfI_m h.1 rfl, bO_s, so_ne (by omega), so_eq, d1.2.1, n_sub hs]
  by_cases hc : stop - start ≤ bb wide
  · rw [if_pos ((n_le (by omega) (by omega)).mpr hc), B_X4_startCode_28, if_pos rfl]
    obtain ⟨o2, g3, d3, k3⟩ := Q4_sc_l (start := start) (stop := stop) (hashed := false) (wide := wide) (ys := []) (l2 := false) X h hB hs hx hx2 128 0 F ((S.so 4 0 o1).so 0 67 p1) (by omega) rfl (by rw [so_ne (by omega), so_ne (by omega)]; exact hb1) (by rw [so_eq]; exact b2) (by rw [so_ne (by omega), so_eq]; exact d1) (fun t ht => absurd ht (Nat.not_lt_zero _))
    have ek : keyK wide ((xs.drop start).take (stop - start)) = (xs.drop start).take (stop - start) := by
      unfold keyK; rw [if_neg (by rw [hkl]; omega)]
    rw [ek]
    refine ⟨_, g3, ?_, by rw [so_eq]; exact d3, by rw [so_eq]; exact k3, [], false, by rw [so_ne (by omega), so_eq]; exact b2⟩
    exact ((fr_so (by simp)).trans (fr_so (by simp))).trans (fr_so (by simp))
  · rw [if_neg (fun q => hc ((n_le (by omega) (by omega)).mp q)), B_X4_startCode_28, if_neg (by decide), rcv_m h.1, bO_s]
    obtain ⟨o2, g3, d3, a3⟩ := Q4_add (S := (S.so 4 0 o1).so 0 67 p1) X h hB hs hx (by omega) (by rw [so_ne (by omega), so_ne (by omega)]; exact hb1) (by rw [so_ne (by omega), so_eq]; exact d1) (by decide)
    rw [List.nil_append] at d3
    rw [g3, bO_s, gfR_m h.1 rfl hin.1, bO_s, rcv_m h.1, bO_s]
    obtain ⟨S3, g4, f4, d4, a4, b4⟩ := Q4_finish (S := ((S.so 4 0 o1).so 0 67 p1).so 4 0 o2) (i := 67) (xs := []) (lost := false) X h hin.2 (by rw [so_eq]; exact d3) (by rw [hkl]; omega) (by rw [so_ne (by omega), so_eq]; exact b2)
    have hsl : (sha wide ((xs.drop start).take (stop - start))).length ≤ 64 := by rw [sha_len]; cases wide <;> decide
    rw [tkl_fit (by simpa using hsl), lsl_fit (by simpa using hsl), List.nil_append] at b4
    rw [g4, bO_s, rcv_m h.1, bO_s]
    obtain ⟨o5, g5, d5, a5⟩ := Q4_start (S := S3) (wide := wide) X h
    rw [g5, bO_s]
    have e3 : S3 0 i = S 0 i := by rw [f4 0 i (by simp [hi]), so_ne (by omega), so_ne (by omega), so_ne (by omega)]
    obtain ⟨o6, g6, d6, k6⟩ := Q4_sc_l (start := start) (stop := stop) (hashed := true) (wide := wide) X h hB hs hx hx2 128 0 F (S3.so 4 0 o5) (by omega) rfl (by rw [so_ne (by omega), e3]; exact hb1) (by rw [so_ne (by omega)]; exact b4) (by rw [so_eq]; exact d5) (fun t ht => absurd ht (Nat.not_lt_zero _))
    have ek : keyK wide ((xs.drop start).take (stop - start)) = sha wide ((xs.drop start).take (stop - start)) := by
      unfold keyK; rw [if_pos (by rw [hkl]; omega)]
    rw [ek]
    rw [so_so] at g6
    refine ⟨_, g6, ?_, by rw [so_eq]; exact d6, by rw [so_eq]; exact k6, _, false, by rw [so_ne (by omega)]; exact b4⟩
    exact ((((fr_so (by simp)).trans (fr_so (by simp))).trans (fr_so (by simp))).trans f4).trans (fr_so (by simp))
theorem Q4_finishCode {i room : Nat} {xs ys key msg : List UInt8} {l1 l2 wide : Bool} {S : ST} (X : Cx G F W) (h : isD W) (hB : isB W i room) (hi : i ≠ 67) (hd : DG (S 4 0) wide (xk (keyK wide key) 54 (bb wide) ++ msg)) (hl : msg.length < 2 ^ 19) (hk : ∀ t, t < 128 → (S 4 0).a 9 t = gB (keyK wide key) t) (hb1 : Byt room (S 0 i) xs l1) (hb2 : Byt 64 (S 0 67) ys l2) : ∃ S', P_X4_finishCode G F (W.ad (.o 4 0)) (W.ad (.o 0 i)) (mem W S) = some (mem W S') ∧ fr [(4, 0), (0, 67), (0, i)] S S' ∧ Byt room (S' 0 i) (tkl room xs (hmac wide key msg)) (lsl room xs (hmac wide key msg) l1) ∧ ∃ ys l, Byt 64 (S' 0 67) ys l := by
  have hb128 : bb wide ≤ 128 := by cases wide <;> decide
  have hF := X.hF
  have hin := h.in
  unfold P_X4_finishCode
  obtain ⟨p1, g2, b2⟩ := Q0_clear (G := G) (F := F) (S := S) hin.2 hb2
  rw [gfR_m h.1 rfl hin.1, bO_s, rcv_m hin.2.lo, bO_s, g2, bO_s, gfR_m h.1 rfl hin.1, bO_s, rcv_m h.1, bO_s]
  obtain ⟨S3, g4, f4, d4, a4, b4⟩ := Q4_finish (S := S.so 0 67 p1) (i := 67) (xs := []) (lost := false) X h hin.2 (by rw [so_ne (by omega)]; exact hd) (by simp [xk_len]; omega) (by rw [so_eq]; exact b2)
  obtain ⟨D, hD⟩ : ∃ D, D = sha wide (xk (keyK wide key) 54 (bb wide) ++ msg) := ⟨_, rfl⟩
  rw [← hD] at b4
  have hsl : D.length ≤ 64 := by rw [hD, sha_len]; cases wide <;> decide
  rw [tkl_fit (by simpa using hsl), lsl_fit (by simpa using hsl), List.nil_append] at b4
  rw [so_ne (by omega)] at a4
  have k3 : ∀ t, t < 128 → (S3 4 0).a 9 t = gB (keyK wide key) t := fun t ht => by rw [a4.2.2.1 9 (by decide)]; exact hk t ht
  rw [g4, bO_s, gfI_m h.1 rfl, bO_s, d4.1]
  have fin : ∃ S', B_X4_finishCode_32 G F (W.ad (.o 4 0)) (W.ad (.o 0 i)) (W.ad (.o 4 0)) (if wide then 512 else 256) (mem W S3) = some (mem W S') ∧ fr [(4, 0), (0, 67), (0, i)] S3 S' ∧ Byt room (S' 0 i) (tkl room xs (hmac wide key msg)) (lsl room xs (hmac wide key msg) l1) ∧ ∃ ys l, Byt 64 (S' 0 67) ys l := by
    unfold B_X4_finishCode_32
    obtain ⟨o5, g5, d5, a5⟩ := Q4_start (S := S3) (wide := wide) X h
    rw [rcv_m h.1, bO_s, g5, bO_s, rcv_m h.1, bO_s]
    obtain ⟨o6, g6, d6, a6⟩ := Q4_addKeyBlock (S := S3.so 4 0 o5) (v := 92) (k := keyK wide key) X h (by rw [so_eq]; exact d5) (by decide) (fun t ht => by rw [so_eq, a5.2.2.1 9 (by decide)]; exact k3 t ht)
    have g6' : P_X4_addKeyBlock G F (W.ad (.o 4 0)) 92 (mem W (S3.so 4 0 o5)) = some (mem W (S3.so 4 0 o6)) := by rw [← so_so S3 4 0 o5 o6]; exact g6
    rw [List.nil_append] at d6
    rw [g6', bO_s, gfR_m h.1 rfl hin.1, bO_s, bO_s, hin.2.gI 1 rfl, bO_s, so_ne (by omega), b4.many, rcv_m h.1, bO_s]
    obtain ⟨o7, g7, d7, a7⟩ := Q4_add (S := S3.so 4 0 o6) (k := 0) (stop := D.length) (xs := D) X h hin.2 (by omega) (by omega) (by omega) (by rw [so_ne (by omega)]; exact b4) (by rw [so_eq]; exact d6) (by rw [xk_len]; omega)
    have g7' : P_X4_add G F (W.ad (.o 4 0)) (W.ad (.o 0 67)) 0 (Int32.ofNat D.length) (mem W (S3.so 4 0 o6)) = some (mem W (S3.so 4 0 o7)) := by rw [← so_so S3 4 0 o6 o7]; exact g7
    rw [g7', bO_s, rcv_m h.1, bO_s]
    rw [List.drop_zero, Nat.sub_zero, List.take_length] at d7
    have e3 : S3 0 i = S 0 i := by rw [f4 0 i (by simp [hi]), so_ne (by omega)]
    obtain ⟨S8, g8, f8, d8, a8, b8⟩ := Q4_finish (S := S3.so 4 0 o7) (i := i) (xs := xs) (lost := l1) X h hB (by rw [so_eq]; exact d7) (by simp [xk_len]; omega) (by rw [so_ne (by omega), e3]; exact hb1)
    rw [g8, bO_s]
    refine ⟨S8, rfl, ?_, ?_, D, false, ?_⟩
    · exact (fr_so (by simp)).trans (f8.mono (by simp))
    · rw [hD] at b8; exact b8
    · rw [f8 0 67 (by simp; omega), so_ne (by omega)]; exact b4
  obtain ⟨S', e1, e2, e3⟩ := fin
  refine ⟨S', ?_, ((fr_so (by simp)).trans (f4.mono (by simp))).trans e2, e3⟩
  cases wide <;> exact e1
end CODE
