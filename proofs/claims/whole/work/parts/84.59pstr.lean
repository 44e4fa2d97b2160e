/-! A STRING WRITTEN: the class -/
def seF (c : UInt8) : Option UInt8 := if c = 8 then some 98 else if c = 9 then some 116 else if c = 10 then some 110 else if c = 12 then some 102 else if c = 13 then some 114 else if c = 34 then some 34 else if c = 92 then some 92 else none
def hxH (c : UInt8) : UInt8 := if 16 ≤ c.toNat then 49 else 48
def hxL (c : UInt8) : UInt8 := if 10 ≤ c.toNat % 16 then UInt8.ofNat (87 + c.toNat % 16) else UInt8.ofNat (48 + c.toNat % 16)
/-- how a byte is written in a string -/
def escF (c : UInt8) : List UInt8 := match seF c with
  | some e => [92, e]
  | none => if 32 ≤ c.toNat then [c] else str 11 ++ [hxH c, hxL c]
def strP (ys : List UInt8) : List UInt8 := 34 :: (ys.flatMap escF ++ [34])
theorem hx_tab : ∀ n, n < 32 → lo8 (if (16 : Int32) ≤ b32 (UInt8.ofNat n) then 49 else 48) = hxH (UInt8.ofNat n) ∧ lo8 (if (10 : Int32) ≤ (b32 (UInt8.ofNat n) &&& 15) then 87 + (b32 (UInt8.ofNat n) &&& 15) else 48 + (b32 (UInt8.ofNat n) &&& 15)) = hxL (UInt8.ofNat n) := by decide +kernel
theorem hx_of {c : UInt8} (h : c.toNat < 32) : lo8 (if (16 : Int32) ≤ b32 c then 49 else 48) = hxH c ∧ lo8 (if (10 : Int32) ≤ (b32 c &&& 15) then 87 + (b32 c &&& 15) else 48 + (b32 c &&& 15)) = hxL c := by
  have := hx_tab c.toNat h
  rwa [UInt8.ofNat_toNat] at this
theorem lo8_b32 (c : UInt8) : lo8 (b32 c) = c := by
  unfold b32
  rw [lo8_n, UInt8.ofNat_toNat]
theorem b32_eq {c : UInt8} {x : Int32} {y : UInt8} (h : x = b32 y) : (b32 c = x) = (c = y) := by
  rw [h]
  exact propext ⟨b32_inj, fun q => by rw [q]⟩
theorem b32_32 (c : UInt8) : ((32 : Int32) ≤ b32 c) = (32 ≤ c.toNat) := by
  have h : ∀ n, n < 256 → (((32 : Int32) ≤ b32 (UInt8.ofNat n)) ↔ 32 ≤ (UInt8.ofNat n).toNat) := by decide +kernel
  have := h c.toNat c.toNat_lt
  rw [UInt8.ofNat_toNat] at this
  exact propext this
theorem seg_cs {ys : List UInt8} {k m : Nat} (h : k < ys.length) : seg ys k (m + 1) = ys[k] :: seg ys (k + 1) m := by
  unfold seg
  rw [List.drop_eq_getElem_cons h, List.take_succ_cons]
section PST
variable {W : WR} {G : mG} {F : Nat}
theorem Q9_short {c : UInt8} {M : mM} : P_X9_shortEscape G F (b32 c) M = some (match seF c with | some e => b32 e | none => -1, M) := by
  unfold P_X9_shortEscape seF
  simp only [b32_eq (c := c) (show (8 : Int32) = b32 8 from rfl), b32_eq (c := c) (show (9 : Int32) = b32 9 from rfl), b32_eq (c := c) (show (10 : Int32) = b32 10 from rfl), b32_eq (c := c) (show (12 : Int32) = b32 12 from rfl), b32_eq (c := c) (show (13 : Int32) = b32 13 from rfl), b32_eq (c := c) (show (34 : Int32) = b32 34 from rfl), b32_eq (c := c) (show (92 : Int32) = b32 92 from rfl)]
  by_cases c8 : c = 8
  · rw [if_pos c8, if_pos c8]
    rfl
  rw [if_neg c8, if_neg c8]
  by_cases c9 : c = 9
  · rw [if_pos c9, if_pos c9]
    rfl
  rw [if_neg c9, if_neg c9]
  by_cases c10 : c = 10
  · rw [if_pos c10, if_pos c10]
    rfl
  rw [if_neg c10, if_neg c10]
  by_cases c12 : c = 12
  · rw [if_pos c12, if_pos c12]
    rfl
  rw [if_neg c12, if_neg c12]
  by_cases c13 : c = 13
  · rw [if_pos c13, if_pos c13]
    rfl
  rw [if_neg c13, if_neg c13]
  by_cases c34 : c = 34
  · rw [if_pos c34, if_pos c34]
    rfl
  rw [if_neg c34, if_neg c34]
  by_cases c92 : c = 92
  · rw [if_pos c92, if_pos c92]
    rfl
  rw [if_neg c92, if_neg c92]
theorem Q0_putc {S : ST} {i room : Nat} {xs : List UInt8} {lost : Bool} {x : Int32} {y : UInt8} (hB : isB W i room) (hb : Byt room (S 0 i) xs lost) (hy : lo8 x = y) : ∃ o, P_X0_put G F (W.ad (.o 0 i)) x (mem W S) = some (mem W (S.so 0 i o)) ∧ Byt room o (tkl room xs [y]) (lsl room xs [y] lost) := by
  obtain ⟨o, g, b⟩ := Q0_put (G := G) (F := F) (S := S) (x := x) hB hb
  refine ⟨o, g, ?_⟩
  have e : lsl room xs [y] lost = (lost || decide (room ≤ xs.length)) := by
    unfold lsl
    congr 1
    exact decide_eq_decide.mpr (by show room < xs.length + 1 ↔ _; omega)
  rw [e, ← hy]
  exact b
theorem Q9_putStr_l {is_ rs it rt st many : Nat} {ys : List UInt8} {ls : Bool} (X : Cx G F W) (hB : isB W is_ rs) (hT : isB W it rt) (hne : is_ ≠ it) (hm : st + many ≤ ys.length) (hl : ys.length < 2 ^ 30) : ∀ (m k fuel : Nat) (S : ST) (xs : List UInt8) (lost : Bool), m < fuel → k + m = st + many → Byt rs (S 0 is_) ys ls → Byt rt (S 0 it) xs lost → ∃ o, B_X9_putString_9 G F fuel (W.ad (.o 0 is_)) (Int32.ofNat st) (Int32.ofNat many) (W.ad (.o 0 it)) (Int32.ofNat k) (mem W S) = some (mem W (S.so 0 it o)) ∧ Byt rt o (tkl rt xs ((seg ys k m).flatMap escF ++ [34])) (lsl rt xs ((seg ys k m).flatMap escF ++ [34]) lost) := by
  intro m
  induction m with
  | zero =>
    intro k fuel S xs lost hf hk bs bt
    obtain ⟨fuel, rfl⟩ : ∃ q, fuel = q + 1 := ⟨fuel - 1, by omega⟩
    obtain ⟨o, g, b⟩ := Q0_putc (G := G) (F := F) (S := S) (x := 34) (y := 34) hT bt rfl
    refine ⟨o, ?_, ?_⟩
    · rw [B_X9_putString_9, n_add, if_pos ((n_le (by omega) (by omega)).mpr (by omega)), rcv_m hT.lo, bO_s, g, bO_s]
    · have e : (seg ys k 0).flatMap escF ++ [34] = [34] := by
        unfold seg
        rw [List.take_zero]
        rfl
      rw [e]
      exact b
  | succ m ih =>
    intro k fuel S xs lost hf hk bs bt
    obtain ⟨fuel, rfl⟩ : ∃ q, fuel = q + 1 := ⟨fuel - 1, by omega⟩
    have hkl : k < ys.length := by omega
    obtain ⟨c, hc⟩ : ∃ c, c = ys[k] := ⟨_, rfl⟩
    have gc : P_X0_get G F (W.ad (.o 0 is_)) (Int32.ofNat k) (mem W S) = some (b32 c, mem W S) := by rw [Q0_get hB bs (by omega), gB_lt hkl, hc]
    have sg : (seg ys k (m + 1)).flatMap escF ++ [34] = escF c ++ ((seg ys (k + 1) m).flatMap escF ++ [34]) := by
      rw [seg_cs hkl, List.flatMap_cons, List.append_assoc, hc]
    rw [sg]
    -- the rest, once the byte is written
    have go : ∀ (o : Ob), Byt rt o (tkl rt xs (escF c)) (lsl rt xs (escF c) lost) → ∃ o', B_X9_putString_9 G F fuel (W.ad (.o 0 is_)) (Int32.ofNat st) (Int32.ofNat many) (W.ad (.o 0 it)) ((Int32.ofNat k) + 1) (mem W (S.so 0 it o)) = some (mem W (S.so 0 it o')) ∧ Byt rt o' (tkl rt xs (escF c ++ ((seg ys (k + 1) m).flatMap escF ++ [34]))) (lsl rt xs (escF c ++ ((seg ys (k + 1) m).flatMap escF ++ [34])) lost) := by
      intro o bo
      obtain ⟨o', g, b⟩ := ih (k + 1) fuel (S.so 0 it o) _ _ (by omega) (by omega) (by rw [so_ne (fun q => hne q.2)]; exact bs) (by rw [so_eq]; exact bo)
      rw [so_so] at g
      rw [tkl_tkl, lsl_lsl] at b
      exact ⟨o', by rw [n_i1]; exact g, b⟩
    rw [B_X9_putString_9, n_add, if_neg (fun z => by have := (n_le (by omega) (by omega)).mp z; omega), rcv_m hB.lo, bO_s, gc, bP_s, Q9_short, bP_s]
    cases e : seF c with
    | some y =>
      have ec : escF c = [92, y] := by unfold escF; rw [e]
      obtain ⟨o1, g1, b1⟩ := Q0_putc (G := G) (F := F) (S := S) (x := 92) (y := 92) hT bt rfl
      obtain ⟨o2, g2, b2⟩ := Q0_putc (G := G) (F := F) (S := S.so 0 it o1) (x := b32 y) (y := y) hT (by rw [so_eq]; exact b1) (lo8_b32 y)
      rw [so_so] at g2
      rw [tkl_tkl, lsl_lsl] at b2
      have nm : ¬ b32 y = (-1 : Int32) := fun q => n_nm (n := y.toNat) (by have := y.toNat_lt; omega) q
      show ∃ o, (if b32 y = (-1 : Int32) then _ else _) = _ ∧ _
      rw [if_neg nm, rcv_m hT.lo, bO_s, g1, bO_s, rcv_m hT.lo, bO_s, g2, bO_s]
      exact go o2 (by rw [ec]; exact b2)
    | none =>
      show ∃ o, (if (-1 : Int32) = (-1 : Int32) then _ else _) = _ ∧ _
      rw [if_pos rfl]
      simp only [b32_32]
      by_cases c32 : 32 ≤ c.toNat
      · have ec : escF c = [c] := by unfold escF; rw [e]; exact if_pos c32
        obtain ⟨o1, g1, b1⟩ := Q0_putc (G := G) (F := F) (S := S) (x := b32 c) (y := c) hT bt (lo8_b32 c)
        rw [if_pos c32, rcv_m hT.lo, bO_s, g1, bO_s]
        exact go o1 (by rw [ec]; exact b1)
      · have ec : escF c = str 11 ++ [hxH c, hxL c] := by unfold escF; rw [e]; exact if_neg c32
        obtain ⟨x1, x2⟩ := hx_of (c := c) (by omega)
        obtain ⟨o1, g1, b1⟩ := Q0_putText (G := G) (F := F) (S := S) (j := 11) X hT (by decide) bt
        obtain ⟨o2, g2, b2⟩ := Q0_putc (G := G) (F := F) (S := S.so 0 it o1) hT (by rw [so_eq]; exact b1) x1
        rw [so_so] at g2
        rw [tkl_tkl, lsl_lsl] at b2
        obtain ⟨o3, g3, b3⟩ := Q0_putc (G := G) (F := F) (S := S.so 0 it o2) hT (by rw [so_eq]; exact b2) x2
        rw [so_so] at g3
        rw [tkl_tkl, lsl_lsl, List.append_assoc] at b3
        have ec' : escF c = str 11 ++ ([hxH c] ++ [hxL c]) := ec
        have gg := go o3 (by rw [ec']; exact b3)
        have e81 : B_X9_putString_81 G F (B_X9_putString_9 G F fuel) (W.ad (.o 0 is_)) (Int32.ofNat st) (Int32.ofNat many) (W.ad (.o 0 it)) (Int32.ofNat k) (b32 c) (W.ad (.o 0 it)) (if (16 : Int32) ≤ b32 c then 49 else 48) (mem W (S.so 0 it o1)) = B_X9_putString_9 G F fuel (W.ad (.o 0 is_)) (Int32.ofNat st) (Int32.ofNat many) (W.ad (.o 0 it)) ((Int32.ofNat k) + 1) (mem W (S.so 0 it o3)) := by
          unfold B_X9_putString_81
          rw [rcv_m hT.lo, bO_s, g2, bO_s]
          by_cases z : (10 : Int32) ≤ (b32 c &&& 15)
          · rw [if_pos z] at g3
            rw [if_pos z, rcv_m hT.lo, bO_s, g3, bO_s]
          · rw [if_neg z] at g3
            rw [if_neg z, rcv_m hT.lo, bO_s, g3, bO_s]
        rw [if_neg c32, rcv_m hT.lo, bO_s, g1, bO_s]
        rw [← e81] at gg
        by_cases z : (16 : Int32) ≤ b32 c
        · rw [if_pos z] at gg ⊢
          exact gg
        · rw [if_neg z] at gg ⊢
          exact gg
theorem Q9_putString {S : ST} {is_ rs it rt st many : Nat} {ys xs : List UInt8} {ls lost : Bool} (X : Cx G F W) (hB : isB W is_ rs) (hT : isB W it rt) (hne : is_ ≠ it) (hm : st + many ≤ ys.length) (hl : ys.length < 100000) (bs : Byt rs (S 0 is_) ys ls) (bt : Byt rt (S 0 it) xs lost) : ∃ o, P_X9_putString G F (W.ad (.o 0 is_)) (Int32.ofNat st) (Int32.ofNat many) (W.ad (.o 0 it)) (mem W S) = some (mem W (S.so 0 it o)) ∧ Byt rt o (tkl rt xs (strP (seg ys st many))) (lsl rt xs (strP (seg ys st many)) lost) := by
  have hF := X.hF
  obtain ⟨o1, g1, b1⟩ := Q0_putc (G := G) (F := F) (S := S) (x := 34) (y := 34) hT bt rfl
  obtain ⟨o2, g2, b2⟩ := Q9_putStr_l (G := G) (F := F) X hB hT hne hm (by omega) many st F (S.so 0 it o1) _ _ (by omega) rfl (by rw [so_ne (fun q => hne q.2)]; exact bs) (by rw [so_eq]; exact b1)
  rw [so_so] at g2
  rw [tkl_tkl, lsl_lsl] at b2
  unfold P_X9_putString
  rw [rcv_m hT.lo, bO_s, g1, bO_s]
  exact ⟨o2, g2, b2⟩
end PST
