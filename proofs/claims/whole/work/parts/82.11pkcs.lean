/-! RSA: the class's frame of a digest -/
def infB : List UInt8 := [48, 49, 48, 13, 6, 9, 96, 134, 72, 1, 101, 3, 4, 2, 1, 5, 0, 4, 32]
def pkF (hash : List UInt8) (many : Nat) : List UInt8 := 0 :: 1 :: (List.replicate (many - 54) 255 ++ (0 :: (infB ++ hash)))
theorem inf_t : ∀ j, j < 19 → lo8 ((mtI 8).getD j 0) = infB.getD j 0 := by decide +kernel
theorem lo8_k : lo8 (0 : Int32) = 0 ∧ lo8 (1 : Int32) = 1 ∧ lo8 (255 : Int32) = 255 := by decide
theorem pkF_len {hash : List UInt8} {many : Nat} (h : hash.length = 32) (hm : 54 ≤ many) : (pkF hash many).length = many := by
  unfold pkF
  simp only [List.length_cons, List.length_append, List.length_replicate]
  rw [h, show infB.length = 19 from rfl]
  omega
section PKCS
variable {W : WR} {G : mG} {F : Nat} {S : ST}
theorem tab_ln {t : Nat} (X : Cx G F W) (ht : isI t = true) : aln G (mem W S) (G.1 (1000 + t)) = some (Int32.ofNat (mtI t).length) := by
  obtain ⟨h1, h2⟩ := X.ro.1.2.1 t ht
  unfold aln
  rw [mem_lo h1]
  simp [roN, h2]
theorem put_fit {i room : Nat} {xs : List UInt8} {x : Int32} {o : Ob} (hB : isB W i room) (hb : Byt room o xs false) (hl : xs.length < room) : ∃ o', P_X0_put G F (W.ad (.o 0 i)) x (mem W (S.so 0 i o)) = some (mem W (S.so 0 i o')) ∧ Byt room o' (xs ++ [lo8 x]) false := by
  obtain ⟨o', g, b⟩ := Q0_put (G := G) (F := F) (S := S.so 0 i o) (x := x) hB (by rw [so_eq]; exact hb)
  rw [so_so] at g
  refine ⟨o', g, ?_⟩
  rw [List.take_of_length_le (by rw [List.length_append, List.length_singleton]; omega), Bool.false_or, decide_eq_false (by omega)] at b
  exact b
theorem isRs.g3 (h : isRs W) (S : ST) : gfR (mem W S) (W.ad (.o 8 0)) 8 3 = some (W.ad (.o 0 69)) := gfR_m h.1 rfl h.2.2.2.2.2.1
theorem isRs.b3 {W : WR} (h : isRs W) : isB W 69 128 := h.2.2.2.2.2.2.2.2.1
theorem Q8_pk54 {ih rh : Nat} {z : List UInt8} {lz : Bool} (X : Cx G F W) (h : isRs W) (hZ : isB W ih rh) (bz : Byt rh (S 0 ih) z lz) (nz : ih ≠ 69) : ∀ (m j fuel : Nat) (o : Ob) (xs : List UInt8), m < fuel → j + m = 19 → Byt 128 o xs false → xs.length + m + z.length ≤ 128 → ∃ o', B_X8_framePkcs_54 G F fuel (W.ad (.o 8 0)) (W.ad (.o 0 ih)) (Int32.ofNat j) (mem W (S.so 0 69 o)) = some (mem W (S.so 0 69 o')) ∧ Byt 128 o' (xs ++ (infB.drop j ++ z)) false := by
  intro m
  induction m with
  | zero =>
    intro j fuel o xs hf hj hb hl
    obtain ⟨f, rfl⟩ : ∃ f, fuel = f + 1 := ⟨fuel - 1, by omega⟩
    have hj : j = 19 := by omega
    subst hj
    obtain ⟨o', g, b⟩ := Q0_putAll (G := G) (F := F) (S := S.so 0 69 o) h.b3 (by rw [so_eq]; exact hb) hZ (by rw [so_ne (by omega)]; exact bz)
    rw [so_so] at g
    rw [tkl_fit (by omega)] at b
    rw [B_X8_framePkcs_54, tab_ln (t := 8) X rfl, bO_s, if_pos (by decide), h.g3, bO_s, rcv_m h.b3.1, bO_s, g, bO_s]
    refine ⟨o', rfl, ?_⟩
    have e : lsl 128 xs z false = false := by
      unfold lsl
      rw [Bool.false_or, decide_eq_false (by omega)]
    rw [e] at b
    rw [show infB.drop 19 = [] from rfl, List.nil_append]
    exact b
  | succ m ih =>
    intro j fuel o xs hf hj hb hl
    obtain ⟨f, rfl⟩ : ∃ f, fuel = f + 1 := ⟨fuel - 1, by omega⟩
    have tt : aI G (mem W (S.so 0 69 o)) 0 (G.1 1008) (Int32.ofNat j) = some ((mtI 8).getD j 0) := tab_at (t := 8) X rfl (by decide) (by show j < 19; omega)
    obtain ⟨o1, g1, b1⟩ := put_fit (G := G) (F := F) (S := S) (x := (mtI 8).getD j 0) h.b3 hb (by omega)
    rw [inf_t j (by omega)] at b1
    obtain ⟨o2, g2, b2⟩ := ih (j + 1) f o1 _ (by omega) (by omega) b1 (by rw [List.length_append, List.length_singleton]; omega)
    refine ⟨o2, ?_, ?_⟩
    · rw [B_X8_framePkcs_54, tab_ln (t := 8) X rfl, bO_s, if_neg (by show ¬ (Int32.ofNat 19) ≤ (Int32.ofNat j); rw [n_le (by omega) (by omega)]; omega), h.g3, bO_s, tt, bO_s, rcv_m h.b3.1, bO_s, g1, bO_s, n_addL j 1]
      exact g2
    · have e : infB.drop j = infB.getD j 0 :: infB.drop (j + 1) := by
        have hk : j < infB.length := by show j < 19; omega
        rw [List.drop_eq_getElem_cons hk, List.getD_eq_getElem?_getD, List.getElem?_eq_getElem hk]
        rfl
      rw [e]
      rw [List.append_assoc] at b2
      exact b2
theorem Q8_framePkcs {ih rh many : Nat} {z t : List UInt8} {lz l : Bool} (X : Cx G F W) (h : isRs W) (hZ : isB W ih rh) (bz : Byt rh (S 0 ih) z lz) (nz : ih ≠ 69) (hz : z.length = 32) (hm : 54 ≤ many) (hm2 : many ≤ 128) (bt : Byt 128 (S 0 69) t l) : ∃ o, P_X8_framePkcs G F (W.ad (.o 8 0)) (W.ad (.o 0 ih)) (Int32.ofNat many) (mem W S) = some (mem W (S.so 0 69 o)) ∧ Byt 128 o (pkF z many) false := by
  have hF := X.hF
  obtain ⟨k0, k1, k255⟩ := lo8_k
  obtain ⟨o1, g1, b1⟩ := Q0_clear (G := G) (F := F) h.b3 bt
  obtain ⟨o2, g2, b2⟩ := put_fit (G := G) (F := F) (S := S) (x := 0) h.b3 b1 (by decide)
  obtain ⟨o3, g3, b3⟩ := put_fit (G := G) (F := F) (S := S) (x := 1) h.b3 b2 (by simp)
  rw [k0, k1] at b3
  obtain ⟨o4, g4, b4⟩ := Q0_putSame (G := G) (F := F) (S := S.so 0 69 o3) (x := 255) (cnt := many - 54) X h.b3 (by omega) (by rw [so_eq]; exact b3)
  rw [so_so] at g4
  have e4 : lsl 128 ([] ++ [(0 : UInt8)] ++ [1]) (List.replicate (many - 54) (lo8 255)) false = false := by
    unfold lsl
    rw [Bool.false_or, decide_eq_false (by simp; omega)]
  rw [e4, tkl_fit (by simp; omega), k255] at b4
  obtain ⟨o5, g5, b5⟩ := put_fit (G := G) (F := F) (S := S) (x := 0) h.b3 b4 (by simp; omega)
  rw [k0] at b5
  obtain ⟨o6, g6, b6⟩ := Q8_pk54 (G := G) (F := F) (S := S) X h hZ bz nz 19 0 F o5 _ (by omega) (by omega) b5 (by simp; omega)
  refine ⟨o6, ?_, ?_⟩
  · unfold P_X8_framePkcs
    have ec : (((Int32.ofNat many) - (3 : Int32)) - (Int32.ofNat (mtI 8).length)) - (32 : Int32) = (Int32.ofNat (many - 54)) := by
      show (((Int32.ofNat many) - (Int32.ofNat 3)) - (Int32.ofNat 19)) - (Int32.ofNat 32) = _
      rw [n_sub (by omega), n_sub (by omega), n_sub (by omega)]
      congr 1
    rw [h.g3, bO_s, rcv_m h.b3.1, bO_s, g1, bO_s, h.g3, bO_s, rcv_m h.b3.1, bO_s, g2, bO_s, h.g3, bO_s, rcv_m h.b3.1, bO_s, g3, bO_s, h.g3, bO_s, tab_ln (t := 8) X rfl, bO_s, rcv_m h.b3.1, bO_s, ec, g4, bO_s, h.g3, bO_s, rcv_m h.b3.1, bO_s, g5, bO_s]
    exact g6
  · have e : [] ++ [(0 : UInt8)] ++ [1] ++ List.replicate (many - 54) 255 ++ [0] ++ (infB.drop 0 ++ z) = pkF z many := by
      unfold pkF
      simp
    rw [e] at b6
    exact b6
end PKCS
