/-! CALL print: the class -/
section PRT
variable {W : WR} {G : mG} {F : Nat} {S : ST} {z sl z0 s0 : Nat} {σ κ rk : Nat → Nat} {A : Nat → Option KY}
theorem prF_len {K : KY} (V : KyV K) (h1 : K.2.1.1.length ≤ 128) (h2 : K.2.1.2.1.length ≤ 128) : (prF K).length ≤ 1000 := by
  have s44 := str_lt (j := 44) (by decide)
  have s45 := str_lt (j := 45) (by decide)
  have s46 := str_lt (j := 46) (by decide)
  have s47 := str_lt (j := 47) (by decide)
  have s48 := str_lt (j := 48) (by decide)
  have s49 := str_lt (j := 49) (by decide)
  have s50 := str_lt (j := 50) (by decide)
  have s51 := str_lt (j := 51) (by decide)
  unfold prF
  split
  · simp only [List.length_append, enc_len]
    omega
  · split
    · simp only [List.length_append, enc_len]
      omega
    · have e2 : K.1 = 2 := by have := V.kd; omega
      have l := V.p64 e2
      have l1 : (seg K.2.1.1 0 32).length = 32 := seg_len (by omega)
      have l2 : (seg K.2.1.1 32 32).length = 32 := seg_len (by omega)
      unfold pmF
      simp only [List.length_append, enc_len, l1, l2, List.length_cons, List.length_nil]
      omega
def prtW (A : Nat → Option KY) (x : Int32) : Option KY := if isk A x = true then A x.toNatClampNeg else none
theorem Q11_print {t wk : List UInt8} {l lw : Bool} (X : Cx G F W) (hT : isT W) (hd : isD W) (h12 : W.r 11 0 12 = some (.o 4 0)) (h : KHS W S z sl z0 s0 σ κ rk A) (bs : Byt 8192 (S 0 9) t l) (bw : Byt 22528 (S 0 11) wk lw) (x : Int32) : match prtW A x with | none => P_X11_print G F (W.ad (.o 11 0)) x (mem W S) = some (-2, mem W S) | some K => ∃ S', P_X11_print G F (W.ad (.o 11 0)) x (mem W S) = some (32, mem W S') ∧ fr [(4, 0), (0, 9), (0, 11)] S S' ∧ Byt 8192 (S' 0 9) (sha false (prF K)) false ∧ Byt 22528 (S' 0 11) (prF K) false := by
  have g10 : ∀ S : ST, gfR (mem W S) (W.ad (.o 11 0)) 11 10 = some (W.ad (.a 11 0 10)) := fun S => gfR_m hT.lo rfl h.2.1.1
  have w4 : W.r 11 0 4 = some (.o 0 11) := hT.2.2.2.2.2.2.2.2.2.2.2.2.1
  have wb : isB W 11 22528 := hT.2.2.2.2.2.2.2.2.2.2.2.2.2.1
  have neg : isk A x = false → prtW A x = none ∧ P_X11_print G F (W.ad (.o 11 0)) x (mem W S) = some (-2, mem W S) := by
    intro e
    unfold P_X11_print prtW
    rw [rcv_m hT.lo, bO_s, Q11_isKey h hT.lo, bP_s, e]
    refine ⟨if_neg Bool.false_ne_true, ?_⟩
    rw [if_neg Bool.false_ne_true, if_pos rfl]
  rcases isk_cases A x with ⟨q, e⟩ | ⟨k, hk, rfl, e⟩
  · obtain ⟨n1, n2⟩ := neg e
    rw [n1]
    exact n2
  · cases eA : A k with
    | none =>
      obtain ⟨n1, n2⟩ := neg (by rw [e, eA]; rfl)
      rw [n1]
      exact n2
    | some K =>
      have e' : isk A (Int32.ofNat k) = true := by rw [e, eA]; rfl
      have ep : prtW A (Int32.ofNat k) = some K := by unfold prtW; rw [if_pos e', n_at (by omega)]; exact eA
      rw [ep]
      obtain ⟨H, hj, O, V, _, _, _⟩ := h.at_ hk eA
      have ln := prF_len V O.2.2.2.2.2.1.1.le O.2.2.2.2.2.1.2.1.le
      obtain ⟨o1, g1, b1⟩ := Q0_clear (G := G) (F := F) (S := S) wb bw
      obtain ⟨o2, g2, b2⟩ := Q5_putPrinted (G := G) (F := F) (S := S.so 0 11 o1) X H hj (O.same (fun _ _ => by rw [so_ne (by omega)]) (so_ne (by have := (h.at_ hk eA).2.2.2.2.2.2; omega)) (so_ne (by omega)) (so_ne (by omega)) (so_ne (by omega))) V wb (by rw [so_eq]; exact b1) (by decide)
      rw [so_so] at g2
      rw [tkl_fit (by simp; omega), lsl_fit (by simp; omega), List.nil_append] at b2
      obtain ⟨S2, hS2⟩ : ∃ S2, S2 = S.so 0 11 o2 := ⟨_, rfl⟩
      rw [← hS2] at g2
      have f2 : fr [(4, 0), (0, 9), (0, 11)] S S2 := by rw [hS2]; exact fr_so (by simp)
      have b2' : Byt 22528 (S2 0 11) (prF K) false := by rw [hS2, so_eq]; exact b2
      obtain ⟨o3, g3, d3, a3⟩ := Q4_start (G := G) (F := F) (S := S2) (wide := false) X hd
      obtain ⟨o4, g4, d4, a4⟩ := Q4_addAll (G := G) (F := F) (S := S2) (i := 11) (xs := prF K) X hd wb b2' (by omega) d3 (by decide)
      obtain ⟨o5, g5, b5⟩ := Q0_clear (G := G) (F := F) (S := S2.so 4 0 o4) hT.sb (by rw [so_ne (by omega), hS2, so_ne (by omega)]; exact bs)
      obtain ⟨S6, g6, f6, d6, a6, b6⟩ := Q4_finish (G := G) (F := F) (S := (S2.so 4 0 o4).so 0 9 o5) (i := 9) (xs := []) (lost := false) X hd hT.sb (by rw [so_ne (by omega), so_eq]; exact d4) (by rw [List.nil_append]; omega) (by rw [so_eq]; exact b5)
      rw [List.nil_append] at b6
      have hsl := sha64 false (prF K)
      rw [tkl_fit (by simp; omega), lsl_fit (by simp; omega), List.nil_append] at b6
      have f26 : fr [(4, 0), (0, 9)] S2 S6 := ((fr_so (by simp)).trans (fr_so (by simp))).trans f6
      refine ⟨S6, ?_, f2.trans (f26.mono (by simp)), b6, by rw [f26 0 11 (by simp)]; exact b2'⟩
      unfold P_X11_print
      have g3' : P_X4_start G F (W.ad (.o 4 0)) 256 (mem W S2) = _ := g3
      rw [rcv_m hT.lo, bO_s, Q11_isKey h hT.lo, bP_s, e', if_pos rfl, if_neg (by decide), hT.gR rfl w4, bO_s, rcv_m wb.lo, bO_s, g1, bO_s, g10, bO_s, h.ky hk, bO_s, hT.gR rfl w4, bO_s, rcv_m H.1, bO_s, g2, bO_s, hT.gR rfl h12, bO_s, rcv_m hd.1, bO_s, g3', bO_s, hT.gR rfl h12, bO_s, hT.gR rfl w4, bO_s, bO_s, wb.gI 1 rfl, bO_s, rcv_m hd.1, bO_s, so_ne (by omega), b2'.many, g4, bO_s, hT.gR rfl hT.shown, bO_s, rcv_m hT.sb.lo, bO_s, g5, bO_s, hT.gR rfl h12, bO_s, hT.gR rfl hT.shown, bO_s, rcv_m hd.1, bO_s, g6, bO_s, hT.gR rfl hT.shown, bO_s, hT.sb.gI 1 rfl, bO_s, b6.many, sha_len]
      rfl
end PRT
