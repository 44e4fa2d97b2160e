/-! KEYS AGREED ON, AND SEALED: the class -/
/-- the shared number of a secret and a point -/
def shX (sec pt : List UInt8) : List UInt8 := beV 32 ((affS (mulS sec (ptOf pt))).getD (0, 0)).1
def nmI (a w : Nat) : Nat := if a = 4 then 59 + w else 38 + a
def nmW (a w : Nat) : List UInt8 := str (nmI a w)
def dkM (a w : Nat) : Nat := if a = 4 then wayK w else 16
def dkF (a w : Nat) (sec pt u v : List UInt8) : List UInt8 := derF (shX sec pt) (nmW a w) u v (dkM a w)
theorem dkM_v (a w : Nat) : dkM a w = 16 ∨ dkM a w = 32 ∨ dkM a w = 64 := by
  unfold dkM wayK
  split <;> (try split) <;> (try split) <;> (try split) <;> omega
theorem dkF_len (a w : Nat) (sec pt u v : List UInt8) : (dkF a w sec pt u v).length = dkM a w := derF_len (by rcases dkM_v a w with q | q | q <;> omega)
theorem mayW_w (w : Nat) : mayW (wayK w) = true := by
  unfold wayK
  split
  · decide
  · split
    · decide
    · split <;> decide
theorem nmW_len {a w : Nat} (ha : a < 6) (ha4 : 4 ≤ a) (hw : w < 4) : (nmW a w).length ≤ 16 := by
  have h4 : w = 0 ∨ w = 1 ∨ w = 2 ∨ w = 3 := by omega
  have h2 : a = 4 ∨ a = 5 := by omega
  rcases h2 with rfl | rfl <;> rcases h4 with rfl | rfl | rfl | rfl <;> decide
theorem shX_some {sec pt : List UInt8} (hl : sec.length = 32) (hs : secF sec = true) (ho : onC (beN (seg pt 0 32)) (beN (seg pt 32 32)) = true) : ∃ q, affS (mulS sec (ptOf pt)) = some q := by
  have h := of_decide_eq_true hs
  have := mul_some (p := (beN (seg pt 0 32), beN (seg pt 32 32))) ho hl h.1 h.2
  exact Option.isSome_iff_exists.mp this
theorem ptB_take (q : Nat × Nat) : (ptB q).take 32 = beV 32 q.1 := by
  unfold ptB
  rw [List.take_append_of_le_length (by rw [beV_len]; omega), List.take_of_length_le (by rw [beV_len]; omega)]
theorem maySl_kd {K : KY} {w way : Nat} {sec : Bool} (h : maySl K w way sec = true) : K.1 = slKd w ∧ slLn K w way sec = true := by
  unfold maySl at h
  rw [Bool.and_eq_true, Bool.and_eq_true, Bool.and_eq_true, decide_eq_true_iff] at h
  exact ⟨h.1, h.2.2.2⟩
theorem KyV.ec64 {K : KY} (h : KyV K) (e : K.1 = 2) : K.2.1.1.length = 64 := by
  obtain ⟨s, J, kd, k, h1, h2, h3, h4, h5⟩ := h
  rw [h5] at e ⊢
  have e : kd = 2 := e
  have q := (kyR_k h3).2
  rw [e] at q
  exact (kyN_2 q).1
abbrev agL3 : List (Nat × Nat) := [(3, 0), (6, 1), (4, 0), (0, 67), (0, 92), (0, 93)]
section CAG
variable {W : WR} {G : mG} {F : Nat} {S : ST} {j κ rk : Nat} {K : KY}
theorem Q11_agree {V : Nat → Int} {a w is_ ip iu iv rs_ rp ru rv : Nat} {sec pt u v : List UInt8} {ls lp lu lv : Bool} (X : Cx G F W) (A : isA W) (ab : AB W S) (C : CK S V) (ha : a < 6) (ha4 : 4 ≤ a) (hw : w < 4) (f1 : (S 10 0).f 1 = (Int32.ofNat a)) (f2 : (S 10 0).f 2 = (Int32.ofNat w)) (hS : isB W is_ rs_) (bs : Byt rs_ (S 0 is_) sec ls) (hl : sec.length = 32) (hs : secF sec = true) (hP : isB W ip rp) (bp : Byt rp (S 0 ip) pt lp) (hpl : 64 ≤ pt.length) (ho : onC (beN (seg pt 0 32)) (beN (seg pt 32 32)) = true) (hU : isB W iu ru) (bu : Byt ru (S 0 iu) u lu) (hV : isB W iv rv) (bv : Byt rv (S 0 iv) v lv) (nu : iu ∉ [67, 92, 93]) (nv : iv ∉ [67, 92, 93]) (hu : u.length ≤ 8192) (hv : v.length ≤ 8192) : ∃ S' V', P_X11_agree G F (W.ad (.o 11 0)) (W.ad (.o 0 is_)) (W.ad (.o 0 ip)) (W.ad (.o 0 iu)) (W.ad (.o 0 iv)) (mem W S) = some (mem W S') ∧ fr agL3 S S' ∧ AB W S' ∧ CK S' V' ∧ Byt 64 (S' 0 92) (dkF a w sec pt u v) false := by
  obtain ⟨h, hd, hrs, hcu, htk, hci, hco, h12, h13, h14, h15, h16, h17⟩ := id A
  obtain ⟨w4, B4, w5, B5, w6, B6, w3, B3⟩ := h.wk
  have g17 : ∀ S : ST, gfR (mem W S) (W.ad (.o 11 0)) 11 17 = some (W.ad (.o 10 0)) := fun S => h.gR rfl h17
  have g16 : ∀ S : ST, gfR (mem W S) (W.ad (.o 11 0)) 11 16 = some (W.ad (.o 3 0)) := fun S => h.gR rfl h16
  have g12 : ∀ S, gfR (mem W S) (W.ad (.o 10 0)) 10 12 = some (W.ad (.o 0 92)) := fun S => gfR_m htk.1.1 rfl (htk.2.2 12 (by decide) (by decide)).1
  have g13 : ∀ S, gfR (mem W S) (W.ad (.o 10 0)) 10 13 = some (W.ad (.o 0 93)) := fun S => gfR_m htk.1.1 rfl (htk.2.2 13 (by decide) (by decide)).1
  have B92 : isB W 92 64 := (htk.2.2 12 (by decide) (by decide)).2
  have B93 : isB W 93 16 := (htk.2.2 13 (by decide) (by decide)).2
  simp only [List.mem_cons, List.not_mem_nil, or_false, not_or] at nu nv
  obtain ⟨q, hq⟩ := shX_some hl hs ho
  obtain ⟨S1, V1, z1, k1, K1, e1, e1'⟩ := Q3_load (G := G) (F := F) X hcu C hP bp hpl
  obtain ⟨v11, v12⟩ := e1' ho
  obtain ⟨x10, l10, b10⟩ := ab 10 0 (by decide) B3
  have x0 : x10 = [] := List.length_eq_zero_iff.mp (by have := b10.le; omega)
  rw [x0] at b10
  obtain ⟨S2, V2, z2, k2, C2, e2, J2⟩ := Q3_sumUp (G := G) (F := F) (S := S1) (ms := sec) (ns := []) (pk := 1) (qk := 0) pr_p X hcu hS B3 (Or.inr rfl) (Or.inl rfl) K1.c K1.2.2.2.2.1 (Byt.lfr k1 bs) (Byt.lfr k1 b10)
  have ep : (V1 (9 + 2 * 1), V1 (10 + 2 * 1)) = ptOf pt := by
    show (V1 11, V1 12) = ptOf pt
    rw [v11, v12]
    rfl
  rw [sumS_nil _ _ _ (V1 (9 + 2 * 1), V1 (10 + 2 * 1)), ep] at J2
  have J2 : CJ V2 (mulS sec (ptOf pt)) := J2
  have K2 : CK S2 V2 := K1.keep k2 (by simp [wc]) C2 (fun k hk _ _ => e2 k hk)
  obtain ⟨x92, l92, b92⟩ := ab 92 64 (by decide) B92
  obtain ⟨S3, V3, z3, k3, K3, e3, r3⟩ := Q3_putSum (G := G) (F := F) (S := S2) (it := 92) X hcu K2 J2 B92 (by decide) (by decide) (Byt.lfr k2 (Byt.lfr k1 b92))
  rw [hq] at z3 r3
  have r3 : Byt 64 (S3 0 92) (ptB q) false := r3
  have fr3 : fr [(3, 0), (6, 1), (0, 92)] S S3 := ((k1.fr (L' := [(3, 0), (6, 1), (0, 92)]) (by simp [ow, wc])).trans (k2.fr (by simp [ow, wc]))).trans k3
  obtain ⟨o4, z4, b4⟩ := Q0_cutTo (G := G) (F := F) (S := S3) (n := 32) B92 r3 (by decide)
  rw [ptB_take, show beV 32 q.1 = shX sec pt by unfold shX; rw [hq]; rfl] at b4
  have shl : (shX sec pt).length = 32 := beV_len _ _
  have z4 : P_X0_cutTo G F (W.ad (.o 0 92)) 32 (mem W S3) = _ := z4
  obtain ⟨x93, l93, b93⟩ := ab 93 16 (by decide) B93
  obtain ⟨o5, z5, b5⟩ := Q0_clear (G := G) (F := F) (S := S3.so 0 92 o4) (i := 93) B93 (by rw [so_ne (by omega), fr3 0 93 (by simp)]; exact b93)
  have nl := nmW_len ha ha4 hw
  have hn1 : nmI a w < 124 := by unfold nmI; split <;> omega
  obtain ⟨o6, z6, b6⟩ := Q0_putText (G := G) (F := F) (S := (S3.so 0 92 o4).so 0 93 o5) (i := 93) (j := nmI a w) X B93 hn1 (by rw [so_eq]; exact b5)
  rw [so_so] at z6
  rw [show str (nmI a w) = nmW a w from rfl, tkl_fit (by rw [List.length_nil]; omega), lsl_fit (by rw [List.length_nil]; omega), List.nil_append] at b6
  obtain ⟨S6, hS6⟩ : ∃ S6, S6 = (S3.so 0 92 o4).so 0 93 o6 := ⟨_, rfl⟩
  rw [← hS6] at z6
  have fr6 : fr agL3 S S6 := by
    rw [hS6]
    exact ((fr3.mono (by simp)).trans (fr_so (by simp))).trans (fr_so (by simp))
  have e6 : ∀ i, i ≠ 92 → i ≠ 93 → S6 0 i = S 0 i := fun i q1 q2 => by rw [hS6, so_ne (by omega), so_ne (by omega), fr3 0 i (by simp; omega)]
  have b92' : Byt 64 (S6 0 92) (shX sec pt) false := by rw [hS6, so_ne (by omega), so_eq]; exact b4
  have b93' : Byt 16 (S6 0 93) (nmW a w) false := by rw [hS6, so_eq]; exact b6
  obtain ⟨y67, l67, b67⟩ := ab 67 64 (by decide) hd.in.2
  obtain ⟨S7, z7, k7, b7, b7'⟩ := Q4_putDerived (G := G) (F := F) (S := S6) (iz := 92) (inm := 93) (iu := iu) (iv := iv) (it := 92) (many := dkM a w) X hd B92 B93 hU hV B92 (by omega) (by omega) (by omega) (by omega) (by omega) b92' b93' (by rw [e6 _ (by omega) (by omega)]; exact bu) (by rw [e6 _ (by omega) (by omega)]; exact bv) b92' (by rw [e6 _ (by omega) (by omega)]; exact b67) (by omega) (by omega) (by omega) (by omega) (dkM_v a w) (by rcases dkM_v a w with q | q | q <;> omega)
  have fr7 : fr agL3 S S7 := fr6.trans (k7.mono (by simp))
  have K6 : CK S6 V3 := by
    rw [hS6]
    exact (K3.fr (L := [(0, 92)]) (fr_so (by simp)) (by simp)).fr (L := [(0, 93)]) (fr_so (by simp)) (by simp)
  have ab7 : AB W S7 := ab.keep fr7 (fun i room q hB => by
    simp only [List.mem_cons, Prod.mk.injEq, List.not_mem_nil, or_false] at q
    rcases q with q | q | q | q | q | q
    · omega
    · omega
    · omega
    · rw [q.2] at hB ⊢
      rw [hB.one hd.in.2]
      exact b7'
    · rw [q.2] at hB ⊢
      rw [hB.one B92]
      exact ⟨_, _, b7⟩
    · rw [q.2] at hB ⊢
      rw [hB.one B93, k7 0 93 (by simp)]
      exact ⟨_, _, b93'⟩)
  refine ⟨S7, V3, ?_, fr7, ab7, K6.fr k7 (by simp), b7⟩
  have e10 : ∀ o o', ((S3.so 0 92 o).so 0 93 o') 10 0 = S 10 0 := fun o o' => by rw [so_ne (by omega), so_ne (by omega), fr3 10 0 (by simp)]
  have x1 : ∀ o o', gfI (mem W ((S3.so 0 92 o).so 0 93 o')) (W.ad (.o 10 0)) 10 1 = some (Int32.ofNat a) := fun o o' => by rw [gfI_m htk.1.1 rfl, e10, f1]
  have x2 : ∀ o o', gfI (mem W ((S3.so 0 92 o).so 0 93 o')) (W.ad (.o 10 0)) 10 2 = some (Int32.ofNat w) := fun o o' => by rw [gfI_m htk.1.1 rfl, e10, f2]
  have y1 : gfI (mem W S6) (W.ad (.o 10 0)) 10 1 = some (Int32.ofNat a) := by rw [hS6]; exact x1 _ _
  have y2 : gfI (mem W S6) (W.ad (.o 10 0)) 10 2 = some (Int32.ofNat w) := by rw [hS6]; exact x2 _ _
  have x4 : ((Int32.ofNat a) = (4 : Int32)) = (a = 4) := propext (n_eq (b := 4) (by omega) (by omega))
  unfold P_X11_agree B_X11_agree_115
  rw [g16, bO_s, rcv_m hcu.1, bO_s, z1, bP_s, g16, bO_s, bO_s, hcu.gA 1 (by decide) rfl, bO_s, h.gR rfl w3, bO_s, bO_s, hcu.gA 0 (by decide) rfl, bO_s, rcv_m hcu.1, bO_s, z2, bO_s, g16, bO_s, g17, bO_s, g12, bO_s, rcv_m hcu.1, bO_s, z3, bP_s, g17, bO_s, g12, bO_s, rcv_m B92.lo, bO_s, z4, bO_s, g17, bO_s, g13, bO_s, rcv_m B93.lo, bO_s, z5, bO_s, g17, bO_s, g13, bO_s, bO_s, x1, bO_s]
  simp only [x4]
  by_cases c : a = 4
  · have hi : 59 + w = nmI a w := by unfold nmI; rw [if_pos c]
    have dm : wayK w = dkM a w := by unfold dkM; rw [if_pos c]
    rw [if_pos c, bO_s, x2, bO_s, Q11_way hw, bP_s, hi, rcv_m B93.lo, bO_s, z6, bO_s, h.gR rfl h12, bO_s, g17, bO_s, g12, bO_s, bO_s, g13, bO_s, bO_s, y1, bO_s]
    simp only [x4]
    rw [if_pos c, bO_s, y2, bO_s, way_t5 X hw, bO_s, bO_s, g12, bO_s, rcv_m hd.1, bO_s, dm, z7, bO_s]
  · have hi : 33 + (5 + a) = nmI a w := by unfold nmI; rw [if_neg c]; omega
    have dm : (16 : Int32) = (Int32.ofNat (dkM a w)) := by unfold dkM; rw [if_neg c]; rfl
    rw [if_neg c, bO_s, x1, bO_s, show (5 : Int32) + (Int32.ofNat a) = (Int32.ofNat (5 + a)) from n_add 5 a, Q11_alg (by omega), bP_s, hi, rcv_m B93.lo, bO_s, z6, bO_s, h.gR rfl h12, bO_s, g17, bO_s, g12, bO_s, bO_s, g13, bO_s, bO_s, y1, bO_s]
    simp only [x4]
    rw [if_neg c, bO_s, g12, bO_s, rcv_m hd.1, bO_s, dm, z7, bO_s]
end CAG
