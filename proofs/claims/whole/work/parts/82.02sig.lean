/-! THE CLASS'S SIGNATURES OF POINTS -/
theorem T_lead {n m : Nat} (h1 : 1 < m) (h2 : m % 2 = 1) (a b : Nat) : a * (b * 4294967296 ^ n % m) * RI n m % m = a * b % m := by
  rw [mc (mc (a := a) rfl (Nat.mod_mod (b * 4294967296 ^ n) m)) rfl, show a * (b * 4294967296 ^ n) * RI n m = a * b * (4294967296 ^ n * RI n m) by ac_rfl]
  exact RI_one h1 h2 _
theorem affS_lt {s : JP} {q : Nat × Nat} (h : affS s = some q) : q.1 < pP ∧ q.2 < pP := by
  match s, h with
  | some (x, y, z), h =>
    have h : some (rs pP (x * (zin z * zin z)), rs pP (y * (zin z * zin z * zin z))) = some q := h
    obtain rfl := Option.some.inj h
    exact ⟨rs_lt pP_1 _, rs_lt pP_1 _⟩
  | none, h => exact absurd h (by rintro ⟨⟩)
theorem ptB_x {q : Nat × Nat} (h : q.1 < pP) : beN (seg (ptB q) 0 32) = q.1 := by
  unfold seg ptB
  rw [List.drop_zero, List.take_left' (beV_len 32 q.1), beN_32 (by omega)]
abbrev niv (k : Nat) : Nat := rz k nP (beV 32 (nP - 2)) 256
def sgS (r d z k : Nat) : Nat := (r * d % nP + z) % nP * niv k % nP
/-- the signature of a hash with a secret d and a number k -/
def sigF (hash d k : List UInt8) : Option (Nat × Nat) := if secF (seg k 0 32) = true then (match affS (mulS (seg k 0 32) bpt) with
  | none => none
  | some q => if q.1 % nP = 0 ∨ sgS (q.1 % nP) (beN (seg d 0 32) % nP) (beN (seg hash 0 32) % nP) (beN (seg k 0 32) % nP) = 0 then none else some (q.1 % nP, sgS (q.1 % nP) (beN (seg d 0 32) % nP) (beN (seg hash 0 32) % nP) (beN (seg k 0 32) % nP))) else none
theorem onC_bpt : onC bX_ bY_ = true := onC_b
theorem k_some {k : List UInt8} (hl : k.length = 32) (h : secF k = true) : ∃ q, affS (mulS k bpt) = some q := by
  have h := of_decide_eq_true h
  have := mul_some (p := (bX_, bY_)) onC_b hl h.1 h.2
  exact Option.isSome_iff_exists.mp this
theorem uu_eq (U : Nat → Nat) (k v : Nat) : uu U k v k = v := if_pos rfl
theorem uu_ne {U : Nat → Nat} {k v j : Nat} (h : j ≠ k) : uu U k v j = U j := if_neg h
section SIGC
variable {W : WR} {G : mG} {F : Nat} {S : ST} {V : Nat → Int}
theorem Q3_putSignature {ih id_ ik it rh rd rk rt : Nat} {z d k t u w : List UInt8} {lz ld lk lt lu lw : Bool} (pr : PrP) (X : Cx G F W) (h : isCu W) (K : CK S V) (hZ : isB W ih rh) (bz : Byt rh (S 0 ih) z lz) (hlz : 32 ≤ z.length) (hD : isB W id_ rd) (bd : Byt rd (S 0 id_) d ld) (hld : 32 ≤ d.length) (hK : isB W ik rk) (bk : Byt rk (S 0 ik) k lk) (hT : isB W it rt) (bt : Byt rt (S 0 it) t lt) (hrt : 64 ≤ rt) (b76 : Byt 64 (S 0 76) u lu) (b78 : Byt 32 (S 0 78) w lw) (nz : ih ≠ 76 ∧ ih ≠ 78) (nd : id_ ≠ 76 ∧ id_ ≠ 78) (nk : ik ≠ 76 ∧ ik ≠ 78) (nt : it ∉ [72, 73, 74, 75, 76, 78, 79]) (hk32 : rk < 90000) : ∃ S' V', P_X3_putSignature G F (W.ad (.o 3 0)) (W.ad (.o 0 ih)) (W.ad (.o 0 id_)) (W.ad (.o 0 ik)) (W.ad (.o 0 it)) (mem W S) = some (if 32 ≤ k.length ∧ (sigF z d k).isSome = true then 1 else 0, mem W S') ∧ fr [(3, 0), (6, 1), (6, 2), (0, 76), (0, 78), (0, it)] S S' ∧ CK S' V' ∧ (∃ u l, Byt 64 (S' 0 76) u l) ∧ (∃ w l, Byt 32 (S' 0 78) w l) ∧ (if 32 ≤ k.length then (match sigF z d k with | some rs => Byt rt (S' 0 it) (beV 32 rs.1 ++ beV 32 rs.2) false | none => S' 0 it = S 0 it) else S' 0 it = S 0 it) := by
  have kl := bk.le
  unfold P_X3_putSignature
  rw [hK.gI 1 rfl, bO_s, bk.many]
  by_cases c32 : 32 ≤ k.length
  · rw [if_neg (fun q => by rw [lit 32, n_lt (by omega) (by omega)] at q; omega)]
    simp only [c32, true_and, if_true]
    have s0 := Q3_isSecret (G := G) (F := F) (at_ := 0) X h K hK bk (by omega)
    have s0' : P_X3_isSecret G F (W.ad (.o 3 0)) (W.ad (.o 0 ik)) 0 (mem W S) = _ := s0
    rw [rcv_m h.1, bO_s, s0', bP_s]
    cases c0 : secF (seg k 0 32) with
    | false =>
      have e : sigF z d k = none := by unfold sigF; rw [c0]; rfl
      rw [if_neg Bool.false_ne_true, if_pos rfl, retZ0, e]
      exact ⟨S, V, rfl, fr.refl _ _, K, ⟨u, lu, b76⟩, ⟨w, lw, b78⟩, rfl⟩
    | true =>
      rw [if_pos rfl, if_neg (by decide)]
      obtain ⟨q, ha⟩ := k_some (seg_len (xs := k) (p := 0) (n := 32) (by omega)) c0
      have e9 : (V (9 + 2 * 0), V (10 + 2 * 0)) = bpt := by
        show (V 9, V 10) = bpt
        rw [K.2.1, K.2.2.1]
        rfl
      obtain ⟨o1, p1, bo1⟩ := Q0_clear (G := G) (F := F) h.b14 b78
      have fa : fr [(0, 78)] S (S.so 0 78 o1) := fr_so (by simp)
      obtain ⟨o2, p2, bo2⟩ := Q0_putPart (G := G) (F := F) (S := S.so 0 78 o1) (p := 0) (n := 32) h.b14 (by rw [so_eq]; exact bo1) hK (by rw [fa 0 ik (by simp; exact nk.2)]; exact bk) (by omega)
      rw [so_so] at p2
      have p2' : P_X0_putPart G F (W.ad (.o 0 78)) (W.ad (.o 0 ik)) 0 32 (mem W (S.so 0 78 o1)) = some (mem W (S.so 0 78 o2)) := p2
      have fb : fr [(0, 78)] S (S.so 0 78 o2) := fr_so (by simp)
      have ek : tkl 32 [] ((k.drop 0).take 32) = seg k 0 32 := by
        unfold tkl seg
        rw [List.nil_append, List.take_of_length_le (by rw [List.length_take]; omega)]
      have el : lsl 32 [] ((k.drop 0).take 32) false = false := by
        unfold lsl
        rw [Bool.false_or, decide_eq_false (by rw [List.length_take, List.length_drop, List.length_nil]; omega)]
      rw [ek, el] at bo2
      have Kb : CK (S.so 0 78 o2) V := K.fr fb (by simp)
      rw [h.g14, bO_s, rcv_m h.b14.1, bO_s, p1, bO_s, h.g14, bO_s, rcv_m h.b14.1, bO_s, p2', bO_s]
      obtain ⟨Sa, Va, ga, fa', Ca, ka, Ja⟩ := Q3_sumUp (G := G) (F := F) (S := S.so 0 78 o2) (ms := seg k 0 32) (ns := []) (pk := 0) (qk := 0) pr X h h.b14 h.b15 (Or.inl rfl) (Or.inl rfl) Kb.c Kb.2.2.2.2.1 (by rw [so_eq]; exact bo2) Kb.2.2.2.2.2.2.2.2.2.2
      rw [sumS_nil _ _ _ (V (9 + 2 * 0), V (10 + 2 * 0)), e9] at Ja
      have Ka : CK Sa Va := Kb.keep fa' (by simp [wc]) Ca (fun k hk _ _ => ka k hk)
      have fra : fr [(3, 0), (6, 1), (6, 2), (0, 76), (0, 78), (0, it)] S Sa := (fb.mono (by simp)).trans (fa'.fr (L' := [(3, 0), (6, 1), (6, 2), (0, 76), (0, 78), (0, it)]) (by simp [ow, wc]))
      obtain ⟨S0, V0, g0, f0, K0, k0, r0⟩ := Q3_putSum (G := G) (F := F) (it := 76) X h Ka Ja h.b12 (by decide) (by decide) (Byt.lfr fa' (by rw [fb 0 76 (by simp)]; exact b76))
      have r0' : match affS (mulS (seg k 0 32) bpt) with | some q => Byt 64 (S0 0 76) (ptB q) false | none => S0 = Sa := r0
      rw [ha] at r0'
      have bp_0 : Byt 64 (S0 0 76) (ptB q) false := r0'
      have fr0 : fr [(3, 0), (6, 1), (6, 2), (0, 76), (0, 78), (0, it)] S S0 := fra.trans (f0.mono (by simp))
      have frm : fr [(3, 0), (6, 1), (6, 2), (0, 76), (0, 78)] S S0 := ((fb.mono (by simp)).trans (fa'.fr (L' := [(3, 0), (6, 1), (6, 2), (0, 76), (0, 78)]) (by simp [ow, wc]))).trans (f0.mono (by simp))
      have bz_0 : Byt rh (S0 0 ih) z lz := by rw [frm 0 ih (by simp; exact nz)]; exact bz
      have bd_0 : Byt rd (S0 0 id_) d ld := by rw [frm 0 id_ (by simp; exact nd)]; exact bd
      have bk_0 : Byt rk (S0 0 ik) k lk := by rw [frm 0 ik (by simp; exact nk)]; exact bk
      have et0 : S0 0 it = S 0 it := frm 0 it (by simp at nt ⊢; omega)
      have bt_0 : Byt rt (S0 0 it) t lt := by rw [et0]; exact bt
      have bw_0 : Byt 32 (S0 0 78) (seg k 0 32) false := by
        rw [f0 0 78 (by simp)]
        exact Byt.lfr fa' (by rw [so_eq]; exact bo2)
      obtain ⟨U0, O0⟩ := OC.of K0
      obtain ⟨qq, hqq⟩ : ∃ x, x = (V0 11, V0 12) := ⟨_, rfl⟩
      rw [← hqq] at O0
      have qx := ptB_x (affS_lt ha).1
      rw [h.g14, bO_s, h.gA 0 (by decide) rfl, bO_s, h.g15, bO_s, bO_s, rcv_m h.1, bO_s, ga, bO_s, h.g12, bO_s, rcv_m h.1, bO_s, g0, bP_s]
      rw [h.gA 11 (by decide) rfl, bO_s, h.gl 11 0 (by decide), bO_s, bO_s, h.gl 11 1 (by decide), bO_s, bO_s, h.gl 11 2 (by decide), bO_s]
      obtain ⟨S1, g1, f1, O1⟩ := ou_take (G := G) (F := F) (p := 0) (k := 0) X h O0 (by decide) h.b12 bp_0 (by rw [ptB_len]; decide)
      have g1' : P_X6_take G F (W.ad (.o 6 2)) (W.ad (.o 0 76)) 0 32 (W.ad (.b 3 0 11 0)) (mem W S0) = some (mem W S1) := g1
      obtain ⟨U1, hU1⟩ : ∃ u, u = uu U0 0 (q.1 % nP) := ⟨_, rfl⟩
      have O1 : OC S1 U1 qq := by rw [hU1]; rw [← qx]; exact O1
      have u1_0 : U1 0 = q.1 % nP := by rw [hU1, uu_eq]
      rw [h.gn, bO_s, h.g12, bO_s, rcv_m h.mn.1, bO_s, g1', bO_s]
      have bp_1 := Byt.lfr f1 bp_0
      have bz_1 := Byt.lfr f1 bz_0
      have bd_1 := Byt.lfr f1 bd_0
      have bk_1 := Byt.lfr f1 bk_0
      have bt_1 := Byt.lfr f1 bt_0
      have bw_1 := Byt.lfr f1 bw_0
      obtain ⟨S2, g2, f2, O2⟩ := ou_take (G := G) (F := F) (p := 0) (k := 2) X h O1 (by decide) hD bd_1 (by omega)
      have g2' : P_X6_take G F (W.ad (.o 6 2)) (W.ad (.o 0 id_)) 0 32 (W.ad (.b 3 0 11 2)) (mem W S1) = some (mem W S2) := g2
      obtain ⟨U2, hU2⟩ : ∃ u, u = uu U1 2 (beN (seg d 0 32) % nP) := ⟨_, rfl⟩
      have O2 : OC S2 U2 qq := by rw [hU2]; exact O2
      have u2_0 : U2 0 = q.1 % nP := by rw [hU2, uu_ne (by decide), u1_0]
      have u2_2 : U2 2 = beN (seg d 0 32) % nP := by rw [hU2, uu_eq]
      rw [h.gn, bO_s, rcv_m h.mn.1, bO_s, g2', bO_s]
      have bp_2 := Byt.lfr f2 bp_1
      have bz_2 := Byt.lfr f2 bz_1
      have bd_2 := Byt.lfr f2 bd_1
      have bk_2 := Byt.lfr f2 bk_1
      have bt_2 := Byt.lfr f2 bt_1
      have bw_2 := Byt.lfr f2 bw_1
      obtain ⟨S3, g3, f3, O3⟩ := ou_lead (G := G) (F := F) (k := 2) X h O2 (by decide)
      have g3' : P_X6_lead G F (W.ad (.o 6 2)) (W.ad (.b 3 0 11 2)) (mem W S2) = some (mem W S3) := g3
      obtain ⟨U3, hU3⟩ : ∃ u, u = uu U2 2 (beN (seg d 0 32) % nP * 4294967296 ^ 8 % nP) := ⟨_, rfl⟩
      have O3 : OC S3 U3 qq := by rw [hU3]; rw [← u2_2]; exact O3
      have u3_0 : U3 0 = q.1 % nP := by rw [hU3, uu_ne (by decide), u2_0]
      have u3_2 : U3 2 = beN (seg d 0 32) % nP * 4294967296 ^ 8 % nP := by rw [hU3, uu_eq]
      rw [h.gn, bO_s, rcv_m h.mn.1, bO_s, g3', bO_s]
      have bp_3 := Byt.lfr f3 bp_2
      have bz_3 := Byt.lfr f3 bz_2
      have bd_3 := Byt.lfr f3 bd_2
      have bk_3 := Byt.lfr f3 bk_2
      have bt_3 := Byt.lfr f3 bt_2
      have bw_3 := Byt.lfr f3 bw_2
      obtain ⟨S4, g4, f4, O4⟩ := ou_times (G := G) (F := F) (i := 0) (j := 2) (k := 1) X h O3 (by decide) (by decide) (by decide) (by rw [u3_2]; exact Nat.mod_lt _ n_pos)
      have g4' : P_X6_times G F (W.ad (.o 6 2)) (W.ad (.b 3 0 11 0)) (W.ad (.b 3 0 11 2)) (W.ad (.b 3 0 11 1)) (mem W S3) = some (mem W S4) := g4
      obtain ⟨U4, hU4⟩ : ∃ u, u = uu U3 1 (q.1 % nP * (beN (seg d 0 32) % nP) % nP) := ⟨_, rfl⟩
      have O4 : OC S4 U4 qq := by rw [hU4]; rw [← T_lead (n := 8) nP_1 nP_2 (q.1 % nP), ← u3_2, ← u3_0]; exact O4
      have u4_0 : U4 0 = q.1 % nP := by rw [hU4, uu_ne (by decide), u3_0]
      have u4_1 : U4 1 = q.1 % nP * (beN (seg d 0 32) % nP) % nP := by rw [hU4, uu_eq]
      have u4_2 : U4 2 = beN (seg d 0 32) % nP * 4294967296 ^ 8 % nP := by rw [hU4, uu_ne (by decide), u3_2]
      rw [h.gn, bO_s, rcv_m h.mn.1, bO_s, g4', bO_s]
      have bp_4 := Byt.lfr f4 bp_3
      have bz_4 := Byt.lfr f4 bz_3
      have bd_4 := Byt.lfr f4 bd_3
      have bk_4 := Byt.lfr f4 bk_3
      have bt_4 := Byt.lfr f4 bt_3
      have bw_4 := Byt.lfr f4 bw_3
      obtain ⟨S5, g5, f5, O5⟩ := ou_take (G := G) (F := F) (p := 0) (k := 2) X h O4 (by decide) hZ bz_4 (by omega)
      have g5' : P_X6_take G F (W.ad (.o 6 2)) (W.ad (.o 0 ih)) 0 32 (W.ad (.b 3 0 11 2)) (mem W S4) = some (mem W S5) := g5
      obtain ⟨U5, hU5⟩ : ∃ u, u = uu U4 2 (beN (seg z 0 32) % nP) := ⟨_, rfl⟩
      have O5 : OC S5 U5 qq := by rw [hU5]; exact O5
      have u5_0 : U5 0 = q.1 % nP := by rw [hU5, uu_ne (by decide), u4_0]
      have u5_1 : U5 1 = q.1 % nP * (beN (seg d 0 32) % nP) % nP := by rw [hU5, uu_ne (by decide), u4_1]
      have u5_2 : U5 2 = beN (seg z 0 32) % nP := by rw [hU5, uu_eq]
      rw [h.gn, bO_s, rcv_m h.mn.1, bO_s, g5', bO_s]
      have bp_5 := Byt.lfr f5 bp_4
      have bz_5 := Byt.lfr f5 bz_4
      have bd_5 := Byt.lfr f5 bd_4
      have bk_5 := Byt.lfr f5 bk_4
      have bt_5 := Byt.lfr f5 bt_4
      have bw_5 := Byt.lfr f5 bw_4
      obtain ⟨S6, g6, f6, O6⟩ := ou_plus (G := G) (F := F) (i := 1) (j := 2) (k := 1) X h O5 (by decide) (by decide) (by decide) (by rw [u5_1, u5_2]; have a1 := Nat.mod_lt (q.1 % nP * (beN (seg d 0 32) % nP)) n_pos; have a2 := Nat.mod_lt (beN (seg z 0 32)) n_pos; omega)
      have g6' : P_X6_plus G F (W.ad (.o 6 2)) (W.ad (.b 3 0 11 1)) (W.ad (.b 3 0 11 2)) (W.ad (.b 3 0 11 1)) (mem W S5) = some (mem W S6) := g6
      obtain ⟨U6, hU6⟩ : ∃ u, u = uu U5 1 ((q.1 % nP * (beN (seg d 0 32) % nP) % nP + beN (seg z 0 32) % nP) % nP) := ⟨_, rfl⟩
      have O6 : OC S6 U6 qq := by rw [hU6]; rw [← u5_1, ← u5_2]; exact O6
      have u6_0 : U6 0 = q.1 % nP := by rw [hU6, uu_ne (by decide), u5_0]
      have u6_1 : U6 1 = (q.1 % nP * (beN (seg d 0 32) % nP) % nP + beN (seg z 0 32) % nP) % nP := by rw [hU6, uu_eq]
      have u6_2 : U6 2 = beN (seg z 0 32) % nP := by rw [hU6, uu_ne (by decide), u5_2]
      rw [h.gn, bO_s, rcv_m h.mn.1, bO_s, g6', bO_s]
      have bp_6 := Byt.lfr f6 bp_5
      have bz_6 := Byt.lfr f6 bz_5
      have bd_6 := Byt.lfr f6 bd_5
      have bk_6 := Byt.lfr f6 bk_5
      have bt_6 := Byt.lfr f6 bt_5
      have bw_6 := Byt.lfr f6 bw_5
      obtain ⟨S7, g7, f7, O7⟩ := ou_take (G := G) (F := F) (p := 0) (k := 2) X h O6 (by decide) hK bk_6 (by omega)
      have g7' : P_X6_take G F (W.ad (.o 6 2)) (W.ad (.o 0 ik)) 0 32 (W.ad (.b 3 0 11 2)) (mem W S6) = some (mem W S7) := g7
      obtain ⟨U7, hU7⟩ : ∃ u, u = uu U6 2 (beN (seg k 0 32) % nP) := ⟨_, rfl⟩
      have O7 : OC S7 U7 qq := by rw [hU7]; exact O7
      have u7_0 : U7 0 = q.1 % nP := by rw [hU7, uu_ne (by decide), u6_0]
      have u7_1 : U7 1 = (q.1 % nP * (beN (seg d 0 32) % nP) % nP + beN (seg z 0 32) % nP) % nP := by rw [hU7, uu_ne (by decide), u6_1]
      have u7_2 : U7 2 = beN (seg k 0 32) % nP := by rw [hU7, uu_eq]
      rw [h.gn, bO_s, rcv_m h.mn.1, bO_s, g7', bO_s]
      have bp_7 := Byt.lfr f7 bp_6
      have bz_7 := Byt.lfr f7 bz_6
      have bd_7 := Byt.lfr f7 bd_6
      have bk_7 := Byt.lfr f7 bk_6
      have bt_7 := Byt.lfr f7 bt_6
      have bw_7 := Byt.lfr f7 bw_6
      obtain ⟨S8, g8, f8, O8⟩ := ou_raise (G := G) (F := F) (k := 2) X h O7 (by decide)
      have g8' : P_X6_raise G F (W.ad (.o 6 2)) (W.ad (.b 3 0 11 2)) (W.ad (.o 0 75)) (W.ad (.b 3 0 11 2)) (mem W S7) = some (mem W S8) := g8
      obtain ⟨U8, hU8⟩ : ∃ u, u = uu U7 2 (niv (beN (seg k 0 32) % nP)) := ⟨_, rfl⟩
      have O8 : OC S8 U8 qq := by rw [hU8]; rw [← u7_2]; exact O8
      have u8_0 : U8 0 = q.1 % nP := by rw [hU8, uu_ne (by decide), u7_0]
      have u8_1 : U8 1 = (q.1 % nP * (beN (seg d 0 32) % nP) % nP + beN (seg z 0 32) % nP) % nP := by rw [hU8, uu_ne (by decide), u7_1]
      have u8_2 : U8 2 = niv (beN (seg k 0 32) % nP) := by rw [hU8, uu_eq]
      rw [h.gn, bO_s, h.gb 3 (by decide), bO_s, rcv_m h.mn.1, bO_s, g8', bO_s]
      have bp_8 := Byt.lfr f8 bp_7
      have bz_8 := Byt.lfr f8 bz_7
      have bd_8 := Byt.lfr f8 bd_7
      have bk_8 := Byt.lfr f8 bk_7
      have bt_8 := Byt.lfr f8 bt_7
      have bw_8 := Byt.lfr f8 bw_7
      obtain ⟨S9, g9, f9, O9⟩ := ou_lead (G := G) (F := F) (k := 2) X h O8 (by decide)
      have g9' : P_X6_lead G F (W.ad (.o 6 2)) (W.ad (.b 3 0 11 2)) (mem W S8) = some (mem W S9) := g9
      obtain ⟨U9, hU9⟩ : ∃ u, u = uu U8 2 (niv (beN (seg k 0 32) % nP) * 4294967296 ^ 8 % nP) := ⟨_, rfl⟩
      have O9 : OC S9 U9 qq := by rw [hU9]; rw [← u8_2]; exact O9
      have u9_0 : U9 0 = q.1 % nP := by rw [hU9, uu_ne (by decide), u8_0]
      have u9_1 : U9 1 = (q.1 % nP * (beN (seg d 0 32) % nP) % nP + beN (seg z 0 32) % nP) % nP := by rw [hU9, uu_ne (by decide), u8_1]
      have u9_2 : U9 2 = niv (beN (seg k 0 32) % nP) * 4294967296 ^ 8 % nP := by rw [hU9, uu_eq]
      rw [h.gn, bO_s, rcv_m h.mn.1, bO_s, g9', bO_s]
      have bp_9 := Byt.lfr f9 bp_8
      have bz_9 := Byt.lfr f9 bz_8
      have bd_9 := Byt.lfr f9 bd_8
      have bk_9 := Byt.lfr f9 bk_8
      have bt_9 := Byt.lfr f9 bt_8
      have bw_9 := Byt.lfr f9 bw_8
      obtain ⟨S10, g10, f10, O10⟩ := ou_times (G := G) (F := F) (i := 1) (j := 2) (k := 1) X h O9 (by decide) (by decide) (by decide) (by rw [u9_2]; exact Nat.mod_lt _ n_pos)
      have g10' : P_X6_times G F (W.ad (.o 6 2)) (W.ad (.b 3 0 11 1)) (W.ad (.b 3 0 11 2)) (W.ad (.b 3 0 11 1)) (mem W S9) = some (mem W S10) := g10
      obtain ⟨U10, hU10⟩ : ∃ u, u = uu U9 1 (sgS (q.1 % nP) (beN (seg d 0 32) % nP) (beN (seg z 0 32) % nP) (beN (seg k 0 32) % nP)) := ⟨_, rfl⟩
      have O10 : OC S10 U10 qq := by rw [hU10]; unfold sgS; rw [← T_lead (n := 8) nP_1 nP_2 ((q.1 % nP * (beN (seg d 0 32) % nP) % nP + beN (seg z 0 32) % nP) % nP), ← u9_2, ← u9_1]; exact O10
      have u10_0 : U10 0 = q.1 % nP := by rw [hU10, uu_ne (by decide), u9_0]
      have u10_1 : U10 1 = sgS (q.1 % nP) (beN (seg d 0 32) % nP) (beN (seg z 0 32) % nP) (beN (seg k 0 32) % nP) := by rw [hU10, uu_eq]
      have u10_2 : U10 2 = niv (beN (seg k 0 32) % nP) * 4294967296 ^ 8 % nP := by rw [hU10, uu_ne (by decide), u9_2]
      rw [h.gn, bO_s, rcv_m h.mn.1, bO_s, g10', bO_s]
      have bp_10 := Byt.lfr f10 bp_9
      have bz_10 := Byt.lfr f10 bz_9
      have bd_10 := Byt.lfr f10 bd_9
      have bk_10 := Byt.lfr f10 bk_9
      have bt_10 := Byt.lfr f10 bt_9
      have bw_10 := Byt.lfr f10 bw_9
      have fo : lfr OL S0 S10 := f1.trans (f2.trans (f3.trans (f4.trans (f5.trans (f6.trans (f7.trans (f8.trans (f9.trans f10))))))))
      have frT : fr [(3, 0), (6, 1), (6, 2), (0, 76), (0, 78), (0, it)] S S10 := fr0.trans (fo.fr (by simp [ow, wc]))
      have etT : S10 0 it = S 0 it := (((fo.fr (L' := [(3, 0), (6, 2)]) (by simp [ow, wc])) 0 it (by simp)).trans et0)
      have z1 := ou_zero (G := G) (F := F) (k := 0) X h O10 (by decide)
      have z1' : P_X6_isZero G F (W.ad (.o 6 2)) (W.ad (.b 3 0 11 0)) (mem W S10) = _ := z1
      have z2 := ou_zero (G := G) (F := F) (k := 1) X h O10 (by decide)
      have z2' : P_X6_isZero G F (W.ad (.o 6 2)) (W.ad (.b 3 0 11 1)) (mem W S10) = _ := z2
      obtain ⟨VT, KT, _⟩ := id O10
      have es : sigF z d k = if q.1 % nP = 0 ∨ sgS (q.1 % nP) (beN (seg d 0 32) % nP) (beN (seg z 0 32) % nP) (beN (seg k 0 32) % nP) = 0 then none else some (q.1 % nP, sgS (q.1 % nP) (beN (seg d 0 32) % nP) (beN (seg z 0 32) % nP) (beN (seg k 0 32) % nP)) := by
        unfold sigF
        rw [if_pos c0, ha]
      rw [u10_0] at z1'
      rw [u10_1] at z2'
      generalize sgS (q.1 % nP) (beN (seg d 0 32) % nP) (beN (seg z 0 32) % nP) (beN (seg k 0 32) % nP) = sg at *
      rw [h.gn, bO_s, rcv_m h.mn.1, bO_s, z1', bP_s]
      by_cases q1 : q.1 % nP = 0
      · rw [if_pos q1, if_neg (by decide), retZ0, es, if_pos (Or.inl q1)]
        exact ⟨S10, VT, rfl, frT, KT, ⟨_, _, bp_10⟩, ⟨_, _, bw_10⟩, etT⟩
      · rw [if_neg q1, if_pos rfl, h.gn, bO_s, rcv_m h.mn.1, bO_s, z2', bP_s]
        by_cases q2 : sg = 0
        · rw [if_pos q2, if_neg (by decide), retZ0, es, if_pos (Or.inr q2)]
          exact ⟨S10, VT, rfl, frT, KT, ⟨_, _, bp_10⟩, ⟨_, _, bw_10⟩, etT⟩
        · have q12 : ¬ (q.1 % nP = 0 ∨ sg = 0) := fun o => o.elim q1 q2
          rw [if_neg q12] at es
          rw [if_neg q2, if_pos rfl, es]
          have nt' : ∀ x ∈ [(3, 0), (6, 1), (6, 2), (0, 72), (0, 73), (0, 74), (0, 75), (0, 79)], x ∉ [((0 : Nat), it)] := by
            simp at nt ⊢
            omega
          obtain ⟨o3, p3, bo3⟩ := Q0_clear (G := G) (F := F) hT bt_10
          have O11 : OC (S10.so 0 it o3) U10 qq := O10.fr (L := [(0, it)]) (fr_so (by simp)) nt'
          obtain ⟨o4, p4, bo4⟩ := ou_give (G := G) (F := F) (k := 0) X h O11 (by decide) hT (by rw [so_eq]; exact bo3)
          rw [so_so] at p4
          have p4' : P_X6_give G F (W.ad (.o 6 2)) (W.ad (.b 3 0 11 0)) 32 (W.ad (.o 0 it)) (mem W (S10.so 0 it o3)) = some (mem W (S10.so 0 it o4)) := p4
          have O12 : OC (S10.so 0 it o4) U10 qq := O10.fr (L := [(0, it)]) (fr_so (by simp)) nt'
          obtain ⟨o5, p5, bo5⟩ := ou_give (G := G) (F := F) (k := 1) X h O12 (by decide) hT (by rw [so_eq]; exact bo4)
          rw [so_so] at p5
          have p5' : P_X6_give G F (W.ad (.o 6 2)) (W.ad (.b 3 0 11 1)) 32 (W.ad (.o 0 it)) (mem W (S10.so 0 it o4)) = some (mem W (S10.so 0 it o5)) := p5
          rw [u10_0, u10_1, tkl_tkl, tkl_fit (by rw [List.length_nil, List.length_append, beV_len, beV_len]; omega), List.nil_append] at bo5
          have el2 : ∀ a b : List UInt8, a.length = 32 → b.length = 32 → lsl rt (tkl rt [] a) b (lsl rt [] a false) = false := by
            intro a b h1 h2
            unfold lsl tkl
            rw [List.nil_append, List.take_of_length_le (by omega), Bool.false_or, List.length_nil, decide_eq_false (by omega), decide_eq_false (by omega)]
            rfl
          rw [el2 _ _ (beV_len _ _) (beV_len _ _)] at bo5
          rw [rcv_m hT.1, bO_s, p3, bO_s, h.gn, bO_s, rcv_m h.mn.1, bO_s, p4', bO_s, h.gn, bO_s, rcv_m h.mn.1, bO_s, p5', bO_s, retZ1]
          refine ⟨_, VT, rfl, frT.trans (fr_so (by simp)), KT.fr (L := [(0, it)]) (fr_so (by simp)) nt', ⟨ptB q, false, ?_⟩, ⟨seg k 0 32, false, ?_⟩, ?_⟩
          · rw [so_ne (by simp at nt; omega)]; exact bp_10
          · rw [so_ne (by simp at nt; omega)]; exact bw_10
          · show Byt rt ((S10.so 0 it o5) 0 it) _ false
            rw [so_eq]
            exact bo5
  · rw [if_pos (by rw [lit 32, n_lt (by omega) (by omega)]; omega), retZ0, if_neg (fun o => c32 o.1)]
    exact ⟨S, V, rfl, fr.refl _ _, K, ⟨u, lu, b76⟩, ⟨w, lw, b78⟩, by rw [if_neg c32]⟩
end SIGC
