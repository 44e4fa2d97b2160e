/-! SEALED CONTENT BY A COUNTER: the class -/
def ctrB (iv : List UInt8) (c : Nat) : List UInt8 := m16 fun k => if k < 12 then iv.getD k 0 else (w4 (Int32.ofNat c)).getD (k - 12) 0
def ctrF (ks : Nat → UInt8) (nr : Nat) (iv xs : List UInt8) : List UInt8 := mapN (fun j => (fwd ks nr (ctrB iv (j / 16 + 2))).getD (j % 16) 0 ^^^ xs.getD j 0) xs.length
def gE0 (ks : Nat → UInt8) (nr : Nat) : List UInt8 := fwd ks nr (m16 fun _ => 0)
def gH (ks : Nat → UInt8) (nr : Nat) : Int64 × Int64 := (hi8 (gE0 ks nr), lo8L (gE0 ks nr))
def gY (ks : Nat → UInt8) (nr : Nat) (al xs : List UInt8) : Int64 × Int64 := gst (gH ks nr) (gall (gH ks nr) ((xs.length + 15) / 16) (gall (gH ks nr) ((al.length + 15) / 16) (0, 0) al) xs) (Int64.ofNat (8 * al.length)) (Int64.ofNat (8 * xs.length))
def gmarkF (ks : Nat → UInt8) (nr : Nat) (iv al xs : List UInt8) : List UInt8 := w8 ((gY ks nr al xs).1 ^^^ hi8 (fwd ks nr (ctrB iv 1))) ++ w8 ((gY ks nr al xs).2 ^^^ lo8L (fwd ks nr (ctrB iv 1)))
theorem gmarkF_len (ks : Nat → UInt8) (nr : Nat) (iv al xs : List UInt8) : (gmarkF ks nr iv al xs).length = 16 := rfl
theorem ctrF_len (ks : Nat → UInt8) (nr : Nat) (iv xs : List UInt8) : (ctrF ks nr iv xs).length = xs.length := mapN_len _ _
theorem KS_ag {S S' : ST} {ks : Nat → UInt8} {nr : Nat} (h : agr [] [] [3] [] (S 1 0) (S' 1 0)) (hk : KS S ks nr) : KS S' ks nr := by
  refine ⟨by rw [h.1 2 (by decide)]; exact hk.1, hk.2.1, ?_⟩
  rw [h.2.2.1 1 (by decide)]
  exact hk.2.2
theorem IB_ag {S S' : ST} (h : agr [] [] [3] [] (S 1 0) (S' 1 0)) (hk : IB S) : IB S' := by
  intro x
  rw [h.2.2.1 0 (by decide)]
  exact hk x
abbrev cA (S S' : ST) : Prop := agr [] [] [3] [] (S 1 0) (S' 1 0)
theorem cA.refl (S : ST) : cA S S := agr.refl _ _ _ _ _
abbrev L12 : List (Nat × Nat × Nat) := [(1, 0, 3), (2, 0, 2)]
theorem cA_ar {L : List (Nat × Nat × Nat)} {S S' : ST} (h : arF L S S') (hs : ∀ x ∈ L, x.1 = 1 → x.2.1 = 0 → x.2.2 ∈ [3]) : cA S S' := h.ag 1 0 [3] hs
theorem cA_fr {L : List (Nat × Nat)} {S S' : ST} (h : fr L S S') (hn : (1, 0) ∉ L) : cA S S' := by
  have := h 1 0 hn
  show agr [] [] [3] [] (S 1 0) (S' 1 0)
  rw [this]
  exact agr.refl _ _ _ _ _
/-- bytes put one after the other -/
abbrev TK (S : ST) (it room : Nat) (ts L : List UInt8) (j : Nat) (l : Bool) : Prop := Byt room (S 0 it) (tkl room ts (L.take j)) (lsl room ts (L.take j) l)
theorem b32_lo (x : UInt8) : lo8 (b32 x) = x := by
  unfold b32
  rw [lo8_n, UInt8.ofNat_toNat]
section GCM
variable {W : WR} {G : mG} {F : Nat}
theorem TK_put {S : ST} {it room j : Nat} {ts L : List UInt8} {l : Bool} {y : UInt8} (hB : isB W it room) (h : TK S it room ts L j l) (hy : L[j]? = some y) : ∃ o, P_X0_put G F (W.ad (.o 0 it)) (b32 y) (mem W S) = some (mem W (S.so 0 it o)) ∧ TK (S.so 0 it o) it room ts L (j + 1) l := by
  obtain ⟨o, g1, g2⟩ := Q0_put1 (S := S) (x := b32 y) (G := G) (F := F) hB h
  refine ⟨o, g1, ?_⟩
  rw [tkl_tkl, lsl_lsl, b32_lo] at g2
  have e : L.take (j + 1) = L.take j ++ [y] := by
    rw [List.take_add_one, hy]
    rfl
  unfold TK
  rw [so_eq, e]
  exact g2
theorem Q2_startCounter {S : ST} {i room cnt : Nat} {iv : List UInt8} {l : Bool} (X : Cx G F W) (h : isCo W) (hB : isB W i room) (hb : Byt room (S 0 i) iv l) : ∃ S', P_X2_startCounter G F (W.ad (.o 2 0)) (W.ad (.o 0 i)) (Int32.ofNat cnt) (mem W S) = some (mem W S') ∧ arF [(2, 0, 2)] S S' ∧ CL S' 2 0 2 (ctrB iv cnt) := by
  have hF := X.hF
  have lo := h.1
  have h2 := h.2.2.2.1
  obtain ⟨n', S1, e, a1, c1⟩ := loopS (fun n j S => B_X2_startCounter_2 G F n (W.ad (.o 2 0)) (W.ad (.o 0 i)) (Int32.ofNat cnt) (Int32.ofNat j) (mem W S)) (fun j S' => arF [(2, 0, 2)] S S' ∧ ∀ t, t < j → (S' 2 0).a 2 t = b32 (iv.getD t 0)) 12 (by
    intro n j S1 hj hI
    obtain ⟨i1, i2⟩ := hI
    have hb1 : Byt room (S1 0 i) iv l := by rw [i1.ob (c := 0) (i := i) (by simp)]; exact hb
    show ∃ S', B_X2_startCounter_2 G F (n + 1) _ _ _ _ _ = _ ∧ _
    rw [B_X2_startCounter_2, if_neg (by rw [lit 12]; exact fun q => absurd ((n_le (by omega) (by omega)).mp q) (by omega)), h2.g lo rfl, bO_s, rcv_m hB.lo, bO_s, Q0_get hB hb1 (by omega), bP_s, h2.sa rfl (by omega), bO_s, n_addL j 1, gB_D]
    refine ⟨_, rfl, i1.trans (arF_sa (by simp)), fun t ht => ?_⟩
    rw [sa_eq]
    by_cases et : t = j
    · rw [et, upd_eq]
    · rw [upd_ne et]
      exact i2 t (by omega)) 12 0 F S (by omega) rfl ⟨arF.refl _ _, fun t ht => absurd ht (Nat.not_lt_zero _)⟩
  have e' : B_X2_startCounter_2 G F F (W.ad (.o 2 0)) (W.ad (.o 0 i)) (Int32.ofNat cnt) 0 (mem W S) = B_X2_startCounter_2 G F (n' + 1) (W.ad (.o 2 0)) (W.ad (.o 0 i)) (Int32.ofNat cnt) 12 (mem W S1) := e
  have st : ∀ (S : ST) (v : Int32) (j : Nat) (hj : j < 16), sI (mem W S) 0 (W.ad (.a 2 0 2)) (@OfNat.ofNat Int32 j Int32.instOfNat) v = some (mem W (S.sa 2 0 2 (upd ((S 2 0).a 2) j v))) := fun S v j hj => h2.stl rfl j hj
  unfold P_X2_startCounter
  rw [e', B_X2_startCounter_2, if_pos (by decide), h2.g lo rfl, bO_s, st _ _ 12 (by decide), bO_s, h2.g lo rfl, bO_s, st _ _ 13 (by decide), bO_s, h2.g lo rfl, bO_s, st _ _ 14 (by decide), bO_s, h2.g lo rfl, bO_s, st _ _ 15 (by decide), bO_s]
  simp only [sa_eq, sa_sa]
  refine ⟨_, rfl, a1.trans (arF_sa (by simp)), fun t ht => ?_⟩
  rw [sa_eq, ctrB, m16_g ht, ← ush24, and255, and255, and255, and255]
  by_cases h12 : t < 12
  · rw [if_pos h12, upd_ne (by omega), upd_ne (by omega), upd_ne (by omega), upd_ne (by omega), c1 t h12]
  · rw [if_neg h12]
    have : t = 12 ∨ t = 13 ∨ t = 14 ∨ t = 15 := by omega
    rcases this with rfl | rfl | rfl | rfl
    · rw [upd_ne (by omega), upd_ne (by omega), upd_ne (by omega), upd_eq]
      rfl
    · rw [upd_ne (by omega), upd_ne (by omega), upd_eq]
      rfl
    · rw [upd_ne (by omega), upd_eq]
      rfl
    · rw [upd_eq]
      rfl
theorem Q2_half_l {S : ST} {f : Nat} {s : List UInt8} (h : isCo W) (hf : f = 0 ∨ f = 8) (hs0 : s.length = 16) (hs : CL S 2 0 2 s) : ∀ (m j n a : Nat), m < n → j + m = f + 8 → B_X2_half_5 G F n (W.ad (.o 2 0)) (Int32.ofNat f) (Int64.ofNat a) (Int32.ofNat j) (mem W S) = some (Int64.ofNat (((s.drop j).take m).foldl (fun a x => 256 * a + x.toNat) a), mem W S) := by
  have h2 := h.2.2.2.1
  intro m
  induction m with
  | zero =>
    intro j n a hn hj
    obtain ⟨n, rfl⟩ : ∃ q, n = q + 1 := ⟨n - 1, by omega⟩
    rw [B_X2_half_5, n_addL f 8, if_pos ((n_le (by omega) (by omega)).mpr (by omega))]
    rfl
  | succ m ih =>
    intro j n a hn hj
    obtain ⟨n, rfl⟩ : ∃ q, n = q + 1 := ⟨n - 1, by omega⟩
    rw [B_X2_half_5, n_addL f 8, if_neg (fun q => absurd ((n_le (by omega) (by omega)).mp q) (by omega)), if_neg (by rw [lit 16]; exact fun q => absurd ((n_le (by omega) (by omega)).mp q) (by omega)), h2.g h.1 rfl, bO_s, h2.ld rfl (by omega), bO_s, hs j (by omega), gB_lt (show j < s.length by omega), b32_64, shl8_or (UInt8.toNat_lt _), n_addL j 1, ih (j + 1) n _ (by omega) (by omega)]
    rw [List.drop_eq_getElem_cons (show j < s.length by omega)]
    rfl
theorem Q2_half0 {S : ST} {s : List UInt8} (X : Cx G F W) (h : isCo W) (hs0 : s.length = 16) (hs : CL S 2 0 2 s) : P_X2_half G F (W.ad (.o 2 0)) 0 (mem W S) = some (hi8 s, mem W S) := Q2_half_l (f := 0) h (.inl rfl) hs0 hs 8 0 F 0 (by have := X.hF; omega) rfl
theorem Q2_half8 {S : ST} {s : List UInt8} (X : Cx G F W) (h : isCo W) (hs0 : s.length = 16) (hs : CL S 2 0 2 s) : P_X2_half G F (W.ad (.o 2 0)) 8 (mem W S) = some (lo8L s, mem W S) := Q2_half_l (f := 8) h (.inr rfl) hs0 hs 8 8 F 0 (by have := X.hF; omega) rfl
abbrev GS (S : ST) (H Y : Int64 × Int64) : Prop := (S 2 0).g 5 = H.1 ∧ (S 2 0).g 6 = H.2 ∧ (S 2 0).g 7 = Y.1 ∧ (S 2 0).g 8 = Y.2
theorem GS_ar {L : List (Nat × Nat × Nat)} {S S' : ST} {H Y : Int64 × Int64} (h : arF L S S') (hg : GS S H Y) : GS S' H Y := by
  unfold GS
  rw [(h.2 2 0).2.1]
  exact hg
theorem Q2_ats_l {i room many : Nat} {H : Int64 × Int64} {xs : List UInt8} {l : Bool} (X : Cx G F W) (h : isCo W) (hB : isB W i room) (hm : many ≤ xs.length) (hm2 : many < 90000) : ∀ (m b n : Nat) (S : ST) (Y : Int64 × Int64), m < n → b + m = (many + 15) / 16 → Byt room (S 0 i) xs l → GS S H Y → ∃ S', B_X2_addToSum_2 G F n (W.ad (.o 2 0)) (W.ad (.o 0 i)) (Int32.ofNat many) (Int32.ofNat (16 * b)) (mem W S) = some (mem W S') ∧ fr [(2, 0)] S S' ∧ GS S' H (gall H m Y ((xs.take many).drop (16 * b))) := by
  have hF := X.hF
  have lo := h.1
  have h2 := h.2.2.2.1
  intro m
  induction m with
  | zero =>
    intro b n S Y hn hb hx hg
    obtain ⟨n, rfl⟩ : ∃ q, n = q + 1 := ⟨n - 1, by omega⟩
    rw [B_X2_addToSum_2, if_pos ((n_le (by omega) (by omega)).mpr (by omega))]
    exact ⟨S, rfl, fr.refl _ _, hg⟩
  | succ m ih =>
    intro b n S Y hn hb hx hg
    obtain ⟨n, rfl⟩ : ∃ q, n = q + 1 := ⟨n - 1, by omega⟩
    rw [B_X2_addToSum_2, if_neg (fun q => absurd ((n_le (by omega) (by omega)).mp q) (by omega))]
    obtain ⟨n', S1, e, a1, c1⟩ := loopS (fun n' j S => B_X2_addToSum_10 G F (B_X2_addToSum_2 G F n) n' (W.ad (.o 2 0)) (W.ad (.o 0 i)) (Int32.ofNat many) (Int32.ofNat (16 * b)) (Int32.ofNat j) (mem W S)) (fun j S' => arF [(2, 0, 2)] S S' ∧ ∀ t, t < j → (S' 2 0).a 2 t = gB (pad16 ((xs.take many).drop (16 * b))) t) 16 (by
      intro n1 j S1 hj hI
      obtain ⟨i1, i2⟩ := hI
      have hb1 : Byt room (S1 0 i) xs l := by rw [i1.ob (c := 0) (i := i) (by simp)]; exact hx
      have fin : ∀ v : Int32, v = gB (pad16 ((xs.take many).drop (16 * b))) j → ∃ S', (bO (sI (mem W S1) 0 (W.ad (.a 2 0 2)) (Int32.ofNat j) v) fun M43 => B_X2_addToSum_10 G F (B_X2_addToSum_2 G F n) n1 (W.ad (.o 2 0)) (W.ad (.o 0 i)) (Int32.ofNat many) (Int32.ofNat (16 * b)) ((Int32.ofNat j) + 1) M43) = B_X2_addToSum_10 G F (B_X2_addToSum_2 G F n) n1 (W.ad (.o 2 0)) (W.ad (.o 0 i)) (Int32.ofNat many) (Int32.ofNat (16 * b)) (Int32.ofNat (j + 1)) (mem W S') ∧ arF [(2, 0, 2)] S S' ∧ ∀ t, t < j + 1 → (S' 2 0).a 2 t = gB (pad16 ((xs.take many).drop (16 * b))) t := by
        intro v hv
        rw [h2.sa rfl hj, bO_s, n_addL j 1]
        refine ⟨_, rfl, i1.trans (arF_sa (by simp)), fun t ht => ?_⟩
        rw [sa_eq]
        by_cases et : t = j
        · rw [et, upd_eq, hv]
        · rw [upd_ne et]
          exact i2 t (by omega)
      have ev : gB (pad16 ((xs.take many).drop (16 * b))) j = b32 (((xs.take many).drop (16 * b)).getD j 0) := by rw [pad16, m16_g hj]
      show ∃ S', B_X2_addToSum_10 G F _ (n1 + 1) _ _ _ _ _ _ = _ ∧ _
      rw [B_X2_addToSum_10, if_neg (by rw [lit 16]; exact fun q => absurd ((n_le (by omega) (by omega)).mp q) (by omega)), h2.g lo rfl, bO_s, n_add]
      by_cases hc : many ≤ 16 * b + j
      · rw [if_pos ((n_le (by omega) (by omega)).mpr hc)]
        refine fin 0 ?_
        rw [ev, List.getD_eq_getElem?_getD, List.getElem?_eq_none (by simp; omega)]
        rfl
      · rw [if_neg (fun q => hc ((n_le (by omega) (by omega)).mp q)), rcv_m hB.lo, bO_s, Q0_get hB hb1 (by omega), bP_s]
        refine fin _ ?_
        rw [ev, gB_D, List.getD_eq_getElem?_getD, List.getD_eq_getElem?_getD, List.getElem?_drop, List.getElem?_take_of_lt (by omega)]) 16 0 F S (by omega) rfl ⟨arF.refl _ _, fun t ht => absurd ht (Nat.not_lt_zero _)⟩
    have e' : B_X2_addToSum_10 G F (B_X2_addToSum_2 G F n) F (W.ad (.o 2 0)) (W.ad (.o 0 i)) (Int32.ofNat many) (Int32.ofNat (16 * b)) 0 (mem W S) = B_X2_addToSum_10 G F (B_X2_addToSum_2 G F n) (n' + 1) (W.ad (.o 2 0)) (W.ad (.o 0 i)) (Int32.ofNat many) (Int32.ofNat (16 * b)) 16 (mem W S1) := e
    obtain ⟨g5, g6, g7, g8⟩ := GS_ar a1 hg
    rw [e', B_X2_addToSum_10, if_pos (by decide), rcv_m lo, bO_s, Q2_half0 X h (m16_len _) c1, bP_s, rcv_m lo, bO_s, Q2_half8 X h (m16_len _) c1, bP_s, rcv_m lo, bO_s, Q2_timesFactor X h g5 g6 g7 g8, bO_s, n_addL _ 16, show 16 * b + 16 = 16 * (b + 1) by omega]
    obtain ⟨S2, g2, f2, q2⟩ := ih (b + 1) n (S1.so 2 0 (((S1 2 0).sg 7 (gst H Y (hi8 (pad16 ((xs.take many).drop (16 * b)))) (lo8L (pad16 ((xs.take many).drop (16 * b))))).1).sg 8 (gst H Y (hi8 (pad16 ((xs.take many).drop (16 * b)))) (lo8L (pad16 ((xs.take many).drop (16 * b))))).2)) (gst H Y (hi8 (pad16 ((xs.take many).drop (16 * b)))) (lo8L (pad16 ((xs.take many).drop (16 * b))))) (by omega) (by omega) (by rw [so_ne (by omega), a1.ob (c := 0) (i := i) (by simp)]; exact hx) ⟨by rw [so_eq, sg_g, if_neg (by decide), sg_g, if_neg (by decide)]; exact g5, by rw [so_eq, sg_g, if_neg (by decide), sg_g, if_neg (by decide)]; exact g6, by rw [so_eq, sg_g, if_neg (by decide), sg_g, if_pos rfl], by rw [so_eq, sg_g, if_pos rfl]⟩
    refine ⟨S2, g2, ((a1.fr (L' := [(2, 0)]) (by decide)).trans (fr_so (by simp))).trans f2, ?_⟩
    rw [gall, List.drop_drop]
    exact q2
theorem Q2_addToSum {S : ST} {i room many : Nat} {H Y : Int64 × Int64} {xs : List UInt8} {l : Bool} (X : Cx G F W) (h : isCo W) (hB : isB W i room) (hm : many ≤ xs.length) (hm2 : many < 90000) (hx : Byt room (S 0 i) xs l) (hg : GS S H Y) : ∃ S', P_X2_addToSum G F (W.ad (.o 2 0)) (W.ad (.o 0 i)) (Int32.ofNat many) (mem W S) = some (mem W S') ∧ fr [(2, 0)] S S' ∧ GS S' H (gall H ((many + 15) / 16) Y (xs.take many)) := by
  have hF := X.hF
  obtain ⟨S', g1, g2, g3⟩ := Q2_ats_l X h hB hm hm2 ((many + 15) / 16) 0 F S Y (by omega) (by omega) hx hg
  rw [Nat.mul_zero, List.drop_zero] at g3
  rw [Nat.mul_zero] at g1
  exact ⟨S', g1, g2, g3⟩
end GCM
