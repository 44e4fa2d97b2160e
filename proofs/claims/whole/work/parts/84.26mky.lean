/-! A KEY'S TEXT, TO ITS NUMBERS: the model -/
section MKZ
variable {W : WR} {G : mG} {F : Nat} {S : ST} {bk : Nat} {J : JT} {o : Ob}
theorem oM_292 {l4 : Int32} {jb : Nat} (X : Cx G F W) (h : isM W) (M : MTx o bk J) (hbk : bk ≤ 1) (Y : JX J) (h0 : 0 < J.1) (hj : jb < 124) (h97 : ∃ γ, mB o 97 γ) (h98 : ∃ γ, mB o 98 γ) (g : Bool) : ∃ o', agr [29, 100, 101] [] [97, 98] [] o o' ∧ MTx o' bk J ∧ hLt o' 97 100 J (fd J jb) ∧ hLt o' 98 101 J (fd J 98) ∧ B_X13_key_292 G F (W.ad (.o 13 0)) (Int32.ofNat bk) l4 (if g = true then 1 else 0) (W.ad (.o 13 0)) (W.ad (.o 13 0)) (Int32.ofNat bk) 0 (G.1 jb) (mem W (S.so 13 0 o)) = B_X13_key_390 G F (W.ad (.o 13 0)) (Int32.ofNat bk) l4 (if (g && ((ltB J (fd J jb)).isSome && (!(fd J 98).isSome || (ltB J (fd J 98)).isSome))) = true then 1 else 0) (mem W (S.so 13 0 o')) := by
  obtain ⟨o1, γ1, q1, a1, M1, b1, r1⟩ := oM_bytesOf (G := G) (F := F) (S := S) (o := o) (j := jb) (kt := 97) X h M hbk Y hj h0 rfl (by decide) rfl h97
  obtain ⟨o2, ho2⟩ : ∃ o2, o2 = o1.sf 100 (oLn (lnO J (fd J jb))) := ⟨_, rfl⟩
  have a2 : agr [29, 100, 101] [] [97, 98] [] o o2 := by
    rw [ho2]
    exact (a1.mono (by simp) (by simp) (by simp) (by simp)).trans (agr_sf (by simp))
  have M2 : MTx o2 bk J := M.agr a2 (by decide)
  have B2 : hLt o2 97 100 J (fd J jb) := by
    rw [ho2]
    exact ⟨by rw [sf_eq], γ1, b1, r1⟩
  have c98 : ∃ γ, mB o2 98 γ := by
    obtain ⟨γ, q⟩ := h98
    rw [ho2]
    exact ⟨γ, (a1.mB q (by decide))⟩
  have mo := QM_memberOf (G := G) (F := F) (S := S.so 13 0 o2) (j := 98) (v := 0) X h (by rw [so_eq]; exact M2) hbk Y (by decide) h0
  have mo : P_X13_memberOf G F (W.ad (.o 13 0)) (Int32.ofNat bk) 0 (G.1 98) (mem W (S.so 13 0 o2)) = _ := mo
  have e292 : B_X13_key_292 G F (W.ad (.o 13 0)) (Int32.ofNat bk) l4 (if g = true then 1 else 0) (W.ad (.o 13 0)) (W.ad (.o 13 0)) (Int32.ofNat bk) 0 (G.1 jb) (mem W (S.so 13 0 o)) = B_X13_key_319 G F (W.ad (.o 13 0)) (Int32.ofNat bk) l4 (if g = true then 1 else 0) (if (fd J 98).isSome = true then 1 else 0) (mem W (S.so 13 0 o2)) := by
    unfold B_X13_key_292
    rw [h.gR 97 rfl (by decide), bO_s, rcv_m h.lo, bO_s, q1, bP_s, h.pI 100 _ rfl, bO_s, so_eq, so_so, rcv_m h.lo, bO_s]
    show bP (P_X13_memberOf G F (W.ad (.o 13 0)) (Int32.ofNat bk) 0 (G.1 98) (mem W (S.so 13 0 (o1.sf 100 (oLn (lnO J (fd J jb))))))) _ = _
    rw [← ho2, mo, bP_s]
    cases e : fN J (str 98) (some 0) with
    | none => rw [if_pos (show oI none < 0 by decide), show fd J 98 = none from e]; rfl
    | some i =>
      have := fN_b Y i e
      rw [if_neg (show ¬ oI (some i) < 0 from nn this), show fd J 98 = some i from e]; rfl
  rw [e292]
  unfold B_X13_key_319
  cases e : fd J 98 with
  | none =>
    have hn : ltB J (fd J 98) = none := by rw [e]; rfl
    have q := oM_344 (G := G) (F := F) (S := S) (o := o2) (bk := bk) (l4 := l4) (nC := fd J 98) h Y g false (fun _ => hn) B2.1
    rw [if_neg Bool.false_ne_true, if_neg Bool.false_ne_true] at q
    rw [if_neg (show ¬ (none : Option Nat).isSome = true by decide), if_pos rfl, q]
    rw [e]
    refine ⟨_, a2.trans (agr_sf (by simp)), M2.agr (agr_sf (fs := [101]) (gs := []) (as := []) (ls := []) (by simp)) (by simp), B2.ag (agr_sf (fs := [101]) (gs := []) (as := []) (ls := []) (by simp)) (by decide) (by simp), ?_, rfl⟩
    obtain ⟨γ, q⟩ := c98
    exact ⟨by rw [sf_eq], γ, q, fun d hd => absurd hd (by simp [ltB])⟩
  | some i =>
    obtain ⟨o3, γ3, q3, a3, M3, b3, r3⟩ := oM_bytesOf (G := G) (F := F) (S := S) (o := o2) (j := 98) (kt := 98) X h M2 hbk Y (by decide) h0 rfl (by decide) rfl c98
    have q := oM_344 (G := G) (F := F) (S := S) (o := o3) (bk := bk) (l4 := l4) (nC := fd J 98) h Y g true (fun q => absurd q (by decide)) (by rw [a3.1 100 (by decide)]; exact B2.1)
    rw [if_pos rfl, if_pos rfl] at q
    rw [if_pos (show (some i).isSome = true from rfl), if_neg (by decide), h.gR 98 rfl (by decide), bO_s, rcv_m h.lo, bO_s, q3, bP_s]
    refine ⟨o3.sf 101 (oLn (lnO J (fd J 98))), (a2.trans (a3.mono (by simp) (by simp) (by simp) (by simp))).trans (agr_sf (by simp)), M3.agr (agr_sf (fs := [101]) (gs := []) (as := []) (ls := []) (by simp)) (by simp), (B2.ag a3 (by decide) (by decide)).ag (agr_sf (fs := [101]) (gs := []) (as := []) (ls := []) (by simp)) (by decide) (by simp), ?_, ?_⟩
    · rw [← e]
      exact ⟨by rw [sf_eq], γ3, b3, r3⟩
    · refine Eq.trans q ?_
      rw [e]
      rfl
theorem oM_239 {l4 : Int32} {ja : Nat} (X : Cx G F W) (h : isM W) (M : MTx o bk J) (hbk : bk ≤ 1) (Y : JX J) (h0 : 0 < J.1) (hj : ja < 124) (h96 : ∃ γ, mB o 96 γ) (g : Bool) : ∃ o', agr [29, 99] [] [96] [] o o' ∧ MTx o' bk J ∧ hLt o' 96 99 J (fd J ja) ∧ B_X13_key_239 G F (W.ad (.o 13 0)) (Int32.ofNat bk) l4 (if g = true then 1 else 0) (W.ad (.o 13 0)) (W.ad (.o 13 0)) (Int32.ofNat bk) 0 (G.1 ja) (mem W (S.so 13 0 o)) = B_X13_key_266 G F (W.ad (.o 13 0)) (Int32.ofNat bk) l4 (if (g && (ltB J (fd J ja)).isSome) = true then 1 else 0) (mem W (S.so 13 0 o')) := by
  obtain ⟨o1, γ1, q1, a1, M1, b1, r1⟩ := oM_bytesOf (G := G) (F := F) (S := S) (o := o) (j := ja) (kt := 96) X h M hbk Y hj h0 rfl (by decide) rfl h96
  obtain ⟨o2, ho2⟩ : ∃ o2, o2 = o1.sf 99 (oLn (lnO J (fd J ja))) := ⟨_, rfl⟩
  have a2 : agr [29, 99] [] [96] [] o o2 := by
    rw [ho2]
    exact (a1.mono (by simp) (by simp) (by simp) (by simp)).trans (agr_sf (by simp))
  refine ⟨o2, a2, M.agr a2 (by decide), by rw [ho2]; exact ⟨by rw [sf_eq], γ1, b1, r1⟩, ?_⟩
  have f99 : o2.f 99 = oLn (lnO J (fd J ja)) := by rw [ho2, sf_eq]
  unfold B_X13_key_239
  rw [h.gR 96 rfl (by decide), bO_s, rcv_m h.lo, bO_s, q1, bP_s, h.pI 99 _ rfl, bO_s, so_eq, so_so]
  show (if (if g = true then (1 : Int32) else 0) = 0 then B_X13_key_266 G F (W.ad (.o 13 0)) (Int32.ofNat bk) l4 0 (mem W (S.so 13 0 (o1.sf 99 (oLn (lnO J (fd J ja)))))) else bO (gfI (mem W (S.so 13 0 (o1.sf 99 (oLn (lnO J (fd J ja)))))) (W.ad (.o 13 0)) 13 99) fun v255 => if v255 < 0 then B_X13_key_266 G F (W.ad (.o 13 0)) (Int32.ofNat bk) l4 0 (mem W (S.so 13 0 (o1.sf 99 (oLn (lnO J (fd J ja)))))) else B_X13_key_266 G F (W.ad (.o 13 0)) (Int32.ofNat bk) l4 1 (mem W (S.so 13 0 (o1.sf 99 (oLn (lnO J (fd J ja))))))) = _
  rw [← ho2]
  cases g with
  | false => rw [if_neg Bool.false_ne_true, if_pos rfl, Bool.false_and, if_neg Bool.false_ne_true]
  | true =>
    rw [if_pos rfl, if_neg (by decide), h.gI 99 rfl, bO_s, so_eq, f99, Bool.true_and]
    cases e : (ltB J (fd J ja)).isSome with
    | false => rw [if_pos ((oLn_lt Y).mpr e), if_neg Bool.false_ne_true]
    | true => rw [if_neg (fun q => by rw [(oLn_lt Y).mp q] at e; exact absurd e (by decide)), if_pos rfl]
end MKZ
