/-! REFERENCES THAT ARE SET -/
def WR.sr (W : WR) (c i k : Nat) (t : Cl) : WR := ⟨(W.1.1, W.1.2.1, W.1.2.2.1, W.1.2.2.2.1, (fun c' i' k' => if c' = c ∧ i' = i ∧ k' = k then some t else W.1.2.2.2.2.1 c' i' k'), W.1.2.2.2.2.2.1, W.1.2.2.2.2.2.2), W.2⟩
def WR.se (W : WR) (x : Cl) (j : Nat) (t : Cl) : WR := ⟨(W.1.1, W.1.2.1, W.1.2.2.1, W.1.2.2.2.1, W.1.2.2.2.2.1, (fun x' j' => if x' = x ∧ j' = j then some t else W.1.2.2.2.2.2.1 x' j'), W.1.2.2.2.2.2.2), W.2⟩
theorem sr_ad (W : WR) (c i k : Nat) (t : Cl) : (W.sr c i k t).ad = W.ad := rfl
theorem sr_lo (W : WR) (c i k : Nat) (t : Cl) : (W.sr c i k t).lo = W.lo := rfl
theorem sr_live (W : WR) (c i k : Nat) (t : Cl) : (W.sr c i k t).live = W.live := rfl
theorem sr_n (W : WR) (c i k : Nat) (t : Cl) : (W.sr c i k t).n = W.n := rfl
theorem sr_e (W : WR) (c i k : Nat) (t : Cl) : (W.sr c i k t).e = W.e := rfl
theorem sr_r (W : WR) (c i k : Nat) (t : Cl) (c' i' k' : Nat) : (W.sr c i k t).r c' i' k' = if c' = c ∧ i' = i ∧ k' = k then some t else W.r c' i' k' := rfl
theorem sr_eq (W : WR) (c i k : Nat) (t : Cl) : (W.sr c i k t).r c i k = some t := if_pos ⟨rfl, rfl, rfl⟩
theorem sr_ne {W : WR} {c i k c' i' k' : Nat} {t : Cl} (h : ¬ (c' = c ∧ i' = i ∧ k' = k)) : (W.sr c i k t).r c' i' k' = W.r c' i' k' := if_neg h
theorem se_ad (W : WR) (x : Cl) (j : Nat) (t : Cl) : (W.se x j t).ad = W.ad := rfl
theorem se_lo (W : WR) (x : Cl) (j : Nat) (t : Cl) : (W.se x j t).lo = W.lo := rfl
theorem se_live (W : WR) (x : Cl) (j : Nat) (t : Cl) : (W.se x j t).live = W.live := rfl
theorem se_n (W : WR) (x : Cl) (j : Nat) (t : Cl) : (W.se x j t).n = W.n := rfl
theorem se_r (W : WR) (x : Cl) (j : Nat) (t : Cl) : (W.se x j t).r = W.r := rfl
theorem se_eq (W : WR) (x : Cl) (j : Nat) (t : Cl) : (W.se x j t).e x j = some t := if_pos ⟨rfl, rfl⟩
theorem se_ne {W : WR} {x x' : Cl} {j j' : Nat} {t : Cl} (h : ¬ (x' = x ∧ j' = j)) : (W.se x j t).e x' j' = W.e x' j' := if_neg h
section REFS
variable {W : WR} {S : ST} {c i k : Nat}
theorem mem_up2 {W' : WR} {x : Cl} {S' : ST} (h : W.live x = true) (e1 : W'.ad = W.ad) (e2 : W'.di = W.di) {e : Option mE} (he : cell W' S' x = e) (hd : ∀ y, y ≠ x → cell W' S' y = cell W S y) : va_up (mem W S) (W.ad x) e = mem W' S' := by
  funext a
  unfold va_up mem
  rw [e2]
  split
  · rename_i q
    rw [q, W.ok x h]
    exact he.symm
  · rename_i q
    cases h1 : W.di a with
    | none => rfl
    | some y => exact (hd y (fun e => q (by rw [← e]; exact (W.inv a y h1).symm))).symm
theorem pfR_m {t : Cl} (h : W.live (.o c i) = true) (q : (kdF c)[k]? = some 2) : pfv (mem W S) (W.ad (.o c i)) c k (.ref (W.ad t)) = some (mem (W.sr c i k t) S) := by
  unfold pfv
  rw [mem_at h]
  have hk : k < (fls W S c i).length := by
    have := (List.getElem?_eq_some_iff.mp (fls_at (W := W) (S := S) (i := i) q)).1
    exact this
  simp only [cell, cellB, h, if_true, true_and, hk]
  congr 1
  refine mem_up2 (W' := W.sr c i k t) h rfl rfl ?_ (fun y hy => ?_)
  · simp only [cell, cellB, sr_live, h, if_true]
    congr 3
    apply List.ext_getElem?
    intro n
    unfold fls
    rw [List.getElem?_mapIdx, List.getElem?_set, List.getElem?_mapIdx]
    by_cases hn : k = n
    · subst hn
      rw [q, if_pos rfl, if_pos (by simpa [fls] using hk)]
      simp [fvl, sr_eq, sr_ad]
    · rw [if_neg hn]
      cases (kdF c)[n]? with
      | none => rfl
      | some z =>
        have hn2 : ¬ n = k := fun e => hn e.symm
        simp [fvl, sr_r, sr_ad, hn2]
  · unfold cell cellB
    rw [sr_live]
    rcases y with ⟨c', i'⟩ | ⟨c', i', k'⟩ | ⟨c', i', k', j'⟩
    · have hn : ¬ (c' = c ∧ i' = i) := fun h => hy (by rw [h.1, h.2])
      have e : fls (W.sr c i k t) S c' i' = fls W S c' i' := by
        unfold fls
        congr 1
        funext n kd
        unfold fvl
        rw [sr_ne (fun q => hn ⟨q.1, q.2.1⟩), sr_ad]
      simp only [e]
    · rfl
    · rfl
theorem sR_m {x : Int32} {kk ci ti : Nat} (h : W.live (.a c i k) = true) (q : (kdA c)[k]? = some kk) (q1 : ¬ kk < 4) (hx : inB x (W.n (.a c i k)) = true) (ht : W.live (.o ci ti) = true) : sR (mem W S) kk (W.ad (.a c i k)) x (W.ad (.o ci ti)) ci = some (mem (W.se (.a c i k) x.toNatClampNeg (.o ci ti)) S) := by
  have q2 : kk ≠ 2 := by omega
  have qd : (kdA c).getD k 9 = kk := by rw [List.getD_eq_getElem?_getD, q]; rfl
  have e1 : mem W S (W.ad (.a c i k)) = some (.inl (kk, W.n (.a c i k), .inr (.inr (.inr (.inr (fun j => (W.e (.a c i k) j).map W.ad)))))) := by
    rw [mem_at h]
    simp only [cell, cellB, h, if_true, acl, qd, q1, q2, if_false]
  have e2 : mem W S (W.ad (.o ci ti)) = some (.inr (ci, fls W S ci ti)) := by
    rw [mem_at ht]
    simp [cell, cellB, ht]
  unfold sR
  rw [e1, e2]
  simp only [true_and, hx, if_true]
  congr 1
  refine mem_up2 (W' := W.se (.a c i k) x.toNatClampNeg (.o ci ti)) h rfl rfl ?_ (fun y hy => ?_)
  · have ef : (fun j => ((W.se (.a c i k) x.toNatClampNeg (.o ci ti)).e (.a c i k) j).map (W.se (.a c i k) x.toNatClampNeg (.o ci ti)).ad) = va_up (fun j => (W.e (.a c i k) j).map W.ad) x.toNatClampNeg (some (W.ad (.o ci ti))) := by
      funext j
      unfold va_up
      by_cases hj : j = x.toNatClampNeg
      · rw [if_pos hj, hj, se_eq]
        rfl
      · rw [if_neg hj, se_ne (fun q => hj q.2), se_ad]
    simp only [cell, cellB, se_live, h, if_true, qd, acl, q1, q2, if_false]
    rw [ef, se_n]
  · unfold cell cellB
    rw [se_live]
    rcases y with ⟨c', i'⟩ | ⟨c', i', k'⟩ | ⟨c', i', k', j'⟩
    · rfl
    · have e : acl (W.se (.a c i k) x.toNatClampNeg (.o ci ti)) (S c' i') (.a c' i' k') ((kdA c').getD k' 9) k' = acl W (S c' i') (.a c' i' k') ((kdA c').getD k' 9) k' := by
        have ef : (fun j => ((W.se (.a c i k) x.toNatClampNeg (.o ci ti)).e (.a c' i' k') j).map (W.se (.a c i k) x.toNatClampNeg (.o ci ti)).ad) = fun j => (W.e (.a c' i' k') j).map W.ad := by
          funext j
          rw [se_ne (fun q => hy q.1), se_ad]
        unfold acl
        rw [se_n, ef]
      simp only [e]
    · rfl
end REFS
/-! THE CLASS READS A TEXT -/
theorem sf_sv {o : Ob} {k : Nat} {v : Int32} (h : o.f k = v) : o.sf k v = o := by
  refine (Ob_ext2 (f := upd o.f k v) (f' := o.f) (g := o.g) (a := o.a) (a' := o.a) (l := o.l) (m := o.m) (fun j => ?_) (fun _ => rfl)).trans rfl
  unfold upd
  split
  · rename_i e
    rw [e, h]
  · rfl
theorem isTx.sr {W : WR} {t ip c i k : Nat} {y : Cl} (h : isTx W t ip) (hc : c ≠ 9) (h0 : c ≠ 0) : isTx (W.sr c i k y) t ip := by
  obtain ⟨h1, h2, ⟨a1, a2, a3, a4, a5⟩, h4⟩ := h
  refine ⟨h1, by rw [sr_ne (by omega)]; exact h2, ⟨a1, a2, by rw [sr_ne (by omega)]; exact a3, a4, a5⟩, fun k' q1 q2 => ?_⟩
  obtain ⟨b1, b2, b3⟩ := h4 k' q1 q2
  exact ⟨b1, by rw [sr_ne (by omega)]; exact b2, b3⟩
theorem isB.sr {W : WR} {ib rb c i k : Nat} {y : Cl} (h : isB W ib rb) (h0 : c ≠ 0) : isB (W.sr c i k y) ib rb := by
  obtain ⟨a1, a2, a3, a4, a5⟩ := h
  exact ⟨a1, a2, by rw [sr_ne (by omega)]; exact a3, a4, a5⟩
section READ
variable {W : WR} {G : mG} {F : Nat} {S : ST} {is_ ip t rs : Nat} {s : List UInt8} {ls : Bool}
theorem Q7_read {pl : List UInt8} {lp : Bool} (X : Cx G F W) (h7 : W.live (.o 7 0) = true) (hB : isB W is_ rs) (hT : isTx W t ip) (hne : is_ ≠ ip) (hs : Byt rs (S 0 is_) s ls) (hl : s.length ≤ 8192) (hp : Byt 8192 (S 0 ip) pl lp) : ∃ S', P_X7_read G F (W.ad (.o 7 0)) (W.ad (.o 0 is_)) (W.ad (.o 9 t)) (mem W S) = some (match rdT s with | .inl q => (Int32.ofNat q) | .inr _ => -1, mem ((W.sr 7 0 0 (.o 0 is_)).sr 7 0 1 (.o 9 t)) S') ∧ fr [(7, 0), (0, ip), (9, t)] S S' ∧ match rdT s with | .inl _ => ∃ xs l, Byt 8192 (S' 0 ip) xs l | .inr J => TbC (S' 9 t) J ∧ Byt 8192 (S' 0 ip) J.2.2 false ∧ JX J := by
  have hF := X.hF
  obtain ⟨V, hV⟩ : ∃ V, V = (W.sr 7 0 0 (.o 0 is_)).sr 7 0 1 (.o 9 t) := ⟨_, rfl⟩
  have X' : Cx G F V := by rw [hV]; exact X
  have K : isRd V is_ ip t rs := by
    rw [hV]
    obtain ⟨t1, t2, t3, t4⟩ := (hT.sr (c := 7) (i := 0) (k := 0) (y := .o 0 is_) (by decide) (by decide)).sr (c := 7) (i := 0) (k := 1) (y := .o 9 t) (by decide) (by decide)
    exact ⟨h7, by rw [sr_ne (by omega), sr_eq], sr_eq _ _ _ _ _, (hB.sr (by decide)).sr (by decide), t3, t1, t2, hne, t4⟩
  have ead : V.ad = W.ad := by rw [hV]; rfl
  obtain ⟨b1, g1, hb1⟩ := Q0_clear (W := V) (G := G) (F := F) (S := R7 (S.so 9 t ((S 9 t).sf 0 0)) ip (S 7 0) (S 0 ip)) K.2.2.2.2.1 (by rw [r7_p]; exact hp)
  rw [r7so] at g1
  have e0 : mem V S = mem V (R7 (S.so 9 t (S 9 t)) ip (S 7 0) (S 0 ip)) := by
    congr 1
    unfold R7
    rw [so_self, so_self, so_self]
  have st : P_X7_read G F (W.ad (.o 7 0)) (W.ad (.o 0 is_)) (W.ad (.o 9 t)) (mem W S) = B_X7_read_47 G F F (V.ad (.o 7 0)) 1 (Int32.ofNat 0) (mem V (R7 (S.so 9 t ((S 9 t).sf 0 0)) ip ((((((S 7 0).sf 2 0).sf 3 (-1)).sf 4 (-1)).sf 5 0).sf 6 0) b1)) := by
    unfold P_X7_read
    rw [pfR_m h7 rfl, bO_s]
    have p2 : pfv (mem (W.sr 7 0 0 (.o 0 is_)) S) (W.ad (.o 7 0)) 7 1 (.ref (W.ad (.o 9 t))) = some (mem V S) := by
      rw [hV]
      exact pfR_m (W := W.sr 7 0 0 (.o 0 is_)) h7 rfl
    rw [p2, bO_s, e0, ← ead, r7txt K, bO_s, rcv_m K.tx.1, bO_s]
    unfold P_X9_clear
    rw [x9p K, bO_s, t9p K.tx, bO_s, r7pl K, bO_s, g1, bO_s, bO_s, r7p K 2 rfl, bO_s, r7p K 3 rfl, bO_s, r7p K 4 rfl, bO_s, r7p K 5 rfl, bO_s, r7p K 6 rfl, bO_s]
    rfl
  have es : ((((((S 7 0).sf 2 0).sf 3 (-1)).sf 4 (-1)).sf 5 0).sf 6 0) = ((((((S 7 0).sf 2 0).sf 3 (-1)).sf 4 (-1)).sf 5 0).sf 6 0).sf 2 (Int32.ofNat 0) := (sf_sv rfl).symm
  have w0 : JW s (skb s 0) (0, (fun _ _ => 0), []) := ⟨Nat.zero_le _, skb_len (Nat.zero_le _), Nat.zero_le _, fun i hi => absurd hi (Nat.not_lt_zero _)⟩
  have v := CV (G := G) (F := F) (S := S) (s := s) X' K hs hl 45 0 0 (by decide) (by decide) 0 0 0 0 F (0, (fun _ _ => 0), []) ((S 9 t).sf 0 0) ((((((S 7 0).sf 2 0).sf 3 (-1)).sf 4 (-1)).sf 5 0).sf 6 0) b1 w0 (Nat.zero_le _) (Nat.le_refl _) ⟨rfl, fun i hi => absurd hi (Nat.not_lt_zero _)⟩ hb1 (Nat.le_refl _) rfl rfl (fun q => absurd rfl q) (Nat.le_refl _) (Nat.le_refl _) (by omega) (Or.inl rfl)
  rw [← es, ← st] at v
  have frm : ∀ (x' o' b' : Ob), fr [(7, 0), (0, ip), (9, t)] S (R7 (S.so 9 t x') ip o' b') := by
    intro x' o' b' c i hci
    simp only [List.mem_cons, Prod.mk.injEq, List.not_mem_nil, or_false, not_or] at hci
    unfold R7
    rw [so_ne hci.2.1, so_ne hci.1, so_ne hci.2.2]
  unfold rdT
  have v : o7v V G F S ip t s.length 0 0 (P_X7_read G F (W.ad (.o 7 0)) (W.ad (.o 0 is_)) (W.ad (.o 9 t)) (mem W S)) (rv s 45 (skb s 0) (0, (fun _ _ => 0), []) 0 0 0 0) := v
  rw [← hV]
  cases hr : rv s 45 (skb s 0) (0, (fun _ _ => 0), []) 0 0 0 0 with
  | inl q =>
    rw [hr] at v
    obtain ⟨x', o', b', xs, l, q1, q2⟩ := v
    exact ⟨_, q1, frm x' o' b', xs, l, by rw [r7_p]; exact q2⟩
  | inr z =>
    obtain ⟨q, J⟩ := z
    rw [hr] at v
    obtain ⟨k1, k2, k3, k4⟩ := rv_ok w0 (Nat.le_refl _) (Nat.le_refl _) hr
    obtain ⟨x', o', b', k', fuel', q1, q2, q3, q4, q5, q6, q7, q8⟩ := v
    have hq := k2.2.1
    obtain ⟨fuel', rfl⟩ : ∃ q, fuel' = q + 1 + 1 := ⟨fuel' - 2, by omega⟩
    show ∃ S', _ = some (match (if skb s q < s.length then Sum.inl (skb s q) else Sum.inr J : Nat ⊕ JT) with | .inl q => (Int32.ofNat q) | .inr _ => -1, mem V S') ∧ _ ∧ match (if skb s q < s.length then Sum.inl (skb s q) else Sum.inr J : Nat ⊕ JT) with | .inl _ => ∃ xs l, Byt 8192 (S' 0 ip) xs l | .inr J => TbC (S' 9 t) J ∧ Byt 8192 (S' 0 ip) J.2.2 false ∧ JX J
    by_cases hin : skb s q < s.length
    · rw [if_pos hin, q1, rd_in (S := S.so 9 t x') X' K (hs9 hs) hl (by omega) hq hin, q6]
      have ed : ∀ c k1 M, rdD G F (fuel' + 1) (V.ad (.o 7 0)) c k1 5 M = bO (rcv M (V.ad (.o 7 0)) 7) fun _ => bP (P_X7_after G F (V.ad (.o 7 0)) c M) fun v246 M246 => B_X7_read_47 G F (fuel' + 1) (V.ad (.o 7 0)) v246 k1 M246 := by
        intro c k1 M
        unfold rdD
        rw [if_neg (by decide), if_neg (by decide), if_neg (by decide), if_neg (by decide), if_neg (by decide)]
      obtain ⟨ow, w1, w2⟩ := Q7_wrong (G := G) (F := F) (S := S.so 9 t x') (o := o'.sf 2 (Int32.ofNat (skb s q))) (b := b') (q := skb s q) K
      have ea : P_X7_after G F (V.ad (.o 7 0)) (pB s (skb s q)) (mem V (R7 (S.so 9 t x') ip (o'.sf 2 (Int32.ofNat (skb s q))) b')) = some (0, mem V (R7 (S.so 9 t x') ip ow b')) := by
        unfold P_X7_after
        rw [r7txt K, bO_s, r7g K 4 rfl, bO_s, sf_ne (by decide), q4, rcv_m K.tx.1, bO_s, Q9_has_n (show paI 0 < 0 by decide), bP_s, if_pos rfl, r7at K, bO_s, r7lo K, bO_s, w1, bP_s]
        rfl
      rw [ed, r7lo K, bO_s, ea, bP_s, rd_bad K (hs9 hs), w2]
      exact ⟨_, rfl, frm x' ow b', _, _, by rw [r7_p]; exact q3⟩
    · rw [if_neg hin, q1, rd_end (S := S.so 9 t x') X' K (hs9 hs) hl (by omega) hq hin, if_pos ⟨q6, q4⟩]
      exact ⟨_, rfl, frm x' _ b', by rw [x7_9]; exact q2, by rw [r7_p]; exact q3, k2.x hl⟩
end READ
