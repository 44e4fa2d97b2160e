/-! SEALED CONTENT: the model's sealIt -/
theorem a255 (x y : UInt8) : (sb x ^^^ sb y) &&& 255 = b32 (x ^^^ y) := by rw [and255, lo8_x, lo8_sb, lo8_sb]
theorem a255n {f : Nat} (y : UInt8) : ((Int32.ofNat f) ^^^ sb y) &&& 255 = b32 (UInt8.ofNat f ^^^ y) := by rw [and255, lo8_x, lo8_sb, lo8_n]
theorem mod16 {n : Nat} (h : n < 2 ^ 30) : (Int32.ofNat n) - (Int32.ofNat n) / (16 : Int32) * (16 : Int32) = (Int32.ofNat (n % 16)) := by
  have := n_rem (a := n) (b := 16) (by omega) (by decide) (by decide)
  unfold rmI at this
  rw [if_neg (by decide)] at this
  exact Option.some.inj this
section MSEAL
variable {W : WR} {G : mG} {F : Nat} {S : ST} {ks : Nat → UInt8} {nr : Nat}
/-- the cells of one block -/
theorem oM_se_c {r86 : Nat → Int32 → Nat → Int32 → Nat → Int32 → Nat → Int32 → Int32 → Nat → Int32 → Int32 → Int32 → Int32 → mM → Option mM} {l1 l3 l7 l8 : Int32} {l2 l6 kb pb ko po b : Nat} {iv u prev : List UInt8} {βb βo γ : Nat → UInt8} (X : Cx G F W) (h : isM W) (qb : (kdA 13)[kb]? = some 1) (qo : (kdA 13)[ko]? = some 1) (lb_ : mLen kb < 2 ^ 30) (lo_ : mLen ko < 2 ^ 30) (rb : pb + 16 ≤ mLen kb) (ro : po + u.length ≤ mLen ko) (hu : u.length ≤ 8250) (hbb : b ≤ u.length / 16) (hil : iv.length = 16) (eb : rdB βb pb 16 = iv) (eo : rdB βo po u.length = u) (hp : if b = 0 then prev = iv else ∀ j, j < 16 → γ (16 * (b - 1) + j) = prev.getD j 0) : ∀ (m j n : Nat) (o : Ob), m < n → j + m = 16 → mB o kb βb → mB o ko βo → mB o 49 γ → (∀ t, t < j → o.a 45 t = b32 (prev.getD t 0 ^^^ ((padC u).drop (16 * b)).getD t 0)) → ∃ n' o', B_X13_sealIt_96 G F r86 n (W.ad (.o 13 0)) l1 l2 l3 (W.ad (.a 13 0 kb)) (Int32.ofNat pb) l6 l7 l8 (W.ad (.a 13 0 ko)) (Int32.ofNat po) (Int32.ofNat u.length) (Int32.ofNat ((u.length / 16 + 1) * 16)) (Int32.ofNat (16 * b)) (Int32.ofNat j) (mem W (S.so 13 0 o)) = B_X13_sealIt_96 G F r86 (n' + 1) (W.ad (.o 13 0)) l1 l2 l3 (W.ad (.a 13 0 kb)) (Int32.ofNat pb) l6 l7 l8 (W.ad (.a 13 0 ko)) (Int32.ofNat po) (Int32.ofNat u.length) (Int32.ofNat ((u.length / 16 + 1) * 16)) (Int32.ofNat (16 * b)) 16 (mem W (S.so 13 0 o')) ∧ agr [] [] [45] [] o o' ∧ oCL o' (m16 fun k => prev.getD k 0 ^^^ ((padC u).drop (16 * b)).getD k 0) := by
  have lo := h.lo
  have h45 := h.hA 45 (by decide)
  have nb45 : kb ≠ 45 := fun e => by rw [e] at qb; exact absurd qb (by decide)
  have no45 : ko ≠ 45 := fun e => by rw [e] at qo; exact absurd qo (by decide)
  intro m
  induction m with
  | zero =>
    intro j n o hn hj hb ho hγ hc
    obtain ⟨n, rfl⟩ : ∃ q, n = q + 1 := ⟨n - 1, by omega⟩
    obtain rfl : j = 16 := by omega
    exact ⟨n, o, rfl, agr.refl _ _ _ _ _, fun t ht => by rw [hc t ht, m16_g ht]⟩
  | succ m ih =>
    intro j n o hn hj hb ho hγ hc
    obtain ⟨n, rfl⟩ : ∃ q, n = q + 1 := ⟨n - 1, by omega⟩
    have go : ∀ (sk : Int32) (P : UInt8), (∀ y : UInt8, (sk ^^^ sb y) &&& 255 = b32 (P ^^^ y)) → P = ((padC u).drop (16 * b)).getD j 0 → ∃ n' o', B_X13_sealIt_132 G F r86 (B_X13_sealIt_96 G F r86 n) (W.ad (.o 13 0)) l1 l2 l3 (W.ad (.a 13 0 kb)) (Int32.ofNat pb) l6 l7 l8 (W.ad (.a 13 0 ko)) (Int32.ofNat po) (Int32.ofNat u.length) (Int32.ofNat ((u.length / 16 + 1) * 16)) (Int32.ofNat (16 * b)) (Int32.ofNat j) sk (mem W (S.so 13 0 o)) = B_X13_sealIt_96 G F r86 (n' + 1) (W.ad (.o 13 0)) l1 l2 l3 (W.ad (.a 13 0 kb)) (Int32.ofNat pb) l6 l7 l8 (W.ad (.a 13 0 ko)) (Int32.ofNat po) (Int32.ofNat u.length) (Int32.ofNat ((u.length / 16 + 1) * 16)) (Int32.ofNat (16 * b)) 16 (mem W (S.so 13 0 o')) ∧ agr [] [] [45] [] o o' ∧ oCL o' (m16 fun k => prev.getD k 0 ^^^ ((padC u).drop (16 * b)).getD k 0) := by
      intro sk P hsk hP
      have st : ∀ y : UInt8, y = prev.getD j 0 → ∃ n' o', (bO (sI (mem W (S.so 13 0 o)) 0 (W.ad (.a 13 0 45)) (Int32.ofNat j) ((sk ^^^ sb y) &&& 255)) fun M176 => B_X13_sealIt_96 G F r86 n (W.ad (.o 13 0)) l1 l2 l3 (W.ad (.a 13 0 kb)) (Int32.ofNat pb) l6 l7 l8 (W.ad (.a 13 0 ko)) (Int32.ofNat po) (Int32.ofNat u.length) (Int32.ofNat ((u.length / 16 + 1) * 16)) (Int32.ofNat (16 * b)) ((Int32.ofNat j) + 1) M176) = B_X13_sealIt_96 G F r86 (n' + 1) (W.ad (.o 13 0)) l1 l2 l3 (W.ad (.a 13 0 kb)) (Int32.ofNat pb) l6 l7 l8 (W.ad (.a 13 0 ko)) (Int32.ofNat po) (Int32.ofNat u.length) (Int32.ofNat ((u.length / 16 + 1) * 16)) (Int32.ofNat (16 * b)) 16 (mem W (S.so 13 0 o')) ∧ agr [] [] [45] [] o o' ∧ oCL o' (m16 fun k => prev.getD k 0 ^^^ ((padC u).drop (16 * b)).getD k 0) := by
        intro y hy
        rw [hsk, h45.so' rfl (show j < 16 by omega), bO_s, n_addL j 1]
        obtain ⟨n', o', q1, q2, q3⟩ := ih (j + 1) n (o.sA 45 (upd (o.a 45) j (b32 (P ^^^ y)))) (by omega) (by omega) (mB_sA' nb45 hb) (mB_sA' no45 ho) (mB_sA' (by decide) hγ) (fun t ht => by
          rw [sA_a]
          by_cases et : t = j
          · rw [et, upd_eq, hP, hy, UInt8.xor_comm]
          · rw [upd_ne et]
            exact hc t (by omega))
        exact ⟨n', o', q1, (agr_sA (by decide)).trans q2, q3⟩
      unfold B_X13_sealIt_132
      rw [oM_gR h 45 rfl (by decide), bO_s]
      by_cases hb0 : b = 0
      · rw [if_pos hb0] at hp
        rw [if_pos (show (Int32.ofNat (16 * b)) = 0 by rw [hb0]; rfl), n_add, h.aB' qb hb (by omega) (by omega), bO_s]
        refine st _ ?_
        rw [hp, ← eb, List.getD_eq_getElem?_getD, rdB_at (by omega)]
        rfl
      · rw [if_neg hb0] at hp
        rw [if_neg (show ¬ (Int32.ofNat (16 * b)) = 0 by rw [z32]; exact fun q => hb0 (by have := (n_eq (by omega) (by omega)).mp q; omega)), oM_gR h 49 rfl (by decide), bO_s, n_subL 16 (by omega), n_add, h.aB' rfl hγ (show 16 * b - 16 + j < 8300 by omega) (by decide), bO_s, show 16 * b - 16 + j = 16 * (b - 1) + j by omega]
        exact st _ (hp j (by omega))
    rw [B_X13_sealIt_96, if_neg (by rw [lit 16]; exact fun q => absurd ((n_le (by omega) (by omega)).mp q) (by omega)), n_add]
    by_cases hcc : u.length ≤ 16 * b + j
    · rw [if_pos ((n_le (by omega) (by omega)).mpr hcc), n_sub (by omega), show (u.length / 16 + 1) * 16 - u.length = 16 - u.length % 16 by omega]
      refine go _ (UInt8.ofNat (16 - u.length % 16)) (fun y => a255n y) ?_
      rw [List.getD_eq_getElem?_getD, List.getElem?_drop]
      unfold padC
      rw [List.getElem?_append_right hcc, List.getElem?_replicate, if_pos (by omega)]
      rfl
    · rw [if_neg (fun q => hcc ((n_le (by omega) (by omega)).mp q)), n_add, n_add, h.aB' qo ho (by omega) (by omega), bO_s]
      refine go _ (u.getD (16 * b + j) 0) (fun y => ?_) ?_
      · have : βo (po + 16 * b + j) = u.getD (16 * b + j) 0 := by
          conv => rhs; rw [← eo]
          rw [List.getD_eq_getElem?_getD, rdB_at (by omega), Nat.add_assoc]
          rfl
        rw [this]
        exact a255 _ _
      · rw [List.getD_eq_getElem?_getD, List.getD_eq_getElem?_getD, List.getElem?_drop]
        unfold padC
        rw [List.getElem?_append_left (by omega)]
theorem oM_se_b {l1 l3 l7 l8 : Int32} {l2 l6 kb pb ko po : Nat} {iv u : List UInt8} {βb βo : Nat → UInt8} (X : Cx G F W) (h : isM W) (qb : (kdA 13)[kb]? = some 1) (qo : (kdA 13)[ko]? = some 1) (nb : kb ≠ 49) (no : ko ≠ 49) (lb_ : mLen kb < 2 ^ 30) (lo_ : mLen ko < 2 ^ 30) (rb : pb + 16 ≤ mLen kb) (ro : po + u.length ≤ mLen ko) (hu : u.length ≤ 8250) (hil : iv.length = 16) (eb : rdB βb pb 16 = iv) (eo : rdB βo po u.length = u) : ∀ (m b n : Nat) (o : Ob) (γ : Nat → UInt8) (prev : List UInt8), m < n → b + m = u.length / 16 + 1 → mB o kb βb → mB o ko βo → mB o 49 γ → oBX o → oKS o ks nr → (if b = 0 then prev = iv else ∀ j, j < 16 → γ (16 * (b - 1) + j) = prev.getD j 0) → ∃ n' o' γ', B_X13_sealIt_86 G F n (W.ad (.o 13 0)) l1 l2 l3 (W.ad (.a 13 0 kb)) (Int32.ofNat pb) l6 l7 l8 (W.ad (.a 13 0 ko)) (Int32.ofNat po) (Int32.ofNat u.length) (Int32.ofNat ((u.length / 16 + 1) * 16)) (Int32.ofNat (16 * b)) (mem W (S.so 13 0 o)) = B_X13_sealIt_86 G F (n' + 1) (W.ad (.o 13 0)) l1 l2 l3 (W.ad (.a 13 0 kb)) (Int32.ofNat pb) l6 l7 l8 (W.ad (.a 13 0 ko)) (Int32.ofNat po) (Int32.ofNat u.length) (Int32.ofNat ((u.length / 16 + 1) * 16)) (Int32.ofNat ((u.length / 16 + 1) * 16)) (mem W (S.so 13 0 o')) ∧ agr [] [] [45, 46, 49] [] o o' ∧ mB o' 49 γ' ∧ rdB γ' 0 (16 * (b + m)) = rdB γ 0 (16 * b) ++ cbcE ks nr m prev ((padC u).drop (16 * b)) := by
  have hF := X.hF
  have lo := h.lo
  have nbA : kb ∉ [45, 46, 49] := by
    intro q
    simp only [List.mem_cons, List.not_mem_nil, or_false] at q
    rcases q with q | q | q
    · rw [q] at qb; exact absurd qb (by decide)
    · rw [q] at qb; exact absurd qb (by decide)
    · exact nb q
  have noA : ko ∉ [45, 46, 49] := by
    intro q
    simp only [List.mem_cons, List.not_mem_nil, or_false] at q
    rcases q with q | q | q
    · rw [q] at qo; exact absurd qo (by decide)
    · rw [q] at qo; exact absurd qo (by decide)
    · exact no q
  intro m
  induction m with
  | zero =>
    intro b n o γ prev hn hbm hb ho hγ hbx hks hp
    obtain ⟨n, rfl⟩ : ∃ q, n = q + 1 := ⟨n - 1, by omega⟩
    rw [show 16 * b = (u.length / 16 + 1) * 16 by omega]
    exact ⟨n, o, γ, rfl, agr.refl _ _ _ _ _, hγ, by rw [cbcE, List.append_nil, show 16 * (b + 0) = (u.length / 16 + 1) * 16 by omega]⟩
  | succ m ih =>
    intro b n o γ prev hn hbm hb ho hγ hbx hks hp
    obtain ⟨n, rfl⟩ : ∃ q, n = q + 1 := ⟨n - 1, by omega⟩
    rw [B_X13_sealIt_86, if_neg (fun q => absurd ((n_le (by omega) (by omega)).mp q) (by omega))]
    obtain ⟨n1, o1, e1, a1, c1⟩ := oM_se_c (G := G) (F := F) (S := S) (r86 := B_X13_sealIt_86 G F n) (l1 := l1) (l2 := l2) (l3 := l3) (l6 := l6) (l7 := l7) (l8 := l8) (prev := prev) (b := b) X h qb qo lb_ lo_ rb ro hu (by omega) hil eb eo hp 16 0 F o (by omega) rfl hb ho hγ (fun t ht => absurd ht (Nat.not_lt_zero _))
    have e1' : B_X13_sealIt_96 G F (B_X13_sealIt_86 G F n) F (W.ad (.o 13 0)) l1 l2 l3 (W.ad (.a 13 0 kb)) (Int32.ofNat pb) l6 l7 l8 (W.ad (.a 13 0 ko)) (Int32.ofNat po) (Int32.ofNat u.length) (Int32.ofNat ((u.length / 16 + 1) * 16)) (Int32.ofNat (16 * b)) 0 (mem W (S.so 13 0 o)) = _ := e1
    obtain ⟨o2, g2, a2, c2⟩ := oM_forth (G := G) (F := F) (S := S) X h (oBX_ag a1 (by decide) (by decide) hbx) (oKS_ag a1 (by decide) (by decide) hks) c1
    obtain ⟨C, hC⟩ : ∃ C, C = fwd ks nr (m16 fun k => prev.getD k 0 ^^^ ((padC u).drop (16 * b)).getD k 0) := ⟨_, rfl⟩
    rw [← hC] at c2
    have lC : C.length = 16 := by rw [hC]; exact fwd_len _ _ _
    have a12 : agr [] [] [45, 46, 49] [] o o2 := (a1.mono (by decide) (by decide) (by decide) (by decide)).trans (a2.mono (by decide) (by decide) (by decide) (by decide))
    have g49 : mB o2 49 γ := a2.mB (a1.mB hγ (by decide)) (by decide)
    have g3 := oM_get (G := G) (F := F) (S := S) (k := 49) (p := 16 * b) X h rfl (by decide) (by show 16 * b + 16 ≤ 8300; omega) g49 lC c2
    rw [e1', B_X13_sealIt_96, if_pos (by decide), rcv_m lo, bO_s, g2, bO_s, oM_gR h 49 rfl (by decide), bO_s, rcv_m lo, bO_s, g3, bO_s, n_addL _ 16, show 16 * b + 16 = 16 * (b + 1) by omega]
    have a3 : agr [] [] [45, 46, 49] [] o (o2.sA 49 (fun j => sb (wrB γ (16 * b) C j))) := a12.trans (agr_sA (by decide))
    obtain ⟨n', o', γ', q1, q2, q3, q4⟩ := ih (b + 1) n (o2.sA 49 (fun j => sb (wrB γ (16 * b) C j))) (wrB γ (16 * b) C) C (by omega) (by omega) (a3.mB hb nbA) (a3.mB ho noA) (mB_sA _ _ _) (oBX_ag a3 (by decide) (by decide) hbx) (oKS_ag a3 (by decide) (by decide) hks) (by
      rw [if_neg (by omega), Nat.add_sub_cancel]
      exact fun j hj => wrB_at (by omega))
    refine ⟨n', o', γ', q1, a3.trans q2, q3, ?_⟩
    rw [show 16 * (b + (m + 1)) = 16 * (b + 1 + m) by omega, q4, cbcE, List.drop_drop, ← hC]
    have := rdB_app γ 0 C (16 * b)
    rw [Nat.zero_add, lC, show 16 * b + 16 = 16 * (b + 1) by omega] at this
    rw [this, List.append_assoc, show 16 * b + 16 = 16 * (b + 1) by omega]
abbrev SLA : List Nat := [43, 45, 46, 47, 49, 51, 52, 36, 31, 32, 35, 40, 38]
/-- what sealIt leaves: what is sealed in content, the mark -/
theorem oM_sealIt {o : Ob} {way kk pk kb pb ka pa ko po : Nat} {key iv al u : List UInt8} {βk βb βa βo γ μ : Nat → UInt8} (X : Cx G F W) (h : isM W) (hw : way < 4) (qk : (kdA 13)[kk]? = some 1) (qb : (kdA 13)[kb]? = some 1) (qa : (kdA 13)[ka]? = some 1) (qo : (kdA 13)[ko]? = some 1) (nk : kk ∉ SLA) (nb : kb ∉ SLA) (na : ka ∉ SLA) (no : ko ∉ SLA) (lk : mLen kk < 2 ^ 30) (lb_ : mLen kb < 2 ^ 30) (la : mLen ka < 2 ^ 30) (lo_ : mLen ko < 2 ^ 30) (rk : pk + key.length ≤ mLen kk) (rb : pb + iv.length ≤ mLen kb) (ra : pa + al.length ≤ mLen ka) (ro : po + u.length ≤ mLen ko) (hkl : key.length = wayK way) (hil : iv.length = ivOf way) (hal : al.length ≤ 16000) (hu : u.length ≤ 8250) (hk : mB o kk βk) (hb : mB o kb βb) (ha : mB o ka βa) (ho : mB o ko βo) (hγ : mB o 49 γ) (hμ : mB o 51 μ) (h47 : ∃ δ, mB o 47 δ) (h52 : ∃ ζ, mB o 52 ζ) (hD : mDig o) (hbx : oBX o) (ek : rdB βk pk key.length = key) (eb : rdB βb pb iv.length = iv) (ea : rdB βa pa al.length = al) (eo : rdB βo po u.length = u) : ∃ o' γ' μ', P_X13_sealIt G F (W.ad (.o 13 0)) (Int32.ofNat way) (W.ad (.a 13 0 kk)) (Int32.ofNat pk) (W.ad (.a 13 0 kb)) (Int32.ofNat pb) (W.ad (.a 13 0 ka)) (Int32.ofNat pa) (Int32.ofNat al.length) (W.ad (.a 13 0 ko)) (Int32.ofNat po) (Int32.ofNat u.length) (mem W (S.so 13 0 o)) = some (mem W (S.so 13 0 o')) ∧ agr [37, 39, 44, 50] [53, 54, 55, 56] SLA [33, 34] o o' ∧ o'.f 50 = (Int32.ofNat ((sealF way key iv al u).length - wayM way)) ∧ mB o' 49 γ' ∧ mB o' 51 μ' ∧ rdB γ' 0 ((sealF way key iv al u).length - wayM way) ++ rdB μ' 0 (wayM way) = sealF way key iv al u ∧ (∃ δ, mB o' 47 δ) ∧ (∃ ζ, mB o' 52 ζ) ∧ mDig o' := by
  have lo := h.lo
  have hF := X.hF
  have hfl := sealF_len way key iv al u hw
  have sub : ∀ {as : List Nat} {k : Nat}, k ∉ SLA → (∀ x ∈ as, x ∈ SLA) → k ∉ as := fun hk hs q => hk (hs _ q)
  by_cases hw2 : 2 ≤ way
  · have hkl2 : key.length = 16 ∨ key.length = 32 := by
      rw [hkl]; unfold wayK
      have : way = 2 ∨ way = 3 := by omega
      rcases this with rfl | rfl
      · exact .inl rfl
      · exact .inr rfl
    have hi12 : iv.length = 12 := by rw [hil, ivOf, if_neg (by omega)]
    have hwm : wayM way = 16 := by unfold wayM; rw [if_neg (by omega)]
    rw [if_pos hw2] at hfl
    obtain ⟨o1, g1, a1, k1⟩ := oM_key (G := G) (F := F) (S := S) (p := pk) (n := key.length) X h qk lk hkl2 rk hk hbx
    rw [ek] at k1
    obtain ⟨KS_, hKS⟩ : ∃ f, f = ksF (key.length / 4) key := ⟨_, rfl⟩
    rw [← hKS] at k1
    have hiv : ∀ j, j < 12 → βb (pb + j) = iv.getD j 0 := by
      intro j hj
      conv => rhs; rw [← eb]
      rw [List.getD_eq_getElem?_getD, rdB_at (by omega)]
      rfl
    obtain ⟨ζ, h52⟩ := h52
    obtain ⟨o2, γ2, g2, a2, f2, m2, r2, z2⟩ := oM_stream (G := G) (F := F) (S := S) (o := o1) (iv := iv) X h qb qo (sub nb (by decide)) (sub no (by decide)) lb_ lo_ (by omega) ro (by omega) hiv eo (a1.mB hb (sub nb (by decide))) (a1.mB ho (sub no (by decide))) (a1.mB hγ (by decide)) ⟨ζ, a1.mB h52 (by decide)⟩ (oBX_ag a1 (by decide) (by decide) hbx) k1
    obtain ⟨C, hC⟩ : ∃ C, C = ctrF KS_ (key.length / 4 + 6) iv u := ⟨_, rfl⟩
    rw [← hC] at r2
    have lC : C.length = u.length := by rw [hC, ctrF_len]
    have a12 : agr [44, 50] [] [43, 45, 46, 49, 52] [] o o2 := (a1.mono (by decide) (by decide) (by decide) (by decide)).trans (a2.mono (by decide) (by decide) (by decide) (by decide))
    obtain ⟨δ, h47⟩ := h47
    obtain ⟨ζ2, z2⟩ := z2
    obtain ⟨o3, μ3, g3, a3, u3, r3, d3, z3⟩ := oM_sumMark (G := G) (F := F) (S := S) (o := o2) (kc := 49) (pc := 0) (iv := iv) (al := al) (xs := C) X h qb qa rfl (sub nb (by decide)) (sub na (by decide)) (by decide) lb_ la (by decide) (by omega) ra (by show 0 + _ ≤ 8300; omega) (by omega) (by omega) (a12.mB hb (sub nb (by decide))) (a12.mB ha (sub na (by decide))) m2 (a12.mB h47 (by decide)) (a12.mB hμ (by decide)) z2 (oBX_ag a12 (by decide) (by decide) hbx) (oKS_ag a2 (by decide) (by decide) k1) hiv ea (by rw [lC]; exact r2)
    have g3' : P_X13_sumMark G F (W.ad (.o 13 0)) (W.ad (.a 13 0 kb)) (Int32.ofNat pb) (W.ad (.a 13 0 ka)) (Int32.ofNat pa) (Int32.ofNat al.length) (W.ad (.a 13 0 49)) 0 (Int32.ofNat u.length) (mem W (S.so 13 0 o2)) = some (mem W (S.so 13 0 o3)) := by rw [← lC]; exact g3
    have es : sealF way key iv al u = C ++ gmarkF KS_ (key.length / 4 + 6) iv al C := by
      unfold sealF
      rw [if_pos hw2, ← hKS, ← hC]
    unfold P_X13_sealIt
    rw [if_neg (by rw [lit 1]; exact fun q => absurd ((n_le (by omega) (by omega)).mp q) (by omega)), oM_keyOf hw, bP_s, rcv_m lo, bO_s, ← hkl, g1, bO_s, rcv_m lo, bO_s, g2, bO_s, oM_gR h 49 rfl (by decide), bO_s, rcv_m lo, bO_s, g3', bO_s]
    refine ⟨o3, γ2, μ3, rfl, (a12.mono (by decide) (by decide) (by decide) (by decide)).trans (a3.mono (by decide) (by decide) (by decide) (by decide)), ?_, a3.mB m2 (by decide), u3, ?_, d3, z3, ?_⟩
    · rw [a3.1 50 (by simp), f2, hfl, Nat.add_sub_cancel]
    · rw [hfl, Nat.add_sub_cancel, hwm, r2, r3, es]
    · obtain ⟨⟨x1, y1⟩, ⟨x2, y2⟩, ⟨x3, y3⟩, x4, y4⟩ := hD
      exact ⟨⟨x1, a3.mB (a12.mB y1 (by decide)) (by decide)⟩, ⟨x2, a3.mB (a12.mB y2 (by decide)) (by decide)⟩, ⟨x3, a3.mB (a12.mB y3 (by decide)) (by decide)⟩, x4, a3.mB (a12.mB y4 (by decide)) (by decide)⟩
  · have hkl2 : key.length = 32 ∨ key.length = 64 := by
      rw [hkl]; unfold wayK
      have : way = 0 ∨ way = 1 := by omega
      rcases this with rfl | rfl
      · exact .inl rfl
      · exact .inr rfl
    have hi16 : iv.length = 16 := by rw [hil, ivOf, if_pos (by omega)]
    rw [if_neg hw2] at hfl
    have d2 : (Int32.ofNat (wayK way)) / (2 : Int32) = (Int32.ofNat (key.length / 2)) := by
      rw [hkl]
      have : way = 0 ∨ way = 1 := by omega
      rcases this with rfl | rfl <;> decide
    obtain ⟨o1, g1, a1, k1⟩ := oM_key (G := G) (F := F) (S := S) (p := pk + key.length / 2) (n := key.length / 2) X h qk lk (by omega) (by omega) hk hbx
    have ek2 : rdB βk (pk + key.length / 2) (key.length / 2) = key.drop (key.length / 2) := by
      apply List.ext_getElem?
      intro j
      rw [List.getElem?_drop]
      by_cases hj : j < key.length / 2
      · have : key[key.length / 2 + j]? = some (βk (pk + (key.length / 2 + j))) := by
          have q := rdB_at (β := βk) (p := pk) (n := key.length) (j := key.length / 2 + j) (by omega)
          rw [ek] at q
          exact q
        rw [rdB_at hj, this, Nat.add_assoc]
      · rw [List.getElem?_eq_none (by rw [rdB_len]; omega), List.getElem?_eq_none (by omega)]
    rw [ek2] at k1
    have eb16 : rdB βb pb 16 = iv := by rw [← hi16]; exact eb
    obtain ⟨n', o2, γ2, e2, a2, m2, r2⟩ := oM_se_b (G := G) (F := F) (S := S) (l1 := (Int32.ofNat way)) (l2 := W.ad (.a 13 0 kk)) (l3 := (Int32.ofNat pk)) (l6 := W.ad (.a 13 0 ka)) (l7 := (Int32.ofNat pa)) (l8 := (Int32.ofNat al.length)) (iv := iv) (u := u) X h qb qo (fun e => nb (by rw [e]; decide)) (fun e => no (by rw [e]; decide)) lb_ lo_ (by omega) ro hu hi16 eb16 eo (u.length / 16 + 1) 0 F o1 γ iv (by omega) (by omega) (a1.mB hb (sub nb (by decide))) (a1.mB ho (sub no (by decide))) (a1.mB hγ (by decide)) (oBX_ag a1 (by decide) (by decide) hbx) k1 (by rw [if_pos rfl])
    rw [Nat.mul_zero] at e2 r2
    have e2' : B_X13_sealIt_86 G F F (W.ad (.o 13 0)) (Int32.ofNat way) (W.ad (.a 13 0 kk)) (Int32.ofNat pk) (W.ad (.a 13 0 kb)) (Int32.ofNat pb) (W.ad (.a 13 0 ka)) (Int32.ofNat pa) (Int32.ofNat al.length) (W.ad (.a 13 0 ko)) (Int32.ofNat po) (Int32.ofNat u.length) (Int32.ofNat ((u.length / 16 + 1) * 16)) 0 (mem W (S.so 13 0 o1)) = _ := e2
    obtain ⟨C, hC⟩ : ∃ C, C = cbcF (ksF (key.length / 2 / 4) (key.drop (key.length / 2))) (key.length / 2 / 4 + 6) iv u := ⟨_, rfl⟩
    have lC : C.length = (u.length / 16 + 1) * 16 := by rw [hC, cbcF, cbcE_len]; omega
    have r2' : rdB γ2 0 C.length = C := by
      rw [lC, Nat.mul_comm]
      rw [Nat.zero_add, List.drop_zero] at r2
      rw [r2, hC, cbcF]
      rfl
    have a12 : agr [44, 50] [] [43, 45, 46, 49] [] o o2 := (a1.mono (by decide) (by decide) (by decide) (by decide)).trans (a2.mono (by decide) (by decide) (by decide) (by decide))
    obtain ⟨o3, ho3⟩ : ∃ o3, o3 = o2.sf 50 (Int32.ofNat ((u.length / 16 + 1) * 16)) := ⟨_, rfl⟩
    have a3 : agr [44, 50] [] [43, 45, 46, 49] [] o o3 := by rw [ho3]; exact a12.trans (agr_sf (by decide))
    have D3 : mDig o3 := by
      obtain ⟨⟨x1, y1⟩, ⟨x2, y2⟩, ⟨x3, y3⟩, x4, y4⟩ := hD
      exact ⟨⟨x1, a3.mB y1 (by decide)⟩, ⟨x2, a3.mB y2 (by decide)⟩, ⟨x3, a3.mB y3 (by decide)⟩, x4, a3.mB y4 (by decide)⟩
    have m3 : mB o3 49 γ2 := by rw [ho3]; exact m2
    obtain ⟨o4, μ4, g4, a4, u4, r4, D4⟩ := oM_codeMark (G := G) (F := F) (S := S) (o := o3) (way := way) (key := key) (iv := iv) (al := al) (xs := C) (kc := 49) (pc := 0) X h (by omega) qk qb qa rfl (sub nk (by decide)) (sub nb (by decide)) (sub na (by decide)) (by decide) lk lb_ la (by decide) rk (by omega) ra (by show 0 + _ ≤ 8300; omega) hkl hi16 (by omega) (a3.mB hk (sub nk (by decide))) (a3.mB hb (sub nb (by decide))) (a3.mB ha (sub na (by decide))) m3 D3 (a3.mB hμ (by decide)) ek eb16 ea r2'
    have g4' : P_X13_codeMark G F (W.ad (.o 13 0)) (Int32.ofNat way) (W.ad (.a 13 0 kk)) (Int32.ofNat pk) (W.ad (.a 13 0 kb)) (Int32.ofNat pb) (W.ad (.a 13 0 ka)) (Int32.ofNat pa) (Int32.ofNat al.length) (W.ad (.a 13 0 49)) 0 (Int32.ofNat ((u.length / 16 + 1) * 16)) (mem W (S.so 13 0 o3)) = some (mem W (S.so 13 0 o4)) := by rw [← lC]; exact g4
    have es : sealF way key iv al u = C ++ cmarkF way key iv al C := by
      unfold sealF
      rw [if_neg hw2, ← hC]
    have eall : ((Int32.ofNat u.length) + (16 : Int32)) - ((Int32.ofNat u.length) - (Int32.ofNat u.length) / (16 : Int32) * (16 : Int32)) = (Int32.ofNat ((u.length / 16 + 1) * 16)) := by
      rw [mod16 (by omega), n_addL _ 16, n_sub (by omega)]
      congr 1
      omega
    unfold P_X13_sealIt
    rw [if_pos (by rw [lit 1]; exact (n_le (by omega) (by omega)).mpr (by omega)), oM_keyOf hw, bP_s, rcv_m lo, bO_s, d2, n_add, g1, bO_s, eall, e2', B_X13_sealIt_86, if_pos ((n_le (by omega) (by omega)).mpr (Nat.le_refl _)), pI lo rfl, bO_s, ← ho3, oM_gR h 49 rfl (by decide), bO_s, rcv_m lo, bO_s, g4', bO_s]
    refine ⟨o4, γ2, μ4, rfl, (a3.mono (by decide) (by decide) (by decide) (by decide)).trans (a4.mono (by decide) (by decide) (by decide) (by decide)), ?_, a4.mB m3 (by decide), u4, ?_, ?_, ?_, D4⟩
    · rw [a4.1 50 (by decide), ho3, sf_f, if_pos rfl, hfl, Nat.add_sub_cancel]
    · rw [hfl, Nat.add_sub_cancel, ← lC, r2', r4, es]
    · obtain ⟨δ, h47⟩ := h47
      exact ⟨δ, a4.mB (a3.mB h47 (by decide)) (by decide)⟩
    · obtain ⟨ζ, h52⟩ := h52
      exact ⟨ζ, a4.mB (a3.mB h52 (by decide)) (by decide)⟩
end MSEAL
