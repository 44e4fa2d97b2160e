/-! A SEALED TOKEN COMPOSED: the model, from its head on -/
section MC2
variable {W : WR} {G : mG} {F : Nat} {S : ST} {A : Nat → Option KY} {K : KY}
theorem oM_sayPart' {o : Ob} {j k1 p cnt : Nat} {ys zs : List UInt8} {β : Nat → UInt8} (X : Cx G F W) (h : isM W) (hj : j < 124) (hd : mDr o ys) (hy : ys.length < 900000) (q : (kdA 13)[k1]? = some 1) (hne : k1 ≠ 27) (hl : mLen k1 < 2 ^ 30) (hb : p + cnt ≤ mLen k1) (hc : cnt < 90000) (hβ : mB o k1 β) (hz : rdB β p cnt = zs) : ∃ o', P_X13_sayPart G F (W.ad (.o 13 0)) (G.1 j) (W.ad (.a 13 0 k1)) (Int32.ofNat p) (Int32.ofNat cnt) (mem W (S.so 13 0 o)) = some (mem W (S.so 13 0 o')) ∧ mDr o' (ys ++ str j ++ enc zs) ∧ agr [28] [] [27] [] o o' := by
  obtain ⟨o1, q1, d1, a1⟩ := oM_say (G := G) (F := F) (S := S) (j := j) X h hj hd (by omega)
  have := str_lt hj
  obtain ⟨f, v, q2, d2⟩ := QM_sayLetters (G := G) (F := F) (S := S.so 13 0 o1) (ys := ys ++ str j) (k1 := k1) (p1 := p) (cnt := cnt) X h q hne hl hb hc (by rw [List.length_append]; omega) (by rw [so_eq]; exact d1) (by rw [so_eq]; exact a1.mB hβ (by simp [hne]))
  rw [so_eq] at q2 d2
  rw [so_so] at q2
  rw [hz] at d2
  refine ⟨dr o1 f v, ?_, d2, a1.trans dr_agr⟩
  unfold P_X13_sayPart
  rw [rcv_m h.lo, bO_s, q1, bO_s, rcv_m h.lo, bO_s, q2, bO_s]
theorem kidP_le (V : KyV K) : (kidP K).length ≤ 8192 := by
  have q := kid_fit (a := 0) V (by decide)
  unfold sgnP at q
  simp only [List.length_append] at q
  omega
theorem QM_compose {o : Ob} {k a w p at_ : Nat} {x6 x7 : Int32} {rows : Nat → List UInt8} {βr β125 β126 : Nat → UInt8} {sk iv ck pt : List UInt8} (X : Cx G F W) (h : isM W) (M : MO S o) (bx : oBX o) (KK : KM o A) (hk : k < 16) (e : A k = some K) (ha : a < 6) (hw : w < 4) (hp : p < 8) (w1 : mB o 2 βr) (w2 : ∀ r, r < 8 → o.a 3 r = (Int32.ofNat (rows r).length) ∧ (rows r).length ≤ 8192 ∧ rdB βr (8192 * r) (rows r).length = rows r) (b125 : mB o 125 β125) (r125 : rdB β125 0 ck.length = ck) (ckl : ck.length = wayK w) (b126 : mB o 126 β126) (r126 : rdB β126 0 sk.length = sk) (skl : sk.length ≤ 128) (f127 : o.f 127 = (Int32.ofNat sk.length)) (iv_ : at_ + ivOf w ≤ 65536) (riv : rdB βr at_ (ivOf w) = iv) (hx6 : 4 ≤ a → ron x6 = true) (hx7 : 4 ≤ a → ron x7 = true) (P : 4 ≤ a → ∃ β, mB o 107 β ∧ rdB β 0 64 = pt) (U : 4 ≤ a → pyM o 110 108 ((rwO rows x6).getD [])) (V : 4 ≤ a → pyM o 111 109 ((rwO rows x7).getD [])) (r : Int32 ⊕ List UInt8) (hr : r = slZ w (slP a w K pt (rwO rows x6) (rwO rows x7)) sk iv ck (rows p)) : ∃ o', P_X13_compose G F (W.ad (.o 13 0)) (Int32.ofNat k) (Int32.ofNat a) (Int32.ofNat w) (Int32.ofNat p) (Int32.ofNat at_) x6 x7 (mem W (S.so 13 0 o)) = some (ansT r, mem W (S.so 13 0 o')) ∧ MO S o' ∧ agr enF tkG enA [33, 34] o o' ∧ outM o o' r := by
  obtain ⟨α85, α87, α89, b85, b87, b89, ⟨k1, k2, k3, k4⟩, ⟨l1, r1⟩, ⟨l2, r2⟩, ⟨l3, r3⟩, V_⟩ := KK.at_ hk e
  have kl := kidP_le V_
  have wre : ∀ n, n < 6 → [str 38, str 39, str 40, str 41, str 42, str 43][n]? = some (str (38 + n)) ∧ (str (38 + n)).length ≤ 32 := by decide +kernel
  have rex : ∀ w ∈ [str 38, str 39, str 40, str 41, str 42, str 43], ∀ x ∈ w, x ≠ 32 := by decide +kernel
  obtain ⟨ws, wl⟩ := wre a ha
  have wrw : ∀ n, n < 4 → (str (59 + n)).length ≤ 13 := by decide +kernel
  have wwl := wrw w hw
  have lns : (str 52).length = 8 ∧ (str 58).length = 8 ∧ (str 63 ++ str 50).length ≤ 60 ∧ (str 51).length ≤ 60 ∧ (str 64).length ≤ 60 ∧ (str 65).length ≤ 60 := by decide +kernel
  obtain ⟨s52, s58, s63, s51, s64, s65⟩ := lns
  -- from the last letter on
  have fin : ∀ (o1 : Ob) (ys : List UInt8), agr [28] [] [27] [] o o1 → mDr o1 ys → ys.length < 1000000 → ys ++ [125] = slP a w K pt (rwO rows x6) (rwO rows x7) → ∃ o', B_X13_compose_107 G F (W.ad (.o 13 0)) (Int32.ofNat w) (Int32.ofNat p) (Int32.ofNat at_) (mem W (S.so 13 0 o1)) = some (ansT r, mem W (S.so 13 0 o')) ∧ MO S o' ∧ agr enF tkG enA [33, 34] o o' ∧ outM o o' r := by
    intro o1 ys a1 d1 yl hys
    obtain ⟨_, β27, b27, _⟩ := id d1
    have M1 : MO S o1 := M.ag a1 (by decide) (by decide) (fun q hq _ => by
      rw [List.mem_singleton] at hq
      rw [hq]
      exact ⟨_, b27⟩)
    obtain ⟨o', g, q1, q2, q3⟩ := QM_comp107 (G := G) (F := F) (S := S) (o := o1) (w := w) (p := p) (at_ := at_) (rows := rows) (sk := sk) (iv := iv) (ck := ck) X h M1 ⟨fun x => by rw [a1.2.2.1 41 (by decide)]; exact bx.1 x, fun x => by rw [a1.2.2.1 42 (by decide)]; exact bx.2 x⟩ hw hp (a1.mB w1 (by decide)) (fun r hr => by rw [a1.2.2.1 3 (by decide)]; exact w2 r hr) d1 yl hys (a1.mB b125 (by decide)) r125 ckl (a1.mB b126 (by decide)) r126 skl (by rw [a1.1 127 (by decide)]; exact f127) iv_ riv r hr
    refine ⟨o', g, q1, (a1.mono (by simp) (by simp) (by simp) (by simp)).trans q2, ?_⟩
    revert q3
    cases r with
    | inl v => intro q3; exact ⟨q3.1.trans (a1.1 5 (by decide)), q3.2.trans (a1.2.2.1 4 (by decide))⟩
    | inr t => exact id
  obtain ⟨o1, g1, d1, a1⟩ := oM_sayHead (G := G) (F := F) (S := S) (o := o) (k := k) (j := 117) (a := a) (en := some w) X h KK hk e M.2.2 (by decide) row_117 rex ws (by omega) wl (fun n hn => by rw [← Option.some.inj hn]; exact hw)
  have hl : (hdP (str (38 + a)) (some w) K).length ≤ 8300 := by
    unfold hdP
    simp only [List.length_append, List.length_cons, List.length_nil]
    omega
  have x3 : ((Int32.ofNat a) ≤ (3 : Int32)) = (a ≤ 3) := propext (n_le (b := 3) (by omega) (by omega))
  unfold P_X13_compose
  rw [rcv_m h.lo, bO_s, show (Int32.ofNat w) = oI (some w) from rfl, g1, bO_s, show oI (some w) = (Int32.ofNat w) from rfl]
  simp only [x3]
  by_cases c : a ≤ 3
  · rw [if_pos c]
    refine fin o1 _ a1 d1 (by omega) ?_
    unfold hdP slP
    rw [if_pos (by omega)]
    simp only [List.append_assoc, List.nil_append]
  rw [if_neg c]
  have ha4 : 4 ≤ a := by omega
  obtain ⟨β107, b107, e107⟩ := P ha4
  have sx : rdB β107 0 32 = seg pt 0 32 := by
    rw [← e107, seg_rd (by decide)]
  have sy : rdB β107 32 32 = seg pt 32 32 := by
    rw [← e107, seg_rd (by decide)]
  have el : ∀ xs : List UInt8, xs.length ≤ 8192 → (enc xs).length ≤ 10923 := fun xs hx => by
    rw [enc_len]
    omega
  have ptl : pt.length = 64 := by rw [← e107, rdB_len]
  obtain ⟨o2, g2, d2, a2⟩ := oM_sayPart' (G := G) (F := F) (S := S) (o := o1) (j := 121) (k1 := 107) (p := 0) (cnt := 32) X h (by decide) d1 (by omega) rfl (by decide) (by decide) (by decide) (by omega) (a1.mB b107 (by decide)) sx
  rw [st_109.2.2.2.1] at d2
  have e1 := el (seg pt 0 32) (by rw [seg_len (by omega)]; omega)
  have e2 := el (seg pt 32 32) (by rw [seg_len (by omega)]; omega)
  obtain ⟨o3, g3, d3, a3⟩ := oM_sayPart' (G := G) (F := F) (S := S) (o := o2) (j := 107) (k1 := 107) (p := 32) (cnt := 32) X h (by decide) d2 (by simp only [List.length_append] at s63 ⊢; omega) rfl (by decide) (by decide) (by decide) (by omega) (a2.mB (a1.mB b107 (by decide)) (by decide)) sy
  rw [st_101.2.2.2.2.2.2.1] at d3
  obtain ⟨o4, g4, d4, a4⟩ := oM_say (G := G) (F := F) (S := S) (o := o3) (j := 105) X h (by decide) d3 (by simp only [List.length_append] at s63 ⊢; omega)
  rw [st_101.2.2.2.2.2.2.2] at d4
  have g2 : P_X13_sayPart G F (W.ad (.o 13 0)) (G.1 121) (W.ad (.a 13 0 107)) 0 32 (mem W (S.so 13 0 o1)) = _ := g2
  have g3 : P_X13_sayPart G F (W.ad (.o 13 0)) (G.1 107) (W.ad (.a 13 0 107)) 32 32 (mem W (S.so 13 0 o2)) = _ := g3
  have a04 : agr [28] [] [27] [] o o4 := ((a1.trans a2).trans a3).trans a4
  obtain ⟨y4, hy4⟩ : ∃ y4, y4 = hdP (str (38 + a)) (some w) K ++ (str 63 ++ str 50) ++ enc (seg pt 0 32) ++ str 51 ++ enc (seg pt 32 32) ++ [34, 125] := ⟨_, rfl⟩
  rw [← hy4] at d4
  have y4l : y4.length ≤ 40000 := by
    rw [hy4]
    simp only [List.length_append, List.length_cons, List.length_nil] at s63 ⊢
    omega
  -- a party said
  have pty : ∀ (o5 : Ob) (ys u : List UInt8) (n m f q : Nat), n < 124 → (kdF 13)[f]? = some 0 → (kdA 13)[q]? = some 1 → mLen q = 8200 → f ∉ [28] → q ∉ [27] → str n = str m → (str m).length ≤ 60 → agr [28] [] [27] [] o o5 → mDr o5 ys → ys.length < 100000 → pyM o f q u → u.length ≤ 8192 → gfI (mem W (S.so 13 0 o5)) (W.ad (.o 13 0)) 13 f = some (Int32.ofNat u.length) ∧ ∃ o6 o7, P_X13_sayPart G F (W.ad (.o 13 0)) (G.1 n) (W.ad (.a 13 0 q)) 0 (Int32.ofNat u.length) (mem W (S.so 13 0 o5)) = some (mem W (S.so 13 0 o6)) ∧ P_X13_say G F (W.ad (.o 13 0)) 34 (mem W (S.so 13 0 o6)) = some (mem W (S.so 13 0 o7)) ∧ mDr o7 (ys ++ pyP m (some u)) ∧ agr [28] [] [27] [] o o7 ∧ (ys ++ pyP m (some u)).length ≤ ys.length + 11000 := by
    intro o5 ys u n m f q hn kf kq lq nf nq hnm sm a5 d5 yl U ul
    have eu := el u ul
    obtain ⟨u1, βu, u2, u3⟩ := U.ag a5 nf nq
    obtain ⟨o6, g6, d6, a6⟩ := oM_sayPart' (G := G) (F := F) (S := S) (o := o5) (j := n) (k1 := q) (p := 0) (cnt := u.length) X h hn d5 (by omega) kq (by simp at nq; exact nq) (by rw [lq]; decide) (by rw [lq]; omega) (by omega) u2 u3
    rw [hnm] at d6
    have l6 : (ys ++ str m ++ enc u).length ≤ ys.length + 10990 := by
      simp only [List.length_append]
      omega
    obtain ⟨o7, g7, d7, a7⟩ := oM_sayc (G := G) (F := F) (S := S) (o := o6) (x := 34) (y := 34) h d6 (by omega) rfl
    have ep : ys ++ str m ++ enc u ++ [34] = ys ++ pyP m (some u) := by
      show _ = ys ++ (str m ++ (enc u ++ [34]))
      simp only [List.append_assoc]
    rw [ep] at d7
    refine ⟨by rw [gfI_m h.lo kf, so_eq, u1], o6, o7, g6, g7, d7, (a5.trans a6).trans a7, ?_⟩
    rw [← ep, List.length_append]
    show _ + 1 ≤ _
    omega
  have ule : ∀ x : Int32, ((rwO rows x).getD []).length ≤ 8192 := fun x => by
    rcases isr_cases x with ee | ⟨r6, hr6, rfl, ee⟩
    · rw [rwO_n ee]
      exact Nat.zero_le _
    · rw [rwO_s hr6]
      exact (w2 r6 hr6).2.1
  -- none or some
  have nos : ∀ x : Int32, ron x = true → (x = -1 ∧ rwO rows x = none) ∨ (x ≠ -1 ∧ rwO rows x = some ((rwO rows x).getD [])) := fun x hx => by
    rcases isr_cases x with ee | ⟨r6, hr6, rfl, ee⟩
    · unfold ron at hx
      rw [ee, Bool.or_false] at hx
      exact Or.inl ⟨of_decide_eq_true hx, rwO_n ee⟩
    · rw [rwO_s hr6]
      exact Or.inr ⟨n_nm (by omega), rfl⟩
  have e79 : ∀ (o5 : Ob) (ys : List UInt8), agr [28] [] [27] [] o o5 → mDr o5 ys → ys.length < 60000 → ys ++ pyP 65 (rwO rows x7) ++ [125] = slP a w K pt (rwO rows x6) (rwO rows x7) → ∃ o', B_X13_compose_79 G F (W.ad (.o 13 0)) (Int32.ofNat w) (Int32.ofNat p) (Int32.ofNat at_) x7 (mem W (S.so 13 0 o5)) = some (ansT r, mem W (S.so 13 0 o')) ∧ MO S o' ∧ agr enF tkG enA [33, 34] o o' ∧ outM o o' r := by
    intro o5 ys a5 d5 yl hys
    unfold B_X13_compose_79
    rcases nos x7 (hx7 ha4) with ⟨c7, e7⟩ | ⟨c7, e7⟩
    · rw [if_pos c7]
      refine fin o5 ys a5 d5 (by omega) ?_
      rw [← hys, e7]
      show _ = ys ++ [] ++ [125]
      rw [List.append_nil]
    · obtain ⟨y1, o6, o7, y2, y3, y4', y5, y6⟩ := pty o5 ys ((rwO rows x7).getD []) 123 65 111 109 (by decide) rfl rfl rfl (by decide) (by decide) st_109.2.2.2.2.2 s65 a5 d5 (by omega) (V ha4) (ule x7)
      rw [← e7] at y4' y6
      rw [if_neg c7, h.gR 109 rfl (by decide), bO_s, y1, bO_s, rcv_m h.lo, bO_s, y2, bO_s, rcv_m h.lo, bO_s, y3, bO_s]
      exact fin o7 _ y5 y4' (by omega) hys
  have tot : y4 ++ pyP 64 (rwO rows x6) ++ pyP 65 (rwO rows x7) ++ [125] = slP a w K pt (rwO rows x6) (rwO rows x7) := by
    rw [hy4]
    unfold slP hdP pmF
    rw [if_neg (by omega)]
    simp only [List.append_assoc, List.cons_append, List.nil_append]
  rw [h.gR 107 rfl (by decide), bO_s, rcv_m h.lo, bO_s, g2, bO_s, h.gR 107 rfl (by decide), bO_s, rcv_m h.lo, bO_s, g3, bO_s, rcv_m h.lo, bO_s, g4, bO_s]
  rcases nos x6 (hx6 ha4) with ⟨c6, e6⟩ | ⟨c6, e6⟩
  · rw [if_pos c6]
    refine e79 o4 y4 a04 d4 (by omega) ?_
    rw [← tot, e6]
    show _ = y4 ++ [] ++ _ ++ _
    rw [List.append_nil]
  · obtain ⟨y1, o6, o7, y2, y3, y4', y5, y6⟩ := pty o4 y4 ((rwO rows x6).getD []) 122 64 110 108 (by decide) rfl rfl rfl (by decide) (by decide) st_109.2.2.2.2.1 s64 a04 d4 (by omega) (U ha4) (ule x6)
    rw [← e6] at y4' y6
    rw [if_neg c6, h.gR 108 rfl (by decide), bO_s, y1, bO_s, rcv_m h.lo, bO_s, y2, bO_s, rcv_m h.lo, bO_s, y3, bO_s]
    exact e79 o7 _ y5 y4' (by omega) tot
/-- a key wrapped with another -/
theorem oM_wrapTo {o : Ob} {kk pk : Nat} {βk βu : Nat → UInt8} {key u : List UInt8} (X : Cx G F W) (h : isM W) (M : MO S o) (bx : oBX o) (qk : (kdA 13)[kk]? = some 1) (lk : mLen kk < 2 ^ 30) (bk : pk + key.length ≤ mLen kk) (hk : mB o kk βk) (rk : rdB βk pk key.length = key) (hkl : key.length = 16 ∨ key.length = 32) (b125 : mB o 125 βu) (ru : rdB βu 0 u.length = u) (hm : mayW u.length = true) : ∃ o1 o2, P_X13_setKey G F (W.ad (.o 13 0)) (W.ad (.a 13 0 kk)) (Int32.ofNat pk) (Int32.ofNat key.length) (mem W (S.so 13 0 o)) = some (mem W (S.so 13 0 o1)) ∧ P_X13_wrapUp G F (W.ad (.o 13 0)) (W.ad (.a 13 0 125)) 0 (Int32.ofNat u.length) (mem W (S.so 13 0 o1)) = some ((Int32.ofNat (u.length + 8)), mem W (S.so 13 0 o2)) ∧ MO S o2 ∧ agr [44] [] [43, 45, 46, 47, 48] [] o o2 ∧ ∃ γ, mB o2 48 γ ∧ rdB γ 0 (u.length + 8) = wrapF key u := by
  have um : u.length ≤ 64 := (of_decide_eq_true hm : _ ∧ _ ∧ _).2.1
  obtain ⟨o1, g1, a1, s1⟩ := QM_setKey (G := G) (F := F) (S := S.so 13 0 o) (k := kk) (p := pk) (n := key.length) X h qk lk hkl bk (by rw [so_eq]; exact hk) (by show (∀ x : UInt8, ((S.so 13 0 o) 13 0).a 41 x.toNat = _) ∧ _; rw [so_eq]; exact bx)
  rw [so_eq] at a1
  rw [so_so] at g1 s1
  rw [rk] at s1
  obtain ⟨ω, h48⟩ := M.2.2 48 rfl
  obtain ⟨δ, h47⟩ := M.2.2 47 rfl
  obtain ⟨S2, γ, g2, a2, b2, e2, δ2, d2⟩ := QM_wrapUp (G := G) (F := F) (S := S.so 13 0 o1) (k := 125) (pos := 0) (u := u) (key := key) X h rfl (by decide) (by decide) (by show _ ≤ 64; omega) (by rw [so_eq]; exact a1.mB b125 (by decide)) ru hm (by show (∀ x : UInt8, ((S.so 13 0 o1) 13 0).a 41 x.toNat = _) ∧ _; rw [so_eq]; exact ⟨fun x => by rw [a1.2.2.1 41 (by decide)]; exact bx.1 x, fun x => by rw [a1.2.2.1 42 (by decide)]; exact bx.2 x⟩) s1 (by rw [so_eq]; exact a1.mB h48 (by decide)) ⟨δ, by rw [so_eq]; exact a1.mB h47 (by decide)⟩
  have ag : agr [44] [] [43, 45, 46, 47, 48] [] o (S2 13 0) := by
    have := a2.ag 13 0 [45, 46, 47, 48] (by decide)
    rw [so_eq] at this
    exact (a1.mono (by decide) (by decide) (by decide) (by decide)).trans (this.mono (by decide) (by decide) (by decide) (by decide))
  have f2 : S2 = S.so 13 0 (S2 13 0) := ((fr_so (by simp)).trans (a2.fr (L' := [(13, 0)]) (by decide))).one
  have g2 : P_X13_wrapUp G F (W.ad (.o 13 0)) (W.ad (.a 13 0 125)) 0 (Int32.ofNat u.length) (mem W (S.so 13 0 o1)) = some ((Int32.ofNat (u.length + 8)), mem W (S.so 13 0 (S2 13 0))) := by
    rw [← f2]
    exact g2
  refine ⟨o1, S2 13 0, g1, g2, M.ag ag (by decide) (by decide) (fun n hn z => ?_), ag, γ, b2, e2⟩
  simp only [List.mem_cons, List.not_mem_nil, or_false] at hn
  rcases hn with rfl | rfl | rfl | rfl | rfl
  · exact absurd z (by decide)
  · exact absurd z (by decide)
  · exact absurd z (by decide)
  · exact ⟨_, d2⟩
  · exact ⟨_, b2⟩
end MC2
