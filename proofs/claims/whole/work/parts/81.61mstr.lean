/-! SEALED CONTENT BY A COUNTER: the model's stream; marks by a code -/
theorem lo8_x (a b : Int32) : lo8 (a ^^^ b) = lo8 a ^^^ lo8 b := by
  apply UInt8.toBitVec_inj.mp
  rw [UInt8.toBitVec_xor]
  show (a ^^^ b).toBitVec.setWidth 8 = a.toBitVec.setWidth 8 ^^^ b.toBitVec.setWidth 8
  rw [Int32.toBitVec_xor, BitVec.setWidth_xor]
theorem sb_x2 (x y : UInt8) : ((sb x ^^^ b32 y).toInt8.toInt32).toInt8.toInt32 = sb (x ^^^ y) := by
  rw [sb_lo8, sb_lo8, lo8_sb, lo8_x, lo8_sb, b32_lo]
theorem sb_x3 (x y : UInt8) : ((b32 y ^^^ sb x).toInt8.toInt32).toInt8.toInt32 = sb (y ^^^ x) := by
  rw [sb_lo8, sb_lo8, lo8_sb, lo8_x, lo8_sb, b32_lo]
theorem mapN_D {f : Nat → UInt8} {n j : Nat} (h : j < n) : (mapN f n).getD j 0 = f j := by
  rw [List.getD_eq_getElem?_getD, mapN_at h]
  rfl
section MSTR
variable {W : WR} {G : mG} {F : Nat} {S : ST} {ks : Nat → UInt8} {nr : Nat}
theorem oM_st_l {kb pb ko po : Nat} {iv xs : List UInt8} {βb βo : Nat → UInt8} (X : Cx G F W) (h : isM W) (qb : (kdA 13)[kb]? = some 1) (qo : (kdA 13)[ko]? = some 1) (nb : kb ∉ [49, 52]) (no : ko ∉ [49, 52]) (lb_ : mLen kb < 2 ^ 30) (lo_ : mLen ko < 2 ^ 30) (rb : pb + 12 ≤ mLen kb) (ro : po + xs.length ≤ mLen ko) (hx : xs.length ≤ 8300) (hiv : ∀ j, j < 12 → βb (pb + j) = iv.getD j 0) (hxs : ∀ j, j < xs.length → βo (po + j) = xs.getD j 0) : ∀ (m k n : Nat) (o : Ob) (γ : Nat → UInt8), m < n → k + m = xs.length → mB o kb βb → mB o ko βo → mB o 49 γ → (∃ ζ, mB o 52 ζ) → oBX o → oKS o ks nr → (k % 16 = 0 ∨ oCL o (fwd ks nr (ctrB iv (k / 16 + 2)))) → (∀ j, j < k → γ j = (ctrF ks nr iv xs).getD j 0) → ∃ o' γ', B_X13_stream_3 G F n (W.ad (.o 13 0)) (W.ad (.a 13 0 kb)) (Int32.ofNat pb) (W.ad (.a 13 0 ko)) (Int32.ofNat po) (Int32.ofNat xs.length) (Int32.ofNat k) (mem W (S.so 13 0 o)) = some (mem W (S.so 13 0 o')) ∧ agr [50] [] [45, 46, 49, 52] [] o o' ∧ o'.f 50 = (Int32.ofNat xs.length) ∧ mB o' 49 γ' ∧ (∀ j, j < xs.length → γ' j = (ctrF ks nr iv xs).getD j 0) ∧ ∃ ζ, mB o' 52 ζ := by
  have lo := h.lo
  have h45 := h.hA 45 (by decide)
  intro m
  induction m with
  | zero =>
    intro k n o γ hn hk hb ho hγ hζ hbx hks hc hg
    obtain ⟨n, rfl⟩ : ∃ q, n = q + 1 := ⟨n - 1, by omega⟩
    rw [B_X13_stream_3, if_pos ((n_le (by omega) (by omega)).mpr (by omega)), pI lo rfl, bO_s]
    obtain ⟨ζ, hζ⟩ := hζ
    exact ⟨_, γ, rfl, agr_sf (by decide), by rw [sf_f, if_pos rfl], hγ, fun j hj => hg j (by omega), ζ, hζ⟩
  | succ m ih =>
    intro k n o γ hn hk hb ho hγ hζ hbx hks hc hg
    obtain ⟨n, rfl⟩ : ∃ q, n = q + 1 := ⟨n - 1, by omega⟩
    have em : (Int32.ofNat k) - (Int32.ofNat k) / (16 : Int32) * (16 : Int32) = (Int32.ofNat (k % 16)) := by
      have := n_rem (a := k) (b := 16) (by omega) (by decide) (by decide)
      unfold rmI at this
      rw [if_neg (by decide)] at this
      exact Option.some.inj this
    have tail : ∀ (o1 : Ob), agr [50] [] [45, 46, 49, 52] [] o o1 → (∃ ζ, mB o1 52 ζ) → mB o1 49 γ → oCL o1 (fwd ks nr (ctrB iv (k / 16 + 2))) → ∃ o' γ', B_X13_stream_44 G F (B_X13_stream_3 G F n) (W.ad (.o 13 0)) (W.ad (.a 13 0 kb)) (Int32.ofNat pb) (W.ad (.a 13 0 ko)) (Int32.ofNat po) (Int32.ofNat xs.length) (Int32.ofNat k) (mem W (S.so 13 0 o1)) = some (mem W (S.so 13 0 o')) ∧ agr [50] [] [45, 46, 49, 52] [] o o' ∧ o'.f 50 = (Int32.ofNat xs.length) ∧ mB o' 49 γ' ∧ (∀ j, j < xs.length → γ' j = (ctrF ks nr iv xs).getD j 0) ∧ ∃ ζ, mB o' 52 ζ := by
      intro o1 a1 z1 g1 c1
      have nb' : kb ∉ [45, 46, 49, 52] := by
        intro q
        simp only [List.mem_cons, List.not_mem_nil, or_false] at q nb
        rcases q with q | q | q | q
        · rw [q] at qb; exact absurd qb (by decide)
        · rw [q] at qb; exact absurd qb (by decide)
        · exact nb (.inl q)
        · exact nb (.inr q)
      have no' : ko ∉ [45, 46, 49, 52] := by
        intro q
        simp only [List.mem_cons, List.not_mem_nil, or_false] at q no
        rcases q with q | q | q | q
        · rw [q] at qo; exact absurd qo (by decide)
        · rw [q] at qo; exact absurd qo (by decide)
        · exact no (.inl q)
        · exact no (.inr q)
      have cv : aI G (mem W (S.so 13 0 o1)) 0 (W.ad (.a 13 0 45)) (Int32.ofNat (k % 16)) = some (b32 ((fwd ks nr (ctrB iv (k / 16 + 2))).getD (k % 16) 0)) := by
        rw [h45.lo' rfl (show k % 16 < 16 by omega), c1 _ (by omega), gB_D]
      have ov : aI G (mem W (S.so 13 0 o1)) 1 (W.ad (.a 13 0 ko)) (Int32.ofNat (po + k)) = some (sb (xs.getD k 0)) := by
        rw [h.aB' qo (a1.mB ho no') (by omega) (by omega), hxs k (by omega)]
      have sv : ∀ y, sI (mem W (S.so 13 0 o1)) 1 (W.ad (.a 13 0 49)) (Int32.ofNat k) (sb y) = some (mem W (S.so 13 0 (o1.sA 49 (fun j' => sb (va_up γ k y j'))))) := fun y => h.sB' rfl g1 (show k < 8300 by omega) (by decide)
      unfold B_X13_stream_44
      rw [oM_gR h 49 rfl (by decide), bO_s, n_add, ov, bO_s, oM_gR h 45 rfl (by decide), bO_s, em, cv, bO_s, sb_x2, sv, bO_s, n_addL k 1]
      have a2 : agr [50] [] [45, 46, 49, 52] [] o (o1.sA 49 (fun j' => sb (va_up γ k (xs.getD k 0 ^^^ (fwd ks nr (ctrB iv (k / 16 + 2))).getD (k % 16) 0) j'))) := a1.trans (agr_sA (by decide))
      obtain ⟨o', γ', q1, q2, q3, q4, q5, q6⟩ := ih (k + 1) n (o1.sA 49 (fun j' => sb (va_up γ k (xs.getD k 0 ^^^ (fwd ks nr (ctrB iv (k / 16 + 2))).getD (k % 16) 0) j'))) (va_up γ k (xs.getD k 0 ^^^ (fwd ks nr (ctrB iv (k / 16 + 2))).getD (k % 16) 0)) (by omega) (by omega) (a2.mB hb nb') (a2.mB ho no') (mB_sA _ _ _) (by obtain ⟨ζ, z1⟩ := z1; exact ⟨ζ, mB_sA' (by decide) z1⟩) (oBX_ag a2 (by decide) (by decide) hbx) (oKS_ag a2 (by decide) (by decide) hks) (by
          by_cases h16 : (k + 1) % 16 = 0
          · exact .inl h16
          · right
            rw [show (k + 1) / 16 = k / 16 by omega]
            intro t ht
            rw [sA_a' (by decide)]
            exact c1 t ht) (fun j hj => by
          unfold va_up
          by_cases ej : j = k
          · rw [if_pos ej, ej]
            unfold ctrF
            rw [mapN_D (by omega), UInt8.xor_comm]
          · rw [if_neg ej]
            exact hg j (by omega))
      exact ⟨o', γ', q1, a2.trans q2, q3, q4, q5, q6⟩
    rw [B_X13_stream_3, if_neg (fun q => absurd ((n_le (by omega) (by omega)).mp q) (by omega)), em]
    by_cases h16 : k % 16 = 0
    · obtain ⟨ζ, hζ⟩ := hζ
      have nb52 : kb ≠ 52 := fun e => nb (by rw [e]; decide)
      obtain ⟨ζ9, g9, r9⟩ := oM_ctr (G := G) (F := F) (S := S) (o := o) (c := 2 + k / 16) (iv := iv) X h qb nb52 lb_ rb (by omega) hb hζ hiv
      obtain ⟨o1, ga, aa, ca⟩ := oM_set (G := G) (F := F) (S := S) (o := o.sA 52 (fun j => sb (ζ9 j))) (k := 52) (p := 0) X h rfl (by decide) (by decide) (mB_sA _ _ _)
      rw [r9] at ca
      have ga' : P_X13_setCells G F (W.ad (.o 13 0)) (W.ad (.a 13 0 52)) 0 (mem W (S.so 13 0 (o.sA 52 (fun j => sb (ζ9 j))))) = some (mem W (S.so 13 0 o1)) := ga
      have a1 : agr [50] [] [45, 46, 49, 52] [] o o1 := (agr_sA (by decide)).trans (aa.mono (by decide) (by decide) (by decide) (by decide))
      obtain ⟨o2, gb, ab, cb⟩ := oM_forth (G := G) (F := F) (S := S) X h (oBX_ag a1 (by decide) (by decide) hbx) (oKS_ag a1 (by decide) (by decide) hks) ca
      have e2 : (2 : Int32) + (Int32.ofNat k) / (16 : Int32) = (Int32.ofNat (2 + k / 16)) := by
        rw [show (Int32.ofNat k) / (16 : Int32) = (Int32.ofNat (k / 16)) from n_div (b := 16) (by omega) (by decide)]
        exact n_add 2 _
      rw [if_pos (show (Int32.ofNat (k % 16)) = 0 by rw [h16]; rfl), rcv_m lo, bO_s, e2, g9, bO_s, oM_gR h 52 rfl (by decide), bO_s, rcv_m lo, bO_s, ga', bO_s, rcv_m lo, bO_s, gb, bO_s]
      rw [Nat.add_comm 2] at cb
      exact tail o2 (a1.trans (ab.mono (by decide) (by decide) (by decide) (by decide))) ⟨ζ9, ab.mB (aa.mB (mB_sA _ _ _) (by decide)) (by decide)⟩ (ab.mB (aa.mB (mB_sA' (by decide) hγ) (by decide)) (by decide)) cb
    · rw [if_neg (show ¬ (Int32.ofNat (k % 16)) = 0 by rw [z32]; exact fun q => h16 ((n_eq (by omega) (by omega)).mp q))]
      exact tail o (agr.refl _ _ _ _ _) hζ hγ (hc.resolve_left h16)
theorem oM_stream {o : Ob} {kb pb ko po : Nat} {iv xs : List UInt8} {βb βo γ : Nat → UInt8} (X : Cx G F W) (h : isM W) (qb : (kdA 13)[kb]? = some 1) (qo : (kdA 13)[ko]? = some 1) (nb : kb ∉ [49, 52]) (no : ko ∉ [49, 52]) (lb_ : mLen kb < 2 ^ 30) (lo_ : mLen ko < 2 ^ 30) (rb : pb + 12 ≤ mLen kb) (ro : po + xs.length ≤ mLen ko) (hx : xs.length ≤ 8300) (hiv : ∀ j, j < 12 → βb (pb + j) = iv.getD j 0) (hxs : rdB βo po xs.length = xs) (hb : mB o kb βb) (ho : mB o ko βo) (hγ : mB o 49 γ) (hζ : ∃ ζ, mB o 52 ζ) (hbx : oBX o) (hks : oKS o ks nr) : ∃ o' γ', P_X13_stream G F (W.ad (.o 13 0)) (W.ad (.a 13 0 kb)) (Int32.ofNat pb) (W.ad (.a 13 0 ko)) (Int32.ofNat po) (Int32.ofNat xs.length) (mem W (S.so 13 0 o)) = some (mem W (S.so 13 0 o')) ∧ agr [50] [] [45, 46, 49, 52] [] o o' ∧ o'.f 50 = (Int32.ofNat xs.length) ∧ mB o' 49 γ' ∧ rdB γ' 0 xs.length = ctrF ks nr iv xs ∧ ∃ ζ, mB o' 52 ζ := by
  have hF := X.hF
  have hxs' : ∀ j, j < xs.length → βo (po + j) = xs.getD j 0 := by
    intro j hj
    conv => rhs; rw [← hxs]
    rw [List.getD_eq_getElem?_getD, rdB_at hj]
    rfl
  obtain ⟨o', γ', q1, q2, q3, q4, q5, q6⟩ := oM_st_l (G := G) (F := F) (S := S) (iv := iv) X h qb qo nb no lb_ lo_ rb ro hx hiv hxs' xs.length 0 F o γ (by omega) (by omega) hb ho hγ hζ hbx hks (.inl rfl) (fun j hj => absurd hj (Nat.not_lt_zero _))
  refine ⟨o', γ', q1, q2, q3, q4, ?_, q6⟩
  have := take_of_getD (δ := γ') (L := ctrF ks nr iv xs) (n := xs.length) (by rw [ctrF_len]; omega) q5
  rw [this, List.take_of_length_le (by rw [ctrF_len]; omega)]
/-- the mark by a code -/
theorem oM_keyOf {way : Nat} (hw : way < 4) (M : mM) : P_X13_keyOf G F (Int32.ofNat way) M = some ((Int32.ofNat (wayK way)), M) := by
  have : way = 0 ∨ way = 1 ∨ way = 2 ∨ way = 3 := by omega
  rcases this with rfl | rfl | rfl | rfl <;> rfl
theorem oM_markOf {way : Nat} (hw : way < 4) (M : mM) : P_X13_markOf G F (Int32.ofNat way) M = some ((Int32.ofNat (wayM way)), M) := by
  have : way = 0 ∨ way = 1 ∨ way = 2 ∨ way = 3 := by omega
  rcases this with rfl | rfl | rfl | rfl <;> rfl
theorem oM_tellM {o : Ob} {k p cnt : Nat} {β : Nat → UInt8} {msg : List UInt8} (X : Cx G F W) (h : isM W) (q : (kdA 13)[k]? = some 1) (hk : k ≠ 38) (hl : mLen k < 2 ^ 30) (hb : p + cnt ≤ mLen k) (hm : mMsg o msg) (hc : msg.length + cnt ≤ 25000) (hβ : mB o k β) : ∃ o', P_X13_tellMessage G F (W.ad (.o 13 0)) (W.ad (.a 13 0 k)) (Int32.ofNat p) (Int32.ofNat cnt) (mem W (S.so 13 0 o)) = some (mem W (S.so 13 0 o')) ∧ mMsg o' (msg ++ rdB β p cnt) ∧ agr [39] [] [38] [] o o' := by
  obtain ⟨o', g1, g2, g3⟩ := QM_tellMessage (S := S.so 13 0 o) X h q hk hl hb (by rw [so_eq]; exact hm) hc (by rw [so_eq]; exact hβ)
  rw [so_so] at g1
  rw [so_eq] at g3
  exact ⟨o', g1, g2, g3⟩
theorem oM_codeOf {o : Ob} {wide : Bool} {k p cnt : Nat} {β π γ μ : Nat → UInt8} {msg : List UInt8} (X : Cx G F W) (h : isM W) (q : (kdA 13)[k]? = some 1) (hk : k ≠ 36 ∧ k ≠ 40 ∧ k ≠ 35) (hl : mLen k < 2 ^ 30) (hb : p + cnt ≤ mLen k) (hc : cnt ≤ 8192) (hβ : mB o k β) (hπ : mB o 40 π) (hγ : mB o 35 γ) (hμ : mB o 36 μ) (hm : mMsg o msg) : ∃ o' δ, P_X13_codeOf G F (W.ad (.o 13 0)) (if wide then 512 else 256) (W.ad (.a 13 0 k)) (Int32.ofNat p) (Int32.ofNat cnt) (mem W (S.so 13 0 o)) = some (if wide then 64 else 32, mem W (S.so 13 0 o')) ∧ mB o' 35 (wrB δ 0 (hmac wide (rdB β p cnt) msg)) ∧ (∃ π, mB o' 40 π) ∧ (∃ μ, mB o' 36 μ) ∧ agC o o' := by
  obtain ⟨o', δ, g1, g2, g3, g4, g5⟩ := QM_codeOf (S := S.so 13 0 o) (wide := wide) X h q hk hl hb hc (by rw [so_eq]; exact hβ) (by rw [so_eq]; exact hπ) (by rw [so_eq]; exact hγ) (by rw [so_eq]; exact hμ) (by rw [so_eq]; exact hm)
  rw [so_so] at g1
  rw [so_eq] at g5
  exact ⟨o', δ, g1, g2, g3, g4, g5⟩
theorem wr_take {δ : Nat → UInt8} {L : List UInt8} {n : Nat} (h : n ≤ L.length) : rdB (wrB δ 0 L) 0 n = L.take n := by
  rw [rdB_take _ _ L.length _ h, rdB_wrB]
abbrev CA : List Nat := [36, 31, 32, 35, 40, 38, 51]
theorem oM_codeMark {o : Ob} {way kk pk kb pb ka pa kc pc : Nat} {key iv al xs : List UInt8} {βk βb βa βc μ : Nat → UInt8} (X : Cx G F W) (h : isM W) (hw : way < 2) (qk : (kdA 13)[kk]? = some 1) (qb : (kdA 13)[kb]? = some 1) (qa : (kdA 13)[ka]? = some 1) (qc : (kdA 13)[kc]? = some 1) (nk : kk ∉ CA) (nb : kb ∉ CA) (na : ka ∉ CA) (nc : kc ∉ CA) (lk : mLen kk < 2 ^ 30) (lb_ : mLen kb < 2 ^ 30) (la : mLen ka < 2 ^ 30) (lc : mLen kc < 2 ^ 30) (rk : pk + key.length ≤ mLen kk) (rb : pb + 16 ≤ mLen kb) (ra : pa + al.length ≤ mLen ka) (rc : pc + xs.length ≤ mLen kc) (hkl : key.length = wayK way) (hil : iv.length = 16) (hsz : al.length + xs.length ≤ 24900) (hk : mB o kk βk) (hb : mB o kb βb) (ha : mB o ka βa) (hc : mB o kc βc) (hD : mDig o) (hμ : mB o 51 μ) (ek : rdB βk pk key.length = key) (eb : rdB βb pb 16 = iv) (ea : rdB βa pa al.length = al) (ec : rdB βc pc xs.length = xs) : ∃ o' μ', P_X13_codeMark G F (W.ad (.o 13 0)) (Int32.ofNat way) (W.ad (.a 13 0 kk)) (Int32.ofNat pk) (W.ad (.a 13 0 kb)) (Int32.ofNat pb) (W.ad (.a 13 0 ka)) (Int32.ofNat pa) (Int32.ofNat al.length) (W.ad (.a 13 0 kc)) (Int32.ofNat pc) (Int32.ofNat xs.length) (mem W (S.so 13 0 o)) = some (mem W (S.so 13 0 o')) ∧ agr [37, 39] [] CA [33, 34] o o' ∧ mB o' 51 μ' ∧ rdB μ' 0 (wayM way) = cmarkF way key iv al xs ∧ mDig o' := by
  have lo := h.lo
  obtain ⟨⟨γ, hγ⟩, ⟨u, hu⟩, ⟨π, hπ⟩, ν, hν⟩ := hD
  have n38 : ∀ k, k ∉ CA → k ≠ 38 := fun k hk e => hk (by rw [e]; decide)
  have nn38 : ∀ k, k ∉ CA → k ∉ [38] := fun k hk e => hk (by rw [List.mem_singleton.mp e]; decide)
  obtain ⟨o1, g1, m1, a1⟩ := oM_tellM (G := G) (F := F) (S := S) (o := o.sf 39 0) (msg := []) (p := pa) (cnt := al.length) X h qa (n38 _ na) la ra ⟨rfl, by decide, ν, hν, rfl⟩ (by show 0 + _ ≤ 25000; omega) ha
  rw [ea, List.nil_append] at m1
  have a1' : agr [39] [] [38] [] o o1 := (agr_sf (by decide)).trans a1
  obtain ⟨o2, g2, m2, a2⟩ := oM_tellM (G := G) (F := F) (S := S) (o := o1) (p := pb) (cnt := 16) X h qb (n38 _ nb) lb_ rb m1 (by omega) (a1'.mB hb (nn38 _ nb))
  rw [eb] at m2
  have g2' : P_X13_tellMessage G F (W.ad (.o 13 0)) (W.ad (.a 13 0 kb)) (Int32.ofNat pb) 16 (mem W (S.so 13 0 o1)) = some (mem W (S.so 13 0 o2)) := g2
  have a2' := a1'.trans a2
  obtain ⟨o3, g3, m3, a3⟩ := oM_tellM (G := G) (F := F) (S := S) (o := o2) (p := pc) (cnt := xs.length) X h qc (n38 _ nc) lc rc m2 (by rw [List.length_append, hil]; omega) (a2'.mB hc (nn38 _ nc))
  rw [ec] at m3
  have a3' := a2'.trans a3
  obtain ⟨f1, f2, ν3, f3, f4⟩ := m3
  have hml : ((al ++ iv) ++ xs).length = al.length + 16 + xs.length := by rw [List.length_append, List.length_append, hil]
  have m8 := i64_8' (n := al.length) (by omega)
  have P1 := oM_put (G := G) (F := F) (S := S) (o := o3) (k := 38) (p := ((al ++ iv) ++ xs).length) (cnt := 8) (x := Int64.ofNat (8 * al.length)) X h rfl (by decide) (by show _ + 8 ≤ 25000; omega) (by decide) f3
  have P1' : P_X13_put G F (W.ad (.a 13 0 38)) (Int32.ofNat ((al ++ iv) ++ xs).length) 8 (Int64.ofNat (8 * al.length)) (mem W (S.so 13 0 o3)) = _ := P1
  obtain ⟨o4, ho4⟩ : ∃ o4, o4 = (o3.sA 38 (fun j' => sb (wrB ν3 ((al ++ iv) ++ xs).length (beL 8 (Int64.ofNat (8 * al.length))) j'))).sf 39 (Int32.ofNat (((al ++ iv) ++ xs).length + 8)) := ⟨_, rfl⟩
  have a4 : agr [39] [] [38] [] o o4 := by rw [ho4]; exact (a3'.trans (agr_sA (by decide))).trans (agr_sf (by decide))
  have e8 : beL 8 (Int64.ofNat (8 * al.length)) = w4 0 ++ w4 (Int32.ofNat (8 * al.length)) := by
    rw [w8_beL]
    unfold w8
    have x1 : (ushL (Int64.ofNat (8 * al.length)) 32).toInt32 = 0 := by
      rw [lit 32, ushL_n (by decide)]
      have : (Int64.ofNat (8 * al.length)).toUInt64.toNat = 8 * al.length := by
        show (Int64.ofNat (8 * al.length)).toBitVec.toNat = _
        rw [bvL, BitVec.toNat_ofNat, Nat.mod_eq_of_lt (by omega)]
      rw [this, show 8 * al.length / 2 ^ 32 = 0 by omega]
      rfl
    rw [x1, Int64.toInt32_ofNat']
  have m4 : mMsg o4 (cmsg iv al xs) := by
    have el : (cmsg iv al xs).length = ((al ++ iv) ++ xs).length + 8 := by
      unfold cmsg
      rw [List.length_append, List.length_append, w4_len, w4_len]
    refine ⟨by rw [ho4, sf_f, if_pos rfl, el], by rw [el]; omega, wrB ν3 ((al ++ iv) ++ xs).length (beL 8 (Int64.ofNat (8 * al.length))), by rw [ho4]; exact mB_sA _ _ _, ?_⟩
    have := rdB_app ν3 0 (beL 8 (Int64.ofNat (8 * al.length))) ((al ++ iv) ++ xs).length
    rw [f4, Nat.zero_add, beL_len] at this
    rw [el, this, e8]
    unfold cmsg
    simp only [List.append_assoc]
  have hk2 : key.length / 2 ≤ 8192 := by
    rw [hkl]
    have : way = 0 ∨ way = 1 := by omega
    rcases this with rfl | rfl <;> decide
  obtain ⟨wide, hwide⟩ : ∃ wide, wide = decide (way ≠ 0) := ⟨_, rfl⟩
  obtain ⟨o5, δ, g5, d5, p5, u5, a5⟩ := oM_codeOf (G := G) (F := F) (S := S) (o := o4) (wide := wide) (k := kk) (p := pk) (cnt := key.length / 2) X h qk ⟨fun e => nk (by rw [e]; decide), fun e => nk (by rw [e]; decide), fun e => nk (by rw [e]; decide)⟩ lk (by omega) hk2 (a4.mB hk (nn38 _ nk)) (a4.mB hπ (by decide)) (a4.mB hγ (by decide)) (a4.mB hu (by decide)) m4
  have ek2 : rdB βk pk (key.length / 2) = key.take (key.length / 2) := by rw [rdB_take _ _ key.length _ (by omega), ek]
  rw [ek2] at d5
  have hwm : wayM way ≤ (hmac wide (key.take (key.length / 2)) (cmsg iv al xs)).length := by
    rw [hmac_len, hwide]
    have : way = 0 ∨ way = 1 := by omega
    rcases this with rfl | rfl <;> decide
  have hwm64 := (wayM_le way).1
  have u5' : mB o5 51 μ := a5.mB (a4.mB hμ (by decide)) (by decide)
  have mv := oM_move (G := G) (F := F) (S := S) (o := o5) (k1 := 35) (k2 := 51) (p1 := 0) (p2 := 0) (cnt := wayM way) X h rfl rfl (by decide) (by decide) (by decide) (by show 0 + _ ≤ 64; omega) (by show 0 + _ ≤ 64; omega) (by omega) d5 u5'
  rw [wr_take hwm] at mv
  have mv' : P_X13_move G F (W.ad (.a 13 0 35)) 0 (W.ad (.a 13 0 51)) 0 (Int32.ofNat (wayM way)) (mem W (S.so 13 0 o5)) = _ := mv
  have ecm : (hmac wide (key.take (key.length / 2)) (cmsg iv al xs)).take (wayM way) = cmarkF way key iv al xs := by rw [cmarkF, hwide]
  rw [ecm] at mv'
  have d2 : (Int32.ofNat (wayK way)) / (2 : Int32) = (Int32.ofNat (key.length / 2)) := by
    rw [hkl]
    have : way = 0 ∨ way = 1 := by omega
    rcases this with rfl | rfl <;> decide
  have tailE : B_X13_codeMark_80 G F (W.ad (.o 13 0)) (Int32.ofNat way) (W.ad (.a 13 0 kk)) (Int32.ofNat pk) (W.ad (.o 13 0)) (if wide then 512 else 256) (mem W (S.so 13 0 o4)) = some (mem W (S.so 13 0 (o5.sA 51 (fun j => sb (wrB μ 0 (cmarkF way key iv al xs) j))))) := by
    unfold B_X13_codeMark_80
    rw [oM_keyOf (by omega), bP_s, rcv_m lo, bO_s, d2, g5, bP_s, oM_gR h 35 rfl (by decide), bO_s, oM_gR h 51 rfl (by decide), bO_s, oM_markOf (by omega), bP_s, mv', bO_s]
  have lcm := cmarkF_len way key iv al xs hw
  obtain ⟨π5, p5⟩ := p5
  obtain ⟨u6, u5⟩ := u5
  have fin : ∃ o' μ', some (mem W (S.so 13 0 (o5.sA 51 (fun j => sb (wrB μ 0 (cmarkF way key iv al xs) j))))) = some (mem W (S.so 13 0 o')) ∧ agr [37, 39] [] CA [33, 34] o o' ∧ mB o' 51 μ' ∧ rdB μ' 0 (wayM way) = cmarkF way key iv al xs ∧ mDig o' := by
    refine ⟨_, _, rfl, ?_, mB_sA _ _ _, by rw [← lcm, rdB_wrB], ⟨⟨_, mB_sA' (by decide) d5⟩, ⟨u6, mB_sA' (by decide) u5⟩, ⟨π5, mB_sA' (by decide) p5⟩, ?_⟩⟩
    · exact ((a4.mono (by decide) (by decide) (by decide) (by decide)).trans (a5.mono (by decide) (by decide) (by decide) (by decide))).trans (agr_sA (by decide))
    · obtain ⟨_, _, ν4, q, _⟩ := m4
      exact ⟨ν4, mB_sA' (by decide) (a5.mB q (by decide))⟩
  unfold P_X13_codeMark
  rw [pI lo rfl, bO_s, rcv_m lo, bO_s, g1, bO_s, rcv_m lo, bO_s, g2', bO_s, rcv_m lo, bO_s, g3, bO_s, oM_gR h 38 rfl (by decide), bO_s, gI lo rfl, bO_s, f1, m8, P1', bO_s, gI lo rfl, bO_s, sA_f, f1, n_addL _ 8, pI lo rfl, bO_s, ← ho4]
  have hw2 : way = 0 ∨ way = 1 := by omega
  rcases hw2 with rfl | rfl
  · have : wide = false := by rw [hwide]; rfl
    rw [this] at tailE
    have t' : B_X13_codeMark_80 G F (W.ad (.o 13 0)) (Int32.ofNat 0) (W.ad (.a 13 0 kk)) (Int32.ofNat pk) (W.ad (.o 13 0)) 256 (mem W (S.so 13 0 o4)) = _ := tailE
    rw [if_pos (by rfl), t']
    exact fin
  · have : wide = true := by rw [hwide]; rfl
    rw [this] at tailE
    have t' : B_X13_codeMark_80 G F (W.ad (.o 13 0)) (Int32.ofNat 1) (W.ad (.a 13 0 kk)) (Int32.ofNat pk) (W.ad (.o 13 0)) 512 (mem W (S.so 13 0 o4)) = _ := tailE
    rw [if_neg (by decide), t']
    exact fin
end MSTR
