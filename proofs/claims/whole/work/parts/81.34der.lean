/-! derive: the calls -/
theorem beL4 {n : Nat} (h : n < 2 ^ 31) : beL 4 (Int64.ofNat n) = w4 (Int32.ofNat n) := by rw [← n_64 h, w4_beL]
abbrev agZ (o o' : Ob) : Prop := agr [37] [] [36, 31, 32, 35, 80] [33, 34] o o'
section DER2
variable {W : WR} {G : mG} {F : Nat}
theorem Q11_derive {S : ST} {t w : List UInt8} {l lw : Bool} {rows : Nat → List UInt8} {ra rb rc rd many : Nat} (X : Cx G F W) (h : isT W) (hd : isD W) (h12 : W.r 11 0 12 = some (.o 4 0)) (ha : ra < 8) (hb : rb < 8) (hc : rc < 8) (hdd : rd < 8) (hm : many = 16 ∨ many = 32 ∨ many = 64) (hs : Byt 8192 (S 0 9) t l) (hR : ∀ r, r < 8 → ∃ l, Byt 8192 (S 0 r) (rows r) l) (bw : Byt 64 (S 0 67) w lw) : ∃ S', P_X11_derive G F (W.ad (.o 11 0)) (Int32.ofNat ra) (Int32.ofNat rb) (Int32.ofNat rc) (Int32.ofNat rd) (Int32.ofNat many) (mem W S) = some ((Int32.ofNat many), mem W S') ∧ fr [(4, 0), (0, 67), (0, 9)] S S' ∧ Byt 8192 (S' 0 9) (derF (rows ra) (rows rb) (rows rc) (rows rd) many) false ∧ ∃ ys l, Byt 64 (S' 0 67) ys l := by
  obtain ⟨la, ba⟩ := hR ra ha
  obtain ⟨lb, bb_⟩ := hR rb hb
  obtain ⟨lc, bc⟩ := hR rc hc
  obtain ⟨ld, bd⟩ := hR rd hdd
  have za := ba.le
  have zb := bb_.le
  have zc := bc.le
  have zd := bd.le
  have main : ∃ S', B_X11_derive_57 G F (W.ad (.o 11 0)) (Int32.ofNat ra) (Int32.ofNat rb) (Int32.ofNat rc) (Int32.ofNat rd) (Int32.ofNat many) (mem W S) = some ((Int32.ofNat many), mem W S') ∧ fr [(4, 0), (0, 67), (0, 9)] S S' ∧ Byt 8192 (S' 0 9) (derF (rows ra) (rows rb) (rows rc) (rows rd) many) false ∧ ∃ ys l, Byt 64 (S' 0 67) ys l := by
    obtain ⟨S1, g1, f1, b1, c1⟩ := Q4_putDerived (S := S) (it := 9) (many := many) X hd (h.rb ra ha) (h.rb rb hb) (h.rb rc hc) (h.rb rd hdd) h.sb (by omega) (by omega) (by omega) (by omega) (by omega) ba bb_ bc bd hs bw (by omega) (by omega) (by omega) (by omega) hm (by omega)
    unfold B_X11_derive_57
    rw [h.gR rfl h12, bO_s, h.gR rfl h.ra, bO_s, h.row ha, bO_s, bO_s, h.row hb, bO_s, bO_s, h.row hc, bO_s, bO_s, h.row hdd, bO_s, h.gR rfl h.shown, bO_s, rcv_m hd.1, bO_s, g1, bO_s, h.gR rfl h.shown, bO_s, h.sb.gI 1 rfl, bO_s, b1.many, derF_len (by omega)]
    exact ⟨S1, rfl, f1, b1, c1⟩
  unfold P_X11_derive
  rw [rcv_m h.lo, bO_s, Q11_isRow, bP_s, isr_i ha, if_neg (by decide), rcv_m h.lo, bO_s, Q11_isRow, bP_s, isr_i hb, if_neg (by decide), rcv_m h.lo, bO_s, Q11_isRow, bP_s, isr_i hc, if_neg (by decide), rcv_m h.lo, bO_s, Q11_isRow, bP_s, isr_i hdd, if_neg (by decide)]
  rcases hm with rfl | rfl | rfl
  · rw [if_pos (by rfl)]; exact main
  · rw [if_neg (by decide), if_pos (by rfl)]; exact main
  · rw [if_neg (by decide), if_neg (by decide), if_pos (by rfl)]; exact main
theorem derive_bad {a b c d m : Int32} (A : Nat) (M : mM) (hA : rcv M A 11 = some ()) (hx : isr a = false ∨ isr b = false ∨ isr c = false ∨ isr d = false ∨ ¬ (m = 16 ∨ m = 32 ∨ m = 64)) : P_X11_derive G F A a b c d m M = some (-2, M) := by
  unfold P_X11_derive
  simp only [hA, bO_s, Q11_isRow, bP_s]
  cases ha : isr a
  · rw [if_pos (by rfl)]
  rw [if_neg (by decide)]
  cases hb : isr b
  · rw [if_pos (by rfl)]
  rw [if_neg (by decide)]
  cases hc : isr c
  · rw [if_pos (by rfl)]
  rw [if_neg (by decide)]
  cases hd : isr d
  · rw [if_pos (by rfl)]
  rw [if_neg (by decide)]
  simp only [ha, hb, hc, hd, Bool.true_eq_false, false_or] at hx
  rw [if_neg (fun q => hx (.inl q)), if_neg (fun q => hx (.inr (.inl q))), if_neg (fun q => hx (.inr (.inr q)))]
theorem mderive_bad {a b c d m : Int32} (A : Nat) (M : mM) (hx : isr a = false ∨ isr b = false ∨ isr c = false ∨ isr d = false ∨ ¬ (m = 16 ∨ m = 32 ∨ m = 64)) : P_X13_derive G F A a b c d m M = some (-2, M) := by
  unfold P_X13_derive
  simp only [Q13_isRow, bP_s]
  cases ha : isr a
  · rw [if_pos (by rfl)]
  rw [if_neg (by decide)]
  cases hb : isr b
  · rw [if_pos (by rfl)]
  rw [if_neg (by decide)]
  cases hc : isr c
  · rw [if_pos (by rfl)]
  rw [if_neg (by decide)]
  cases hd : isr d
  · rw [if_pos (by rfl)]
  rw [if_neg (by decide)]
  simp only [ha, hb, hc, hd, Bool.true_eq_false, false_or] at hx
  rw [if_neg (fun q => hx (.inl q)), if_neg (fun q => hx (.inr (.inl q))), if_neg (fun q => hx (.inr (.inr q)))]
/-- layNumber and lay over an object given by name -/
theorem QM_lay' {S : ST} {o : Ob} {k p cnt : Nat} {β : Nat → UInt8} {msg : List UInt8} (X : Cx G F W) (h : isM W) (q : (kdA 13)[k]? = some 1) (hk : k ≠ 36) (hl : mLen k < 2 ^ 30) (hb : p + cnt ≤ mLen k) (hm : mMass o msg) (hc : msg.length + cnt ≤ 33100) (hβ : mB o k β) : ∃ o', P_X13_lay G F (W.ad (.o 13 0)) (W.ad (.a 13 0 k)) (Int32.ofNat p) (Int32.ofNat cnt) (mem W (S.so 13 0 o)) = some (mem W (S.so 13 0 o')) ∧ mMass o' (msg ++ rdB β p cnt) ∧ agr [37] [] [36] [] o o' := by
  obtain ⟨o', g1, g2, g3⟩ := QM_lay (S := S.so 13 0 o) X h q hk hl hb (by rw [so_eq]; exact hm) hc (by rw [so_eq]; exact hβ)
  rw [so_so] at g1
  rw [so_eq] at g3
  exact ⟨o', g1, g2, g3⟩
theorem QM_layN {S : ST} {o : Ob} {n : Nat} {x : Int64} {msg : List UInt8} (X : Cx G F W) (h : isM W) (hm : mMass o msg) (hc : msg.length + 4 ≤ 33100) (hn : n < 2 ^ 31) (hx : x = Int64.ofNat n) : ∃ o', P_X13_layNumber G F (W.ad (.o 13 0)) x 4 (mem W (S.so 13 0 o)) = some (mem W (S.so 13 0 o')) ∧ mMass o' (msg ++ w4 (Int32.ofNat n)) ∧ agr [37] [] [36] [] o o' := by
  obtain ⟨o', g1, g2, g3⟩ := QM_layNumber (S := S.so 13 0 o) (cnt := 4) (x := x) X h (by decide) (by rw [so_eq]; exact hm) hc
  rw [so_so] at g1
  rw [so_eq] at g3
  rw [hx, beL4 hn] at g2
  exact ⟨o', g1, g2, g3⟩
theorem QM_der_l {kz kn ku kv pz pn pu pv many : Nat} {z nm u v : List UInt8} {βz βn βu βv : Nat → UInt8} (X : Cx G F W) (h : isM W) (qz : (kdA 13)[kz]? = some 1) (qn : (kdA 13)[kn]? = some 1) (qu : (kdA 13)[ku]? = some 1) (qv : (kdA 13)[kv]? = some 1) (nz : kz ∉ [36, 31, 32, 35, 80]) (nn_ : kn ∉ [36, 31, 32, 35, 80]) (nu : ku ∉ [36, 31, 32, 35, 80]) (nv : kv ∉ [36, 31, 32, 35, 80]) (lz : mLen kz < 2 ^ 30) (ln : mLen kn < 2 ^ 30) (lu : mLen ku < 2 ^ 30) (lv : mLen kv < 2 ^ 30) (bz : pz + z.length ≤ mLen kz) (bn : pn + nm.length ≤ mLen kn) (bu : pu + u.length ≤ mLen ku) (bv : pv + v.length ≤ mLen kv) (rz : rdB βz pz z.length = z) (rn : rdB βn pn nm.length = nm) (ru : rdB βu pu u.length = u) (rv : rdB βv pv v.length = v) (hsum : z.length + nm.length + u.length + v.length ≤ 32768) (hm64 : many ≤ 64) : ∀ (m i n : Nat) (S : ST) (o : Ob) (δ : Nat → UInt8), m < n → i + m = (many + 31) / 32 → mB o kz βz → mB o kn βn → mB o ku βu → mB o kv βv → (∃ γ, mB o 35 γ) → (∃ μ, mB o 36 μ) → mB o 80 δ → (∀ j, j < min many (32 * i) → δ j = (sha false (dmsg 1 z nm u v many) ++ sha false (dmsg 2 z nm u v many)).getD j 0) → ∃ o' δ', B_X13_deriveIt_3 G F n (W.ad (.o 13 0)) (W.ad (.a 13 0 kz)) (Int32.ofNat pz) (Int32.ofNat z.length) (W.ad (.a 13 0 kn)) (Int32.ofNat pn) (Int32.ofNat nm.length) (W.ad (.a 13 0 ku)) (Int32.ofNat pu) (Int32.ofNat u.length) (W.ad (.a 13 0 kv)) (Int32.ofNat pv) (Int32.ofNat v.length) (Int32.ofNat many) (Int32.ofNat i) (mem W (S.so 13 0 o)) = some (mem W (S.so 13 0 o')) ∧ agZ o o' ∧ (∃ γ, mB o' 35 γ) ∧ (∃ μ, mB o' 36 μ) ∧ mB o' 80 δ' ∧ ∀ j, j < many → δ' j = (sha false (dmsg 1 z nm u v many) ++ sha false (dmsg 2 z nm u v many)).getD j 0 := by
  intro m
  induction m with
  | zero =>
    intro i n S o δ hn hi hz hnm hu hv hg hmu hδ hd
    obtain ⟨n, rfl⟩ : ∃ q, n = q + 1 := ⟨n - 1, by omega⟩
    rw [B_X13_deriveIt_3, show (32 : Int32) * (Int32.ofNat i) = (Int32.ofNat (32 * i)) from n_mul 32 i, if_pos ((n_le (by omega) (by omega)).mpr (by omega))]
    exact ⟨o, δ, rfl, agr.refl _ _ _ _ _, hg, hmu, hδ, fun j hj => hd j (by omega)⟩
  | succ m ih =>
    intro i n S o δ hn hi hz hnm hu hv hg hmu hδ hd
    obtain ⟨n, rfl⟩ : ∃ q, n = q + 1 := ⟨n - 1, by omega⟩
    obtain ⟨γ, hg⟩ := hg
    obtain ⟨μ, hmu⟩ := hmu
    have hi2 : i ≤ 1 := by omega
    have lo := h.lo
    rw [B_X13_deriveIt_3, show (32 : Int32) * (Int32.ofNat i) = (Int32.ofNat (32 * i)) from n_mul 32 i, if_neg (fun q => absurd ((n_le (by omega) (by omega)).mp q) (by omega)), n_addL i 1]
    obtain ⟨e1, e2⟩ := QM_empty (S := S.so 13 0 o) (G := G) (F := F) h (by rw [so_eq]; exact hmu)
    rw [so_so, so_eq] at e1
    rw [so_eq] at e2
    have sub : ∀ k, k ∉ [36, 31, 32, 35, 80] → k ∉ [36] := fun k hk q => hk (by rw [List.mem_singleton.mp q]; decide)
    obtain ⟨o2, g2, m2, a2⟩ := QM_layN (S := S) (n := i + 1) (x := ((Int32.ofNat (i + 1))).toInt64) X h e2 (by decide) (by omega) (n_64 (by omega))
    have a2' : agr [37] [] [36] [] o o2 := (agr_sf (by decide)).trans a2
    obtain ⟨o3, g3, m3, a3⟩ := QM_lay' (S := S) (p := pz) (cnt := z.length) X h qz (fun e => nz (by rw [e]; decide)) lz bz m2 (by simp [w4_len]; omega) (a2'.mB hz (sub kz nz))
    have a3' := a2'.trans a3
    obtain ⟨o4, g4, m4, a4⟩ := QM_layN (S := S) (n := nm.length) (x := ((Int32.ofNat nm.length)).toInt64) X h m3 (by simp [w4_len, rdB_len]; omega) (by omega) (n_64 (by omega))
    have a4' := a3'.trans a4
    obtain ⟨o5, g5, m5, a5⟩ := QM_lay' (S := S) (p := pn) (cnt := nm.length) X h qn (fun e => nn_ (by rw [e]; decide)) ln bn m4 (by simp [w4_len, rdB_len]; omega) (a4'.mB hnm (sub kn nn_))
    have a5' := a4'.trans a5
    obtain ⟨o6, g6, m6, a6⟩ := QM_layN (S := S) (n := u.length) (x := ((Int32.ofNat u.length)).toInt64) X h m5 (by simp [w4_len, rdB_len]; omega) (by omega) (n_64 (by omega))
    have a6' := a5'.trans a6
    obtain ⟨o7, g7, m7, a7⟩ := QM_lay' (S := S) (p := pu) (cnt := u.length) X h qu (fun e => nu (by rw [e]; decide)) lu bu m6 (by simp [w4_len, rdB_len]; omega) (a6'.mB hu (sub ku nu))
    have a7' := a6'.trans a7
    obtain ⟨o8, g8, m8, a8⟩ := QM_layN (S := S) (n := v.length) (x := ((Int32.ofNat v.length)).toInt64) X h m7 (by simp [w4_len, rdB_len]; omega) (by omega) (n_64 (by omega))
    have a8' := a7'.trans a8
    obtain ⟨o9, g9, m9, a9⟩ := QM_lay' (S := S) (p := pv) (cnt := v.length) X h qv (fun e => nv (by rw [e]; decide)) lv bv m8 (by simp [w4_len, rdB_len]; omega) (a8'.mB hv (sub kv nv))
    have a9' := a8'.trans a9
    obtain ⟨oa, ga, ma, aa⟩ := QM_layN (S := S) (n := 8 * many) (x := (8 : Int64) * ((Int32.ofNat many)).toInt64) X h m9 (by simp [w4_len, rdB_len]; omega) (by omega) (by rw [n_64 (by omega), show (8 : Int64) = Int64.ofNat 8 from rfl, ← Int64.ofNat_mul])
    have aa' := a9'.trans aa
    rw [rz, rn, ru, rv, List.nil_append] at ma
    have dl := dmsg_len (i + 1) z nm u v many
    have ma' : mMass oa (dmsg (i + 1) z nm u v many) := ma
    obtain ⟨ob, gb, bb_, mb, ab⟩ := QM_digestOf (S := S.so 13 0 oa) (wide := false) (msg := dmsg (i + 1) z nm u v many) X h (by rw [so_eq]; exact ma') (by rw [so_eq]; exact aa'.mB hg (by decide)) (by omega)
    rw [so_so] at gb
    rw [so_eq] at ab
    have gb' : P_X13_digestOf G F (W.ad (.o 13 0)) 256 (mem W (S.so 13 0 oa)) = some (32, mem W (S.so 13 0 ob)) := gb
    have aZ : agr [37] [] [36, 31, 32, 35] [33, 34] o ob := (aa'.mono (by decide) (by decide) (by decide) (by decide)).trans ab
    rw [rcv_m lo, bO_s, e1, bO_s, rcv_m lo, bO_s, g2, bO_s, rcv_m lo, bO_s, g3, bO_s, rcv_m lo, bO_s, g4, bO_s, rcv_m lo, bO_s, g5, bO_s, rcv_m lo, bO_s, g6, bO_s, rcv_m lo, bO_s, g7, bO_s, rcv_m lo, bO_s, g8, bO_s, rcv_m lo, bO_s, g9, bO_s, rcv_m lo, bO_s, ga, bO_s, rcv_m lo, bO_s, gb', bP_s, h.gR 35 rfl (by decide), bO_s, h.gR 80 rfl (by decide), bO_s, n_sub (by omega)]
    obtain ⟨D, hD⟩ : ∃ D, D = sha false (dmsg (i + 1) z nm u v many) := ⟨_, rfl⟩
    rw [← hD] at bb_
    have hDl : D.length = 32 := by rw [hD]; exact sha_len _ _
    have sub2 : ∀ k, k ∉ [36, 31, 32, 35, 80] → k ∉ [36, 31, 32, 35] := fun k hk q => hk (by simp only [List.mem_cons, List.not_mem_nil, or_false] at q ⊢; omega)
    have key : ∀ (c : Nat), c = min 32 (many - 32 * i) → ∃ o' δ', (bO (P_X13_move G F (W.ad (.a 13 0 35)) 0 (W.ad (.a 13 0 80)) (Int32.ofNat (32 * i)) (Int32.ofNat c) (mem W (S.so 13 0 ob))) fun M149 => B_X13_deriveIt_3 G F n (W.ad (.o 13 0)) (W.ad (.a 13 0 kz)) (Int32.ofNat pz) (Int32.ofNat z.length) (W.ad (.a 13 0 kn)) (Int32.ofNat pn) (Int32.ofNat nm.length) (W.ad (.a 13 0 ku)) (Int32.ofNat pu) (Int32.ofNat u.length) (W.ad (.a 13 0 kv)) (Int32.ofNat pv) (Int32.ofNat v.length) (Int32.ofNat many) (Int32.ofNat (i + 1)) M149) = some (mem W (S.so 13 0 o')) ∧ agZ o o' ∧ (∃ γ, mB o' 35 γ) ∧ (∃ μ, mB o' 36 μ) ∧ mB o' 80 δ' ∧ ∀ j, j < many → δ' j = (sha false (dmsg 1 z nm u v many) ++ sha false (dmsg 2 z nm u v many)).getD j 0 := by
      intro c hc
      have mv := QM_move (S := S.so 13 0 ob) (k1 := 35) (k2 := 80) (p1 := 0) (p2 := 32 * i) (cnt := c) X h rfl rfl (by decide) (by decide) (by decide) (by show 0 + c ≤ 64; omega) (by show 32 * i + c ≤ 64; omega) (by omega) (by rw [so_eq]; exact bb_) (by rw [so_eq]; exact aZ.mB hδ (by decide))
      rw [so_so, so_eq] at mv
      have mv' : P_X13_move G F (W.ad (.a 13 0 35)) 0 (W.ad (.a 13 0 80)) (Int32.ofNat (32 * i)) (Int32.ofNat c) (mem W (S.so 13 0 ob)) = _ := mv
      rw [mv', bO_s]
      obtain ⟨o', δ', q1, q2, q3, q4, q5, q6⟩ := ih (i + 1) n S (ob.sA 80 (fun j => sb (wrB δ (32 * i) (rdB (wrB γ 0 D) 0 c) j))) _ (by omega) (by omega) (mB_sA' (fun e => nz (by rw [e]; decide)) (aZ.mB hz (sub2 kz nz))) (mB_sA' (fun e => nn_ (by rw [e]; decide)) (aZ.mB hnm (sub2 kn nn_))) (mB_sA' (fun e => nu (by rw [e]; decide)) (aZ.mB hu (sub2 ku nu))) (mB_sA' (fun e => nv (by rw [e]; decide)) (aZ.mB hv (sub2 kv nv))) ⟨_, mB_sA' (by decide) bb_⟩ ⟨mb.2.2.choose, mB_sA' (by decide) mb.2.2.choose_spec.1⟩ (mB_sA _ _ _) (fun j hj => by
        have er : rdB (wrB γ 0 D) 0 c = D.take c := by rw [rdB_take _ _ 32 _ (by omega), ← hDl, rdB_wrB]
        rw [er]
        by_cases hjj : j < 32 * i
        · rw [wrB, if_neg (by omega)]
          exact hd j (by omega)
        · rw [wrB, if_pos ⟨by omega, by rw [List.length_take]; omega⟩, List.getD_eq_getElem?_getD, List.getElem?_take_of_lt (by omega), List.getD_eq_getElem?_getD]
          have hi01 : i = 0 ∨ i = 1 := by omega
          rcases hi01 with rfl | rfl
          · rw [List.getElem?_append_left (by rw [sha_len]; simp; omega), ← hD]
            rfl
          · rw [List.getElem?_append_right (by rw [sha_len]; simp; omega), ← hD, sha_len]
            rfl)
      exact ⟨o', δ', q1, ((aZ.mono (by decide) (by decide) (by decide) (by decide)).trans (agr_sA (by decide))).trans q2, q3, q4, q5, q6⟩
    by_cases h32 : 32 ≤ many - 32 * i
    · rw [if_pos (by rw [lit 32]; exact (n_le (by omega) (by omega)).mpr h32)]
      exact key 32 (by omega)
    · rw [if_neg (by rw [lit 32]; exact fun q => h32 ((n_le (by omega) (by omega)).mp q))]
      exact key (many - 32 * i) (by omega)
end DER2
