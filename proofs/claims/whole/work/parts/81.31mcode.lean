/-! CODES WITH KEYS: the model -/
theorem xb_tab : ∀ n, n < 256 → beL 1 (sb (UInt8.ofNat n) ^^^ 54).toInt64 = [UInt8.ofNat n ^^^ 54] ∧ beL 1 (sb (UInt8.ofNat n) ^^^ 92).toInt64 = [UInt8.ofNat n ^^^ 92] := by decide +kernel
theorem xb54 (y : UInt8) : beL 1 (sb y ^^^ 54).toInt64 = [y ^^^ 54] := by
  have := (xb_tab y.toNat y.toNat_lt).1
  rwa [UInt8.ofNat_toNat] at this
theorem xb92 (y : UInt8) : beL 1 (sb y ^^^ 92).toInt64 = [y ^^^ 92] := by
  have := (xb_tab y.toNat y.toNat_lt).2
  rwa [UInt8.ofNat_toNat] at this
abbrev mMsg (o : Ob) (msg : List UInt8) : Prop := o.f 39 = (Int32.ofNat msg.length) ∧ msg.length ≤ 25000 ∧ ∃ β, mB o 38 β ∧ rdB β 0 msg.length = msg
theorem agr.mMsg {fs gs as ls : List Nat} {o o' : Ob} {t : List UInt8} (h : agr fs gs as ls o o') (ht : mMsg o t) (h1 : 39 ∉ fs) (h0 : 38 ∉ as) : mMsg o' t := by
  obtain ⟨a, b, β, c, d⟩ := ht
  exact ⟨(h.1 39 h1).trans a, b, β, h.mB c h0, d⟩
abbrev DGF : List Nat := [37]
abbrev DGA : List Nat := [36, 31, 32, 35, 40]
abbrev DGL : List Nat := [33, 34]
abbrev agC (o o' : Ob) : Prop := agr [37] [] [36, 31, 32, 35, 40] [33, 34] o o'
abbrev agC0 (o o' : Ob) : Prop := agr [37] [] [36, 31, 32, 35] [33, 34] o o'
theorem xk_succ (k : List UInt8) (v : UInt8) (n : Nat) : xk k v (n + 1) = xk k v n ++ [k.getD n 0 ^^^ v] := by
  unfold xk
  rw [List.range_succ, List.map_append]
  rfl
theorem sha64 (wide : Bool) (m : List UInt8) : (sha wide m).length ≤ 64 := by rw [sha_len]; cases wide <;> decide
theorem wrB_at {β : Nat → UInt8} {p j : Nat} {ys : List UInt8} (h : j < ys.length) : wrB β p ys (p + j) = ys.getD j 0 := by
  unfold wrB
  rw [if_pos ⟨by omega, by omega⟩, Nat.add_sub_cancel_left]
theorem wrB_pad {π : Nat → UInt8} {ys : List UInt8} {n j : Nat} (hz : ∀ j, j < n → π j = 0) (hj : j < n) : wrB π 0 ys j = ys.getD j 0 := by
  unfold wrB
  by_cases h : j < ys.length
  · rw [if_pos ⟨by omega, by omega⟩]
    rfl
  · rw [if_neg (by omega), hz j hj, List.getD_eq_getElem?_getD, List.getElem?_eq_none (by omega)]
    rfl
section MCODE
variable {W : WR} {G : mG} {F : Nat}
theorem QM_empty {S : ST} (h : isM W) {β : Nat → UInt8} (hb : mB (S 13 0) 36 β) : P_X13_empty G F (W.ad (.o 13 0)) (mem W S) = some (mem W (S.so 13 0 ((S 13 0).sf 37 0))) ∧ mMass ((S 13 0).sf 37 0) [] := by
  refine ⟨?_, rfl, by decide, β, hb, rfl⟩
  unfold P_X13_empty
  rw [h.pI 37 _ rfl, bO_s]
theorem QM_tellMessage {S : ST} {k p cnt : Nat} {β : Nat → UInt8} {msg : List UInt8} (X : Cx G F W) (h : isM W) (q : (kdA 13)[k]? = some 1) (hk : k ≠ 38) (hl : mLen k < 2 ^ 30) (hb : p + cnt ≤ mLen k) (hm : mMsg (S 13 0) msg) (hc : msg.length + cnt ≤ 25000) (hβ : mB (S 13 0) k β) : ∃ o, P_X13_tellMessage G F (W.ad (.o 13 0)) (W.ad (.a 13 0 k)) (Int32.ofNat p) (Int32.ofNat cnt) (mem W S) = some (mem W (S.so 13 0 o)) ∧ mMsg o (msg ++ rdB β p cnt) ∧ agr [39] [] [38] [] (S 13 0) o := by
  obtain ⟨m1, m2, γ, m3, m4⟩ := hm
  unfold P_X13_tellMessage
  rw [h.gR 38 rfl (by decide), bO_s, h.gI 39 rfl, bO_s, m1, QM_move X h q rfl hk hl (by decide) hb (show msg.length + cnt ≤ 25000 from hc) (by omega) hβ m3, bO_s, gI h.lo rfl, bO_s, sA_f, m1, n_add, pI h.lo rfl, bO_s]
  refine ⟨_, rfl, ⟨by rw [sf_f, if_pos rfl]; simp [rdB_len], by simp [rdB_len]; omega, _, mB_sA _ _ _, ?_⟩, (agr_sA (by decide)).trans (agr_sf (by decide))⟩
  have e := rdB_app γ 0 (rdB β p cnt) msg.length
  rw [m4, Nat.zero_add] at e
  rw [List.length_append]
  exact e
/-- the outer digest -/
theorem QM_co_c {K D : List UInt8} {wide : Bool} {π γ : Nat → UInt8} (X : Cx G F W) (h : isM W) (hD : D.length = if wide then 64 else 32) (hπ : ∀ j, j < bb wide → π j = K.getD j 0) (hγ : rdB γ 0 D.length = D) : ∀ (m k n : Nat) (S : ST), m < n → k + m = bb wide → mB (S 13 0) 40 π → mB (S 13 0) 35 γ → mMass (S 13 0) (xk K 92 k) → ∃ o, B_X13_codeOf_161 G F n (W.ad (.o 13 0)) (if wide then 512 else 256) (Int32.ofNat (bb wide)) (if wide then 64 else 32) (Int32.ofNat k) (mem W S) = some (if wide then 64 else 32, mem W (S.so 13 0 o)) ∧ mB o 35 (wrB γ 0 (sha wide (xk K 92 (bb wide) ++ D))) ∧ (∃ β, mB o 36 β) ∧ agC0 (S 13 0) o := by
  have hb128 : bb wide ≤ 128 := by cases wide <;> decide
  have hd64 : D.length ≤ 64 := by rw [hD]; cases wide <;> decide
  intro m
  induction m with
  | zero =>
    intro k n S hn hk hp hg hm
    obtain ⟨n, rfl⟩ : ∃ q, n = q + 1 := ⟨n - 1, by omega⟩
    obtain rfl : k = bb wide := by omega
    have hlen : (if wide then (64 : Int32) else 32) = (Int32.ofNat D.length) := by rw [hD]; cases wide <;> rfl
    rw [B_X13_codeOf_161, if_pos ((n_le (by omega) (by omega)).mpr (by omega)), h.gR 35 rfl (by decide), bO_s, rcv_m h.lo, bO_s]
    obtain ⟨o1, g1, m1, a1⟩ := QM_lay (S := S) (k := 35) (p := 0) (cnt := D.length) X h rfl (by decide) (by decide) (by show 0 + _ ≤ 64; omega) hm (by rw [xk_len]; omega) hg
    rw [hγ] at m1
    have g1' : P_X13_lay G F (W.ad (.o 13 0)) (W.ad (.a 13 0 35)) 0 (if wide then (64 : Int32) else 32) (mem W S) = some (mem W (S.so 13 0 o1)) := by rw [hlen]; exact g1
    rw [g1', bO_s, rcv_m h.lo, bO_s]
    obtain ⟨o2, g2, b2, m2, a2⟩ := QM_digestOf (S := S.so 13 0 o1) (wide := wide) X h (by rw [so_eq]; exact m1) (by rw [so_eq]; exact a1.mB hg (by decide)) (by simp [xk_len]; omega)
    rw [so_so] at g2
    rw [so_eq] at a2
    rw [g2, bP_s]
    refine ⟨o2, rfl, b2, ?_, (a1.mono (by decide) (by decide) (by decide) (by decide)).trans (a2.mono (by decide) (by decide) (by decide) (by decide))⟩
    exact ⟨m2.2.2.choose, m2.2.2.choose_spec.1⟩
  | succ m ih =>
    intro k n S hn hk hp hg hm
    obtain ⟨n, rfl⟩ : ∃ q, n = q + 1 := ⟨n - 1, by omega⟩
    rw [B_X13_codeOf_161, if_neg (fun q => absurd ((n_le (by omega) (by omega)).mp q) (by omega)), h.gR 40 rfl (by decide), bO_s, h.aB rfl hp (show k < 128 by omega) (by decide), bO_s, rcv_m h.lo, bO_s]
    obtain ⟨o1, g1, m1, a1⟩ := QM_layNumber (S := S) (cnt := 1) (x := (sb (π k) ^^^ 92).toInt64) X h (by decide) hm (by rw [xk_len]; omega)
    have g1' : P_X13_layNumber G F (W.ad (.o 13 0)) (sb (π k) ^^^ 92).toInt64 1 (mem W S) = some (mem W (S.so 13 0 o1)) := g1
    rw [g1', bO_s, n_addL k 1]
    rw [xb92, hπ k (by omega), ← xk_succ] at m1
    obtain ⟨o2, g2, b2, m2, a2⟩ := ih (k + 1) n (S.so 13 0 o1) (by omega) (by omega) (by rw [so_eq]; exact a1.mB hp (by decide)) (by rw [so_eq]; exact a1.mB hg (by decide)) (by rw [so_eq]; exact m1)
    rw [so_so] at g2
    rw [so_eq] at a2
    exact ⟨o2, g2, b2, m2, (a1.mono (by decide) (by decide) (by decide) (by decide)).trans a2⟩
/-- the inner digest -/
theorem QM_co_b {K msg : List UInt8} {wide : Bool} {π γ : Nat → UInt8} (X : Cx G F W) (h : isM W) (hπ : ∀ j, j < bb wide → π j = K.getD j 0) (hml : msg.length ≤ 25000) : ∀ (m k n : Nat) (S : ST), m < n → k + m = bb wide → mB (S 13 0) 40 π → mB (S 13 0) 35 γ → mMass (S 13 0) (xk K 54 k) → mMsg (S 13 0) msg → ∃ o δ, B_X13_codeOf_105 G F n (W.ad (.o 13 0)) (if wide then 512 else 256) (Int32.ofNat (bb wide)) (Int32.ofNat k) (mem W S) = some (if wide then 64 else 32, mem W (S.so 13 0 o)) ∧ mB o 35 (wrB δ 0 (sha wide (xk K 92 (bb wide) ++ sha wide (xk K 54 (bb wide) ++ msg)))) ∧ (∃ β, mB o 36 β) ∧ agC0 (S 13 0) o := by
  have hb128 : bb wide ≤ 128 := by cases wide <;> decide
  have hF := X.hF
  intro m
  induction m with
  | zero =>
    intro k n S hn hk hp hg hm hmsg
    obtain ⟨n, rfl⟩ : ∃ q, n = q + 1 := ⟨n - 1, by omega⟩
    obtain rfl : k = bb wide := by omega
    obtain ⟨f1, f2, β, f3, f4⟩ := hmsg
    rw [B_X13_codeOf_105, if_pos ((n_le (by omega) (by omega)).mpr (by omega)), h.gR 38 rfl (by decide), bO_s, h.gI 39 rfl, bO_s, f1, rcv_m h.lo, bO_s]
    obtain ⟨o1, g1, m1, a1⟩ := QM_lay (S := S) (k := 38) (p := 0) (cnt := msg.length) X h rfl (by decide) (by decide) (by show 0 + _ ≤ 25000; omega) hm (by rw [xk_len]; omega) f3
    rw [f4] at m1
    have g1' : P_X13_lay G F (W.ad (.o 13 0)) (W.ad (.a 13 0 38)) 0 (Int32.ofNat msg.length) (mem W S) = some (mem W (S.so 13 0 o1)) := g1
    rw [g1', bO_s, rcv_m h.lo, bO_s]
    obtain ⟨o2, g2, b2, m2, a2⟩ := QM_digestOf (S := S.so 13 0 o1) (wide := wide) X h (by rw [so_eq]; exact m1) (by rw [so_eq]; exact a1.mB hg (by decide)) (by simp [xk_len]; omega)
    rw [so_so] at g2
    rw [so_eq] at a2
    rw [g2, bP_s, rcv_m h.lo, bO_s]
    obtain ⟨e1, e2⟩ := QM_empty (S := S.so 13 0 o2) (G := G) (F := F) h (by rw [so_eq]; exact m2.2.2.choose_spec.1)
    rw [so_so, so_eq] at e1
    rw [so_eq] at e2
    rw [e1, bO_s]
    obtain ⟨o3, g3, b3, m3, a3⟩ := QM_co_c (K := K) (wide := wide) (D := sha wide (xk K 54 (bb wide) ++ msg)) (π := π) X h (sha_len _ _) hπ (rdB_wrB γ 0 _) (bb wide) 0 F (S.so 13 0 (o2.sf 37 0)) (by omega) (by omega) (by rw [so_eq]; exact a2.mB (a1.mB hp (by decide)) (by decide)) (by rw [so_eq]; exact b2) (by rw [so_eq]; exact e2)
    have g3' : B_X13_codeOf_161 G F F (W.ad (.o 13 0)) (if wide then 512 else 256) (Int32.ofNat (bb wide)) (if wide then 64 else 32) 0 (mem W (S.so 13 0 (o2.sf 37 0))) = some (if wide then 64 else 32, mem W (S.so 13 0 o3)) := by rw [← so_so S 13 0 (o2.sf 37 0) o3]; exact g3
    rw [so_eq] at a3
    rw [g3']
    refine ⟨o3, _, rfl, b3, m3, ?_⟩
    exact (((a1.mono (by decide) (by decide) (by decide) (by decide)).trans (a2.mono (by decide) (by decide) (by decide) (by decide))).trans (agr_sf (by decide))).trans a3
  | succ m ih =>
    intro k n S hn hk hp hg hm hmsg
    obtain ⟨n, rfl⟩ : ∃ q, n = q + 1 := ⟨n - 1, by omega⟩
    rw [B_X13_codeOf_105, if_neg (fun q => absurd ((n_le (by omega) (by omega)).mp q) (by omega)), h.gR 40 rfl (by decide), bO_s, h.aB rfl hp (show k < 128 by omega) (by decide), bO_s, rcv_m h.lo, bO_s]
    obtain ⟨o1, g1, m1, a1⟩ := QM_layNumber (S := S) (cnt := 1) (x := (sb (π k) ^^^ 54).toInt64) X h (by decide) hm (by rw [xk_len]; omega)
    have g1' : P_X13_layNumber G F (W.ad (.o 13 0)) (sb (π k) ^^^ 54).toInt64 1 (mem W S) = some (mem W (S.so 13 0 o1)) := g1
    rw [g1', bO_s, n_addL k 1]
    rw [xb54, hπ k (by omega), ← xk_succ] at m1
    obtain ⟨o2, δ, g2, b2, m2, a2⟩ := ih (k + 1) n (S.so 13 0 o1) (by omega) (by omega) (by rw [so_eq]; exact a1.mB hp (by decide)) (by rw [so_eq]; exact a1.mB hg (by decide)) (by rw [so_eq]; exact m1) (by rw [so_eq]; exact a1.mMsg hmsg (by decide) (by decide))
    rw [so_so] at g2
    rw [so_eq] at a2
    exact ⟨o2, δ, g2, b2, m2, (a1.mono (by decide) (by decide) (by decide) (by decide)).trans a2⟩
theorem sb0 : (0 : Int32).toInt8.toInt32 = sb 0 := by decide
theorem QM_co_a {wide : Bool} {a2 : Nat} {l3 l4 : Int32} (h : isM W) : ∀ (m k n : Nat) (S : ST) (π : Nat → UInt8), m < n → k + m = bb wide → mB (S 13 0) 40 π → (∀ j, j < k → π j = 0) → ∃ (n' : Nat) (π' : Nat → UInt8), B_X13_codeOf_8 G F n (W.ad (.o 13 0)) (if wide then 512 else 256) a2 l3 l4 (Int32.ofNat (bb wide)) (Int32.ofNat k) (mem W S) = B_X13_codeOf_8 G F (n' + 1) (W.ad (.o 13 0)) (if wide then 512 else 256) a2 l3 l4 (Int32.ofNat (bb wide)) (Int32.ofNat (bb wide)) (mem W (S.so 13 0 ((S 13 0).sA 40 (fun j => sb (π' j))))) ∧ ∀ j, j < bb wide → π' j = 0 := by
  have hb128 : bb wide ≤ 128 := by cases wide <;> decide
  intro m
  induction m with
  | zero =>
    intro k n S π hn hk hp hz
    obtain ⟨n, rfl⟩ : ∃ q, n = q + 1 := ⟨n - 1, by omega⟩
    obtain rfl : k = bb wide := by omega
    exact ⟨n, π, by rw [sA_self hp, so_self], hz⟩
  | succ m ih =>
    intro k n S π hn hk hp hz
    obtain ⟨n, rfl⟩ : ∃ q, n = q + 1 := ⟨n - 1, by omega⟩
    rw [B_X13_codeOf_8, if_neg (fun q => absurd ((n_le (by omega) (by omega)).mp q) (by omega)), h.gR 40 rfl (by decide), bO_s, sb0, h.sB rfl hp (show k < 128 by omega) (by decide), bO_s, n_addL k 1]
    obtain ⟨n', π', g1, g2⟩ := ih (k + 1) n (S.so 13 0 ((S 13 0).sA 40 (fun j' => sb (va_up π k 0 j')))) (va_up π k 0) (by omega) (by omega) (by rw [so_eq]; exact mB_sA _ _ _) (fun j hj => by
      unfold va_up
      by_cases e : j = k
      · rw [if_pos e]
      · rw [if_neg e]; exact hz j (by omega))
    rw [so_so, so_eq, sA_sA] at g1
    exact ⟨n', π', g1, g2⟩
theorem QM_codeOf {S : ST} {wide : Bool} {k p cnt : Nat} {β π γ μ : Nat → UInt8} {msg : List UInt8} (X : Cx G F W) (h : isM W) (q : (kdA 13)[k]? = some 1) (hk : k ≠ 36 ∧ k ≠ 40 ∧ k ≠ 35) (hl : mLen k < 2 ^ 30) (hb : p + cnt ≤ mLen k) (hc : cnt ≤ 8192) (hβ : mB (S 13 0) k β) (hπ : mB (S 13 0) 40 π) (hγ : mB (S 13 0) 35 γ) (hμ : mB (S 13 0) 36 μ) (hm : mMsg (S 13 0) msg) : ∃ o δ, P_X13_codeOf G F (W.ad (.o 13 0)) (if wide then 512 else 256) (W.ad (.a 13 0 k)) (Int32.ofNat p) (Int32.ofNat cnt) (mem W S) = some (if wide then 64 else 32, mem W (S.so 13 0 o)) ∧ mB o 35 (wrB δ 0 (hmac wide (rdB β p cnt) msg)) ∧ (∃ π, mB o 40 π) ∧ (∃ μ, mB o 36 μ) ∧ agC (S 13 0) o := by
  have hb128 : bb wide ≤ 128 := by cases wide <;> decide
  have hF := X.hF
  have eb : (if wide then (512 : Int32) else 256) / 4 = (Int32.ofNat (bb wide)) := by cases wide <;> decide
  unfold P_X13_codeOf
  rw [eb]
  obtain ⟨n', π', g1, z1⟩ := QM_co_a (G := G) (F := F) (wide := wide) (a2 := W.ad (.a 13 0 k)) (l3 := (Int32.ofNat p)) (l4 := (Int32.ofNat cnt)) h (bb wide) 0 F S π (by omega) (by omega) hπ (fun j hj => absurd hj (Nat.not_lt_zero _))
  have g1' : B_X13_codeOf_8 G F F (W.ad (.o 13 0)) (if wide then 512 else 256) (W.ad (.a 13 0 k)) (Int32.ofNat p) (Int32.ofNat cnt) (Int32.ofNat (bb wide)) 0 (mem W S) = _ := g1
  rw [g1', B_X13_codeOf_8, if_pos ((n_le (by omega) (by omega)).mpr (by omega))]
  obtain ⟨o0, ho0⟩ : ∃ o0, o0 = (S 13 0).sA 40 (fun j => sb (π' j)) := ⟨_, rfl⟩
  rw [← ho0]
  have a0 : agC (S 13 0) o0 := by rw [ho0]; exact agr_sA (by decide)
  have p0 : mB o0 40 π' := by rw [ho0]; exact mB_sA _ _ _
  have b0 : mB o0 k β := by rw [ho0]; exact mB_sA' hk.2.1 hβ
  have g0 : mB o0 35 γ := by rw [ho0]; exact mB_sA' (by decide) hγ
  have u0 : mB o0 36 μ := by rw [ho0]; exact mB_sA' (by decide) hμ
  have last : ∀ (o : Ob) (ρ : Nat → UInt8) (γ : Nat → UInt8), mB o 40 ρ → (∀ j, j < bb wide → ρ j = (keyK wide (rdB β p cnt)).getD j 0) → agC (S 13 0) o → mB o 35 γ → (∃ μ, mB o 36 μ) → ∃ o' δ, (bO (rcv (mem W (S.so 13 0 o)) (W.ad (.o 13 0)) 13) fun _ => bO (P_X13_empty G F (W.ad (.o 13 0)) (mem W (S.so 13 0 o))) fun M99 => B_X13_codeOf_105 G F F (W.ad (.o 13 0)) (if wide then 512 else 256) (Int32.ofNat (bb wide)) 0 M99) = some (if wide then 64 else 32, mem W (S.so 13 0 o')) ∧ mB o' 35 (wrB δ 0 (hmac wide (rdB β p cnt) msg)) ∧ (∃ π, mB o' 40 π) ∧ (∃ μ, mB o' 36 μ) ∧ agC (S 13 0) o' := by
    intro o ρ γ hρ hρ2 ha hg hmu
    obtain ⟨μ, hmu⟩ := hmu
    obtain ⟨e1, e2⟩ := QM_empty (S := S.so 13 0 o) (G := G) (F := F) h (by rw [so_eq]; exact hmu)
    rw [so_so, so_eq] at e1
    rw [so_eq] at e2
    rw [rcv_m h.lo, bO_s, e1, bO_s]
    have hm' : mMsg (o.sf 37 0) msg := (agr_sf (fs := [37]) (gs := []) (as := []) (ls := []) (by decide)).mMsg (ha.mMsg hm (by decide) (by decide)) (by decide) (by decide)
    obtain ⟨o2, δ, g2, b2, m2, a2⟩ := QM_co_b (K := keyK wide (rdB β p cnt)) (wide := wide) (msg := msg) (π := ρ) (γ := γ) X h hρ2 hm.2.1 (bb wide) 0 F (S.so 13 0 (o.sf 37 0)) (by omega) (by omega) (by rw [so_eq]; exact hρ) (by rw [so_eq]; exact hg) (by rw [so_eq]; exact e2) (by rw [so_eq]; exact hm')
    have g2' : B_X13_codeOf_105 G F F (W.ad (.o 13 0)) (if wide then 512 else 256) (Int32.ofNat (bb wide)) 0 (mem W (S.so 13 0 (o.sf 37 0))) = some (if wide then 64 else 32, mem W (S.so 13 0 o2)) := by rw [← so_so S 13 0 (o.sf 37 0) o2]; exact g2
    rw [so_eq] at a2
    have a3 : agC0 o o2 := (agr_sf (by decide)).trans a2
    exact ⟨o2, δ, g2', b2, ⟨ρ, a3.mB hρ (by decide)⟩, m2, ha.trans (a3.mono (by decide) (by decide) (by decide) (by decide))⟩
  by_cases hcc : cnt ≤ bb wide
  · rw [if_pos ((n_le (by omega) (by omega)).mpr hcc), h.gR 40 rfl (by decide), bO_s]
    have e := QM_move (S := S.so 13 0 o0) (k1 := k) (k2 := 40) (p1 := p) (p2 := 0) (cnt := cnt) X h q rfl hk.2.1 hl (by decide) hb (by show 0 + cnt ≤ 128; omega) (by omega) (by rw [so_eq]; exact b0) (by rw [so_eq]; exact p0)
    rw [so_so, so_eq] at e
    have e' : P_X13_move G F (W.ad (.a 13 0 k)) (Int32.ofNat p) (W.ad (.a 13 0 40)) 0 (Int32.ofNat cnt) (mem W (S.so 13 0 o0)) = _ := e
    rw [e', bO_s]
    refine last _ _ γ (mB_sA _ _ _) (fun j hj => ?_) (a0.trans (agr_sA (by decide))) (mB_sA' (by decide) g0) ⟨μ, mB_sA' (by decide) u0⟩
    rw [wrB_pad (n := bb wide) z1 hj]
    unfold keyK
    rw [if_neg (by rw [rdB_len]; omega)]
  · rw [if_neg (fun q => hcc ((n_le (by omega) (by omega)).mp q)), rcv_m h.lo, bO_s]
    obtain ⟨e1, e2⟩ := QM_empty (S := S.so 13 0 o0) (G := G) (F := F) h (by rw [so_eq]; exact u0)
    rw [so_so, so_eq] at e1
    rw [so_eq] at e2
    rw [e1, bO_s, rcv_m h.lo, bO_s]
    obtain ⟨o1, g2, m2, a2⟩ := QM_lay (S := S.so 13 0 (o0.sf 37 0)) (k := k) (p := p) (cnt := cnt) X h q hk.1 hl hb (by rw [so_eq]; exact e2) (by show 0 + cnt ≤ 33100; omega) (by rw [so_eq]; exact b0)
    rw [so_so] at g2
    rw [so_eq] at a2
    rw [List.nil_append] at m2
    rw [g2, bO_s, h.gR 35 rfl (by decide), bO_s, h.gR 40 rfl (by decide), bO_s, rcv_m h.lo, bO_s]
    have g1b : mB o1 35 γ := a2.mB g0 (by decide)
    have p1b : mB o1 40 π' := a2.mB p0 (by decide)
    obtain ⟨o2, g3, b3, m3, a3⟩ := QM_digestOf (S := S.so 13 0 o1) (wide := wide) X h (by rw [so_eq]; exact m2) (by rw [so_eq]; exact g1b) (by rw [rdB_len]; omega)
    rw [so_so] at g3
    rw [so_eq] at a3
    rw [g3, bP_s]
    obtain ⟨D, hD⟩ : ∃ D, D = sha wide (rdB β p cnt) := ⟨_, rfl⟩
    rw [← hD] at b3
    have hDl : D.length = if wide then 64 else 32 := by rw [hD, sha_len]
    have hd64 : D.length ≤ 64 := by rw [hDl]; cases wide <;> decide
    have hlen : (if wide then (64 : Int32) else 32) = (Int32.ofNat D.length) := by rw [hDl]; cases wide <;> rfl
    have hlen2 : (if wide then (512 : Int32) else 256) / 8 = (Int32.ofNat D.length) := by rw [hDl]; cases wide <;> decide
    have p2b : mB o2 40 π' := a3.mB p1b (by decide)
    have r3 : rdB (wrB γ 0 D) 0 D.length = D := rdB_wrB γ 0 D
    have mv := QM_move (S := S.so 13 0 o2) (k1 := 35) (k2 := 40) (p1 := 0) (p2 := 0) (cnt := D.length) X h rfl rfl (by decide) (by decide) (by decide) (by show 0 + _ ≤ 64; omega) (by show 0 + _ ≤ 128; omega) (by omega) (by rw [so_eq]; exact b3) (by rw [so_eq]; exact p2b)
    rw [so_so, so_eq, r3] at mv
    have mv' : P_X13_move G F (W.ad (.a 13 0 35)) 0 (W.ad (.a 13 0 40)) 0 (if wide then (64 : Int32) else 32) (mem W (S.so 13 0 o2)) = some (mem W (S.so 13 0 (o2.sA 40 (fun j => sb (wrB π' 0 D j))))) := by rw [hlen]; exact mv
    rw [mv', bO_s, h.gR 35 rfl (by decide), bO_s, h.gR 40 rfl (by decide), bO_s, hlen2]
    have mw := QM_move (S := S.so 13 0 (o2.sA 40 (fun j => sb (wrB π' 0 D j)))) (k1 := 35) (k2 := 40) (p1 := 0) (p2 := 0) (cnt := D.length) X h rfl rfl (by decide) (by decide) (by decide) (by show 0 + _ ≤ 64; omega) (by show 0 + _ ≤ 128; omega) (by omega) (by rw [so_eq]; exact mB_sA' (by decide) b3) (by rw [so_eq]; exact mB_sA _ _ _)
    rw [so_so, so_eq, r3, sA_sA] at mw
    have mw' : P_X13_move G F (W.ad (.a 13 0 35)) 0 (W.ad (.a 13 0 40)) 0 (Int32.ofNat D.length) (mem W (S.so 13 0 (o2.sA 40 (fun j => sb (wrB π' 0 D j))))) = _ := mw
    rw [mw', bO_s]
    have hD128 : D.length ≤ bb wide := by rw [hDl]; cases wide <;> decide
    refine last _ _ _ (mB_sA _ _ _) (fun j hj => ?_) ((((a0.trans (agr_sf (by decide))).trans (a2.mono (by decide) (by decide) (by decide) (by decide))).trans (a3.mono (by decide) (by decide) (by decide) (by decide))).trans (agr_sA (by decide))) (mB_sA' (by decide) b3) ⟨m3.2.2.choose, mB_sA' (by decide) m3.2.2.choose_spec.1⟩
    have ek : keyK wide (rdB β p cnt) = D := by
      unfold keyK
      rw [if_pos (by rw [rdB_len]; omega), hD]
    rw [ek]
    by_cases hjD : j < D.length
    · have := wrB_at (β := wrB π' 0 D) (p := 0) hjD
      rwa [Nat.zero_add] at this
    · rw [List.getD_eq_getElem?_getD, List.getElem?_eq_none (by omega), wrB, if_neg (by omega), wrB, if_neg (by omega), z1 j hj]
      rfl
/-- the calls hash and code -/
abbrev mDig (o : Ob) : Prop := (∃ β, mB o 35 β) ∧ (∃ β, mB o 36 β) ∧ (∃ β, mB o 40 β) ∧ ∃ β, mB o 38 β
theorem QM_hash {S : ST} {wide : Bool} {r : Nat} {t : List UInt8} {rows : Nat → List UInt8} (X : Cx G F W) (h : isM W) (hr : r < 8) (ho : mOut (S 13 0) t) (hR : mRows (S 13 0) rows) (hD : mDig (S 13 0)) : ∃ o, P_X13_hash G F (W.ad (.o 13 0)) (if wide then 512 else 256) (Int32.ofNat r) (mem W S) = some ((Int32.ofNat (sha wide (rows r)).length), mem W (S.so 13 0 o)) ∧ mOut o (sha wide (rows r)) ∧ agr [37, 5] [] [36, 31, 32, 35, 4] [33, 34] (S 13 0) o ∧ mDig o := by
  obtain ⟨⟨γ, hγ⟩, ⟨μ, hμ⟩, ⟨π, hπ⟩, ν, hν⟩ := hD
  obtain ⟨β, r1, r2⟩ := hR
  obtain ⟨r3, r4, r5⟩ := r2 r hr
  obtain ⟨o1, o2, β4, o4, o5⟩ := ho
  have main : ∃ o, B_X13_hash_14 G F (W.ad (.o 13 0)) (if wide then 512 else 256) (Int32.ofNat r) (mem W S) = some ((Int32.ofNat (sha wide (rows r)).length), mem W (S.so 13 0 o)) ∧ mOut o (sha wide (rows r)) ∧ agr [37, 5] [] [36, 31, 32, 35, 4] [33, 34] (S 13 0) o ∧ mDig o := by
    unfold B_X13_hash_14
    rw [Q13_isRow, bP_s, isr_i hr, if_neg (by decide), rcv_m h.lo, bO_s]
    obtain ⟨e1, e2⟩ := QM_empty (S := S) (G := G) (F := F) h hμ
    rw [e1, bO_s, h.gR 2 rfl (by decide), bO_s, h.gR 3 rfl (by decide), bO_s, h.aN rfl (show r < 8 from hr) (by decide), bO_s, rcv_m h.lo, bO_s, so_eq]
    show ∃ o, (bO (P_X13_lay G F (W.ad (.o 13 0)) (W.ad (.a 13 0 2)) ((8192 : Int32) * (Int32.ofNat r)) ((S 13 0).a 3 r) _) _) = _ ∧ _
    rw [r3, show (8192 : Int32) * (Int32.ofNat r) = (Int32.ofNat (8192 * r)) from n_mul 8192 r]
    obtain ⟨p1, g1, m1, a1⟩ := QM_lay (S := S.so 13 0 ((S 13 0).sf 37 0)) (k := 2) (p := 8192 * r) (cnt := (rows r).length) X h rfl (by decide) (by decide) (by show _ ≤ 65536; omega) (by rw [so_eq]; exact e2) (by show 0 + _ ≤ 33100; omega) (by rw [so_eq]; exact r1)
    rw [so_so] at g1
    rw [so_eq] at a1
    rw [List.nil_append, r5] at m1
    rw [g1, bO_s, h.gR 35 rfl (by decide), bO_s, rcv_m h.lo, bO_s]
    obtain ⟨p2, g2, b2, m2, a2⟩ := QM_digestOf (S := S.so 13 0 p1) (wide := wide) X h (by rw [so_eq]; exact m1) (by rw [so_eq]; exact a1.mB hγ (by decide)) (by omega)
    rw [so_so] at g2
    rw [so_eq] at a2
    obtain ⟨D, hD⟩ : ∃ D, D = sha wide (rows r) := ⟨_, rfl⟩
    rw [← hD] at b2 ⊢
    have hDl : D.length = if wide then 64 else 32 := by rw [hD, sha_len]
    have hd64 : D.length ≤ 64 := by rw [hDl]; cases wide <;> decide
    have hlen : (if wide then (64 : Int32) else 32) = (Int32.ofNat D.length) := by rw [hDl]; cases wide <;> rfl
    rw [g2, bP_s, rcv_m h.lo, bO_s]
    have a12 : agr [37, 5] [] [36, 31, 32, 35] [33, 34] (S 13 0) p2 := ((agr_sf (by decide)).trans (a1.mono (by decide) (by decide) (by decide) (by decide))).trans (a2.mono (by decide) (by decide) (by decide) (by decide))
    have tl := QM_tell (S := S.so 13 0 p2) (k := 35) (p := 0) (cnt := D.length) X h rfl (by decide) (by decide) (by show 0 + _ ≤ 64; omega) (by omega) (by rw [so_eq]; exact b2) (by rw [so_eq]; exact a12.mB o4 (by decide))
    rw [so_so, so_eq, rdB_wrB] at tl
    have tl' := (congrArg (fun v => P_X13_tell G F (W.ad (.o 13 0)) (W.ad (.a 13 0 35)) 0 v (mem W (S.so 13 0 p2))) hlen).trans tl
    rw [tl', bP_s]
    refine ⟨_, rfl, ⟨by rw [sf_f, if_pos rfl], by omega, _, mB_sA _ _ _, rdB_wrB _ 0 D⟩, ((a12.mono (by decide) (by decide) (by decide) (by decide)).trans (agr_sA (by decide))).trans (agr_sf (by decide)), ⟨_, mB_sA' (by decide) b2⟩, ⟨m2.2.2.choose, mB_sA' (by decide) m2.2.2.choose_spec.1⟩, ⟨π, mB_sA' (by decide) (a12.mB hπ (by decide))⟩, ν, mB_sA' (by decide) (a12.mB hν (by decide))⟩
  unfold P_X13_hash
  cases wide
  · rw [if_pos (by rfl)]; exact main
  · rw [if_neg (by decide), if_pos (by rfl)]; exact main
theorem QM_code {S : ST} {wide : Bool} {r rk : Nat} {t : List UInt8} {rows : Nat → List UInt8} (X : Cx G F W) (h : isM W) (hr : r < 8) (hrk : rk < 8) (ho : mOut (S 13 0) t) (hR : mRows (S 13 0) rows) (hD : mDig (S 13 0)) : ∃ o, P_X13_code G F (W.ad (.o 13 0)) (if wide then 512 else 256) (Int32.ofNat rk) (Int32.ofNat r) (mem W S) = some ((Int32.ofNat (hmac wide (rows rk) (rows r)).length), mem W (S.so 13 0 o)) ∧ mOut o (hmac wide (rows rk) (rows r)) ∧ agr [37, 5, 39] [] [36, 31, 32, 35, 4, 38, 40] [33, 34] (S 13 0) o ∧ mDig o := by
  obtain ⟨⟨γ, hγ⟩, ⟨μ, hμ⟩, ⟨π, hπ⟩, ν, hν⟩ := hD
  obtain ⟨β, r1, r2⟩ := hR
  obtain ⟨r3, r4, r5⟩ := r2 r hr
  obtain ⟨k3, k4, k5⟩ := r2 rk hrk
  obtain ⟨o1, o2, β4, o4, o5⟩ := ho
  have main : ∃ o, B_X13_code_14 G F (W.ad (.o 13 0)) (if wide then 512 else 256) (Int32.ofNat rk) (Int32.ofNat r) (mem W S) = some ((Int32.ofNat (hmac wide (rows rk) (rows r)).length), mem W (S.so 13 0 o)) ∧ mOut o (hmac wide (rows rk) (rows r)) ∧ agr [37, 5, 39] [] [36, 31, 32, 35, 4, 38, 40] [33, 34] (S 13 0) o ∧ mDig o := by
    unfold B_X13_code_14
    rw [Q13_isRow, bP_s, isr_i hrk, if_neg (by decide), Q13_isRow, bP_s, isr_i hr, if_neg (by decide), h.pI 39 _ rfl, bO_s, h.gR 2 rfl (by decide), bO_s, h.gR 3 rfl (by decide), bO_s, h.aN rfl (show r < 8 from hr) (by decide), bO_s, rcv_m h.lo, bO_s, so_eq]
    show ∃ o, (bO (P_X13_tellMessage G F (W.ad (.o 13 0)) (W.ad (.a 13 0 2)) ((8192 : Int32) * (Int32.ofNat r)) ((S 13 0).a 3 r) _) _) = _ ∧ _
    rw [r3, show (8192 : Int32) * (Int32.ofNat r) = (Int32.ofNat (8192 * r)) from n_mul 8192 r]
    obtain ⟨p1, g1, m1, a1⟩ := QM_tellMessage (S := S.so 13 0 ((S 13 0).sf 39 0)) (msg := []) (k := 2) (p := 8192 * r) (cnt := (rows r).length) X h rfl (by decide) (by decide) (by show _ ≤ 65536; omega) (by rw [so_eq]; exact ⟨rfl, by decide, ν, hν, rfl⟩) (by show 0 + _ ≤ 25000; omega) (by rw [so_eq]; exact r1)
    rw [so_so] at g1
    rw [so_eq] at a1
    rw [List.nil_append, r5] at m1
    have a1' : agr [39] [] [38] [] (S 13 0) p1 := (agr_sf (by decide)).trans a1
    rw [g1, bO_s, h.gR 35 rfl (by decide), bO_s, h.gR 2 rfl (by decide), bO_s, h.gR 3 rfl (by decide), bO_s, h.aN rfl (show rk < 8 from hrk) (by decide), bO_s, rcv_m h.lo, bO_s, so_eq, a1'.2.2.1 3 (by decide), k3, show (8192 : Int32) * (Int32.ofNat rk) = (Int32.ofNat (8192 * rk)) from n_mul 8192 rk]
    obtain ⟨p2, δ, g2, b2, m2, u2, a2⟩ := QM_codeOf (S := S.so 13 0 p1) (wide := wide) (k := 2) (p := 8192 * rk) (cnt := (rows rk).length) X h rfl (by decide) (by decide) (by show _ ≤ 65536; omega) k4 (by rw [so_eq]; exact a1'.mB r1 (by decide)) (by rw [so_eq]; exact a1'.mB hπ (by decide)) (by rw [so_eq]; exact a1'.mB hγ (by decide)) (by rw [so_eq]; exact a1'.mB hμ (by decide)) (by rw [so_eq]; exact m1)
    rw [so_so] at g2
    rw [so_eq] at a2
    rw [k5] at b2
    obtain ⟨D, hD⟩ : ∃ D, D = hmac wide (rows rk) (rows r) := ⟨_, rfl⟩
    rw [← hD] at b2 ⊢
    have hDl : D.length = if wide then 64 else 32 := by rw [hD, hmac, sha_len]
    have hd64 : D.length ≤ 64 := by rw [hDl]; cases wide <;> decide
    have hlen : (if wide then (64 : Int32) else 32) = (Int32.ofNat D.length) := by rw [hDl]; cases wide <;> rfl
    rw [g2, bP_s, rcv_m h.lo, bO_s]
    have a12 : agr [37, 5, 39] [] [36, 31, 32, 35, 40, 38] [33, 34] (S 13 0) p2 := (a1'.mono (by decide) (by decide) (by decide) (by decide)).trans (a2.mono (by decide) (by decide) (by decide) (by decide))
    have tl := QM_tell (S := S.so 13 0 p2) (k := 35) (p := 0) (cnt := D.length) X h rfl (by decide) (by decide) (by show 0 + _ ≤ 64; omega) (by omega) (by rw [so_eq]; exact b2) (by rw [so_eq]; exact a12.mB o4 (by decide))
    rw [so_so, so_eq, rdB_wrB] at tl
    have tl' := (congrArg (fun v => P_X13_tell G F (W.ad (.o 13 0)) (W.ad (.a 13 0 35)) 0 v (mem W (S.so 13 0 p2))) hlen).trans tl
    rw [tl', bP_s]
    obtain ⟨_, _, ν', m1b, _⟩ := m1
    obtain ⟨π', m2⟩ := m2
    obtain ⟨μ', u2⟩ := u2
    refine ⟨_, rfl, ⟨by rw [sf_f, if_pos rfl], by omega, _, mB_sA _ _ _, rdB_wrB _ 0 D⟩, ((a12.mono (by decide) (by decide) (by decide) (by decide)).trans (agr_sA (by decide))).trans (agr_sf (by decide)), ⟨_, mB_sA' (by decide) b2⟩, ⟨μ', mB_sA' (by decide) u2⟩, ⟨π', mB_sA' (by decide) m2⟩, ν', mB_sA' (by decide) (a2.mB m1b (by decide))⟩
  unfold P_X13_code
  cases wide
  · rw [if_pos (by rfl)]; exact main
  · rw [if_neg (by decide), if_pos (by rfl)]; exact main
end MCODE
