/-! derive: the model's call -/
theorem take_of_getD {δ : Nat → UInt8} {L : List UInt8} {n : Nat} (hn : n ≤ L.length) (h : ∀ j, j < n → δ j = L.getD j 0) : rdB δ 0 n = L.take n := by
  apply List.ext_getElem?
  intro j
  by_cases hj : j < n
  · rw [rdB_at hj, Nat.zero_add, h j hj, List.getElem?_take_of_lt hj, List.getD_eq_getElem?_getD, List.getElem?_eq_getElem (by omega)]
    rfl
  · rw [List.getElem?_eq_none (by rw [rdB_len]; omega), List.getElem?_eq_none (by rw [List.length_take]; omega)]
section DER3
variable {W : WR} {G : mG} {F : Nat}
theorem QM_deriveIt {S : ST} {kz kn ku kv pz pn pu pv many : Nat} {z nm u v : List UInt8} {βz βn βu βv δ : Nat → UInt8} (X : Cx G F W) (h : isM W) (qz : (kdA 13)[kz]? = some 1) (qn : (kdA 13)[kn]? = some 1) (qu : (kdA 13)[ku]? = some 1) (qv : (kdA 13)[kv]? = some 1) (nz : kz ∉ [36, 31, 32, 35, 80]) (nn_ : kn ∉ [36, 31, 32, 35, 80]) (nu : ku ∉ [36, 31, 32, 35, 80]) (nv : kv ∉ [36, 31, 32, 35, 80]) (lz : mLen kz < 2 ^ 30) (ln : mLen kn < 2 ^ 30) (lu : mLen ku < 2 ^ 30) (lv : mLen kv < 2 ^ 30) (bz : pz + z.length ≤ mLen kz) (bn : pn + nm.length ≤ mLen kn) (bu : pu + u.length ≤ mLen ku) (bv : pv + v.length ≤ mLen kv) (rz : rdB βz pz z.length = z) (rn : rdB βn pn nm.length = nm) (ru : rdB βu pu u.length = u) (rv : rdB βv pv v.length = v) (hsum : z.length + nm.length + u.length + v.length ≤ 32768) (hm64 : many ≤ 64) (hz : mB (S 13 0) kz βz) (hnm : mB (S 13 0) kn βn) (hu : mB (S 13 0) ku βu) (hv : mB (S 13 0) kv βv) (hg : ∃ γ, mB (S 13 0) 35 γ) (hmu : ∃ μ, mB (S 13 0) 36 μ) (hδ : mB (S 13 0) 80 δ) : ∃ o' δ', P_X13_deriveIt G F (W.ad (.o 13 0)) (W.ad (.a 13 0 kz)) (Int32.ofNat pz) (Int32.ofNat z.length) (W.ad (.a 13 0 kn)) (Int32.ofNat pn) (Int32.ofNat nm.length) (W.ad (.a 13 0 ku)) (Int32.ofNat pu) (Int32.ofNat u.length) (W.ad (.a 13 0 kv)) (Int32.ofNat pv) (Int32.ofNat v.length) (Int32.ofNat many) (mem W S) = some (mem W (S.so 13 0 o')) ∧ agZ (S 13 0) o' ∧ (∃ γ, mB o' 35 γ) ∧ (∃ μ, mB o' 36 μ) ∧ mB o' 80 δ' ∧ rdB δ' 0 many = derF z nm u v many := by
  have hF := X.hF
  obtain ⟨o', δ', q1, q2, q3, q4, q5, q6⟩ := QM_der_l (many := many) X h qz qn qu qv nz nn_ nu nv lz ln lu lv bz bn bu bv rz rn ru rv hsum hm64 ((many + 31) / 32) 0 F S (S 13 0) δ (by omega) (by omega) hz hnm hu hv hg hmu hδ (fun j hj => absurd hj (by omega))
  rw [so_self] at q1
  refine ⟨o', δ', q1, q2, q3, q4, q5, ?_⟩
  exact take_of_getD (by rw [List.length_append, sha_len, sha_len]; simp; omega) q6
theorem QM_derive {S : ST} {t : List UInt8} {rows : Nat → List UInt8} {ra rb rc rd many : Nat} (X : Cx G F W) (h : isM W) (ha : ra < 8) (hb : rb < 8) (hc : rc < 8) (hdd : rd < 8) (hm : many = 16 ∨ many = 32 ∨ many = 64) (ho : mOut (S 13 0) t) (hR : mRows (S 13 0) rows) (hD : mDig (S 13 0)) (hδ : ∃ δ, mB (S 13 0) 80 δ) : ∃ o, P_X13_derive G F (W.ad (.o 13 0)) (Int32.ofNat ra) (Int32.ofNat rb) (Int32.ofNat rc) (Int32.ofNat rd) (Int32.ofNat many) (mem W S) = some ((Int32.ofNat many), mem W (S.so 13 0 o)) ∧ mOut o (derF (rows ra) (rows rb) (rows rc) (rows rd) many) ∧ agr [37, 5] [] [36, 31, 32, 35, 80, 4] [33, 34] (S 13 0) o ∧ mDig o ∧ ∃ δ, mB o 80 δ := by
  obtain ⟨hγ, hμ, ⟨π, hπ⟩, ν, hν⟩ := hD
  obtain ⟨β, r1, r2⟩ := hR
  obtain ⟨a3, a4, a5⟩ := r2 ra ha
  obtain ⟨b3, b4, b5⟩ := r2 rb hb
  obtain ⟨c3, c4, c5⟩ := r2 rc hc
  obtain ⟨d3, d4, d5⟩ := r2 rd hdd
  obtain ⟨o1, o2, β4, o4, o5⟩ := ho
  obtain ⟨δ, hδ⟩ := hδ
  have hm64 : many ≤ 64 := by omega
  have main : ∃ o, B_X13_derive_53 G F (W.ad (.o 13 0)) (Int32.ofNat ra) (Int32.ofNat rb) (Int32.ofNat rc) (Int32.ofNat rd) (Int32.ofNat many) (mem W S) = some ((Int32.ofNat many), mem W (S.so 13 0 o)) ∧ mOut o (derF (rows ra) (rows rb) (rows rc) (rows rd) many) ∧ agr [37, 5] [] [36, 31, 32, 35, 80, 4] [33, 34] (S 13 0) o ∧ mDig o ∧ ∃ δ, mB o 80 δ := by
    have mul : ∀ r, (8192 : Int32) * (Int32.ofNat r) = (Int32.ofNat (8192 * r)) := fun r => n_mul 8192 r
    obtain ⟨p1, δ', g1, q1, q2, q3, q4, q5⟩ := QM_deriveIt (S := S) (kz := 2) (kn := 2) (ku := 2) (kv := 2) (pz := 8192 * ra) (pn := 8192 * rb) (pu := 8192 * rc) (pv := 8192 * rd) (many := many) X h rfl rfl rfl rfl (by decide) (by decide) (by decide) (by decide) (by decide) (by decide) (by decide) (by decide) (by show _ ≤ 65536; omega) (by show _ ≤ 65536; omega) (by show _ ≤ 65536; omega) (by show _ ≤ 65536; omega) a5 b5 c5 d5 (by omega) hm64 r1 r1 r1 r1 hγ hμ hδ
    unfold B_X13_derive_53
    rw [h.gR 2 rfl (by decide), bO_s, h.gR 3 rfl (by decide), bO_s, h.aN rfl (show ra < 8 from ha) (by decide), bO_s, bO_s, bO_s, h.aN rfl (show rb < 8 from hb) (by decide), bO_s, bO_s, bO_s, h.aN rfl (show rc < 8 from hc) (by decide), bO_s, bO_s, bO_s, h.aN rfl (show rd < 8 from hdd) (by decide), bO_s, rcv_m h.lo, bO_s, a3, b3, c3, d3, mul, mul, mul, mul, g1, bO_s, h.gR 80 rfl (by decide), bO_s, rcv_m h.lo, bO_s]
    have tl := QM_tell (S := S.so 13 0 p1) (k := 80) (p := 0) (cnt := many) X h rfl (by decide) (by decide) (by show 0 + _ ≤ 64; omega) (by omega) (by rw [so_eq]; exact q4) (by rw [so_eq]; exact q1.mB o4 (by decide))
    rw [so_so, so_eq, q5] at tl
    have tl' : P_X13_tell G F (W.ad (.o 13 0)) (W.ad (.a 13 0 80)) 0 (Int32.ofNat many) (mem W (S.so 13 0 p1)) = _ := tl
    rw [tl', bP_s]
    have hl := derF_len (z := rows ra) (nm := rows rb) (u := rows rc) (v := rows rd) hm64
    obtain ⟨γ', q2⟩ := q2
    obtain ⟨μ', q3⟩ := q3
    refine ⟨_, rfl, ⟨by rw [sf_f, if_pos rfl, hl], by omega, _, mB_sA _ _ _, rdB_wrB _ 0 _⟩, ((q1.mono (by decide) (by decide) (by decide) (by decide)).trans (agr_sA (by decide))).trans (agr_sf (by decide)), ⟨⟨γ', mB_sA' (by decide) q2⟩, ⟨μ', mB_sA' (by decide) q3⟩, ⟨π, mB_sA' (by decide) (q1.mB hπ (by decide))⟩, ν, mB_sA' (by decide) (q1.mB hν (by decide))⟩, δ', mB_sA' (by decide) q4⟩
  unfold P_X13_derive
  rw [Q13_isRow, bP_s, isr_i ha, if_neg (by decide), Q13_isRow, bP_s, isr_i hb, if_neg (by decide), Q13_isRow, bP_s, isr_i hc, if_neg (by decide), Q13_isRow, bP_s, isr_i hdd, if_neg (by decide)]
  rcases hm with rfl | rfl | rfl
  · rw [if_pos (by rfl)]; exact main
  · rw [if_neg (by decide), if_pos (by rfl)]; exact main
  · rw [if_neg (by decide), if_neg (by decide), if_pos (by rfl)]; exact main
end DER3
