/-! THE MODEL'S ROWS OVER ONE OBJECT -/
abbrev oKS (o : Ob) (ks : Nat → UInt8) (nr : Nat) : Prop := o.f 44 = (Int32.ofNat nr) ∧ (nr = 10 ∨ nr = 14) ∧ ∀ t, t < 16 * (nr + 1) → o.a 43 t = b32 (ks t)
abbrev oBX (o : Ob) : Prop := (∀ x : UInt8, o.a 41 x.toNat = b32 (sbx x)) ∧ ∀ x : UInt8, o.a 42 x.toNat = b32 (ibx x)
abbrev oCL (o : Ob) (s : List UInt8) : Prop := ∀ t, t < 16 → o.a 45 t = gB s t
theorem oKS_ag {fs gs as ls : List Nat} {o o' : Ob} {ks : Nat → UInt8} {nr : Nat} (h : agr fs gs as ls o o') (h1 : 44 ∉ fs) (h2 : 43 ∉ as) (hk : oKS o ks nr) : oKS o' ks nr := ⟨by rw [h.1 44 h1]; exact hk.1, hk.2.1, by rw [h.2.2.1 43 h2]; exact hk.2.2⟩
theorem oBX_ag {fs gs as ls : List Nat} {o o' : Ob} (h : agr fs gs as ls o o') (h1 : 41 ∉ as) (h2 : 42 ∉ as) (hk : oBX o) : oBX o' := ⟨fun x => by rw [h.2.2.1 41 h1]; exact hk.1 x, fun x => by rw [h.2.2.1 42 h2]; exact hk.2 x⟩
section MO
variable {W : WR} {G : mG} {F : Nat} {S : ST} {o : Ob} {ks : Nat → UInt8} {nr : Nat} {s : List UInt8}
theorem oar {L : List (Nat × Nat × Nat)} {S' : ST} {as : List Nat} (h : arF L (S.so 13 0 o) S') (h13 : ∀ x ∈ L, (x.1, x.2.1) ∈ [(13, 0)]) (hs : ∀ x ∈ L, x.1 = 13 → x.2.1 = 0 → x.2.2 ∈ as) : S' = S.so 13 0 (S' 13 0) ∧ agr [] [] as [] o (S' 13 0) := by
  refine ⟨((fr_so (by simp)).trans (h.fr (L' := [(13, 0)]) h13)).one, ?_⟩
  have := h.ag 13 0 as hs
  rw [so_eq] at this
  exact this
theorem oM_set {k p : Nat} {β : Nat → UInt8} (X : Cx G F W) (h : isM W) (q : (kdA 13)[k]? = some 1) (hl : mLen k < 2 ^ 30) (hb : p + 16 ≤ mLen k) (hβ : mB o k β) : ∃ o', P_X13_setCells G F (W.ad (.o 13 0)) (W.ad (.a 13 0 k)) (Int32.ofNat p) (mem W (S.so 13 0 o)) = some (mem W (S.so 13 0 o')) ∧ agr [] [] [45] [] o o' ∧ oCL o' (rdB β p 16) := by
  obtain ⟨S', g1, g2, g3⟩ := QM_setCells (S := S.so 13 0 o) X h q hl hb (by rw [so_eq]; exact hβ)
  obtain ⟨e1, e2⟩ := oar g2 (as := [45]) (by decide) (by decide)
  exact ⟨S' 13 0, by rw [← e1]; exact g1, e2, g3⟩
theorem oM_forth (X : Cx G F W) (h : isM W) (hbx : oBX o) (hk : oKS o ks nr) (hs : oCL o s) : ∃ o', P_X13_forth G F (W.ad (.o 13 0)) (mem W (S.so 13 0 o)) = some (mem W (S.so 13 0 o')) ∧ agr [] [] [45, 46] [] o o' ∧ oCL o' (fwd ks nr s) := by
  obtain ⟨S', g1, g2, g3⟩ := QM_forth (S := S.so 13 0 o) (ks := ks) (nr := nr) (s := s) X h (by unfold mBX; rw [so_eq]; exact hbx) (by unfold mKS; rw [so_eq]; exact hk) (by unfold CL; rw [so_eq]; exact hs)
  obtain ⟨e1, e2⟩ := oar g2 (as := [45, 46]) (by decide) (by decide)
  exact ⟨S' 13 0, by rw [← e1]; exact g1, e2, g3⟩
theorem oM_back (X : Cx G F W) (h : isM W) (hbx : oBX o) (hk : oKS o ks nr) (hs : oCL o s) : ∃ o', P_X13_back G F (W.ad (.o 13 0)) (mem W (S.so 13 0 o)) = some (mem W (S.so 13 0 o')) ∧ agr [] [] [45, 46] [] o o' ∧ oCL o' (bck ks nr s) := by
  obtain ⟨S', g1, g2, g3⟩ := QM_back (S := S.so 13 0 o) (ks := ks) (nr := nr) (s := s) X h (by unfold mBX; rw [so_eq]; exact hbx) (by unfold mKS; rw [so_eq]; exact hk) (by unfold CL; rw [so_eq]; exact hs)
  obtain ⟨e1, e2⟩ := oar g2 (as := [45, 46]) (by decide) (by decide)
  exact ⟨S' 13 0, by rw [← e1]; exact g1, e2, g3⟩
theorem oM_get {k p : Nat} {β : Nat → UInt8} (X : Cx G F W) (h : isM W) (q : (kdA 13)[k]? = some 1) (hl : mLen k < 2 ^ 30) (hb : p + 16 ≤ mLen k) (hβ : mB o k β) (hs0 : s.length = 16) (hs : oCL o s) : P_X13_getCells G F (W.ad (.o 13 0)) (W.ad (.a 13 0 k)) (Int32.ofNat p) (mem W (S.so 13 0 o)) = some (mem W (S.so 13 0 (o.sA k (fun j => sb (wrB β p s j))))) := by
  have := QM_getCells (S := S.so 13 0 o) (s := s) X h q hl hb (by rw [so_eq]; exact hβ) hs0 (by unfold CL; rw [so_eq]; exact hs)
  unfold ST.sa at this
  rw [so_so, so_eq] at this
  exact this
theorem oM_move {k1 k2 p1 p2 cnt : Nat} {β1 β2 : Nat → UInt8} (X : Cx G F W) (h : isM W) (q1 : (kdA 13)[k1]? = some 1) (q2 : (kdA 13)[k2]? = some 1) (hne : k1 ≠ k2) (l1 : mLen k1 < 2 ^ 30) (l2 : mLen k2 < 2 ^ 30) (b1 : p1 + cnt ≤ mLen k1) (b2 : p2 + cnt ≤ mLen k2) (hc : cnt < 100000) (hb1 : mB o k1 β1) (hb2 : mB o k2 β2) : P_X13_move G F (W.ad (.a 13 0 k1)) (Int32.ofNat p1) (W.ad (.a 13 0 k2)) (Int32.ofNat p2) (Int32.ofNat cnt) (mem W (S.so 13 0 o)) = some (mem W (S.so 13 0 (o.sA k2 (fun j => sb (wrB β2 p2 (rdB β1 p1 cnt) j))))) := by
  have := QM_move (S := S.so 13 0 o) (G := G) (F := F) X h q1 q2 hne l1 l2 b1 b2 hc (by rw [so_eq]; exact hb1) (by rw [so_eq]; exact hb2)
  rw [so_so, so_eq] at this
  exact this
theorem oM_put {k p cnt : Nat} {x : Int64} {β : Nat → UInt8} (X : Cx G F W) (h : isM W) (q : (kdA 13)[k]? = some 1) (hl : mLen k < 2 ^ 30) (hb : p + cnt ≤ mLen k) (hc : cnt ≤ 8) (hβ : mB o k β) : P_X13_put G F (W.ad (.a 13 0 k)) (Int32.ofNat p) (Int32.ofNat cnt) x (mem W (S.so 13 0 o)) = some (mem W (S.so 13 0 (o.sA k (fun j' => sb (wrB β p (beL cnt x) j'))))) := by
  have := QM_put (S := S.so 13 0 o) (G := G) (F := F) (x := x) X h q hl hb hc (by rw [so_eq]; exact hβ)
  rw [so_so, so_eq] at this
  exact this
theorem oM_long {k p cnt : Nat} {β : Nat → UInt8} (X : Cx G F W) (h : isM W) (q : (kdA 13)[k]? = some 1) (hl : mLen k < 2 ^ 30) (hb : p + cnt ≤ mLen k) (hc : cnt < 90000) (hβ : mB o k β) : P_X13_longAt G F (W.ad (.a 13 0 k)) (Int32.ofNat p) (Int32.ofNat cnt) (mem W (S.so 13 0 o)) = some (Int64.ofNat (beN (rdB β p cnt)), mem W (S.so 13 0 o)) := QM_longAt (S := S.so 13 0 o) X h q hl hb hc (by rw [so_eq]; exact hβ)
theorem oM_key {k p n : Nat} {β : Nat → UInt8} (X : Cx G F W) (h : isM W) (q : (kdA 13)[k]? = some 1) (hl : mLen k < 2 ^ 30) (hn : n = 16 ∨ n = 32) (hb : p + n ≤ mLen k) (hβ : mB o k β) (hbx : oBX o) : ∃ o', P_X13_setKey G F (W.ad (.o 13 0)) (W.ad (.a 13 0 k)) (Int32.ofNat p) (Int32.ofNat n) (mem W (S.so 13 0 o)) = some (mem W (S.so 13 0 o')) ∧ agr [44] [] [43] [] o o' ∧ oKS o' (ksF (n / 4) (rdB β p n)) (n / 4 + 6) := by
  obtain ⟨o', g1, g2, g3⟩ := QM_setKey (S := S.so 13 0 o) X h q hl hn hb (by rw [so_eq]; exact hβ) (by unfold mBX; rw [so_eq]; exact hbx)
  rw [so_so] at g1 g3
  rw [so_eq] at g2
  unfold mKS at g3
  rw [so_eq] at g3
  exact ⟨o', g1, g2, g3⟩
theorem oM_gR (h : isM W) (k : Nat) (q : (kdF 13)[k]? = some 2) (hk : 0 < mLen k) (S : ST) : gfR (mem W S) (W.ad (.o 13 0)) 13 k = some (W.ad (.a 13 0 k)) := h.gR k q hk
/-- the counter's block -/
theorem oM_ctr {kb pb c : Nat} {β ζ : Nat → UInt8} {iv : List UInt8} (X : Cx G F W) (h : isM W) (q : (kdA 13)[kb]? = some 1) (hk : kb ≠ 52) (hl : mLen kb < 2 ^ 30) (hb : pb + 12 ≤ mLen kb) (hc : c < 2 ^ 31) (hβ : mB o kb β) (hζ : mB o 52 ζ) (hiv : ∀ j, j < 12 → β (pb + j) = iv.getD j 0) : ∃ ζ', P_X13_setCounter G F (W.ad (.o 13 0)) (W.ad (.a 13 0 kb)) (Int32.ofNat pb) (Int32.ofNat c) (mem W (S.so 13 0 o)) = some (mem W (S.so 13 0 (o.sA 52 (fun j => sb (ζ' j))))) ∧ rdB ζ' 0 16 = ctrB iv c := by
  unfold P_X13_setCounter
  have m1 := oM_move (G := G) (F := F) (S := S) (k1 := kb) (k2 := 52) (p1 := pb) (p2 := 0) (cnt := 12) X h q rfl hk hl (by decide) hb (by decide) (by decide) hβ hζ
  have m1' : P_X13_move G F (W.ad (.a 13 0 kb)) (Int32.ofNat pb) (W.ad (.a 13 0 52)) 0 12 (mem W (S.so 13 0 o)) = _ := m1
  have m2 := oM_put (G := G) (F := F) (S := S) (o := o.sA 52 (fun j => sb (wrB ζ 0 (rdB β pb 12) j))) (k := 52) (p := 12) (cnt := 4) (x := ((Int32.ofNat c)).toInt64) X h rfl (by decide) (by decide) (by decide) (mB_sA _ _ _)
  have m2' : P_X13_put G F (W.ad (.a 13 0 52)) 12 4 ((Int32.ofNat c)).toInt64 (mem W (S.so 13 0 (o.sA 52 (fun j => sb (wrB ζ 0 (rdB β pb 12) j))))) = _ := m2
  rw [oM_gR h 52 rfl (by decide), bO_s, m1', bO_s, oM_gR h 52 rfl (by decide), bO_s, m2', bO_s, sA_sA]
  refine ⟨_, rfl, ?_⟩
  rw [w4_beL, rdB_map]
  unfold mapN ctrB
  refine m16_congr (fun j hj => ?_)
  by_cases h12 : j < 12
  · rw [if_pos h12, wrB, if_neg (by omega), wrB, rdB_len, if_pos ⟨by omega, by omega⟩, Nat.sub_zero, List.getD_eq_getElem?_getD, rdB_at h12]
    exact hiv j h12
  · rw [if_neg h12, wrB, w4_len, if_pos ⟨by omega, by omega⟩]
end MO
