theorem mem_g {w : Cond} {i : Nat} (h : lw_tbl[i]? = some w) (g : goodWord w = true) : w ∈ mtbl := List.mem_filter.mpr ⟨List.mem_of_getElem? h, g⟩
theorem mm_i : Cond.initialized "java/lang/Math" ∈ mtbl := mem_g (i := 187) (by decide +kernel) (by decide +kernel)
theorem mmmax_s : Cond.static Lib.Math.max.name ∈ mtbl := mem_g (i := 222) (by decide +kernel) (by decide +kernel)
theorem mmmax_c : Cond.code Lib.Math.max.name Lib.Math.max.code 2 (some .int) ∈ mtbl := mem_g (i := 223) (by decide +kernel) (by decide +kernel)
theorem mmmin_s : Cond.static Lib.Math.min.name ∈ mtbl := mem_g (i := 649) (by decide +kernel) (by decide +kernel)
theorem mmmin_c : Cond.code Lib.Math.min.name Lib.Math.min.code 2 (some .int) ∈ mtbl := mem_g (i := 650) (by decide +kernel) (by decide +kernel)
theorem mmac_n : Cond.native arraycopyName ∈ mtbl := mem_g (i := 672) (by decide +kernel) (by decide +kernel)
theorem mmac_s : Cond.static arraycopyName ∈ mtbl := mem_g (i := 671) (by decide +kernel) (by decide +kernel)
theorem mmac_i : Cond.initialized "java/lang/System" ∈ mtbl := mem_g (i := 201) (by decide +kernel) (by decide +kernel)
/-! more rows: references in arrays, statics, String constants, Math, arraycopy; calls that make nothing -/
section MMORE
variable {G : mG} {own : String} {cc : ByteArray} {nL : Nat} {ret : Option FieldType} {nm : String} {rm : Room} {x : mXT} {z : Nat × Nat × Nat} {M M' : mM} {lv : List (Nat × Value)} {st : List Value}
theorem mty_ref {k : Nat} (h1 : 4 ≤ k) : (mty k).isReference = true := by
  rcases (show k = 4 ∨ k = 5 ∨ 6 ≤ k by omega) with rfl | rfl | h
  · rfl
  · rfl
  · obtain ⟨j, rfl⟩ : ∃ j, k = j + 6 := ⟨k - 6, by omega⟩
    rfl
theorem ww_aald (kd : Nat) (hkd : 4 ≤ kd) (pc : Nat) (X : mCX G own cc nL ret nm rm x) {a v : Nat} {i : Int32} (d : decode cc pc = .ok (.aaload, 1)) (h : aR M kd a i = some v) (kk : WW x z M (pc + 1) lv (.ref v :: st)) : WW x z M pc lv (.int i :: .ref a :: st) := by
  obtain ⟨D, G', A, p, l, e, R, s, m, args, below, meth, c, Q⟩ := x
  obtain ⟨hG, hrm, hx, hb, hml, hr, hlk, hnm, hown, hts, hK, hA, hE⟩ := X
  subst hG
  intro H locs la hz hl hM hS
  obtain ⟨n, f, h1, h3, h2⟩ := aR_spec h
  have h4 := inB_in h3
  have hlt : i.toNatClampNeg < n := Nat.not_le.mp fun q => h4 (Or.inr q)
  obtain ⟨z1, h5, hAa⟩ := hM a _ h1
  have key := (hK.2 kd _ (mtys_at D z1)).1 n (fun j => va_rf (f j))
  exact W.aald (v := .ref v) (ty := mty kd) hx hb h5 key (mty_ref hkd) (fun q => by cases q) (by show ¬ (i < 0 ∨ (arrV _ _ _).slots.size ≤ _); rw [arrV_size]; exact h4) (by show (arrV _ _ _).slots[_]? = _; rw [arrV_read _ _ hlt, h2]; rfl) rfl rfl d (kk H locs la hz hl hM hS)
theorem ww_aald4 (pc : Nat) (X : mCX G own cc nL ret nm rm x) {a v : Nat} {i : Int32} (d : decode cc pc = .ok (.aaload, 1)) (h : aR M 4 a i = some v) (kk : WW x z M (pc + 1) lv (.ref v :: st)) : WW x z M pc lv (.int i :: .ref a :: st) := ww_aald 4 (by decide) pc X d h kk
theorem ww_aald5 (pc : Nat) (X : mCX G own cc nL ret nm rm x) {a v : Nat} {i : Int32} (d : decode cc pc = .ok (.aaload, 1)) (h : aR M 5 a i = some v) (kk : WW x z M (pc + 1) lv (.ref v :: st)) : WW x z M pc lv (.int i :: .ref a :: st) := ww_aald 5 (by decide) pc X d h kk
theorem ww_aald6 (pc : Nat) (X : mCX G own cc nL ret nm rm x) {a v : Nat} {i : Int32} (d : decode cc pc = .ok (.aaload, 1)) (h : aR M 6 a i = some v) (kk : WW x z M (pc + 1) lv (.ref v :: st)) : WW x z M pc lv (.int i :: .ref a :: st) := ww_aald 6 (by decide) pc X d h kk
/-- a static array's link -/
def gS (own : String) (idx j : Nat) : Prop := ∃ C n d : String, mstat[j]? = some (C, n, d) ∧ (Cond.fieldLink own idx C n d ∈ mtbl ∨ ∃ host : String, (own, idx, C, n, d, host) ∈ mnF)
theorem ww_lds (pc : Nat) (X : mCX G own cc nL ret nm rm x) {i j : Nat} {tx : String} (d : decode cc pc = .ok (.ldc i, 2)) (hj : mstrs[j]? = some (own, i, tx)) (kk : WW x z M (pc + 2) lv (.ref (G.1 j) :: st)) : WW x z M pc lv st := by
  obtain ⟨D, G', A, p, l, e, R, s, m, args, below, meth, c, Q⟩ := x
  obtain ⟨hG, hrm, hx, hb, hml, hr, hlk, hnm, hown, hts, hK, hA, hE⟩ := X
  subst hG
  intro H locs la hz hl hM hS
  exact va_ldcS hx hb hown (hE.1 j _ hj) d (kk H locs la hz hl hM hS)
theorem mLdw {p : Program} {l : Launch} {e : Env} {R : Room} {s : State} {m : MethodId} {args : Array Value} {below : List Frame} {meth : Method} {c : Code} {T : State} {locs : List Loc} {cells slots : Nat}
    (X : Stand p l e R s m args below meth c T locs cells slots) (hexec : p.tables.exec = Jvm.exec) {own text : String} {index : Nat} {a : Addr} (hown : s.vm.findClass own = some m.cls)
    (hconst : (Cond.stringRef own index text).before args s = true) (hev : (Term.string own index).eval args s none [] s = some (.ref a)) {g : JFrame} (hg : g.method = m) (hdg : decode c.code g.pc = .ok (.ldc_w index, 3)) :
    ∀ target, Steps p.tables e below (T.setTop { g with pc := g.pc + 3, stack := .ref a :: g.stack }) target → Steps p.tables e below (T.setTop g) target := by
  obtain ⟨k, cf, i, a', hk, hcf, hcp, -, hr, hev'⟩ := Cond.stringRef_spec hown hconst
  cases hev.symm.trans hev'
  obtain ⟨k', hk', he⟩ := X.warmed.alike.2.2 _ _ hk
  have hr' : k'.resolved[index]? = some (some (.string a)) := by
    rcases X.warmed.entry hk hk' index with h | ⟨h, -⟩
    · rw [h]; exact hr
    · rw [hr] at h; cases h
  intro target hrest
  subst hg
  jvm_step X.here [hexec, hdg, ldc_w.wp_string (e := e) (s := T) (f := g) X.here.top hk' (by rw [he]; exact hcf) hcp hr']
  exact hrest
theorem ww_ldsw (pc : Nat) (X : mCX G own cc nL ret nm rm x) {i j : Nat} {tx : String} (d : decode cc pc = .ok (.ldc_w i, 3)) (hj : mstrs[j]? = some (own, i, tx)) (kk : WW x z M (pc + 3) lv (.ref (G.1 j) :: st)) : WW x z M pc lv st := by
  obtain ⟨D, G', A, p, l, e, R, s, m, args, below, meth, c, Q⟩ := x
  obtain ⟨hG, hrm, hx, hb, hml, hr, hlk, hnm, hown, hts, hK, hA, hE⟩ := X
  subst hG
  intro H locs la hz hl hM hS
  have hZ := hE.1 j _ hj
  intro T hT X
  obtain ⟨t, a1, b1⟩ := kk H locs la hz hl hM hS T hT X
  exact ⟨t, mLdw X hx hown (text := tx) (a := G'.1 j) hZ.1 hZ.2 (g := F0 m pc la st) rfl (by rw [hb]; exact d) t a1, b1⟩
theorem ww_gets (pc : Nat) (X : mCX G own cc nL ret nm rm x) {idx j : Nat} (d : decode cc pc = .ok (.getstatic idx, 3)) (hj : gS own idx j) (kk : WW x z M (pc + 3) lv (.ref (G.1 (1000 + j)) :: st)) : WW x z M pc lv st := by
  obtain ⟨D, G', A, p, l, e, R, s, m, args, below, meth, c, Q⟩ := x
  obtain ⟨hG, hrm, hx, hb, hml, hr, hlk, hnm, hown, hts, hK, hA, hE⟩ := X
  subst hG
  intro H locs la hz hl hM hS
  obtain ⟨C, n, dd, h1, h2⟩ := hj
  rcases h2 with h2 | ⟨host, h2⟩
  · exact va_gets hx hb (hE.2.1 j _ h1) hS hown (hts _ h2) (fun _ q => q) d (kk H locs la hz hl hM hS)
  · exact va_getsN hx hb (hE.2.1 j _ h1) hS hown (va_Nw.use rfl (hE.2.2.2.1 _ h2)) (fun _ q => q) d (kk H locs la hz hl hM hS)
theorem ww_mmax (pc : Nat) (X : mCX G own cc nL ret nm rm x) {idx : Nat} {a b : Int32} (d : decode cc pc = .ok (.invokestatic idx, 3)) (hL : Cond.methodLink own idx Lib.Math.max.name ∈ mtbl) (hfr : 1 ≤ rm.frames) (hlo : 8 + 13 ≤ rm.locals) (h8 : (st.map fun v => v.category).sum ≤ 8) (hcs : z.2.1 ≤ rm.cells ∧ z.2.2 ≤ rm.slots) (kk : WW x z M (pc + 3) lv (.int (if a < b then b else a) :: st)) : WW x z M pc lv (.int b :: .int a :: st) := by
  obtain ⟨D, G', A, p, l, e, R, s, m, args, below, meth, c, Q⟩ := x
  obtain ⟨hG, hrm, hx, hb, hml, hr, hlk, hnm, hown, hts, hK, hA, hE⟩ := X
  subst hrm
  intro H locs la hz hl hM hS
  exact va_mmax hx hb hl.1.symm hown (hts _ hL) (hts _ mmmax_s) (hts _ mm_i) (hts _ mmmax_c) hfr (by omega) hcs.1 hcs.2 d (kk H locs la hz hl hM hS)
theorem ww_mmin (pc : Nat) (X : mCX G own cc nL ret nm rm x) {idx : Nat} {a b : Int32} (d : decode cc pc = .ok (.invokestatic idx, 3)) (hL : Cond.methodLink own idx Lib.Math.min.name ∈ mtbl) (hfr : 1 ≤ rm.frames) (hlo : 8 + 13 ≤ rm.locals) (h8 : (st.map fun v => v.category).sum ≤ 8) (hcs : z.2.1 ≤ rm.cells ∧ z.2.2 ≤ rm.slots) (kk : WW x z M (pc + 3) lv (.int (if b < a then b else a) :: st)) : WW x z M pc lv (.int b :: .int a :: st) := by
  obtain ⟨D, G', A, p, l, e, R, s, m, args, below, meth, c, Q⟩ := x
  obtain ⟨hG, hrm, hx, hb, hml, hr, hlk, hnm, hown, hts, hK, hA, hE⟩ := X
  subst hrm
  intro H locs la hz hl hM hS
  exact va_mmin hx hb hl.1.symm hown (hts _ hL) (hts _ mmmin_s) (hts _ mm_i) (hts _ mmmin_c) hfr (by omega) hcs.1 hcs.2 d (kk H locs la hz hl hM hS)
theorem mSrcI {G : mG} {D : mD} {A : Nat → Prop} {s : State} {H : Heap} {locs : List Loc} {M : mM} {a na : Nat} {f : Nat → Int32} (hK : va_K D.1 mcl (mtys D) s) (hE : mEnv G A s) (hM : mHold D A M H) (hS : va_S A s.heap H locs) (h : srI G M a = some (na, f)) : ∃ scr : Cell, H[a]? = some scr ∧ s.isArrayOf scr .int ∧ scr.vm ≠ .unknown ∧ na ≤ scr.slots.size ∧ ∀ j : Nat, j < na → scr.slots[j]? = some (.int (f j)) := by
  rcases srI_spec h with h1 | h1
  · obtain ⟨z1, h5, hAa⟩ := hM a _ h1
    refine ⟨_, h5, (hK.2 0 _ rfl).1 na (fun j => .int (f j)), (fun q => by cases q), ?_, fun j hj => ?_⟩
    · show na ≤ (arrV _ _ _).slots.size
      rw [arrV_size]
      exact Nat.le_refl _
    · show (arrV _ _ _).slots[_]? = _
      rw [arrV_read _ _ hj]
  · obtain ⟨cell, g1, g2, g3, g4, g5, g6, g7⟩ := (hE.2.2.2.2.2.2.2.2.2.2.1 a na f h1).kept hS.2.1
    exact ⟨cell, g1, g2, g3, g4, g6⟩
set_option maxHeartbeats 1000000 in
theorem ww_cpI (pc : Nat) (X : mCX G own cc nL ret nm rm x) {idx a b : Nat} {i j n : Int32} (d : decode cc pc = .ok (.invokestatic idx, 3)) (hL : Cond.methodLink own idx arraycopyName ∈ mtbl) (hfr : 1 ≤ rm.frames) (hlo : 8 + 18 ≤ rm.locals) (h8 : (st.map fun v => v.category).sum ≤ 8) (h : cpI G M a i b j n = some M') (kk : WW x z M' (pc + 3) lv st) : WW x z M pc lv (.int n :: .int j :: .ref b :: .int i :: .ref a :: st) := by
  obtain ⟨D, G', A, p, l, e, R, s, m, args, below, meth, c, Q⟩ := x
  obtain ⟨hG, hrm, hx, hb, hml, hr, hlk, hnm, hown, hts, hK, hA, hE⟩ := X
  subst hrm
  intro H locs la hz hl hM hS
  subst hG
  obtain ⟨na, nb, f, g, h1, h2, q1, q2, q3, q4, q5, rfl⟩ := cpI_spec h
  obtain ⟨scr, hs1, hs2, hs3, hs4, hs5⟩ := mSrcI hK hE hM hS h1
  obtain ⟨z1, h5, hAb⟩ := hM b _ h2
  · have nn : ∀ z : Int32, ¬ z < 0 → z.toInt = (z.toNatClampNeg : Int) := by
      intro z hz
      have hz0 : (0 : Int) ≤ z.toInt := by
        have := Int32.not_lt.mp hz
        simpa using Int32.le_iff_toInt_le.mp this
      show z.toInt = ((z.toInt.toNat : Nat) : Int)
      omega
    intro T hT X
    obtain ⟨hs6, k0, hk0, cm0, hkk0⟩ := hs2
    obtain ⟨-, k1, hk1, cm1, hkk1⟩ := (hK.2 0 _ rfl).1 nb (fun j => .int (g j))
    obtain ⟨vm', X', step⟩ := X.arraycopy hx hown (hts _ hL) (hts _ mmac_n) (hts _ mmac_s) (hts _ mmac_i) (src := a) (dst := b) (cs := scr) (cd := vp_cell (D.2 0) (nb, .inl g)) (srcPos := i) (destPos := j) (n := n) (by rw [hT]; exact hs1) (by rw [hT]; exact h5)
      hs6 (fun _ h => by cases h) hs3 (fun h => by cases h) hk0 hk1 hkk0 hkk1 (by simp [refKind, mty]) q1 q2 q3
      (by rw [nn i q1, nn n q3]; omega)
      (by rw [nn j q2, nn n q3]; show ¬ _ > ((arrV (D.2 0) nb (fun j => .int (g j))).slots.size : Int); rw [arrV_size]; omega)
      (fun vm₁ _ q hq => by
        have e : scr.slots.getD (i.toNatClampNeg + q) .null = .int (f (i.toNatClampNeg + q)) := by
          rw [Array.getD_eq_getD_getElem?, hs5 _ (by omega)]
          rfl
        refine ⟨?_, ?_⟩
        · rw [e]
          rfl
        · rw [e]
          exact trivial)
      (g := F0 m pc la (.int n :: .int j :: .ref b :: .int i :: .ref a :: st)) rfl (by show la.size = _; exact hl.1) (rest := st) rfl (by rw [hb]; exact d) hfr (by show 2 * 0 + _ + (7 + 11) ≤ _; omega)
    have e1 : copied scr (vp_cell (D.2 0) (nb, .inl g)) i j n = vp_cell (D.2 0) (nb, .inl (va_cpy f g i.toNatClampNeg j.toNatClampNeg n.toNatClampNeg)) := va_copiedX (fun z => .int z) scr (D.2 0) f g hs5 q4
    rw [e1] at X' step
    have hlb : b < H.size := (Array.getElem?_eq_some_iff.mp h5).1
    have hheap : ((T.setVm vm').setCell b (vp_cell (D.2 0) (nb, .inl (va_cpy f g i.toNatClampNeg j.toNatClampNeg n.toNatClampNeg)))).heap = H.setIfInBounds b (vp_cell (D.2 0) (nb, .inl (va_cpy f g i.toNatClampNeg j.toNatClampNeg n.toNatClampNeg))) := by rw [← hT]; rfl
    have oq : ∀ q : Nat, q ≠ b → (H.setIfInBounds b (vp_cell (D.2 0) (nb, .inl (va_cpy f g i.toNatClampNeg j.toNatClampNeg n.toNatClampNeg))))[q]? = H[q]? := fun q hq => by simp [Array.getElem?_setIfInBounds, Ne.symm hq]
    obtain ⟨t, a1, b1⟩ := kk _ _ la (by simp; exact hz) hl (hM.set ⟨z1, show (H.setIfInBounds b _)[b]? = some _ by simp [Array.getElem?_setIfInBounds, hlb], hAb⟩ oq) ⟨by simp; exact hS.1, fun q g1 g2 => by
        rw [oq q (fun e => g2 (by rw [e]; exact hAb))]
        exact hS.2.1 q g1 g2, fun q hq => by
        rcases List.mem_append.mp hq with h | h
        · exact hS.2.2 q h
        · obtain ⟨z, -, hz⟩ := List.mem_map.mp h
          rw [← hz]
          exact hAb⟩ _ hheap X'
    exact ⟨t, step t a1, b1⟩
theorem mSrcL {G : mG} {D : mD} {A : Nat → Prop} {s : State} {H : Heap} {locs : List Loc} {M : mM} {a na : Nat} {f : Nat → Int64} (hK : va_K D.1 mcl (mtys D) s) (hE : mEnv G A s) (hM : mHold D A M H) (hS : va_S A s.heap H locs) (h : srL G M a = some (na, f)) : ∃ scr : Cell, H[a]? = some scr ∧ s.isArrayOf scr .long ∧ scr.vm ≠ .unknown ∧ na ≤ scr.slots.size ∧ ∀ j : Nat, j < na → scr.slots[j]? = some (.long (f j)) := by
  rcases srL_spec h with h1 | h1
  · obtain ⟨z1, h5, hAa⟩ := hM a _ h1
    refine ⟨_, h5, (hK.2 2 _ rfl).1 na (fun j => .long (f j)), (fun q => by cases q), ?_, fun j hj => ?_⟩
    · show na ≤ (arrV _ _ _).slots.size
      rw [arrV_size]
      exact Nat.le_refl _
    · show (arrV _ _ _).slots[_]? = _
      rw [arrV_read _ _ hj]
  · obtain ⟨cell, g1, g2, g3, g4, g5, g6, g7⟩ := (hE.2.2.2.2.2.2.2.2.2.2.2.2 a na f h1).kept hS.2.1
    exact ⟨cell, g1, g2, g3, g4, g6⟩
set_option maxHeartbeats 1000000 in
theorem ww_cpL (pc : Nat) (X : mCX G own cc nL ret nm rm x) {idx a b : Nat} {i j n : Int32} (d : decode cc pc = .ok (.invokestatic idx, 3)) (hL : Cond.methodLink own idx arraycopyName ∈ mtbl) (hfr : 1 ≤ rm.frames) (hlo : 8 + 18 ≤ rm.locals) (h8 : (st.map fun v => v.category).sum ≤ 8) (h : cpL G M a i b j n = some M') (kk : WW x z M' (pc + 3) lv st) : WW x z M pc lv (.int n :: .int j :: .ref b :: .int i :: .ref a :: st) := by
  obtain ⟨D, G', A, p, l, e, R, s, m, args, below, meth, c, Q⟩ := x
  obtain ⟨hG, hrm, hx, hb, hml, hr, hlk, hnm, hown, hts, hK, hA, hE⟩ := X
  subst hrm
  intro H locs la hz hl hM hS
  subst hG
  obtain ⟨na, nb, f, g, h1, h2, q1, q2, q3, q4, q5, rfl⟩ := cpL_spec h
  obtain ⟨scr, hs1, hs2, hs3, hs4, hs5⟩ := mSrcL hK hE hM hS h1
  obtain ⟨z1, h5, hAb⟩ := hM b _ h2
  · have nn : ∀ z : Int32, ¬ z < 0 → z.toInt = (z.toNatClampNeg : Int) := by
      intro z hz
      have hz0 : (0 : Int) ≤ z.toInt := by
        have := Int32.not_lt.mp hz
        simpa using Int32.le_iff_toInt_le.mp this
      show z.toInt = ((z.toInt.toNat : Nat) : Int)
      omega
    intro T hT X
    obtain ⟨hs6, k0, hk0, cm0, hkk0⟩ := hs2
    obtain ⟨-, k1, hk1, cm1, hkk1⟩ := (hK.2 2 _ rfl).1 nb (fun j => .long (g j))
    obtain ⟨vm', X', step⟩ := X.arraycopy hx hown (hts _ hL) (hts _ mmac_n) (hts _ mmac_s) (hts _ mmac_i) (src := a) (dst := b) (cs := scr) (cd := vp_cell (D.2 2) (nb, .inr (.inl g))) (srcPos := i) (destPos := j) (n := n) (by rw [hT]; exact hs1) (by rw [hT]; exact h5)
      hs6 (fun _ h => by cases h) hs3 (fun h => by cases h) hk0 hk1 hkk0 hkk1 (by simp [refKind, mty]) q1 q2 q3
      (by rw [nn i q1, nn n q3]; omega)
      (by rw [nn j q2, nn n q3]; show ¬ _ > ((arrV (D.2 2) nb (fun j => .long (g j))).slots.size : Int); rw [arrV_size]; omega)
      (fun vm₁ _ q hq => by
        have e : scr.slots.getD (i.toNatClampNeg + q) .null = .long (f (i.toNatClampNeg + q)) := by
          rw [Array.getD_eq_getD_getElem?, hs5 _ (by omega)]
          rfl
        refine ⟨?_, ?_⟩
        · rw [e]
          rfl
        · rw [e]
          exact trivial)
      (g := F0 m pc la (.int n :: .int j :: .ref b :: .int i :: .ref a :: st)) rfl (by show la.size = _; exact hl.1) (rest := st) rfl (by rw [hb]; exact d) hfr (by show 2 * 0 + _ + (7 + 11) ≤ _; omega)
    have e1 : copied scr (vp_cell (D.2 2) (nb, .inr (.inl g))) i j n = vp_cell (D.2 2) (nb, .inr (.inl (va_cpy f g i.toNatClampNeg j.toNatClampNeg n.toNatClampNeg))) := va_copiedX (fun z => .long z) scr (D.2 2) f g hs5 q4
    rw [e1] at X' step
    have hlb : b < H.size := (Array.getElem?_eq_some_iff.mp h5).1
    have hheap : ((T.setVm vm').setCell b (vp_cell (D.2 2) (nb, .inr (.inl (va_cpy f g i.toNatClampNeg j.toNatClampNeg n.toNatClampNeg))))).heap = H.setIfInBounds b (vp_cell (D.2 2) (nb, .inr (.inl (va_cpy f g i.toNatClampNeg j.toNatClampNeg n.toNatClampNeg)))) := by rw [← hT]; rfl
    have oq : ∀ q : Nat, q ≠ b → (H.setIfInBounds b (vp_cell (D.2 2) (nb, .inr (.inl (va_cpy f g i.toNatClampNeg j.toNatClampNeg n.toNatClampNeg)))))[q]? = H[q]? := fun q hq => by simp [Array.getElem?_setIfInBounds, Ne.symm hq]
    obtain ⟨t, a1, b1⟩ := kk _ _ la (by simp; exact hz) hl (hM.set ⟨z1, show (H.setIfInBounds b _)[b]? = some _ by simp [Array.getElem?_setIfInBounds, hlb], hAb⟩ oq) ⟨by simp; exact hS.1, fun q g1 g2 => by
        rw [oq q (fun e => g2 (by rw [e]; exact hAb))]
        exact hS.2.1 q g1 g2, fun q hq => by
        rcases List.mem_append.mp hq with h | h
        · exact hS.2.2 q h
        · obtain ⟨z, -, hz⟩ := List.mem_map.mp h
          rw [← hz]
          exact hAb⟩ _ hheap X'
    exact ⟨t, step t a1, b1⟩
theorem ww_aret (pc : Nat) {r : Nat} {C : String} (X : mCX G own cc nL (some (.object C)) nm rm x) (hQ : mQR x r M z) (d : decode cc pc = .ok (.areturn, 1)) : WW x z M pc lv [.ref r] := by
  obtain ⟨D, G', A, p, l, e, R, s, m, args, below, meth, c, Q⟩ := x
  obtain ⟨hG, hrm, hx, hb, hml, hr, hlk, hnm, hown, hts, hK, hA, hE⟩ := X
  intro H locs la hz hl hM hS
  have hQ : Q = _ := hQ
  subst hQ
  exact W.aret hx hb hr (Or.inl ⟨C, rfl⟩) (Or.inr ⟨r, rfl⟩) (fun t ht hW => ⟨⟨(), r, rfl, trivial, rfl, by rw [ht]; exact hz, by rw [ht]; exact hM⟩, hS.F ht⟩) hS.2.2 d (hlocks := hlk)
theorem ww_aretE (pc : Nat) {r r0 : Nat} {M0 : mM} {C : String} (X : mCX G own cc nL (some (.object C)) nm rm x) (hQ : mQR x r0 M0 z) (d : decode cc pc = .ok (.areturn, 1)) (h : (some (r, M) : Option (Nat × mM)) = some (r0, M0)) : WW x z M pc lv [.ref r] := by
  cases h
  exact ww_aret pc X hQ d
theorem nar_char {v : Int32} (h : 0 ≤ v ∧ v ≤ 65535) : narrow .char (.int v) = .int v := by
  have h1 : ¬ v < 0 := Int32.not_lt.mpr h.1
  obtain ⟨j, hj, rfl⟩ := nI_of2 (M := 65535) (n := 65535) (by decide) h1 h.2
  exact (pk_charN (by omega)).1
theorem ww_bretE (pc : Nat) {r r0 : Int32} {M0 : mM} (X : mCX G own cc nL (some .byte) nm rm x) (hQ : mQI x r0 M0 z) (d : decode cc pc = .ok (.ireturn, 1)) (h : retZ r M = some (r0, M0)) : WW x z M pc lv [.int r] := by
  obtain ⟨hv, e0⟩ := retZ_cases h
  cases e0
  obtain ⟨D, G', A, p, l, e, R, s, m, args, below, meth, c, Q⟩ := x
  obtain ⟨hG, hrm, hx, hb, hml, hr, hlk, hnm, hown, hts, hK, hA, hE⟩ := X
  intro H locs la hz hl hM hS
  have hQ : Q = _ := hQ
  subst hQ
  exact W.zret hx hb hr (by rcases hv with rfl | rfl <;> rfl) (fun t ht hW => ⟨⟨r, (), rfl, rfl, by rw [ht]; exact hz, by rw [ht]; exact hM⟩, hS.F ht⟩) hS.2.2 d (hlocks := hlk)
theorem ww_cretE (pc : Nat) {r r0 : Int32} {M0 : mM} (X : mCX G own cc nL (some .char) nm rm x) (hQ : mQI x r0 M0 z) (d : decode cc pc = .ok (.ireturn, 1)) (h : retC r M = some (r0, M0)) : WW x z M pc lv [.int r] := by
  unfold retC at h
  split at h
  · rename_i hv
    cases h
    obtain ⟨D, G', A, p, l, e, R, s, m, args, below, meth, c, Q⟩ := x
    obtain ⟨hG, hrm, hx, hb, hml, hr, hlk, hnm, hown, hts, hK, hA, hE⟩ := X
    intro H locs la hz hl hM hS
    have hQ : Q = _ := hQ
    subst hQ
    exact W.zret hx hb hr (nar_char hv) (fun t ht hW => ⟨⟨r, (), rfl, rfl, by rw [ht]; exact hz, by rw [ht]; exact hM⟩, hS.F ht⟩) hS.2.2 d (hlocks := hlk)
  · cases h
theorem ww_getJR (pc : Nat) (X : mCX G own cc nL ret nm rm x) {idx a v : Nat} (d : decode cc pc = .ok (.getfield idx, 3)) (hf : Cond.fieldLink own idx "java/lang/String" "value" "[B" ∈ mtbl) (h : sVl G a = some v) (kk : WW x z M (pc + 3) lv (.ref v :: st)) : WW x z M pc lv (.ref a :: st) := by
  obtain ⟨D, G', A, p, l, e, R, s, m, args, below, meth, c, Q⟩ := x
  obtain ⟨hG, hrm, hx, hb, hml, hr, hlk, hnm, hown, hts, hK, hA, hE⟩ := X
  subst hG
  intro H locs la hz hl hM hS
  unfold sVl at h
  split at h
  · rename_i w fs h1
    cases h
    obtain ⟨-, w', cd, e1, ⟨cf, k, i, f, cell, g1, g2, g3, g4, g5, g6⟩, -⟩ := (hE.2.2.2.2.2.2.2.2.2.1 a _ h1).kept hS.2.1
    cases e1
    exact W.getf hx hb hown (hts _ hf) g1 g2 g3 g4 g5 rfl rfl d (kk H locs la hz hl hM hS)
  · cases h
theorem ww_getJI (pc : Nat) (X : mCX G own cc nL ret nm rm x) {idx a : Nat} {v : Int32} (d : decode cc pc = .ok (.getfield idx, 3)) (hf : Cond.fieldLink own idx "java/lang/String" "coder" "B" ∈ mtbl) (h : sCo G a = some v) (kk : WW x z M (pc + 3) lv (.int v :: st)) : WW x z M pc lv (.ref a :: st) := by
  obtain ⟨D, G', A, p, l, e, R, s, m, args, below, meth, c, Q⟩ := x
  obtain ⟨hG, hrm, hx, hb, hml, hr, hlk, hnm, hown, hts, hK, hA, hE⟩ := X
  subst hG
  intro H locs la hz hl hM hS
  unfold sCo at h
  split at h
  · rename_i w cdv fs h1
    cases h
    obtain ⟨-, w', cd, e1, -, ⟨cf, k, i, f, cell, g1, g2, g3, g4, g5, g6⟩⟩ := (hE.2.2.2.2.2.2.2.2.2.1 a _ h1).kept hS.2.1
    cases e1
    exact W.getf hx hb hown (hts _ hf) g1 g2 g3 g4 g5 rfl rfl d (kk H locs la hz hl hM hS)
  · cases h
theorem ww_getsZ (pc : Nat) (X : mCX G own cc nL ret nm rm x) {idx : Nat} (d : decode cc pc = .ok (.getstatic idx, 3)) (hf : Cond.fieldLink own idx "java/lang/String" "COMPACT_STRINGS" "Z" ∈ mtbl) (kk : WW x z M (pc + 3) lv (.int 1 :: st)) : WW x z M pc lv st := by
  obtain ⟨D, G', A, p, l, e, R, s, m, args, below, meth, c, Q⟩ := x
  obtain ⟨hG, hrm, hx, hb, hml, hr, hlk, hnm, hown, hts, hK, hA, hE⟩ := X
  intro H locs la hz hl hM hS
  exact va_gets hx hb hE.2.2.2.2.2.2.1 hS hown (hts _ hf) (fun _ q => q) d (kk H locs la hz hl hM hS)
theorem ww_getsQ (pc : Nat) (X : mCX G own cc nL ret nm rm x) {idx : Nat} (d : decode cc pc = .ok (.getstatic idx, 3)) (hf : Cond.fieldLink own idx "jdk/internal/util/Preconditions" "SIOOBE_FORMATTER" "Ljava/util/function/BiFunction;" ∈ mtbl) (kn : WW x z M (pc + 3) lv (.null :: st)) (kk : ∀ t : Nat, WW x z M (pc + 3) lv (.ref t :: st)) : WW x z M pc lv st := by
  obtain ⟨D, G', A, p, l, e, R, s, m, args, below, meth, c, Q⟩ := x
  obtain ⟨hG, hrm, hx, hb, hml, hr, hlk, hnm, hown, hts, hK, hA, hE⟩ := X
  intro H locs la hz hl hM hS
  rcases hE.2.2.2.2.2.2.2.1 with q | ⟨t, q⟩
  · exact va_gets hx hb q hS hown (hts _ hf) (fun _ q => q) d (kn H locs la hz hl hM hS)
  · exact va_gets hx hb q hS hown (hts _ hf) (fun _ q => q) d (kk t H locs la hz hl hM hS)
variable {idx maxL n fr lo a ci : Nat} {y : MethodName} {b : ByteArray} {ret' : Option FieldType} {As rest fs : List Value}
theorem ww_callVI0 (pc : Nat) (X : mCX G own cc nL ret nm rm x) {sz : Nat} {r : Int32} (d : decode cc pc = .ok (.invokevirtual idx, 3)) (hY : mYV y b maxL ret' n) (hL : Cond.methodLink own idx y ∈ mtbl) (hrec : ∃ fs, M a = some (.inr (ci, fs))) (hcl : ∃ (T : u_T) (N : Nat), mcl[ci]? = some (y.cls, T, N)) (hci : ci < 14) (hn : As.length = n) (hst : As.reverse ++ .ref a :: rest = st) (hR : fr + 1 ≤ rm.frames ∧ 8 + (maxL + 11) + lo ≤ rm.locals) (h8 : (rest.map fun v => v.category).sum ≤ 8) (hc : ∀ l D A, mMetI l D G A y b maxL ret' fr lo 0 0 (.ref a :: As) M sz r M' sz) (kk : WW x (sz, 0, 0) M' (pc + 3) lv (.int r :: rest)) : WW x (sz, 0, 0) M pc lv st := ww_callVI pc X d hY hL hrec hcl hci hn hst hR ⟨Nat.zero_le _, Nat.zero_le _⟩ h8 hc kk
theorem ww_callVL0 (pc : Nat) (X : mCX G own cc nL ret nm rm x) {sz : Nat} {r : Int64} (d : decode cc pc = .ok (.invokevirtual idx, 3)) (hY : mYV y b maxL ret' n) (hL : Cond.methodLink own idx y ∈ mtbl) (hrec : ∃ fs, M a = some (.inr (ci, fs))) (hcl : ∃ (T : u_T) (N : Nat), mcl[ci]? = some (y.cls, T, N)) (hci : ci < 14) (hn : As.length = n) (hst : As.reverse ++ .ref a :: rest = st) (hR : fr + 1 ≤ rm.frames ∧ 8 + (maxL + 11) + lo ≤ rm.locals) (h8 : (rest.map fun v => v.category).sum ≤ 8) (hc : ∀ l D A, mMetL l D G A y b maxL ret' fr lo 0 0 (.ref a :: As) M sz r M' sz) (kk : WW x (sz, 0, 0) M' (pc + 3) lv (.long r :: rest)) : WW x (sz, 0, 0) M pc lv st := ww_callVL pc X d hY hL hrec hcl hci hn hst hR ⟨Nat.zero_le _, Nat.zero_le _⟩ h8 hc kk
theorem ww_callVV0 (pc : Nat) (X : mCX G own cc nL ret nm rm x) {sz : Nat} (d : decode cc pc = .ok (.invokevirtual idx, 3)) (hY : mYV y b maxL ret' n) (hL : Cond.methodLink own idx y ∈ mtbl) (hrec : ∃ fs, M a = some (.inr (ci, fs))) (hcl : ∃ (T : u_T) (N : Nat), mcl[ci]? = some (y.cls, T, N)) (hci : ci < 14) (hn : As.length = n) (hst : As.reverse ++ .ref a :: rest = st) (hR : fr + 1 ≤ rm.frames ∧ 8 + (maxL + 11) + lo ≤ rm.locals) (h8 : (rest.map fun v => v.category).sum ≤ 8) (hc : ∀ l D A, mMetV l D G A y b maxL ret' fr lo 0 0 (.ref a :: As) M sz M' sz) (kk : WW x (sz, 0, 0) M' (pc + 3) lv (rest)) : WW x (sz, 0, 0) M pc lv st := ww_callVV pc X d hY hL hrec hcl hci hn hst hR ⟨Nat.zero_le _, Nat.zero_le _⟩ h8 hc kk
theorem ww_callSI0 (pc : Nat) (X : mCX G own cc nL ret nm rm x) {sz : Nat} {r : Int32} (d : decode cc pc = .ok (.invokestatic idx, 3)) (hY : mYS y b maxL ret' n) (hL : Cond.methodLink own idx y ∈ mtbl) (hn : As.length = n) (hst : As.reverse ++ rest = st) (hR : fr + 1 ≤ rm.frames ∧ 8 + (maxL + 11) + lo ≤ rm.locals) (h8 : (rest.map fun v => v.category).sum ≤ 8) (hc : ∀ l D A, mMetI l D G A y b maxL ret' fr lo 0 0 As M sz r M' sz) (kk : WW x (sz, 0, 0) M' (pc + 3) lv (.int r :: rest)) : WW x (sz, 0, 0) M pc lv st := ww_callSI pc X d hY hL hn hst hR ⟨Nat.zero_le _, Nat.zero_le _⟩ h8 hc kk
theorem ww_callSIN0 (pc : Nat) (X : mCX G own cc nL ret nm rm x) {sz : Nat} {r : Int32} (d : decode cc pc = .ok (.invokestatic idx, 3)) (hY : mYS y b maxL ret' n) (hL : ∃ host : String, (own, idx, y, host) ∈ mnM) (hn : As.length = n) (hst : As.reverse ++ rest = st) (hR : fr + 1 ≤ rm.frames ∧ 8 + (maxL + 11) + lo ≤ rm.locals) (h8 : (rest.map fun v => v.category).sum ≤ 8) (hc : ∀ l D A, mMetI l D G A y b maxL ret' fr lo 0 0 As M sz r M' sz) (kk : WW x (sz, 0, 0) M' (pc + 3) lv (.int r :: rest)) : WW x (sz, 0, 0) M pc lv st := ww_callSIN pc X d hY hL hn hst hR ⟨Nat.zero_le _, Nat.zero_le _⟩ h8 hc kk
theorem ww_callSL0 (pc : Nat) (X : mCX G own cc nL ret nm rm x) {sz : Nat} {r : Int64} (d : decode cc pc = .ok (.invokestatic idx, 3)) (hY : mYS y b maxL ret' n) (hL : Cond.methodLink own idx y ∈ mtbl) (hn : As.length = n) (hst : As.reverse ++ rest = st) (hR : fr + 1 ≤ rm.frames ∧ 8 + (maxL + 11) + lo ≤ rm.locals) (h8 : (rest.map fun v => v.category).sum ≤ 8) (hc : ∀ l D A, mMetL l D G A y b maxL ret' fr lo 0 0 As M sz r M' sz) (kk : WW x (sz, 0, 0) M' (pc + 3) lv (.long r :: rest)) : WW x (sz, 0, 0) M pc lv st := ww_callSL pc X d hY hL hn hst hR ⟨Nat.zero_le _, Nat.zero_le _⟩ h8 hc kk
theorem ww_callSLN0 (pc : Nat) (X : mCX G own cc nL ret nm rm x) {sz : Nat} {r : Int64} (d : decode cc pc = .ok (.invokestatic idx, 3)) (hY : mYS y b maxL ret' n) (hL : ∃ host : String, (own, idx, y, host) ∈ mnM) (hn : As.length = n) (hst : As.reverse ++ rest = st) (hR : fr + 1 ≤ rm.frames ∧ 8 + (maxL + 11) + lo ≤ rm.locals) (h8 : (rest.map fun v => v.category).sum ≤ 8) (hc : ∀ l D A, mMetL l D G A y b maxL ret' fr lo 0 0 As M sz r M' sz) (kk : WW x (sz, 0, 0) M' (pc + 3) lv (.long r :: rest)) : WW x (sz, 0, 0) M pc lv st := ww_callSLN pc X d hY hL hn hst hR ⟨Nat.zero_le _, Nat.zero_le _⟩ h8 hc kk
theorem ww_callSV0 (pc : Nat) (X : mCX G own cc nL ret nm rm x) {sz : Nat} (d : decode cc pc = .ok (.invokestatic idx, 3)) (hY : mYS y b maxL ret' n) (hL : Cond.methodLink own idx y ∈ mtbl) (hn : As.length = n) (hst : As.reverse ++ rest = st) (hR : fr + 1 ≤ rm.frames ∧ 8 + (maxL + 11) + lo ≤ rm.locals) (h8 : (rest.map fun v => v.category).sum ≤ 8) (hc : ∀ l D A, mMetV l D G A y b maxL ret' fr lo 0 0 As M sz M' sz) (kk : WW x (sz, 0, 0) M' (pc + 3) lv (rest)) : WW x (sz, 0, 0) M pc lv st := ww_callSV pc X d hY hL hn hst hR ⟨Nat.zero_le _, Nat.zero_le _⟩ h8 hc kk
theorem ww_callSVN0 (pc : Nat) (X : mCX G own cc nL ret nm rm x) {sz : Nat} (d : decode cc pc = .ok (.invokestatic idx, 3)) (hY : mYS y b maxL ret' n) (hL : ∃ host : String, (own, idx, y, host) ∈ mnM) (hn : As.length = n) (hst : As.reverse ++ rest = st) (hR : fr + 1 ≤ rm.frames ∧ 8 + (maxL + 11) + lo ≤ rm.locals) (h8 : (rest.map fun v => v.category).sum ≤ 8) (hc : ∀ l D A, mMetV l D G A y b maxL ret' fr lo 0 0 As M sz M' sz) (kk : WW x (sz, 0, 0) M' (pc + 3) lv (rest)) : WW x (sz, 0, 0) M pc lv st := ww_callSVN pc X d hY hL hn hst hR ⟨Nat.zero_le _, Nat.zero_le _⟩ h8 hc kk
theorem ww_callIV0 (pc : Nat) (X : mCX G own cc nL ret nm rm x) {sz : Nat} (d : decode cc pc = .ok (.invokespecial idx, 3)) (hY : mYI y b maxL ret' n) (hL : Cond.methodLink own idx y ∈ mtbl) (hn : As.length = n) (hst : As.reverse ++ .ref a :: rest = st) (hR : fr + 1 ≤ rm.frames ∧ 8 + (maxL + 11) + lo ≤ rm.locals) (h8 : (rest.map fun v => v.category).sum ≤ 8) (hc : ∀ l D A, mMetV l D G A y b maxL ret' fr lo 0 0 (.ref a :: As) M sz M' sz) (kk : WW x (sz, 0, 0) M' (pc + 3) lv (rest)) : WW x (sz, 0, 0) M pc lv st := ww_callIV pc X d hY hL hn hst hR ⟨Nat.zero_le _, Nat.zero_le _⟩ h8 hc kk
theorem ww_callIVN0 (pc : Nat) (X : mCX G own cc nL ret nm rm x) {sz : Nat} (d : decode cc pc = .ok (.invokespecial idx, 3)) (hY : mYI y b maxL ret' n) (hL : ∃ host : String, (own, idx, y, host) ∈ mnM) (hn : As.length = n) (hst : As.reverse ++ .ref a :: rest = st) (hR : fr + 1 ≤ rm.frames ∧ 8 + (maxL + 11) + lo ≤ rm.locals) (h8 : (rest.map fun v => v.category).sum ≤ 8) (hc : ∀ l D A, mMetV l D G A y b maxL ret' fr lo 0 0 (.ref a :: As) M sz M' sz) (kk : WW x (sz, 0, 0) M' (pc + 3) lv (rest)) : WW x (sz, 0, 0) M pc lv st := ww_callIVN pc X d hY hL hn hst hR ⟨Nat.zero_le _, Nat.zero_le _⟩ h8 hc kk
theorem ww_callVIs (pc : Nat) (X : mCX G own cc nL ret nm rm x) {sz : Nat} {r : Int32} (d : decode cc pc = .ok (.invokevirtual idx, 3)) (hY : mYV y b maxL ret' n) (hL : Cond.methodLink own idx y ∈ mtbl) (hrec : ∃ fs, G.2.1 a = some fs) (hcl : y.cls = "java/lang/String") (hn : As.length = n) (hst : As.reverse ++ .ref a :: rest = st) (hR : fr + 1 ≤ rm.frames ∧ 8 + (maxL + 11) + lo ≤ rm.locals) (h8 : (rest.map fun v => v.category).sum ≤ 8) (hc : ∀ l D A, mMetI l D G A y b maxL ret' fr lo 0 0 (.ref a :: As) M sz r M' sz) (kk : WW x (sz, 0, 0) M' (pc + 3) lv (.int r :: rest)) : WW x (sz, 0, 0) M pc lv st := by
  obtain ⟨D, G', A, p, l, e, R, s, m, args, below, meth, c, Q⟩ := x
  obtain ⟨hG, hrm, hx, hb, hml, hr, hlk, hnm, hown, hts, hK, hA, hE⟩ := X
  subst hG
  subst hrm
  subst hst
  obtain ⟨hcode, hin, hsel, hini, h1, h2, h3⟩ := hY
  have cw : CallW R s args own y.cls idx y b maxL ret' (mws y b maxL ret') { frames := fr, cells := 0, slots := 0, locals := lo } 0 0 n := ⟨callB_of n hts (mgoodY hcode) rfl rfl rfl (hts _ hini) (hts _ hL) ⟨h1, h2, h3⟩ hR, hts _ hin, hts _ hsel⟩
  intro H locs la hz hl hM hS
  obtain ⟨fs, hfs⟩ := hrec
  obtain ⟨⟨cell, g1, g2, g3, -⟩, -⟩ := (hE.2.2.2.2.2.2.2.2.2.1 a _ hfs).kept hS.2.1
  refine va_calli (va_runV (As := As) (rest := rest) ⟨hx, hb, hml, hown, hts⟩ (hc l D A) cw ⟨fun a U g mk q => ⟨q.1, q.2.calling g mk a⟩, ⟨cell, g1, g2, by rw [hcl]; exact g3⟩, fun U hU hW => ⟨rfl, mPre_of hU hW hz hM hK hA hE hS⟩⟩ rfl hn (hl.1.trans hml) rfl (lv_room h8) d ⟨Nat.zero_le _, Nat.zero_le _⟩) hS (fun q _ h => h) (fun q h => h) (fun r' u t H1 locs1 ht hvm hw hB hz1 hk1 hS1 => ?_)
  subst hw
  have hB2 := hB.2
  rw [ht] at hB2
  exact kk H1 locs1 la (by rw [← ht]; exact hB.1) hl hB2 hS1
end MMORE
