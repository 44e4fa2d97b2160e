/-! rows over the memory: fields, arrays, calls, ends -/
theorem mP1 {D : va_G} {q : Nat × va_E} {H : Heap} (h : va_at D mcl q H) : va_P D mcl [q] H := by
  intro k r hk
  have hz : k < 1 := (List.getElem?_eq_some_iff.mp hk).1
  rw [show k = 0 by omega] at hk
  cases hk
  exact h
theorem mD1 {A : Nat → Prop} {q : Nat × va_E} (h : A q.1) : va_D A [q] := by
  refine ⟨fun i j a b ha hb _ => ?_, fun k r hk => ?_⟩
  · have h1 : i < 1 := (List.getElem?_eq_some_iff.mp ha).1
    have h2 : j < 1 := (List.getElem?_eq_some_iff.mp hb).1
    omega
  · have hz : k < 1 := (List.getElem?_eq_some_iff.mp hk).1
    rw [show k = 0 by omega] at hk
    cases hk
    exact h
/-- a field's link, for reading -/
def fG (own : String) (idx ci k : Nat) : Prop := ∃ (C : String) (T : u_T) (N : Nat), mcl[ci]? = some (C, T, N) ∧ ci < 14 ∧ (∀ w ∈ u_ws C T N, w ∈ mtbl) ∧ k < N ∧ (Cond.fieldLink own idx (T k).1 (T k).2.1 (T k).2.2.1 ∈ mtbl ∨ ∃ host : String, (own, idx, (T k).1, (T k).2.1, (T k).2.2.1, host) ∈ mnF)
/-- and for writing -/
def fP (own : String) (idx ci k : Nat) (ty : FieldType) (nm : String) : Prop := ∃ (C : String) (T : u_T) (N : Nat) (ty0 : Nat → FieldType), mcl[ci]? = some (C, T, N) ∧ ci < 14 ∧ (∀ w ∈ u_ws C T N, w ∈ mtbl) ∧ k < N ∧ Cond.fieldLink own idx (T k).1 (T k).2.1 (T k).2.2.1 ∈ mtbl ∧ (∀ k, k < N → parseFieldDescriptor (T k).2.2.1 = some (ty0 k)) ∧ (∀ a, a < N → ∀ b, b < N → a ≠ b → (T a).2.1 ≠ (T b).2.1) ∧ parseFieldDescriptor (T k).2.2.1 = some ty ∧ ((T k).2.2.2 = false ∨ ((T k).2.2.2 = true ∧ nm = "<init>" ∧ (T k).1 = own))
section MMEM
variable {G : mG} {own : String} {cc : ByteArray} {nL : Nat} {ret : Option FieldType} {nm : String} {rm : Room} {x : mXT} {z : Nat × Nat × Nat} {M M' : mM} {lv : List (Nat × Value)} {st : List Value}
theorem ww_getv (pc : Nat) (X : mCX G own cc nL ret nm rm x) {idx ci k a : Nat} {v : Value} (d : decode cc pc = .ok (.getfield idx, 3)) (hf : fG own idx ci k) (h : gfv M a ci k = some v) (kk : WW x z M (pc + 3) lv (v :: st)) : WW x z M pc lv (.ref a :: st) := by
  obtain ⟨D, G', A, p, l, e, R, s, m, args, below, meth, c, Q⟩ := x
  obtain ⟨hG, hrm, hx, hb, hml, hr, hlk, hnm, hown, hts, hK, hA, hE⟩ := X
  intro H locs la hz hl hM hS
  obtain ⟨fs, h1, h2⟩ := gfv_spec h
  obtain ⟨C, T, N, hc, hci, hin, hkN, hl1⟩ := hf
  obtain ⟨-, h3, -⟩ := hM a _ h1
  · rcases hl1 with hl1 | ⟨host, hl1⟩
    · exact va_get (D := D.1) (cl := mcl) (tys := mtys D) (ws := [(a, .inr (ci, fs))]) hx hb hts hin hown hK (mP1 h3) 0 rfl hc k hkN (hts _ hl1) (fun _ q => q) h2 d (kk H locs la hz hl hM hS)
    · exact va_getN (D := D.1) (cl := mcl) (tys := mtys D) (ws := [(a, .inr (ci, fs))]) hx hb hts hin hown hK (mP1 h3) 0 rfl hc k hkN (va_Nw.use rfl (hE.2.2.2.1 _ hl1)) (fun _ q => q) h2 d (kk H locs la hz hl hM hS)
theorem ww_getI (pc : Nat) (X : mCX G own cc nL ret nm rm x) {idx ci k a : Nat} {v : Int32} (d : decode cc pc = .ok (.getfield idx, 3)) (hf : fG own idx ci k) (h : gfI M a ci k = some v) (kk : WW x z M (pc + 3) lv (.int v :: st)) : WW x z M pc lv (.ref a :: st) := ww_getv pc X d hf (gfI_spec h) kk
theorem ww_getL (pc : Nat) (X : mCX G own cc nL ret nm rm x) {idx ci k a : Nat} {v : Int64} (d : decode cc pc = .ok (.getfield idx, 3)) (hf : fG own idx ci k) (h : gfL M a ci k = some v) (kk : WW x z M (pc + 3) lv (.long v :: st)) : WW x z M pc lv (.ref a :: st) := ww_getv pc X d hf (gfL_spec h) kk
theorem ww_getR (pc : Nat) (X : mCX G own cc nL ret nm rm x) {idx ci k a : Nat} {v : Nat} (d : decode cc pc = .ok (.getfield idx, 3)) (hf : fG own idx ci k) (h : gfR M a ci k = some v) (kk : WW x z M (pc + 3) lv (.ref v :: st)) : WW x z M pc lv (.ref a :: st) := ww_getv pc X d hf (gfR_spec h) kk
theorem ww_putv (pc : Nat) (X : mCX G own cc nL ret nm rm x) {idx ci k a : Nat} {v : Value} {ty : FieldType} (d : decode cc pc = .ok (.putfield idx, 3)) (hf : fP own idx ci k ty nm) (h : pfv M a ci k v = some M') (hn : narrow ty v = v) (hfit : fits ty v = true) (kk : WW x z M' (pc + 3) lv st) : WW x z M pc lv (v :: .ref a :: st) := by
  obtain ⟨D, G', A, p, l, e, R, s, m, args, below, meth, c, Q⟩ := x
  obtain ⟨hG, hrm, hx, hb, hml, hr, hlk, hnm, hown, hts, hK, hA, hE⟩ := X
  intro H locs la hz hl hM hS
  obtain ⟨fs, h1, h2, rfl⟩ := pfv_spec h
  obtain ⟨C, T, N, ty0, hc, hci, hin, hkN, hl1, hty, hnn, hd, hfin⟩ := hf
  obtain ⟨-, h3, hAa⟩ := hM a _ h1
  · have hap := va_apart (own := own) hts hin ty0 hty hnn hK hc
    obtain ⟨r, g1, cell, q1, q2, q3, q4⟩ := h3
    have hr' : r = (C, T, N) := Option.some.inj (g1.symm.trans hc)
    subst hr'
    obtain ⟨hSl, hfc, kC, hkC, hkind⟩ := hK.1 ci _ hc
    obtain ⟨cf, kf, fi, f, hi, hsl⟩ := hSl k hkN
    have hlay := hts _ (hin _ (u_in_lay hkN))
    have hst := (u_facts hfc hkC (u_lays hts hin hkN) hi).1
    rcases hfin with hfin | ⟨hfin, hnmi, hdecl⟩
    · unfold u_lay at hlay
      rw [if_neg (by rw [hfin]; decide)] at hlay
      have h6 := u_store hfc hkC hkind hlay hi hd hn hfit
      refine W.putK hx hb (f := f) ⟨hown, hts _ hl1, ⟨_, _, _, hi⟩, hst⟩ (by rw [q2]; exact h6) q1 q3 (by rw [hsl]; exact k2_hasslot (q4 k hkN)) rfl rfl d fun H' e1 e2 e3 => ?_
      rw [hsl] at e1 ⊢
      exact kk H' _ la (e2.trans hz) hl (hM.set ⟨hci, ⟨_, hc, t_OB.to (V := updV (vp_V fs) k v) ⟨_, e1, q2, q3, t_set q4 hap hkN v⟩ (fun j _ => vp_updV_set h2 v j)⟩, hAa⟩ e3) (hS.put e2 e3 hAa)
    · unfold u_lay at hlay
      rw [if_pos hfin] at hlay
      have hcf : m.cls = cf := by
        obtain ⟨_, _, c', _, _, _, -, -, hf', -, -, -, hown2, -⟩ := Cond.laysFinal_spec hlay
        have e1 : c' = cf := by have := hi.symm.trans hf'; simp at this; exact this.1.symm
        rw [hdecl] at hown2
        rw [← e1]; exact Option.some.inj (hown.symm.trans hown2)
      have h6 := u_fits hfc hkC hkind (Or.inr hlay) hi hd hn hfit
      refine W.putFinK hx hb hown (hts _ hl1) hi hst hcf (hnm.trans hnmi) (by rw [q2]; exact h6) q1 q3 (by rw [hsl]; exact k2_hasslot (q4 k hkN)) rfl rfl d fun H' e1 e2 e3 => ?_
      rw [hsl] at e1 ⊢
      exact kk H' _ la (e2.trans hz) hl (hM.set ⟨hci, ⟨_, hc, t_OB.to (V := updV (vp_V fs) k v) ⟨_, e1, q2, q3, t_set q4 hap hkN v⟩ (fun j _ => vp_updV_set h2 v j)⟩, hAa⟩ e3) (hS.put e2 e3 hAa)
theorem ww_putI (pc : Nat) (X : mCX G own cc nL ret nm rm x) {idx ci k a : Nat} {v : Int32} (d : decode cc pc = .ok (.putfield idx, 3)) (hf : fP own idx ci k .int nm) (h : pfv M a ci k (.int v) = some M') (kk : WW x z M' (pc + 3) lv st) : WW x z M pc lv (.int v :: .ref a :: st) := ww_putv pc X d hf h rfl rfl kk
theorem ww_putL (pc : Nat) (X : mCX G own cc nL ret nm rm x) {idx ci k a : Nat} {v : Int64} (d : decode cc pc = .ok (.putfield idx, 3)) (hf : fP own idx ci k .long nm) (h : pfv M a ci k (.long v) = some M') (kk : WW x z M' (pc + 3) lv st) : WW x z M pc lv (.long v :: .ref a :: st) := ww_putv pc X d hf h rfl rfl kk
theorem ww_putZ (pc : Nat) (X : mCX G own cc nL ret nm rm x) {idx ci k a : Nat} {v : Int32} (d : decode cc pc = .ok (.putfield idx, 3)) (hf : fP own idx ci k .boolean nm) (h : pfZ M a ci k v = some M') (kk : WW x z M' (pc + 3) lv st) : WW x z M pc lv (.int v :: .ref a :: st) := by
  unfold pfZ at h
  split at h
  · rename_i hv
    refine ww_putv pc X d hf h ?_ ?_ kk
    · rcases hv with rfl | rfl <;> rfl
    · rcases hv with rfl | rfl <;> rfl
  · cases h
theorem ww_putR (pc : Nat) (X : mCX G own cc nL ret nm rm x) {idx ci k a : Nat} {v : Nat} {ty : FieldType} (d : decode cc pc = .ok (.putfield idx, 3)) (hf : fP own idx ci k ty nm) (h : pfv M a ci k (.ref v) = some M') (hn : narrow ty (.ref v) = .ref v) (hfit : fits ty (.ref v) = true) (kk : WW x z M' (pc + 3) lv st) : WW x z M pc lv (.ref v :: .ref a :: st) := ww_putv pc X d hf h hn hfit kk
theorem ww_iald (pc : Nat) (X : mCX G own cc nL ret nm rm x) {a : Nat} {i v : Int32} (d : decode cc pc = .ok (.iaload, 1)) (h : aI G M 0 a i = some v) (kk : WW x z M (pc + 1) lv (.int v :: st)) : WW x z M pc lv (.int i :: .ref a :: st) := by
  obtain ⟨D, G', A, p, l, e, R, s, m, args, below, meth, c, Q⟩ := x
  obtain ⟨hG, hrm, hx, hb, hml, hr, hlk, hnm, hown, hts, hK, hA, hE⟩ := X
  subst hG
  intro H locs la hz hl hM hS
  obtain ⟨n, f, h3, rfl, h1⟩ := aI_spec h
  have h4 := inB_in h3
  have hlt : i.toNatClampNeg < n := Nat.not_le.mp fun q => h4 (Or.inr q)
  rcases h1 with h1 | ⟨hk, h1⟩ | ⟨hk, h1⟩
  · obtain ⟨z1, h5, hAa⟩ := hM a _ h1
    exact va_iald (D := D.1) (cl := mcl) (tys := mtys D) (ws := [(a, .inl (D.2 0, n, .inl f))]) hx hb hK (mP1 (D := D.1) (q := (a, .inl (D.2 0, n, .inl f))) h5) 0 0 rfl rfl h4 d (kk H locs la hz hl hM hS)
  · obtain ⟨cell, g1, g2, g3, g4, g5, g6, g7⟩ := (hE.2.2.2.2.2.2.2.2.2.2.1 a n f h1).kept hS.2.1
    refine W.iald (v := .int (f i.toNatClampNeg)) hx hb g1 g2 g3 ?_ (g6 _ hlt) rfl rfl d (kk H locs la hz hl hM hS)
    rintro (q | q)
    · exact h4 (Or.inl q)
    · have := Nat.le_trans g4 q
      omega
  · omega
theorem ww_bald (pc : Nat) (X : mCX G own cc nL ret nm rm x) {a : Nat} {i v : Int32} (d : decode cc pc = .ok (.baload, 1)) (h : aI G M 1 a i = some v) (kk : WW x z M (pc + 1) lv (.int v :: st)) : WW x z M pc lv (.int i :: .ref a :: st) := by
  obtain ⟨D, G', A, p, l, e, R, s, m, args, below, meth, c, Q⟩ := x
  obtain ⟨hG, hrm, hx, hb, hml, hr, hlk, hnm, hown, hts, hK, hA, hE⟩ := X
  subst hG
  intro H locs la hz hl hM hS
  obtain ⟨n, f, h3, rfl, h1⟩ := aI_spec h
  have h4 := inB_in h3
  have hlt : i.toNatClampNeg < n := Nat.not_le.mp fun q => h4 (Or.inr q)
  rcases h1 with h1 | ⟨hk, h1⟩ | ⟨hk, h1⟩
  · obtain ⟨z1, h5, hAa⟩ := hM a _ h1
    exact va_bald (D := D.1) (cl := mcl) (tys := mtys D) (ws := [(a, .inl (D.2 1, n, .inl f))]) hx hb hK (mP1 (D := D.1) (q := (a, .inl (D.2 1, n, .inl f))) h5) 0 1 rfl rfl h4 d (kk H locs la hz hl hM hS)
  · omega
  · obtain ⟨cell, g1, g2, g3, g4, g5, g6, g7⟩ := (hE.2.2.2.2.2.2.2.2.2.2.2.1 a n f h1).kept hS.2.1
    refine W.bald (v := .int (f i.toNatClampNeg)) hx hb g1 g2 g3 ?_ (g6 _ hlt) rfl rfl d (kk H locs la hz hl hM hS)
    rintro (q | q)
    · exact h4 (Or.inl q)
    · have := Nat.le_trans g4 q
      omega
theorem ww_zald (pc : Nat) (X : mCX G own cc nL ret nm rm x) {a : Nat} {i v : Int32} (d : decode cc pc = .ok (.baload, 1)) (h : aI G M 3 a i = some v) (kk : WW x z M (pc + 1) lv (.int v :: st)) : WW x z M pc lv (.int i :: .ref a :: st) := by
  obtain ⟨D, G', A, p, l, e, R, s, m, args, below, meth, c, Q⟩ := x
  obtain ⟨hG, hrm, hx, hb, hml, hr, hlk, hnm, hown, hts, hK, hA, hE⟩ := X
  subst hG
  intro H locs la hz hl hM hS
  obtain ⟨n, f, h3, rfl, h1⟩ := aI_spec h
  have h4 := inB_in h3
  have hlt : i.toNatClampNeg < n := Nat.not_le.mp fun q => h4 (Or.inr q)
  rcases h1 with h1 | ⟨hk, h1⟩ | ⟨hk, h1⟩
  · obtain ⟨z1, h5, hAa⟩ := hM a _ h1
    exact va_zald (D := D.1) (cl := mcl) (tys := mtys D) (ws := [(a, .inl (D.2 3, n, .inl f))]) hx hb hK (mP1 (D := D.1) (q := (a, .inl (D.2 3, n, .inl f))) h5) 0 3 rfl rfl h4 d (kk H locs la hz hl hM hS)
  · omega
  · omega
theorem ww_lald (pc : Nat) (X : mCX G own cc nL ret nm rm x) {a : Nat} {i : Int32} {v : Int64} (d : decode cc pc = .ok (.laload, 1)) (h : aL G M a i = some v) (kk : WW x z M (pc + 1) lv (.long v :: st)) : WW x z M pc lv (.int i :: .ref a :: st) := by
  obtain ⟨D, G', A, p, l, e, R, s, m, args, below, meth, c, Q⟩ := x
  obtain ⟨hG, hrm, hx, hb, hml, hr, hlk, hnm, hown, hts, hK, hA, hE⟩ := X
  subst hG
  intro H locs la hz hl hM hS
  obtain ⟨n, f, h3, rfl, h1⟩ := aL_spec h
  have h4 := inB_in h3
  have hlt : i.toNatClampNeg < n := Nat.not_le.mp fun q => h4 (Or.inr q)
  rcases h1 with h1 | h1
  · obtain ⟨z1, h5, hAa⟩ := hM a _ h1
    exact va_lald (D := D.1) (cl := mcl) (tys := mtys D) (ws := [(a, .inl (D.2 2, n, .inr (.inl f)))]) hx hb hK (mP1 (D := D.1) (q := (a, .inl (D.2 2, n, .inr (.inl f)))) h5) 0 2 rfl rfl h4 d (kk H locs la hz hl hM hS)
  · obtain ⟨cell, g1, g2, g3, g4, g5, g6, g7⟩ := (hE.2.2.2.2.2.2.2.2.2.2.2.2 a n f h1).kept hS.2.1
    refine W.lald (v := .long (f i.toNatClampNeg)) hx hb g1 g2 g3 ?_ (g6 _ hlt) rfl rfl d (kk H locs la hz hl hM hS)
    rintro (q | q)
    · exact h4 (Or.inl q)
    · have := Nat.le_trans g4 q
      omega
theorem ww_iast (pc : Nat) (X : mCX G own cc nL ret nm rm x) {a : Nat} {i v : Int32} (d : decode cc pc = .ok (.iastore, 1)) (h : sI M 0 a i v = some M') (kk : WW x z M' (pc + 1) lv st) : WW x z M pc lv (.int v :: .int i :: .ref a :: st) := by
  obtain ⟨D, G', A, p, l, e, R, s, m, args, below, meth, c, Q⟩ := x
  obtain ⟨hG, hrm, hx, hb, hml, hr, hlk, hnm, hown, hts, hK, hA, hE⟩ := X
  intro H locs la hz hl hM hS
  obtain ⟨n, f, h1, h3, rfl⟩ := sI_spec h
  have h4 := inB_in h3
  obtain ⟨z1, h5, hAa⟩ := hM a _ h1
  · refine W.iast hx hb h5 ((hK.2 0 _ rfl).1 n (fun j => .int (f j))) (fun q => by cases q) (by show ¬ (i < 0 ∨ (arrV _ _ _).slots.size ≤ _); rw [arrV_size]; exact h4) rfl rfl d fun H1 e1 z2 oq => ?_
    refine kk H1 _ la (z2.trans hz) hl (hM.set ⟨z1, ?_, hAa⟩ oq) (hS.put z2 oq hAa)
    show H1[a]? = some (vp_cell _ _)
    rw [e1, vp_cell_i, vp_cell_i, arrV_store]
    congr 2
    funext q
    by_cases hq : q = i.toNatClampNeg
    · subst hq
      simp [updV, upd]
    · simp [updV, upd, hq]
theorem ww_bast (pc : Nat) (X : mCX G own cc nL ret nm rm x) {a : Nat} {i v : Int32} (d : decode cc pc = .ok (.bastore, 1)) (h : sI M 1 a i (v.toInt8.toInt32) = some M') (kk : WW x z M' (pc + 1) lv st) : WW x z M pc lv (.int v :: .int i :: .ref a :: st) := by
  obtain ⟨D, G', A, p, l, e, R, s, m, args, below, meth, c, Q⟩ := x
  obtain ⟨hG, hrm, hx, hb, hml, hr, hlk, hnm, hown, hts, hK, hA, hE⟩ := X
  intro H locs la hz hl hM hS
  obtain ⟨n, f, h1, h3, rfl⟩ := sI_spec h
  have h4 := inB_in h3
  obtain ⟨z1, h5, hAa⟩ := hM a _ h1
  · refine W.bast hx hb h5 ((hK.2 1 _ rfl).1 n (fun j => .int (f j))) (fun q => by cases q) (by show ¬ (i < 0 ∨ (arrV _ _ _).slots.size ≤ _); rw [arrV_size]; exact h4) rfl rfl d fun H1 e1 z2 oq => ?_
    refine kk H1 _ la (z2.trans hz) hl (hM.set ⟨z1, ?_, hAa⟩ oq) (hS.put z2 oq hAa)
    show H1[a]? = some (vp_cell _ _)
    rw [e1, vp_cell_i, vp_cell_i, arrV_store]
    congr 2
    funext q
    by_cases hq : q = i.toNatClampNeg
    · subst hq
      simp only [updV, upd, if_true]
      rw [← vp_nar_byte]
      simp [vp_nar]
      try rfl
    · simp [updV, upd, hq]
theorem ww_zast (pc : Nat) (X : mCX G own cc nL ret nm rm x) {a : Nat} {i v : Int32} (d : decode cc pc = .ok (.bastore, 1)) (h : sI M 3 a i (vp_nar .boolean v) = some M') (kk : WW x z M' (pc + 1) lv st) : WW x z M pc lv (.int v :: .int i :: .ref a :: st) := by
  obtain ⟨D, G', A, p, l, e, R, s, m, args, below, meth, c, Q⟩ := x
  obtain ⟨hG, hrm, hx, hb, hml, hr, hlk, hnm, hown, hts, hK, hA, hE⟩ := X
  intro H locs la hz hl hM hS
  obtain ⟨n, f, h1, h3, rfl⟩ := sI_spec h
  have h4 := inB_in h3
  obtain ⟨z1, h5, hAa⟩ := hM a _ h1
  · refine W.zast hx hb h5 ((hK.2 3 _ rfl).1 n (fun j => .int (f j))) (fun q => by cases q) (by show ¬ (i < 0 ∨ (arrV _ _ _).slots.size ≤ _); rw [arrV_size]; exact h4) rfl rfl d fun H1 e1 z2 oq => ?_
    refine kk H1 _ la (z2.trans hz) hl (hM.set ⟨z1, ?_, hAa⟩ oq) (hS.put z2 oq hAa)
    show H1[a]? = some (vp_cell _ _)
    rw [e1, vp_cell_i, vp_cell_i, arrV_store]
    congr 2
    funext q
    by_cases hq : q = i.toNatClampNeg
    · subst hq
      simp [updV, upd, vp_nar]
      try rfl
    · simp [updV, upd, hq]
theorem ww_last (pc : Nat) (X : mCX G own cc nL ret nm rm x) {a : Nat} {i : Int32} {v : Int64} (d : decode cc pc = .ok (.lastore, 1)) (h : sL M a i v = some M') (kk : WW x z M' (pc + 1) lv st) : WW x z M pc lv (.long v :: .int i :: .ref a :: st) := by
  obtain ⟨D, G', A, p, l, e, R, s, m, args, below, meth, c, Q⟩ := x
  obtain ⟨hG, hrm, hx, hb, hml, hr, hlk, hnm, hown, hts, hK, hA, hE⟩ := X
  intro H locs la hz hl hM hS
  obtain ⟨n, f, h1, h3, rfl⟩ := sL_spec h
  have h4 := inB_in h3
  obtain ⟨z1, h5, hAa⟩ := hM a _ h1
  · refine W.last hx hb h5 ((hK.2 2 _ rfl).1 n (fun j => .long (f j))) (fun q => by cases q) (by show ¬ (i < 0 ∨ (arrV _ _ _).slots.size ≤ _); rw [arrV_size]; exact h4) rfl rfl d fun H1 e1 z2 oq => ?_
    refine kk H1 _ la (z2.trans hz) hl (hM.set ⟨z1, ?_, hAa⟩ oq) (hS.put z2 oq hAa)
    show H1[a]? = some (vp_cell _ _)
    rw [e1, vp_cell_l, vp_cell_l, arrV_store]
    congr 2
    funext q
    by_cases hq : q = i.toNatClampNeg
    · subst hq
      simp [updV, vp_updL]
    · simp [updV, vp_updL, hq]
theorem ww_alen (pc : Nat) (X : mCX G own cc nL ret nm rm x) {a : Nat} {v : Int32} (d : decode cc pc = .ok (.arraylength, 1)) (h : aln G M a = some v) (kk : WW x z M (pc + 1) lv (.int v :: st)) : WW x z M pc lv (.ref a :: st) := by
  obtain ⟨D, G', A, p, l, e, R, s, m, args, below, meth, c, Q⟩ := x
  obtain ⟨hG, hrm, hx, hb, hml, hr, hlk, hnm, hown, hts, hK, hA, hE⟩ := X
  subst hG
  intro H locs la hz hl hM hS
  obtain ⟨n, rfl, h1⟩ := aln_spec h
  rcases h1 with ⟨c', y, h1⟩ | h1
  · obtain ⟨z1, h5, hAa⟩ := hM a _ h1
    exact va_alen (D := D.1) (cl := mcl) (tys := mtys D) (ws := [(a, .inl (D.2 c', n, y))]) hx hb hK (mP1 (D := D.1) (q := (a, .inl (D.2 c', n, y))) h5) 0 c' rfl (mtys_at D z1) rfl d (kk H locs la hz hl hM hS)
  · rcases roN_spec h1 with ⟨f, q⟩ | ⟨f, q⟩ | ⟨f, q⟩
    · obtain ⟨cell, g1, g2, g3, g4, g5, g6, g7⟩ := (hE.2.2.2.2.2.2.2.2.2.2.1 a n f q).kept hS.2.1
      exact W.alen (n := Int32.ofNat n) hx hb g1 g2 g5 rfl rfl d (kk H locs la hz hl hM hS)
    · obtain ⟨cell, g1, g2, g3, g4, g5, g6, g7⟩ := (hE.2.2.2.2.2.2.2.2.2.2.2.1 a n f q).kept hS.2.1
      exact W.alen (n := Int32.ofNat n) hx hb g1 g2 g5 rfl rfl d (kk H locs la hz hl hM hS)
    · obtain ⟨cell, g1, g2, g3, g4, g5, g6, g7⟩ := (hE.2.2.2.2.2.2.2.2.2.2.2.2 a n f q).kept hS.2.1
      exact W.alen (n := Int32.ofNat n) hx hb g1 g2 g5 rfl rfl d (kk H locs la hz hl hM hS)
end MMEM
