/-! calls that answer a reference; calls inside methods that make cells; ends of these -/
section MREF
variable {G : mG} {own : String} {cc : ByteArray} {nL : Nat} {ret : Option FieldType} {nm : String} {rm : Room} {x : mXT} {z : Nat × Nat × Nat} {M M' : mM} {lv : List (Nat × Value)} {st : List Value}
variable {idx maxL n fr lo mc ms sz' a ci : Nat} {y : MethodName} {b : ByteArray} {ret' : Option FieldType} {As rest fs : List Value}
theorem ww_callSR (pc : Nat) (X : mCX G own cc nL ret nm rm x) {r : Nat} (d : decode cc pc = .ok (.invokestatic idx, 3)) (hY : mYS y b maxL ret' n) (hL : Cond.methodLink own idx y ∈ mtbl) (hn : As.length = n) (hst : As.reverse ++ rest = st) (hR : fr + 1 ≤ rm.frames ∧ 8 + (maxL + 11) + lo ≤ rm.locals) (hcs : z.2.1 + mc ≤ rm.cells ∧ z.2.2 + ms ≤ rm.slots) (h8 : (rest.map fun v => v.category).sum ≤ 8) (hc : ∀ l D A, mMetR l D G A y b maxL ret' fr lo mc ms As M z.1 r M' sz') (kk : WW x (sz', z.2.1 + mc, z.2.2 + ms) M' (pc + 3) lv (.ref r :: rest)) : WW x z M pc lv st := by
  obtain ⟨D, G', A, p, l, e, R, s, m, args, below, meth, c, Q⟩ := x
  obtain ⟨hG, hrm, hx, hb, hml, hr, hlk, hnm, hown, hts, hK, hA, hE⟩ := X
  subst hG
  subst hrm
  subst hst
  obtain ⟨hcode, hstat, hini, h1, h2, h3⟩ := hY
  have cw : CallB R s args own idx y b maxL ret' (mws y b maxL ret') { frames := fr, cells := mc, slots := ms, locals := lo } mc ms n ∧ (Cond.static y).before args s = true := ⟨callB_of n hts (mgoodY hcode) rfl rfl rfl (hts _ hini) (hts _ hL) ⟨h1, h2, h3⟩ hR, hts _ hstat⟩
  intro H locs la hz hl hM hS
  refine va_callr (va_runS (As := As) (rest := rest) ⟨hx, hb, hml, hown, hts⟩ (hc l D A) cw ⟨fun a U g mk q => ⟨q.1, q.2.calling g mk a⟩, fun U hU hW => ⟨rfl, mPre_of hU hW hz hM hK hA hE hS⟩⟩ rfl hn (hl.1.trans hml) rfl (lv_room h8) d hcs) hS (fun q _ h => h) (fun q h => h) (fun u ra t H1 locs1 ht hvm hw hB hz1 hk1 hS1 => ?_)
  obtain ⟨rfl, hB1, hB2⟩ := hB
  rw [ht] at hB2
  exact kk H1 locs1 la (by rw [← ht]; exact hB1) hl hB2 hS1
theorem ww_callSR0 (pc : Nat) (X : mCX G own cc nL ret nm rm x) {sz r : Nat} (d : decode cc pc = .ok (.invokestatic idx, 3)) (hY : mYS y b maxL ret' n) (hL : Cond.methodLink own idx y ∈ mtbl) (hn : As.length = n) (hst : As.reverse ++ rest = st) (hR : fr + 1 ≤ rm.frames ∧ 8 + (maxL + 11) + lo ≤ rm.locals) (h8 : (rest.map fun v => v.category).sum ≤ 8) (hc : ∀ l D A, mMetR l D G A y b maxL ret' fr lo 0 0 As M sz r M' sz) (kk : WW x (sz, 0, 0) M' (pc + 3) lv (.ref r :: rest)) : WW x (sz, 0, 0) M pc lv st := ww_callSR pc X d hY hL hn hst hR ⟨Nat.zero_le _, Nat.zero_le _⟩ h8 hc kk
theorem ww_callSRN (pc : Nat) (X : mCX G own cc nL ret nm rm x) {r : Nat} (d : decode cc pc = .ok (.invokestatic idx, 3)) (hY : mYS y b maxL ret' n) (hL : ∃ host : String, (own, idx, y, host) ∈ mnM) (hn : As.length = n) (hst : As.reverse ++ rest = st) (hR : fr + 1 ≤ rm.frames ∧ 8 + (maxL + 11) + lo ≤ rm.locals) (hcs : z.2.1 + mc ≤ rm.cells ∧ z.2.2 + ms ≤ rm.slots) (h8 : (rest.map fun v => v.category).sum ≤ 8) (hc : ∀ l D A, mMetR l D G A y b maxL ret' fr lo mc ms As M z.1 r M' sz') (kk : WW x (sz', z.2.1 + mc, z.2.2 + ms) M' (pc + 3) lv (.ref r :: rest)) : WW x z M pc lv st := by
  obtain ⟨D, G', A, p, l, e, R, s, m, args, below, meth, c, Q⟩ := x
  obtain ⟨hG, hrm, hx, hb, hml, hr, hlk, hnm, hown, hts, hK, hA, hE⟩ := X
  subst hG
  subst hrm
  subst hst
  obtain ⟨hcode, hstat, hini, h1, h2, h3⟩ := hY
  obtain ⟨host, hL⟩ := hL
  have cw := va_cnB (R := R) (s := s) (args := args) (own := own) (host := host) (index := idx) (maxL := maxL) (mc := mc) (ms := ms) (y := y) (bytes := b) (ret := ret') (ws := mws y b maxL ret') (rm := { frames := fr, cells := mc, slots := ms, locals := lo }) n hts (mgoodY hcode) rfl rfl rfl (hE.2.2.1 _ hL) (hts _ hini) ⟨h1, h2, h3⟩ hR
  intro H locs la hz hl hM hS
  refine va_callr (va_runSN (As := As) (rest := rest) ⟨hx, hb, hml, hown, hts⟩ (hc l D A) ⟨cw, hts _ hstat, trivial⟩ ⟨fun a U g mk q => ⟨q.1, q.2.calling g mk a⟩, fun U hU hW => ⟨rfl, mPre_of hU hW hz hM hK hA hE hS⟩⟩ rfl hn (hl.1.trans hml) rfl (lv_room h8) d hcs) hS (fun q _ h => h) (fun q h => h) (fun u ra t H1 locs1 ht hvm hw hB hz1 hk1 hS1 => ?_)
  obtain ⟨rfl, hB1, hB2⟩ := hB
  rw [ht] at hB2
  exact kk H1 locs1 la (by rw [← ht]; exact hB1) hl hB2 hS1
theorem ww_callSRN0 (pc : Nat) (X : mCX G own cc nL ret nm rm x) {sz r : Nat} (d : decode cc pc = .ok (.invokestatic idx, 3)) (hY : mYS y b maxL ret' n) (hL : ∃ host : String, (own, idx, y, host) ∈ mnM) (hn : As.length = n) (hst : As.reverse ++ rest = st) (hR : fr + 1 ≤ rm.frames ∧ 8 + (maxL + 11) + lo ≤ rm.locals) (h8 : (rest.map fun v => v.category).sum ≤ 8) (hc : ∀ l D A, mMetR l D G A y b maxL ret' fr lo 0 0 As M sz r M' sz) (kk : WW x (sz, 0, 0) M' (pc + 3) lv (.ref r :: rest)) : WW x (sz, 0, 0) M pc lv st := ww_callSRN pc X d hY hL hn hst hR ⟨Nat.zero_le _, Nat.zero_le _⟩ h8 hc kk
variable {sz sl z0 s0 : Nat}
theorem ww_callVIz (pc : Nat) (X : mCX G own cc nL ret nm rm x) {r : Int32} (d : decode cc pc = .ok (.invokevirtual idx, 3)) (hY : mYV y b maxL ret' n) (hL : Cond.methodLink own idx y ∈ mtbl) (hrec : ∃ fs, M a = some (.inr (ci, fs))) (hcl : ∃ (T : u_T) (N : Nat), mcl[ci]? = some (y.cls, T, N)) (hci : ci < 14) (hn : As.length = n) (hst : As.reverse ++ .ref a :: rest = st) (hR : fr + 1 ≤ rm.frames ∧ 8 + (maxL + 11) + lo ≤ rm.locals) (c1 : sz - z0 ≤ rm.cells) (c2 : sl - s0 ≤ rm.slots) (h8 : (rest.map fun v => v.category).sum ≤ 8) (hc : ∀ l D A, mMetI l D G A y b maxL ret' fr lo 0 0 (.ref a :: As) M sz r M' sz) (kk : WW x (sz, sz - z0, sl - s0) M' (pc + 3) lv (.int r :: rest)) : WW x (sz, sz - z0, sl - s0) M pc lv st := ww_callVI pc X d hY hL hrec hcl hci hn hst hR ⟨c1, c2⟩ h8 hc kk
theorem ww_callVIa {z1 k1 : Nat} (pc : Nat) (X : mCX G own cc nL ret nm rm x) {r : Int32} (d : decode cc pc = .ok (.invokevirtual idx, 3)) (hY : mYV y b maxL ret' n) (hL : Cond.methodLink own idx y ∈ mtbl) (hrec : ∃ fs, M a = some (.inr (ci, fs))) (hcl : ∃ (T : u_T) (N : Nat), mcl[ci]? = some (y.cls, T, N)) (hci : ci < 14) (hn : As.length = n) (hst : As.reverse ++ .ref a :: rest = st) (hR : fr + 1 ≤ rm.frames ∧ 8 + (maxL + 11) + lo ≤ rm.locals) (a1 : z0 ≤ sz) (a2 : s0 ≤ sl) (b1 : sz ≤ z1) (b2 : sl ≤ k1) (c1 : z1 - z0 ≤ rm.cells) (c2 : k1 - s0 ≤ rm.slots) (h8 : (rest.map fun v => v.category).sum ≤ 8) (hc : ∀ l D A, mMetI l D G A y b maxL ret' fr lo (z1 - sz) (k1 - sl) (.ref a :: As) M sz r M' z1) (kk : WW x (z1, z1 - z0, k1 - s0) M' (pc + 3) lv (.int r :: rest)) : WW x (sz, sz - z0, sl - s0) M pc lv st := by
  refine ww_callVI (z := (sz, sz - z0, sl - s0)) pc X d hY hL hrec hcl hci hn hst hR ⟨by show sz - z0 + (z1 - sz) ≤ _; omega, by show sl - s0 + (k1 - sl) ≤ _; omega⟩ h8 hc ?_
  show WW x (z1, sz - z0 + (z1 - sz), sl - s0 + (k1 - sl)) M' _ _ _
  rw [show sz - z0 + (z1 - sz) = z1 - z0 by omega, show sl - s0 + (k1 - sl) = k1 - s0 by omega]
  exact kk
theorem ww_callVLz (pc : Nat) (X : mCX G own cc nL ret nm rm x) {r : Int64} (d : decode cc pc = .ok (.invokevirtual idx, 3)) (hY : mYV y b maxL ret' n) (hL : Cond.methodLink own idx y ∈ mtbl) (hrec : ∃ fs, M a = some (.inr (ci, fs))) (hcl : ∃ (T : u_T) (N : Nat), mcl[ci]? = some (y.cls, T, N)) (hci : ci < 14) (hn : As.length = n) (hst : As.reverse ++ .ref a :: rest = st) (hR : fr + 1 ≤ rm.frames ∧ 8 + (maxL + 11) + lo ≤ rm.locals) (c1 : sz - z0 ≤ rm.cells) (c2 : sl - s0 ≤ rm.slots) (h8 : (rest.map fun v => v.category).sum ≤ 8) (hc : ∀ l D A, mMetL l D G A y b maxL ret' fr lo 0 0 (.ref a :: As) M sz r M' sz) (kk : WW x (sz, sz - z0, sl - s0) M' (pc + 3) lv (.long r :: rest)) : WW x (sz, sz - z0, sl - s0) M pc lv st := ww_callVL pc X d hY hL hrec hcl hci hn hst hR ⟨c1, c2⟩ h8 hc kk
theorem ww_callVLa {z1 k1 : Nat} (pc : Nat) (X : mCX G own cc nL ret nm rm x) {r : Int64} (d : decode cc pc = .ok (.invokevirtual idx, 3)) (hY : mYV y b maxL ret' n) (hL : Cond.methodLink own idx y ∈ mtbl) (hrec : ∃ fs, M a = some (.inr (ci, fs))) (hcl : ∃ (T : u_T) (N : Nat), mcl[ci]? = some (y.cls, T, N)) (hci : ci < 14) (hn : As.length = n) (hst : As.reverse ++ .ref a :: rest = st) (hR : fr + 1 ≤ rm.frames ∧ 8 + (maxL + 11) + lo ≤ rm.locals) (a1 : z0 ≤ sz) (a2 : s0 ≤ sl) (b1 : sz ≤ z1) (b2 : sl ≤ k1) (c1 : z1 - z0 ≤ rm.cells) (c2 : k1 - s0 ≤ rm.slots) (h8 : (rest.map fun v => v.category).sum ≤ 8) (hc : ∀ l D A, mMetL l D G A y b maxL ret' fr lo (z1 - sz) (k1 - sl) (.ref a :: As) M sz r M' z1) (kk : WW x (z1, z1 - z0, k1 - s0) M' (pc + 3) lv (.long r :: rest)) : WW x (sz, sz - z0, sl - s0) M pc lv st := by
  refine ww_callVL (z := (sz, sz - z0, sl - s0)) pc X d hY hL hrec hcl hci hn hst hR ⟨by show sz - z0 + (z1 - sz) ≤ _; omega, by show sl - s0 + (k1 - sl) ≤ _; omega⟩ h8 hc ?_
  show WW x (z1, sz - z0 + (z1 - sz), sl - s0 + (k1 - sl)) M' _ _ _
  rw [show sz - z0 + (z1 - sz) = z1 - z0 by omega, show sl - s0 + (k1 - sl) = k1 - s0 by omega]
  exact kk
theorem ww_callVVz (pc : Nat) (X : mCX G own cc nL ret nm rm x) (d : decode cc pc = .ok (.invokevirtual idx, 3)) (hY : mYV y b maxL ret' n) (hL : Cond.methodLink own idx y ∈ mtbl) (hrec : ∃ fs, M a = some (.inr (ci, fs))) (hcl : ∃ (T : u_T) (N : Nat), mcl[ci]? = some (y.cls, T, N)) (hci : ci < 14) (hn : As.length = n) (hst : As.reverse ++ .ref a :: rest = st) (hR : fr + 1 ≤ rm.frames ∧ 8 + (maxL + 11) + lo ≤ rm.locals) (c1 : sz - z0 ≤ rm.cells) (c2 : sl - s0 ≤ rm.slots) (h8 : (rest.map fun v => v.category).sum ≤ 8) (hc : ∀ l D A, mMetV l D G A y b maxL ret' fr lo 0 0 (.ref a :: As) M sz M' sz) (kk : WW x (sz, sz - z0, sl - s0) M' (pc + 3) lv (rest)) : WW x (sz, sz - z0, sl - s0) M pc lv st := ww_callVV pc X d hY hL hrec hcl hci hn hst hR ⟨c1, c2⟩ h8 hc kk
theorem ww_callVVa {z1 k1 : Nat} (pc : Nat) (X : mCX G own cc nL ret nm rm x) (d : decode cc pc = .ok (.invokevirtual idx, 3)) (hY : mYV y b maxL ret' n) (hL : Cond.methodLink own idx y ∈ mtbl) (hrec : ∃ fs, M a = some (.inr (ci, fs))) (hcl : ∃ (T : u_T) (N : Nat), mcl[ci]? = some (y.cls, T, N)) (hci : ci < 14) (hn : As.length = n) (hst : As.reverse ++ .ref a :: rest = st) (hR : fr + 1 ≤ rm.frames ∧ 8 + (maxL + 11) + lo ≤ rm.locals) (a1 : z0 ≤ sz) (a2 : s0 ≤ sl) (b1 : sz ≤ z1) (b2 : sl ≤ k1) (c1 : z1 - z0 ≤ rm.cells) (c2 : k1 - s0 ≤ rm.slots) (h8 : (rest.map fun v => v.category).sum ≤ 8) (hc : ∀ l D A, mMetV l D G A y b maxL ret' fr lo (z1 - sz) (k1 - sl) (.ref a :: As) M sz M' z1) (kk : WW x (z1, z1 - z0, k1 - s0) M' (pc + 3) lv (rest)) : WW x (sz, sz - z0, sl - s0) M pc lv st := by
  refine ww_callVV (z := (sz, sz - z0, sl - s0)) pc X d hY hL hrec hcl hci hn hst hR ⟨by show sz - z0 + (z1 - sz) ≤ _; omega, by show sl - s0 + (k1 - sl) ≤ _; omega⟩ h8 hc ?_
  show WW x (z1, sz - z0 + (z1 - sz), sl - s0 + (k1 - sl)) M' _ _ _
  rw [show sz - z0 + (z1 - sz) = z1 - z0 by omega, show sl - s0 + (k1 - sl) = k1 - s0 by omega]
  exact kk
theorem ww_callSIz (pc : Nat) (X : mCX G own cc nL ret nm rm x) {r : Int32} (d : decode cc pc = .ok (.invokestatic idx, 3)) (hY : mYS y b maxL ret' n) (hL : Cond.methodLink own idx y ∈ mtbl) (hn : As.length = n) (hst : As.reverse ++ rest = st) (hR : fr + 1 ≤ rm.frames ∧ 8 + (maxL + 11) + lo ≤ rm.locals) (c1 : sz - z0 ≤ rm.cells) (c2 : sl - s0 ≤ rm.slots) (h8 : (rest.map fun v => v.category).sum ≤ 8) (hc : ∀ l D A, mMetI l D G A y b maxL ret' fr lo 0 0 As M sz r M' sz) (kk : WW x (sz, sz - z0, sl - s0) M' (pc + 3) lv (.int r :: rest)) : WW x (sz, sz - z0, sl - s0) M pc lv st := ww_callSI pc X d hY hL hn hst hR ⟨c1, c2⟩ h8 hc kk
theorem ww_callSIa {z1 k1 : Nat} (pc : Nat) (X : mCX G own cc nL ret nm rm x) {r : Int32} (d : decode cc pc = .ok (.invokestatic idx, 3)) (hY : mYS y b maxL ret' n) (hL : Cond.methodLink own idx y ∈ mtbl) (hn : As.length = n) (hst : As.reverse ++ rest = st) (hR : fr + 1 ≤ rm.frames ∧ 8 + (maxL + 11) + lo ≤ rm.locals) (a1 : z0 ≤ sz) (a2 : s0 ≤ sl) (b1 : sz ≤ z1) (b2 : sl ≤ k1) (c1 : z1 - z0 ≤ rm.cells) (c2 : k1 - s0 ≤ rm.slots) (h8 : (rest.map fun v => v.category).sum ≤ 8) (hc : ∀ l D A, mMetI l D G A y b maxL ret' fr lo (z1 - sz) (k1 - sl) As M sz r M' z1) (kk : WW x (z1, z1 - z0, k1 - s0) M' (pc + 3) lv (.int r :: rest)) : WW x (sz, sz - z0, sl - s0) M pc lv st := by
  refine ww_callSI (z := (sz, sz - z0, sl - s0)) pc X d hY hL hn hst hR ⟨by show sz - z0 + (z1 - sz) ≤ _; omega, by show sl - s0 + (k1 - sl) ≤ _; omega⟩ h8 hc ?_
  show WW x (z1, sz - z0 + (z1 - sz), sl - s0 + (k1 - sl)) M' _ _ _
  rw [show sz - z0 + (z1 - sz) = z1 - z0 by omega, show sl - s0 + (k1 - sl) = k1 - s0 by omega]
  exact kk
theorem ww_callSINz (pc : Nat) (X : mCX G own cc nL ret nm rm x) {r : Int32} (d : decode cc pc = .ok (.invokestatic idx, 3)) (hY : mYS y b maxL ret' n) (hL : ∃ host : String, (own, idx, y, host) ∈ mnM) (hn : As.length = n) (hst : As.reverse ++ rest = st) (hR : fr + 1 ≤ rm.frames ∧ 8 + (maxL + 11) + lo ≤ rm.locals) (c1 : sz - z0 ≤ rm.cells) (c2 : sl - s0 ≤ rm.slots) (h8 : (rest.map fun v => v.category).sum ≤ 8) (hc : ∀ l D A, mMetI l D G A y b maxL ret' fr lo 0 0 As M sz r M' sz) (kk : WW x (sz, sz - z0, sl - s0) M' (pc + 3) lv (.int r :: rest)) : WW x (sz, sz - z0, sl - s0) M pc lv st := ww_callSIN pc X d hY hL hn hst hR ⟨c1, c2⟩ h8 hc kk
theorem ww_callSINa {z1 k1 : Nat} (pc : Nat) (X : mCX G own cc nL ret nm rm x) {r : Int32} (d : decode cc pc = .ok (.invokestatic idx, 3)) (hY : mYS y b maxL ret' n) (hL : ∃ host : String, (own, idx, y, host) ∈ mnM) (hn : As.length = n) (hst : As.reverse ++ rest = st) (hR : fr + 1 ≤ rm.frames ∧ 8 + (maxL + 11) + lo ≤ rm.locals) (a1 : z0 ≤ sz) (a2 : s0 ≤ sl) (b1 : sz ≤ z1) (b2 : sl ≤ k1) (c1 : z1 - z0 ≤ rm.cells) (c2 : k1 - s0 ≤ rm.slots) (h8 : (rest.map fun v => v.category).sum ≤ 8) (hc : ∀ l D A, mMetI l D G A y b maxL ret' fr lo (z1 - sz) (k1 - sl) As M sz r M' z1) (kk : WW x (z1, z1 - z0, k1 - s0) M' (pc + 3) lv (.int r :: rest)) : WW x (sz, sz - z0, sl - s0) M pc lv st := by
  refine ww_callSIN (z := (sz, sz - z0, sl - s0)) pc X d hY hL hn hst hR ⟨by show sz - z0 + (z1 - sz) ≤ _; omega, by show sl - s0 + (k1 - sl) ≤ _; omega⟩ h8 hc ?_
  show WW x (z1, sz - z0 + (z1 - sz), sl - s0 + (k1 - sl)) M' _ _ _
  rw [show sz - z0 + (z1 - sz) = z1 - z0 by omega, show sl - s0 + (k1 - sl) = k1 - s0 by omega]
  exact kk
theorem ww_callSLz (pc : Nat) (X : mCX G own cc nL ret nm rm x) {r : Int64} (d : decode cc pc = .ok (.invokestatic idx, 3)) (hY : mYS y b maxL ret' n) (hL : Cond.methodLink own idx y ∈ mtbl) (hn : As.length = n) (hst : As.reverse ++ rest = st) (hR : fr + 1 ≤ rm.frames ∧ 8 + (maxL + 11) + lo ≤ rm.locals) (c1 : sz - z0 ≤ rm.cells) (c2 : sl - s0 ≤ rm.slots) (h8 : (rest.map fun v => v.category).sum ≤ 8) (hc : ∀ l D A, mMetL l D G A y b maxL ret' fr lo 0 0 As M sz r M' sz) (kk : WW x (sz, sz - z0, sl - s0) M' (pc + 3) lv (.long r :: rest)) : WW x (sz, sz - z0, sl - s0) M pc lv st := ww_callSL pc X d hY hL hn hst hR ⟨c1, c2⟩ h8 hc kk
theorem ww_callSLa {z1 k1 : Nat} (pc : Nat) (X : mCX G own cc nL ret nm rm x) {r : Int64} (d : decode cc pc = .ok (.invokestatic idx, 3)) (hY : mYS y b maxL ret' n) (hL : Cond.methodLink own idx y ∈ mtbl) (hn : As.length = n) (hst : As.reverse ++ rest = st) (hR : fr + 1 ≤ rm.frames ∧ 8 + (maxL + 11) + lo ≤ rm.locals) (a1 : z0 ≤ sz) (a2 : s0 ≤ sl) (b1 : sz ≤ z1) (b2 : sl ≤ k1) (c1 : z1 - z0 ≤ rm.cells) (c2 : k1 - s0 ≤ rm.slots) (h8 : (rest.map fun v => v.category).sum ≤ 8) (hc : ∀ l D A, mMetL l D G A y b maxL ret' fr lo (z1 - sz) (k1 - sl) As M sz r M' z1) (kk : WW x (z1, z1 - z0, k1 - s0) M' (pc + 3) lv (.long r :: rest)) : WW x (sz, sz - z0, sl - s0) M pc lv st := by
  refine ww_callSL (z := (sz, sz - z0, sl - s0)) pc X d hY hL hn hst hR ⟨by show sz - z0 + (z1 - sz) ≤ _; omega, by show sl - s0 + (k1 - sl) ≤ _; omega⟩ h8 hc ?_
  show WW x (z1, sz - z0 + (z1 - sz), sl - s0 + (k1 - sl)) M' _ _ _
  rw [show sz - z0 + (z1 - sz) = z1 - z0 by omega, show sl - s0 + (k1 - sl) = k1 - s0 by omega]
  exact kk
theorem ww_callSLNz (pc : Nat) (X : mCX G own cc nL ret nm rm x) {r : Int64} (d : decode cc pc = .ok (.invokestatic idx, 3)) (hY : mYS y b maxL ret' n) (hL : ∃ host : String, (own, idx, y, host) ∈ mnM) (hn : As.length = n) (hst : As.reverse ++ rest = st) (hR : fr + 1 ≤ rm.frames ∧ 8 + (maxL + 11) + lo ≤ rm.locals) (c1 : sz - z0 ≤ rm.cells) (c2 : sl - s0 ≤ rm.slots) (h8 : (rest.map fun v => v.category).sum ≤ 8) (hc : ∀ l D A, mMetL l D G A y b maxL ret' fr lo 0 0 As M sz r M' sz) (kk : WW x (sz, sz - z0, sl - s0) M' (pc + 3) lv (.long r :: rest)) : WW x (sz, sz - z0, sl - s0) M pc lv st := ww_callSLN pc X d hY hL hn hst hR ⟨c1, c2⟩ h8 hc kk
theorem ww_callSLNa {z1 k1 : Nat} (pc : Nat) (X : mCX G own cc nL ret nm rm x) {r : Int64} (d : decode cc pc = .ok (.invokestatic idx, 3)) (hY : mYS y b maxL ret' n) (hL : ∃ host : String, (own, idx, y, host) ∈ mnM) (hn : As.length = n) (hst : As.reverse ++ rest = st) (hR : fr + 1 ≤ rm.frames ∧ 8 + (maxL + 11) + lo ≤ rm.locals) (a1 : z0 ≤ sz) (a2 : s0 ≤ sl) (b1 : sz ≤ z1) (b2 : sl ≤ k1) (c1 : z1 - z0 ≤ rm.cells) (c2 : k1 - s0 ≤ rm.slots) (h8 : (rest.map fun v => v.category).sum ≤ 8) (hc : ∀ l D A, mMetL l D G A y b maxL ret' fr lo (z1 - sz) (k1 - sl) As M sz r M' z1) (kk : WW x (z1, z1 - z0, k1 - s0) M' (pc + 3) lv (.long r :: rest)) : WW x (sz, sz - z0, sl - s0) M pc lv st := by
  refine ww_callSLN (z := (sz, sz - z0, sl - s0)) pc X d hY hL hn hst hR ⟨by show sz - z0 + (z1 - sz) ≤ _; omega, by show sl - s0 + (k1 - sl) ≤ _; omega⟩ h8 hc ?_
  show WW x (z1, sz - z0 + (z1 - sz), sl - s0 + (k1 - sl)) M' _ _ _
  rw [show sz - z0 + (z1 - sz) = z1 - z0 by omega, show sl - s0 + (k1 - sl) = k1 - s0 by omega]
  exact kk
theorem ww_callSVz (pc : Nat) (X : mCX G own cc nL ret nm rm x) (d : decode cc pc = .ok (.invokestatic idx, 3)) (hY : mYS y b maxL ret' n) (hL : Cond.methodLink own idx y ∈ mtbl) (hn : As.length = n) (hst : As.reverse ++ rest = st) (hR : fr + 1 ≤ rm.frames ∧ 8 + (maxL + 11) + lo ≤ rm.locals) (c1 : sz - z0 ≤ rm.cells) (c2 : sl - s0 ≤ rm.slots) (h8 : (rest.map fun v => v.category).sum ≤ 8) (hc : ∀ l D A, mMetV l D G A y b maxL ret' fr lo 0 0 As M sz M' sz) (kk : WW x (sz, sz - z0, sl - s0) M' (pc + 3) lv (rest)) : WW x (sz, sz - z0, sl - s0) M pc lv st := ww_callSV pc X d hY hL hn hst hR ⟨c1, c2⟩ h8 hc kk
theorem ww_callSVa {z1 k1 : Nat} (pc : Nat) (X : mCX G own cc nL ret nm rm x) (d : decode cc pc = .ok (.invokestatic idx, 3)) (hY : mYS y b maxL ret' n) (hL : Cond.methodLink own idx y ∈ mtbl) (hn : As.length = n) (hst : As.reverse ++ rest = st) (hR : fr + 1 ≤ rm.frames ∧ 8 + (maxL + 11) + lo ≤ rm.locals) (a1 : z0 ≤ sz) (a2 : s0 ≤ sl) (b1 : sz ≤ z1) (b2 : sl ≤ k1) (c1 : z1 - z0 ≤ rm.cells) (c2 : k1 - s0 ≤ rm.slots) (h8 : (rest.map fun v => v.category).sum ≤ 8) (hc : ∀ l D A, mMetV l D G A y b maxL ret' fr lo (z1 - sz) (k1 - sl) As M sz M' z1) (kk : WW x (z1, z1 - z0, k1 - s0) M' (pc + 3) lv (rest)) : WW x (sz, sz - z0, sl - s0) M pc lv st := by
  refine ww_callSV (z := (sz, sz - z0, sl - s0)) pc X d hY hL hn hst hR ⟨by show sz - z0 + (z1 - sz) ≤ _; omega, by show sl - s0 + (k1 - sl) ≤ _; omega⟩ h8 hc ?_
  show WW x (z1, sz - z0 + (z1 - sz), sl - s0 + (k1 - sl)) M' _ _ _
  rw [show sz - z0 + (z1 - sz) = z1 - z0 by omega, show sl - s0 + (k1 - sl) = k1 - s0 by omega]
  exact kk
theorem ww_callSVNz (pc : Nat) (X : mCX G own cc nL ret nm rm x) (d : decode cc pc = .ok (.invokestatic idx, 3)) (hY : mYS y b maxL ret' n) (hL : ∃ host : String, (own, idx, y, host) ∈ mnM) (hn : As.length = n) (hst : As.reverse ++ rest = st) (hR : fr + 1 ≤ rm.frames ∧ 8 + (maxL + 11) + lo ≤ rm.locals) (c1 : sz - z0 ≤ rm.cells) (c2 : sl - s0 ≤ rm.slots) (h8 : (rest.map fun v => v.category).sum ≤ 8) (hc : ∀ l D A, mMetV l D G A y b maxL ret' fr lo 0 0 As M sz M' sz) (kk : WW x (sz, sz - z0, sl - s0) M' (pc + 3) lv (rest)) : WW x (sz, sz - z0, sl - s0) M pc lv st := ww_callSVN pc X d hY hL hn hst hR ⟨c1, c2⟩ h8 hc kk
theorem ww_callSVNa {z1 k1 : Nat} (pc : Nat) (X : mCX G own cc nL ret nm rm x) (d : decode cc pc = .ok (.invokestatic idx, 3)) (hY : mYS y b maxL ret' n) (hL : ∃ host : String, (own, idx, y, host) ∈ mnM) (hn : As.length = n) (hst : As.reverse ++ rest = st) (hR : fr + 1 ≤ rm.frames ∧ 8 + (maxL + 11) + lo ≤ rm.locals) (a1 : z0 ≤ sz) (a2 : s0 ≤ sl) (b1 : sz ≤ z1) (b2 : sl ≤ k1) (c1 : z1 - z0 ≤ rm.cells) (c2 : k1 - s0 ≤ rm.slots) (h8 : (rest.map fun v => v.category).sum ≤ 8) (hc : ∀ l D A, mMetV l D G A y b maxL ret' fr lo (z1 - sz) (k1 - sl) As M sz M' z1) (kk : WW x (z1, z1 - z0, k1 - s0) M' (pc + 3) lv (rest)) : WW x (sz, sz - z0, sl - s0) M pc lv st := by
  refine ww_callSVN (z := (sz, sz - z0, sl - s0)) pc X d hY hL hn hst hR ⟨by show sz - z0 + (z1 - sz) ≤ _; omega, by show sl - s0 + (k1 - sl) ≤ _; omega⟩ h8 hc ?_
  show WW x (z1, sz - z0 + (z1 - sz), sl - s0 + (k1 - sl)) M' _ _ _
  rw [show sz - z0 + (z1 - sz) = z1 - z0 by omega, show sl - s0 + (k1 - sl) = k1 - s0 by omega]
  exact kk
theorem ww_callSRz (pc : Nat) (X : mCX G own cc nL ret nm rm x) {r : Nat} (d : decode cc pc = .ok (.invokestatic idx, 3)) (hY : mYS y b maxL ret' n) (hL : Cond.methodLink own idx y ∈ mtbl) (hn : As.length = n) (hst : As.reverse ++ rest = st) (hR : fr + 1 ≤ rm.frames ∧ 8 + (maxL + 11) + lo ≤ rm.locals) (c1 : sz - z0 ≤ rm.cells) (c2 : sl - s0 ≤ rm.slots) (h8 : (rest.map fun v => v.category).sum ≤ 8) (hc : ∀ l D A, mMetR l D G A y b maxL ret' fr lo 0 0 As M sz r M' sz) (kk : WW x (sz, sz - z0, sl - s0) M' (pc + 3) lv (.ref r :: rest)) : WW x (sz, sz - z0, sl - s0) M pc lv st := ww_callSR pc X d hY hL hn hst hR ⟨c1, c2⟩ h8 hc kk
theorem ww_callSRa {z1 k1 : Nat} (pc : Nat) (X : mCX G own cc nL ret nm rm x) {r : Nat} (d : decode cc pc = .ok (.invokestatic idx, 3)) (hY : mYS y b maxL ret' n) (hL : Cond.methodLink own idx y ∈ mtbl) (hn : As.length = n) (hst : As.reverse ++ rest = st) (hR : fr + 1 ≤ rm.frames ∧ 8 + (maxL + 11) + lo ≤ rm.locals) (a1 : z0 ≤ sz) (a2 : s0 ≤ sl) (b1 : sz ≤ z1) (b2 : sl ≤ k1) (c1 : z1 - z0 ≤ rm.cells) (c2 : k1 - s0 ≤ rm.slots) (h8 : (rest.map fun v => v.category).sum ≤ 8) (hc : ∀ l D A, mMetR l D G A y b maxL ret' fr lo (z1 - sz) (k1 - sl) As M sz r M' z1) (kk : WW x (z1, z1 - z0, k1 - s0) M' (pc + 3) lv (.ref r :: rest)) : WW x (sz, sz - z0, sl - s0) M pc lv st := by
  refine ww_callSR (z := (sz, sz - z0, sl - s0)) pc X d hY hL hn hst hR ⟨by show sz - z0 + (z1 - sz) ≤ _; omega, by show sl - s0 + (k1 - sl) ≤ _; omega⟩ h8 hc ?_
  show WW x (z1, sz - z0 + (z1 - sz), sl - s0 + (k1 - sl)) M' _ _ _
  rw [show sz - z0 + (z1 - sz) = z1 - z0 by omega, show sl - s0 + (k1 - sl) = k1 - s0 by omega]
  exact kk
theorem ww_callSRNz (pc : Nat) (X : mCX G own cc nL ret nm rm x) {r : Nat} (d : decode cc pc = .ok (.invokestatic idx, 3)) (hY : mYS y b maxL ret' n) (hL : ∃ host : String, (own, idx, y, host) ∈ mnM) (hn : As.length = n) (hst : As.reverse ++ rest = st) (hR : fr + 1 ≤ rm.frames ∧ 8 + (maxL + 11) + lo ≤ rm.locals) (c1 : sz - z0 ≤ rm.cells) (c2 : sl - s0 ≤ rm.slots) (h8 : (rest.map fun v => v.category).sum ≤ 8) (hc : ∀ l D A, mMetR l D G A y b maxL ret' fr lo 0 0 As M sz r M' sz) (kk : WW x (sz, sz - z0, sl - s0) M' (pc + 3) lv (.ref r :: rest)) : WW x (sz, sz - z0, sl - s0) M pc lv st := ww_callSRN pc X d hY hL hn hst hR ⟨c1, c2⟩ h8 hc kk
theorem ww_callSRNa {z1 k1 : Nat} (pc : Nat) (X : mCX G own cc nL ret nm rm x) {r : Nat} (d : decode cc pc = .ok (.invokestatic idx, 3)) (hY : mYS y b maxL ret' n) (hL : ∃ host : String, (own, idx, y, host) ∈ mnM) (hn : As.length = n) (hst : As.reverse ++ rest = st) (hR : fr + 1 ≤ rm.frames ∧ 8 + (maxL + 11) + lo ≤ rm.locals) (a1 : z0 ≤ sz) (a2 : s0 ≤ sl) (b1 : sz ≤ z1) (b2 : sl ≤ k1) (c1 : z1 - z0 ≤ rm.cells) (c2 : k1 - s0 ≤ rm.slots) (h8 : (rest.map fun v => v.category).sum ≤ 8) (hc : ∀ l D A, mMetR l D G A y b maxL ret' fr lo (z1 - sz) (k1 - sl) As M sz r M' z1) (kk : WW x (z1, z1 - z0, k1 - s0) M' (pc + 3) lv (.ref r :: rest)) : WW x (sz, sz - z0, sl - s0) M pc lv st := by
  refine ww_callSRN (z := (sz, sz - z0, sl - s0)) pc X d hY hL hn hst hR ⟨by show sz - z0 + (z1 - sz) ≤ _; omega, by show sl - s0 + (k1 - sl) ≤ _; omega⟩ h8 hc ?_
  show WW x (z1, sz - z0 + (z1 - sz), sl - s0 + (k1 - sl)) M' _ _ _
  rw [show sz - z0 + (z1 - sz) = z1 - z0 by omega, show sl - s0 + (k1 - sl) = k1 - s0 by omega]
  exact kk
theorem ww_callIVz (pc : Nat) (X : mCX G own cc nL ret nm rm x) (d : decode cc pc = .ok (.invokespecial idx, 3)) (hY : mYI y b maxL ret' n) (hL : Cond.methodLink own idx y ∈ mtbl) (hn : As.length = n) (hst : As.reverse ++ .ref a :: rest = st) (hR : fr + 1 ≤ rm.frames ∧ 8 + (maxL + 11) + lo ≤ rm.locals) (c1 : sz - z0 ≤ rm.cells) (c2 : sl - s0 ≤ rm.slots) (h8 : (rest.map fun v => v.category).sum ≤ 8) (hc : ∀ l D A, mMetV l D G A y b maxL ret' fr lo 0 0 (.ref a :: As) M sz M' sz) (kk : WW x (sz, sz - z0, sl - s0) M' (pc + 3) lv (rest)) : WW x (sz, sz - z0, sl - s0) M pc lv st := ww_callIV pc X d hY hL hn hst hR ⟨c1, c2⟩ h8 hc kk
theorem ww_callIVa {z1 k1 : Nat} (pc : Nat) (X : mCX G own cc nL ret nm rm x) (d : decode cc pc = .ok (.invokespecial idx, 3)) (hY : mYI y b maxL ret' n) (hL : Cond.methodLink own idx y ∈ mtbl) (hn : As.length = n) (hst : As.reverse ++ .ref a :: rest = st) (hR : fr + 1 ≤ rm.frames ∧ 8 + (maxL + 11) + lo ≤ rm.locals) (a1 : z0 ≤ sz) (a2 : s0 ≤ sl) (b1 : sz ≤ z1) (b2 : sl ≤ k1) (c1 : z1 - z0 ≤ rm.cells) (c2 : k1 - s0 ≤ rm.slots) (h8 : (rest.map fun v => v.category).sum ≤ 8) (hc : ∀ l D A, mMetV l D G A y b maxL ret' fr lo (z1 - sz) (k1 - sl) (.ref a :: As) M sz M' z1) (kk : WW x (z1, z1 - z0, k1 - s0) M' (pc + 3) lv (rest)) : WW x (sz, sz - z0, sl - s0) M pc lv st := by
  refine ww_callIV (z := (sz, sz - z0, sl - s0)) pc X d hY hL hn hst hR ⟨by show sz - z0 + (z1 - sz) ≤ _; omega, by show sl - s0 + (k1 - sl) ≤ _; omega⟩ h8 hc ?_
  show WW x (z1, sz - z0 + (z1 - sz), sl - s0 + (k1 - sl)) M' _ _ _
  rw [show sz - z0 + (z1 - sz) = z1 - z0 by omega, show sl - s0 + (k1 - sl) = k1 - s0 by omega]
  exact kk
theorem ww_callIVNz (pc : Nat) (X : mCX G own cc nL ret nm rm x) (d : decode cc pc = .ok (.invokespecial idx, 3)) (hY : mYI y b maxL ret' n) (hL : ∃ host : String, (own, idx, y, host) ∈ mnM) (hn : As.length = n) (hst : As.reverse ++ .ref a :: rest = st) (hR : fr + 1 ≤ rm.frames ∧ 8 + (maxL + 11) + lo ≤ rm.locals) (c1 : sz - z0 ≤ rm.cells) (c2 : sl - s0 ≤ rm.slots) (h8 : (rest.map fun v => v.category).sum ≤ 8) (hc : ∀ l D A, mMetV l D G A y b maxL ret' fr lo 0 0 (.ref a :: As) M sz M' sz) (kk : WW x (sz, sz - z0, sl - s0) M' (pc + 3) lv (rest)) : WW x (sz, sz - z0, sl - s0) M pc lv st := ww_callIVN pc X d hY hL hn hst hR ⟨c1, c2⟩ h8 hc kk
theorem ww_callIVNa {z1 k1 : Nat} (pc : Nat) (X : mCX G own cc nL ret nm rm x) (d : decode cc pc = .ok (.invokespecial idx, 3)) (hY : mYI y b maxL ret' n) (hL : ∃ host : String, (own, idx, y, host) ∈ mnM) (hn : As.length = n) (hst : As.reverse ++ .ref a :: rest = st) (hR : fr + 1 ≤ rm.frames ∧ 8 + (maxL + 11) + lo ≤ rm.locals) (a1 : z0 ≤ sz) (a2 : s0 ≤ sl) (b1 : sz ≤ z1) (b2 : sl ≤ k1) (c1 : z1 - z0 ≤ rm.cells) (c2 : k1 - s0 ≤ rm.slots) (h8 : (rest.map fun v => v.category).sum ≤ 8) (hc : ∀ l D A, mMetV l D G A y b maxL ret' fr lo (z1 - sz) (k1 - sl) (.ref a :: As) M sz M' z1) (kk : WW x (z1, z1 - z0, k1 - s0) M' (pc + 3) lv (rest)) : WW x (sz, sz - z0, sl - s0) M pc lv st := by
  refine ww_callIVN (z := (sz, sz - z0, sl - s0)) pc X d hY hL hn hst hR ⟨by show sz - z0 + (z1 - sz) ≤ _; omega, by show sl - s0 + (k1 - sl) ≤ _; omega⟩ h8 hc ?_
  show WW x (z1, sz - z0 + (z1 - sz), sl - s0 + (k1 - sl)) M' _ _ _
  rw [show sz - z0 + (z1 - sz) = z1 - z0 by omega, show sl - s0 + (k1 - sl) = k1 - s0 by omega]
  exact kk
theorem ww_callVIsz (pc : Nat) (X : mCX G own cc nL ret nm rm x) {r : Int32} (d : decode cc pc = .ok (.invokevirtual idx, 3)) (hY : mYV y b maxL ret' n) (hL : Cond.methodLink own idx y ∈ mtbl) (hrec : ∃ fs, G.2.1 a = some fs) (hcl : y.cls = "java/lang/String") (hn : As.length = n) (hst : As.reverse ++ .ref a :: rest = st) (hR : fr + 1 ≤ rm.frames ∧ 8 + (maxL + 11) + lo ≤ rm.locals) (c1 : sz - z0 ≤ rm.cells) (c2 : sl - s0 ≤ rm.slots) (h8 : (rest.map fun v => v.category).sum ≤ 8) (hc : ∀ l D A, mMetI l D G A y b maxL ret' fr lo 0 0 (.ref a :: As) M sz r M' sz) (kk : WW x (sz, sz - z0, sl - s0) M' (pc + 3) lv (.int r :: rest)) : WW x (sz, sz - z0, sl - s0) M pc lv st := by
  obtain ⟨D, G', A, p, l, e, R, s, m, args, below, meth, c, Q⟩ := x
  obtain ⟨hG, hrm, hx, hb, hml, hr, hlk, hnm, hown, hts, hK, hA, hE⟩ := X
  subst hG
  subst hrm
  subst hst
  obtain ⟨hcode, hin, hsel, hini, h1, h2, h3⟩ := hY
  have cw : CallW R s args own y.cls idx y b maxL ret' (mws y b maxL ret') { frames := fr, cells := 0, slots := 0, locals := lo } 0 0 n := ⟨callB_of n hts (mgoodY hcode) rfl rfl rfl (hts _ hini) (hts _ hL) ⟨h1, h2, h3⟩ hR, hts _ hin, hts _ hsel⟩
  intro H locs la hz hl hM hS
  obtain ⟨fs, hfs⟩ := hrec
  obtain ⟨⟨cell, g1, g2, g3, -⟩, -⟩ := (hE.2.2.2.2.2.2.2.2.2.1 a _ hfs).kept hS.2.1
  refine va_calli (va_runV (As := As) (rest := rest) ⟨hx, hb, hml, hown, hts⟩ (hc l D A) cw ⟨fun a U g mk q => ⟨q.1, q.2.calling g mk a⟩, ⟨cell, g1, g2, by rw [hcl]; exact g3⟩, fun U hU hW => ⟨rfl, mPre_of hU hW hz hM hK hA hE hS⟩⟩ rfl hn (hl.1.trans hml) rfl (lv_room h8) d ⟨c1, c2⟩) hS (fun q _ h => h) (fun q h => h) (fun r' u t H1 locs1 ht hvm hw hB hz1 hk1 hS1 => ?_)
  subst hw
  have hB2 := hB.2
  rw [ht] at hB2
  exact kk H1 locs1 la (by rw [← ht]; exact hB.1) hl hB2 hS1
theorem ww_vretA {M0 : mM} {Z0 S0 : Nat} (pc : Nat) (X : mCX G own cc nL none nm rm x) (hQ : mQV x M0 (Z0, Z0 - z0, S0 - s0)) (d : decode cc pc = .ok (.return_, 1)) (h : (some (M, sz, sl) : Option (mM × Nat × Nat)) = some (M0, Z0, S0)) : WW x (sz, sz - z0, sl - s0) M pc lv [] := by
  cases h
  exact ww_vret pc X hQ d
theorem ww_iretA {r r0 : Int32} {M0 : mM} {Z0 S0 : Nat} (pc : Nat) (X : mCX G own cc nL (some .int) nm rm x) (hQ : mQI x r0 M0 (Z0, Z0 - z0, S0 - s0)) (d : decode cc pc = .ok (.ireturn, 1)) (h : (some (r, M, sz, sl) : Option (Int32 × mM × Nat × Nat)) = some (r0, M0, Z0, S0)) : WW x (sz, sz - z0, sl - s0) M pc lv [.int r] := by
  cases h
  exact ww_iret pc X hQ d
theorem ww_zretA {r r0 : Int32} {M0 : mM} {Z0 S0 : Nat} (pc : Nat) (X : mCX G own cc nL (some .boolean) nm rm x) (hQ : mQI x r0 M0 (Z0, Z0 - z0, S0 - s0)) (d : decode cc pc = .ok (.ireturn, 1)) (h : retZA r M sz sl = some (r0, M0, Z0, S0)) : WW x (sz, sz - z0, sl - s0) M pc lv [.int r] := by
  unfold retZA at h
  split at h
  · rename_i hv
    cases h
    exact ww_zret pc X hQ hv d
  · cases h
theorem ww_aretA {r r0 : Nat} {M0 : mM} {Z0 S0 : Nat} {C : String} (pc : Nat) (X : mCX G own cc nL (some (.object C)) nm rm x) (hQ : mQR x r0 M0 (Z0, Z0 - z0, S0 - s0)) (d : decode cc pc = .ok (.areturn, 1)) (h : (some (r, M, sz, sl) : Option (Nat × mM × Nat × Nat)) = some (r0, M0, Z0, S0)) : WW x (sz, sz - z0, sl - s0) M pc lv [.ref r] := by
  cases h
  exact ww_aret pc X hQ d
theorem ww_null (pc : Nat) (X : mCX G own cc nL ret nm rm x) (d : decode cc pc = .ok (.aconst_null, 1)) (k : WW x z M (pc + 1) lv (.null :: st)) : WW x z M pc lv st := by
  obtain ⟨D, G', A, p, l, e, R, s, m, args, below, meth, c, Q⟩ := x
  obtain ⟨hG, hrm, hx, hb, hml, hr, hlk, hnm, hown, hts, hK, hA, hE⟩ := X
  intro H locs la hz hl hM hS
  exact lv_null hx hb d (k H locs la hz hl hM hS)
theorem ww_ifnullN (pc tgt : Nat) (X : mCX G own cc nL ret nm rm x) {off : Int} (d : decode cc pc = .ok (.ifnull off, 3)) (ht : (pc : Int) + off = (tgt : Int)) (k : WW x z M tgt lv st) : WW x z M pc lv (.null :: st) := by
  obtain ⟨D, G', A, p, l, e, R, s, m, args, below, meth, c, Q⟩ := x
  obtain ⟨hG, hrm, hx, hb, hml, hr, hlk, hnm, hown, hts, hK, hA, hE⟩ := X
  intro H locs la hz hl hM hS
  exact lv_ifnullN hx hb d ht (k H locs la hz hl hM hS)
theorem ww_ifnullR (pc : Nat) (X : mCX G own cc nL ret nm rm x) {off : Int} {v : Nat} (d : decode cc pc = .ok (.ifnull off, 3)) (k : WW x z M (pc + 3) lv st) : WW x z M pc lv (.ref v :: st) := by
  obtain ⟨D, G', A, p, l, e, R, s, m, args, below, meth, c, Q⟩ := x
  obtain ⟨hG, hrm, hx, hb, hml, hr, hlk, hnm, hown, hts, hK, hA, hE⟩ := X
  intro H locs la hz hl hM hS
  exact lv_ifnull hx hb d (k H locs la hz hl hM hS)
theorem ww_aload_nN (pc : Nat) (X : mCX G own cc nL ret nm rm x) {q : Fin 4} {i : Nat} (d : decode cc pc = .ok (.aload_n q, 1)) (kk : Nat) (hi : (q : Nat) = i) (h : lv[kk]? = some (i, .null)) (k : WW x z M (pc + 1) lv (.null :: st)) : WW x z M pc lv st := by
  obtain ⟨D, G', A, p, l, e, R, s, m, args, below, meth, c, Q⟩ := x
  obtain ⟨hG, hrm, hx, hb, hml, hr, hlk, hnm, hown, hts, hK, hA, hE⟩ := X
  intro H locs la hz hl hM hS
  exact lv_aload_nN hx hb d hi (lv_at hl kk h) (k H locs la hz hl hM hS)
theorem ww_aloadN (pc : Nat) (X : mCX G own cc nL ret nm rm x) {i : Nat} (d : decode cc pc = .ok (.aload i, 2)) (kk : Nat) (h : lv[kk]? = some (i, .null)) (k : WW x z M (pc + 2) lv (.null :: st)) : WW x z M pc lv st := by
  obtain ⟨D, G', A, p, l, e, R, s, m, args, below, meth, c, Q⟩ := x
  obtain ⟨hG, hrm, hx, hb, hml, hr, hlk, hnm, hown, hts, hK, hA, hE⟩ := X
  intro H locs la hz hl hM hS
  exact lv_aloadN hx hb d (lv_at hl kk h) (k H locs la hz hl hM hS)
end MREF
