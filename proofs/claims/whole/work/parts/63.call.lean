/-! calls, ends, entries -/
def mPre (D : mD) (G : mG) (A : Nat → Prop) (M : mM) (sz : Nat) (U : State) : Prop := U.heap.size = sz ∧ mHold D A M U.heap ∧ va_K D.1 mcl (mtys D) U ∧ (∀ q, U.heap.size ≤ q → A q) ∧ mEnv G A U
def mPost (D : mD) (A : Nat → Prop) (M : mM) (sz : Nat) (t : State) : Prop := t.heap.size = sz ∧ mHold D A M t.heap
def mws (y : MethodName) (b : ByteArray) (maxL : Nat) (ret : Option FieldType) : List Cond := Cond.code y b maxL ret :: mtbl
theorem mgood : GoodIn mtbl mtbl := fun w h => ⟨h, good_of_word (List.mem_filter.mp h).2⟩
theorem mgoodY {y : MethodName} {b : ByteArray} {maxL : Nat} {ret : Option FieldType} (h : Cond.code y b maxL ret ∈ mtbl) : GoodIn mtbl (mws y b maxL ret) := by
  intro w hw
  rcases List.mem_cons.mp hw with rfl | hw
  · exact mgood _ h
  · exact mgood _ hw
def mMetI (l : Launch) (D : mD) (G : mG) (A : Nat → Prop) (y : MethodName) (b : ByteArray) (maxL : Nat) (ret : Option FieldType) (fr lo mc ms : Nat) (as : List Value) (M : mM) (sz : Nat) (r : Int32) (M' : mM) (sz' : Nat) : Prop := Met l y (mws y b maxL ret) { frames := fr, cells := mc, slots := ms, locals := lo } (va_Pc as (mPre D G A M sz)) (va_Qi (fun (r' : Int32) (_ : Unit) => r' = r) (fun _ t => mPost D A M' sz' t) A) mc ms A
def mMetL (l : Launch) (D : mD) (G : mG) (A : Nat → Prop) (y : MethodName) (b : ByteArray) (maxL : Nat) (ret : Option FieldType) (fr lo mc ms : Nat) (as : List Value) (M : mM) (sz : Nat) (r : Int64) (M' : mM) (sz' : Nat) : Prop := Met l y (mws y b maxL ret) { frames := fr, cells := mc, slots := ms, locals := lo } (va_Pc as (mPre D G A M sz)) (va_Ql (fun (r' : Int64) (_ : Unit) => r' = r) (fun _ t => mPost D A M' sz' t) A) mc ms A
def mMetV (l : Launch) (D : mD) (G : mG) (A : Nat → Prop) (y : MethodName) (b : ByteArray) (maxL : Nat) (ret : Option FieldType) (fr lo mc ms : Nat) (as : List Value) (M : mM) (sz : Nat) (M' : mM) (sz' : Nat) : Prop := Met l y (mws y b maxL ret) { frames := fr, cells := mc, slots := ms, locals := lo } (va_Pc as (mPre D G A M sz)) (va_Qv (fun (_ : Unit) => True) (fun _ t => mPost D A M' sz' t) A) mc ms A
def mMetR (l : Launch) (D : mD) (G : mG) (A : Nat → Prop) (y : MethodName) (b : ByteArray) (maxL : Nat) (ret : Option FieldType) (fr lo mc ms : Nat) (as : List Value) (M : mM) (sz : Nat) (r : Nat) (M' : mM) (sz' : Nat) : Prop := Met l y (mws y b maxL ret) { frames := fr, cells := mc, slots := ms, locals := lo } (va_Pc as (mPre D G A M sz)) (va_Qr (fun (_ : Unit) => True) (fun _ a t => a = r ∧ mPost D A M' sz' t) A) mc ms A
theorem mEnv.warm {G : mG} {A : Nat → Prop} {s U : State} {H : Heap} {locs : List Loc} (hU : U.heap = H) (hW : s.WarmedH U.vm) (hS : va_S A s.heap H locs) (h : mEnv G A s) : mEnv G A U := by
  refine ⟨fun j q hq => (h.1 j q hq).warm hW, fun j q hq => ?_, fun q hq => (h.2.2.1 q hq).warmM hW, fun q hq => (h.2.2.2.1 q hq).warmF hW, h.2.2.2.2.1.moved hW.alike, h.2.2.2.2.2.1.moved hW.alike, ?_, ?_, h.2.2.2.2.2.2.2.2.1.moved hW.alike, ?_⟩
  · have h1 := va_Z.moved hW.alike (h.2.1 j q hq)
    rw [hU]
    exact h1.kept (fun a ha hn => hS.2.1 a ha hn)
  · have h1 := va_Z.moved hW.alike h.2.2.2.2.2.2.1
    rw [hU]
    exact h1.kept (fun a ha hn => hS.2.1 a ha hn)
  · have h1 := va_Zq.moved hW.alike h.2.2.2.2.2.2.2.1
    rw [hU]
    exact h1.kept (fun a ha hn => hS.2.1 a ha hn)
  · rw [hU]
    exact (h.2.2.2.2.2.2.2.2.2.moved hW.alike).kept (fun a ha hn => hS.2.1 a ha hn)
theorem mPre_of {D : mD} {G : mG} {A : Nat → Prop} {M : mM} {sz : Nat} {s U : State} {H : Heap} {locs : List Loc} (hU : U.heap = H) (hW : s.WarmedH U.vm) (hz : H.size = sz) (hM : mHold D A M H) (hK : va_K D.1 mcl (mtys D) s) (hA : ∀ q, s.heap.size ≤ q → A q) (hE : mEnv G A s) (hS : va_S A s.heap H locs) : mPre D G A M sz U := by
  refine ⟨by rw [hU]; exact hz, by rw [hU]; exact hM, va_K.moved hW.alike hK, fun q hq => ?_, hE.warm hU hW hS⟩
  rw [hU] at hq
  exact hA q (Nat.le_trans hS.1 hq)
theorem mPre.calling {D : mD} {G : mG} {A : Nat → Prop} {M : mM} {sz : Nat} {U : State} (g : JFrame) (mk : MethodId) (a : Array Value) (h : mPre D G A M sz U) : mPre D G A M sz (U.calling g mk a) := by
  obtain ⟨h1, h2, h3, h4, h5, h6, h7, h8, h9, h10, h11, h12, h13, h14⟩ := h
  exact ⟨h1, h2, va_K.moved (u := U) (U := U.calling g mk a) (Vm.Alike.refl U.vm) h3, h4, fun j q hq => vk_R.same rfl (h5 j q hq), fun j q hq => va_Z.moved (u := U) (U := U.calling g mk a) (Vm.Alike.refl U.vm) (h6 j q hq), fun q hq => va_Nw.same rfl rfl (h7 q hq), fun q hq => va_Nw.same rfl rfl (h8 q hq), va_AO.moved (u := U) (U := U.calling g mk a) (Vm.Alike.refl U.vm) h9, va_AO.moved (u := U) (U := U.calling g mk a) (Vm.Alike.refl U.vm) h10, va_Z.moved (u := U) (U := U.calling g mk a) (Vm.Alike.refl U.vm) h11, va_Zq.moved (u := U) (U := U.calling g mk a) (Vm.Alike.refl U.vm) h12, mAO.moved (u := U) (U := U.calling g mk a) (Vm.Alike.refl U.vm) h13, mRO.moved (u := U) (U := U.calling g mk a) (Vm.Alike.refl U.vm) h14⟩
/-- what the tables say of a callee -/
def mYV (y : MethodName) (b : ByteArray) (maxL : Nat) (ret : Option FieldType) (n : Nat) : Prop := Cond.code y b maxL ret ∈ mtbl ∧ Cond.instanceMethod y ∈ mtbl ∧ Cond.selects y.cls y y ∈ mtbl ∧ Cond.initialized y.cls ∈ mtbl ∧ y.cls ≠ "java/lang/invoke/MethodHandle" ∧ y.cls ≠ "java/lang/invoke/VarHandle" ∧ (parseMethodDescriptor y.desc).map (fun d => d.parameters.length) = some n
def mYS (y : MethodName) (b : ByteArray) (maxL : Nat) (ret : Option FieldType) (n : Nat) : Prop := Cond.code y b maxL ret ∈ mtbl ∧ Cond.static y ∈ mtbl ∧ Cond.initialized y.cls ∈ mtbl ∧ y.cls ≠ "java/lang/invoke/MethodHandle" ∧ y.cls ≠ "java/lang/invoke/VarHandle" ∧ (parseMethodDescriptor y.desc).map (fun d => d.parameters.length) = some n
def mYI (y : MethodName) (b : ByteArray) (maxL : Nat) (ret : Option FieldType) (n : Nat) : Prop := Cond.code y b maxL ret ∈ mtbl ∧ Cond.instanceMethod y ∈ mtbl ∧ Cond.initialized y.cls ∈ mtbl ∧ y.name = "<init>" ∧ ret = none ∧ y.cls ≠ "java/lang/invoke/MethodHandle" ∧ y.cls ≠ "java/lang/invoke/VarHandle" ∧ (parseMethodDescriptor y.desc).map (fun d => d.parameters.length) = some n
def mQI (x : mXT) (r : Int32) (M' : mM) (z' : Nat × Nat × Nat) : Prop := match x with
  | (D, _, A, _, _, _, _, s, _, args, below, _, _, Q) => Q = MQ below (va_Qi (fun (r' : Int32) (_ : Unit) => r' = r) (fun _ t => mPost D A M' z'.1 t) A) args s z'.2.1 z'.2.2 A
def mQL (x : mXT) (r : Int64) (M' : mM) (z' : Nat × Nat × Nat) : Prop := match x with
  | (D, _, A, _, _, _, _, s, _, args, below, _, _, Q) => Q = MQ below (va_Ql (fun (r' : Int64) (_ : Unit) => r' = r) (fun _ t => mPost D A M' z'.1 t) A) args s z'.2.1 z'.2.2 A
def mQV (x : mXT) (M' : mM) (z' : Nat × Nat × Nat) : Prop := match x with
  | (D, _, A, _, _, _, _, s, _, args, below, _, _, Q) => Q = MQ below (va_Qv (fun (_ : Unit) => True) (fun _ t => mPost D A M' z'.1 t) A) args s z'.2.1 z'.2.2 A
def mQR (x : mXT) (r : Nat) (M' : mM) (z' : Nat × Nat × Nat) : Prop := match x with
  | (D, _, A, _, _, _, _, s, _, args, below, _, _, Q) => Q = MQ below (va_Qr (fun (_ : Unit) => True) (fun _ a t => a = r ∧ mPost D A M' z'.1 t) A) args s z'.2.1 z'.2.2 A
section MCALL
variable {G : mG} {own : String} {cc : ByteArray} {nL : Nat} {ret : Option FieldType} {nm : String} {rm : Room} {x : mXT} {z : Nat × Nat × Nat} {M M' : mM} {lv : List (Nat × Value)} {st : List Value}
variable {idx maxL n fr lo mc ms sz' a ci : Nat} {y : MethodName} {b : ByteArray} {ret' : Option FieldType} {As rest fs : List Value}
theorem ww_callVI (pc : Nat) (X : mCX G own cc nL ret nm rm x) {r : Int32} (d : decode cc pc = .ok (.invokevirtual idx, 3)) (hY : mYV y b maxL ret' n) (hL : Cond.methodLink own idx y ∈ mtbl) (hrec : ∃ fs, M a = some (.inr (ci, fs))) (hcl : ∃ (T : u_T) (N : Nat), mcl[ci]? = some (y.cls, T, N)) (hci : ci < 14) (hn : As.length = n) (hst : As.reverse ++ .ref a :: rest = st) (hR : fr + 1 ≤ rm.frames ∧ 8 + (maxL + 11) + lo ≤ rm.locals) (hcs : z.2.1 + mc ≤ rm.cells ∧ z.2.2 + ms ≤ rm.slots) (h8 : (rest.map fun v => v.category).sum ≤ 8) (hc : ∀ l D A, mMetI l D G A y b maxL ret' fr lo mc ms (.ref a :: As) M z.1 r M' sz') (kk : WW x (sz', z.2.1 + mc, z.2.2 + ms) M' (pc + 3) lv (.int r :: rest)) : WW x z M pc lv st := by
  obtain ⟨D, G', A, p, l, e, R, s, m, args, below, meth, c, Q⟩ := x
  obtain ⟨hG, hrm, hx, hb, hml, hr, hlk, hnm, hown, hts, hK, hA, hE⟩ := X
  subst hG
  subst hrm
  subst hst
  obtain ⟨hcode, hin, hsel, hini, h1, h2, h3⟩ := hY
  have cw : CallW R s args own y.cls idx y b maxL ret' (mws y b maxL ret') { frames := fr, cells := mc, slots := ms, locals := lo } mc ms n := ⟨callB_of n hts (mgoodY hcode) rfl rfl rfl (hts _ hini) (hts _ hL) ⟨h1, h2, h3⟩ hR, hts _ hin, hts _ hsel⟩
  intro H locs la hz hl hM hS
  obtain ⟨fs, hfs⟩ := hrec
  obtain ⟨T, N, hcl⟩ := hcl
  have hat : va_at D.1 mcl (a, .inr (ci, fs)) H := by
    exact (hM a _ hfs).2.1
  refine va_calli (va_runV (As := As) (rest := rest) ⟨hx, hb, hml, hown, hts⟩ (hc l D A) cw ⟨fun a U g mk q => ⟨q.1, q.2.calling g mk a⟩, va_recv hK (mP1 hat) hcl (q0 := 0) rfl, fun U hU hW => ⟨rfl, mPre_of hU hW hz hM hK hA hE hS⟩⟩ rfl hn (hl.1.trans hml) rfl (lv_room h8) d hcs) hS (fun q _ h => h) (fun q h => h) (fun r' u t H1 locs1 ht hvm hw hB hz1 hk1 hS1 => ?_)
  subst hw
  have hB2 := hB.2
  rw [ht] at hB2
  exact kk H1 locs1 la (by rw [← ht]; exact hB.1) hl hB2 hS1
theorem ww_callVL (pc : Nat) (X : mCX G own cc nL ret nm rm x) {r : Int64} (d : decode cc pc = .ok (.invokevirtual idx, 3)) (hY : mYV y b maxL ret' n) (hL : Cond.methodLink own idx y ∈ mtbl) (hrec : ∃ fs, M a = some (.inr (ci, fs))) (hcl : ∃ (T : u_T) (N : Nat), mcl[ci]? = some (y.cls, T, N)) (hci : ci < 14) (hn : As.length = n) (hst : As.reverse ++ .ref a :: rest = st) (hR : fr + 1 ≤ rm.frames ∧ 8 + (maxL + 11) + lo ≤ rm.locals) (hcs : z.2.1 + mc ≤ rm.cells ∧ z.2.2 + ms ≤ rm.slots) (h8 : (rest.map fun v => v.category).sum ≤ 8) (hc : ∀ l D A, mMetL l D G A y b maxL ret' fr lo mc ms (.ref a :: As) M z.1 r M' sz') (kk : WW x (sz', z.2.1 + mc, z.2.2 + ms) M' (pc + 3) lv (.long r :: rest)) : WW x z M pc lv st := by
  obtain ⟨D, G', A, p, l, e, R, s, m, args, below, meth, c, Q⟩ := x
  obtain ⟨hG, hrm, hx, hb, hml, hr, hlk, hnm, hown, hts, hK, hA, hE⟩ := X
  subst hG
  subst hrm
  subst hst
  obtain ⟨hcode, hin, hsel, hini, h1, h2, h3⟩ := hY
  have cw : CallW R s args own y.cls idx y b maxL ret' (mws y b maxL ret') { frames := fr, cells := mc, slots := ms, locals := lo } mc ms n := ⟨callB_of n hts (mgoodY hcode) rfl rfl rfl (hts _ hini) (hts _ hL) ⟨h1, h2, h3⟩ hR, hts _ hin, hts _ hsel⟩
  intro H locs la hz hl hM hS
  obtain ⟨fs, hfs⟩ := hrec
  obtain ⟨T, N, hcl⟩ := hcl
  have hat : va_at D.1 mcl (a, .inr (ci, fs)) H := by
    exact (hM a _ hfs).2.1
  refine va_calll (va_runV (As := As) (rest := rest) ⟨hx, hb, hml, hown, hts⟩ (hc l D A) cw ⟨fun a U g mk q => ⟨q.1, q.2.calling g mk a⟩, va_recv hK (mP1 hat) hcl (q0 := 0) rfl, fun U hU hW => ⟨rfl, mPre_of hU hW hz hM hK hA hE hS⟩⟩ rfl hn (hl.1.trans hml) rfl (lv_room h8) d hcs) hS (fun q _ h => h) (fun q h => h) (fun r' u t H1 locs1 ht hvm hw hB hz1 hk1 hS1 => ?_)
  subst hw
  have hB2 := hB.2
  rw [ht] at hB2
  exact kk H1 locs1 la (by rw [← ht]; exact hB.1) hl hB2 hS1
theorem ww_callVV (pc : Nat) (X : mCX G own cc nL ret nm rm x) (d : decode cc pc = .ok (.invokevirtual idx, 3)) (hY : mYV y b maxL ret' n) (hL : Cond.methodLink own idx y ∈ mtbl) (hrec : ∃ fs, M a = some (.inr (ci, fs))) (hcl : ∃ (T : u_T) (N : Nat), mcl[ci]? = some (y.cls, T, N)) (hci : ci < 14) (hn : As.length = n) (hst : As.reverse ++ .ref a :: rest = st) (hR : fr + 1 ≤ rm.frames ∧ 8 + (maxL + 11) + lo ≤ rm.locals) (hcs : z.2.1 + mc ≤ rm.cells ∧ z.2.2 + ms ≤ rm.slots) (h8 : (rest.map fun v => v.category).sum ≤ 8) (hc : ∀ l D A, mMetV l D G A y b maxL ret' fr lo mc ms (.ref a :: As) M z.1 M' sz') (kk : WW x (sz', z.2.1 + mc, z.2.2 + ms) M' (pc + 3) lv (rest)) : WW x z M pc lv st := by
  obtain ⟨D, G', A, p, l, e, R, s, m, args, below, meth, c, Q⟩ := x
  obtain ⟨hG, hrm, hx, hb, hml, hr, hlk, hnm, hown, hts, hK, hA, hE⟩ := X
  subst hG
  subst hrm
  subst hst
  obtain ⟨hcode, hin, hsel, hini, h1, h2, h3⟩ := hY
  have cw : CallW R s args own y.cls idx y b maxL ret' (mws y b maxL ret') { frames := fr, cells := mc, slots := ms, locals := lo } mc ms n := ⟨callB_of n hts (mgoodY hcode) rfl rfl rfl (hts _ hini) (hts _ hL) ⟨h1, h2, h3⟩ hR, hts _ hin, hts _ hsel⟩
  intro H locs la hz hl hM hS
  obtain ⟨fs, hfs⟩ := hrec
  obtain ⟨T, N, hcl⟩ := hcl
  have hat : va_at D.1 mcl (a, .inr (ci, fs)) H := by
    exact (hM a _ hfs).2.1
  refine va_callv (va_runV (As := As) (rest := rest) ⟨hx, hb, hml, hown, hts⟩ (hc l D A) cw ⟨fun a U g mk q => ⟨q.1, q.2.calling g mk a⟩, va_recv hK (mP1 hat) hcl (q0 := 0) rfl, fun U hU hW => ⟨rfl, mPre_of hU hW hz hM hK hA hE hS⟩⟩ rfl hn (hl.1.trans hml) rfl (lv_room h8) d hcs) hS (fun q _ h => h) (fun q h => h) (fun u t H1 locs1 ht hvm hw hB hz1 hk1 hS1 => ?_)
  have hB2 := hB.2
  rw [ht] at hB2
  exact kk H1 locs1 la (by rw [← ht]; exact hB.1) hl hB2 hS1
theorem ww_callSI (pc : Nat) (X : mCX G own cc nL ret nm rm x) {r : Int32} (d : decode cc pc = .ok (.invokestatic idx, 3)) (hY : mYS y b maxL ret' n) (hL : Cond.methodLink own idx y ∈ mtbl) (hn : As.length = n) (hst : As.reverse ++ rest = st) (hR : fr + 1 ≤ rm.frames ∧ 8 + (maxL + 11) + lo ≤ rm.locals) (hcs : z.2.1 + mc ≤ rm.cells ∧ z.2.2 + ms ≤ rm.slots) (h8 : (rest.map fun v => v.category).sum ≤ 8) (hc : ∀ l D A, mMetI l D G A y b maxL ret' fr lo mc ms As M z.1 r M' sz') (kk : WW x (sz', z.2.1 + mc, z.2.2 + ms) M' (pc + 3) lv (.int r :: rest)) : WW x z M pc lv st := by
  obtain ⟨D, G', A, p, l, e, R, s, m, args, below, meth, c, Q⟩ := x
  obtain ⟨hG, hrm, hx, hb, hml, hr, hlk, hnm, hown, hts, hK, hA, hE⟩ := X
  subst hG
  subst hrm
  subst hst
  obtain ⟨hcode, hstat, hini, h1, h2, h3⟩ := hY
  have cw : CallB R s args own idx y b maxL ret' (mws y b maxL ret') { frames := fr, cells := mc, slots := ms, locals := lo } mc ms n ∧ (Cond.static y).before args s = true := ⟨callB_of n hts (mgoodY hcode) rfl rfl rfl (hts _ hini) (hts _ hL) ⟨h1, h2, h3⟩ hR, hts _ hstat⟩
  intro H locs la hz hl hM hS
  refine va_calli (va_runS (As := As) (rest := rest) ⟨hx, hb, hml, hown, hts⟩ (hc l D A) cw ⟨fun a U g mk q => ⟨q.1, q.2.calling g mk a⟩, fun U hU hW => ⟨rfl, mPre_of hU hW hz hM hK hA hE hS⟩⟩ rfl hn (hl.1.trans hml) rfl (lv_room h8) d hcs) hS (fun q _ h => h) (fun q h => h) (fun r' u t H1 locs1 ht hvm hw hB hz1 hk1 hS1 => ?_)
  subst hw
  have hB2 := hB.2
  rw [ht] at hB2
  exact kk H1 locs1 la (by rw [← ht]; exact hB.1) hl hB2 hS1
theorem ww_callSIN (pc : Nat) (X : mCX G own cc nL ret nm rm x) {r : Int32} (d : decode cc pc = .ok (.invokestatic idx, 3)) (hY : mYS y b maxL ret' n) (hL : ∃ host : String, (own, idx, y, host) ∈ mnM) (hn : As.length = n) (hst : As.reverse ++ rest = st) (hR : fr + 1 ≤ rm.frames ∧ 8 + (maxL + 11) + lo ≤ rm.locals) (hcs : z.2.1 + mc ≤ rm.cells ∧ z.2.2 + ms ≤ rm.slots) (h8 : (rest.map fun v => v.category).sum ≤ 8) (hc : ∀ l D A, mMetI l D G A y b maxL ret' fr lo mc ms As M z.1 r M' sz') (kk : WW x (sz', z.2.1 + mc, z.2.2 + ms) M' (pc + 3) lv (.int r :: rest)) : WW x z M pc lv st := by
  obtain ⟨D, G', A, p, l, e, R, s, m, args, below, meth, c, Q⟩ := x
  obtain ⟨hG, hrm, hx, hb, hml, hr, hlk, hnm, hown, hts, hK, hA, hE⟩ := X
  subst hG
  subst hrm
  subst hst
  obtain ⟨hcode, hstat, hini, h1, h2, h3⟩ := hY
  obtain ⟨host, hL⟩ := hL
  have cw := va_cnB (R := R) (s := s) (args := args) (own := own) (host := host) (index := idx) (maxL := maxL) (mc := mc) (ms := ms) (y := y) (bytes := b) (ret := ret') (ws := mws y b maxL ret') (rm := { frames := fr, cells := mc, slots := ms, locals := lo }) n hts (mgoodY hcode) rfl rfl rfl (hE.2.2.1 _ hL) (hts _ hini) ⟨h1, h2, h3⟩ hR
  intro H locs la hz hl hM hS
  refine va_calli (va_runSN (As := As) (rest := rest) ⟨hx, hb, hml, hown, hts⟩ (hc l D A) ⟨cw, hts _ hstat, trivial⟩ ⟨fun a U g mk q => ⟨q.1, q.2.calling g mk a⟩, fun U hU hW => ⟨rfl, mPre_of hU hW hz hM hK hA hE hS⟩⟩ rfl hn (hl.1.trans hml) rfl (lv_room h8) d hcs) hS (fun q _ h => h) (fun q h => h) (fun r' u t H1 locs1 ht hvm hw hB hz1 hk1 hS1 => ?_)
  subst hw
  have hB2 := hB.2
  rw [ht] at hB2
  exact kk H1 locs1 la (by rw [← ht]; exact hB.1) hl hB2 hS1
theorem ww_callSL (pc : Nat) (X : mCX G own cc nL ret nm rm x) {r : Int64} (d : decode cc pc = .ok (.invokestatic idx, 3)) (hY : mYS y b maxL ret' n) (hL : Cond.methodLink own idx y ∈ mtbl) (hn : As.length = n) (hst : As.reverse ++ rest = st) (hR : fr + 1 ≤ rm.frames ∧ 8 + (maxL + 11) + lo ≤ rm.locals) (hcs : z.2.1 + mc ≤ rm.cells ∧ z.2.2 + ms ≤ rm.slots) (h8 : (rest.map fun v => v.category).sum ≤ 8) (hc : ∀ l D A, mMetL l D G A y b maxL ret' fr lo mc ms As M z.1 r M' sz') (kk : WW x (sz', z.2.1 + mc, z.2.2 + ms) M' (pc + 3) lv (.long r :: rest)) : WW x z M pc lv st := by
  obtain ⟨D, G', A, p, l, e, R, s, m, args, below, meth, c, Q⟩ := x
  obtain ⟨hG, hrm, hx, hb, hml, hr, hlk, hnm, hown, hts, hK, hA, hE⟩ := X
  subst hG
  subst hrm
  subst hst
  obtain ⟨hcode, hstat, hini, h1, h2, h3⟩ := hY
  have cw : CallB R s args own idx y b maxL ret' (mws y b maxL ret') { frames := fr, cells := mc, slots := ms, locals := lo } mc ms n ∧ (Cond.static y).before args s = true := ⟨callB_of n hts (mgoodY hcode) rfl rfl rfl (hts _ hini) (hts _ hL) ⟨h1, h2, h3⟩ hR, hts _ hstat⟩
  intro H locs la hz hl hM hS
  refine va_calll (va_runS (As := As) (rest := rest) ⟨hx, hb, hml, hown, hts⟩ (hc l D A) cw ⟨fun a U g mk q => ⟨q.1, q.2.calling g mk a⟩, fun U hU hW => ⟨rfl, mPre_of hU hW hz hM hK hA hE hS⟩⟩ rfl hn (hl.1.trans hml) rfl (lv_room h8) d hcs) hS (fun q _ h => h) (fun q h => h) (fun r' u t H1 locs1 ht hvm hw hB hz1 hk1 hS1 => ?_)
  subst hw
  have hB2 := hB.2
  rw [ht] at hB2
  exact kk H1 locs1 la (by rw [← ht]; exact hB.1) hl hB2 hS1
theorem ww_callSLN (pc : Nat) (X : mCX G own cc nL ret nm rm x) {r : Int64} (d : decode cc pc = .ok (.invokestatic idx, 3)) (hY : mYS y b maxL ret' n) (hL : ∃ host : String, (own, idx, y, host) ∈ mnM) (hn : As.length = n) (hst : As.reverse ++ rest = st) (hR : fr + 1 ≤ rm.frames ∧ 8 + (maxL + 11) + lo ≤ rm.locals) (hcs : z.2.1 + mc ≤ rm.cells ∧ z.2.2 + ms ≤ rm.slots) (h8 : (rest.map fun v => v.category).sum ≤ 8) (hc : ∀ l D A, mMetL l D G A y b maxL ret' fr lo mc ms As M z.1 r M' sz') (kk : WW x (sz', z.2.1 + mc, z.2.2 + ms) M' (pc + 3) lv (.long r :: rest)) : WW x z M pc lv st := by
  obtain ⟨D, G', A, p, l, e, R, s, m, args, below, meth, c, Q⟩ := x
  obtain ⟨hG, hrm, hx, hb, hml, hr, hlk, hnm, hown, hts, hK, hA, hE⟩ := X
  subst hG
  subst hrm
  subst hst
  obtain ⟨hcode, hstat, hini, h1, h2, h3⟩ := hY
  obtain ⟨host, hL⟩ := hL
  have cw := va_cnB (R := R) (s := s) (args := args) (own := own) (host := host) (index := idx) (maxL := maxL) (mc := mc) (ms := ms) (y := y) (bytes := b) (ret := ret') (ws := mws y b maxL ret') (rm := { frames := fr, cells := mc, slots := ms, locals := lo }) n hts (mgoodY hcode) rfl rfl rfl (hE.2.2.1 _ hL) (hts _ hini) ⟨h1, h2, h3⟩ hR
  intro H locs la hz hl hM hS
  refine va_calll (va_runSN (As := As) (rest := rest) ⟨hx, hb, hml, hown, hts⟩ (hc l D A) ⟨cw, hts _ hstat, trivial⟩ ⟨fun a U g mk q => ⟨q.1, q.2.calling g mk a⟩, fun U hU hW => ⟨rfl, mPre_of hU hW hz hM hK hA hE hS⟩⟩ rfl hn (hl.1.trans hml) rfl (lv_room h8) d hcs) hS (fun q _ h => h) (fun q h => h) (fun r' u t H1 locs1 ht hvm hw hB hz1 hk1 hS1 => ?_)
  subst hw
  have hB2 := hB.2
  rw [ht] at hB2
  exact kk H1 locs1 la (by rw [← ht]; exact hB.1) hl hB2 hS1
theorem ww_callSV (pc : Nat) (X : mCX G own cc nL ret nm rm x) (d : decode cc pc = .ok (.invokestatic idx, 3)) (hY : mYS y b maxL ret' n) (hL : Cond.methodLink own idx y ∈ mtbl) (hn : As.length = n) (hst : As.reverse ++ rest = st) (hR : fr + 1 ≤ rm.frames ∧ 8 + (maxL + 11) + lo ≤ rm.locals) (hcs : z.2.1 + mc ≤ rm.cells ∧ z.2.2 + ms ≤ rm.slots) (h8 : (rest.map fun v => v.category).sum ≤ 8) (hc : ∀ l D A, mMetV l D G A y b maxL ret' fr lo mc ms As M z.1 M' sz') (kk : WW x (sz', z.2.1 + mc, z.2.2 + ms) M' (pc + 3) lv (rest)) : WW x z M pc lv st := by
  obtain ⟨D, G', A, p, l, e, R, s, m, args, below, meth, c, Q⟩ := x
  obtain ⟨hG, hrm, hx, hb, hml, hr, hlk, hnm, hown, hts, hK, hA, hE⟩ := X
  subst hG
  subst hrm
  subst hst
  obtain ⟨hcode, hstat, hini, h1, h2, h3⟩ := hY
  have cw : CallB R s args own idx y b maxL ret' (mws y b maxL ret') { frames := fr, cells := mc, slots := ms, locals := lo } mc ms n ∧ (Cond.static y).before args s = true := ⟨callB_of n hts (mgoodY hcode) rfl rfl rfl (hts _ hini) (hts _ hL) ⟨h1, h2, h3⟩ hR, hts _ hstat⟩
  intro H locs la hz hl hM hS
  refine va_callv (va_runS (As := As) (rest := rest) ⟨hx, hb, hml, hown, hts⟩ (hc l D A) cw ⟨fun a U g mk q => ⟨q.1, q.2.calling g mk a⟩, fun U hU hW => ⟨rfl, mPre_of hU hW hz hM hK hA hE hS⟩⟩ rfl hn (hl.1.trans hml) rfl (lv_room h8) d hcs) hS (fun q _ h => h) (fun q h => h) (fun u t H1 locs1 ht hvm hw hB hz1 hk1 hS1 => ?_)
  have hB2 := hB.2
  rw [ht] at hB2
  exact kk H1 locs1 la (by rw [← ht]; exact hB.1) hl hB2 hS1
theorem ww_callSVN (pc : Nat) (X : mCX G own cc nL ret nm rm x) (d : decode cc pc = .ok (.invokestatic idx, 3)) (hY : mYS y b maxL ret' n) (hL : ∃ host : String, (own, idx, y, host) ∈ mnM) (hn : As.length = n) (hst : As.reverse ++ rest = st) (hR : fr + 1 ≤ rm.frames ∧ 8 + (maxL + 11) + lo ≤ rm.locals) (hcs : z.2.1 + mc ≤ rm.cells ∧ z.2.2 + ms ≤ rm.slots) (h8 : (rest.map fun v => v.category).sum ≤ 8) (hc : ∀ l D A, mMetV l D G A y b maxL ret' fr lo mc ms As M z.1 M' sz') (kk : WW x (sz', z.2.1 + mc, z.2.2 + ms) M' (pc + 3) lv (rest)) : WW x z M pc lv st := by
  obtain ⟨D, G', A, p, l, e, R, s, m, args, below, meth, c, Q⟩ := x
  obtain ⟨hG, hrm, hx, hb, hml, hr, hlk, hnm, hown, hts, hK, hA, hE⟩ := X
  subst hG
  subst hrm
  subst hst
  obtain ⟨hcode, hstat, hini, h1, h2, h3⟩ := hY
  obtain ⟨host, hL⟩ := hL
  have cw := va_cnB (R := R) (s := s) (args := args) (own := own) (host := host) (index := idx) (maxL := maxL) (mc := mc) (ms := ms) (y := y) (bytes := b) (ret := ret') (ws := mws y b maxL ret') (rm := { frames := fr, cells := mc, slots := ms, locals := lo }) n hts (mgoodY hcode) rfl rfl rfl (hE.2.2.1 _ hL) (hts _ hini) ⟨h1, h2, h3⟩ hR
  intro H locs la hz hl hM hS
  refine va_callv (va_runSN (As := As) (rest := rest) ⟨hx, hb, hml, hown, hts⟩ (hc l D A) ⟨cw, hts _ hstat, trivial⟩ ⟨fun a U g mk q => ⟨q.1, q.2.calling g mk a⟩, fun U hU hW => ⟨rfl, mPre_of hU hW hz hM hK hA hE hS⟩⟩ rfl hn (hl.1.trans hml) rfl (lv_room h8) d hcs) hS (fun q _ h => h) (fun q h => h) (fun u t H1 locs1 ht hvm hw hB hz1 hk1 hS1 => ?_)
  have hB2 := hB.2
  rw [ht] at hB2
  exact kk H1 locs1 la (by rw [← ht]; exact hB.1) hl hB2 hS1
theorem ww_callIV (pc : Nat) (X : mCX G own cc nL ret nm rm x) (d : decode cc pc = .ok (.invokespecial idx, 3)) (hY : mYI y b maxL ret' n) (hL : Cond.methodLink own idx y ∈ mtbl) (hn : As.length = n) (hst : As.reverse ++ .ref a :: rest = st) (hR : fr + 1 ≤ rm.frames ∧ 8 + (maxL + 11) + lo ≤ rm.locals) (hcs : z.2.1 + mc ≤ rm.cells ∧ z.2.2 + ms ≤ rm.slots) (h8 : (rest.map fun v => v.category).sum ≤ 8) (hc : ∀ l D A, mMetV l D G A y b maxL ret' fr lo mc ms (.ref a :: As) M z.1 M' sz') (kk : WW x (sz', z.2.1 + mc, z.2.2 + ms) M' (pc + 3) lv (rest)) : WW x z M pc lv st := by
  obtain ⟨D, G', A, p, l, e, R, s, m, args, below, meth, c, Q⟩ := x
  obtain ⟨hG, hrm, hx, hb, hml, hr, hlk, hnm, hown, hts, hK, hA, hE⟩ := X
  subst hG
  subst hrm
  subst hst
  obtain ⟨hcode, hin, hini, hnmI, hret, h1, h2, h3⟩ := hY
  subst hret
  have cw : CallB R s args own idx y b maxL none (mws y b maxL none) { frames := fr, cells := mc, slots := ms, locals := lo } mc ms n ∧ y.name = "<init>" ∧ (Cond.instanceMethod y).before args s = true := ⟨callB_of n hts (mgoodY hcode) rfl rfl rfl (hts _ hini) (hts _ hL) ⟨h1, h2, h3⟩ hR, hnmI, hts _ hin⟩
  intro H locs la hz hl hM hS
  refine va_callv (va_runI (As := As) (rest := rest) ⟨hx, hb, hml, hown, hts⟩ (hc l D A) cw ⟨fun a U g mk q => ⟨q.1, q.2.calling g mk a⟩, fun U hU hW => ⟨rfl, mPre_of hU hW hz hM hK hA hE hS⟩⟩ rfl hn (hl.1.trans hml) rfl (lv_room h8) d hcs) hS (fun q _ h => h) (fun q h => h) (fun u t H1 locs1 ht hvm hw hB hz1 hk1 hS1 => ?_)
  have hB2 := hB.2
  rw [ht] at hB2
  exact kk H1 locs1 la (by rw [← ht]; exact hB.1) hl hB2 hS1
theorem ww_callIVN (pc : Nat) (X : mCX G own cc nL ret nm rm x) (d : decode cc pc = .ok (.invokespecial idx, 3)) (hY : mYI y b maxL ret' n) (hL : ∃ host : String, (own, idx, y, host) ∈ mnM) (hn : As.length = n) (hst : As.reverse ++ .ref a :: rest = st) (hR : fr + 1 ≤ rm.frames ∧ 8 + (maxL + 11) + lo ≤ rm.locals) (hcs : z.2.1 + mc ≤ rm.cells ∧ z.2.2 + ms ≤ rm.slots) (h8 : (rest.map fun v => v.category).sum ≤ 8) (hc : ∀ l D A, mMetV l D G A y b maxL ret' fr lo mc ms (.ref a :: As) M z.1 M' sz') (kk : WW x (sz', z.2.1 + mc, z.2.2 + ms) M' (pc + 3) lv (rest)) : WW x z M pc lv st := by
  obtain ⟨D, G', A, p, l, e, R, s, m, args, below, meth, c, Q⟩ := x
  obtain ⟨hG, hrm, hx, hb, hml, hr, hlk, hnm, hown, hts, hK, hA, hE⟩ := X
  subst hG
  subst hrm
  subst hst
  obtain ⟨hcode, hin, hini, hnmI, hret, h1, h2, h3⟩ := hY
  subst hret
  obtain ⟨host, hL⟩ := hL
  have cw := va_cnB (R := R) (s := s) (args := args) (own := own) (host := host) (index := idx) (maxL := maxL) (mc := mc) (ms := ms) (y := y) (bytes := b) (ret := none) (ws := mws y b maxL none) (rm := { frames := fr, cells := mc, slots := ms, locals := lo }) n hts (mgoodY hcode) rfl rfl rfl (hE.2.2.1 _ hL) (hts _ hini) ⟨h1, h2, h3⟩ hR
  intro H locs la hz hl hM hS
  refine va_callv (va_runIN (As := As) (rest := rest) ⟨hx, hb, hml, hown, hts⟩ (hc l D A) ⟨cw, hnmI, hts _ hin⟩ ⟨fun a U g mk q => ⟨q.1, q.2.calling g mk a⟩, fun U hU hW => ⟨rfl, mPre_of hU hW hz hM hK hA hE hS⟩⟩ rfl hn (hl.1.trans hml) rfl (lv_room h8) d hcs) hS (fun q _ h => h) (fun q h => h) (fun u t H1 locs1 ht hvm hw hB hz1 hk1 hS1 => ?_)
  have hB2 := hB.2
  rw [ht] at hB2
  exact kk H1 locs1 la (by rw [← ht]; exact hB.1) hl hB2 hS1
theorem ww_iret (pc : Nat) {r : Int32} (X : mCX G own cc nL (some .int) nm rm x) (hQ : mQI x r M z) (d : decode cc pc = .ok (.ireturn, 1)) : WW x z M pc lv [.int r] := by
  obtain ⟨D, G', A, p, l, e, R, s, m, args, below, meth, c, Q⟩ := x
  obtain ⟨hG, hrm, hx, hb, hml, hr, hlk, hnm, hown, hts, hK, hA, hE⟩ := X
  intro H locs la hz hl hM hS
  have hQ : Q = _ := hQ
  subst hQ
  exact W.iret hx hb hr (fun t ht hW => ⟨⟨r, (), rfl, rfl, by rw [ht]; exact hz, by rw [ht]; exact hM⟩, hS.F ht⟩) hS.2.2 d (hlocks := hlk)
theorem ww_lret (pc : Nat) {r : Int64} (X : mCX G own cc nL (some .long) nm rm x) (hQ : mQL x r M z) (d : decode cc pc = .ok (.lreturn, 1)) : WW x z M pc lv [.long r] := by
  obtain ⟨D, G', A, p, l, e, R, s, m, args, below, meth, c, Q⟩ := x
  obtain ⟨hG, hrm, hx, hb, hml, hr, hlk, hnm, hown, hts, hK, hA, hE⟩ := X
  intro H locs la hz hl hM hS
  have hQ : Q = _ := hQ
  subst hQ
  exact W.lret hx hb hr (fun t ht hW => ⟨⟨r, (), rfl, rfl, by rw [ht]; exact hz, by rw [ht]; exact hM⟩, hS.F ht⟩) hS.2.2 d (hlocks := hlk)
theorem ww_zret (pc : Nat) {r : Int32} (X : mCX G own cc nL (some .boolean) nm rm x) (hQ : mQI x r M z) (hv : r = 0 ∨ r = 1) (d : decode cc pc = .ok (.ireturn, 1)) : WW x z M pc lv [.int r] := by
  obtain ⟨D, G', A, p, l, e, R, s, m, args, below, meth, c, Q⟩ := x
  obtain ⟨hG, hrm, hx, hb, hml, hr, hlk, hnm, hown, hts, hK, hA, hE⟩ := X
  intro H locs la hz hl hM hS
  have hQ : Q = _ := hQ
  subst hQ
  exact W.zret hx hb hr (by rcases hv with rfl | rfl <;> rfl) (fun t ht hW => ⟨⟨r, (), rfl, rfl, by rw [ht]; exact hz, by rw [ht]; exact hM⟩, hS.F ht⟩) hS.2.2 d (hlocks := hlk)
theorem ww_vret (pc : Nat) (X : mCX G own cc nL none nm rm x) (hQ : mQV x M z) (d : decode cc pc = .ok (.return_, 1)) : WW x z M pc lv [] := by
  obtain ⟨D, G', A, p, l, e, R, s, m, args, below, meth, c, Q⟩ := x
  obtain ⟨hG, hrm, hx, hb, hml, hr, hlk, hnm, hown, hts, hK, hA, hE⟩ := X
  intro H locs la hz hl hM hS
  have hQ : Q = _ := hQ
  subst hQ
  exact W.vret hx hb hr (fun t ht hW => ⟨⟨(), rfl, trivial, by rw [ht]; exact hz, by rw [ht]; exact hM⟩, hS.F ht⟩) hS.2.2 d (hlocks := hlk)
end MCALL
theorem mMetI_of (l : Launch) (D : mD) (G : mG) (A : Nat → Prop) {y : MethodName} {b : ByteArray} {maxL : Nat} {ret : Option FieldType} {fr lo mc ms : Nat} {as : List Value} {M : mM} {sz : Nat} {r : Int32} {M' : mM} {sz' : Nat} (hy : plainName y.cls = true) (hlen : (lg_sl as).length ≤ maxL) (body : ∀ x : mXT, mCX G y.cls b maxL ret y.name { frames := fr, cells := mc, slots := ms, locals := lo } x → mQI x r M' (sz', mc, ms) → WW x (sz, 0, 0) M 0 (lv_args 0 as) []) : mMetI l D G A y b maxL ret fr lo mc ms as M sz r M' sz' := by
  refine Met.ofW (cc := b) (maxL := maxL) (ret := ret) hy rfl ?_
  intro p e s m args below meth c s₁ B hml hv
  obtain ⟨rfl, hz, hM, hK, hA, hE⟩ := hv
  have hts := atoms_spec (ws := mws y b maxL ret) B.pre
  have K := body (D, G, A, p, l, e, { frames := fr, cells := mc, slots := ms, locals := lo }, s, m, as.toArray, below, meth, c, _) ⟨rfl, rfl, B.exec, B.bytes, hml, B.returns, B.notSynchronized, (name_of_methodNamed B.named B.method).1, findClass_of_methodNamed B.named, fun w hw => hts w (List.mem_cons_of_mem _ hw), hK, hA, hE⟩ rfl
  rw [lg_entry_eq]
  have hl := lv_entry as (n := maxL) hlen
  exact K s.heap [] _ hz (by show lv_has _ c.maxLocals _; rw [hml]; exact hl) hM va_S.rf
theorem mMetL_of (l : Launch) (D : mD) (G : mG) (A : Nat → Prop) {y : MethodName} {b : ByteArray} {maxL : Nat} {ret : Option FieldType} {fr lo mc ms : Nat} {as : List Value} {M : mM} {sz : Nat} {r : Int64} {M' : mM} {sz' : Nat} (hy : plainName y.cls = true) (hlen : (lg_sl as).length ≤ maxL) (body : ∀ x : mXT, mCX G y.cls b maxL ret y.name { frames := fr, cells := mc, slots := ms, locals := lo } x → mQL x r M' (sz', mc, ms) → WW x (sz, 0, 0) M 0 (lv_args 0 as) []) : mMetL l D G A y b maxL ret fr lo mc ms as M sz r M' sz' := by
  refine Met.ofW (cc := b) (maxL := maxL) (ret := ret) hy rfl ?_
  intro p e s m args below meth c s₁ B hml hv
  obtain ⟨rfl, hz, hM, hK, hA, hE⟩ := hv
  have hts := atoms_spec (ws := mws y b maxL ret) B.pre
  have K := body (D, G, A, p, l, e, { frames := fr, cells := mc, slots := ms, locals := lo }, s, m, as.toArray, below, meth, c, _) ⟨rfl, rfl, B.exec, B.bytes, hml, B.returns, B.notSynchronized, (name_of_methodNamed B.named B.method).1, findClass_of_methodNamed B.named, fun w hw => hts w (List.mem_cons_of_mem _ hw), hK, hA, hE⟩ rfl
  rw [lg_entry_eq]
  have hl := lv_entry as (n := maxL) hlen
  exact K s.heap [] _ hz (by show lv_has _ c.maxLocals _; rw [hml]; exact hl) hM va_S.rf
theorem mMetV_of (l : Launch) (D : mD) (G : mG) (A : Nat → Prop) {y : MethodName} {b : ByteArray} {maxL : Nat} {ret : Option FieldType} {fr lo mc ms : Nat} {as : List Value} {M : mM} {sz : Nat} {M' : mM} {sz' : Nat} (hy : plainName y.cls = true) (hlen : (lg_sl as).length ≤ maxL) (body : ∀ x : mXT, mCX G y.cls b maxL ret y.name { frames := fr, cells := mc, slots := ms, locals := lo } x → mQV x M' (sz', mc, ms) → WW x (sz, 0, 0) M 0 (lv_args 0 as) []) : mMetV l D G A y b maxL ret fr lo mc ms as M sz M' sz' := by
  refine Met.ofW (cc := b) (maxL := maxL) (ret := ret) hy rfl ?_
  intro p e s m args below meth c s₁ B hml hv
  obtain ⟨rfl, hz, hM, hK, hA, hE⟩ := hv
  have hts := atoms_spec (ws := mws y b maxL ret) B.pre
  have K := body (D, G, A, p, l, e, { frames := fr, cells := mc, slots := ms, locals := lo }, s, m, as.toArray, below, meth, c, _) ⟨rfl, rfl, B.exec, B.bytes, hml, B.returns, B.notSynchronized, (name_of_methodNamed B.named B.method).1, findClass_of_methodNamed B.named, fun w hw => hts w (List.mem_cons_of_mem _ hw), hK, hA, hE⟩ rfl
  rw [lg_entry_eq]
  have hl := lv_entry as (n := maxL) hlen
  exact K s.heap [] _ hz (by show lv_has _ c.maxLocals _; rw [hml]; exact hl) hM va_S.rf
theorem mMetR_of (l : Launch) (D : mD) (G : mG) (A : Nat → Prop) {y : MethodName} {b : ByteArray} {maxL : Nat} {ret : Option FieldType} {fr lo mc ms : Nat} {as : List Value} {M : mM} {sz : Nat} {r : Nat} {M' : mM} {sz' : Nat} (hy : plainName y.cls = true) (hlen : (lg_sl as).length ≤ maxL) (body : ∀ x : mXT, mCX G y.cls b maxL ret y.name { frames := fr, cells := mc, slots := ms, locals := lo } x → mQR x r M' (sz', mc, ms) → WW x (sz, 0, 0) M 0 (lv_args 0 as) []) : mMetR l D G A y b maxL ret fr lo mc ms as M sz r M' sz' := by
  refine Met.ofW (cc := b) (maxL := maxL) (ret := ret) hy rfl ?_
  intro p e s m args below meth c s₁ B hml hv
  obtain ⟨rfl, hz, hM, hK, hA, hE⟩ := hv
  have hts := atoms_spec (ws := mws y b maxL ret) B.pre
  have K := body (D, G, A, p, l, e, { frames := fr, cells := mc, slots := ms, locals := lo }, s, m, as.toArray, below, meth, c, _) ⟨rfl, rfl, B.exec, B.bytes, hml, B.returns, B.notSynchronized, (name_of_methodNamed B.named B.method).1, findClass_of_methodNamed B.named, fun w hw => hts w (List.mem_cons_of_mem _ hw), hK, hA, hE⟩ rfl
  rw [lg_entry_eq]
  have hl := lv_entry as (n := maxL) hlen
  exact K s.heap [] _ hz (by show lv_has _ c.maxLocals _; rw [hml]; exact hl) hM va_S.rf
/-! binding in the pure walks -/
section MENDS
variable {G : mG} {own : String} {cc : ByteArray} {nL : Nat} {nm : String} {rm : Room} {x : mXT} {z : Nat × Nat × Nat} {M M0 : mM} {lv : List (Nat × Value)}
theorem ww_iretE (pc : Nat) {r r0 : Int32} (X : mCX G own cc nL (some .int) nm rm x) (hQ : mQI x r0 M0 z) (d : decode cc pc = .ok (.ireturn, 1)) (h : (some (r, M) : Option (Int32 × mM)) = some (r0, M0)) : WW x z M pc lv [.int r] := by
  cases h
  exact ww_iret pc X hQ d
theorem ww_lretE (pc : Nat) {r r0 : Int64} (X : mCX G own cc nL (some .long) nm rm x) (hQ : mQL x r0 M0 z) (d : decode cc pc = .ok (.lreturn, 1)) (h : (some (r, M) : Option (Int64 × mM)) = some (r0, M0)) : WW x z M pc lv [.long r] := by
  cases h
  exact ww_lret pc X hQ d
theorem ww_zretE (pc : Nat) {r r0 : Int32} (X : mCX G own cc nL (some .boolean) nm rm x) (hQ : mQI x r0 M0 z) (d : decode cc pc = .ok (.ireturn, 1)) (h : retZ r M = some (r0, M0)) : WW x z M pc lv [.int r] := by
  unfold retZ at h
  split at h
  · rename_i hv
    cases h
    exact ww_zret pc X hQ hv d
  · cases h
theorem ww_vretE (pc : Nat) (X : mCX G own cc nL none nm rm x) (hQ : mQV x M0 z) (d : decode cc pc = .ok (.return_, 1)) (h : (some M : Option mM) = some M0) : WW x z M pc lv [] := by
  cases h
  exact ww_vret pc X hQ d
end MENDS
