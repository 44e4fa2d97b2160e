/-! rows that make cells: z0 and s0 are the heap's size and the count of slots at the method's start -/
/-- a class's making -/
def mNew (own : String) (idx ci N : Nat) (df : List Value) : Prop := ∃ (C : String) (T : u_T) (ty : Nat → FieldType), mcl[ci]? = some (C, T, N) ∧ ci < 14 ∧ (∀ w ∈ u_ws C T N, w ∈ mtbl) ∧ (∀ k, k < N → parseFieldDescriptor (T k).2.2.1 = some (ty k)) ∧ Cond.classLink own idx C ∈ mtbl ∧ Cond.instantiable C N ∈ mtbl ∧ Cond.initialized C ∈ mtbl ∧ ∀ j, j < N → defaultValue (ty j) = vp_V df j
theorem mHold.push {D : mD} {A : Nat → Prop} {M : mM} {H H1 : Heap} {sz : Nat} {e : mE} (h : mHold D A M H) (_ : H.size = sz) (he : mAt D A sz e H1) (oq : ∀ q : Nat, q < H.size → H1[q]? = H[q]?) : mHold D A (va_up M sz (some e)) H1 := by
  intro a e' q
  by_cases hab : a = sz
  · subst hab
    rw [va_up_self] at q
    cases q
    exact he
  · rw [va_up_ne _ _ hab] at q
    exact (h a e' q).kept (oq a (h a e' q).lt)
theorem va_S.grow {A : Nat → Prop} {H0 H H1 : Heap} {locs : List Loc} (hS : va_S A H0 H locs) (hle : H.size ≤ H1.size) (o1 : ∀ q : Nat, q < H.size → H1[q]? = H[q]?) : va_S A H0 H1 locs := ⟨Nat.le_trans hS.1 hle, fun x h1 h2 => (o1 x (Nat.lt_of_lt_of_le h1 hS.1)).trans (hS.2.1 x h1 h2), hS.2.2⟩
section MALLOC
variable {G : mG} {own : String} {cc : ByteArray} {nL : Nat} {ret : Option FieldType} {nm : String} {rm : Room} {x : mXT} {M M' : mM} {lv : List (Nat × Value)} {st : List Value} {sz sl z0 s0 : Nat}
theorem ww_newO (pc : Nat) (X : mCX G own cc nL ret nm rm x) {idx ci N : Nat} {df : List Value} (d : decode cc pc = .ok (.new idx, 3)) (hf : mNew own idx ci N df) (h1 : z0 ≤ sz) (h2 : s0 ≤ sl) (h3 : sz + 1 - z0 ≤ rm.cells) (h4 : sl + N - s0 ≤ rm.slots) (kk : WW x (sz + 1, sz + 1 - z0, sl + N - s0) (nwO M sz ci df) (pc + 3) lv (.ref sz :: st)) : WW x (sz, sz - z0, sl - s0) M pc lv st := by
  obtain ⟨D, G', A, p, l, e, R, s, m, args, below, meth, c, Q⟩ := x
  obtain ⟨hG, hrm, hx, hb, hml, hr, hlk, hnm, hown, hts, hK, hA, hE⟩ := X
  subst hrm
  obtain ⟨C, T, ty, hc, hci, hin, hty, k1, k2, k3, hdf⟩ := hf
  intro H locs la hz hl hM hS
  have hz : H.size = sz := hz
  have hKn := hK.1 ci _ hc
  refine W.newcK hx hb hown (hts _ k1) (hts _ k2) (hts _ k3) rfl d (by show sz - z0 + 1 ≤ _; omega) (by show sl - s0 + N ≤ _; omega) hKn.2.1 hz fun H1 kC hkC e1 z1 o1 => ?_
  have o1' : ∀ q : Nat, q < H.size → H1[q]? = H[q]? := fun q hq => o1 q (by omega)
  have K := kk H1 locs la z1 hl (hM.push hz ⟨hci, ⟨_, hc, (u_born ty hts hin hKn hkC e1 hty).to hdf⟩, hA _ (by have := hS.1; omega)⟩ o1') (hS.grow (by omega) o1')
  show W p l e R s m args below meth c H1 locs (sz - z0 + 1) (sl - s0 + N) Q _
  rw [show sz - z0 + 1 = sz + 1 - z0 by omega, show sl - s0 + N = sl + N - s0 by omega]
  exact K
theorem ww_newA (pc : Nat) (X : mCX G own cc nL ret nm rm x) {k : Nat} {n : Int32} {at' : ArrayType} (d : decode cc pc = .ok (.newarray at', 2)) (hk : k < 4) (hty : newarray.typeOf at' = mty k) (ha : Cond.arrayClass (newarray.typeOf at') ∈ mtbl) (h : nwA M sz k n = some M') (h1 : z0 ≤ sz) (h2 : s0 ≤ sl) (h3 : sz + 1 - z0 ≤ rm.cells) (h4 : sl + n.toNatClampNeg - s0 ≤ rm.slots) (kk : WW x (sz + 1, sz + 1 - z0, sl + n.toNatClampNeg - s0) M' (pc + 2) lv (.ref sz :: st)) : WW x (sz, sz - z0, sl - s0) M pc lv (.int n :: st) := by
  obtain ⟨D, G', A, p, l, e, R, s, m, args, below, meth, c, Q⟩ := x
  obtain ⟨hG, hrm, hx, hb, hml, hr, hlk, hnm, hown, hts, hK, hA, hE⟩ := X
  subst hrm
  unfold nwA at h
  split at h
  · cases h
  · rename_i hn
    cases h
    intro H locs la hz hl hM hS
    have hz : H.size = sz := hz
    have hcb : n.toNatClampNeg * componentBytes (newarray.typeOf at') ≤ 536870912 := by
      have : componentBytes (newarray.typeOf at') ≤ 8 := by cases at' <;> decide
      have h5 : n.toNatClampNeg ≤ 1000000 := by omega
      calc n.toNatClampNeg * componentBytes (newarray.typeOf at') ≤ 1000000 * 8 := Nat.mul_le_mul h5 this
        _ ≤ 536870912 := by decide
    refine va_newaK hx hb (hts _ ha) rfl d rfl (fun q => hn (Or.inl q)) rfl hcb (by show sz - z0 + 1 ≤ _; omega) (by show sl - s0 + _ ≤ _; omega) hz fun H1 cA e1 z1 o1 hAr hNm => ?_
    have o1' : ∀ q : Nat, q < H.size → H1[q]? = H[q]? := fun q hq => o1 q (by omega)
    have hcA : cA = D.2 k := by
      have q := (hK.2 k _ (mtys_at D (by omega))).2
      rw [hty] at hNm
      have q2 : s.vm.findClass ("[" ++ (mty k).toString) = some (D.2 k) := by
        rcases (show k = 0 ∨ k = 1 ∨ k = 2 ∨ k = 3 by omega) with rfl | rfl | rfl | rfl <;> exact q
      exact Option.some.inj (hNm.symm.trans q2)
    subst hcA
    have e2 : H1[sz]? = some (vp_cell (D.2 k) (zeroA k n.toNatClampNeg)) := by
      rw [e1, hty]
      rcases (show k = 0 ∨ k = 1 ∨ k = 2 ∨ k = 3 by omega) with rfl | rfl | rfl | rfl <;> rfl
    have K := kk H1 locs la z1 hl (hM.push hz ⟨by omega, e2, hA _ (by have := hS.1; omega)⟩ o1') (hS.grow (by omega) o1')
    show W p l e R s m args below meth c H1 locs (sz - z0 + 1) (sl - s0 + n.toNatClampNeg) Q _
    rw [show sz - z0 + 1 = sz + 1 - z0 by omega, show sl - s0 + n.toNatClampNeg = sl + n.toNatClampNeg - s0 by omega]
    exact K
theorem ww_newQ (pc : Nat) (X : mCX G own cc nL ret nm rm x) {k idx : Nat} {n : Int32} (d : decode cc pc = .ok (.anewarray idx, 3)) (hk : k = 4 ∨ k = 5) (hc : ∃ C : String, mty k = .object C ∧ Cond.classLink own idx C ∈ mtbl) (h : nwA M sz k n = some M') (h1 : z0 ≤ sz) (h2 : s0 ≤ sl) (h3 : sz + 1 - z0 ≤ rm.cells) (h4 : sl + n.toNatClampNeg - s0 ≤ rm.slots) (kk : WW x (sz + 1, sz + 1 - z0, sl + n.toNatClampNeg - s0) M' (pc + 3) lv (.ref sz :: st)) : WW x (sz, sz - z0, sl - s0) M pc lv (.int n :: st) := by
  obtain ⟨D, G', A, p, l, e, R, s, m, args, below, meth, c, Q⟩ := x
  obtain ⟨hG, hrm, hx, hb, hml, hr, hlk, hnm, hown, hts, hK, hA, hE⟩ := X
  subst hrm
  unfold nwA at h
  split at h
  · cases h
  · rename_i hn
    cases h
    intro H locs la hz hl hM hS
    have hz : H.size = sz := hz
    obtain ⟨C, hC, hlk2⟩ := hc
    have hover : va_AO C s := by
      rcases hk with rfl | rfl
      · cases hC
        exact hE.2.2.2.2.1
      · cases hC
        exact hE.2.2.2.2.2.1
    refine W.anew hx hb hown (hts _ hlk2) (va_AO.use hover) rfl d rfl (fun q => hn (Or.inl q)) (by omega) (by show sz - z0 + 1 ≤ _; omega) (by show sl - s0 + _ ≤ _; omega) fun cA kA comp f1 f2 f3 f4 => ?_
    generalize hH1 : H.push ({ cls := cA, slots := Array.replicate n.toNatClampNeg .null, vm := .none } : Cell) = H1
    have z1 : H1.size = sz + 1 := by rw [← hH1, Array.size_push, hz]
    have e1 : H1[sz]? = some (arrV cA n.toNatClampNeg (fun _ => .null)) := by rw [← hH1, ← hz, Array.getElem?_push_size, ← arrV_new]
    have o1 : ∀ q : Nat, q < H.size → H1[q]? = H[q]? := fun q hq => by rw [← hH1, Array.getElem?_push, if_neg (Nat.ne_of_lt hq)]
    have hcA : cA = D.2 k := by
      have q := (hK.2 k _ (mtys_at D (by omega))).2
      simp only [hC] at q
      obtain ⟨kA', comp', g1, g2, g3, g4⟩ := q
      exact Option.some.inj (f1.symm.trans g4)
    subst hcA
    have e2 : H1[sz]? = some (vp_cell (D.2 k) (zeroA k n.toNatClampNeg)) := by
      rw [e1]
      rcases hk with rfl | rfl <;> rfl
    have K := kk H1 locs la z1 hl (hM.push hz ⟨by omega, e2, hA _ (by have := hS.1; omega)⟩ o1) (hS.grow (by omega) o1)
    show W p l e R s m args below meth c H1 locs (sz - z0 + 1) (sl - s0 + n.toNatClampNeg) Q _
    rw [show sz - z0 + 1 = sz + 1 - z0 by omega, show sl - s0 + n.toNatClampNeg = sl + n.toNatClampNeg - s0 by omega]
    rw [hz]
    exact K
theorem ww_objI {z : Nat × Nat × Nat} (pc : Nat) (X : mCX G own cc nL ret nm rm x) {idx a : Nat} (d : decode cc pc = .ok (.invokespecial idx, 3)) (h1 : Cond.methodLink own idx Lib.objectInit ∈ mtbl) (h2 : Cond.instanceMethod Lib.objectInit ∈ mtbl) (h3 : Cond.code Lib.objectInit ⟨#[0xb1]⟩ 1 none ∈ mtbl) (hfr : 1 ≤ rm.frames) (hlo : 8 + 12 ≤ rm.locals) (h8 : (st.map fun v => v.category).sum ≤ 8) (kk : WW x z M (pc + 3) lv st) : WW x z M pc lv (.ref a :: st) := by
  obtain ⟨D, G', A, p, l, e, R, s, m, args, below, meth, c, Q⟩ := x
  obtain ⟨hG, hrm, hx, hb, hml, hr, hlk, hnm, hown, hts, hK, hA, hE⟩ := X
  subst hrm
  intro H locs la hz hl hM hS
  exact W.objInit hx hb hown (hts _ h1) (hts _ h2) (hts _ h3) rfl hl.1 rfl d hfr (by show 2 * 0 + _ + 12 ≤ _; omega) (kk H locs la hz hl hM hS)
theorem ww_aast {z : Nat × Nat × Nat} (pc : Nat) (X : mCX G own cc nL ret nm rm x) {k a v ci : Nat} {i : Int32} (d : decode cc pc = .ok (.aastore, 1)) (hk : ci < 14) (hc : ∃ r : vw_C, mcl[ci]? = some r ∧ mty k = .object r.1) (h : sR M k a i v ci = some M') (kk : WW x z M' (pc + 1) lv st) : WW x z M pc lv (.ref v :: .int i :: .ref a :: st) := by
  obtain ⟨D, G', A, p, l, e, R, s, m, args, below, meth, c, Q⟩ := x
  obtain ⟨hG, hrm, hx, hb, hml, hr, hlk, hnm, hown, hts, hK, hA, hE⟩ := X
  intro H locs la hz hl hM hS
  obtain ⟨n, f, fs, h1, h2, h3, rfl⟩ := sR_spec h
  have h4 := inB_in h3
  have hlt : i.toNatClampNeg < n := Nat.not_le.mp fun q => h4 (Or.inr q)
  have h0 : ¬ i < 0 := fun q => h4 (Or.inl q)
  obtain ⟨z1, h5, hAa⟩ := hM a _ h1
  obtain ⟨-, ⟨r', hr', cellV, g1, g2, g3, -⟩, -⟩ := hM v _ h2
  · · obtain ⟨r, hr2, hty⟩ := hc
      have hcls := (hK.1 ci r hr2).2
      have key := (hK.2 k _ (mtys_at D z1)).2
      simp only [hty] at key
      obtain ⟨kA, comp, k1, k2, k3, -⟩ := key
      have hcomp : comp = D.1.1 ci := Option.some.inj (k3.symm.trans hcls.1)
      subst hcomp
      obtain ⟨kC, hkC, -⟩ := id hcls.2
      refine W.aast hx hb h5 (fun q h => by cases h) (fun h => by cases h) k1 k2 rfl hkC ⟨h0, by show _ < (arrV _ _ _).slots.size; rw [arrV_size]; exact hlt⟩ g1 (fun q h => by rw [g3] at h; cases h) (by rw [g2]; exact hkC) (by rw [g2]; exact va_assign hcls) rfl rfl d fun H1 e z2 oq => ?_
      refine kk H1 _ la (z2.trans hz) hl (hM.set ⟨z1, ?_, hAa⟩ oq) (hS.put z2 oq hAa)
      show H1[a]? = some (vp_cell _ _)
      rw [e, vp_cell_q, vp_cell_q, arrV_store]
      congr 2
      funext q
      by_cases hq : q = i.toNatClampNeg
      · subst hq
        simp [updV, va_up, va_rf]
      · simp [updV, va_up, hq]
end MALLOC
theorem aC_0 : Cond.arrayClass (newarray.typeOf .int) ∈ mtbl := mem_c1 (i := 65) (by decide +kernel) rfl
theorem aC_1 : Cond.arrayClass (newarray.typeOf .byte) ∈ mtbl := mem_c3 (i := 75) (by decide +kernel) rfl
theorem aC_2 : Cond.arrayClass (newarray.typeOf .long) ∈ mtbl := mem_c2 (i := 24) (by decide +kernel) rfl
theorem aC_3 : Cond.arrayClass (newarray.typeOf .boolean) ∈ mtbl := mem_c10 (i := 69) (by decide +kernel) rfl
theorem oI_i : Cond.instanceMethod Lib.objectInit ∈ mtbl := mem_c1 (i := 28) (by decide +kernel) rfl
theorem oI_c : Cond.code Lib.objectInit ⟨#[0xb1]⟩ 1 none ∈ mtbl := mem_c1 (i := 29) (by decide +kernel) rfl
theorem oL_X11_1 : Cond.methodLink RX11 1 Lib.objectInit ∈ mtbl := mem_c1 (i := 27) (by decide +kernel) rfl
theorem oL_X0_3 : Cond.methodLink RX0 3 Lib.objectInit ∈ mtbl := mem_c1 (i := 36) (by decide +kernel) rfl
theorem oL_X1_1 : Cond.methodLink RX1 1 Lib.objectInit ∈ mtbl := mem_c2 (i := 30) (by decide +kernel) rfl
theorem oL_X2_3 : Cond.methodLink RX2 3 Lib.objectInit ∈ mtbl := mem_c2 (i := 57) (by decide +kernel) rfl
theorem oL_X3_1 : Cond.methodLink RX3 1 Lib.objectInit ∈ mtbl := mem_c2 (i := 151) (by decide +kernel) rfl
theorem oL_X4_1 : Cond.methodLink RX4 1 Lib.objectInit ∈ mtbl := mem_c1 (i := 227) (by decide +kernel) rfl
theorem oL_X5_3 : Cond.methodLink RX5 3 Lib.objectInit ∈ mtbl := mem_c1 (i := 177) (by decide +kernel) rfl
theorem oL_X6_1 : Cond.methodLink RX6 1 Lib.objectInit ∈ mtbl := mem_c2 (i := 99) (by decide +kernel) rfl
theorem oL_X7_3 : Cond.methodLink RX7 3 Lib.objectInit ∈ mtbl := mem_c1 (i := 142) (by decide +kernel) rfl
theorem oL_X8_1 : Cond.methodLink RX8 1 Lib.objectInit ∈ mtbl := mem_c2 (i := 93) (by decide +kernel) rfl
theorem oL_X9_3 : Cond.methodLink RX9 3 Lib.objectInit ∈ mtbl := mem_c1 (i := 71) (by decide +kernel) rfl
theorem oL_X10_3 : Cond.methodLink RX10 3 Lib.objectInit ∈ mtbl := mem_c3 (i := 81) (by decide +kernel) rfl
theorem oL_X13_1 : Cond.methodLink RX13 1 Lib.objectInit ∈ mtbl := mem_c8 (i := 45) (by decide +kernel) rfl
theorem oL_X12_1 : Cond.methodLink RX12 1 Lib.objectInit ∈ mtbl := mem_c8 (i := 53) (by decide +kernel) rfl
theorem cK_X11_9 : Cond.classLink RX11 9 "SealedTokens$Bytes" ∈ mtbl := mem_c1 (i := 30) (by decide +kernel) rfl
theorem nW_X11_9 : mNew RX11 9 0 3 dfX0 := ⟨RX0, TX0, tyX0, rfl, by decide, inX0, tyX0_ok, cK_X11_9, mem_c1 (i := 32) (by decide +kernel) rfl, mem_c1 (i := 2) (by decide +kernel) rfl, by decide +kernel⟩
theorem cK_X11_37 : Cond.classLink RX11 37 "SealedTokens$Text" ∈ mtbl := mem_c1 (i := 66) (by decide +kernel) rfl
theorem nW_X11_37 : mNew RX11 37 9 11 dfX9 := ⟨RX9, TX9, tyX9, rfl, by decide, inX9, tyX9_ok, cK_X11_37, mem_c1 (i := 67) (by decide +kernel) rfl, mem_c1 (i := 4) (by decide +kernel) rfl, by decide +kernel⟩
theorem cK_X11_47 : Cond.classLink RX11 47 "SealedTokens$Reader" ∈ mtbl := mem_c1 (i := 137) (by decide +kernel) rfl
theorem nW_X11_47 : mNew RX11 47 7 9 dfX7 := ⟨RX7, TX7, tyX7, rfl, by decide, inX7, tyX7_ok, cK_X11_47, mem_c1 (i := 138) (by decide +kernel) rfl, mem_c1 (i := 5) (by decide +kernel) rfl, by decide +kernel⟩
theorem cK_X11_56 : Cond.classLink RX11 56 "SealedTokens$Key" ∈ mtbl := mem_c1 (i := 171) (by decide +kernel) rfl
theorem nW_X11_56 : mNew RX11 56 5 10 dfX5 := ⟨RX5, TX5, tyX5, rfl, by decide, inX5, tyX5_ok, cK_X11_56, mem_c1 (i := 173) (by decide +kernel) rfl, mem_c1 (i := 6) (by decide +kernel) rfl, by decide +kernel⟩
theorem cK_X11_67 : Cond.classLink RX11 67 "SealedTokens$Digest" ∈ mtbl := mem_c1 (i := 222) (by decide +kernel) rfl
theorem nW_X11_67 : mNew RX11 67 4 11 dfX4 := ⟨RX4, TX4, tyX4, rfl, by decide, inX4, tyX4_ok, cK_X11_67, mem_c1 (i := 223) (by decide +kernel) rfl, mem_c1 (i := 7) (by decide +kernel) rfl, by decide +kernel⟩
theorem cK_X11_74 : Cond.classLink RX11 74 "SealedTokens$Cipher" ∈ mtbl := mem_c2 (i := 25) (by decide +kernel) rfl
theorem nW_X11_74 : mNew RX11 74 1 6 dfX1 := ⟨RX1, TX1, tyX1, rfl, by decide, inX1, tyX1_ok, cK_X11_74, mem_c2 (i := 26) (by decide +kernel) rfl, mem_c1 (i := 8) (by decide +kernel) rfl, by decide +kernel⟩
theorem cK_X11_81 : Cond.classLink RX11 81 "SealedTokens$Content" ∈ mtbl := mem_c2 (i := 52) (by decide +kernel) rfl
theorem nW_X11_81 : mNew RX11 81 2 9 dfX2 := ⟨RX2, TX2, tyX2, rfl, by decide, inX2, tyX2_ok, cK_X11_81, mem_c2 (i := 53) (by decide +kernel) rfl, mem_c1 (i := 9) (by decide +kernel) rfl, by decide +kernel⟩
theorem cK_X11_90 : Cond.classLink RX11 90 "SealedTokens$Rsa" ∈ mtbl := mem_c2 (i := 88) (by decide +kernel) rfl
theorem nW_X11_90 : mNew RX11 90 8 6 dfX8 := ⟨RX8, TX8, tyX8, rfl, by decide, inX8, tyX8_ok, cK_X11_90, mem_c2 (i := 89) (by decide +kernel) rfl, mem_c1 (i := 10) (by decide +kernel) rfl, by decide +kernel⟩
theorem cK_X11_99 : Cond.classLink RX11 99 "SealedTokens$Curve" ∈ mtbl := mem_c2 (i := 146) (by decide +kernel) rfl
theorem nW_X11_99 : mNew RX11 99 3 16 dfX3 := ⟨RX3, TX3, tyX3, rfl, by decide, inX3, tyX3_ok, cK_X11_99, mem_c2 (i := 147) (by decide +kernel) rfl, mem_c1 (i := 12) (by decide +kernel) rfl, by decide +kernel⟩
theorem cK_X11_106 : Cond.classLink RX11 106 "SealedTokens$Token" ∈ mtbl := mem_c3 (i := 76) (by decide +kernel) rfl
theorem nW_X11_106 : mNew RX11 106 10 16 dfX10 := ⟨RX10, TX10, tyX10, rfl, by decide, inX10, tyX10_ok, cK_X11_106, mem_c3 (i := 77) (by decide +kernel) rfl, mem_c1 (i := 18) (by decide +kernel) rfl, by decide +kernel⟩
theorem cK_X2_20 : Cond.classLink RX2 20 "SealedTokens$Bytes" ∈ mtbl := mem_c2 (i := 58) (by decide +kernel) rfl
theorem nW_X2_20 : mNew RX2 20 0 3 dfX0 := ⟨RX0, TX0, tyX0, rfl, by decide, inX0, tyX0_ok, cK_X2_20, mem_c1 (i := 32) (by decide +kernel) rfl, mem_c1 (i := 2) (by decide +kernel) rfl, by decide +kernel⟩
theorem cK_X3_9 : Cond.classLink RX3 9 "[[J" ∈ mtbl := mem_c2 (i := 152) (by decide +kernel) rfl
theorem cK_X3_17 : Cond.classLink RX3 17 "SealedTokens$Modulus" ∈ mtbl := mem_c2 (i := 154) (by decide +kernel) rfl
theorem nW_X3_17 : mNew RX3 17 6 8 dfX6 := ⟨RX6, TX6, tyX6, rfl, by decide, inX6, tyX6_ok, cK_X3_17, mem_c2 (i := 95) (by decide +kernel) rfl, mem_c1 (i := 11) (by decide +kernel) rfl, by decide +kernel⟩
theorem cK_X3_65 : Cond.classLink RX3 65 "SealedTokens$Bytes" ∈ mtbl := mem_c2 (i := 160) (by decide +kernel) rfl
theorem nW_X3_65 : mNew RX3 65 0 3 dfX0 := ⟨RX0, TX0, tyX0, rfl, by decide, inX0, tyX0_ok, cK_X3_65, mem_c1 (i := 32) (by decide +kernel) rfl, mem_c1 (i := 2) (by decide +kernel) rfl, by decide +kernel⟩
theorem cK_X4_33 : Cond.classLink RX4 33 "SealedTokens$Bytes" ∈ mtbl := mem_c1 (i := 228) (by decide +kernel) rfl
theorem nW_X4_33 : mNew RX4 33 0 3 dfX0 := ⟨RX0, TX0, tyX0, rfl, by decide, inX0, tyX0_ok, cK_X4_33, mem_c1 (i := 32) (by decide +kernel) rfl, mem_c1 (i := 2) (by decide +kernel) rfl, by decide +kernel⟩
theorem cK_X5_15 : Cond.classLink RX5 15 "SealedTokens$Bytes" ∈ mtbl := mem_c1 (i := 178) (by decide +kernel) rfl
theorem nW_X5_15 : mNew RX5 15 0 3 dfX0 := ⟨RX0, TX0, tyX0, rfl, by decide, inX0, tyX0_ok, cK_X5_15, mem_c1 (i := 32) (by decide +kernel) rfl, mem_c1 (i := 2) (by decide +kernel) rfl, by decide +kernel⟩
theorem cK_X8_7 : Cond.classLink RX8 7 "SealedTokens$Modulus" ∈ mtbl := mem_c2 (i := 94) (by decide +kernel) rfl
theorem nW_X8_7 : mNew RX8 7 6 8 dfX6 := ⟨RX6, TX6, tyX6, rfl, by decide, inX6, tyX6_ok, cK_X8_7, mem_c2 (i := 95) (by decide +kernel) rfl, mem_c1 (i := 11) (by decide +kernel) rfl, by decide +kernel⟩
theorem cK_X8_20 : Cond.classLink RX8 20 "SealedTokens$Bytes" ∈ mtbl := mem_c2 (i := 125) (by decide +kernel) rfl
theorem nW_X8_20 : mNew RX8 20 0 3 dfX0 := ⟨RX0, TX0, tyX0, rfl, by decide, inX0, tyX0_ok, cK_X8_20, mem_c1 (i := 32) (by decide +kernel) rfl, mem_c1 (i := 2) (by decide +kernel) rfl, by decide +kernel⟩
theorem cK_X9_39 : Cond.classLink RX9 39 "SealedTokens$Bytes" ∈ mtbl := mem_c1 (i := 72) (by decide +kernel) rfl
theorem nW_X9_39 : mNew RX9 39 0 3 dfX0 := ⟨RX0, TX0, tyX0, rfl, by decide, inX0, tyX0_ok, cK_X9_39, mem_c1 (i := 32) (by decide +kernel) rfl, mem_c1 (i := 2) (by decide +kernel) rfl, by decide +kernel⟩
theorem cK_X10_9 : Cond.classLink RX10 9 "SealedTokens$Bytes" ∈ mtbl := mem_c3 (i := 82) (by decide +kernel) rfl
theorem nW_X10_9 : mNew RX10 9 0 3 dfX0 := ⟨RX0, TX0, tyX0, rfl, by decide, inX0, tyX0_ok, cK_X10_9, mem_c1 (i := 32) (by decide +kernel) rfl, mem_c1 (i := 2) (by decide +kernel) rfl, by decide +kernel⟩
theorem cK_L_7 : Cond.classLink RL 7 "SealedTokens" ∈ mtbl := mem_c1 (i := 22) (by decide +kernel) rfl
theorem nW_L_7 : mNew RL 7 11 18 dfX11 := ⟨RX11, TX11, tyX11, rfl, by decide, inX11, tyX11_ok, cK_L_7, mem_c1 (i := 23) (by decide +kernel) rfl, mem_c1 (i := 1) (by decide +kernel) rfl, by decide +kernel⟩
theorem cK_L_10 : Cond.classLink RL 10 "SealedTokensModel" ∈ mtbl := mem_c8 (i := 40) (by decide +kernel) rfl
theorem nW_L_10 : mNew RL 10 13 134 dfX13 := ⟨RX13, TX13, tyX13, rfl, by decide, inX13, tyX13_ok, cK_L_10, mem_c8 (i := 41) (by decide +kernel) rfl, mem_c1 (i := 19) (by decide +kernel) rfl, by decide +kernel⟩
theorem cK_X13_119 : Cond.classLink RX13 119 "SealedTokensModel$Mod" ∈ mtbl := mem_c8 (i := 48) (by decide +kernel) rfl
theorem nW_X13_119 : mNew RX13 119 12 9 dfX12 := ⟨RX12, TX12, tyX12, rfl, by decide, inX12, tyX12_ok, cK_X13_119, mem_c8 (i := 49) (by decide +kernel) rfl, mem_c1 (i := 20) (by decide +kernel) rfl, by decide +kernel⟩
