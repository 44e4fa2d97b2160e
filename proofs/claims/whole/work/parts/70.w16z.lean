/-! a static call that leaves more than 8 slots on the stack -/
section WIDE
variable {G : mG} {own : String} {cc : ByteArray} {nL : Nat} {ret : Option FieldType} {nm : String} {rm : Room} {x : mXT} {z : Nat × Nat × Nat} {M M' : mM} {lv : List (Nat × Value)} {st : List Value}
variable {idx maxL n fr lo mc ms sz' a ci : Nat} {y : MethodName} {b : ByteArray} {ret' : Option FieldType} {As rest fs : List Value}
theorem runS16 {p : Program} {l : Launch} {e : Env} {R : Room} {s : State} {m : MethodId} {args : Array Value} {below : List Frame} {meth : Method} {c : Code} {H : Heap} {locs : List Loc} {cells slots : Nat} {Ts ws : List Cond} {cc bytes : ByteArray} {nL maxL index n mc ms : Nat} {own : String} {y : MethodName} {ret : Option FieldType} {rm : Room} {Pc : Array Value → State → Prop} {Qc : Array Value → State → Outcome → State → Prop} {free : Addr → Prop} {As rest : List Value} {g : JFrame} (S : CallFix p m c cc nL s args Ts own) (hM : Met l y ws rm Pc Qc mc ms free) (cw : CallB R s args own index y bytes maxL ret ws rm mc ms n ∧ (Cond.static y).before args s = true) (h16 : 16 + (maxL + 11) + rm.locals ≤ R.locals) (hp : PreS s H Pc As)
    (hg : g.method = m) (hn : As.length = n) (hsize : g.locals.size = nL) (hstack : g.stack = As.reverse ++ rest) (hW : 2 * g.monitorRoom + (rest.map fun v => v.category).sum ≤ 16) (hdg : decode cc g.pc = .ok (.invokestatic index, 3)) (hf : cells + mc ≤ R.cells ∧ slots + ms ≤ R.slots) :
    va_Run p l e R s m args below meth c H locs cells slots mc ms g rest (Qc As.toArray) (free) := by
  obtain ⟨⟨hrc, hrs, hfr, hlo, hws, hcw, hcode, hini, hy, hlen, hl⟩, hstt⟩ := cw
  have hK : Back l R p e below s args y 3 16 (PreOf R mc ms Pc) (PostOf Qc mc ms free) := back_of (bytes := bytes) (maxL := maxL) (ret := ret) hM hp.1 hrc hrs hfr h16 hws hcw (fun a' U hW => word_at hW (Or.inl (by first | rfl | simp [Cond.onTables, Cond.keeps, Cond.steady])) hini)
  obtain ⟨hx, hb, hml, ho, -⟩ := S
  intro T hT X
  obtain ⟨v, vm₁, ⟨U', l2, c2, s2⟩, hW₁, X', ⟨g', mk, t, L, e1, e2, hq, h1, hL, h2, h3⟩, st⟩ := callS X hx (bytes := bytes) (maxL := maxL) (ret := ret) ho hl hstt hini hcode hy hK hg (hsize.trans hml.symm) (argsL := As) (rest := rest) (fun sig h => hn.trans (hlen sig h)) hstack hW (by rw [hb]; exact hdg)
    (fun vm₁ hW₁ => ⟨hf.1, hf.2, hp.2 (T.setVm vm₁) hT hW₁⟩)
  dsimp only [Pt.U, Pt.locs, Pt.cells, Pt.slots] at X' e1 e2 h1 h2 h3 st
  subst h1; subst h2; subst h3
  exact ⟨v, (T.setVm vm₁).calling g' mk As.toArray, t, U', L, hT, X', hL, e1, e2, hq, st⟩
theorem ww_callSI0w (pc : Nat) (X : mCX G own cc nL ret nm rm x) {sz : Nat} {r : Int32} (d : decode cc pc = .ok (.invokestatic idx, 3)) (hY : mYS y b maxL ret' n) (hL : Cond.methodLink own idx y ∈ mtbl) (hn : As.length = n) (hst : As.reverse ++ rest = st) (hR : fr + 1 ≤ rm.frames ∧ 16 + (maxL + 11) + lo ≤ rm.locals) (h8 : (rest.map fun v => v.category).sum ≤ 16) (hc : ∀ l D A, mMetI l D G A y b maxL ret' fr lo 0 0 As M sz r M' sz) (kk : WW x (sz, 0, 0) M' (pc + 3) lv (.int r :: rest)) : WW x (sz, 0, 0) M pc lv st := by
  obtain ⟨D, G', A, p, l, e, R, s, m, args, below, meth, c, Q⟩ := x
  obtain ⟨hG, hrm, hx, hb, hml, hr, hlk, hnm, hown, hts, hK, hA, hE⟩ := X
  subst hG
  subst hrm
  subst hst
  obtain ⟨hcode, hstat, hini, h1, h2, h3⟩ := hY
  have cw : CallB R s args own idx y b maxL ret' (mws y b maxL ret') { frames := fr, cells := 0, slots := 0, locals := lo } 0 0 n ∧ (Cond.static y).before args s = true := ⟨callB_of n hts (mgoodY hcode) rfl rfl rfl (hts _ hini) (hts _ hL) ⟨h1, h2, h3⟩ ⟨hR.1, by have := hR.2; show 8 + (maxL + 11) + lo ≤ R.locals; omega⟩, hts _ hstat⟩
  intro H locs la hz hl hM hS
  refine va_calli (runS16 (As := As) (rest := rest) ⟨hx, hb, hml, hown, hts⟩ (hc l D A) cw hR.2 ⟨fun a U g mk q => ⟨q.1, q.2.calling g mk a⟩, fun U hU hW => ⟨rfl, mPre_of hU hW hz hM hK hA hE hS⟩⟩ rfl hn (hl.1.trans hml) rfl (by show 2 * 0 + _ ≤ 16; omega) d ⟨Nat.zero_le _, Nat.zero_le _⟩) hS (fun q _ h => h) (fun q h => h) (fun r' u t H1 locs1 ht hvm hw hB hz1 hk1 hS1 => ?_)
  subst hw
  have hB2 := hB.2
  rw [ht] at hB2
  exact kk H1 locs1 la (by rw [← ht]; exact hB.1) hl hB2 hS1
end WIDE
