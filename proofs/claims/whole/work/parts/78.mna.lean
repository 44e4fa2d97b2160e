theorem mAO_any {args : Array Value} {s : State} (h : mAO (.array .long) s) : (Cond.arrayOver (.array .long)).before args s = true := h
/-! new long[n][k] -/
theorem mr_outer (c : ClassId) (N h0 : Nat) : ∀ i : Nat, Jvm.Free.Multi.outerC c N h0 i = arrV c N (fun j => va_rf (if j < i then some (h0 + 1 + j) else none))
  | 0 => by
    show ({ cls := c, slots := Array.replicate N .null, vm := .none } : Cell) = _
    rw [arrV_new]
    refine congrArg (arrV c N) (funext fun j => ?_)
    simp [va_rf]
  | i + 1 => by
    show (Jvm.Free.Multi.outerC c N h0 i).setSlot i (.ref (h0 + 1 + i)) = _
    rw [mr_outer c N h0 i, arrV_store]
    refine congrArg (arrV c N) (funext fun j => ?_)
    by_cases e : j = i
    · subst e
      simp [updV, va_rf]
    · by_cases h : j < i
      · simp [updV, e, h, Nat.lt_succ_of_lt h]
      · simp [updV, e, h, show ¬ j < i + 1 by omega]
section MMNA
variable {G : mG} {own : String} {cc : ByteArray} {nL : Nat} {ret : Option FieldType} {nm : String} {rm : Room} {x : mXT} {M M' : mM} {lv : List (Nat × Value)} {st : List Value} {sz sl z0 s0 : Nat}
set_option maxHeartbeats 1000000 in
theorem ww_mna (pc : Nat) (X : mCX G own cc nL ret nm rm x) {idx : Nat} {n k : Int32} (d : decode cc pc = .ok (.multianewarray idx 2, 4)) (hL : Cond.classLink own idx "[[J" ∈ mtbl) (h : nwG M sz n k = some M') (h1 : z0 ≤ sz) (h2 : s0 ≤ sl) (h3 : sz + (1 + n.toNatClampNeg) - z0 ≤ rm.cells) (h4 : sl + gsl n k - s0 ≤ rm.slots) (kk : WW x (sz + (1 + n.toNatClampNeg), sz + (1 + n.toNatClampNeg) - z0, sl + gsl n k - s0) M' (pc + 4) lv (.ref sz :: st)) : WW x (sz, sz - z0, sl - s0) M pc lv (.int k :: .int n :: st) := by
  obtain ⟨D, G', A, p, l, e, R, s, m, args, below, meth, c, Q⟩ := x
  obtain ⟨hG, hrm, hx, hb, hml, hr, hlk, hnm, hown, hts, hK, hA, hE⟩ := X
  subst hrm
  unfold nwG at h
  split at h
  · cases h
  · rename_i hn
    cases h
    intro H locs la hz hl hM hS
    have hz : H.size = sz := hz
    subst hz
    have hn0 : ¬ n < 0 := fun q => hn (Or.inl q)
    have hk0 : ¬ k < 0 := fun q => hn (Or.inr (Or.inl q))
    have hn1 : n.toNatClampNeg ≤ 1000 := by omega
    have hk1 : k.toNatClampNeg ≤ 1000 := by omega
    unfold gsl at h4 kk
    have hao : (Cond.arrayOver (.array .long)).before args s = true := mAO_any hE.2.2.2.2.2.2.2.2.1
    intro T hT Xs
    obtain ⟨vm₁, cA, comp, -, fA, fC, hO, -, X', step⟩ := Xs.multianewarray2F hx hown (ty := .long) (hts _ hL) hao (hts _ aC_2) (g := F0 m pc la (.int k :: .int n :: st)) rfl (by rw [hb]; exact d) rfl hn0 hk0 (by omega) (by show k.toNatClampNeg * 8 ≤ _; omega) (by omega) rfl rfl (by show H.size - z0 + _ ≤ _; omega) (by show sl - s0 + _ ≤ _; omega)
    have hA6 : cA = D.2 6 := by
      have q := (hK.2 6 _ (mtys_at D (by decide))).2
      exact Option.some.inj (fA.symm.trans q)
    have hA2 : comp = D.2 2 := by
      have q := (hK.2 2 _ (mtys_at D (by decide))).2
      exact Option.some.inj (fC.symm.trans q)
    subst hA6
    subst hA2
    generalize hF : Jvm.Free.Multi.fill (T.setVm vm₁) (D.2 6) (D.2 2) n.toNatClampNeg k.toNatClampNeg (defaultValue .long) n.toNatClampNeg = F at X' step
    have hTh : (T.setVm vm₁).heap = H := hT
    obtain ⟨f1, f2, -, -⟩ := Jvm.Free.Multi.fill_facts (T.setVm vm₁) (D.2 6) (D.2 2) n.toNatClampNeg k.toNatClampNeg (defaultValue .long) n.toNatClampNeg
    rw [hF, hTh] at f1 f2
    have hold : ∀ x : Nat, x < H.size → F.heap[x]? = H[x]? := fun x hx => by
      have := Jvm.Free.Multi.fill_old (T.setVm vm₁) (D.2 6) (D.2 2) n.toNatClampNeg k.toNatClampNeg (defaultValue .long) (a := x) (by rw [hTh]; exact hx) n.toNatClampNeg
      rw [hF, hTh] at this
      exact this
    have hrow : ∀ j : Nat, j < n.toNatClampNeg → F.heap[H.size + 1 + j]? = some (vp_cell (D.2 2) (k.toNatClampNeg, .inr (.inl (fun _ => 0)))) := fun j hj => by
      have := Jvm.Free.Multi.fill_inner (T.setVm vm₁) (D.2 6) (D.2 2) n.toNatClampNeg k.toNatClampNeg (defaultValue .long) n.toNatClampNeg j hj
      rw [hF, hTh] at this
      rw [this]
      show some (Jvm.Free.Multi.innerC _ _ _) = _
      unfold Jvm.Free.Multi.innerC
      rw [arrV_new]
      rfl
    have hout : Jvm.Free.Multi.outerC (D.2 6) n.toNatClampNeg H.size n.toNatClampNeg = vp_cell (D.2 6) (n.toNatClampNeg, .inr (.inr (.inr (.inr (fun i => if i < n.toNatClampNeg then some (H.size + 1 + i) else none))))) := by
      rw [vp_cell_q]
      exact mr_outer (D.2 6) n.toNatClampNeg H.size n.toNatClampNeg
    rw [hout] at f2
    have hAn : ∀ q, H.size ≤ q → A q := fun q hq => hA q (Nat.le_trans hS.1 hq)
    have hM' : mHold D A (fun a => if a = H.size then some (.inl (6, n.toNatClampNeg, .inr (.inr (.inr (.inr (fun i => if i < n.toNatClampNeg then some (H.size + 1 + i) else none)))))) else if H.size < a ∧ a ≤ H.size + n.toNatClampNeg then some (.inl (2, k.toNatClampNeg, .inr (.inl (fun _ => 0)))) else M a) F.heap := by
      intro a e' q
      dsimp only at q
      split at q
      · rename_i ha
        subst ha
        cases q
        exact ⟨by decide, f2, hAn _ (Nat.le_refl _)⟩
      · split at q
        · rename_i ha
          cases q
          have hj := hrow (a - (H.size + 1)) (by omega)
          rw [show H.size + 1 + (a - (H.size + 1)) = a by omega] at hj
          exact ⟨by decide, hj, hAn _ (by omega)⟩
        · exact (hM a e' q).kept (hold a (hM a e' q).lt)
    have hS' : va_S A s.heap F.heap locs := hS.grow (by omega) hold
    obtain ⟨t, a1, b1⟩ := kk F.heap locs la (by show F.heap.size = _; omega) hl hM' hS' F rfl (by
      show Stand p l e R s m args below meth c F locs (H.size + (1 + n.toNatClampNeg) - z0) (sl + (n.toNatClampNeg + n.toNatClampNeg * k.toNatClampNeg) - s0)
      rw [show H.size + (1 + n.toNatClampNeg) - z0 = H.size - z0 + 1 + n.toNatClampNeg by omega, show sl + (n.toNatClampNeg + n.toNatClampNeg * k.toNatClampNeg) - s0 = sl - s0 + n.toNatClampNeg + n.toNatClampNeg * k.toNatClampNeg by omega]
      exact X')
    refine ⟨t, step t ?_, b1⟩
    rw [hT]
    exact a1
end MMNA
