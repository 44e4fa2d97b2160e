/-! THE CLASS'S CALLS keep what holds between calls -/
/-- a call of the class: its answer, and that it keeps to its own things -/
def CSt (p : mM → Option (Int32 × mM)) (v : Int32) (W : WR) (S : ST) (z sl z0 s0 : Nat) (τ : List UInt8) (rows : Nat → List UInt8) (t : List UInt8) (J : JT) (A : Nat → Option KY) : Prop := ∃ W' S' h', p (mem W S) = some (v, mem W' S') ∧ CI W' S' z sl z0 s0 τ rows t h' J A ∧ WY W W' ∧ (∀ i, S' 12 i = S 12 i) ∧ S' 13 0 = S 13 0
section CST
variable {W : WR} {G : mG} {F : Nat} {S : ST} {z sl z0 s0 h : Nat} {τ t : List UInt8} {rows : Nat → List UInt8} {J : JT} {A : Nat → Option KY}
theorem CSt.same {p : mM → Option (Int32 × mM)} {v : Int32} (c : CI W S z sl z0 s0 τ rows t h J A) (g : p (mem W S) = some (v, mem W S)) : CSt p v W S z sl z0 s0 τ rows t J A := ⟨W, S, h, g, c, WY.refl W, fun _ => rfl, rfl⟩
theorem CSt.mk {p : mM → Option (Int32 × mM)} {v : Int32} {S' : ST} {L : List (Nat × Nat)} {τ' t' : List UInt8} {rows' : Nat → List UInt8} {J' : JT} {A' : Nat → Option KY} (g : p (mem W S) = some (v, mem W S')) (c : CI W S' z sl z0 s0 τ' rows' t' h J' A') (f : fr L S S') (hL : ∀ x ∈ L, x.1 ≤ 11) : CSt p v W S z sl z0 s0 τ' rows' t' J' A' := ⟨W, S', h, g, c, WY.refl W, fun i => f 12 i (fun q => absurd (hL _ q) (by simp)), f 13 0 (fun q => absurd (hL _ q) (by simp))⟩
theorem C_feed (c : CI W S z sl z0 s0 τ rows t h J A) (a b d e g : Int32) : CSt (P_X11_feed G F (W.ad (.o 11 0)) a b d e g) (if τ.length + 20 ≤ 8192 then (Int32.ofNat (τ.length + 20)) else -2) W S z sl z0 s0 (if τ.length + 20 ≤ 8192 then τ ++ fed a b d e g else τ) rows t J A := by
  obtain ⟨l, bt⟩ := c.2.2.2.1
  obtain ⟨V, ck⟩ := c.2.2.2.2.2.2.2.1
  have h2 := c.1
  obtain ⟨o, q, b⟩ := Q11_feed (G := G) (F := F) (S := S) (a := a) (b := b) (c := d) (d := e) (e := g) c.isa.1 bt
  have f : fr [(0, 8)] S (S.so 0 8 o) := fr_so (by decide)
  refine .mk q (c.go f (by unfold noK; decide) (by simp) (by simp; omega) ⟨l, by rw [so_eq]; exact b⟩ (fun r hr => by rw [so_ne (by omega)]; exact c.2.2.2.2.1 r hr) (by rw [so_ne (by decide)]; exact c.2.2.2.2.2.1) (c.2.2.2.2.2.2.1.so c.isa.1.tb b) ⟨V, ck.fr f (by decide)⟩ (c.2.2.2.2.2.2.2.2.1.keep f (by decide))) f (by decide)
theorem C_end (c : CI W S z sl z0 s0 τ rows t h J A) (n : Int32) : CSt (P_X11_end G F (W.ad (.o 11 0)) n) (if 0 ≤ n ∧ n ≤ (Int32.ofNat τ.length) then n else -2) W S z sl z0 s0 (if 0 ≤ n ∧ n ≤ (Int32.ofNat τ.length) then τ.take n.toNatClampNeg else τ) rows t J A := by
  obtain ⟨l, bt⟩ := c.2.2.2.1
  obtain ⟨V, ck⟩ := c.2.2.2.2.2.2.2.1
  have h2 := c.1
  obtain ⟨o, q, b⟩ := Q11_end (G := G) (F := F) (S := S) (n := n) c.isa.1 bt
  have f : fr [(0, 8)] S (S.so 0 8 o) := fr_so (by decide)
  refine .mk q (c.go f (by unfold noK; decide) (by simp) (by simp; omega) ⟨l, by rw [so_eq]; exact b⟩ (fun r hr => by rw [so_ne (by omega)]; exact c.2.2.2.2.1 r hr) (by rw [so_ne (by decide)]; exact c.2.2.2.2.2.1) (c.2.2.2.2.2.2.1.so c.isa.1.tb b) ⟨V, ck.fr f (by decide)⟩ (c.2.2.2.2.2.2.2.2.1.keep f (by decide))) f (by decide)
theorem noK_r {r : Nat} (hr : r < 8) {L : List (Nat × Nat)} (h : noK L) : noK ((0, r) :: L) := fun x hx => by
  rcases List.mem_cons.mp hx with e | e
  · rw [e]
    exact ⟨by show 0 ≠ 5; decide, fun _ => Or.inl (by show r < 16; omega)⟩
  · exact h x e
theorem ck_r {V : Nat → Int} {S' : ST} {r : Nat} (hr : r < 8) (K : CK S V) (f : fr [(0, r), (0, 8)] S S') : CK S' V := K.fr f (fun x hx q => by
  simp only [List.mem_cons, List.not_mem_nil, or_false] at hx q
  rcases q with q | q <;> rcases hx with e | e | e | e | e | e | e | e <;> rw [e] at q <;> simp at q <;> omega)
theorem C_row {r : Nat} (c : CI W S z sl z0 s0 τ rows t h J A) (hr : r < 8) : CSt (P_X11_row G F (W.ad (.o 11 0)) (Int32.ofNat r)) (Int32.ofNat τ.length) W S z sl z0 s0 [] (setR rows r τ) t J A := by
  obtain ⟨l, bt⟩ := c.2.2.2.1
  obtain ⟨V, ck⟩ := c.2.2.2.2.2.2.2.1
  obtain ⟨lr, br⟩ := c.2.2.2.2.1 r hr
  have h2 := c.1
  obtain ⟨o, o', q, b, b'⟩ := Q11_row (G := G) (F := F) (S := S) c.isa.1 hr bt br
  have f : fr [(0, r), (0, 8)] S ((S.so 0 r o).so 0 8 o') := (fr_so (by simp)).trans (fr_so (by simp))
  refine .mk q (c.go f (noK_r hr (by unfold noK; decide)) (by simp) (by simp; omega) ⟨false, by rw [so_eq]; exact b'⟩ (fun r' hr' => ?_) (by rw [so_ne (by decide), so_ne (by omega)]; exact c.2.2.2.2.2.1) ((c.2.2.2.2.2.2.1.so (c.isa.1.rb r hr) b).so c.isa.1.tb b') ⟨V, ck_r hr ck f⟩ (c.2.2.2.2.2.2.2.2.1.keep f (by simp))) f (by simp)
  rw [so_ne (by omega)]
  unfold setR
  by_cases e : r' = r
  · rw [if_pos e, e, so_eq]
    exact ⟨_, b⟩
  · rw [if_neg e, so_ne (by omega)]
    exact c.2.2.2.2.1 r' hr'
theorem C_rowSet {r : Nat} {p : mM → Option (Int32 × mM)} {v : Int32} {o : Ob} {u : List UInt8} {l : Bool} (c : CI W S z sl z0 s0 τ rows t h J A) (hr : r < 8) (q : p (mem W S) = some (v, mem W (S.so 0 r o))) (b : Byt 8192 o u l) : CSt p v W S z sl z0 s0 τ (setR rows r u) t J A := by
  obtain ⟨V, ck⟩ := c.2.2.2.2.2.2.2.1
  have h2 := c.1
  have f : fr [(0, r)] S (S.so 0 r o) := fr_so (by simp)
  refine .mk q (c.go f (noK_r hr (fun x hx => absurd hx (by simp))) (by simp) (by simp; omega) (by rw [so_ne (by omega)]; exact c.2.2.2.1) (fun r' hr' => ?_) (by rw [so_ne (by omega)]; exact c.2.2.2.2.2.1) (c.2.2.2.2.2.2.1.so (c.isa.1.rb r hr) b) ⟨V, ck_r hr ck (f.mono (by simp))⟩ (c.2.2.2.2.2.2.2.2.1.keep f (by simp))) f (by simp)
  unfold setR
  by_cases e : r' = r
  · rw [if_pos e, e, so_eq]
    exact ⟨_, b⟩
  · rw [if_neg e, so_ne (by omega)]
    exact c.2.2.2.2.1 r' hr'
theorem C_keep {r : Nat} (c : CI W S z sl z0 s0 τ rows t h J A) (hr : r < 8) : CSt (P_X11_keep G F (W.ad (.o 11 0)) (Int32.ofNat r)) (Int32.ofNat t.length) W S z sl z0 s0 τ (setR rows r t) t J A := by
  obtain ⟨l, bt⟩ := c.2.2.2.2.2.1
  obtain ⟨lr, br⟩ := c.2.2.2.2.1 r hr
  obtain ⟨o, q, b⟩ := Q11_keep (G := G) (F := F) (S := S) c.isa.1 hr bt br
  exact C_rowSet c hr q b
theorem C_poke {r j y : Nat} (c : CI W S z sl z0 s0 τ rows t h J A) (hr : r < 8) (hj : j < (rows r).length) (hy : y < 256) : CSt (P_X11_poke G F (W.ad (.o 11 0)) (Int32.ofNat r) (Int32.ofNat j) (Int32.ofNat y)) (b32 ((rows r)[j] ^^^ UInt8.ofNat y)) W S z sl z0 s0 τ (setR rows r ((rows r).set j ((rows r)[j] ^^^ UInt8.ofNat y))) t J A := by
  obtain ⟨lr, br⟩ := c.2.2.2.2.1 r hr
  obtain ⟨o, q, b⟩ := Q11_poke (G := G) (F := F) (S := S) c.isa.1 hr br hj hy
  exact C_rowSet c hr q b
/-- only what is shown changes -/
theorem C_show {p : mM → Option (Int32 × mM)} {v : Int32} {o : Ob} {u : List UInt8} {l : Bool} (c : CI W S z sl z0 s0 τ rows t h J A) (q : p (mem W S) = some (v, mem W (S.so 0 9 o))) (b : Byt 8192 o u l) : CSt p v W S z sl z0 s0 τ rows u J A := by
  obtain ⟨V, ck⟩ := c.2.2.2.2.2.2.2.1
  have f : fr [(0, 9)] S (S.so 0 9 o) := fr_so (by decide)
  refine .mk q (c.out f (by unfold noK; decide) (by simp) (by decide) ⟨l, by rw [so_eq]; exact b⟩ (fun i room hi hB => ?_) ⟨V, ck.fr f (by decide)⟩ (c.2.2.2.2.2.2.2.2.1.keep f (by decide))) f (by decide)
  have e : i = 9 := by simpa using hi
  subst e
  rw [so_eq, hB.one c.isa.1.sb]
  exact ⟨_, _, b⟩
theorem C_encode {r : Nat} (X : Cx G F W) (c : CI W S z sl z0 s0 τ rows t h J A) (hr : r < 8) : CSt (P_X11_encode G F (W.ad (.o 11 0)) (Int32.ofNat r)) (if (enc (rows r)).length ≤ 8192 then (Int32.ofNat (enc (rows r)).length) else -3) W S z sl z0 s0 τ rows (if (enc (rows r)).length ≤ 8192 then enc (rows r) else t) J A := by
  obtain ⟨l, bt⟩ := c.2.2.2.2.2.1
  obtain ⟨lr, br⟩ := c.2.2.2.2.1 r hr
  obtain ⟨o, q, b, b'⟩ := Q11_encode (G := G) (F := F) (S := S) X c.isa.1 hr bt br
  by_cases e : (enc (rows r)).length ≤ 8192
  · rw [if_pos e, if_pos e]
    rw [if_pos e] at q
    exact C_show c q (b e)
  · rw [if_neg e, if_neg e]
    rw [if_neg e] at q
    exact C_show c q (by rw [b' e]; exact bt)
theorem C_decode {r : Nat} (X : Cx G F W) (c : CI W S z sl z0 s0 τ rows t h J A) (hr : r < 8) : CSt (P_X11_decode G F (W.ad (.o 11 0)) (Int32.ofNat r)) (match fltF (rows r) with | some k => -100 - (Int32.ofNat k) | none => (Int32.ofNat (dec (rows r)).length)) W S z sl z0 s0 τ rows (if fltF (rows r) = none then dec (rows r) else t) J A := by
  obtain ⟨l, bt⟩ := c.2.2.2.2.2.1
  obtain ⟨lr, br⟩ := c.2.2.2.2.1 r hr
  obtain ⟨o, q, b, b'⟩ := Q11_decode (G := G) (F := F) (S := S) X c.isa.1 hr bt br
  by_cases e : fltF (rows r) = none
  · rw [if_pos e]
    exact C_show c q (b e)
  · rw [if_neg e]
    exact C_show c q (by rw [b' e]; exact bt)
theorem C_text (c : CI W S z sl z0 s0 τ rows t h J A) (Y : JX J) (x : Int32) : CSt (P_X11_text G F (W.ad (.o 11 0)) x) (match txtF J x with | some u => (Int32.ofNat u.length) | none => -2) W S z sl z0 s0 τ rows (match txtF J x with | some u => u | none => t) J A := by
  obtain ⟨l, bt⟩ := c.2.2.2.2.2.1
  obtain ⟨tb, lp, bp⟩ := c.2.2.1
  have h2 := c.1
  obtain ⟨o, q, b⟩ := Q11_text (G := G) (F := F) (S := S) (x := x) c.isa.1 c.h7 c.tx tb Y bp (by omega) bt
  cases e : txtF J x with
  | some u =>
    rw [e] at q b
    exact C_show c q b
  | none =>
    rw [e] at q b
    have b : o = S 0 9 := b
    exact C_show c q (by rw [b]; exact bt)
theorem C_name (c : CI W S z sl z0 s0 τ rows t h J A) (Y : JX J) (x : Int32) : CSt (P_X11_name G F (W.ad (.o 11 0)) x) (match namF J x with | some u => (Int32.ofNat u.length) | none => -2) W S z sl z0 s0 τ rows (match namF J x with | some u => u | none => t) J A := by
  obtain ⟨l, bt⟩ := c.2.2.2.2.2.1
  obtain ⟨tb, lp, bp⟩ := c.2.2.1
  have h2 := c.1
  obtain ⟨o, q, b⟩ := Q11_name (G := G) (F := F) (S := S) (x := x) c.isa.1 c.h7 c.tx tb Y bp (by omega) bt
  cases e : namF J x with
  | some u =>
    rw [e] at q b
    exact C_show c q b
  | none =>
    rw [e] at q b
    have b : o = S 0 9 := b
    exact C_show c q (by rw [b]; exact bt)
end CST
