/-! THE CLASS'S CALLS keep what holds between calls: digests, ciphers, numbers, points -/
section CST2
variable {W : WR} {G : mG} {F : Nat} {S : ST} {z sl z0 s0 h : Nat} {τ t : List UInt8} {rows : Nat → List UInt8} {J : JT} {A : Nat → Option KY}
theorem C_gen {p : mM → Option (Int32 × mM)} {v : Int32} {S' : ST} {L : List (Nat × Nat)} {t' : List UInt8} (c : CI W S z sl z0 s0 τ rows t h J A) (q : p (mem W S) = some (v, mem W S')) (f : fr L S S') (nk : noK L) (n9 : ∀ i, (9, i) ∉ L) (np : ∀ i, i ∈ [0, 1, 2, 3, 4, 5, 6, 7, 8, 14, 15] → (0, i) ∉ L) (hL : ∀ x ∈ L, x.1 ≤ 11) (ht : ∃ l, Byt 8192 (S' 0 9) t' l) (ab : ∀ i room, (0, i) ∈ L → i ≠ 9 → isB W i room → ∃ xs l, Byt room (S' 0 i) xs l) (ck : ∃ V, CK S' V) (ib : IB S') : CSt p v W S z sl z0 s0 τ rows t' J A := by
  refine .mk q (c.out f nk (n9 h) np ht (fun i room hi hB => ?_) ck ib) f hL
  by_cases e : i = 9
  · subst e
    obtain ⟨l, b⟩ := ht
    rw [hB.one c.isa.1.sb]
    exact ⟨_, _, b⟩
  · exact ab i room hi e hB
theorem c67 {S' : ST} (c : CI W S z sl z0 s0 τ rows t h J A) (b : ∃ ys l, Byt 64 (S' 0 67) ys l) {room : Nat} (hB : isB W 67 room) : ∃ xs l, Byt room (S' 0 67) xs l := by
  rw [hB.one c.isa.2.1.in.2]
  exact b
theorem C_hash {r : Nat} {wide : Bool} (X : Cx G F W) (c : CI W S z sl z0 s0 τ rows t h J A) (hr : r < 8) : CSt (P_X11_hash G F (W.ad (.o 11 0)) (if wide then 512 else 256) (Int32.ofNat r)) ((Int32.ofNat (sha wide (rows r)).length)) W S z sl z0 s0 τ rows (sha wide (rows r)) J A := by
  obtain ⟨l, bt⟩ := c.2.2.2.2.2.1
  obtain ⟨lr, br⟩ := c.2.2.2.2.1 r hr
  obtain ⟨V, ck⟩ := c.2.2.2.2.2.2.2.1
  obtain ⟨iT, iD, iRs, iCu, iTK, iCi, iCo, r12, r13, r14, r15, r16, r17⟩ := c.isa
  obtain ⟨S', q, f, b⟩ := Q11_hash (G := G) (F := F) (S := S) (wide := wide) X iT iD r12 hr bt br
  exact C_gen c q f (by unfold noK; decide) (by simp) (by decide) (by decide) ⟨_, b⟩ (fun i room hi h9 => absurd hi (by simp; exact h9)) ⟨V, ck.fr f (by decide)⟩ (c.2.2.2.2.2.2.2.2.1.keep f (by decide))
theorem C_code {r rk : Nat} {wide : Bool} (X : Cx G F W) (c : CI W S z sl z0 s0 τ rows t h J A) (hr : r < 8) (hrk : rk < 8) : CSt (P_X11_code G F (W.ad (.o 11 0)) (if wide then 512 else 256) (Int32.ofNat rk) (Int32.ofNat r)) ((Int32.ofNat (hmac wide (rows rk) (rows r)).length)) W S z sl z0 s0 τ rows (hmac wide (rows rk) (rows r)) J A := by
  obtain ⟨l, bt⟩ := c.2.2.2.2.2.1
  obtain ⟨lr, br⟩ := c.2.2.2.2.1 r hr
  obtain ⟨lk, bk⟩ := c.2.2.2.2.1 rk hrk
  obtain ⟨V, ck⟩ := c.2.2.2.2.2.2.2.1
  obtain ⟨iT, iD, iRs, iCu, iTK, iCi, iCo, r12, r13, r14, r15, r16, r17⟩ := c.isa
  obtain ⟨x67, l67, b67⟩ := c.2.2.2.2.2.2.1 67 64 (by decide) iD.in.2
  obtain ⟨S', q, f, b, b'⟩ := Q11_code (G := G) (F := F) (S := S) (wide := wide) X iT iD r12 hr hrk bt br bk b67
  refine C_gen c q f (by unfold noK; decide) (by simp) (by decide) (by decide) ⟨_, b⟩ (fun i room hi h9 hB => ?_) ⟨V, ck.fr f (by decide)⟩ (c.2.2.2.2.2.2.2.2.1.keep f (by decide))
  have e : i = 67 := by simp at hi; omega
  subst e
  exact c67 c b' hB
theorem C_derive {ra rb rc rd many : Nat} (X : Cx G F W) (c : CI W S z sl z0 s0 τ rows t h J A) (ha : ra < 8) (hb : rb < 8) (hc : rc < 8) (hd : rd < 8) (hm : many = 16 ∨ many = 32 ∨ many = 64) : CSt (P_X11_derive G F (W.ad (.o 11 0)) (Int32.ofNat ra) (Int32.ofNat rb) (Int32.ofNat rc) (Int32.ofNat rd) (Int32.ofNat many)) (Int32.ofNat many) W S z sl z0 s0 τ rows (derF (rows ra) (rows rb) (rows rc) (rows rd) many) J A := by
  obtain ⟨l, bt⟩ := c.2.2.2.2.2.1
  obtain ⟨V, ck⟩ := c.2.2.2.2.2.2.2.1
  obtain ⟨iT, iD, iRs, iCu, iTK, iCi, iCo, r12, r13, r14, r15, r16, r17⟩ := c.isa
  obtain ⟨x67, l67, b67⟩ := c.2.2.2.2.2.2.1 67 64 (by decide) iD.in.2
  obtain ⟨S', q, f, b, b'⟩ := Q11_derive (G := G) (F := F) (S := S) X iT iD r12 ha hb hc hd hm bt c.2.2.2.2.1 b67
  refine C_gen c q f (by unfold noK; decide) (by simp) (by decide) (by decide) ⟨_, b⟩ (fun i room hi h9 hB => ?_) ⟨V, ck.fr f (by decide)⟩ (c.2.2.2.2.2.2.2.2.1.keep f (by decide))
  have e : i = 67 := by simp at hi; omega
  subst e
  exact c67 c b' hB
theorem C_block {x y bk : Int32} {back : Bool} (hbk : bk = if back then 1 else 0) (X : Cx G F W) (c : CI W S z sl z0 s0 τ rows t h J A) : CSt (P_X11_block G F (W.ad (.o 11 0)) x y bk) (match blockF rows x y back with | some u => (Int32.ofNat u.length) | none => -2) W S z sl z0 s0 τ rows (match blockF rows x y back with | some u => u | none => t) J A := by
  obtain ⟨l, bt⟩ := c.2.2.2.2.2.1
  obtain ⟨V, ck⟩ := c.2.2.2.2.2.2.2.1
  obtain ⟨iT, iD, iRs, iCu, iTK, iCi, iCo, r12, r13, r14, r15, r16, r17⟩ := c.isa
  obtain ⟨S', q, f, a, b⟩ := Q11_block (G := G) (F := F) (S := S) (x := x) (y := y) hbk X iT iCi r13 c.2.2.2.2.2.2.2.2.1 bt c.2.2.2.2.1
  refine C_gen c q f (by unfold noK; decide) (by simp) (by decide) (by decide) ?_ (fun i room hi h9 => absurd hi (by simp; exact h9)) ⟨V, ck.fr f (by decide)⟩ (c.2.2.2.2.2.2.2.2.1.ag a (by decide))
  cases e : blockF rows x y back with
  | some u => rw [e] at b; exact ⟨_, b⟩
  | none =>
    rw [e] at b
    have b : S' = S := b
    rw [b]
    exact ⟨l, bt⟩
theorem C_wrap {x y : Int32} (X : Cx G F W) (c : CI W S z sl z0 s0 τ rows t h J A) : CSt (P_X11_wrap G F (W.ad (.o 11 0)) x y) (match wrapC rows x y with | some u => (Int32.ofNat u.length) | none => -2) W S z sl z0 s0 τ rows (match wrapC rows x y with | some u => u | none => t) J A := by
  obtain ⟨l, bt⟩ := c.2.2.2.2.2.1
  obtain ⟨V, ck⟩ := c.2.2.2.2.2.2.2.1
  obtain ⟨iT, iD, iRs, iCu, iTK, iCi, iCo, r12, r13, r14, r15, r16, r17⟩ := c.isa
  obtain ⟨S', q, f, a, b⟩ := Q11_wrap (G := G) (F := F) (S := S) (x := x) (y := y) X iT iCi r13 bt c.2.2.2.2.1
  refine C_gen c q f (by unfold noK; decide) (by simp) (by decide) (by decide) ?_ (fun i room hi h9 => absurd hi (by simp; exact h9)) ⟨V, ck.fr f (by decide)⟩ (c.2.2.2.2.2.2.2.2.1.ag a (by decide))
  cases e : wrapC rows x y with
  | some u => rw [e] at b; exact ⟨_, b⟩
  | none =>
    rw [e] at b
    have b : S' = S := b
    rw [b]
    exact ⟨l, bt⟩
theorem C_unwrap {x y : Int32} (X : Cx G F W) (c : CI W S z sl z0 s0 τ rows t h J A) : CSt (P_X11_unwrap G F (W.ad (.o 11 0)) x y) (match unwrapC rows x y with | some (some u) => (Int32.ofNat u.length) | some none => -1 | none => -2) W S z sl z0 s0 τ rows (match unwrapC rows x y with | some (some u) => u | some none => t | none => t) J A := by
  obtain ⟨l, bt⟩ := c.2.2.2.2.2.1
  obtain ⟨V, ck⟩ := c.2.2.2.2.2.2.2.1
  obtain ⟨iT, iD, iRs, iCu, iTK, iCi, iCo, r12, r13, r14, r15, r16, r17⟩ := c.isa
  obtain ⟨S', q, f, a, b⟩ := Q11_unwrap (G := G) (F := F) (S := S) (x := x) (y := y) X iT iCi r13 c.2.2.2.2.2.2.2.2.1 bt c.2.2.2.2.1
  refine C_gen c q f (by unfold noK; decide) (by simp) (by decide) (by decide) ?_ (fun i room hi h9 => absurd hi (by simp; exact h9)) ⟨V, ck.fr f (by decide)⟩ (c.2.2.2.2.2.2.2.2.1.ag a (by decide))
  rcases e : unwrapC rows x y with _ | _ | u
  · rw [e] at b
    have b : S' = S := b
    rw [b]
    exact ⟨l, bt⟩
  · rw [e] at b
    have b : S' 0 9 = S 0 9 := b
    rw [b]
    exact ⟨l, bt⟩
  · rw [e] at b
    exact ⟨_, b⟩
theorem C_power {x y w : Int32} (X : Cx G F W) (c : CI W S z sl z0 s0 τ rows t h J A) : CSt (P_X11_power G F (W.ad (.o 11 0)) x y w) (match powC rows x y w with | some u => (Int32.ofNat u.length) | none => -2) W S z sl z0 s0 τ rows (match powC rows x y w with | some u => u | none => t) J A := by
  obtain ⟨l, bt⟩ := c.2.2.2.2.2.1
  obtain ⟨V, ck⟩ := c.2.2.2.2.2.2.2.1
  obtain ⟨iT, iD, iRs, iCu, iTK, iCi, iCo, r12, r13, r14, r15, r16, r17⟩ := c.isa
  obtain ⟨S', q, f, b⟩ := Q11_power (G := G) (F := F) (S := S) (x := x) (y := y) (z := w) X iT iRs r15 bt c.2.2.2.2.1
  refine C_gen c q f (by unfold noK; decide) (by simp) (by decide) (by decide) ?_ (fun i room hi h9 => absurd hi (by simp; exact h9)) ⟨V, ck.fr f (by decide)⟩ (c.2.2.2.2.2.2.2.2.1.keep f (by decide))
  cases e : powC rows x y w with
  | some u => rw [e] at b; exact ⟨_, b⟩
  | none =>
    rw [e] at b
    have b : S' = S := b
    rw [b]
    exact ⟨l, bt⟩
theorem C_multiply {x y : Int32} (X : Cx G F W) (c : CI W S z sl z0 s0 τ rows t h J A) : CSt (P_X11_multiply G F (W.ad (.o 11 0)) x y) (match mulC rows x y with | some (some u) => (Int32.ofNat u.length) | some none => -1 | none => -2) W S z sl z0 s0 τ rows (match mulC rows x y with | some (some u) => u | some none => t | none => t) J A := by
  obtain ⟨l, bt⟩ := c.2.2.2.2.2.1
  obtain ⟨V, ck⟩ := c.2.2.2.2.2.2.2.1
  obtain ⟨iT, iD, iRs, iCu, iTK, iCi, iCo, r12, r13, r14, r15, r16, r17⟩ := c.isa
  obtain ⟨x10, l10, b10⟩ := c.2.2.2.2.2.2.1 10 0 (by decide) iT.nb
  have e10 : x10 = [] := List.eq_nil_of_length_eq_zero (by have := b10.le; omega)
  rw [e10] at b10
  obtain ⟨S', V', q, f, K', b⟩ := Q11_multiply (G := G) (F := F) (S := S) (x := x) (y := y) pr_p X iT iCu r16 ck b10 bt c.2.2.2.2.1
  refine C_gen c q f (by unfold noK; decide) (by simp) (by decide) (by decide) ?_ (fun i room hi h9 => absurd hi (by simp; exact h9)) ⟨V', K'⟩ (c.2.2.2.2.2.2.2.2.1.keep f (by decide))
  rcases e : mulC rows x y with _ | _ | u
  · rw [e] at b
    have b : S' 0 9 = S 0 9 := b
    rw [b]
    exact ⟨l, bt⟩
  · rw [e] at b
    have b : S' 0 9 = S 0 9 := b
    rw [b]
    exact ⟨l, bt⟩
  · rw [e] at b
    exact ⟨_, b⟩
theorem C_write {v : Nat} {L : List UInt8} (X : Cx G F W) (c : CI W S z sl z0 s0 τ rows t h J A) (Y : JX J) (hv : v < J.1) (hL : wtS J v L) : CSt (P_X11_write G F (W.ad (.o 11 0)) (Int32.ofNat v)) (if L.length ≤ 8192 then (Int32.ofNat L.length) else -3) W S z sl z0 s0 τ rows (if L.length ≤ 8192 then L else t) J A := by
  obtain ⟨l, bt⟩ := c.2.2.2.2.2.1
  obtain ⟨tb, lp, bp⟩ := c.2.2.1
  obtain ⟨V, ck⟩ := c.2.2.2.2.2.2.2.1
  have h2 := c.1
  obtain ⟨x13, l13, b13⟩ := c.2.2.2.2.2.2.1 13 8192 (by decide) c.isa.1.pb
  obtain ⟨S', q, f, b, b'⟩ := Q11_write (G := G) (F := F) (S := S) X c.isa.1 c.h7 c.tx tb Y bp ⟨by omega, by omega⟩ bt b13 hv hL
  refine C_gen c q f (by unfold noK; decide) (by simp) (by decide) (by decide) b (fun i room hi h9 hB => ?_) ⟨V, ck.fr f (by decide)⟩ (c.2.2.2.2.2.2.2.2.1.keep f (by decide))
  have e : i = 13 := by simp at hi; omega
  subst e
  rw [hB.one c.isa.1.pb]
  exact b'
end CST2
