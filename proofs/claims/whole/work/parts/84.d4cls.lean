/-! THE CLASS'S CALLS keep what holds between calls: seals, texts, keys, tokens -/
section CST3
variable {W : WR} {G : mG} {F : Nat} {S : ST} {z sl z0 s0 h : Nat} {τ t : List UInt8} {rows : Nat → List UInt8} {J : JT} {A : Nat → Option KY}
theorem c68 {S' : ST} (c : CI W S z sl z0 s0 τ rows t h J A) (b : ∃ ys l, Byt 64 (S' 0 68) ys l) {room : Nat} (hB : isB W 68 room) : ∃ xs l, Byt room (S' 0 68) xs l := by
  rw [hB.one c.isa.2.2.2.2.2.2.1.2.2.2.2.2.2]
  exact b
theorem C_seal {w k b a r : Int32} (X : Cx G F W) (c : CI W S z sl z0 s0 τ rows t h J A) : CSt (P_X11_seal G F (W.ad (.o 11 0)) w k b a r) (match sealC rows w k b a r with | some (some u) => (Int32.ofNat u.length) | some none => -3 | none => -2) W S z sl z0 s0 τ rows (match sealC rows w k b a r with | some (some u) => u | some none => t | none => t) J A := by
  obtain ⟨l, bt⟩ := c.2.2.2.2.2.1
  obtain ⟨V, ck⟩ := c.2.2.2.2.2.2.2.1
  obtain ⟨iT, iD, iRs, iCu, iTK, iCi, iCo, r12, r13, r14, r15, r16, r17⟩ := c.isa
  obtain ⟨x67, l67, b67⟩ := c.2.2.2.2.2.2.1 67 64 (by decide) iD.in.2
  obtain ⟨x68, l68, b68⟩ := c.2.2.2.2.2.2.1 68 64 (by decide) iCo.2.2.2.2.2.2
  obtain ⟨S', q, f, ag, y68, y67, bb⟩ := Q11_seal (G := G) (F := F) (S := S) (w := w) (k := k) (b := b) (a := a) (r := r) X iT iD iCi iCo r14 bt c.2.2.2.2.1 b68 b67
  refine C_gen c q f (by unfold noK; decide) (by simp) (by decide) (by decide) ?_ (fun i room hi h9 hB => ?_) ⟨V, ck.fr f (by decide)⟩ (c.2.2.2.2.2.2.2.2.1.ag ag (by decide))
  · rcases e : sealC rows w k b a r with _ | _ | u
    · rw [e] at bb
      have bb : S' = S := bb
      rw [bb]
      exact ⟨l, bt⟩
    · rw [e] at bb
      have bb : S' = S := bb
      rw [bb]
      exact ⟨l, bt⟩
    · rw [e] at bb
      exact ⟨_, bb⟩
  · have e : i = 67 ∨ i = 68 := by simp at hi; omega
    rcases e with rfl | rfl
    · exact c67 c y67 hB
    · exact c68 c y68 hB
theorem C_open {w k b a r : Int32} (X : Cx G F W) (c : CI W S z sl z0 s0 τ rows t h J A) : CSt (P_X11_open G F (W.ad (.o 11 0)) w k b a r) (match openCC rows w k b a r with | some (some u) => (Int32.ofNat u.length) | some none => -1 | none => -2) W S z sl z0 s0 τ rows (match openCC rows w k b a r with | some (some u) => u | some none => t | none => t) J A := by
  obtain ⟨l, bt⟩ := c.2.2.2.2.2.1
  obtain ⟨V, ck⟩ := c.2.2.2.2.2.2.2.1
  obtain ⟨iT, iD, iRs, iCu, iTK, iCi, iCo, r12, r13, r14, r15, r16, r17⟩ := c.isa
  obtain ⟨x67, l67, b67⟩ := c.2.2.2.2.2.2.1 67 64 (by decide) iD.in.2
  obtain ⟨x68, l68, b68⟩ := c.2.2.2.2.2.2.1 68 64 (by decide) iCo.2.2.2.2.2.2
  obtain ⟨x13, l13, b13⟩ := c.2.2.2.2.2.2.1 13 8192 (by decide) iT.pb
  obtain ⟨S', q, f, ag, y68, y67, y13, bb⟩ := Q11_open (G := G) (F := F) (S := S) (w := w) (k := k) (b := b) (a := a) (r := r) X iT iD iCi iCo r14 c.2.2.2.2.2.2.2.2.1 bt b13 c.2.2.2.2.1 b68 b67
  refine C_gen c q f (by unfold noK; decide) (by simp) (by decide) (by decide) ?_ (fun i room hi h9 hB => ?_) ⟨V, ck.fr f (by decide)⟩ (c.2.2.2.2.2.2.2.2.1.ag ag (by decide))
  · rcases e : openCC rows w k b a r with _ | _ | u
    · rw [e] at bb
      have bb : S' 0 9 = S 0 9 := bb
      rw [bb]
      exact ⟨l, bt⟩
    · rw [e] at bb
      have bb : S' 0 9 = S 0 9 := bb
      rw [bb]
      exact ⟨l, bt⟩
    · rw [e] at bb
      exact ⟨_, bb⟩
  · have e : i = 67 ∨ i = 68 ∨ i = 13 := by simp at hi; omega
    rcases e with rfl | rfl | rfl
    · exact c67 c y67 hB
    · exact c68 c y68 hB
    · rw [hB.one iT.pb]
      exact y13
/-- tokens: the reader's wires and what belongs to tokens -/
theorem C_tok {p : mM → Option (Int32 × mM)} {v : Int32} {W' : WR} {S' : ST} {V' : Nat → Int} {t' : List UInt8} {σ κ rk : Nat → Nat} (c : CI W S z sl z0 s0 τ rows t h J A) (q : p (mem W S) = some (v, mem W' S')) (hW : W' = W ∨ ∃ n, W' = rdW W n (1 - h)) (w : isW W' (1 - h)) (f : fr (tkE (1 - h)) S S') (ab : AB W' S') (ck : CK S' V') (ib : IB S') (K : KHS W' S' z sl z0 s0 σ κ rk A) (ht : ∃ l, Byt 8192 (S' 0 9) t' l) : CSt p v W S z sl z0 s0 τ rows t' J A := by
  have h2 := c.1
  have y : WY W W' := by
    rcases hW with e | ⟨n, e⟩
    · rw [e]
      exact WY.refl W
    · rw [e]
      exact (WY.sr (Or.inl rfl)).trans (WY.sr (Or.inl rfl))
  have r7 : W'.r 11 0 7 = some (.o 9 h) := by
    rcases hW with e | ⟨n, e⟩
    · rw [e]
      exact c.h7
    · rw [e]
      unfold rdW
      rw [sr_ne (by omega), sr_ne (by omega)]
      exact c.h7
  have no : ∀ c' i, (c', i) ∈ tkE (1 - h) → c' ≤ 11 ∧ (c' = 9 → i = 1 - h) ∧ (c' = 0 → i = 14 + (1 - h) ∨ (9 ≤ i ∧ i ≠ 14 ∧ i ≠ 15)) := by
    intro c' i hm
    simp only [List.mem_cons, Prod.mk.injEq, List.not_mem_nil, or_false] at hm
    omega
  obtain ⟨_, ⟨_, _, t0, t1, j0, j1, j2⟩, ⟨tb, lp, bp⟩, hτ, hr, _⟩ := c
  refine ⟨W', S', h, q, ⟨h2, ⟨w.1, ⟨r7, w.2.1, w.2.2.1, w.2.2.2.1⟩, y.tx t0, y.tx t1, y.b j0, y.b j1, y.b j2⟩, ⟨by rw [f 9 h (fun hm => by have := (no _ _ hm).2.1 rfl; omega)]; exact tb, lp, by rw [f 0 (14 + h) (fun hm => by have := (no _ _ hm).2.2 rfl; omega)]; exact bp⟩, by rw [f 0 8 (fun hm => by have := (no _ _ hm).2.2 rfl; omega)]; exact hτ, fun r hr' => by rw [f 0 r (fun hm => by have := (no _ _ hm).2.2 rfl; omega)]; exact hr r hr', ht, ab, ⟨V', ck⟩, ib, σ, κ, rk, K⟩, y, fun i => f 12 i (fun hm => by have := (no _ _ hm).1; omega), f 13 0 (fun hm => by have := (no _ _ hm).1; omega)⟩
theorem tkL_sub (u : Nat) : ∀ x ∈ tkL u, x ∈ tkE u := fun x hx => List.mem_cons_of_mem _ (List.mem_cons_of_mem _ hx)
theorem tkL_1 (u : Nat) : (1, 0) ∉ tkL u := by simp
def shw (t : List UInt8) (r : Int32 ⊕ List UInt8) : List UInt8 := match r with
  | .inl _ => t
  | .inr u => u
theorem shw_b {S' : ST} {r : Int32 ⊕ List UInt8} (hs : ∃ l, Byt 8192 (S 0 9) t l) (b : shwT S S' r) : ∃ l, Byt 8192 (S' 0 9) (shw t r) l := by
  cases r with
  | inl v =>
    have b : S' 0 9 = S 0 9 := b
    rw [b]
    exact hs
  | inr u => exact ⟨_, b⟩
theorem shwO_b {S' : ST} {r : Option (List UInt8)} (hs : ∃ l, Byt 8192 (S 0 9) t l) (b : shwO S S' r) : ∃ l, Byt 8192 (S' 0 9) (r.getD t) l := by
  cases r with
  | none =>
    have b : S' 0 9 = S 0 9 := b
    rw [b]
    exact hs
  | some u => exact ⟨_, b⟩
theorem C_sign {k a p q : Nat} {hd : Option Nat} {K : KY} (X : Cx G F W) (c : CI W S z sl z0 s0 τ rows t h J A) (hk : k < 16) (e : A k = some K) (ha : a < 5) (hh : ∀ n, hd = some n → n < 8) (hp : p < 8) (hq : 3 ≤ a → q < 8) (y : Int32) (hy : 3 ≤ a → y = (Int32.ofNat q)) : CSt (P_X11_sign G F (W.ad (.o 11 0)) (Int32.ofNat k) (Int32.ofNat a) (oI hd) (Int32.ofNat p) y) (ansT (sgnV a K (if 3 ≤ a then rows q else []) (hd.map rows) (rows p))) W S z sl z0 s0 τ rows (shw t (sgnV a K (if 3 ≤ a then rows q else []) (hd.map rows) (rows p))) J A := by
  obtain ⟨V, ck⟩ := c.2.2.2.2.2.2.2.1
  obtain ⟨σ, κ, rk, KK⟩ := c.2.2.2.2.2.2.2.2.2
  obtain ⟨W', S', V', g, hW, w, f, ab, C', K', sh⟩ := Q11_sign (G := G) (F := F) X c.isw c.2.2.2.2.2.2.1 ck KK c.2.2.2.2.1 hk e ha hh hp hq y hy _ rfl
  exact C_tok c g hW w (f.mono (tkL_sub _)) ab C' (c.2.2.2.2.2.2.2.2.1.keep f (tkL_1 _)) K' (shw_b c.2.2.2.2.2.1 sh)
theorem C_verify {r : Nat} (X : Cx G F W) (c : CI W S z sl z0 s0 τ rows t h J A) (hr : r < 8) : CSt (P_X11_verify G F (W.ad (.o 11 0)) (Int32.ofNat r)) (vrfW A (rows r)).1 W S z sl z0 s0 τ rows ((vrfW A (rows r)).2.getD t) J A := by
  obtain ⟨V, ck⟩ := c.2.2.2.2.2.2.2.1
  obtain ⟨σ, κ, rk, KK⟩ := c.2.2.2.2.2.2.2.2.2
  obtain ⟨l, br⟩ := c.2.2.2.2.1 r hr
  obtain ⟨W', S', V', g, hW, w, f, ab, C', K', sh⟩ := Q11_verify (G := G) (F := F) X c.isw c.2.2.2.2.2.2.1 ck KK hr br
  exact C_tok c g hW w (f.mono (tkL_sub _)) ab C' (c.2.2.2.2.2.2.2.2.1.keep f (tkL_1 _)) K' (shwO_b c.2.2.2.2.2.1 sh)
theorem C_decrypt {r : Nat} (X : Cx G F W) (c : CI W S z sl z0 s0 τ rows t h J A) (hr : r < 8) : CSt (P_X11_decrypt G F (W.ad (.o 11 0)) (Int32.ofNat r)) (decW A (rows r)).1 W S z sl z0 s0 τ rows ((decW A (rows r)).2.getD t) J A := by
  obtain ⟨V, ck⟩ := c.2.2.2.2.2.2.2.1
  obtain ⟨σ, κ, rk, KK⟩ := c.2.2.2.2.2.2.2.2.2
  obtain ⟨l, br⟩ := c.2.2.2.2.1 r hr
  obtain ⟨W', S', V', g, hW, w, f, ab, C', cw, K', sh⟩ := Q11_decrypt (G := G) (F := F) X c.isw c.2.2.2.2.2.2.1 ck c.2.2.2.2.2.2.2.2.1 KK hr br
  exact C_tok c g hW w f ab C' (c.2.2.2.2.2.2.2.2.1.ag cw (by decide)) K' (shwO_b c.2.2.2.2.2.1 sh)
theorem C_encrypt {k a wy p q : Nat} {x6 x7 : Int32} {K : KY} (X : Cx G F W) (c : CI W S z sl z0 s0 τ rows t h J A) (hk : k < 16) (e : A k = some K) (ha : a < 6) (hw : wy < 4) (hp : p < 8) (hq : q < 8) (h6 : 4 ≤ a → ron x6 = true) (h7 : 4 ≤ a → ron x7 = true) : CSt (P_X11_encrypt G F (W.ad (.o 11 0)) (Int32.ofNat k) (Int32.ofNat a) (Int32.ofNat wy) (Int32.ofNat p) (Int32.ofNat q) x6 x7) (ansT (encV a wy K (rows q) (rows p) (rwO rows x6) (rwO rows x7))) W S z sl z0 s0 τ rows (shw t (encV a wy K (rows q) (rows p) (rwO rows x6) (rwO rows x7))) J A := by
  obtain ⟨V, ck⟩ := c.2.2.2.2.2.2.2.1
  obtain ⟨σ, κ, rk, KK⟩ := c.2.2.2.2.2.2.2.2.2
  obtain ⟨S', V', g, f, ab, C', cw, K', sh⟩ := Q11_encrypt (G := G) (F := F) X c.isw c.2.2.2.2.2.2.1 ck KK c.2.2.2.2.1 hk e ha hw hp hq h6 h7 _ rfl
  exact C_tok c g (Or.inl rfl) c.isw f ab C' (c.2.2.2.2.2.2.2.2.1.ag cw (by decide)) K' (shw_b c.2.2.2.2.2.1 sh)
theorem C_print {K : KY} {x : Int32} (X : Cx G F W) (c : CI W S z sl z0 s0 τ rows t h J A) (e : prtW A x = some K) : CSt (P_X11_print G F (W.ad (.o 11 0)) x) 32 W S z sl z0 s0 τ rows (sha false (prF K)) J A := by
  obtain ⟨l, bt⟩ := c.2.2.2.2.2.1
  obtain ⟨V, ck⟩ := c.2.2.2.2.2.2.2.1
  obtain ⟨σ, κ, rk, KK⟩ := c.2.2.2.2.2.2.2.2.2
  obtain ⟨iT, iD, iRs, iCu, iTK, iCi, iCo, r12, r13, r14, r15, r16, r17⟩ := c.isa
  obtain ⟨x11, l11, b11⟩ := c.2.2.2.2.2.2.1 11 22528 (by decide) iT.wb
  have g := Q11_print (G := G) (F := F) (S := S) X iT iD r12 KK bt b11 x
  rw [e] at g
  obtain ⟨S', q, f, b, b'⟩ := g
  refine C_gen c q f (by unfold noK; decide) (by simp) (by decide) (by decide) ⟨_, b⟩ (fun i room hi h9 hB => ?_) ⟨V, ck.fr f (by decide)⟩ (c.2.2.2.2.2.2.2.2.1.keep f (by decide))
  have e : i = 11 := by simp at hi; omega
  subst e
  rw [hB.one iT.wb]
  exact ⟨_, _, b'⟩
theorem C_print_bad {x : Int32} (X : Cx G F W) (c : CI W S z sl z0 s0 τ rows t h J A) (e : prtW A x = none) : P_X11_print G F (W.ad (.o 11 0)) x (mem W S) = some (-2, mem W S) := by
  obtain ⟨l, bt⟩ := c.2.2.2.2.2.1
  obtain ⟨σ, κ, rk, KK⟩ := c.2.2.2.2.2.2.2.2.2
  obtain ⟨iT, iD, iRs, iCu, iTK, iCi, iCo, r12, r13, r14, r15, r16, r17⟩ := c.isa
  obtain ⟨x11, l11, b11⟩ := c.2.2.2.2.2.2.1 11 22528 (by decide) iT.wb
  have g := Q11_print (G := G) (F := F) (S := S) X iT iD r12 KK bt b11 x
  rw [e] at g
  exact g
end CST3
