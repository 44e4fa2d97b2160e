/-! FRAMES; THE DIGEST: start, add, finish -/
/-- but for these objects nothing changed -/
abbrev fr (L : List (Nat × Nat)) (S S' : ST) : Prop := ∀ c i, (c, i) ∉ L → S' c i = S c i
theorem fr.refl (L : List (Nat × Nat)) (S : ST) : fr L S S := fun _ _ _ => rfl
theorem fr.trans {L : List (Nat × Nat)} {S S1 S2 : ST} (h1 : fr L S S1) (h2 : fr L S1 S2) : fr L S S2 := fun c i h => (h2 c i h).trans (h1 c i h)
theorem fr.mono {L L' : List (Nat × Nat)} {S S' : ST} (h : fr L S S') (hs : ∀ x ∈ L, x ∈ L') : fr L' S S' := fun c i hn => h c i (fun q => hn (hs _ q))
theorem fr_so {L : List (Nat × Nat)} {S : ST} {c i : Nat} {o : Ob} (h : (c, i) ∈ L) : fr L S (S.so c i o) := fun c' i' hn => so_ne (fun q => hn (by rw [q.1, q.2]; exact h))
/-- words one behind the other -/
def cat (f : Nat → List UInt8) : Nat → Nat → List UInt8
  | 0, _ => []
  | m + 1, k => f k ++ cat f m (k + 1)
theorem cat_len {f : Nat → List UInt8} {n : Nat} (h : ∀ k, (f k).length = n) : ∀ m k, (cat f m k).length = n * m := by
  intro m
  induction m with
  | zero => intro k; rfl
  | succ m ih => intro k; rw [cat, List.length_append, ih, h, Nat.mul_succ]; omega
theorem cat_congr {f g : Nat → List UInt8} : ∀ m k, (∀ j, k ≤ j → j < k + m → f j = g j) → cat f m k = cat g m k := by
  intro m
  induction m with
  | zero => intro k _; rfl
  | succ m ih => intro k h; rw [cat, cat, h k (by omega) (by omega), ih (k + 1) (fun j h1 h2 => h j (by omega) (by omega))]
def w8 (x : Int64) : List UInt8 := w4 (ushL x 32).toInt32 ++ w4 x.toInt32
def lb (wide : Bool) : Nat := if wide then 16 else 8
def padZ (wide : Bool) (n : Nat) : Nat := (2 * bb wide - lb wide - 1 - n % bb wide) % bb wide
/-- the length in bits, as the last bytes -/
def lenB (wide : Bool) (n : Nat) : List UInt8 := (if wide then List.replicate 8 0 else []) ++ (List.replicate 4 0 ++ w4 (Int32.ofNat (8 * n)))
def padF (wide : Bool) (msg : List UInt8) : List UInt8 := ((msg ++ [128]) ++ List.replicate (padZ wide msg.length) 0) ++ lenB wide msg.length
def shaW (wide : Bool) (p : List UInt8) (k : Nat) : List UInt8 := if wide then w8 (hs8W p (p.length / 128) k) else w4 (hs8 p (p.length / 64) k)
/-- THE DIGEST -/
def sha (wide : Bool) (msg : List UInt8) : List UInt8 := cat (shaW wide (padF wide msg)) 8 0
theorem w4_len (x : Int32) : (w4 x).length = 4 := rfl
theorem lenB_len (wide : Bool) (n : Nat) : (lenB wide n).length = lb wide := by
  cases wide <;> simp [lenB, lb, w4]
theorem padF_len (wide : Bool) (msg : List UInt8) : (padF wide msg).length = msg.length + 1 + padZ wide msg.length + lb wide := by
  simp [padF, lenB_len]; omega
theorem padF_le (wide : Bool) (msg : List UInt8) : (padF wide msg).length ≤ msg.length + 145 := by
  rw [padF_len]
  unfold padZ
  cases wide <;> simp [bb, lb] <;> omega
theorem sha_len (wide : Bool) (msg : List UInt8) : (sha wide msg).length = if wide then 64 else 32 := by
  cases wide
  · exact cat_len (n := 4) (fun k => rfl) 8 0
  · exact cat_len (n := 8) (fun k => rfl) 8 0
section COPYL
variable {W : WR} {S : ST} {G : mG} {c i k c' i' k' : Nat}
theorem sLm_m (h : W.live (.a c i k) = true) (q : (kdA c)[k]? = some 2) (f : Nat → Int64) : va_up (mem W S) (W.ad (.a c i k)) (some (.inl (2, W.n (.a c i k), .inr (.inl f)))) = mem W (S.so c i ((S c i).sL k f)) := by
  refine mem_up (W' := W) h ?_ (fun y hy => cell_a hy (fun c' i' hn => so_ne hn) (by rw [so_eq]; rfl) (by rw [so_eq]; rfl) (fun k' hk => by rw [so_eq]; rfl) (fun k' hk => by rw [so_eq]; simp [sL_at, hk]) (by rw [so_eq]; rfl))
  simp [cell, cellB, h, acl, q, so_eq, sL_at]
theorem cpL_g {p q m na : Nat} {f : Nat → Int64} {a : Nat} (hs : srL G (mem W S) a = some (na, f)) (h2 : W.live (.a c' i' k') = true) (q2 : (kdA c')[k']? = some 2) (hp : p < 2 ^ 31) (hq : q < 2 ^ 31) (hm : m < 2 ^ 31) (b1 : p + m ≤ na) (b2 : q + m ≤ W.n (.a c' i' k')) : cpL G (mem W S) a (Int32.ofNat p) (W.ad (.a c' i' k')) (Int32.ofNat q) (Int32.ofNat m) = some (mem W (S.so c' i' ((S c' i').sL k' (va_cpy f ((S c' i').l k') p q m)))) := by
  unfold cpL
  rw [hs, mem_at h2]
  have e : cell W S (.a c' i' k') = some (.inl (2, W.n (.a c' i' k'), .inr (.inl ((S c' i').l k')))) := by simp [cell, cellB, h2, acl, q2]
  rw [e]
  show (if _ then some _ else none) = _
  rw [if_pos ⟨rfl, nn hp, nn hq, nn hm, by rw [n_at hp, n_at hm]; exact b1, by rw [n_at hq, n_at hm]; exact b2⟩, n_at hp, n_at hq, n_at hm]
  congr 1
  exact sLm_m h2 q2 _
end COPYL
