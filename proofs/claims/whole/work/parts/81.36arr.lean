/-! ARRAYS ONE BY ONE; LOOPS; THE BLOCK CIPHER SAID PURELY -/
/-- one array is set -/
def ST.sa (S : ST) (c i k : Nat) (f : Nat → Int32) : ST := S.so c i ((S c i).sA k f)
theorem sa_eq (S : ST) (c i k : Nat) (f : Nat → Int32) : ((S.sa c i k f) c i).a k = f := by rw [ST.sa, so_eq, sA_a]
theorem sa_ne {S : ST} {c i k c' i' k' : Nat} {f : Nat → Int32} (h : (c', i', k') ≠ (c, i, k)) : ((S.sa c i k f) c' i').a k' = (S c' i').a k' := by
  unfold ST.sa
  by_cases e : c' = c ∧ i' = i
  · rw [e.1, e.2, so_eq, sA_a' (fun q => h (by rw [e.1, e.2, q]))]
  · rw [so_ne e]
theorem sa_o {S : ST} {c i k c' i' : Nat} {f : Nat → Int32} : ((S.sa c i k f) c' i').f = (S c' i').f ∧ ((S.sa c i k f) c' i').g = (S c' i').g ∧ ((S.sa c i k f) c' i').l = (S c' i').l ∧ ((S.sa c i k f) c' i').m = (S c' i').m := by
  unfold ST.sa
  by_cases e : c' = c ∧ i' = i
  · rw [e.1, e.2, so_eq]
    exact ⟨rfl, rfl, rfl, rfl⟩
  · rw [so_ne e]
    exact ⟨rfl, rfl, rfl, rfl⟩
theorem sa_sa (S : ST) (c i k : Nat) (f g : Nat → Int32) : (S.sa c i k f).sa c i k g = S.sa c i k g := by
  unfold ST.sa
  rw [so_so, so_eq, sA_sA]
theorem upd_ne {f : Nat → Int32} {j t : Nat} {v : Int32} (h : t ≠ j) : upd f j v t = f t := by
  unfold upd
  rw [if_neg h]
theorem upd_eq (f : Nat → Int32) (j : Nat) (v : Int32) : upd f j v j = v := by
  unfold upd
  rw [if_pos rfl]
/-- but for these arrays nothing changed -/
abbrev arF (L : List (Nat × Nat × Nat)) (S S' : ST) : Prop := (∀ c i k, (c, i, k) ∉ L → (S' c i).a k = (S c i).a k) ∧ ∀ c i, (S' c i).f = (S c i).f ∧ (S' c i).g = (S c i).g ∧ (S' c i).l = (S c i).l ∧ (S' c i).m = (S c i).m
theorem arF.refl (L : List (Nat × Nat × Nat)) (S : ST) : arF L S S := ⟨fun _ _ _ _ => rfl, fun _ _ => ⟨rfl, rfl, rfl, rfl⟩⟩
theorem arF.trans {L : List (Nat × Nat × Nat)} {S S1 S2 : ST} (h1 : arF L S S1) (h2 : arF L S1 S2) : arF L S S2 := ⟨fun c i k h => (h2.1 c i k h).trans (h1.1 c i k h), fun c i => ⟨(h2.2 c i).1.trans (h1.2 c i).1, (h2.2 c i).2.1.trans (h1.2 c i).2.1, (h2.2 c i).2.2.1.trans (h1.2 c i).2.2.1, (h2.2 c i).2.2.2.trans (h1.2 c i).2.2.2⟩⟩
theorem arF.mono {L L' : List (Nat × Nat × Nat)} {S S' : ST} (h : arF L S S') (hs : ∀ x ∈ L, x ∈ L') : arF L' S S' := ⟨fun c i k hn => h.1 c i k (fun q => hn (hs _ q)), h.2⟩
theorem arF_sa {L : List (Nat × Nat × Nat)} {S : ST} {c i k : Nat} {f : Nat → Int32} (h : (c, i, k) ∈ L) : arF L S (S.sa c i k f) := ⟨fun c' i' k' hn => sa_ne (fun q => hn (by rw [q]; exact h)), fun _ _ => sa_o⟩
theorem arF.ob {L : List (Nat × Nat × Nat)} {S S' : ST} (h : arF L S S') {c i : Nat} (hn : ∀ k, (c, i, k) ∉ L) : S' c i = S c i := by
  obtain ⟨e1, e2, e3, e4⟩ := h.2 c i
  have e5 : (S' c i).a = (S c i).a := funext fun k => h.1 c i k (hn k)
  show ((S' c i).f, (S' c i).g, (S' c i).a, (S' c i).l, (S' c i).m) = _
  rw [e1, e2, e3, e4, e5]
  rfl
theorem arF.fr {L : List (Nat × Nat × Nat)} {L' : List (Nat × Nat)} {S S' : ST} (h : arF L S S') (hs : ∀ x ∈ L, (x.1, x.2.1) ∈ L') : fr L' S S' := fun c i hn => h.ob (fun k q => hn (hs _ q))
section ARR
variable {W : WR} {G : mG} {F : Nat} {S : ST} {c i k n j : Nat}
theorem hasA.sa (h : hasA W c i k n) {v : Int32} (q : (kdA c)[k]? = some 0) (hj : j < n) : sI (mem W S) 0 (W.ad (.a c i k)) (Int32.ofNat j) v = some (mem W (S.sa c i k (upd ((S c i).a k) j v))) := h.st q hj
theorem cpI_a {c' i' k' p q m na nb : Nat} (h1 : hasA W c i k na) (q1 : (kdA c)[k]? = some 0) (h2 : hasA W c' i' k' nb) (q2 : (kdA c')[k']? = some 0) (b1 : p + m ≤ na) (b2 : q + m ≤ nb) : cpI G (mem W S) (W.ad (.a c i k)) (Int32.ofNat p) (W.ad (.a c' i' k')) (Int32.ofNat q) (Int32.ofNat m) = some (mem W (S.sa c' i' k' (va_cpy ((S c i).a k) ((S c' i').a k') p q m))) := by
  have x1 := h1.2.2.2
  have x2 := h2.2.2.2
  exact cpI_g (srI_m h1.1 q1) h2.1 q2 (by omega) (by omega) (by omega) (by rw [h1.2.2.1]; exact b1) (by rw [h2.2.2.1]; exact b2)
/-- a loop that counts up -/
theorem loopS {α : Type} (B : Nat → Nat → ST → Option α) (I : Nat → ST → Prop) (N : Nat) (step : ∀ n j S, j < N → I j S → ∃ S', B (n + 1) j S = B n (j + 1) S' ∧ I (j + 1) S') : ∀ (m j n : Nat) (S : ST), m < n → j + m = N → I j S → ∃ n' S', B n j S = B (n' + 1) N S' ∧ I N S' := by
  intro m
  induction m with
  | zero =>
    intro j n S hn hj hI
    obtain ⟨n, rfl⟩ : ∃ q, n = q + 1 := ⟨n - 1, by omega⟩
    obtain rfl : j = N := by omega
    exact ⟨n, S, rfl, hI⟩
  | succ m ih =>
    intro j n S hn hj hI
    obtain ⟨n, rfl⟩ : ∃ q, n = q + 1 := ⟨n - 1, by omega⟩
    obtain ⟨S1, e1, h1⟩ := step n j S (by omega) hI
    obtain ⟨n', S', e2, h2⟩ := ih (j + 1) n S1 (by omega) (by omega) h1
    exact ⟨n', S', e1.trans e2, h2⟩
end ARR
/-! the field of 256, the box -/
def tw (x : UInt8) : UInt8 := if x.toNat < 128 then x <<< 1 else (x <<< 1) ^^^ 27
def sbx (x : UInt8) : UInt8 := lo8 (mt_0.getD x.toNat 0)
def ibx (x : UInt8) : UInt8 := UInt8.ofNat (mt_0.idxOf (b32 x))
theorem b32_x (x y : UInt8) : b32 x ^^^ b32 y = b32 (x ^^^ y) := by
  unfold b32
  rw [n_xor, UInt8.toNat_xor]
def twI (l : Int32) : Int32 := if (128 : Int32) ≤ l then (l <<< ((1 : Int32) &&& 31)) ^^^ (283 : Int32) else l <<< ((1 : Int32) &&& 31)
def twJ (l : Int32) : Int32 := if l ≤ (127 : Int32) then ((l <<< ((1 : Int32) &&& 31)) &&& (255 : Int32)) ^^^ (0 : Int32) else ((l <<< ((1 : Int32) &&& 31)) &&& (255 : Int32)) ^^^ (27 : Int32)
theorem tw_tab : ∀ n, n < 256 → twI (Int32.ofNat n) = b32 (tw (UInt8.ofNat n)) ∧ twJ (Int32.ofNat n) = b32 (tw (UInt8.ofNat n)) := by decide +kernel
theorem twI_b (x : UInt8) : twI (b32 x) = b32 (tw x) := by
  have := (tw_tab x.toNat x.toNat_lt).1
  rwa [UInt8.ofNat_toNat] at this
theorem twJ_b (x : UInt8) : twJ (b32 x) = b32 (tw x) := by
  have := (tw_tab x.toNat x.toNat_lt).2
  rwa [UInt8.ofNat_toNat] at this
theorem sbx_tab : ∀ n, n < 256 → mt_0.getD n 0 = b32 (sbx (UInt8.ofNat n)) := by decide +kernel
theorem tw_bv (x : UInt8) : (tw x).toBitVec = (x.toBitVec <<< 1) ^^^ (if x.toBitVec.msb then 27#8 else 0#8) := by
  unfold tw
  have h : x.toNat < 128 ↔ x.toBitVec.msb = false := by
    rw [BitVec.msb_eq_false_iff_two_mul_lt]
    show x.toNat < 128 ↔ 2 * x.toNat < 256
    omega
  by_cases q : x.toNat < 128
  · rw [if_pos q, h.mp q]
    simp
  · have q2 : x.toBitVec.msb = true := by
      cases hq : x.toBitVec.msb
      · exact absurd (h.mpr hq) q
      · rfl
    rw [if_neg q, q2]
    rfl
theorem tw_xor (x y : UInt8) : tw (x ^^^ y) = tw x ^^^ tw y := by
  apply UInt8.toBitVec_inj.mp
  rw [UInt8.toBitVec_xor, tw_bv, tw_bv, tw_bv, UInt8.toBitVec_xor, BitVec.shiftLeft_xor_distrib, BitVec.msb_xor]
  generalize x.toBitVec <<< 1 = a
  generalize y.toBitVec <<< 1 = b
  cases x.toBitVec.msb <;> cases y.toBitVec.msb
  · simp
  · simp [BitVec.xor_assoc]
  · simp only [Bool.xor_false, Bool.true_xor, Bool.xor_true, Bool.not_false, if_true, Bool.false_eq_true, if_false]
    rw [BitVec.xor_zero, BitVec.xor_assoc, BitVec.xor_assoc, BitVec.xor_comm b]
  · simp only [Bool.xor_self, Bool.false_eq_true, if_true, if_false]
    rw [BitVec.xor_zero, BitVec.xor_assoc, BitVec.xor_comm b, ← BitVec.xor_assoc 27#8, BitVec.xor_self, BitVec.zero_xor]
theorem x_canc (a b : UInt8) : a ^^^ (a ^^^ b) = b := by rw [← UInt8.xor_assoc, UInt8.xor_self, UInt8.zero_xor]
theorem x_lc (a b c : UInt8) : a ^^^ (b ^^^ c) = b ^^^ (a ^^^ c) := by rw [← UInt8.xor_assoc, UInt8.xor_comm a b, UInt8.xor_assoc]
/-! the turns -/
def m16 (f : Nat → UInt8) : List UInt8 := (List.range 16).map f
theorem m16_len (f : Nat → UInt8) : (m16 f).length = 16 := by simp [m16]
theorem m16_at {f : Nat → UInt8} {j : Nat} (h : j < 16) : (m16 f).getD j 0 = f j := by simp [m16, h]
theorem m16_g {f : Nat → UInt8} {j : Nat} (h : j < 16) : gB (m16 f) j = b32 (f j) := by rw [gB_D, m16_at h]
theorem m16_congr {f g : Nat → UInt8} (h : ∀ j, j < 16 → f j = g j) : m16 f = m16 g := by
  unfold m16
  apply List.map_congr_left
  intro j hj
  exact h j (List.mem_range.mp hj)
def nx (k d : Nat) : Nat := k / 4 * 4 + (k + d) % 4
def arkF (ks : Nat → UInt8) (r : Nat) (s : List UInt8) : List UInt8 := m16 fun k => s.getD k 0 ^^^ ks (16 * r + k)
def subF (s : List UInt8) : List UInt8 := m16 fun k => sbx (s.getD ((k + 4 * (k % 4)) % 16) 0)
def mixF (s : List UInt8) : List UInt8 := m16 fun k => (((tw (s.getD k 0) ^^^ tw (s.getD (nx k 1) 0)) ^^^ s.getD (nx k 1) 0) ^^^ s.getD (nx k 2) 0) ^^^ s.getD (nx k 3) 0
def frd (ks : Nat → UInt8) (nr r : Nat) (s : List UInt8) : List UInt8 := arkF ks r (if r < nr then mixF (subF s) else subF s)
def fwdL (ks : Nat → UInt8) (nr : Nat) : Nat → Nat → List UInt8 → List UInt8
  | 0, _, s => s
  | m + 1, r, s => fwdL ks nr m (r + 1) (frd ks nr r s)
def fwd (ks : Nat → UInt8) (nr : Nat) (s : List UInt8) : List UInt8 := fwdL ks nr nr 1 (arkF ks 0 s)
def isubF (s : List UInt8) : List UInt8 := m16 fun k => ibx (s.getD ((k + 12 * (k % 4)) % 16) 0)
def t9 (x : UInt8) : UInt8 := x ^^^ tw (tw (tw x))
def t11 (x : UInt8) : UInt8 := x ^^^ tw x ^^^ tw (tw (tw x))
def t13 (x : UInt8) : UInt8 := x ^^^ tw (tw x) ^^^ tw (tw (tw x))
def t14 (x : UInt8) : UInt8 := tw x ^^^ tw (tw x) ^^^ tw (tw (tw x))
def imixF (s : List UInt8) : List UInt8 := m16 fun k => ((t14 (s.getD k 0) ^^^ t11 (s.getD (nx k 1) 0)) ^^^ t13 (s.getD (nx k 2) 0)) ^^^ t9 (s.getD (nx k 3) 0)
def bckL (ks : Nat → UInt8) : Nat → List UInt8 → List UInt8
  | 0, s => arkF ks 0 (isubF s)
  | r + 1, s => bckL ks r (imixF (arkF ks (r + 1) (isubF s)))
def bck (ks : Nat → UInt8) (nr : Nat) (s : List UInt8) : List UInt8 := bckL ks (nr - 1) (arkF ks nr s)
/-- the class's way back -/
def cbL (ks : Nat → UInt8) (nr : Nat) : Nat → List UInt8 → List UInt8
  | 0, s => arkF ks 0 s
  | r + 1, s => cbL ks nr r (isubF (if r + 1 < nr then imixF (arkF ks (r + 1) s) else arkF ks (r + 1) s))
theorem cbL_bckL (ks : Nat → UInt8) (nr : Nat) : ∀ (r : Nat) (s : List UInt8), r < nr → cbL ks nr r (isubF s) = bckL ks r s := by
  intro r
  induction r with
  | zero => intro s _; rfl
  | succ r ih => intro s hr; rw [cbL, if_pos hr, ih _ (by omega), bckL]
theorem cbL_bck (ks : Nat → UInt8) (nr : Nat) (s : List UInt8) (h : 0 < nr) : cbL ks nr nr s = bck ks nr s := by
  obtain ⟨r, rfl⟩ : ∃ r, nr = r + 1 := ⟨nr - 1, by omega⟩
  rw [cbL, if_neg (by omega), cbL_bckL _ _ _ _ (by omega), bck, Nat.add_sub_cancel]
/-- the class's unmix: two steps -/
def preF (s : List UInt8) : List UInt8 := m16 fun k => s.getD k 0 ^^^ tw (tw (s.getD k 0 ^^^ s.getD (nx k 2) 0))
theorem imix_pre (s : List UInt8) : mixF (preF s) = imixF s := by
  unfold mixF imixF preF
  apply m16_congr
  intro k hk
  have h1 : nx k 1 < 16 := by unfold nx; omega
  have h2 : nx k 2 < 16 := by unfold nx; omega
  have h3 : nx k 3 < 16 := by unfold nx; omega
  rw [m16_at hk, m16_at h1, m16_at h2, m16_at h3]
  have e1 : nx (nx k 1) 2 = nx k 3 := by unfold nx; omega
  have e2 : nx (nx k 2) 2 = k := by unfold nx; omega
  have e3 : nx (nx k 3) 2 = nx k 1 := by unfold nx; omega
  rw [e1, e2, e3]
  unfold t14 t11 t13 t9
  generalize s.getD k 0 = a
  generalize s.getD (nx k 1) 0 = b
  generalize s.getD (nx k 2) 0 = c
  generalize s.getD (nx k 3) 0 = d
  simp only [tw_xor, UInt8.xor_assoc]
  simp only [UInt8.xor_assoc, UInt8.xor_comm, x_lc, x_canc, UInt8.xor_self, UInt8.xor_zero, UInt8.zero_xor]
