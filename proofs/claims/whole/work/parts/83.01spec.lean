/-! TEXTS OF VALUES: what both sides read, byte by byte. A fault is an inl with its place. -/
def by8 (s : List UInt8) (p : Nat) : UInt8 := s.getD p 0
def cd (s : List UInt8) (p : Nat) : Nat := (by8 s p).toNat
def isBl (n : Nat) : Bool := decide (n = 32) || decide (n = 9) || decide (n = 10) || decide (n = 13)
def isDg (n : Nat) : Bool := decide (48 ≤ n) && decide (n ≤ 57)
def spn (f : Nat → Bool) (s : List UInt8) : Nat → Nat → Nat
  | 0, p => p
  | n + 1, p => if f (cd s p) = true then spn f s n (p + 1) else p
def skp (f : Nat → Bool) (s : List UInt8) (p : Nat) : Nat := spn f s (s.length - p) p
abbrev skb (s : List UInt8) (p : Nat) : Nat := skp isBl s p
def sB {α β : Type} (x : Nat ⊕ α) (k : α → Nat ⊕ β) : Nat ⊕ β := match x with
  | .inl p => .inl p
  | .inr a => k a
def dgR (s : List UInt8) (p : Nat) : Nat ⊕ Nat := if isDg (cd s p) = true then .inr (skp isDg s p) else .inl p
def wdR (s : List UInt8) : List UInt8 → Nat → Nat ⊕ Nat
  | [], p => .inr p
  | c :: w, p => if cd s p = c.toNat then wdR s w (p + 1) else .inl p
def nmA (s : List UInt8) (p : Nat) : Nat := if cd s p = 45 then p + 1 else p
def nmB (s : List UInt8) (p : Nat) : Nat ⊕ Nat := if cd s p = 48 then .inr (p + 1) else dgR s p
def nmC (s : List UInt8) (p : Nat) : Nat ⊕ Nat := if cd s p = 46 then dgR s (p + 1) else .inr p
def nmD (s : List UInt8) (p : Nat) : Nat ⊕ Nat := if cd s p = 101 ∨ cd s p = 69 then dgR s (if cd s (p + 1) = 43 ∨ cd s (p + 1) = 45 then p + 1 + 1 else p + 1) else .inr p
def nmR (s : List UInt8) (p : Nat) : Nat ⊕ Nat := sB (nmB s (nmA s p)) fun p2 => sB (nmC s p2) fun p3 => nmD s p3
def hxV (n : Nat) : Nat := if 48 ≤ n ∧ n ≤ 57 then n - 48 else if 97 ≤ n ∧ n ≤ 102 then n - 87 else if 65 ≤ n ∧ n ≤ 70 then n - 55 else 16
def f4B (low : Bool) (k u h : Nat) : Bool := decide (h = 16) || (low && (decide (k = 0) && decide (h ≠ 13) || decide (k = 1) && decide (h < 12))) || (!low && (decide (k = 1) && (decide (u = 13) && decide (12 ≤ h))))
def f4 (s : List UInt8) (low : Bool) : Nat → Nat → Nat → Nat → Nat ⊕ (Nat × Nat)
  | 0, _, u, p => .inr (u, p)
  | m + 1, k, u, p => if f4B low k u (hxV (cd s p)) = true then .inl p else f4 s low m (k + 1) (16 * u + hxV (cd s p)) (p + 1)
def shE (n : Nat) : Nat := if n = 34 then 34 else if n = 47 then 47 else if n = 92 then 92 else if n = 98 then 8 else if n = 102 then 12 else if n = 110 then 10 else if n = 114 then 13 else if n = 116 then 9 else 256
def u8 (x : Int32) : List UInt8 := if (128 : Int32) ≤ x then (if (2048 : Int32) ≤ x then (if (65536 : Int32) ≤ x then [lo8 ((240 : Int32) ||| (x >>> ((18 : Int32) &&& 31))), lo8 ((128 : Int32) ||| ((x >>> ((12 : Int32) &&& 31)) &&& (63 : Int32))), lo8 ((128 : Int32) ||| ((x >>> ((6 : Int32) &&& 31)) &&& (63 : Int32))), lo8 ((128 : Int32) ||| (x &&& (63 : Int32)))] else [lo8 ((224 : Int32) ||| (x >>> ((12 : Int32) &&& 31))), lo8 ((128 : Int32) ||| ((x >>> ((6 : Int32) &&& 31)) &&& (63 : Int32))), lo8 ((128 : Int32) ||| (x &&& (63 : Int32)))]) else [lo8 ((192 : Int32) ||| (x >>> ((6 : Int32) &&& 31))), lo8 ((128 : Int32) ||| (x &&& (63 : Int32)))]) else [lo8 x]
def srgF (u v : Nat) : Int32 := ((65536 : Int32) + (((Int32.ofNat u) - (55296 : Int32)) <<< ((10 : Int32) &&& 31))) + ((Int32.ofNat v) - (56320 : Int32))
def esU (s : List UInt8) (p : Nat) : Nat ⊕ (Int32 × Nat) := sB (f4 s false 4 0 0 p) fun r => if r.1 < 55296 ∨ 56319 < r.1 then .inr ((Int32.ofNat r.1), r.2) else sB (wdR s [92, 117] r.2) fun q => sB (f4 s true 4 0 0 q) fun t => .inr (srgF r.1 t.1, t.2)
def esR (s : List UInt8) (p : Nat) : Nat ⊕ (Int32 × Nat) := if cd s p = 117 then esU s (p + 1) else if shE (cd s p) = 256 then .inl p else .inr ((Int32.ofNat (shE (cd s p))), p + 1)
def wMo (c : Nat) : Nat := if 194 ≤ c ∧ c ≤ 223 then 1 else if 224 ≤ c ∧ c ≤ 239 then 2 else if 240 ≤ c ∧ c ≤ 244 then 3 else 0
def wLo (c : Nat) : Nat := if c = 224 then 160 else if c = 240 then 144 else 128
def wHi (c : Nat) : Nat := if c = 237 then 159 else if c = 244 then 143 else 191
def wlR (s : List UInt8) : Nat → Nat → Nat → List UInt8 → Nat → Nat ⊕ (List UInt8 × Nat)
  | 0, _, _, acc, q => .inr (acc, q)
  | m + 1, lo, hi, acc, q => if cd s q < lo ∨ hi < cd s q then .inl q else wlR s m 128 191 (acc ++ [by8 s q]) (q + 1)
def wiR (s : List UInt8) (p : Nat) : Nat ⊕ (List UInt8 × Nat) := if wMo (cd s p) = 0 then .inl p else wlR s (wMo (cd s p)) (wLo (cd s p)) (wHi (cd s p)) [by8 s p] (p + 1)
def chR (s : List UInt8) (p : Nat) : Nat ⊕ (List UInt8 × Nat) := if cd s p < 32 then .inl p else if cd s p = 92 then sB (esR s (p + 1)) (fun r => .inr (u8 r.1, r.2)) else if cd s p < 128 then .inr ([by8 s p], p + 1) else wiR s p
def stL (s : List UInt8) : Nat → Nat → List UInt8 → Nat ⊕ (List UInt8 × Nat)
  | 0, p, _ => .inl p
  | n + 1, p, acc => if cd s p = 34 then .inr (acc, p + 1) else sB (chR s p) fun r => stL s n r.2 (acc ++ r.1)
def stR (s : List UInt8) (p : Nat) : Nat ⊕ (List UInt8 × Nat) := stL s (s.length + 1) (p + 1) []
/-! what they are about -/
theorem cd_lt (s : List UInt8) (p : Nat) : cd s p < 256 := (by8 s p).toNat_lt
theorem by8_ge {s : List UInt8} {p : Nat} (h : s.length ≤ p) : by8 s p = 0 := by
  unfold by8
  rw [List.getD_eq_getElem?_getD, List.getElem?_eq_none h]
  rfl
theorem cd_in {s : List UInt8} {p : Nat} (h : cd s p ≠ 0) : p < s.length := by
  by_cases hp : p < s.length
  · exact hp
  · refine absurd ?_ h
    unfold cd
    rw [by8_ge (by omega)]
    rfl
theorem skp_n {f : Nat → Bool} {s : List UInt8} {p : Nat} (h : f (cd s p) = false) : skp f s p = p := by
  unfold skp
  cases s.length - p with
  | zero => rfl
  | succ n =>
    show (if f (cd s p) = true then _ else p) = p
    rw [h]
    rfl
theorem skp_y {f : Nat → Bool} {s : List UInt8} {p : Nat} (hp : p < s.length) (h : f (cd s p) = true) : skp f s p = skp f s (p + 1) := by
  unfold skp
  obtain ⟨n, e1, e2⟩ : ∃ n, s.length - p = n + 1 ∧ s.length - (p + 1) = n := ⟨s.length - (p + 1), by omega, rfl⟩
  rw [e1, e2]
  show (if f (cd s p) = true then _ else p) = _
  rw [if_pos h]
theorem spn_le {f : Nat → Bool} {s : List UInt8} : ∀ (n p : Nat), p ≤ spn f s n p ∧ spn f s n p ≤ p + n := by
  intro n
  induction n with
  | zero => exact fun p => ⟨Nat.le_refl _, Nat.le_refl _⟩
  | succ n ih =>
    intro p
    show p ≤ (if f (cd s p) = true then spn f s n (p + 1) else p) ∧ (if f (cd s p) = true then spn f s n (p + 1) else p) ≤ _
    have := ih (p + 1)
    split <;> omega
theorem skp_le (f : Nat → Bool) (s : List UInt8) (p : Nat) : p ≤ skp f s p := (spn_le _ _).1
theorem skp_len {f : Nat → Bool} {s : List UInt8} {p : Nat} (h : p ≤ s.length) : skp f s p ≤ s.length := by
  have := (spn_le (f := f) (s := s) (s.length - p) p).2
  unfold skp
  omega
theorem skp_end {f : Nat → Bool} {s : List UInt8} (f0 : f 0 = false) : ∀ (n p : Nat), s.length - p = n → f (cd s (skp f s p)) = false := by
  intro n
  induction n with
  | zero =>
    intro p hn
    have e : cd s p = 0 := by
      unfold cd
      rw [by8_ge (by omega)]
      rfl
    rw [skp_n (by rw [e]; exact f0), e]
    exact f0
  | succ n ih =>
    intro p hn
    cases h : f (cd s p) with
    | false => rw [skp_n h]; exact h
    | true =>
      rw [skp_y (by omega) h]
      exact ih (p + 1) (by omega)
theorem skb_n {s : List UInt8} {p : Nat} (h : isBl (cd s p) = false) : skb s p = p := skp_n h
theorem skb_y {s : List UInt8} {p : Nat} (hp : p < s.length) (h : isBl (cd s p) = true) : skb s p = skb s (p + 1) := skp_y hp h
theorem skb_le (s : List UInt8) (p : Nat) : p ≤ skb s p := skp_le isBl s p
theorem skb_len {s : List UInt8} {p : Nat} (h : p ≤ s.length) : skb s p ≤ s.length := skp_len h
theorem skb_idem (s : List UInt8) (p : Nat) : skb s (skb s p) = skb s p := skp_n (skp_end rfl _ p rfl)
theorem dgR_ok {s : List UInt8} {p q : Nat} (h : dgR s p = .inr q) : p < q ∧ q ≤ s.length := by
  unfold dgR at h
  split at h
  · rename_i hd
    have e := Sum.inr.inj h
    have hp : p < s.length := cd_in (fun q => by rw [q] at hd; exact absurd hd (by decide))
    rw [skp_y hp hd] at e
    have h1 := skp_le isDg s (p + 1)
    have h2 := skp_len (f := isDg) (s := s) (p := p + 1) (by omega)
    omega
  · exact absurd h (by simp)
theorem dgR_bad {s : List UInt8} {p q : Nat} (h : dgR s p = .inl q) : q = p := by
  unfold dgR at h
  split at h
  · exact absurd h (by simp)
  · exact (Sum.inl.inj h).symm
theorem wdR_ok {s : List UInt8} : ∀ {w : List UInt8} {p q : Nat}, (∀ c ∈ w, c.toNat ≠ 0) → p ≤ s.length → wdR s w p = .inr q → q = p + w.length ∧ q ≤ s.length := by
  intro w
  induction w with
  | nil => exact fun _ hp h => ⟨(Sum.inr.inj h).symm, by rw [← Sum.inr.inj h]; exact hp⟩
  | cons c w ih =>
    intro p q hw hp h
    have h : (if cd s p = c.toNat then wdR s w (p + 1) else .inl p) = _ := h
    split at h
    · rename_i e
      have hi := cd_in (s := s) (p := p) (by rw [e]; exact hw c (by simp))
      have := ih (fun c hc => hw c (by simp [hc])) (by omega) h
      rw [List.length_cons]
      omega
    · exact absurd h (by simp)
theorem nmR_ok {s : List UInt8} {p q : Nat} (h : nmR s p = .inr q) : p < q ∧ q ≤ s.length := by
  unfold nmR at h
  have ha : p ≤ nmA s p := by unfold nmA; split <;> omega
  cases hb : nmB s (nmA s p) with
  | inl x => rw [hb] at h; exact absurd h (by simp [sB])
  | inr p2 =>
    rw [hb] at h
    have h2 : nmA s p < p2 ∧ p2 ≤ s.length := by
      unfold nmB at hb
      split at hb
      · rename_i e
        have := cd_in (s := s) (p := nmA s p) (by omega)
        have := Sum.inr.inj hb
        omega
      · exact dgR_ok hb
    have h : sB (nmC s p2) (fun p3 => nmD s p3) = .inr q := h
    cases hc : nmC s p2 with
    | inl x => rw [hc] at h; exact absurd h (by simp [sB])
    | inr p3 =>
      rw [hc] at h
      have h3 : p2 ≤ p3 ∧ p3 ≤ s.length := by
        unfold nmC at hc
        split at hc
        · have := dgR_ok hc
          omega
        · have := Sum.inr.inj hc
          omega
      have h : nmD s p3 = .inr q := h
      unfold nmD at h
      split at h
      · have := dgR_ok h
        split at this <;> omega
      · have := Sum.inr.inj h
        omega
theorem hxV_lt (n : Nat) : hxV n < 17 := by
  unfold hxV
  split
  · omega
  · split
    · omega
    · split <;> omega
theorem hxV_0 : hxV 0 = 16 := rfl
theorem f4_ok {s : List UInt8} {low : Bool} : ∀ {m k u p v q : Nat}, p ≤ s.length → f4 s low m k u p = .inr (v, q) → q = p + m ∧ v < (u + 1) * 16 ^ m ∧ q ≤ s.length := by
  intro m
  induction m with
  | zero =>
    intro k u p v q hp h
    have := Sum.inr.inj h
    have e1 := congrArg Prod.fst this
    have e2 := congrArg Prod.snd this
    simp only at e1 e2
    omega
  | succ m ih =>
    intro k u p v q hp h
    have h : (if f4B low k u (hxV (cd s p)) = true then .inl p else f4 s low m (k + 1) (16 * u + hxV (cd s p)) (p + 1)) = _ := h
    split at h
    · exact absurd h (by simp)
    · rename_i hb
      have hx : hxV (cd s p) ≠ 16 := by
        intro e
        rw [e] at hb
        exact hb (by simp [f4B])
      have hi := cd_in (s := s) (p := p) (fun e => hx (by rw [e]; rfl))
      have hl := hxV_lt (cd s p)
      have := ih (by omega) h
      refine ⟨by omega, ?_, by omega⟩
      have h1 := this.2.1
      have h2 : (16 * u + hxV (cd s p) + 1) * 16 ^ m ≤ ((u + 1) * 16) * 16 ^ m := Nat.mul_le_mul_right _ (by omega)
      rw [Nat.pow_succ, Nat.mul_comm (16 ^ m) 16, ← Nat.mul_assoc]
      omega
theorem shE_cases (n : Nat) : shE n < 128 ∨ shE n = 256 := by
  unfold shE
  repeat' split
  all_goals omega
theorem u8_len4 (x : Int32) : (u8 x).length ≤ 4 := by
  unfold u8
  split
  · split
    · split <;> simp
    · simp
  · simp
theorem u8_len3 {n : Nat} (h : n < 65536) : (u8 (Int32.ofNat n)).length ≤ 3 := by
  unfold u8
  have e : ¬ (65536 : Int32) ≤ (Int32.ofNat n) := fun q => absurd ((n_le (a := 65536) (b := n) (by omega) (by omega)).mp q) (by omega)
  split
  · split
    · simp
    · simp
  · simp
theorem u8_len1 {n : Nat} (h : n < 128) : u8 (Int32.ofNat n) = [lo8 (Int32.ofNat n)] := by
  unfold u8
  rw [if_neg (show ¬ (128 : Int32) ≤ (Int32.ofNat n) from fun q => absurd ((n_le (a := 128) (b := n) (by omega) (by omega)).mp q) (by omega))]
theorem wlR_ok {s : List UInt8} : ∀ {m lo hi : Nat} {acc bs : List UInt8} {q r : Nat}, 0 < lo → q ≤ s.length → wlR s m lo hi acc q = .inr (bs, r) → r = q + m ∧ bs.length = acc.length + m ∧ r ≤ s.length := by
  intro m
  induction m with
  | zero =>
    intro lo hi acc bs q r hl hq h
    have := Sum.inr.inj h
    have e1 := congrArg Prod.fst this
    have e2 := congrArg Prod.snd this
    simp only at e1 e2
    rw [← e1]
    omega
  | succ m ih =>
    intro lo hi acc bs q r hl hq h
    have h : (if cd s q < lo ∨ hi < cd s q then .inl q else wlR s m 128 191 (acc ++ [by8 s q]) (q + 1)) = _ := h
    split at h
    · exact absurd h (by simp)
    · rename_i hb
      have hi := cd_in (s := s) (p := q) (by omega)
      have := ih (by omega) (by omega) h
      rw [List.length_append, List.length_singleton] at this
      omega
theorem esR_ok {s : List UInt8} {p q : Nat} {x : Int32} (hp : p ≤ s.length) (h : esR s p = .inr (x, q)) : p < q ∧ p + (u8 x).length ≤ q + 1 ∧ q ≤ s.length := by
  unfold esR at h
  split at h
  · rename_i hc
    have hi := cd_in (s := s) (p := p) (by omega)
    unfold esU at h
    cases h1 : f4 s false 4 0 0 (p + 1) with
    | inl y => rw [h1] at h; exact absurd h (by simp [sB])
    | inr r =>
      rw [h1] at h
      obtain ⟨u, r⟩ := r
      have k1 := f4_ok (by omega) h1
      have h : (if u < 55296 ∨ 56319 < u then .inr ((Int32.ofNat u), r) else sB (wdR s [92, 117] r) fun q => sB (f4 s true 4 0 0 q) fun t => .inr (srgF u t.1, t.2)) = Sum.inr (x, q) := h
      split at h
      · have := Sum.inr.inj h
        have e1 := congrArg Prod.fst this
        have e2 := congrArg Prod.snd this
        simp only at e1 e2
        have := u8_len3 (n := u) (by omega)
        rw [← e1]
        omega
      · cases h2 : wdR s [92, 117] r with
        | inl y => rw [h2] at h; exact absurd h (by simp [sB])
        | inr r2 =>
          rw [h2] at h
          have k2 := wdR_ok (by decide) k1.2.2 h2
          have h : (sB (f4 s true 4 0 0 r2) fun t => Sum.inr (srgF u t.1, t.2)) = Sum.inr (x, q) := h
          cases h3 : f4 s true 4 0 0 r2 with
          | inl y => rw [h3] at h; exact absurd h (by simp [sB])
          | inr t =>
            rw [h3] at h
            obtain ⟨v, t⟩ := t
            have k3 := f4_ok k2.2 h3
            have := Sum.inr.inj h
            have e2 := congrArg Prod.snd this
            simp only at e2
            have := u8_len4 x
            simp only [List.length_cons, List.length_nil] at k2
            omega
  · split at h
    · exact absurd h (by simp)
    · rename_i h1 h2
      have hi := cd_in (s := s) (p := p) (fun e => h2 (by rw [e]; rfl))
      have := Sum.inr.inj h
      have e1 := congrArg Prod.fst this
      have e2 := congrArg Prod.snd this
      simp only at e1 e2
      have := (shE_cases (cd s p)).resolve_right h2
      rw [← e1, u8_len1 this]
      simp only [List.length_singleton]
      omega
theorem wMo_le (c : Nat) : wMo c ≤ 3 := by
  unfold wMo
  repeat' split
  all_goals omega
theorem wLo_pos (c : Nat) : 0 < wLo c ∧ wLo c < 256 := by
  unfold wLo
  repeat' split
  all_goals omega
theorem wHi_lt (c : Nat) : 0 < wHi c ∧ wHi c < 256 := by
  unfold wHi
  repeat' split
  all_goals omega
theorem chR_ok {s : List UInt8} {p q : Nat} {bs : List UInt8} (h : chR s p = .inr (bs, q)) : p < q ∧ p + bs.length ≤ q ∧ q ≤ s.length := by
  unfold chR at h
  split at h
  · exact absurd h (by simp)
  · have hi := cd_in (s := s) (p := p) (by omega)
    split at h
    · cases h1 : esR s (p + 1) with
      | inl y => rw [h1] at h; exact absurd h (by simp [sB])
      | inr r =>
        rw [h1] at h
        obtain ⟨x, r⟩ := r
        have k1 := esR_ok (by omega) h1
        have := Sum.inr.inj h
        have e1 := congrArg Prod.fst this
        have e2 := congrArg Prod.snd this
        simp only at e1 e2
        rw [← e1]
        omega
    · split at h
      · have := Sum.inr.inj h
        have e1 := congrArg Prod.fst this
        have e2 := congrArg Prod.snd this
        simp only at e1 e2
        rw [← e1]
        simp only [List.length_singleton]
        omega
      · unfold wiR at h
        split at h
        · exact absurd h (by simp)
        · have := wlR_ok (wLo_pos _).1 (by omega) h
          simp only [List.length_singleton] at this
          omega
theorem stL_ok {s : List UInt8} : ∀ {n p : Nat} {acc bs : List UInt8} {q : Nat}, stL s n p acc = .inr (bs, q) → ∃ cs, bs = acc ++ cs ∧ p + cs.length < q ∧ q ≤ s.length := by
  intro n
  induction n with
  | zero => exact fun h => absurd h (by simp [stL])
  | succ n ih =>
    intro p acc bs q h
    have h : (if cd s p = 34 then .inr (acc, p + 1) else sB (chR s p) fun r => stL s n r.2 (acc ++ r.1)) = Sum.inr (bs, q) := h
    split at h
    · have hi := cd_in (s := s) (p := p) (by omega)
      have := Sum.inr.inj h
      have e1 := congrArg Prod.fst this
      have e2 := congrArg Prod.snd this
      simp only at e1 e2
      exact ⟨[], by rw [← e1, List.append_nil], by simp only [List.length_nil]; omega, by omega⟩
    · cases h1 : chR s p with
      | inl y => rw [h1] at h; exact absurd h (by simp [sB])
      | inr r =>
        rw [h1] at h
        obtain ⟨b1, r⟩ := r
        have k1 := chR_ok h1
        obtain ⟨cs, e, l1, l2⟩ := ih (p := r) (acc := acc ++ b1) h
        exact ⟨b1 ++ cs, by rw [e, List.append_assoc], by rw [List.length_append]; omega, l2⟩
theorem stR_ok {s : List UInt8} {p q : Nat} {bs : List UInt8} (h : stR s p = .inr (bs, q)) : p + 1 + bs.length < q ∧ q ≤ s.length := by
  obtain ⟨cs, e, l1, l2⟩ := stL_ok h
  rw [List.nil_append] at e
  rw [e]
  exact ⟨l1, l2⟩
/-! the bytes as the sides see them -/
theorem pB_ge {s : List UInt8} {p : Nat} (h : s.length ≤ p) : pB s p = -1 := by
  unfold pB
  rw [List.getElem?_eq_none h]
theorem pB_in {s : List UInt8} {p : Nat} (h : p < s.length) : pB s p = (Int32.ofNat (cd s p)) := by
  unfold pB cd by8
  rw [List.getD_eq_getElem?_getD, List.getElem?_eq_getElem h]
  rfl
theorem pB_pos {s : List UInt8} {p : Nat} (h : cd s p ≠ 0) : pB s p = (Int32.ofNat (cd s p)) := pB_in (cd_in h)
theorem lo8_pB {s : List UInt8} {p : Nat} (h : p < s.length) : lo8 (pB s p) = by8 s p := by
  rw [pB_in h]
  unfold cd
  show lo8 (b32 (by8 s p)) = by8 s p
  have k : ∀ n, n < 256 → lo8 (b32 (UInt8.ofNat n)) = UInt8.ofNat n := by decide +kernel
  have := k (by8 s p).toNat (by8 s p).toNat_lt
  rwa [UInt8.ofNat_toNat] at this
theorem gB_cd (s : List UInt8) (p : Nat) : gB s p = (Int32.ofNat (cd s p)) := by
  unfold gB cd by8
  rw [List.getD_eq_getElem?_getD]
  cases s[p]? <;> rfl
theorem ck_eq {s : List UInt8} {p k : Nat} (h0 : 0 < k) (hk : k < 256) : (pB s p = (Int32.ofNat k)) = (cd s p = k) := by
  apply propext
  have hl := cd_lt s p
  by_cases hp : p < s.length
  · rw [pB_in hp, n_eq (by omega) (by omega)]
  · rw [pB_ge (by omega)]
    have e : cd s p = 0 := by
      unfold cd
      rw [by8_ge (by omega)]
      rfl
    rw [e]
    constructor
    · intro q
      have := congrArg Int32.toInt q
      rw [Int32.toInt_ofNat_of_lt (by omega)] at this
      have e : (-1 : Int32).toInt = -1 := by decide
      omega
    · intro q
      omega
theorem ck_lt {s : List UInt8} {p k : Nat} (h0 : 0 < k) (hk : k < 512) : (pB s p < (Int32.ofNat k)) = (cd s p < k) := by
  apply propext
  have hl := cd_lt s p
  by_cases hp : p < s.length
  · rw [pB_in hp, n_lt (by omega) (by omega)]
  · rw [pB_ge (by omega)]
    have e : cd s p = 0 := by
      unfold cd
      rw [by8_ge (by omega)]
      rfl
    rw [e, Int32.lt_iff_toInt_lt, Int32.toInt_ofNat_of_lt (by omega)]
    have e : (-1 : Int32).toInt = -1 := by decide
    omega
theorem ck_gt {s : List UInt8} {p k : Nat} (hk : k < 512) : ((Int32.ofNat k) < pB s p) = (k < cd s p) := by
  apply propext
  have hl := cd_lt s p
  by_cases hp : p < s.length
  · rw [pB_in hp, n_lt (by omega) (by omega)]
  · rw [pB_ge (by omega)]
    have e : cd s p = 0 := by
      unfold cd
      rw [by8_ge (by omega)]
      rfl
    rw [e, Int32.lt_iff_toInt_lt, Int32.toInt_ofNat_of_lt (by omega)]
    have e : (-1 : Int32).toInt = -1 := by decide
    omega
theorem ck_ge {s : List UInt8} {p k : Nat} (h0 : 0 < k) (hk : k < 512) : ((Int32.ofNat k) ≤ pB s p) = (k ≤ cd s p) := by
  have := ck_lt (s := s) (p := p) h0 hk
  apply propext
  rw [← Int32.not_lt, this]
  omega
theorem ck_le {s : List UInt8} {p k : Nat} (hk : k < 512) : (pB s p ≤ (Int32.ofNat k)) = (cd s p ≤ k) := by
  have := ck_gt (s := s) (p := p) hk
  apply propext
  rw [← Int32.not_lt, this]
  omega
