/-! TEXTS OF VALUES: the model begins a value -/
theorem rdB_iff {β γ : Nat → UInt8} {p q n : Nat} : rdB β p n = rdB γ q n ↔ ∀ j, j < n → β (p + j) = γ (q + j) := by
  constructor
  · intro h j hj
    have e1 := rdB_at (β := β) (p := p) hj
    rw [h, rdB_at hj] at e1
    exact (Option.some.inj e1).symm
  · intro h
    unfold rdB
    apply List.map_congr_left
    intro j hj
    exact h j (List.mem_range.mp hj)
theorem QM_same_l {W : WR} {G : mG} {F : Nat} {S : ST} {k1 k2 p1 p2 n : Nat} {β1 β2 : Nat → UInt8} (h : isM W) (q1 : (kdA 13)[k1]? = some 1) (q2 : (kdA 13)[k2]? = some 1) (l1 : mLen k1 < 2 ^ 30) (l2 : mLen k2 < 2 ^ 30) (b1 : p1 + n ≤ mLen k1) (b2 : p2 + n ≤ mLen k2) (h1 : mB (S 13 0) k1 β1) (h2 : mB (S 13 0) k2 β2) : ∀ (m k fuel : Nat) (is : Bool), m < fuel → k + m = n → (is = true ↔ ∀ j, j < k → β1 (p1 + j) = β2 (p2 + j)) → B_X13_same_6 G F fuel (W.ad (.a 13 0 k1)) (Int32.ofNat p1) (W.ad (.a 13 0 k2)) (Int32.ofNat p2) (Int32.ofNat n) (if is then 1 else 0) (Int32.ofNat k) (mem W S) = some (if rdB β1 p1 n = rdB β2 p2 n then 1 else 0, mem W S) := by
  intro m
  induction m with
  | zero =>
    intro k fuel is hf hk hi
    obtain ⟨fuel, rfl⟩ : ∃ q, fuel = q + 1 := ⟨fuel - 1, by omega⟩
    have ek : k = n := by omega
    subst ek
    rw [B_X13_same_6, if_pos ((n_le (by omega) (by omega)).mpr (Nat.le_refl _))]
    by_cases e : rdB β1 p1 k = rdB β2 p2 k
    · rw [if_pos e, hi.mpr (rdB_iff.mp e)]
      rfl
    · rw [if_neg e]
      cases is with
      | false => rfl
      | true => exact absurd (rdB_iff.mpr (hi.mp rfl)) e
  | succ m ih =>
    intro k fuel is hf hk hi
    obtain ⟨fuel, rfl⟩ : ∃ q, fuel = q + 1 := ⟨fuel - 1, by omega⟩
    have nx : ∀ b : Bool, (b = true ↔ ∀ j, j < k + 1 → β1 (p1 + j) = β2 (p2 + j)) → B_X13_same_6 G F fuel (W.ad (.a 13 0 k1)) (Int32.ofNat p1) (W.ad (.a 13 0 k2)) (Int32.ofNat p2) (Int32.ofNat n) (if b then 1 else 0) ((Int32.ofNat k) + 1) (mem W S) = some (if rdB β1 p1 n = rdB β2 p2 n then 1 else 0, mem W S) := by
      intro b hb
      rw [n_i1]
      exact ih (k + 1) fuel b (by omega) (by omega) hb
    rw [B_X13_same_6, if_neg (fun q => absurd ((n_le (by omega) (by omega)).mp q) (by omega))]
    cases is with
    | false =>
      rw [if_pos (by rfl)]
      exact nx false ⟨fun q => absurd q (by decide), fun q => absurd (hi.mpr (fun j hj => q j (by omega))) (by decide)⟩
    | true =>
      rw [if_neg (by decide), n_add, n_add, h.aB q1 h1 (by omega) (by omega), bO_s, h.aB q2 h2 (by omega) (by omega), bO_s]
      by_cases e : β1 (p1 + k) = β2 (p2 + k)
      · rw [if_pos (by rw [e])]
        refine nx true ⟨fun _ j hj => ?_, fun _ => rfl⟩
        by_cases ej : j = k
        · rw [ej]; exact e
        · exact hi.mp rfl j (by omega)
      · rw [if_neg (fun q => e (sb_inj q))]
        exact nx false ⟨fun q => absurd q (by decide), fun q => absurd (q k (by omega)) e⟩
theorem QM_same {W : WR} {G : mG} {F : Nat} {S : ST} {k1 k2 p1 p2 n : Nat} {β1 β2 : Nat → UInt8} (X : Cx G F W) (h : isM W) (q1 : (kdA 13)[k1]? = some 1) (q2 : (kdA 13)[k2]? = some 1) (l1 : mLen k1 < 2 ^ 30) (l2 : mLen k2 < 2 ^ 30) (b1 : p1 + n ≤ mLen k1) (b2 : p2 + n ≤ mLen k2) (h1 : mB (S 13 0) k1 β1) (h2 : mB (S 13 0) k2 β2) (hn : n < 90000) : P_X13_same G F (W.ad (.a 13 0 k1)) (Int32.ofNat p1) (W.ad (.a 13 0 k2)) (Int32.ofNat p2) (Int32.ofNat n) (mem W S) = some (if rdB β1 p1 n = rdB β2 p2 n then 1 else 0, mem W S) := by
  have := X.hF
  exact QM_same_l h q1 q2 l1 l2 b1 b2 h1 h2 n 0 F true (by omega) (by omega) ⟨fun _ j hj => absurd hj (Nat.not_lt_zero _), fun _ => rfl⟩
/-! what a value leaves of the values before it -/
def JO (op : Nat) (J J' : JT) : Prop := ∀ k i, i < J.1 → J'.2.1 k i = if k = 5 ∧ i + 1 = op then J.2.1 5 i + 1 else J.2.1 k i
theorem bgn_O {kd p op na nm : Nat} {J : JT} : JO op J (bgn J kd p op na nm) := by
  intro k i hi
  show bgT J.2.1 J.1 kd p op J.2.2.length na nm k i = _
  unfold bgT
  rw [if_neg (by omega)]
theorem rv_old {s : List UInt8} {d p op dep na nm q : Nat} {J J' : JT} (hw : JW s p J) (ho : op ≤ J.1) (hm : na + nm ≤ J.2.2.length) (h : rv s d p J op dep na nm = .inr (q, J')) : JO op J J' := by
  cases d with
  | zero => exact absurd h (by simp [rv])
  | succ d =>
    rw [rv] at h
    split at h
    · exact absurd h (by simp)
    · rename_i hbad
      have hk := kdB_le (cd s p)
      have hi := cd_in (s := s) (p := p) (fun e => hbad (Or.inl (by rw [e]; rfl)))
      have sn : ∀ kd bs, JO op J (snm (bgn J kd p op na nm) J.1 bs) := by
        intro kd bs k i hi
        have := bgn_O (kd := kd) (p := p) (op := op) (na := na) (nm := nm) k i hi
        rw [← this]
        show upT (bgn J kd p op na nm).2.1 7 J.1 bs.length k i = _
        unfold upT
        rw [if_neg (by omega)]
      split at h
      · cases h1 : wdR s (wdB (kdB (cd s p))) p with
        | inl x => rw [h1] at h; exact absurd h (by simp [sB])
        | inr x =>
          rw [h1] at h
          have g2 := congrArg Prod.snd (Sum.inr.inj h)
          simp only at g2
          rw [← g2]
          exact bgn_O
      · split at h
        · cases h1 : nmS s p (nmR s p) with
          | inl x => rw [h1] at h; exact absurd h (by simp [sB])
          | inr x =>
            rw [h1] at h
            have g2 := congrArg Prod.snd (Sum.inr.inj h)
            simp only at g2
            rw [← g2]
            exact sn 3 _
        · split at h
          · cases h1 : stR s p with
            | inl x => rw [h1] at h; exact absurd h (by simp [sB])
            | inr x =>
              rw [h1] at h
              have g2 := congrArg Prod.snd (Sum.inr.inj h)
              simp only at g2
              rw [← g2]
              exact sn 4 _
          · unfold mnR at h
            split at h
            · have g2 := congrArg Prod.snd (Sum.inr.inj h)
              simp only at g2
              rw [← g2]
              exact bgn_O
            · have w := bgn_W (kd := kdB (cd s p)) hw (by omega) (by omega) ho hm
              have l2 := skb_len (s := s) (p := p + 1) (by omega)
              have l1 := skb_le s (p + 1)
              obtain ⟨a1, a2, a3⟩ := lp_ok (v := J.1) (fun p' J2 na' nm' q' J3 hw' hv' hm' hr' => rv_ok hw' (by omega) hm' hr') (w.mono (by omega) l2) (Nat.lt_succ_self _) h
              intro k i hi
              have := a3.2.1 k i (by show i < J.1 + 1; omega) (by omega)
              rw [this]
              exact bgn_O k i hi
/-! the model's values -/
def vAr : List Nat := [6, 7, 8, 9, 10, 11, 12, 13, 14, 16]
/-- of bank bk only the values from lo on are touched -/
def kpB (bk lo : Nat) (o o' : Ob) : Prop := agr [26] [] vAr [] o o' ∧ (∀ k, 6 ≤ k → k ≤ 14 → ∀ j, (j < 600 * bk + lo ∨ 600 * bk + 600 ≤ j) → o'.a k j = o.a k j) ∧ ∀ j, j ≠ bk → o'.a 16 j = o.a 16 j
theorem kpB.refl (bk lo : Nat) (o : Ob) : kpB bk lo o o := ⟨agr.refl _ _ _ _ _, fun _ _ _ _ _ => rfl, fun _ _ => rfl⟩
theorem kpB.trans {bk lo : Nat} {o o1 o2 : Ob} (h1 : kpB bk lo o o1) (h2 : kpB bk lo o1 o2) : kpB bk lo o o2 := ⟨h1.1.trans h2.1, fun k a b j hj => (h2.2.1 k a b j hj).trans (h1.2.1 k a b j hj), fun j hj => (h2.2.2 j hj).trans (h1.2.2 j hj)⟩
theorem kpB.mono {bk lo lo' : Nat} {o o' : Ob} (h : kpB bk lo o o') (hl : lo' ≤ lo) : kpB bk lo' o o' := ⟨h.1, fun k a b j hj => h.2.1 k a b j (by omega), h.2.2⟩
theorem kpB_sA {bk lo i k : Nat} {o : Ob} {v : Int32} (hk : k ∈ vAr) (hk2 : k ≠ 16) (h1 : lo ≤ i) (h2 : i < 600) : kpB bk lo o (o.sA k (upd (o.a k) (600 * bk + i) v)) := by
  refine ⟨agr_sA hk, fun k' a b j hj => ?_, fun j hj => ?_⟩
  · by_cases e : k' = k
    · subst e
      rw [sA_a]
      unfold upd
      rw [if_neg (by omega)]
    · rw [sA_a' e]
  · rw [sA_a' (fun e => hk2 e.symm)]
theorem kpB_16 {bk lo : Nat} {o : Ob} {v : Int32} : kpB bk lo o (o.sA 16 (upd (o.a 16) bk v)) := by
  refine ⟨agr_sA (by decide), fun k' a b j hj => ?_, fun j hj => ?_⟩
  · rw [sA_a' (by omega)]
  · rw [sA_a]
    unfold upd
    rw [if_neg hj]
theorem kpB_26 {bk lo : Nat} {o : Ob} {v : Int32} : kpB bk lo o (o.sf 26 v) := ⟨agr_sf (by decide), fun _ _ _ _ _ => rfl, fun _ _ => rfl⟩
theorem kpB.src {bk lo ks p0 : Nat} {o o' : Ob} {s : List UInt8} (h : kpB bk lo o o') (hk : ks ∉ vAr) (c : SrC o ks p0 s) : SrC o' ks p0 s := by
  obtain ⟨α, c1, c2, c3, c4, c5⟩ := c
  exact ⟨α, h.1.mB c1 hk, by rw [h.1.1 20 (by decide)]; exact c2, by rw [h.1.1 21 (by decide)]; exact c3, c4, c5⟩
def TbM (o : Ob) (bk : Nat) (T : Nat → Nat → Nat) (lo hi : Nat) : Prop := ∀ i, lo ≤ i → i < hi → o.a 6 (600 * bk + i) = (Int32.ofNat (T 1 i)) ∧ o.a 7 (600 * bk + i) = paI (T 2 i) ∧ o.a 8 (600 * bk + i) = (Int32.ofNat (T 3 i)) ∧ o.a 9 (600 * bk + i) = (Int32.ofNat (T 4 i)) ∧ o.a 10 (600 * bk + i) = (Int32.ofNat (T 5 i)) ∧ o.a 11 (600 * bk + i) = (Int32.ofNat (8200 * bk + T 6 i)) ∧ o.a 12 (600 * bk + i) = (Int32.ofNat (T 7 i)) ∧ (mbr T i → o.a 13 (600 * bk + i) = (Int32.ofNat (8200 * bk + T 8 i)) ∧ o.a 14 (600 * bk + i) = (Int32.ofNat (T 9 i))) ∧ (¬ mbr T i → o.a 14 (600 * bk + i) = -1)
/-- a value's row just begun -/
def BgM (o o1 : Ob) (bk n op place p fm : Nat) (kd : Int32) : Prop := kpB bk n o o1 ∧ o1.a 16 bk = (Int32.ofNat (n + 1)) ∧ o1.f 26 = o.f 26 ∧ o1.a 6 (600 * bk + n) = kd ∧ o1.a 7 (600 * bk + n) = paI op ∧ o1.a 8 (600 * bk + n) = (Int32.ofNat place) ∧ o1.a 9 (600 * bk + n) = (Int32.ofNat p) ∧ o1.a 10 (600 * bk + n) = 0 ∧ o1.a 11 (600 * bk + n) = (Int32.ofNat fm) ∧ o1.a 12 (600 * bk + n) = 0 ∧ o1.a 13 (600 * bk + n) = o.a 13 (600 * bk + n) ∧ o1.a 14 (600 * bk + n) = if op = 0 then -1 else o.a 14 (600 * bk + n)
/-- what stands in the names' rows before a value is read -/
def NmM (o : Ob) (bk : Nat) (J : JT) (op na nm : Nat) : Prop := op ≠ 0 → J.1 < 600 → (J.2.1 1 (op - 1) = 6 → o.a 13 (600 * bk + J.1) = (Int32.ofNat (8200 * bk + na)) ∧ o.a 14 (600 * bk + J.1) = (Int32.ofNat nm)) ∧ (J.2.1 1 (op - 1) ≠ 6 → o.a 14 (600 * bk + J.1) = -1)
theorem bgM_T {o o1 : Ob} {bk kd p op na nm : Nat} {J : JT} (h : BgM o o1 bk J.1 op (if op = 0 then 0 else J.2.1 5 (op - 1)) p (8200 * bk + J.2.2.length) (Int32.ofNat kd)) (hn : J.1 < 600) (ho : op ≤ J.1) (nmh : NmM o bk J op na nm) : TbM o1 bk (bgn J kd p op na nm).2.1 J.1 (J.1 + 1) := by
  intro i h1 h2
  have e : i = J.1 := by omega
  subst e
  obtain ⟨b0, b16, b26, b6, b7, b8, b9, b10, b11, b12, b13, b14⟩ := h
  show _ = (Int32.ofNat (bgT J.2.1 J.1 kd p op J.2.2.length na nm 1 J.1)) ∧ _ = paI (bgT J.2.1 J.1 kd p op J.2.2.length na nm 2 J.1) ∧ _ = (Int32.ofNat (bgT J.2.1 J.1 kd p op J.2.2.length na nm 3 J.1)) ∧ _ = (Int32.ofNat (bgT J.2.1 J.1 kd p op J.2.2.length na nm 4 J.1)) ∧ _ = (Int32.ofNat (bgT J.2.1 J.1 kd p op J.2.2.length na nm 5 J.1)) ∧ _ = (Int32.ofNat (8200 * bk + bgT J.2.1 J.1 kd p op J.2.2.length na nm 6 J.1)) ∧ _ = (Int32.ofNat (bgT J.2.1 J.1 kd p op J.2.2.length na nm 7 J.1)) ∧ (mbr (bgT J.2.1 J.1 kd p op J.2.2.length na nm) J.1 → _ = (Int32.ofNat (8200 * bk + bgT J.2.1 J.1 kd p op J.2.2.length na nm 8 J.1)) ∧ _ = (Int32.ofNat (bgT J.2.1 J.1 kd p op J.2.2.length na nm 9 J.1))) ∧ (¬ mbr (bgT J.2.1 J.1 kd p op J.2.2.length na nm) J.1 → _ = -1)
  have mb : mbr (bgT J.2.1 J.1 kd p op J.2.2.length na nm) J.1 ↔ op ≠ 0 ∧ J.2.1 1 (op - 1) = 6 := by
    unfold mbr
    rw [bgT_n]
    show op ≠ 0 ∧ bgT J.2.1 J.1 kd p op J.2.2.length na nm 1 (op - 1) = 6 ↔ _
    constructor
    · rintro ⟨q1, q2⟩
      rw [bgT_o (by omega) (by omega)] at q2
      exact ⟨q1, q2⟩
    · rintro ⟨q1, q2⟩
      rw [bgT_o (by omega) (by omega)]
      exact ⟨q1, q2⟩
  simp only [bgT_n]
  refine ⟨b6, b7, b8, b9, b10, b11, b12, fun q => ?_, fun q => ?_⟩
  · obtain ⟨q1, q2⟩ := mb.mp q
    obtain ⟨c1, c2⟩ := (nmh q1 hn).1 q2
    exact ⟨b13.trans c1, by rw [b14, if_neg q1]; exact c2⟩
  · rw [b14]
    by_cases e : op = 0
    · rw [if_pos e]
    · rw [if_neg e]
      exact (nmh e hn).2 (fun q2 => q (mb.mpr ⟨e, q2⟩))
section MBG
variable {W : WR} {G : mG} {F : Nat} {S : ST} {ks p0 u : Nat} {s acc : List UInt8} {o : Ob} {β : Nat → UInt8} {fl p : Int32}
theorem mro_sA {o : Ob} {p fl top : Int32} {β : Nat → UInt8} {k : Nat} {f : Nat → Int32} (hk : k ≠ 15) : (mro o p fl top β).sA k f = mro (o.sA k f) p fl top β := by
  refine Ob_ext2 (fun j => rfl) (fun j => ?_)
  show (if j = k then f else if j = 15 then (fun j => sb (β j)) else o.a j) = if j = 15 then (fun j => sb (β j)) else if j = k then f else o.a j
  repeat' split
  all_goals first | rfl | (exfalso; omega)
theorem mro_26 {o : Ob} {p fl top v : Int32} {β : Nat → UInt8} : (mro o p fl top β).sf 26 v = mro (o.sf 26 v) p fl top β := by
  refine Ob_ext2 (fun k => ?_) (fun k => rfl)
  show (if k = 26 then v else if k = 25 then top else if k = 23 then fl else if k = 22 then p else o.f k) = if k = 25 then top else if k = 23 then fl else if k = 22 then p else if k = 26 then v else o.f k
  repeat' split
  all_goals first | rfl | (exfalso; omega)
theorem vAr_k {k : Nat} (h : k ∈ vAr) : (kdF 13)[k]? = some 2 ∧ (kdA 13)[k]? = some 0 ∧ k ≠ 15 ∧ 0 < mLen k ∧ mLen k ≤ 1200 := by
  simp only [vAr, List.mem_cons, List.not_mem_nil, or_false] at h
  rcases h with rfl | rfl | rfl | rfl | rfl | rfl | rfl | rfl | rfl | rfl <;> exact ⟨rfl, rfl, by decide, by decide, by decide⟩
theorem ma_r (h : isM W) (k : Nat) (hk : k ∈ vAr := by decide) : gfR (mem W (MA S o p fl u β acc)) (W.ad (.o 13 0)) 13 k = some (W.ad (.a 13 0 k)) := h.gR k (vAr_k hk).1 (vAr_k hk).2.2.2.1
theorem ma_aN (h : isM W) (k j : Nat) (hj : j < mLen k) (hk : k ∈ vAr := by decide) : aI G (mem W (MA S o p fl u β acc)) 0 (W.ad (.a 13 0 k)) (Int32.ofNat j) = some (o.a k j) := by
  rw [h.aN (vAr_k hk).2.1 hj (by have := (vAr_k hk).2.2.2.2; omega), ma_13, mro_a, if_neg (vAr_k hk).2.2.1]
theorem ma_sN (h : isM W) (k j : Nat) {v : Int32} (hj : j < mLen k) (hk : k ∈ vAr := by decide) : sI (mem W (MA S o p fl u β acc)) 0 (W.ad (.a 13 0 k)) (Int32.ofNat j) v = some (mem W (MA S (o.sA k (upd (o.a k) j v)) p fl u β acc)) := by
  rw [h.sN (vAr_k hk).2.1 hj (by have := (vAr_k hk).2.2.2.2; omega), ma_13, mro_a, if_neg (vAr_k hk).2.2.1, mro_sA (vAr_k hk).2.2.1]
  unfold MA
  rw [so_so]
theorem ma_26 (h : isM W) {v : Int32} : pfv (mem W (MA S o p fl u β acc)) (W.ad (.o 13 0)) 13 26 (.int v) = some (mem W (MA S (o.sf 26 v) p fl u β acc)) := by
  rw [h.pI 26 v rfl, ma_13, mro_26]
  unfold MA
  rw [so_so]
theorem QM_111 {q n bk op place : Nat} {c : Int32} {rvd : Nat → Int32 → Int32 → mM → Option mM} (h : isM W) (hbk : bk ≤ 1) (hn : n < 600) (ho : op < 2 ^ 31) (h24 : o.f 24 = (Int32.ofNat bk)) (h16 : o.a 16 bk = (Int32.ofNat n)) : ∃ o0 : Ob, B_X13_readValue_o_111 G F rvd (W.ad (.o 13 0)) (paI op) (Int32.ofNat place) c (mem W (MA S o (Int32.ofNat q) (-1) u β acc)) = B_X13_readValue_o_210 G F rvd (W.ad (.o 13 0)) c (Int32.ofNat (600 * bk + n)) (mem W (MA S o0 (Int32.ofNat q) (-1) u β acc)) ∧ ∀ kd, BgM o (o0.sA 6 (upd (o0.a 6) (600 * bk + n) kd)) bk n op place q (u + acc.length) kd := by
  have L : ∀ k, k ∈ vAr → k ≠ 16 → 600 * bk + n < mLen k := by
    intro k hk h16
    simp only [vAr, List.mem_cons, List.not_mem_nil, or_false] at hk
    have : mLen k = 1200 := by rcases hk with rfl | rfl | rfl | rfl | rfl | rfl | rfl | rfl | rfl | rfl <;> first | rfl | exact absurd rfl h16
    omega
  have e24 : ∀ (o : Ob), o.f 24 = (Int32.ofNat bk) → gfI (mem W (MA S o (Int32.ofNat q) (-1) u β acc)) (W.ad (.o 13 0)) 13 24 = some (Int32.ofNat bk) := fun o e => by rw [ma_o h 24 rfl (by decide), e]
  have ej : (600 : Int32) * (Int32.ofNat bk) + (Int32.ofNat n) = (Int32.ofNat (600 * bk + n)) := by rw [show (600 : Int32) = (Int32.ofNat 600) from rfl, n_mul, n_add]
  unfold B_X13_readValue_o_111
  rw [e24 o h24, bO_s, ma_r h 16, bO_s, bO_s, ma_aN h 16 bk (by show bk < 2; omega), bO_s, bO_s, bO_s, ma_aN h 16 bk (by show bk < 2; omega), bO_s, h16, n_i1, ma_sN h 16 bk (by show bk < 2; omega), bO_s, ej, ma_r h 7, bO_s, ma_sN h 7 _ (L 7 (by decide) (by decide)), bO_s, ma_r h 8, bO_s, ma_sN h 8 _ (L 8 (by decide) (by decide)), bO_s, ma_r h 9, bO_s, ma_at h, bO_s, ma_sN h 9 _ (L 9 (by decide) (by decide)), bO_s, ma_r h 10, bO_s, ma_sN h 10 _ (L 10 (by decide) (by decide)), bO_s, ma_r h 11, bO_s, ma_top h, bO_s, ma_sN h 11 _ (L 11 (by decide) (by decide)), bO_s, ma_r h 12, bO_s, ma_sN h 12 _ (L 12 (by decide) (by decide)), bO_s]
  have up : ∀ (f : Nat → Int32) (j : Nat) (v : Int32), upd f j v j = v := fun f j v => if_pos rfl
  have kk : ∀ {o1 o2 : Ob} (k : Nat) (v : Int32), k ∈ vAr → k ≠ 16 → kpB bk n o1 o2 → kpB bk n o1 (o2.sA k (upd (o2.a k) (600 * bk + n) v)) := fun k v h1 h2 h3 => h3.trans (kpB_sA h1 h2 (Nat.le_refl _) hn)
  by_cases e : op = 0
  · rw [if_neg (show ¬ (0 : Int32) ≤ paI op by rw [e]; decide), ma_r h 14, bO_s, ma_sN h 14 _ (L 14 (by decide) (by decide)), bO_s]
    refine ⟨_, rfl, fun kd => ⟨?_, ?_, ?_, ?_, ?_, ?_, ?_, ?_, ?_, ?_, ?_, ?_⟩⟩
    · exact kk 6 _ (by decide) (by decide) (kk 14 _ (by decide) (by decide) (kk 12 _ (by decide) (by decide) (kk 11 _ (by decide) (by decide) (kk 10 _ (by decide) (by decide) (kk 9 _ (by decide) (by decide) (kk 8 _ (by decide) (by decide) (kk 7 _ (by decide) (by decide) kpB_16)))))))
    · exact up _ _ _
    · rfl
    · exact up _ _ _
    · exact up _ _ _
    · exact up _ _ _
    · exact up _ _ _
    · exact up _ _ _
    · exact up _ _ _
    · exact up _ _ _
    · rfl
    · rw [if_pos e]
      exact up _ _ _
  · rw [if_pos (show (0 : Int32) ≤ paI op by rw [show paI op = (Int32.ofNat (op - 1)) from if_neg e]; exact (n_le (a := 0) (by omega) (by omega)).mpr (by omega))]
    refine ⟨_, rfl, fun kd => ⟨?_, ?_, ?_, ?_, ?_, ?_, ?_, ?_, ?_, ?_, ?_, ?_⟩⟩
    · exact kk 6 _ (by decide) (by decide) (kk 12 _ (by decide) (by decide) (kk 11 _ (by decide) (by decide) (kk 10 _ (by decide) (by decide) (kk 9 _ (by decide) (by decide) (kk 8 _ (by decide) (by decide) (kk 7 _ (by decide) (by decide) kpB_16))))))
    · exact up _ _ _
    · rfl
    · exact up _ _ _
    · exact up _ _ _
    · exact up _ _ _
    · exact up _ _ _
    · exact up _ _ _
    · exact up _ _ _
    · exact up _ _ _
    · rfl
    · rw [if_neg e]
      rfl
end MBG
