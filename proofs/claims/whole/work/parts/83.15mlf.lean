/-! TEXTS OF VALUES: the model's leaves and names -/
def m7v (W : WR) (S : ST) (u : Nat) (β : Nat → UInt8) (bk lo : Nat) (o : Ob) (dep : Nat) (run : Option mM) (r : Nat ⊕ (Nat × JT)) : Prop := match r with
  | .inl q => ∃ (o' : Ob) (p' : Int32) (acc' : List UInt8), run = some (mem W (MA S o' p' (Int32.ofNat q) u β acc')) ∧ kpB bk lo o o' ∧ acc'.length ≤ 8192
  | .inr (q, J') => ∃ o' : Ob, run = some (mem W (MA S o' (Int32.ofNat q) (-1) u β J'.2.2)) ∧ kpB bk lo o o' ∧ o'.a 16 bk = (Int32.ofNat J'.1) ∧ o'.f 26 = (Int32.ofNat dep) ∧ TbM o' bk J'.2.1 lo J'.1
theorem tbM7 {o : Ob} {bk n m : Nat} {T : Nat → Nat → Nat} (h : TbM o bk T n (n + 1)) : TbM (o.sA 12 (upd (o.a 12) (600 * bk + n) (Int32.ofNat m))) bk (upT T 7 n m) n (n + 1) := by
  intro i h1 h2
  have e : i = n := by omega
  subst e
  obtain ⟨a1, a2, a3, a4, a5, a6, a7, a8, a9⟩ := h i h1 h2
  have mb : mbr (upT T 7 i m) i ↔ mbr T i := by
    unfold mbr upT
    simp only [show (1 = 7) = False by decide, show (2 = 7) = False by decide, false_and, if_false]
  have e7 : upT T 7 i m 7 i = m := if_pos ⟨rfl, rfl⟩
  refine ⟨a1, a2, a3, a4, a5, a6, ?_, fun q => a8 (mb.mp q), fun q => a9 (fun q2 => q (mb.mpr q2))⟩
  rw [e7, sA_a]
  exact if_pos rfl
theorem kdB_c0 : ∀ c, c < 256 → kdB c = 0 → c = 110 := by decide +kernel
theorem kdB_c1 : ∀ c, c < 256 → kdB c = 1 → c = 102 := by decide +kernel
theorem kdB_c2 : ∀ c, c < 256 → kdB c = 2 → c = 116 := by decide +kernel
theorem kdB_c4 : ∀ c, c < 256 → kdB c = 4 → c = 34 := by decide +kernel
theorem kdB_c5 : ∀ c, c < 256 → kdB c = 5 → c = 91 := by decide +kernel
theorem kdB_c6 : ∀ c, c < 256 → kdB c = 6 → c = 123 := by decide +kernel
theorem kdB_c3 : ∀ c, c < 256 → kdB c = 3 → c ≠ 123 ∧ c ≠ 91 ∧ c ≠ 34 ∧ c ≠ 116 ∧ c ≠ 102 ∧ c ≠ 110 := by decide +kernel
theorem kdB_c (c : Nat) (h : c < 256) : (kdB c = 0 → c = 110) ∧ (kdB c = 1 → c = 102) ∧ (kdB c = 2 → c = 116) ∧ (kdB c = 4 → c = 34) ∧ (kdB c = 5 → c = 91) ∧ (kdB c = 6 → c = 123) ∧ (kdB c = 3 → c ≠ 123 ∧ c ≠ 91 ∧ c ≠ 34 ∧ c ≠ 116 ∧ c ≠ 102 ∧ c ≠ 110) := ⟨kdB_c0 c h, kdB_c1 c h, kdB_c2 c h, kdB_c4 c h, kdB_c5 c h, kdB_c6 c h, kdB_c3 c h⟩
section MLF
variable {W : WR} {G : mG} {F : Nat} {S : ST} {ks p0 : Nat} {s : List UInt8} {o : Ob} {β : Nat → UInt8} {J : JT}
theorem seg_1 {s : List UInt8} {k m : Nat} (h : k + (m + 1) ≤ s.length) : seg s k (m + 1) = by8 s k :: seg s (k + 1) m := by
  unfold seg by8
  rw [List.drop_eq_getElem_cons (show k < s.length by omega), List.take_succ_cons, List.getD_eq_getElem?_getD, List.getElem?_eq_getElem (show k < s.length by omega)]
  rfl
theorem QM_433 {q u j : Nat} {rvd : Nat → Int32 → Int32 → mM → Option mM} (h : isM W) (K : isSr W ks) (C : SrC o ks p0 s) (hl : s.length ≤ 8192) (hj : j < 1200) (hu : u ≤ 8200) (hq : q ≤ s.length) : ∀ (m k fuel : Nat) (acc : List UInt8), m < fuel → k + m = q → acc.length ≤ k → B_X13_readValue_o_433 G F rvd fuel (W.ad (.o 13 0)) (Int32.ofNat j) (Int32.ofNat k) (mem W (MA S o (Int32.ofNat q) (-1) u β acc)) = some (mem W (MA S (o.sA 12 (upd (o.a 12) j ((Int32.ofNat (u + (acc ++ seg s k m).length)) - o.a 11 j))) (Int32.ofNat q) (-1) u β (acc ++ seg s k m))) := by
  intro m
  induction m with
  | zero =>
    intro k fuel acc hf hk ha
    obtain ⟨fuel, rfl⟩ : ∃ q, fuel = q + 1 := ⟨fuel - 1, by omega⟩
    rw [B_X13_readValue_o_433, ma_at h, bO_s, if_pos ((n_le (by omega) (by omega)).mpr (by omega)), ma_r h 12, bO_s, ma_top h, bO_s, ma_r h 11, bO_s, ma_aN h 11 j hj, bO_s, ma_sN h 12 j hj, bO_s, show seg s k 0 = [] from rfl, List.append_nil]
  | succ m ih =>
    intro k fuel acc hf hk ha
    obtain ⟨fuel, rfl⟩ : ∃ q, fuel = q + 1 := ⟨fuel - 1, by omega⟩
    obtain ⟨α, c1, c2, c3, c4, c5⟩ := id C
    have e : gfR (mem W (MA S o (Int32.ofNat q) (-1) u β acc)) (W.ad (.o 13 0)) 13 19 = some (W.ad (.a 13 0 ks)) := gfR_m h.lo rfl K.1
    rw [B_X13_readValue_o_433, ma_at h, bO_s, if_neg (fun q => absurd ((n_le (by omega) (by omega)).mp q) (by omega)), ma_lo h, bO_s, QM_good1 h, bP_s, if_neg (by decide), e, bO_s, ma_o h 20 rfl (by decide), bO_s, c2, n_add, h.aB (S := MA S o (Int32.ofNat q) (-1) u β acc) (β := α) K.2.1 (by rw [ma_13]; unfold mB; rw [mro_a, if_neg K.2.2.2]; exact c1) (by omega) (by have := K.2.2.1; omega), bO_s, ma_lo h, bO_s, QM_keep8 h (by omega), bO_s, n_i1, lo8_sb, src_by c4 (by omega), ih (k + 1) fuel _ (by omega) (by omega) (by rw [List.length_append, List.length_singleton]; omega), List.append_assoc, List.singleton_append, ← seg_1 (by omega)]
theorem QM_433b {q p u j : Nat} {p' : Int32} {acc : List UInt8} {rvd : Nat → Int32 → Int32 → mM → Option mM} (h : isM W) (hj : j < 1200) (hq : q < 2 ^ 31) (fuel : Nat) : B_X13_readValue_o_433 G F rvd (fuel + 1) (W.ad (.o 13 0)) (Int32.ofNat j) (Int32.ofNat p) (mem W (MA S o p' (Int32.ofNat q) u β acc)) = some (mem W (MA S (o.sA 12 (upd (o.a 12) j ((Int32.ofNat (u + acc.length)) - o.a 11 j))) p' (Int32.ofNat q) u β acc)) := by
  rw [B_X13_readValue_o_433, ma_at h, bO_s]
  split
  · rw [ma_r h 12, bO_s, ma_top h, bO_s, ma_r h 11, bO_s, ma_aN h 11 j hj, bO_s, ma_sN h 12 j hj, bO_s]
  · rw [ma_lo h, bO_s, QM_good0 h hq, bP_s, if_pos rfl, ma_r h 12, bO_s, ma_top h, bO_s, ma_r h 11, bO_s, ma_aN h 11 j hj, bO_s, ma_sN h 12 j hj, bO_s]
theorem nmR_bad {p q : Nat} (hp : p ≤ s.length) (h : nmR s p = .inl q) : q ≤ s.length + 2 := by
  unfold nmR at h
  have ha : nmA s p ≤ s.length := by
    unfold nmA
    split
    · have := cd_in (s := s) (p := p) (by omega)
      omega
    · omega
  cases hb : nmB s (nmA s p) with
  | inl x =>
    rw [hb] at h
    have e := Sum.inl.inj (α := Nat) (β := Nat) h
    unfold nmB at hb
    split at hb
    · exact absurd hb (by simp)
    · have := dgR_bad hb
      omega
  | inr p2 =>
    rw [hb] at h
    have h2 : p2 ≤ s.length := by
      unfold nmB at hb
      split at hb
      · have := cd_in (s := s) (p := nmA s p) (by omega)
        have := Sum.inr.inj hb
        omega
      · exact (dgR_ok hb).2
    have h : sB (nmC s p2) (fun p3 => nmD s p3) = .inl q := h
    cases hc : nmC s p2 with
    | inl x =>
      rw [hc] at h
      have e := Sum.inl.inj (α := Nat) (β := Nat) h
      unfold nmC at hc
      split at hc
      · have := dgR_bad hc
        omega
      · exact absurd hc (by simp)
    | inr p3 =>
      rw [hc] at h
      have h3 : p3 ≤ s.length := by
        unfold nmC at hc
        split at hc
        · exact (dgR_ok hc).2
        · have := Sum.inr.inj hc
          omega
      have h : nmD s p3 = .inl q := h
      unfold nmD at h
      split at h
      · have := dgR_bad h
        split at this <;> omega
      · exact absurd h (by simp)
theorem stL_bad : ∀ {n p : Nat} {acc : List UInt8} {q : Nat}, p ≤ s.length → s.length < n + p → stL s n p acc = .inl q → q ≤ s.length := by
  intro n
  induction n with
  | zero => intro p acc q h1 h2; omega
  | succ n ih =>
    intro p acc q hp hn h
    have h : (if cd s p = 34 then .inr (acc, p + 1) else sB (chR s p) fun r => stL s n r.2 (acc ++ r.1)) = Sum.inl q := h
    split at h
    · exact absurd h (by simp)
    · cases h1 : chR s p with
      | inl y =>
        rw [h1] at h
        have e := Sum.inl.inj (α := Nat) (β := List UInt8 × Nat) h
        unfold chR at h1
        split at h1
        · have := Sum.inl.inj h1
          omega
        · have hi := cd_in (s := s) (p := p) (by omega)
          split at h1
          · cases h2 : esR s (p + 1) with
            | inl z =>
              rw [h2] at h1
              have := Sum.inl.inj (α := Nat) (β := List UInt8 × Nat) h1
              have := esR_bad (by omega) h2
              omega
            | inr z => rw [h2] at h1; exact absurd h1 (by simp [sB])
          · split at h1
            · exact absurd h1 (by simp)
            · unfold wiR at h1
              split at h1
              · have := Sum.inl.inj h1
                omega
              · have := wlR_bad (wLo_pos _).1 (by omega) h1
                omega
      | inr r =>
        rw [h1] at h
        have k := chR_ok (bs := r.1) (q := r.2) h1
        exact ih k.2.2 (by omega) h
theorem stR_bad {p q : Nat} (hp : p < s.length) (h : stR s p = .inl q) : q ≤ s.length := stL_bad (by omega) (by omega) h
theorem QM_leaf {p bk op dep na nm : Nat} {o0 : Ob} {rvd : Nat → Int32 → Int32 → mM → Option mM} (X : Cx G F W) (h : isM W) (K : isSr W ks) (hks : ks ∉ vAr) (C : SrC o ks p0 s) (hl : s.length ≤ 8192) (hbk : bk ≤ 1) (w : JW s p J) (hn : J.1 < 600) (ho : op ≤ J.1) (hd : o.f 26 = (Int32.ofNat dep)) (nmh : NmM o bk J op na nm) (hk : kdB (cd s p) < 5) (B : ∀ kd, BgM o (o0.sA 6 (upd (o0.a 6) (600 * bk + J.1) kd)) bk J.1 op (if op = 0 then 0 else J.2.1 5 (op - 1)) p (8200 * bk + J.2.2.length) kd) : m7v W S (8200 * bk) β bk J.1 o dep (B_X13_readValue_o_210 G F rvd (W.ad (.o 13 0)) (pB s p) (Int32.ofNat (600 * bk + J.1)) (mem W (MA S o0 (Int32.ofNat p) (-1) (8200 * bk) β J.2.2))) (lfR s J (kdB (cd s p)) p op na nm) := by
  have hF := X.hF
  have hc := kdB_c (cd s p) (cd_lt s p)
  have wl := w.1
  have hpl := w.2.1
  have hp := cd_in (s := s) (p := p) (fun e => by rw [e] at hk; exact absurd hk (by decide))
  have hj : 600 * bk + J.1 < 1200 := by omega
  have C1 : ∀ kd, SrC (o0.sA 6 (upd (o0.a 6) (600 * bk + J.1) kd)) ks p0 s := fun kd => (B kd).1.src hks C
  have fin : ∀ kd, TbM (o0.sA 6 (upd (o0.a 6) (600 * bk + J.1) (Int32.ofNat kd))) bk (bgn J kd p op na nm).2.1 J.1 (J.1 + 1) := fun kd => bgM_T (B (Int32.ofNat kd)) hn ho nmh
  have word : ∀ (j kd : Nat), j ∈ [7, 8, 9, 10, 79, 80, 81] → kd = kdB (cd s p) → kd < 3 → str j = wdB kd → m7v W S (8200 * bk) β bk J.1 o dep (bO (sI (mem W (MA S o0 (Int32.ofNat p) (-1) (8200 * bk) β J.2.2)) 0 (W.ad (.a 13 0 6)) (Int32.ofNat (600 * bk + J.1)) (Int32.ofNat kd)) fun M376 => bO (rcv M376 (W.ad (.o 13 0)) 13) fun _ => bO (P_X13_word G F (W.ad (.o 13 0)) (G.1 j) M376) fun M405 => some M405) (lfR s J (kdB (cd s p)) p op na nm) := by
    intro j kd hj2 hkd hk3 hw
    unfold lfR
    rw [← hkd, if_pos hk3, ← hw, ma_sN h 6 _ hj, bO_s, ma_lo h, bO_s]
    have q := QM_word (G := G) (F := F) (S := S) (u := 8200 * bk) (β := β) (acc := J.2.2) (j := j) (p := p) X h K (C1 (Int32.ofNat kd)) hl hj2 hpl
    cases hq : wdR s (str j) p with
    | inl y =>
      rw [hq] at q
      obtain ⟨p', q⟩ := q
      rw [q, bO_s]
      exact ⟨_, _, _, rfl, (B (Int32.ofNat kd)).1, by omega⟩
    | inr y =>
      rw [hq] at q
      have q : P_X13_word G F (W.ad (.o 13 0)) (G.1 j) (mem W (MA S (o0.sA 6 (upd (o0.a 6) (600 * bk + J.1) (Int32.ofNat kd))) (Int32.ofNat p) (-1) (8200 * bk) β J.2.2)) = some (mem W (MA S (o0.sA 6 (upd (o0.a 6) (600 * bk + J.1) (Int32.ofNat kd))) (Int32.ofNat y) (-1) (8200 * bk) β J.2.2)) := q
      rw [q, bO_s]
      exact ⟨_, rfl, (B (Int32.ofNat kd)).1, (B (Int32.ofNat kd)).2.1, (B (Int32.ofNat kd)).2.2.1.trans hd, fin kd⟩
  have e11 : ∀ kd, (o0.sA 6 (upd (o0.a 6) (600 * bk + J.1) kd)).a 11 (600 * bk + J.1) = (Int32.ofNat (8200 * bk + J.2.2.length)) := fun kd => (B kd).2.2.2.2.2.2.2.2.1
  have szs : ∀ bs : List UInt8, (Int32.ofNat (8200 * bk + (J.2.2 ++ bs).length)) - (Int32.ofNat (8200 * bk + J.2.2.length)) = (Int32.ofNat bs.length) := by
    intro bs
    rw [n_sub (by rw [List.length_append]; omega), List.length_append]
    congr 1
    omega
  have last : ∀ (kd q : Nat) (bs : List UInt8), ∃ o' : Ob, some (mem W (MA S ((o0.sA 6 (upd (o0.a 6) (600 * bk + J.1) (Int32.ofNat kd))).sA 12 (upd ((o0.sA 6 (upd (o0.a 6) (600 * bk + J.1) (Int32.ofNat kd))).a 12) (600 * bk + J.1) (Int32.ofNat bs.length))) (Int32.ofNat q) (-1) (8200 * bk) β (J.2.2 ++ bs))) = some (mem W (MA S o' (Int32.ofNat q) (-1) (8200 * bk) β (snm (bgn J kd p op na nm) J.1 bs).2.2)) ∧ kpB bk J.1 o o' ∧ o'.a 16 bk = (Int32.ofNat ((snm (bgn J kd p op na nm) J.1 bs).1)) ∧ o'.f 26 = (Int32.ofNat dep) ∧ TbM o' bk (snm (bgn J kd p op na nm) J.1 bs).2.1 J.1 (snm (bgn J kd p op na nm) J.1 bs).1 := fun kd q bs => ⟨_, rfl, (B (Int32.ofNat kd)).1.trans (kpB_sA (by decide) (by decide) (Nat.le_refl _) hn), (B (Int32.ofNat kd)).2.1, (B (Int32.ofNat kd)).2.2.1.trans hd, tbM7 (fin kd)⟩
  unfold B_X13_readValue_o_210
  simp only [pe123, pe91, pe34, pe116, pe102, pe110]
  by_cases c4 : kdB (cd s p) = 4
  · have e := hc.2.2.2.1 c4
    rw [if_neg (by omega), if_neg (by omega), if_pos e, ma_r h 6, bO_s, ma_sN h 6 _ hj, bO_s, ma_lo h, bO_s]
    have q := QM_readString (G := G) (F := F) (S := S) (u := 8200 * bk) (β := β) (acc := J.2.2) (p := p) X h K (C1 (Int32.ofNat 4)) hl hp ⟨by omega, wl⟩
    have q : m7s W S (o0.sA 6 (upd (o0.a 6) (600 * bk + J.1) 4)) (8200 * bk) β J.2.2 (P_X13_readString G F (W.ad (.o 13 0)) (mem W (MA S (o0.sA 6 (upd (o0.a 6) (600 * bk + J.1) 4)) (Int32.ofNat p) (-1) (8200 * bk) β J.2.2))) (stR s p) := q
    unfold lfR
    rw [c4, if_neg (by decide), if_neg (by decide)]
    cases hq : stR s p with
    | inl y =>
      rw [hq] at q
      obtain ⟨p', acc', q1, q2⟩ := q
      rw [q1, bO_s, ma_r h 12, bO_s, ma_top h, bO_s, ma_r h 11, bO_s, ma_aN h 11 _ hj, bO_s, ma_sN h 12 _ hj, bO_s]
      exact ⟨_, _, _, rfl, (B (Int32.ofNat 4)).1.trans (kpB_sA (by decide) (by decide) (Nat.le_refl _) hn), q2⟩
    | inr y =>
      obtain ⟨bs, y⟩ := y
      rw [hq] at q
      have q : P_X13_readString G F (W.ad (.o 13 0)) (mem W (MA S (o0.sA 6 (upd (o0.a 6) (600 * bk + J.1) 4)) (Int32.ofNat p) (-1) (8200 * bk) β J.2.2)) = some (mem W (MA S (o0.sA 6 (upd (o0.a 6) (600 * bk + J.1) 4)) (Int32.ofNat y) (-1) (8200 * bk) β (J.2.2 ++ bs))) := q
      rw [q, bO_s, ma_r h 12, bO_s, ma_top h, bO_s, ma_r h 11, bO_s, ma_aN h 11 _ hj, bO_s, e11, szs, ma_sN h 12 _ hj, bO_s]
      exact last 4 y bs
  by_cases c3 : kdB (cd s p) = 3
  · obtain ⟨n1, n2, n3, n4, n5, n6⟩ := hc.2.2.2.2.2.2 c3
    rw [if_neg n1, if_neg n2, if_neg n3, if_neg n4, if_neg n5, if_neg n6, ma_r h 6, bO_s, ma_sN h 6 _ hj, bO_s, ma_at h, bO_s, ma_lo h, bO_s]
    have q := QM_number (G := G) (F := F) (S := S) (u := 8200 * bk) (β := β) (acc := J.2.2) (p := p) X h K (C1 (Int32.ofNat 3)) hl hpl
    have q : m7 W S (o0.sA 6 (upd (o0.a 6) (600 * bk + J.1) 3)) (8200 * bk) β J.2.2 (P_X13_number G F (W.ad (.o 13 0)) (mem W (MA S (o0.sA 6 (upd (o0.a 6) (600 * bk + J.1) 3)) (Int32.ofNat p) (-1) (8200 * bk) β J.2.2))) (nmR s p) := q
    unfold lfR nmS
    rw [c3, if_neg (by decide), if_pos rfl]
    cases hq : nmR s p with
    | inl y =>
      rw [hq] at q
      have hy := nmR_bad hpl hq
      obtain ⟨p', q⟩ := q
      obtain ⟨F', hF'⟩ : ∃ q, F = q + 1 := ⟨F - 1, by omega⟩
      have q433 := QM_433b (G := G) (F := F) (S := S) (o := o0.sA 6 (upd (o0.a 6) (600 * bk + J.1) 3)) (p := p) (u := 8200 * bk) (β := β) (p' := p') (acc := J.2.2) (rvd := rvd) (q := y) h hj (by omega) F'
      rw [← hF'] at q433
      rw [q, bO_s, q433]
      exact ⟨_, _, _, rfl, (B (Int32.ofNat 3)).1.trans (kpB_sA (by decide) (by decide) (Nat.le_refl _) hn), by omega⟩
    | inr y =>
      rw [hq] at q
      have hy := nmR_ok hq
      have q : P_X13_number G F (W.ad (.o 13 0)) (mem W (MA S (o0.sA 6 (upd (o0.a 6) (600 * bk + J.1) 3)) (Int32.ofNat p) (-1) (8200 * bk) β J.2.2)) = some (mem W (MA S (o0.sA 6 (upd (o0.a 6) (600 * bk + J.1) 3)) (Int32.ofNat y) (-1) (8200 * bk) β J.2.2)) := q
      rw [q, bO_s, QM_433 h K (C1 3) hl hj (by omega) hy.2 (y - p) p F J.2.2 (by omega) (by omega) wl, e11, szs]
      exact last 3 y (seg s p (y - p))
  have s79 : str 79 = wdB 2 := by decide
  have s80 : str 80 = wdB 1 := by decide
  have s81 : str 81 = wdB 0 := by decide
  by_cases c2 : kdB (cd s p) = 2
  · have e := hc.2.2.1 c2
    rw [if_neg (by omega), if_neg (by omega), if_neg (by omega), if_pos e]
    unfold B_X13_readValue_o_349 B_X13_readValue_o_376
    simp only [pe116, pe102]
    simp only [if_pos e]
    rw [ma_r h 6, bO_s]
    exact word 79 2 (by decide) c2.symm (by decide) s79
  by_cases c1 : kdB (cd s p) = 1
  · have e := hc.2.1 c1
    rw [if_neg (by omega), if_neg (by omega), if_neg (by omega), if_neg (by omega), if_pos e]
    unfold B_X13_readValue_o_349 B_X13_readValue_o_376
    simp only [pe116, pe102]
    simp only [if_neg (show ¬ cd s p = 116 by omega), if_pos e]
    rw [ma_r h 6, bO_s]
    exact word 80 1 (by decide) c1.symm (by decide) s80
  · have c0 : kdB (cd s p) = 0 := by omega
    have e := hc.1 c0
    rw [if_neg (by omega), if_neg (by omega), if_neg (by omega), if_neg (by omega), if_neg (by omega), if_pos e]
    unfold B_X13_readValue_o_349 B_X13_readValue_o_376
    simp only [pe116, pe102]
    simp only [if_neg (show ¬ cd s p = 116 by omega), if_neg (show ¬ cd s p = 102 by omega)]
    rw [ma_r h 6, bO_s]
    exact word 81 0 (by decide) c0.symm (by decide) s81
end MLF
