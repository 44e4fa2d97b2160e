/-! CALL key: the class, whole -/
def frN (A : Nat → Option KY) : Option Nat := fnF (fun q => (A q).isNone) 16 0
/-- what key answers, and the keys after it -/
def keyW (A : Nat → Option KY) (s : List UInt8) : Int32 × (Nat → Option KY) := match rdT s with
  | .inl _ => (-11, A)
  | .inr J => match kyR J with
    | .inl r => (-10 - (Int32.ofNat r), A)
    | .inr (kd, k) => if blF kd k = true then (match frN A with
      | none => (-17, A)
      | some q => ((Int32.ofNat q), up A q (some (kyA J kd k)))) else (-16, A)
theorem kyR_b {J : JT} {r : Nat} (h : kyR J = .inl r) : 2 ≤ r ∧ r ≤ 6 := by
  unfold kyR at h
  split at h
  · split at h
    · have := Sum.inl.inj h; omega
    · split at h
      · split at h
        · split at h
          · have := Sum.inl.inj h; omega
          · exact absurd h (by simp)
        · have := Sum.inl.inj h; omega
      · have := Sum.inl.inj h; omega
  · have := Sum.inl.inj h; omega
theorem kyR_k {J : JT} {kd : Nat} {k : Ky3} (h : kyR J = .inr (kd, k)) : kd ≤ 2 ∧ kyN J kd = some k := by
  unfold kyR at h
  split at h
  · split at h
    · exact absurd h (by simp)
    · rename_i kd' e
      have hk := kyKind_le e
      split at h
      · split at h
        · split at h
          · exact absurd h (by simp)
          · rename_i k' e2
            have h := Sum.inr.inj h
            rw [Prod.mk.injEq] at h
            rw [← h.1, ← h.2]
            exact ⟨hk, e2⟩
        · exact absurd h (by simp)
      · exact absurd h (by simp)
  · exact absurd h (by simp)
/-- nothing changed but keys and these -/
def frK (L : List (Nat × Nat)) (S S' : ST) : Prop := ∀ c i, c ≠ 5 → (c = 0 → i < 16 ∨ (67 ≤ i ∧ i < 94)) → (c, i) ∉ L → S' c i = S c i
theorem frK.trans {L : List (Nat × Nat)} {S S1 S2 : ST} (h1 : frK L S S1) (h2 : frK L S1 S2) : frK L S S2 := fun c i a b d => (h2 c i a b d).trans (h1 c i a b d)
theorem frK.of {L L' : List (Nat × Nat)} {S S' : ST} (h : fr L' S S') (hs : ∀ x ∈ L', x ∈ L ∨ x.1 = 5 ∨ (x.1 = 0 ∧ ¬ (x.2 < 16 ∨ (67 ≤ x.2 ∧ x.2 < 94)))) : frK L S S' := fun c i a b d => h c i (fun q => by
  rcases hs _ q with e | e | e
  · exact d e
  · exact a e
  · exact e.2 (b e.1))
section KEYC
variable {W : WR} {G : mG} {F : Nat} {S : ST} {z sl z0 s0 : Nat} {σ κ rk : Nat → Nat} {A : Nat → Option KY}
theorem KHS.ky (h : KHS W S z sl z0 s0 σ κ rk A) {k : Nat} (hk : k < 16) (S' : ST) : aR (mem W S') 5 (W.ad (.a 11 0 10)) (Int32.ofNat k) = some (W.ad (.o 5 (σ k))) := by
  obtain ⟨h1, ⟨i1, i2, i3, i4, i5⟩, h3⟩ := h
  refine aR_m i2 rfl (by decide) (by rw [i3]; exact inB_n hk (by decide)) ?_
  rw [n_at (by omega)]
  exact i4 k hk
theorem KHS.th (h : KHS W S z sl z0 s0 σ κ rk A) {k : Nat} (hk : k < 16) : gfI (mem W S) (W.ad (.o 5 (σ k))) 5 0 = some (if (A k).isSome = true then 1 else 0) := by
  obtain ⟨h1, _, h3, _, h5, _⟩ := h
  rw [ko_I (h3 (σ k) (h1.1 k (by omega))).1 rfl]
  have q := h5 k hk
  cases e : A k with
  | none => rw [e] at q; rw [q]; rfl
  | some K => rw [e] at q; rw [q.1]; rfl
theorem Q11_key_l (h : KHS W S z sl z0 s0 σ κ rk A) (hl : W.live (.o 11 0) = true) (a b : Nat) : ∀ (m k fuel : Nat), m < fuel → k + m = 16 → B_X11_key_72 G F fuel (W.ad (.o 11 0)) (Int32.ofNat k) (mem W S) a b = match fnF (fun q => (A q).isNone) m k with | none => some (-17, mem W S, a, b) | some q => some ((Int32.ofNat q), mem (swW W σ q) (swT S σ), a, b) := by
  obtain ⟨h1, ⟨i1, i2, i3, i4, i5⟩, h3, h4, h5, h6⟩ := id h
  have g10 : gfR (mem W S) (W.ad (.o 11 0)) 11 10 = some (W.ad (.a 11 0 10)) := gfR_m hl rfl i1
  have g11 : gfR (mem W S) (W.ad (.o 11 0)) 11 11 = some (W.ad (.o 5 (σ 16))) := gfR_m hl rfl i5
  intro m
  induction m with
  | zero =>
    intro k fuel hf hk
    obtain ⟨fuel, rfl⟩ : ∃ q, fuel = q + 1 := ⟨fuel - 1, by omega⟩
    have hk : k = 16 := by omega
    subst hk
    rw [B_X11_key_72]
    unfold B_X11_key_75
    rw [if_pos (show (16 : Int32) ≤ (Int32.ofNat 16) by decide)]
    rfl
  | succ m ih =>
    intro k fuel hf hk
    obtain ⟨fuel, rfl⟩ : ∃ q, fuel = q + 1 := ⟨fuel - 1, by omega⟩
    have hk16 : k < 16 := by omega
    rw [B_X11_key_72]
    unfold B_X11_key_75
    rw [if_neg (show ¬ (16 : Int32) ≤ (Int32.ofNat k) from fun q => by have := (n_le (a := 16) (b := k) (by omega) (by omega)).mp q; omega), g10, bO_s, h.ky hk16, bO_s, h.th hk16, bO_s]
    unfold B_X11_key_87
    show _ = match (if (A k).isNone = true then some k else fnF (fun q => (A q).isNone) m (k + 1)) with | none => _ | some q => _
    cases e : A k with
    | some K =>
      rw [if_neg (show ¬ (if (some K : Option KY).isSome = true then (1 : Int32) else 0) = 0 by rw [if_pos (show (some K : Option KY).isSome = true from rfl)]; decide), if_neg (show ¬ (some K : Option KY).isNone = true by simp), n_i1]
      exact ih (k + 1) fuel (by omega) (by omega)
    | none =>
      rw [if_pos (show (if (none : Option KY).isSome = true then (1 : Int32) else 0) = 0 by rfl), if_pos (show (none : Option KY).isNone = true from rfl)]
      have hj := h1.1 16 (Nat.le_refl _)
      have l16 := (h3 (σ 16) hj).1.1
      have hx : inB (Int32.ofNat k) (W.n (.a 11 0 10)) = true := by rw [i3]; exact inB_n hk16 (by decide)
      have s1 := sR_m (W := W) (S := S) (c := 11) (i := 0) (k := 10) (kk := 5) (ci := 5) (ti := σ 16) (x := (Int32.ofNat k)) i2 rfl (by decide) hx l16
      rw [n_at (by omega)] at s1
      obtain ⟨V, hV⟩ : ∃ V, V = W.se (.a 11 0 10) k (.o 5 (σ 16)) := ⟨_, rfl⟩
      rw [← hV] at s1
      have v1 : gfR (mem V S) (W.ad (.o 11 0)) 11 10 = some (W.ad (.a 11 0 10)) := by
        rw [hV]
        exact gfR_m (W := W.se (.a 11 0 10) k (.o 5 (σ 16))) hl rfl i1
      have v2 : aR (mem V S) 5 (W.ad (.a 11 0 10)) (Int32.ofNat k) = some (W.ad (.o 5 (σ 16))) := by
        rw [hV]
        refine aR_m (W := W.se (.a 11 0 10) k (.o 5 (σ 16))) i2 rfl (by decide) hx ?_
        rw [n_at (by omega)]
        exact se_eq _ _ _ _
      have v3 : pfZ (mem V S) (W.ad (.o 5 (σ 16))) 5 0 1 = some (mem V (swT S σ)) := by
        rw [hV]
        exact pfZ_m (W := W.se (.a 11 0 10) k (.o 5 (σ 16))) l16 rfl (Or.inr rfl)
      have v4 : pfv (mem V (swT S σ)) (W.ad (.o 11 0)) 11 11 (.ref (W.ad (.o 5 (σ k)))) = some (mem (swW W σ k) (swT S σ)) := by
        rw [hV]
        exact pfR_m (W := W.se (.a 11 0 10) k (.o 5 (σ 16))) (t := .o 5 (σ k)) hl rfl
      rw [g10, bO_s, h.ky hk16, bO_s, bO_s, g11, bO_s, s1, bO_s, v1, bO_s, v2, bO_s, v3, bO_s, v4, bO_s]
theorem Q11_key {r t2 : Nat} {s pl : List UInt8} {ls lp : Bool} {V : Nat → Int} (X : Cx G F W) (h : isT W) (hm : W.live (.o 13 0) = true) (h8 : W.r 11 0 8 = some (.o 9 t2)) (h9 : W.r 11 0 9 = some (.o 7 0)) (hl : W.live (.o 7 0) = true) (K2 : isTx W t2 (14 + t2)) (ht2 : t2 < 2) (hr : r < 8) (bs : Byt 8192 (S 0 r) s ls) (bp : Byt 8192 (S 0 (14 + t2)) pl lp) (r15 : W.r 11 0 15 = some (.o 8 0)) (r16 : W.r 11 0 16 = some (.o 3 0)) (hR : isRs W) (hC : isCu W) (K : CK S V) (b69 : ∃ t l, Byt 128 (S 0 69) t l) (b70 : ∃ t l, Byt 128 (S 0 70) t l) (b76 : ∃ t l, Byt 64 (S 0 76) t l) (hK : KHS W S z sl z0 s0 σ κ rk A) : ∃ W' S' V' σ' κ' rk' z' sl', P_X11_key G F (W.ad (.o 11 0)) (Int32.ofNat r) (mem W S) z sl = some ((keyW A s).1, mem W' S', z', sl') ∧ KHS W' S' z' sl' z0 s0 σ' κ' rk' (keyW A s).2 ∧ frK ((7, 0) :: (0, 14 + t2) :: (9, t2) :: blFr) S S' ∧ WY W W' ∧ WZ W W' ∧ CK S' V' ∧ (∃ xs l, Byt 8192 (S' 0 (14 + t2)) xs l) ∧ (∃ t l, Byt 128 (S' 0 69) t l) ∧ (∃ t l, Byt 128 (S' 0 70) t l) ∧ ∃ t l, Byt 64 (S' 0 76) t l := by
  have hF := X.hF
  have hle := bs.le
  obtain ⟨S1, g, f, q⟩ := Q7_read (G := G) (F := F) X hl (h.rb r hr) K2 (by omega) bs hle bp
  have nk1 : noK [(7, 0), (0, 14 + t2), (9, t2)] := by
    intro x hx
    simp at hx
    rcases hx with e | e | e <;> rw [e] <;> simp <;> omega
  obtain ⟨W1, hW1⟩ : ∃ W1, W1 = (W.sr 7 0 0 (.o 0 r)).sr 7 0 1 (.o 9 t2) := ⟨_, rfl⟩
  have y1 : WY W W1 := by rw [hW1]; exact (WY.sr (Or.inl rfl)).trans (WY.sr (Or.inl rfl))
  have z1 : WZ W W1 := by rw [hW1]; exact ⟨rfl, rfl, rfl⟩
  have a1 : W1.ad = W.ad := by rw [hW1]; rfl
  have k1 : KHS W1 S1 z sl z0 s0 σ κ rk A := by
    rw [hW1]
    exact ((hK.fm f nk1).wr (Or.inl rfl) (h.rb r hr).lo).wr (Or.inl rfl) K2.1
  have K1 : CK S1 V := K.fr f (by simp; omega)
  have fk1 : frK ((7, 0) :: (0, 14 + t2) :: (9, t2) :: blFr) S S1 := frK.of f (fun x hx => Or.inl (by
    simp at hx
    rcases hx with e | e | e <;> rw [e] <;> simp))
  have c69 : ∃ t l, Byt 128 (S1 0 69) t l := by rw [f 0 69 (by simp; omega)]; exact b69
  have c70 : ∃ t l, Byt 128 (S1 0 70) t l := by rw [f 0 70 (by simp; omega)]; exact b70
  have c76 : ∃ t l, Byt 64 (S1 0 76) t l := by rw [f 0 76 (by simp; omega)]; exact b76
  rw [← hW1] at g
  unfold P_X11_key
  rw [rcv_m h.lo, bO_s, Q11_isRow, bP_s, isr_i hr]
  unfold B_X11_key_5
  rw [if_neg (by decide), h.gR rfl h9, bO_s, h.gR rfl h.ra, bO_s, h.row hr, bO_s, h.gR rfl h8, bO_s, rcv_m hl, bO_s, g, bP_s]
  unfold B_X11_key_29
  cases e : rdT s with
  | inl y =>
    rw [e] at q
    have ek : keyW A s = (-11, A) := by unfold keyW; simp only [e]
    rw [ek]
    exact ⟨W1, S1, V, σ, κ, rk, z, sl, by rw [if_neg (n_nm (rdT_b hle e))], k1, fk1, y1, z1, K1, q, c69, c70, c76⟩
  | inr J =>
    rw [e] at q
    obtain ⟨q1, q2, q3⟩ := q
    have X1 := y1.cx X
    have h1 := y1.t h
    obtain ⟨p1, ⟨i1, i2, i3, i4, i5⟩, p3, p4, p5, p6, p7⟩ := id k1
    have hj := p1.1 16 (Nat.le_refl _)
    obtain ⟨o1, o2, o3, o4, o5, o6, o7⟩ := p3 (σ 16) hj
    have K2' := y1.tx K2
    obtain ⟨W2, S2, κ', rk', z', sl', t1, t3, t4, t5, t6, t7⟩ := Q5_whole (G := G) (F := F) (W := W1) (S := S1) (J := J) (ν := z) (sl := sl) X1 o1 hj K2' (by omega) q1 q3 q2 o6 o2 o3 o4 o7 o5 p6 (p7.1 z (Nat.le_refl _))
    have k2 := k1.spare h1.lo t1 t3 t5 t6
    have hκ' : 94 ≤ κ' := by
      have := (k2.2.2.1 (σ 16) hj).2.2.2.2.1
      rw [up_eq] at this
      exact this
    have x2 := t5.1
    have y2 : WY W W2 := y1.trans x2.y
    have z2 : WZ W W2 := z1.trans (x2.z h1.lo (y1.lv hm))
    have fk2 : frK ((7, 0) :: (0, 14 + t2) :: (9, t2) :: blFr) S S2 := fk1.trans (frK.of t1 (fun x hx => Or.inr (by
      simp [kyFr] at hx
      rcases hx with e | e | e | e | e | e <;> rw [e] <;> simp <;> omega)))
    have u0 : ∀ i, i < 16 ∨ (67 ≤ i ∧ i < 94) → S2 0 i = S1 0 i := fun i hi => t1 0 i (by simp [kyFr]; omega)
    have K2c : CK S2 V := K1.fr t1 (by simp [kyFr]; omega)
    have d69 : ∃ t l, Byt 128 (S2 0 69) t l := by rw [u0 69 (by omega)]; exact c69
    have d70 : ∃ t l, Byt 128 (S2 0 70) t l := by rw [u0 70 (by omega)]; exact c70
    have d76 : ∃ t l, Byt 64 (S2 0 76) t l := by rw [u0 76 (by omega)]; exact c76
    have dp : ∃ xs l, Byt 8192 (S2 0 (14 + t2)) xs l := by rw [u0 (14 + t2) (by omega)]; exact ⟨_, _, q2⟩
    have g11 : gfR (mem W1 S1) (W.ad (.o 11 0)) 11 11 = some (W1.ad (.o 5 (σ 16))) := by rw [← a1]; exact gfR_m h1.lo rfl i5
    have g8 : gfR (mem W1 S1) (W.ad (.o 11 0)) 11 8 = some (W1.ad (.o 9 t2)) := by rw [← a1]; exact gfR_m h1.lo rfl (by rw [z1.2.1]; exact h8)
    have ad2 : W2.ad (.o 11 0) = W.ad (.o 11 0) := (y2.1 _ h.lo).2.1
    rw [if_pos rfl, g11, bO_s, g8, bO_s, rcv_m o1.1, bO_s]
    cases er : kyR J with
    | inl r' =>
      rw [er] at t7
      have := kyR_b er
      have ek : keyW A s = (-10 - (Int32.ofNat r'), A) := by unfold keyW; simp only [e, er]
      rw [ek]
      refine ⟨W2, S2, V, σ, _, _, z', sl', ?_, k2, fk2, y2, z2, K2c, dp, d69, d70, d76⟩
      rw [t7, bAP_s]
      unfold B_X11_key_48
      rw [if_neg (show ¬ (Int32.ofNat r') = (0 : Int32) from fun q => by have := (n_eq (b := 0) (by omega) (by omega)).mp q; omega)]
    | inr p =>
      obtain ⟨kd, k⟩ := p
      rw [er] at t7
      obtain ⟨t7, t8⟩ := t7
      obtain ⟨hkd, hkn⟩ := kyR_k er
      have o1' := x2.ko (by decide) o1
      obtain ⟨S3, V3, b1, b2, b3, b4, b5, b6⟩ := Q11_belong (G := G) (F := F) (W := W2) (S := S2) (kd := kd) (k := k) (y2.cx X) (y2.t h).lo (y2.rr h.lo (by omega) r15) (y2.rr h.lo (by omega) r16) (y2.rs hR) (y2.cu hC) o1' hj K2c t8.2.2.2.2.2.1 hkd t8.1 t8.2.1 (fun e => kyN_1 (by rw [← e]; exact hkn)) (fun e => kyN_2 (by rw [← e]; exact hkn)) d69 d70 d76
      have nkb : noK blFr := by
        intro x hx
        simp at hx
        rcases hx with e | e | e | e | e | e | e <;> rw [e] <;> simp
      have k3 := k2.fm b2 nkb
      have fk3 : frK ((7, 0) :: (0, 14 + t2) :: (9, t2) :: blFr) S S3 := fk2.trans (frK.of b2 (fun x hx => Or.inl (List.mem_cons_of_mem _ (List.mem_cons_of_mem _ (List.mem_cons_of_mem _ hx)))))
      have dp3 : ∃ xs l, Byt 8192 (S3 0 (14 + t2)) xs l := by rw [b2 0 (14 + t2) (by simp; omega)]; exact dp
      have g11' : gfR (mem W2 S2) (W.ad (.o 11 0)) 11 11 = some (W2.ad (.o 5 (σ 16))) := by rw [← ad2]; exact gfR_m (y2.t h).lo rfl k2.2.1.2.2.2.2
      have O3 : KyO S3 (σ 16) κ' rk' (kyA J kd k) := t8.same (fun _ _ => by rw [b2 5 _ (by simp)]) (b2 0 _ (by simp; omega)) (b2 0 _ (by simp; omega)) (b2 0 _ (by simp; omega)) (b2 0 _ (by simp; omega))
      rw [t7, bAP_s]
      unfold B_X11_key_48
      rw [if_pos rfl, g11', bO_s, ← ad2, rcv_m (y2.t h).lo, bO_s, b1, bP_s]
      unfold B_X11_key_64
      by_cases cb : blF kd k = true
      · rw [if_pos cb, if_neg (by decide)]
        have lp := Q11_key_l (G := G) (F := F) k3 (y2.t h).lo z' sl' 16 0 F (by omega) rfl
        have lp : B_X11_key_72 G F F (W2.ad (.o 11 0)) 0 (mem W2 S3) z' sl' = _ := lp
        rw [lp]
        cases ef : fnF (fun q => (A q).isNone) 16 0 with
        | none =>
          have ek : keyW A s = (-17, A) := by unfold keyW frN; simp only [e, er, if_pos cb, ef]
          rw [ek]
          exact ⟨W2, S3, V3, σ, _, _, z', sl', rfl, k3, fk3, y2, z2, b3, dp3, b4, b5, b6⟩
        | some q =>
          obtain ⟨n1, n2, n3⟩ := fnF_some ef
          have ek : keyW A s = ((Int32.ofNat q), up A q (some (kyA J kd k))) := by unfold keyW frN; simp only [e, er, if_pos cb, ef]
          rw [ek]
          have hA : A q = none := by
            cases eA : A q with
            | none => rfl
            | some _ => rw [eA] at n3; exact absurd n3 (by simp)
          have k4 := k3.swap (k := q) (K := kyA J kd k) (by omega) hA (by rw [up_eq, up_eq]; exact O3) ⟨s, J, kd, k, hle, e, er, cb, rfl⟩
          have fs : fr [(5, σ 16)] S3 (swT S3 σ) := fr_so (by simp)
          refine ⟨swW W2 σ q, swT S3 σ, V3, swS σ q, _, _, z', sl', rfl, k4, fk3.trans (frK.of fs (fun x hx => Or.inr (Or.inl (by simp at hx; rw [hx])))), y2.trans WY.sw, z2.trans ⟨rfl, rfl, rfl⟩, b3.fr fs (by simp), ?_, ?_, ?_, ?_⟩
          · rw [fs 0 _ (by simp)]; exact dp3
          · rw [fs 0 _ (by simp)]; exact b4
          · rw [fs 0 _ (by simp)]; exact b5
          · rw [fs 0 _ (by simp)]; exact b6
      · rw [if_neg cb, if_pos rfl]
        have ek : keyW A s = (-16, A) := by unfold keyW; simp only [e, er, if_neg cb]
        rw [ek]
        exact ⟨W2, S3, V3, σ, _, _, z', sl', rfl, k3, fk3, y2, z2, b3, dp3, b4, b5, b6⟩
end KEYC
