/-! SEALED CONTENT: the model's openIt -/
theorem sb_inj {x y : UInt8} (h : sb x = sb y) : x = y := by rw [← lo8_sb x, h, lo8_sb]
section MOPEN
variable {W : WR} {G : mG} {F : Nat} {S : ST} {ks : Nat → UInt8} {nr : Nat}
theorem oM_same_l {o : Ob} {k1 k2 p1 p2 cnt : Nat} {β1 β2 : Nat → UInt8} (h : isM W) (q1 : (kdA 13)[k1]? = some 1) (q2 : (kdA 13)[k2]? = some 1) (l1 : mLen k1 < 2 ^ 30) (l2 : mLen k2 < 2 ^ 30) (b1 : p1 + cnt ≤ mLen k1) (b2 : p2 + cnt ≤ mLen k2) (h1 : mB o k1 β1) (h2 : mB o k2 β2) : ∀ (m j n : Nat) (f : Bool), m < n → j + m = cnt → B_X13_same_6 G F n (W.ad (.a 13 0 k1)) (Int32.ofNat p1) (W.ad (.a 13 0 k2)) (Int32.ofNat p2) (Int32.ofNat cnt) (if f then 1 else 0) (Int32.ofNat j) (mem W (S.so 13 0 o)) = some (if f = true ∧ rdB β1 (p1 + j) m = rdB β2 (p2 + j) m then 1 else 0, mem W (S.so 13 0 o)) := by
  intro m
  induction m with
  | zero =>
    intro j n f hn hj
    obtain ⟨n, rfl⟩ : ∃ q, n = q + 1 := ⟨n - 1, by omega⟩
    rw [B_X13_same_6, if_pos ((n_le (by omega) (by omega)).mpr (by omega))]
    cases f
    · show retZ 0 _ = _
      rw [retZ0]
      simp
    · show retZ 1 _ = _
      rw [retZ1]
      simp [rdB]
  | succ m ih =>
    intro j n f hn hj
    obtain ⟨n, rfl⟩ : ∃ q, n = q + 1 := ⟨n - 1, by omega⟩
    rw [B_X13_same_6, if_neg (fun q => absurd ((n_le (by omega) (by omega)).mp q) (by omega)), n_addL j 1]
    cases f with
    | false =>
      rw [if_pos (by rfl)]
      have := ih (j + 1) n false (by omega) (by omega)
      rw [if_neg (by simp)] at this
      rw [if_neg (by simp)]
      exact this
    | true =>
      rw [if_neg (by decide), n_add, n_add, h.aB' q1 h1 (by omega) (by omega), bO_s, h.aB' q2 h2 (by omega) (by omega), bO_s, rdB_succ, rdB_succ]
      by_cases he : β1 (p1 + j) = β2 (p2 + j)
      · rw [if_pos (by rw [he])]
        have := ih (j + 1) n true (by omega) (by omega)
        have e : (true = true ∧ β1 (p1 + j) :: rdB β1 (p1 + j + 1) m = β2 (p2 + j) :: rdB β2 (p2 + j + 1) m) ↔ (true = true ∧ rdB β1 (p1 + (j + 1)) m = rdB β2 (p2 + (j + 1)) m) := by
          rw [he]
          simp [Nat.add_assoc]
        have e2 : (if (true = true ∧ β1 (p1 + j) :: rdB β1 (p1 + j + 1) m = β2 (p2 + j) :: rdB β2 (p2 + j + 1) m) then (1 : Int32) else 0) = (if (true = true ∧ rdB β1 (p1 + (j + 1)) m = rdB β2 (p2 + (j + 1)) m) then (1 : Int32) else 0) := by
          by_cases hq : true = true ∧ rdB β1 (p1 + (j + 1)) m = rdB β2 (p2 + (j + 1)) m
          · rw [if_pos hq, if_pos (e.mpr hq)]
          · rw [if_neg hq, if_neg (fun z => hq (e.mp z))]
        rw [e2]
        exact this
      · rw [if_neg (fun q => he (sb_inj q)), if_neg (fun q => he (List.cons.inj q.2).1)]
        have := ih (j + 1) n false (by omega) (by omega)
        rw [if_neg (by simp)] at this
        exact this
theorem oM_same {o : Ob} {k1 k2 p1 p2 cnt : Nat} {β1 β2 : Nat → UInt8} (X : Cx G F W) (h : isM W) (q1 : (kdA 13)[k1]? = some 1) (q2 : (kdA 13)[k2]? = some 1) (l1 : mLen k1 < 2 ^ 30) (l2 : mLen k2 < 2 ^ 30) (b1 : p1 + cnt ≤ mLen k1) (b2 : p2 + cnt ≤ mLen k2) (hc : cnt < 90000) (h1 : mB o k1 β1) (h2 : mB o k2 β2) : P_X13_same G F (W.ad (.a 13 0 k1)) (Int32.ofNat p1) (W.ad (.a 13 0 k2)) (Int32.ofNat p2) (Int32.ofNat cnt) (mem W (S.so 13 0 o)) = some (if rdB β1 p1 cnt = rdB β2 p2 cnt then 1 else 0, mem W (S.so 13 0 o)) := by
  have hF := X.hF
  have := oM_same_l (G := G) (F := F) (S := S) h q1 q2 l1 l2 b1 b2 h1 h2 cnt 0 F true (by omega) (by omega)
  rw [Nat.add_zero, Nat.add_zero] at this
  have e : (if (true = true ∧ rdB β1 p1 cnt = rdB β2 p2 cnt) then (1 : Int32) else 0) = (if rdB β1 p1 cnt = rdB β2 p2 cnt then 1 else 0) := by simp
  rw [e] at this
  exact this
/-- one block comes out -/
theorem oM_op_c {r149 : Nat → Nat → Int32 → Nat → Int32 → Int32 → Int32 → mM → Option (Int32 × mM)} {kb pb ko po b N : Nat} {B prev : List UInt8} {βb βo : Nat → UInt8} (X : Cx G F W) (h : isM W) (qb : (kdA 13)[kb]? = some 1) (qo : (kdA 13)[ko]? = some 1) (nb : kb ≠ 49) (no : ko ≠ 49) (lb_ : mLen kb < 2 ^ 30) (lo_ : mLen ko < 2 ^ 30) (rb : pb + 16 ≤ mLen kb) (ro : po + N ≤ mLen ko) (hb16 : 16 * b + 16 ≤ N) (hN : N ≤ 8250) (hB : B.length = 16) (hp : ∀ j, j < 16 → (if b = 0 then βb (pb + j) else βo (po + 16 * b - 16 + j)) = prev.getD j 0) : ∀ (m j n : Nat) (o : Ob) (γ : Nat → UInt8), m < n → j + m = 16 → mB o kb βb → mB o ko βo → mB o 49 γ → oCL o B → ∃ o' γ', B_X13_openIt_174 G F r149 n (W.ad (.o 13 0)) (W.ad (.a 13 0 kb)) (Int32.ofNat pb) (W.ad (.a 13 0 ko)) (Int32.ofNat po) (Int32.ofNat N) (Int32.ofNat (16 * b)) (Int32.ofNat j) (mem W (S.so 13 0 o)) = r149 (W.ad (.o 13 0)) (W.ad (.a 13 0 kb)) (Int32.ofNat pb) (W.ad (.a 13 0 ko)) (Int32.ofNat po) (Int32.ofNat N) (Int32.ofNat (16 * (b + 1))) (mem W (S.so 13 0 o')) ∧ agr [] [] [49] [] o o' ∧ mB o' 49 γ' ∧ (∀ t, t < 16 * b + j → γ' t = γ t) ∧ ∀ t, j ≤ t → t < 16 → γ' (16 * b + t) = B.getD t 0 ^^^ prev.getD t 0 := by
  have h45 := h.hA 45 (by decide)
  intro m
  induction m with
  | zero =>
    intro j n o γ hn hj hb ho hγ hc
    obtain ⟨n, rfl⟩ : ∃ q, n = q + 1 := ⟨n - 1, by omega⟩
    obtain rfl : j = 16 := by omega
    rw [B_X13_openIt_174, if_pos (by decide), n_addL _ 16, show 16 * b + 16 = 16 * (b + 1) by omega]
    exact ⟨o, γ, rfl, agr.refl _ _ _ _ _, hγ, fun t _ => rfl, fun t h1 h2 => absurd h2 (by omega)⟩
  | succ m ih =>
    intro j n o γ hn hj hb ho hγ hc
    obtain ⟨n, rfl⟩ : ∃ q, n = q + 1 := ⟨n - 1, by omega⟩
    have cv : aI G (mem W (S.so 13 0 o)) 0 (W.ad (.a 13 0 45)) (Int32.ofNat j) = some (b32 (B.getD j 0)) := by rw [h45.lo' rfl (show j < 16 by omega), hc j (by omega), gB_D]
    have fin : ∀ y : UInt8, y = prev.getD j 0 → ∃ o' γ', (bO (sI (mem W (S.so 13 0 o)) 1 (W.ad (.a 13 0 49)) (Int32.ofNat (16 * b + j)) (((b32 (B.getD j 0) ^^^ sb y).toInt8.toInt32).toInt8.toInt32)) fun M229 => B_X13_openIt_174 G F r149 n (W.ad (.o 13 0)) (W.ad (.a 13 0 kb)) (Int32.ofNat pb) (W.ad (.a 13 0 ko)) (Int32.ofNat po) (Int32.ofNat N) (Int32.ofNat (16 * b)) ((Int32.ofNat j) + 1) M229) = r149 (W.ad (.o 13 0)) (W.ad (.a 13 0 kb)) (Int32.ofNat pb) (W.ad (.a 13 0 ko)) (Int32.ofNat po) (Int32.ofNat N) (Int32.ofNat (16 * (b + 1))) (mem W (S.so 13 0 o')) ∧ agr [] [] [49] [] o o' ∧ mB o' 49 γ' ∧ (∀ t, t < 16 * b + j → γ' t = γ t) ∧ ∀ t, j ≤ t → t < 16 → γ' (16 * b + t) = B.getD t 0 ^^^ prev.getD t 0 := by
      intro y hy
      rw [sb_x3, h.sB' rfl hγ (show 16 * b + j < 8300 by omega) (by decide), bO_s, n_addL j 1]
      obtain ⟨o', γ', q1, q2, q3, q4, q5⟩ := ih (j + 1) n (o.sA 49 (fun j' => sb (va_up γ (16 * b + j) (B.getD j 0 ^^^ y) j'))) (va_up γ (16 * b + j) (B.getD j 0 ^^^ y)) (by omega) (by omega) (mB_sA' nb hb) (mB_sA' no ho) (mB_sA _ _ _) (fun t ht => by rw [sA_a' (by decide)]; exact hc t ht)
      refine ⟨o', γ', q1, (agr_sA (by decide)).trans q2, q3, fun t ht => ?_, fun t h1 h2 => ?_⟩
      · rw [q4 t (by omega)]
        unfold va_up
        rw [if_neg (by omega)]
      · by_cases et : t = j
        · rw [et, q4 _ (by omega)]
          unfold va_up
          rw [if_pos rfl, hy]
        · exact q5 t (by omega) h2
    have hpj := hp j (by omega)
    rw [B_X13_openIt_174, if_neg (by rw [lit 16]; exact fun q => absurd ((n_le (by omega) (by omega)).mp q) (by omega)), oM_gR h 49 rfl (by decide), bO_s, oM_gR h 45 rfl (by decide), bO_s, cv, bO_s]
    by_cases hb0 : b = 0
    · rw [if_pos hb0] at hpj
      rw [if_pos (show (Int32.ofNat (16 * b)) = 0 by rw [hb0]; rfl), n_add, h.aB' qb hb (by omega) (by omega), bO_s, n_add]
      exact fin _ hpj
    · rw [if_neg hb0] at hpj
      rw [if_neg (show ¬ (Int32.ofNat (16 * b)) = 0 by rw [z32]; exact fun q => hb0 (by have := (n_eq (by omega) (by omega)).mp q; omega)), n_add, n_subL 16 (by omega), n_add, h.aB' qo ho (by omega) (by omega), bO_s, n_add]
      exact fin _ hpj
theorem oM_op_b {kb pb ko po : Nat} {iv c : List UInt8} {βb βo : Nat → UInt8} (X : Cx G F W) (h : isM W) (qb : (kdA 13)[kb]? = some 1) (qo : (kdA 13)[ko]? = some 1) (nb : kb ≠ 49) (no : ko ≠ 49) (lb_ : mLen kb < 2 ^ 30) (lo_ : mLen ko < 2 ^ 30) (rb : pb + 16 ≤ mLen kb) (ro : po + c.length ≤ mLen ko) (hc16 : c.length % 16 = 0) (hc : c.length ≤ 8250) (hil : iv.length = 16) (eb : rdB βb pb 16 = iv) (eo : rdB βo po c.length = c) : ∀ (m b n : Nat) (o : Ob) (γ : Nat → UInt8), m < n → b + m = c.length / 16 → mB o kb βb → mB o ko βo → mB o 49 γ → oBX o → oKS o ks nr → ∃ n' o' γ', B_X13_openIt_149 G F n (W.ad (.o 13 0)) (W.ad (.a 13 0 kb)) (Int32.ofNat pb) (W.ad (.a 13 0 ko)) (Int32.ofNat po) (Int32.ofNat c.length) (Int32.ofNat (16 * b)) (mem W (S.so 13 0 o)) = B_X13_openIt_149 G F (n' + 1) (W.ad (.o 13 0)) (W.ad (.a 13 0 kb)) (Int32.ofNat pb) (W.ad (.a 13 0 ko)) (Int32.ofNat po) (Int32.ofNat c.length) (Int32.ofNat c.length) (mem W (S.so 13 0 o')) ∧ agr [] [] [45, 46, 49] [] o o' ∧ mB o' 49 γ' ∧ rdB γ' 0 (16 * (b + m)) = rdB γ 0 (16 * b) ++ ucbc ks nr m (if b = 0 then iv else pad16 (c.drop (16 * (b - 1)))) (c.drop (16 * b)) := by
  have hF := X.hF
  have lo := h.lo
  have nbA : kb ∉ [45, 46, 49] := by
    intro q
    simp only [List.mem_cons, List.not_mem_nil, or_false] at q
    rcases q with q | q | q
    · rw [q] at qb; exact absurd qb (by decide)
    · rw [q] at qb; exact absurd qb (by decide)
    · exact nb q
  have noA : ko ∉ [45, 46, 49] := by
    intro q
    simp only [List.mem_cons, List.not_mem_nil, or_false] at q
    rcases q with q | q | q
    · rw [q] at qo; exact absurd qo (by decide)
    · rw [q] at qo; exact absurd qo (by decide)
    · exact no q
  have co : ∀ t, t < c.length → βo (po + t) = c.getD t 0 := by
    intro t ht
    have q := rdB_at (β := βo) (p := po) (n := c.length) (j := t) ht
    rw [eo] at q
    rw [List.getD_eq_getElem?_getD, q]
    rfl
  have cb : ∀ t, t < 16 → βb (pb + t) = iv.getD t 0 := by
    intro t ht
    have q := rdB_at (β := βb) (p := pb) (n := 16) (j := t) ht
    rw [eb] at q
    rw [List.getD_eq_getElem?_getD, q]
    rfl
  intro m
  induction m with
  | zero =>
    intro b n o γ hn hbm hb ho hγ hbx hks
    obtain ⟨n, rfl⟩ : ∃ q, n = q + 1 := ⟨n - 1, by omega⟩
    rw [show 16 * b = c.length by omega]
    exact ⟨n, o, γ, rfl, agr.refl _ _ _ _ _, hγ, by rw [ucbc, List.append_nil, show 16 * (b + 0) = c.length by omega]⟩
  | succ m ih =>
    intro b n o γ hn hbm hb ho hγ hbx hks
    obtain ⟨n, rfl⟩ : ∃ q, n = q + 1 := ⟨n - 1, by omega⟩
    rw [B_X13_openIt_149, if_neg (fun q => absurd ((n_le (by omega) (by omega)).mp q) (by omega)), rcv_m lo, bO_s, n_add]
    obtain ⟨o1, g1, a1, c1⟩ := oM_set (G := G) (F := F) (S := S) (o := o) (k := ko) (p := po + 16 * b) X h qo lo_ (by omega) ho
    have ein : rdB βo (po + 16 * b) 16 = pad16 (c.drop (16 * b)) := by
      apply List.ext_getElem?
      intro t
      by_cases ht : t < 16
      · have : (pad16 (c.drop (16 * b)))[t]? = some ((c.drop (16 * b)).getD t 0) := by
          unfold pad16 m16
          simp [ht]
        rw [rdB_at ht, this, List.getD_eq_getElem?_getD, List.getElem?_drop, Nat.add_assoc, co _ (by omega), List.getD_eq_getElem?_getD]
      · rw [List.getElem?_eq_none (by rw [rdB_len]; omega), List.getElem?_eq_none (by rw [pad16, m16_len]; omega)]
    rw [ein] at c1
    obtain ⟨o2, g2, a2, c2⟩ := oM_back (G := G) (F := F) (S := S) X h (oBX_ag a1 (by decide) (by decide) hbx) (oKS_ag a1 (by decide) (by decide) hks) c1
    have a12 : agr [] [] [45, 46, 49] [] o o2 := (a1.mono (by decide) (by decide) (by decide) (by decide)).trans (a2.mono (by decide) (by decide) (by decide) (by decide))
    obtain ⟨prev, hprev⟩ : ∃ prev, prev = (if b = 0 then iv else pad16 (c.drop (16 * (b - 1)))) := ⟨_, rfl⟩
    obtain ⟨o3, γ3, g3, a3, m3, k3, v3⟩ := oM_op_c (G := G) (F := F) (S := S) (r149 := B_X13_openIt_149 G F n) (b := b) (N := c.length) (B := bck ks nr (pad16 (c.drop (16 * b)))) (prev := prev) X h qb qo nb no lb_ lo_ rb ro (by omega) hc (bck_len _ _ _) (fun j hj => by
      rw [hprev]
      by_cases hb0 : b = 0
      · rw [if_pos hb0, if_pos hb0]
        exact cb j hj
      · rw [if_neg hb0, if_neg hb0, pad16, m16_at hj, List.getD_eq_getElem?_getD, List.getElem?_drop, show po + 16 * b - 16 + j = po + (16 * (b - 1) + j) by omega, co _ (by omega), List.getD_eq_getElem?_getD]) 16 0 F o2 γ (by omega) rfl (a12.mB hb nbA) (a12.mB ho noA) (a2.mB (a1.mB hγ (by decide)) (by decide)) c2
    have g3' : B_X13_openIt_174 G F (B_X13_openIt_149 G F n) F (W.ad (.o 13 0)) (W.ad (.a 13 0 kb)) (Int32.ofNat pb) (W.ad (.a 13 0 ko)) (Int32.ofNat po) (Int32.ofNat c.length) (Int32.ofNat (16 * b)) 0 (mem W (S.so 13 0 o2)) = _ := g3
    rw [g1, bO_s, rcv_m lo, bO_s, g2, bO_s, g3']
    have a13 : agr [] [] [45, 46, 49] [] o o3 := a12.trans (a3.mono (by decide) (by decide) (by decide) (by decide))
    obtain ⟨n', o', γ', q1, q2, q3, q4⟩ := ih (b + 1) n o3 γ3 (by omega) (by omega) (a13.mB hb nbA) (a13.mB ho noA) m3 (oBX_ag a13 (by decide) (by decide) hbx) (oKS_ag a13 (by decide) (by decide) hks)
    refine ⟨n', o', γ', q1, a13.trans q2, q3, ?_⟩
    rw [show 16 * (b + (m + 1)) = 16 * (b + 1 + m) by omega, q4, if_neg (by omega), Nat.add_sub_cancel, ucbc, List.drop_drop, ← hprev, show 16 * b + 16 = 16 * (b + 1) by omega, ← List.append_assoc]
    congr 1
    apply List.ext_getElem?
    intro t
    by_cases ht : t < 16 * b
    · rw [rdB_at (by omega), List.getElem?_append_left (by rw [rdB_len]; omega), rdB_at ht, Nat.zero_add, k3 t (by omega)]
    · rw [List.getElem?_append_right (by rw [rdB_len]; omega), rdB_len]
      by_cases ht2 : t < 16 * b + 16
      · have : (m16 fun k => (bck ks nr (pad16 (c.drop (16 * b)))).getD k 0 ^^^ prev.getD k 0)[t - 16 * b]? = some ((bck ks nr (pad16 (c.drop (16 * b)))).getD (t - 16 * b) 0 ^^^ prev.getD (t - 16 * b) 0) := by
          unfold m16
          simp [show t - 16 * b < 16 by omega]
        rw [rdB_at (by omega), this, Nat.zero_add, ← v3 (t - 16 * b) (by omega) (by omega), show 16 * b + (t - 16 * b) = t by omega]
      · rw [List.getElem?_eq_none (by rw [rdB_len]; omega), List.getElem?_eq_none (by rw [m16_len]; omega)]
/-- the last: what fills it -/
theorem oM_op_f {o : Ob} {f : Nat} {D : List UInt8} {γ : Nat → UInt8} (h : isM W) (hγ : mB o 49 γ) (hD : D.length ≤ 8250) (eD : rdB γ 0 D.length = D) (hf : 1 ≤ f ∧ f ≤ 16) (hfD : f ≤ D.length) : ∀ (m j n : Nat) (g : Bool), m < n → j + m = f → (g = true ↔ ∀ t, t < j → D.getD (D.length - f + t) 0 = UInt8.ofNat f) → B_X13_openIt_284 G F n (W.ad (.o 13 0)) (Int32.ofNat D.length) (Int32.ofNat f) (if g then 1 else 0) (Int32.ofNat (D.length - f + j)) (mem W (S.so 13 0 o)) = some (if (∀ t, t < f → D.getD (D.length - f + t) 0 = UInt8.ofNat f) then 1 else 0, mem W (S.so 13 0 (o.sf 50 (Int32.ofNat (D.length - f))))) := by
  have lo := h.lo
  have hf32 : (Int32.ofNat f) = b32 (UInt8.ofNat f) := by
    unfold b32
    rw [UInt8.toNat_ofNat', Nat.mod_eq_of_lt (show f < 2 ^ 8 by omega)]
  intro m
  induction m with
  | zero =>
    intro j n g hn hj hg
    obtain ⟨n, rfl⟩ : ∃ q, n = q + 1 := ⟨n - 1, by omega⟩
    obtain rfl : j = f := by omega
    rw [B_X13_openIt_284, if_pos ((n_le (by omega) (by omega)).mpr (by omega)), n_sub (by omega), pI lo rfl, bO_s]
    cases g with
    | false =>
      rw [if_neg (c := ∀ t, t < j → D.getD (D.length - j + t) 0 = UInt8.ofNat j) (fun q => absurd (hg.mpr q) (by decide))]
      rfl
    | true =>
      rw [if_pos (c := ∀ t, t < j → D.getD (D.length - j + t) 0 = UInt8.ofNat j) (hg.mp rfl)]
      rfl
  | succ m ih =>
    intro j n g hn hj hg
    obtain ⟨n, rfl⟩ : ∃ q, n = q + 1 := ⟨n - 1, by omega⟩
    rw [B_X13_openIt_284, if_neg (fun q => absurd ((n_le (by omega) (by omega)).mp q) (by omega))]
    cases g with
    | false =>
      rw [if_pos (by rfl), n_sub (by omega), pI lo rfl, bO_s, if_neg (c := ∀ t, t < f → D.getD (D.length - f + t) 0 = UInt8.ofNat f) (fun q => absurd (hg.mpr (fun t ht => q t (by omega))) (by decide))]
      rfl
    | true =>
      have ev : γ (D.length - f + j) = D.getD (D.length - f + j) 0 := by
        have q := rdB_at (β := γ) (p := 0) (n := D.length) (j := D.length - f + j) (by omega)
        rw [eD, Nat.zero_add] at q
        rw [List.getD_eq_getElem?_getD, q]
        rfl
      rw [if_neg (by decide), oM_gR h 49 rfl (by decide), bO_s, h.aB' rfl hγ (show D.length - f + j < 8300 by omega) (by decide), bO_s, sb_and, ev, n_addL _ 1]
      by_cases hv : D.getD (D.length - f + j) 0 = UInt8.ofNat f
      · rw [if_pos (by rw [hv, hf32])]
        have := ih (j + 1) n true (by omega) (by omega) ⟨fun _ t ht => by
          by_cases e : t = j
          · rw [e]; exact hv
          · exact hg.mp rfl t (by omega), fun _ => rfl⟩
        exact this
      · rw [if_neg (by rw [hf32]; exact fun q => hv (b32_inj q))]
        have := ih (j + 1) n false (by omega) (by omega) ⟨fun q => absurd q (by decide), fun q => absurd (q j (by omega)) hv⟩
        exact this
end MOPEN
