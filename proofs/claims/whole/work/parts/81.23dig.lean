/-! THE DIGEST OVER A MESSAGE -/
theorem sch_congr {w w' : Nat → Int32} (h : ∀ k, k < 16 → w k = w' k) : ∀ n, sch w n = sch w' n := by
  intro n
  induction n using Nat.strongRecOn with
  | ind n ih =>
    by_cases hn : n < 16
    · rw [sch_lt hn, sch_lt hn, h n hn]
    · rw [sch_ge hn, sch_ge hn, ih (n - 16) (by omega), ih (n - 15) (by omega), ih (n - 7) (by omega), ih (n - 2) (by omega)]
theorem schW_congr {w w' : Nat → Int64} (h : ∀ k, k < 16 → w k = w' k) : ∀ n, schW w n = schW w' n := by
  intro n
  induction n using Nat.strongRecOn with
  | ind n ih =>
    by_cases hn : n < 16
    · rw [schW_lt hn, schW_lt hn, h n hn]
    · rw [schW_ge hn, schW_ge hn, ih (n - 16) (by omega), ih (n - 15) (by omega), ih (n - 7) (by omega), ih (n - 2) (by omega)]
theorem wd_congr {b b' : Nat → Int32} (h : ∀ k, k < 64 → b k = b' k) : ∀ k, k < 16 → wd b k = wd b' k := by
  intro k hk
  unfold wd
  rw [h (4 * k) (by omega), h (4 * k + 1) (by omega), h (4 * k + 2) (by omega), h (4 * k + 3) (by omega)]
theorem wdWs_congr {b b' : Nat → Int32} {j : Nat} (h : ∀ k, k < 128 → b k = b' k) (hj : j < 16) : ∀ (m k : Nat) (x : Int64), k + m = 8 → wdWs b j m k x = wdWs b' j m k x := by
  intro m
  induction m with
  | zero => intro k x _; rfl
  | succ m ih =>
    intro k x hk
    rw [wdWs, wdWs, h (8 * j + k) (by omega), ih (k + 1) _ (by omega)]
theorem cmp8_congr {hs hs' w w' : Nat → Int32} (h1 : ∀ k, k < 8 → hs k = hs' k) (h2 : ∀ k, k < 16 → w k = w' k) : ∀ k, k < 8 → cmp8 hs w k = cmp8 hs' w' k := by
  intro k hk
  have e : sch w = sch w' := funext (sch_congr h2)
  unfold cmp8
  rw [h1 k hk, e, h1 0 (by omega), h1 1 (by omega), h1 2 (by omega), h1 3 (by omega), h1 4 (by omega), h1 5 (by omega), h1 6 (by omega), h1 7 (by omega)]
theorem cmp8W_congr {hs hs' w w' : Nat → Int64} (h1 : ∀ k, k < 8 → hs k = hs' k) (h2 : ∀ k, k < 16 → w k = w' k) : ∀ k, k < 8 → cmp8W hs w k = cmp8W hs' w' k := by
  intro k hk
  have e : schW w = schW w' := funext (schW_congr h2)
  unfold cmp8W
  rw [h1 k hk, e, h1 0 (by omega), h1 1 (by omega), h1 2 (by omega), h1 3 (by omega), h1 4 (by omega), h1 5 (by omega), h1 6 (by omega), h1 7 (by omega)]
/-- what stands after n blocks of a message -/
def hs8 (msg : List UInt8) : Nat → Nat → Int32
  | 0 => fun k => mt_1.getD k 0
  | n + 1 => cmp8 (hs8 msg n) (wd fun j => gB msg (64 * n + j))
def hs8W (msg : List UInt8) : Nat → Nat → Int64
  | 0 => fun k => mt_2.getD k 0
  | n + 1 => cmp8W (hs8W msg n) (wdW fun j => gB msg (128 * n + j))
theorem gB_app {msg ys : List UInt8} {j : Nat} (h : j < msg.length) : gB (msg ++ ys) j = gB msg j := by
  unfold gB
  rw [List.getElem?_append_left h]
theorem hs8_app (msg ys : List UInt8) : ∀ n, 64 * n ≤ msg.length → ∀ k, k < 8 → hs8 (msg ++ ys) n k = hs8 msg n k := by
  intro n
  induction n with
  | zero => intro _ k _; rfl
  | succ n ih =>
    intro hn k hk
    exact cmp8_congr (ih (by omega)) (wd_congr fun j hj => gB_app (by omega)) k hk
theorem hs8W_app (msg ys : List UInt8) : ∀ n, 128 * n ≤ msg.length → ∀ k, k < 8 → hs8W (msg ++ ys) n k = hs8W msg n k := by
  intro n
  induction n with
  | zero => intro _ k _; rfl
  | succ n ih =>
    intro hn k hk
    exact cmp8W_congr (ih (by omega)) (fun j hj => wdWs_congr (fun i hi => gB_app (by omega)) hj 8 0 0 rfl) k hk
def bb (wide : Bool) : Nat := if wide then 128 else 64
/-- the digest has taken in a message -/
abbrev DG (o : Ob) (wide : Bool) (msg : List UInt8) : Prop := (o.f 0 = if wide then 1 else 0) ∧ o.f 1 = (Int32.ofNat (bb wide)) ∧ o.f 3 = (Int32.ofNat (msg.length % bb wide)) ∧ o.f 4 = (Int32.ofNat msg.length) ∧ (∀ j, j < msg.length % bb wide → o.a 2 j = gB msg (bb wide * (msg.length / bb wide) + j)) ∧ (wide = false → ∀ k, k < 8 → o.a 5 k = hs8 msg (msg.length / 64) k) ∧ (wide = true → ∀ k, k < 8 → o.l 7 k = hs8W msg (msg.length / 128) k)
section DIG
variable {W : WR} {G : mG} {F : Nat}
theorem Q4_addByte {S : ST} {wide : Bool} {msg : List UInt8} {y : UInt8} (X : Cx G F W) (h : isD W) (hg : DG (S 4 0) wide msg) (hl : msg.length < 2 ^ 27) : ∃ o, P_X4_addByte G F (W.ad (.o 4 0)) (b32 y) (mem W S) = some (mem W (S.so 4 0 o)) ∧ DG o wide (msg ++ [y]) ∧ agr [3, 4] [] [2, 5, 6] [7, 8] (S 4 0) o := by
  have hlo := h.1
  have h2 := h.2.1
  obtain ⟨d0, d1, d3, d4, d2, d5, d7⟩ := hg
  have hbb : bb wide = 64 ∨ bb wide = 128 := by cases wide <;> simp [bb]
  have hlt : msg.length % bb wide < bb wide := Nat.mod_lt _ (by omega)
  have gk : ∀ {o : Ob} {k : Nat} (q : (kdF 4)[k]? = some 0), gfI (mem W (S.so 4 0 o)) (W.ad (.o 4 0)) 4 k = some (o.f k) := fun {o k} q => by rw [gfI_m hlo q, so_eq]
  have pk : ∀ {o : Ob} {k : Nat} {v : Int32} (q : (kdF 4)[k]? = some 0), pfv (mem W (S.so 4 0 o)) (W.ad (.o 4 0)) 4 k (.int v) = some (mem W (S.so 4 0 (o.sf k v))) := fun {o k v} q => by rw [pfI_m hlo q, so_so, so_eq]
  have hlen : (msg ++ [y]).length = msg.length + 1 := by rw [List.length_append]; rfl
  have hgy : gB (msg ++ [y]) msg.length = b32 y := by simp [gB]
  -- the object with the byte laid and the counts
  obtain ⟨o1, ho1⟩ : ∃ o1, o1 = (((S 4 0).sA 2 (upd ((S 4 0).a 2) (msg.length % bb wide) (b32 y))).sf 3 (Int32.ofNat (msg.length % bb wide + 1))).sf 4 (Int32.ofNat (msg.length + 1)) := ⟨_, rfl⟩
  have a1 : agr [3, 4] [] [2, 5, 6] [7, 8] (S 4 0) o1 := by
    rw [ho1]
    exact ((agr_sA (by decide)).trans (agr_sf (by decide))).trans (agr_sf (by decide))
  have e3 : o1.f 3 = (Int32.ofNat (msg.length % bb wide + 1)) := by rw [ho1]; rfl
  have e4 : o1.f 4 = (Int32.ofNat (msg.length + 1)) := by rw [ho1]; rfl
  have e0 : o1.f 0 = if wide then 1 else 0 := by rw [a1.1 0 (by decide)]; exact d0
  have e1 : o1.f 1 = (Int32.ofNat (bb wide)) := by rw [a1.1 1 (by decide)]; exact d1
  have e2 : ∀ j, j < msg.length % bb wide + 1 → o1.a 2 j = gB (msg ++ [y]) (bb wide * (msg.length / bb wide) + j) := by
    intro j hj
    have ea : o1.a 2 = upd ((S 4 0).a 2) (msg.length % bb wide) (b32 y) := by rw [ho1, sf_a, sf_a, sA_a]
    have hdm := Nat.div_add_mod msg.length (bb wide)
    rw [ea, upd]
    by_cases ej : j = msg.length % bb wide
    · rw [if_pos ej, ej, hdm, hgy]
    · rw [if_neg ej, d2 j (by omega), gB_app (by omega)]
  have e5 : o1.a 5 = (S 4 0).a 5 := by rw [ho1, sf_a, sf_a, sA_a' (by decide)]
  have e7 : o1.l 7 = (S 4 0).l 7 := by rw [ho1]; rfl
  have step : ∀ (K : mM → Option mM), (bO (gfR (mem W S) (W.ad (.o 4 0)) 4 2) fun v1 =>
      bO (gfI (mem W S) (W.ad (.o 4 0)) 4 3) fun v5 =>
      bO (sI (mem W S) 0 v1 v5 (b32 y)) fun M9 =>
      bO (gfI M9 (W.ad (.o 4 0)) 4 3) fun v12 =>
      bO (pfv M9 (W.ad (.o 4 0)) 4 3 (.int (v12 + (1 : Int32)))) fun M17 =>
      bO (gfI M17 (W.ad (.o 4 0)) 4 4) fun v22 =>
      bO (pfv M17 (W.ad (.o 4 0)) 4 4 (.int (v22 + (1 : Int32)))) K) = K (mem W (S.so 4 0 o1)) := by
    intro K
    rw [h2.g hlo rfl, bO_s, gfI_m hlo rfl, bO_s, d3, h2.st rfl (show msg.length % bb wide < 128 by omega), bO_s, gk rfl, bO_s, sA_f, d3, n_addL _ 1, pk rfl, bO_s, gk rfl, bO_s, sf_f, if_neg (by decide), sA_f, d4, n_addL _ 1, pk rfl, bO_s, ho1]
  unfold P_X4_addByte
  rw [step, gk rfl, bO_s, gk rfl, bO_s, e3, e1]
  by_cases hq : msg.length % bb wide + 1 < bb wide
  · rw [if_pos ((n_lt (by omega) (by omega)).mpr hq)]
    have hm : (msg.length + 1) % bb wide = msg.length % bb wide + 1 := by
      rcases hbb with e | e <;> rw [e] at hq ⊢ <;> omega
    have hdv : (msg.length + 1) / bb wide = msg.length / bb wide := by
      rcases hbb with e | e <;> rw [e] at hq ⊢ <;> omega
    refine ⟨o1, rfl, ⟨e0, e1, by rw [hlen, hm]; exact e3, by rw [hlen]; exact e4, ?_, ?_, ?_⟩, a1⟩
    · rw [hlen, hm, hdv]
      exact e2
    · intro hw k hk
      subst hw
      have hdv' : (msg.length + 1) / 64 = msg.length / 64 := hdv
      rw [hlen, hdv', e5, hs8_app _ _ _ (by omega) k hk]
      exact d5 rfl k hk
    · intro hw k hk
      subst hw
      have hdv' : (msg.length + 1) / 128 = msg.length / 128 := hdv
      rw [hlen, hdv', e7, hs8W_app _ _ _ (by omega) k hk]
      exact d7 rfl k hk
  · rw [if_neg (fun q => hq ((n_lt (by omega) (by omega)).mp q)), pk rfl, bO_s, gk rfl, bO_s, show (o1.sf 3 0).f 0 = (if wide then 1 else 0) from e0]
    have hfull : msg.length % bb wide + 1 = bb wide := by omega
    have hm : (msg.length + 1) % bb wide = 0 := by
      rcases hbb with e | e <;> rw [e] at hfull ⊢ <;> omega
    have hdv : (msg.length + 1) / bb wide = msg.length / bb wide + 1 := by
      rcases hbb with e | e <;> rw [e] at hfull ⊢ <;> omega
    have a2 : agr [3, 4] [] [2, 5, 6] [7, 8] (S 4 0) (o1.sf 3 0) := a1.trans (agr_sf (by decide))
    cases wide with
    | false =>
      rw [if_pos (by rfl), rcv_m hlo, bO_s]
      obtain ⟨o2, g1, g2, g3⟩ := Q4_mix (S := S.so 4 0 (o1.sf 3 0)) X h
      rw [so_so] at g1
      rw [so_eq] at g2 g3
      have a3 : agr [3, 4] [] [2, 5, 6] [7, 8] (S 4 0) o2 := a2.trans (g2.mono (by decide) (by decide) (by decide) (by decide))
      refine ⟨o2, by rw [g1, bO_s], ⟨?_, ?_, ?_, ?_, ?_, ?_, ?_⟩, a3⟩
      · rw [a3.1 0 (by decide)]; exact d0
      · rw [a3.1 1 (by decide)]; exact d1
      · rw [hlen, hm, g2.1 3 (by decide)]; rfl
      · rw [hlen, g2.1 4 (by decide)]; exact e4
      · rw [hlen, hm]
        exact fun j hj => absurd hj (Nat.not_lt_zero _)
      · intro _ k hk
        have hdv' : (msg.length + 1) / 64 = msg.length / 64 + 1 := hdv
        rw [hlen, hdv', g3 k hk]
        refine cmp8_congr (fun i hi => ?_) (wd_congr fun j hj => ?_) k hk
        · rw [sf_a, e5, d5 rfl i hi, hs8_app _ _ _ (by omega) i hi]
        · rw [sf_a]
          exact e2 j (by have : bb false = 64 := rfl; omega)
      · exact fun q => nomatch q
    | true =>
      rw [if_neg (by decide), rcv_m hlo, bO_s]
      obtain ⟨o2, g1, g2, g3⟩ := Q4_mixWide (S := S.so 4 0 (o1.sf 3 0)) X h
      rw [so_so] at g1
      rw [so_eq] at g2 g3
      have a3 : agr [3, 4] [] [2, 5, 6] [7, 8] (S 4 0) o2 := a2.trans (g2.mono (by decide) (by decide) (by decide) (by decide))
      refine ⟨o2, by rw [g1, bO_s], ⟨?_, ?_, ?_, ?_, ?_, ?_, ?_⟩, a3⟩
      · rw [a3.1 0 (by decide)]; exact d0
      · rw [a3.1 1 (by decide)]; exact d1
      · rw [hlen, hm, g2.1 3 (by decide)]; rfl
      · rw [hlen, g2.1 4 (by decide)]; exact e4
      · rw [hlen, hm]
        exact fun j hj => absurd hj (Nat.not_lt_zero _)
      · exact fun q => nomatch q
      · intro _ k hk
        have hdv' : (msg.length + 1) / 128 = msg.length / 128 + 1 := hdv
        rw [hlen, hdv', g3 k hk]
        refine cmp8W_congr (fun i hi => ?_) (fun j hj => wdWs_congr (fun i hi => ?_) hj 8 0 0 rfl) k hk
        · show o1.l 7 i = _
          rw [e7, d7 rfl i hi, hs8W_app _ _ _ (by omega) i hi]
        · rw [sf_a]
          exact e2 i (by have : bb true = 128 := rfl; omega)
end DIG
