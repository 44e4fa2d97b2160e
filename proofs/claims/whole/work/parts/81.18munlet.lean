/-! THE MODEL'S BYTES FOR LETTERS -/
theorem QM_isDigit {G : mG} {F : Nat} {M : mM} (c : Int32) : P_X13_isDigit G F c M = some (if 48 ≤ c ∧ c ≤ 57 then 1 else 0, M) := by
  unfold P_X13_isDigit
  by_cases h1 : c < 48
  · rw [if_pos h1, if_neg (fun q => absurd h1 (Int32.not_lt.mpr q.1))]
    rfl
  · rw [if_neg h1]
    by_cases h2 : (57 : Int32) < c
    · rw [if_pos h2, if_neg (fun q => absurd h2 (Int32.not_lt.mpr q.2))]
      rfl
    · rw [if_neg h2, if_pos ⟨Int32.not_lt.mp h1, Int32.not_lt.mp h2⟩]
      rfl
def sxI (c : Int32) : Int32 :=
  let l41 := if (if 48 ≤ c ∧ c ≤ 57 then (1 : Int32) else 0) = 0 then (if c = 45 then 62 else if c = 95 then 63 else -1) else c - 48 + 52
  let l19 := if c < 97 then l41 else if 122 < c then l41 else c - 97 + 26
  if c < 65 then l19 else if 90 < c then l19 else c - 65
theorem sx_tab : ∀ n, n < 256 → sxI (sb (UInt8.ofNat n)) = oN (sv (UInt8.ofNat n)) := by decide +kernel
theorem sx_sb (x : UInt8) : sxI (sb x) = oN (sv x) := by
  have := sx_tab x.toNat x.toNat_lt
  rwa [UInt8.ofNat_toNat] at this
theorem QM_sixOf {G : mG} {F : Nat} {M : mM} (c : Int32) : P_X13_sixOf G F c M = some (sxI c, M) := by
  unfold P_X13_sixOf B_X13_sixOf_19 B_X13_sixOf_41 sxI
  simp only [QM_isDigit, bP_s]
  repeat' split
  all_goals rfl
theorem fltF_lt {u : List UInt8} {k : Nat} (hq : fltF u = some k) : k ≤ u.length := by
  unfold fltF at hq
  cases hf : u.findIdx? (fun x => (sv x).isNone) with
  | some j =>
    rw [hf] at hq
    cases hq
    have := (List.findIdx?_eq_some_iff_getElem.mp hf).1
    omega
  | none =>
    rw [hf] at hq
    simp only [] at hq
    repeat' split at hq
    all_goals (cases hq; try omega)
section MUNLET
variable {W : WR} {G : mG} {F : Nat}
/-- what unletter leaves -/
def un (o : Ob) (k2 : Nat) (β : Nat → UInt8) (v : Int32) : Ob := (o.sA k2 (fun j => sb (β j))).sf 29 v
theorem bits_b6 : ∀ b, b < 7 → (Int32.ofNat b) + 6 = (Int32.ofNat (b + 6)) := by decide +kernel
theorem mask_n : ∀ b, b < 7 → ((1 : Int32) <<< ((Int32.ofNat b) &&& 31)) - 1 = (Int32.ofNat (2 ^ b - 1)) := by decide +kernel
theorem QM_unletter_l {k1 k2 p1 p2 cnt : Nat} {β1 β2 : Nat → UInt8} (X : Cx G F W) (hM : isM W) (q1 : (kdA 13)[k1]? = some 1) (q2 : (kdA 13)[k2]? = some 1) (hne : k1 ≠ k2) (l1 : mLen k1 < 2 ^ 30) (l2 : mLen k2 < 2 ^ 30) (b1 : p1 + cnt ≤ mLen k1) (b2 : p2 + cnt ≤ mLen k2) (hc : cnt < 90000) : ∀ (m k n h : Nat) (S : ST) (done : List UInt8), m < n → k + m = cnt → h < 65536 → (∀ j x, (rdB β1 p1 cnt)[j]? = some x → j < k → sv x ≠ none) → (0 < k → ∃ v, sv (β1 (p1 + (k - 1))) = some v ∧ h % 64 = v) → done.length = 6 * k / 8 → mB (S 13 0) k1 β1 → (S 13 0).a k2 = (fun j => sb (wrB β2 p2 done j)) → ∃ (β' : Nat → UInt8) (v : Int32), B_X13_unletter_12 G F n (W.ad (.o 13 0)) (W.ad (.a 13 0 k1)) (Int32.ofNat p1) (Int32.ofNat cnt) (W.ad (.a 13 0 k2)) (Int32.ofNat p2) (Int32.ofNat h) (Int32.ofNat (6 * k % 8)) (Int32.ofNat done.length) (Int32.ofNat k) (mem W S) = some (if fltF (rdB β1 p1 cnt) = none then (Int32.ofNat (done ++ decL (6 * k % 8) (h % 2 ^ (6 * k % 8)) (rdB β1 (p1 + k) m)).length) else -1, mem W (S.so 13 0 (un (S 13 0) k2 β' v))) ∧ (fltF (rdB β1 p1 cnt) = none → β' = wrB β2 p2 (done ++ decL (6 * k % 8) (h % 2 ^ (6 * k % 8)) (rdB β1 (p1 + k) m))) ∧ ∀ j, fltF (rdB β1 p1 cnt) = some j → v = (Int32.ofNat j) := by
  have hF := X.hF
  have hlen := rdB_len β1 p1 cnt
  have hbd : ∀ j, 6 * j % 8 < 7 := fun j => by omega
  intro m
  induction m with
  | zero =>
    intro k n h S done hn hk hh hall hlast hdl hβ hw
    obtain ⟨n, rfl⟩ : ∃ q, n = q + 1 := ⟨n - 1, by omega⟩
    obtain rfl : k = cnt := by omega
    have e0 : rdB β1 (p1 + k) 0 = [] := rfl
    rw [e0]
    have hd0 : ∀ b r, decL b r [] = [] := fun b r => by unfold decL; rfl
    rw [hd0, List.append_nil]
    have hnone : (rdB β1 p1 k).findIdx? (fun x => (sv x).isNone) = none := by
      rw [List.findIdx?_eq_none_iff]
      intro x hx
      obtain ⟨j, hj⟩ := List.getElem?_of_mem hx
      have hjl := (List.getElem?_eq_some_iff.mp hj).1
      cases hq : sv x with
      | none => exact absurd hq (hall j x hj (by omega))
      | some v => rfl
    have hun : un (S 13 0) k2 (wrB β2 p2 done) ((S 13 0).f 29) = S 13 0 := by
      unfold un
      rw [sA_self hw, sf_self]
    have hun2 : ∀ v, un (S 13 0) k2 (wrB β2 p2 done) v = (S 13 0).sf 29 v := by
      intro v
      unfold un
      rw [sA_self hw]
    have em : ((Int32.ofNat k) - (Int32.ofNat k) / (4 : Int32) * (4 : Int32)) = (Int32.ofNat (k % 4)) := by
      rw [lit 4, n_div (by omega) (by omega), n_mul, n_sub (by omega)]
      congr 1
      omega
    have ea : (Int32.ofNat h) &&& (((1 : Int32) <<< ((Int32.ofNat (6 * k % 8)) &&& 31)) - 1) = (Int32.ofNat (h % 2 ^ (6 * k % 8))) := by
      rw [mask_n _ (hbd k), n_and, and_mask]
    have hp : h % 2 ^ (6 * k % 8) < 64 := by
      have : 6 * k % 8 = 0 ∨ 6 * k % 8 = 2 ∨ 6 * k % 8 = 4 ∨ 6 * k % 8 = 6 := by omega
      rcases this with e | e | e | e <;> rw [e] <;> omega
    have el : 0 < k → (((rdB β1 p1 k).getLast?.bind sv).getD 0) = h % 64 := by
      intro hk0
      obtain ⟨v, hv, hv2⟩ := hlast hk0
      rw [List.getLast?_eq_getElem?, hlen, rdB_at (by omega)]
      simp [hv, hv2]
    rw [B_X13_unletter_12, if_pos ((n_le (by omega) (by omega)).mpr (Nat.le_refl _)), em, ea]
    by_cases c1 : k % 4 = 1
    · have hf : fltF (rdB β1 p1 k) = some k := by
        unfold fltF
        rw [hnone, hlen]
        simp only []
        rw [if_pos c1]
      refine ⟨wrB β2 p2 done, (Int32.ofNat k), ?_, ?_, ?_⟩
      · rw [if_pos (by rw [c1]; rfl), hf, if_neg (fun q => nomatch q), hM.pI 29 _ rfl, bO_s, hun2]
      · exact fun q => absurd (hf.symm.trans q) (fun z => nomatch z)
      · intro j q
        rw [hf] at q
        cases q
        rfl
    · rw [if_neg (by rw [o32, n_eq (by omega) (by omega)]; exact c1)]
      by_cases hz : h % 2 ^ (6 * k % 8) = 0
      · have hf : fltF (rdB β1 p1 k) = none := by
          unfold fltF
          rw [hnone, hlen]
          simp only []
          rw [if_neg c1]
          by_cases c2 : k % 4 = 2
          · rw [if_neg, if_neg]
            · intro q
              omega
            · intro q
              have := q.2
              rw [el (by omega)] at this
              rw [show 6 * k % 8 = 4 by omega] at hz
              omega
          · rw [if_neg (fun q => c2 q.1)]
            by_cases c3 : k % 4 = 3
            · rw [if_neg]
              intro q
              have := q.2
              rw [el (by omega)] at this
              rw [show 6 * k % 8 = 2 by omega] at hz
              omega
            · rw [if_neg (fun q => c3 q.1)]
        refine ⟨wrB β2 p2 done, (S 13 0).f 29, ?_, fun _ => rfl, ?_⟩
        · rw [if_pos (by rw [hz]; rfl), hf, if_pos rfl, hun, so_self]
        · exact fun j q => absurd (hf.symm.trans q) (fun z => nomatch z)
      · have hf : fltF (rdB β1 p1 k) = some (k - 1) := by
          unfold fltF
          rw [hnone, hlen]
          simp only []
          rw [if_neg c1]
          by_cases c2 : k % 4 = 2
          · rw [if_pos ⟨c2, by
              rw [el (by omega)]
              rw [show 6 * k % 8 = 4 by omega] at hz
              omega⟩]
          · rw [if_neg (fun q => c2 q.1)]
            by_cases c3 : k % 4 = 3
            · rw [if_pos ⟨c3, by
                rw [el (by omega)]
                rw [show 6 * k % 8 = 2 by omega] at hz
                omega⟩]
            · exfalso
              rw [show 6 * k % 8 = 0 by omega] at hz
              omega
        have hk0 : 0 < k := by
          apply Nat.pos_of_ne_zero
          intro e
          rw [e] at hz
          apply hz
          show h % 2 ^ 0 = 0
          omega
        refine ⟨wrB β2 p2 done, (Int32.ofNat (k - 1)), ?_, ?_, ?_⟩
        · rw [if_neg (by rw [z32, n_eq (by omega) (by omega)]; exact hz), hf, if_neg (fun q => nomatch q), o32, n_sub (by omega), hM.pI 29 _ rfl, bO_s, hun2]
        · exact fun q => absurd (hf.symm.trans q) (fun z => nomatch z)
        · intro j q
          rw [hf] at q
          cases q
          rfl
  | succ m ih =>
    intro k n h S done hn hk hh hall hlast hdl hβ hw
    obtain ⟨n, rfl⟩ : ∃ q, n = q + 1 := ⟨n - 1, by omega⟩
    have hg : (rdB β1 p1 cnt)[k]? = some (β1 (p1 + k)) := rdB_at (by omega)
    have e1 : rdB β1 (p1 + k) (m + 1) = β1 (p1 + k) :: rdB β1 (p1 + (k + 1)) m := by
      unfold rdB
      rw [List.range_succ_eq_map, List.map_cons, List.map_map]
      congr 1
      apply List.map_congr_left
      intro j _
      show β1 (p1 + k + (j + 1)) = β1 (p1 + (k + 1) + j)
      congr 1
      omega
    rw [B_X13_unletter_12, if_neg (by rw [n_le (by omega) (by omega)]; omega), n_add, hM.aB q1 hβ (by omega) (by omega), bO_s, QM_sixOf, bP_s, sx_sb]
    cases hq : sv (β1 (p1 + k)) with
    | none =>
      have hf : fltF (rdB β1 p1 cnt) = some k := by
        have : (rdB β1 p1 cnt).findIdx? (fun x => (sv x).isNone) = some k := by
          rw [List.findIdx?_eq_some_iff_getElem]
          refine ⟨by omega, ?_, fun j hj => ?_⟩
          · have e := (List.getElem?_eq_some_iff.mp hg).2
            rw [e, hq]
            rfl
          · have e : (rdB β1 p1 cnt)[j]? = some (rdB β1 p1 cnt)[j] := List.getElem?_eq_getElem (by omega)
            have := hall j _ e hj
            cases hz : sv (rdB β1 p1 cnt)[j] with
            | none => exact absurd hz this
            | some v => exact Bool.false_ne_true
        unfold fltF
        rw [this]
      refine ⟨wrB β2 p2 done, (Int32.ofNat k), ?_, ?_, ?_⟩
      · rw [if_neg (by decide : ¬ (0 : Int32) ≤ oN none), hf, if_neg (fun q => nomatch q), hM.pI 29 _ rfl, bO_s]
        unfold un
        rw [sA_self hw]
      · exact fun q => absurd (hf.symm.trans q) (fun z => nomatch z)
      · intro j q
        rw [hf] at q
        cases q
        rfl
    | some v =>
      have hv64 := sv_lt hq
      have e2 : (((Int32.ofNat h) <<< ((6 : Int32) &&& 31)) ||| oN (some v)) &&& 65535 = (Int32.ofNat ((h * 64 + v) % 65536)) := by
        have e5 : (6 : Int32) &&& 31 = (Int32.ofNat 6) := by decide
        show (((Int32.ofNat h) <<< ((6 : Int32) &&& 31)) ||| (Int32.ofNat v)) &&& 65535 = _
        rw [e5, n_shl (by decide), n_or, or_six hv64, lit 65535, n_and, and_mask _ 16]
      have h0 : (0 : Int32) ≤ oN (some v) := Int32.not_lt.mp (nn (show v < 2 ^ 31 by omega))
      obtain ⟨H, hH⟩ : ∃ H, (h * 64 + v) % 65536 = H := ⟨_, rfl⟩
      have hh2 : H < 65536 := by omega
      have hall' : ∀ j x, (rdB β1 p1 cnt)[j]? = some x → j < k + 1 → sv x ≠ none := by
        intro j x hx hj
        by_cases hjk : j = k
        · subst hjk
          rw [hg] at hx
          cases hx
          rw [hq]
          exact fun z => nomatch z
        · exact hall j x hx (by omega)
      have hlast' : 0 < k + 1 → ∃ w, sv (β1 (p1 + (k + 1 - 1))) = some w ∧ H % 64 = w := by
        intro _
        rw [Nat.add_sub_cancel]
        exact ⟨v, hq, by omega⟩
      rw [if_pos h0, e2, hH, e1, decL, hq]
      simp only [Option.getD_some]
      by_cases hb0 : 6 * k % 8 = 0
      · have hb6 : 6 * (k + 1) % 8 = 6 := by omega
        obtain ⟨β', w, g, d1, d2⟩ := ih (k + 1) n H S done (by omega) (by omega) hh2 hall' hlast' (by omega) hβ hw
        rw [hb6] at g d1
        have q2 : H % 2 ^ 6 = (h % 2 ^ 0 * 64 + v) % 64 := by omega
        rw [q2] at g d1
        refine ⟨β', w, ?_, ?_, d2⟩
        · rw [hb0, if_pos (by decide), bits_b6 0 (by omega), o32, n_add, Nat.zero_add, g, if_pos (show (0 : Nat) = 0 from rfl)]
          rfl
        · rw [hb0, if_pos (show (0 : Nat) = 0 from rfl)]
          exact d1
      · obtain ⟨b', hb'⟩ : ∃ q, 6 * k % 8 = q + 2 := ⟨6 * k % 8 - 2, by omega⟩
        have hb5 : b' < 5 := by omega
        have hbn : 6 * (k + 1) % 8 = b' := by omega
        have q1' : UInt8.ofNat (H / 2 ^ b') = UInt8.ofNat ((h % 2 ^ (b' + 2) * 64 + v) / 2 ^ b') := by
          apply UInt8.toNat_inj.mp
          rw [UInt8.toNat_ofNat', UInt8.toNat_ofNat']
          have hbc : b' = 0 ∨ b' = 2 ∨ b' = 4 := by omega
          rcases hbc with rfl | rfl | rfl <;> omega
        have q2' : H % 2 ^ b' = (h % 2 ^ (b' + 2) * 64 + v) % 2 ^ b' := by
          have hbc : b' = 0 ∨ b' = 2 ∨ b' = 4 := by omega
          rcases hbc with rfl | rfl | rfl <;> omega
        have es : ((((Int32.ofNat H) >>> (Int32.ofNat b')).toInt8.toInt32).toInt8.toInt32) = sb (UInt8.ofNat ((h % 2 ^ (b' + 2) * 64 + v) / 2 ^ b')) := by
          rw [n_shr (by omega) (by omega), sb_lo8, sb_lo8, lo8_sb, lo8_n, q1']
        obtain ⟨y, hy⟩ : ∃ y, UInt8.ofNat ((h % 2 ^ (b' + 2) * 64 + v) / 2 ^ b') = y := ⟨_, rfl⟩
        have gs := hM.sB (S := S) (y := y) q2 hw (show p2 + done.length < mLen k2 by omega) (by omega)
        have ew : (fun j => sb (va_up (wrB β2 p2 done) (p2 + done.length) y j)) = fun j => sb (wrB β2 p2 (done ++ [y]) j) := by
          rw [wrB_snoc]
        rw [ew] at gs
        obtain ⟨β', w, g, d1, d2⟩ := ih (k + 1) n H (S.so 13 0 ((S 13 0).sA k2 (fun j => sb (wrB β2 p2 (done ++ [y]) j)))) (done ++ [y]) (by omega) (by omega) hh2 hall' hlast' (by rw [List.length_append]; simp; omega) (by rw [so_eq]; exact mB_sA' hne hβ) (by rw [so_eq, sA_a])
        rw [so_eq, hbn, q2', so_so] at g
        rw [hbn, q2'] at d1
        have eun : un ((S 13 0).sA k2 (fun j => sb (wrB β2 p2 (done ++ [y]) j))) k2 β' w = un (S 13 0) k2 β' w := by
          unfold un
          rw [sA_sA]
        rw [eun] at g
        have ea : ∀ zs : List UInt8, (done ++ [y]) ++ zs = done ++ y :: zs := fun zs => by rw [List.append_assoc]; rfl
        rw [ea] at g d1
        refine ⟨β', w, ?_, ?_, d2⟩
        · rw [hb', if_neg (show ¬ b' + 2 = 0 by omega), show b' + 2 - 2 = b' from rfl, (bits_m8 b' hb5).1, (bits_m8 b' hb5).2, es, hy, n_add, if_neg (by rw [bits_b6 _ (by omega), lit 8, n_lt (by omega) (by omega)]; omega), gs, bO_s, o32, n_add, n_add]
          have el2 : (done ++ [y]).length = done.length + 1 := by rw [List.length_append]; rfl
          rw [el2] at g
          exact g
        · rw [hb', if_neg (show ¬ b' + 2 = 0 by omega), show b' + 2 - 2 = b' from rfl, hy]
          exact d1
theorem QM_unletter {S : ST} {k1 k2 p1 p2 cnt : Nat} {β1 β2 : Nat → UInt8} (X : Cx G F W) (hM : isM W) (q1 : (kdA 13)[k1]? = some 1) (q2 : (kdA 13)[k2]? = some 1) (hne : k1 ≠ k2) (l1 : mLen k1 < 2 ^ 30) (l2 : mLen k2 < 2 ^ 30) (b1 : p1 + cnt ≤ mLen k1) (b2 : p2 + cnt ≤ mLen k2) (hc : cnt < 90000) (h1 : mB (S 13 0) k1 β1) (h2 : mB (S 13 0) k2 β2) : ∃ (β' : Nat → UInt8) (v : Int32), P_X13_unletter G F (W.ad (.o 13 0)) (W.ad (.a 13 0 k1)) (Int32.ofNat p1) (Int32.ofNat cnt) (W.ad (.a 13 0 k2)) (Int32.ofNat p2) (mem W S) = some (if fltF (rdB β1 p1 cnt) = none then (Int32.ofNat (dec (rdB β1 p1 cnt)).length) else -1, mem W (S.so 13 0 (un (S 13 0) k2 β' v))) ∧ (fltF (rdB β1 p1 cnt) = none → β' = wrB β2 p2 (dec (rdB β1 p1 cnt))) ∧ ∀ j, fltF (rdB β1 p1 cnt) = some j → v = (Int32.ofNat j) := by
  have := X.hF
  exact QM_unletter_l (β2 := β2) X hM q1 q2 hne l1 l2 b1 b2 hc cnt 0 F 0 S [] (by omega) (Nat.zero_add _) (by omega) (fun j x _ h => absurd h (Nat.not_lt_zero _)) (fun h => absurd h (Nat.lt_irrefl _)) rfl h1 (by rw [wrB_nil]; exact h2)
end MUNLET
