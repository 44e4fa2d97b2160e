/-! n is prime; the field of the curve; the cubic has no root -/
theorem PR_n1 : PR 104471 := PR_small (by decide) (by decide) (by decide +kernel)
theorem PR_n2 : PR 155317 := PR_small (by decide) (by decide) (by decide +kernel)
theorem PR_n3 : PR 3023 := PR_small (by decide) (by decide) (by decide +kernel)
theorem PR_n4 : PR 3969899 := PR_of (Fq := 104471) (by decide) (by decide) (fun d hd hn => pock' (a := 2) (s := 38) (f := 40) hd hn (by decide) (by decide) (by decide +kernel) (by decide) PR_n1 (by decide) (by decide +kernel))
theorem PR_n5 : PR 1002328039319 := PR_of (Fq := 3969899) (by decide) (by decide) (fun d hd hn => pock' (a := 2) (s := 252482) (f := 50) hd hn (by decide) (by decide) (by decide +kernel) (by decide) PR_n4 (by decide) (by decide +kernel))
theorem PR_n6 : PR 191039911 := PR_of (Fq := 155317) (by decide) (by decide) (fun d hd hn => pock' (a := 2) (s := 1230) (f := 40) hd hn (by decide) (by decide) (by decide +kernel) (by decide) PR_n2 (by decide) (by decide +kernel))
theorem PR_n7 : PR 208150935158385979 := PR_of (Fq := 191039911 * 3023) (by decide) (by decide) (fun d hd hn => two_dvd PR_n6 PR_n3 (by decide) (pock' (a := 2) (s := 1089567798) (f := 70) hd hn (by decide) (by decide) (by decide +kernel) (by decide) PR_n6 (by decide) (by decide +kernel)) (pock' (a := 2) (s := 68855750962086) (f := 70) hd hn (by decide) (by decide) (by decide +kernel) (by decide) PR_n3 (by decide) (by decide +kernel)))
theorem PR_n8 : PR 2624747550333869278416773953 := PR_of (Fq := 208150935158385979) (by decide) (by decide) (fun d hd hn => pock' (a := 2) (s := 12609828288) (f := 100) hd hn (by decide) (by decide) (by decide +kernel) (by decide) PR_n7 (by decide) (by decide +kernel))
theorem PR_n : PR nP := PR_of (Fq := 2624747550333869278416773953 * 1002328039319) (by decide +kernel) (by decide +kernel) (fun d hd hn => two_dvd PR_n8 PR_n5 (by decide) (pock' (a := 2) (s := 44115514726598157485257412756682202504057278751056) (f := 256) hd hn (by decide +kernel) (by decide +kernel) (by decide +kernel) (by decide +kernel) PR_n8 (by decide +kernel) (by decide +kernel)) (pock' (a := 2) (s := 115523146782392231311324540489179156958562150085032625197564538672) (f := 256) hd hn (by decide +kernel) (by decide +kernel) (by decide +kernel) (by decide +kernel) PR_n5 (by decide +kernel) (by decide +kernel)))
/-- the numbers under p as a field, r the map onto it -/
abbrev FD {F : Type} [Lean.Grind.CommRing F] (r : Int → F) (v : F → Nat) : Prop := RM r ∧ NZ F ∧ (∀ A, v (r A) = rs pP A) ∧ (∀ u, r (v u : Int) = u) ∧ (∀ z, r z ≠ 0 → r z * r (zin z) = 1) ∧ (∀ u w, v (u + w) = (v u + v w) % pP)
theorem rz_pow {x m : Nat} {ys : List UInt8} : ∀ k, rz x m ys k = x ^ eB ys k % m
  | 0 => by rw [rz, eB, Nat.pow_zero]
  | k + 1 => by
    rw [rz, eB, rz_pow k]
    have e : x ^ (2 * eB ys k) = x ^ eB ys k * x ^ eB ys k := by rw [Nat.two_mul, Nat.pow_add]
    cases bitA ys k with
    | true =>
      rw [if_pos rfl, if_pos rfl, Nat.pow_succ, e, Nat.mul_mod, ← Nat.mul_mod (x ^ eB ys k), ← Nat.mul_mod]
    | false =>
      rw [if_neg Bool.false_ne_true, if_neg Bool.false_ne_true, Nat.add_zero, e, ← Nat.mul_mod]
theorem eB_p2 : eB (beV 32 (pP - 2)) 256 = pP - 2 := by
  have e := eB_beN (beV 32 (pP - 2))
  rw [beV_len] at e
  rw [show 256 = 8 * 32 from rfl, e, beN_32 (by decide +kernel)]
theorem eB_p : eB (beV 32 pP) 256 = pP := by
  have e := eB_beN (beV 32 pP)
  rw [beV_len] at e
  rw [show 256 = 8 * 32 from rfl, e, beN_32 (by decide +kernel)]
theorem zin_1 {z : Int} (h : z % (pP : Int) ≠ 0) : rs pP z * rs pP (zin z) % pP = 1 := by
  have nd : ¬ pP ∣ rs pP z := by
    intro q
    have e : rs pP z = 0 := Nat.eq_zero_of_dvd_of_lt q (rs_lt pP_1 z)
    exact h ((rs_z pP_1 z).mp e)
  unfold zin
  rw [rs_nat pP_1, rz_pow, eB_p2, Nat.mod_mod, Nat.mul_mod, Nat.mod_mod, ← Nat.mul_mod, ← Nat.pow_add_one']
  have e := flt1 PR_p nd
  rw [show pP - 2 + 1 = pP - 1 by have := pP_1; omega]
  exact e
theorem fin_add {m : Nat} [NeZero m] (h : 1 < m) (A B : Int) : (⟨rs m (A + B), rs_lt h _⟩ : Fin m) = ⟨rs m A, rs_lt h A⟩ + ⟨rs m B, rs_lt h B⟩ := Fin.ext (rs_add h A B)
theorem fin_mul {m : Nat} [NeZero m] (h : 1 < m) (A B : Int) : (⟨rs m (A * B), rs_lt h _⟩ : Fin m) = ⟨rs m A, rs_lt h A⟩ * ⟨rs m B, rs_lt h B⟩ := Fin.ext (rs_mul h A B)
theorem fin_one {m : Nat} [NeZero m] (h : 1 < m) : (⟨rs m 1, rs_lt h _⟩ : Fin m) = 1 := Fin.ext (by
  show rs m ((1 : Nat) : Int) = (1 : Fin m).val
  rw [rs_nat h]
  rfl)
theorem fin_zero {m : Nat} [NeZero m] (h : 1 < m) (A : Int) : (⟨rs m A, rs_lt h _⟩ : Fin m) = 0 ↔ A % (m : Int) = 0 := by
  rw [← rs_z h]
  constructor
  · intro q
    have := congrArg Fin.val q
    exact this
  · intro q
    exact Fin.ext q
theorem FD_ex : ∃ (F : Type) (_ : Lean.Grind.CommRing F) (r : Int → F) (v : F → Nat), FD r v := by
  have ne : NeZero pP := ⟨by have := pP_1; omega⟩
  obtain ⟨r, hr⟩ : ∃ r : Int → Fin pP, r = fun A => ⟨rs pP A, rs_lt pP_1 A⟩ := ⟨_, rfl⟩
  have a1 : ∀ A B, r (A + B) = r A + r B := by rw [hr]; exact fin_add pP_1
  have a2 : ∀ A B, r (A * B) = r A * r B := by rw [hr]; exact fin_mul pP_1
  have a3 : r 1 = 1 := by rw [hr]; exact fin_one pP_1
  have a4 : ∀ A, r A = 0 ↔ A % (pP : Int) = 0 := by rw [hr]; exact fin_zero pP_1
  have a5 : ∀ A, (r A).val = rs pP A := by rw [hr]; exact fun A => rfl
  have a6 : ∀ u : Fin pP, r (u.val : Int) = u := by
    intro u
    refine Fin.ext ?_
    rw [a5, rs_nat pP_1, Nat.mod_eq_of_lt u.isLt]
  have a7 : ∀ A B, r (A - B) = r A - r B := by
    intro A B
    have e := a1 (A - B) B
    rw [Int.sub_add_cancel] at e
    rw [e]
    generalize r (A - B) = x
    generalize r B = y
    clear a1 a2 a3 a4 a5 a6 e hr
    generalize pP = m at *
    grind
  refine ⟨Fin pP, inferInstance, r, Fin.val, ⟨a1, a2, a7, a3, a4⟩, ?_, a5, a6, ?_, ?_⟩
  · intro u w h
    rw [← a6 u, ← a6 w] at h ⊢
    have h : r ((u.val : Int) * (w.val : Int)) = 0 := (a2 _ _).trans h
    rcases pr_p _ _ ((a4 _).mp h) with c | c
    · exact Or.inl ((a4 _).mpr c)
    · exact Or.inr ((a4 _).mpr c)
  · intro z h
    have h : z % (pP : Int) ≠ 0 := fun q => h ((a4 z).mpr q)
    refine (a2 _ _).symm.trans ?_
    refine Eq.trans ?_ a3
    refine Fin.ext ?_
    rw [a5, a5, rs_mul pP_1, zin_1 h]
    show 1 = rs pP ((1 : Nat) : Int)
    rw [rs_nat pP_1, Nat.mod_eq_of_lt pP_1]
  · intro u w
    exact Fin.val_add u w
/-- polynomials under the cubic -/
def mT (f g : Int × Int × Int) : Int × Int × Int := ((f.1 * g.2.2 + f.2.1 * g.2.1 + f.2.2 * g.1 + 3 * (f.1 * g.1)) % (pP : Int), (f.2.1 * g.2.2 + f.2.2 * g.2.1 + 3 * (f.1 * g.2.1 + f.2.1 * g.1) - (bP_ : Int) * (f.1 * g.1)) % (pP : Int), (f.2.2 * g.2.2 - (bP_ : Int) * (f.1 * g.2.1 + f.2.1 * g.1)) % (pP : Int))
def qT (ys : List UInt8) : Nat → Int × Int × Int
  | 0 => (0, 0, 1)
  | k + 1 => if bitA ys k then mT (mT (qT ys k) (qT ys k)) (0, 1, 0) else mT (qT ys k) (qT ys k)
theorem qT_p : mT (34768139465301476436978405170953382516735956999154666452188405812258086013549, 74462945259064871768191128030512052509059297803194871526163573358218695456204, 76626890310466861426869089647039036757962535851890885406097439786770458211455) ((qT (beV 32 pP) 256).1, (qT (beV 32 pP) 256).2.1 - 1, (qT (beV 32 pP) 256).2.2) = (0, 0, 1) := by decide +kernel
