/-! THE MODEL'S key: after the letters -/
theorem MK.rsa {S S' : ST} (K : MK S) (f : fr [(12, 0), (13, 0)] S S') (a : agr [] [] [60, 61] [] (S 13 0) (S' 13 0)) : MK S' := by
  obtain ⟨Q, MN, ⟨β63, h63, e63⟩, ⟨β64, h64, e64⟩, ⟨β65, h65, e65⟩, β67, h67⟩ := K
  exact ⟨Q.ag f (by simp) a (by decide), MN.fr f (by simp), ⟨β63, a.mB h63 (by decide), e63⟩, ⟨β64, a.mB h64 (by decide), e64⟩, ⟨β65, a.mB h65 (by decide), e65⟩, β67, a.mB h67 (by decide)⟩
theorem MK.ag {S : ST} {o o' : Ob} {fs gs as ls : List Nat} (K : MK (S.so 13 0 o)) (a : agr fs gs as ls o o') (ha : ∀ k ∈ [63, 64, 65, 66, 67, 68, 69, 70, 71, 72, 74, 75, 76, 77, 78], k ∉ as) (hl : ls = []) : MK (S.so 13 0 o') := by
  have f : fr [(13, 0)] (S.so 13 0 o) (S.so 13 0 o') := fun c i h => by
    rw [so_ne (fun q => h (by rw [q.1, q.2]; simp)), so_ne (fun q => h (by rw [q.1, q.2]; simp))]
  have a' : agr fs gs as ls ((S.so 13 0 o) 13 0) ((S.so 13 0 o') 13 0) := by rw [so_eq, so_eq]; exact a
  obtain ⟨Q, MN, ⟨β63, h63, e63⟩, ⟨β64, h64, e64⟩, ⟨β65, h65, e65⟩, β67, h67⟩ := K
  exact ⟨Q.ag f (by simp) a' (by intro k hk; exact ha k (by revert hk; revert k; decide)), MN.fr f (by simp), ⟨β63, a'.mB h63 (ha _ (by decide)), e63⟩, ⟨β64, a'.mB h64 (ha _ (by decide)), e64⟩, ⟨β65, a'.mB h65 (ha _ (by decide)), e65⟩, β67, a'.mB h67 (ha _ (by decide))⟩
