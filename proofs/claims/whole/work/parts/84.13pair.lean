/-! NUMBERS THAT BELONG TOGETHER: the class -/
theorem beN_0 : ∀ ys : List UInt8, beN ys = 0 ↔ ∀ x ∈ ys, x = 0
  | [] => ⟨fun _ _ h => absurd h (by simp), fun _ => rfl⟩
  | x :: ys => by
    have hp : 0 < 256 ^ ys.length := Nat.pow_pos (by decide)
    have ih := beN_0 ys
    rw [beN_cons]
    constructor
    · intro h
      have h1 : x.toNat * 256 ^ ys.length = 0 := by omega
      have h2 : beN ys = 0 := by omega
      have h3 : x.toNat = 0 := by
        rcases Nat.mul_eq_zero.mp h1 with q | q
        · exact q
        · omega
      intro y hy
      rcases List.mem_cons.mp hy with q | q
      · rw [q]
        exact UInt8.toNat_inj.mp h3
      · exact ih.mp h2 y q
    · intro h
      rw [h x (by simp), ih.mpr (fun y hy => h y (by simp [hy]))]
      simp
theorem b32_0 {x : UInt8} : b32 x = 0 ↔ x = 0 := ⟨fun h => b32_inj (y := 0) h, fun h => by rw [h]; rfl⟩
theorem b32_2 {x : UInt8} : b32 x = 2 ↔ x = 2 := ⟨fun h => b32_inj (y := 2) h, fun h => by rw [h]; rfl⟩
theorem two_iff {y : List UInt8} (h : 0 < y.length) : beN y = 2 ↔ (∀ k, k < y.length - 1 → gB y k = 0) ∧ gB y (y.length - 1) = 2 := by
  obtain ⟨ys, x, rfl⟩ : ∃ ys x, y = ys ++ [x] := by
    have hne : y ≠ [] := fun e => by rw [e] at h; exact absurd h (by decide)
    exact ⟨y.dropLast, y.getLast hne, (List.dropLast_concat_getLast hne).symm⟩
  have hl : (ys ++ [x]).length - 1 = ys.length := by simp
  have gx : gB (ys ++ [x]) ys.length = b32 x := by
    rw [gB_lt (by simp)]
    congr 1
    simp
  have gk : ∀ k (hk : k < ys.length), gB (ys ++ [x]) k = b32 ys[k] := fun k hk => by
    rw [gB_lt (by simp; omega)]
    congr 1
    exact List.getElem_append_left hk
  have hx := x.toNat_lt
  rw [beN_snoc, hl, gx, b32_2]
  constructor
  · intro e
    have e1 : beN ys = 0 := by omega
    have e2 : x.toNat = 2 := by omega
    refine ⟨fun k hk => ?_, UInt8.toNat_inj.mp e2⟩
    rw [gk k hk, b32_0]
    exact (beN_0 ys).mp e1 _ (List.getElem_mem hk)
  · intro ⟨e1, e2⟩
    have e3 : beN ys = 0 := (beN_0 ys).mpr (fun z hz => by
      obtain ⟨k, hk, q⟩ := List.getElem_of_mem hz
      rw [← q, ← b32_0, ← gk k hk]
      exact e1 k hk)
    rw [e3, e2]
    rfl
/-- two to e and then to d is two again -/
def rpF (n e d : List UInt8) : Bool := decide (beN (powF (powF [2] e n) d n) = 2)
section PAIR
variable {W : WR} {G : mG} {F : Nat}
theorem Q8_pair_l {S : ST} {in_ rn : Nat} {n y : List UInt8} {ln ly : Bool} (h : isRs W) (hN : isB W in_ rn) (bn : Byt rn (S 0 in_) n ln) (by_ : Byt 128 (S 0 69) y ly) (hy : y.length = n.length) (h0 : 0 < n.length) (hn : n.length < 2 ^ 30) : ∀ (m k fuel : Nat), m < fuel → k + m = n.length - 1 → (∀ q, q < k → gB y q = 0) → B_X8_isPair_46 G F fuel (W.ad (.o 8 0)) (W.ad (.o 0 in_)) (Int32.ofNat k) (mem W S) = some (if beN y = 2 then 1 else 0, mem W S) := by
  have tw := two_iff (y := y) (by omega)
  rw [hy] at tw
  intro m
  induction m with
  | zero =>
    intro k fuel hf hk hz
    obtain ⟨fuel, rfl⟩ : ∃ q, fuel = q + 1 := ⟨fuel - 1, by omega⟩
    rw [B_X8_isPair_46, hN.gI 1 rfl, bO_s, bn.many, n_subL 1 (by omega), if_pos ((n_le (by omega) (by omega)).mpr (by omega)), h.g3, bO_s, bO_s, rcv_m h.b3.lo, bO_s, n_subL 1 (by omega), Q0_get h.b3 by_ (by omega), bP_s]
    by_cases c : gB y (n.length - 1) = 2
    · rw [if_pos c, if_pos (tw.mpr ⟨fun q hq => hz q (by omega), c⟩)]
      rfl
    · rw [if_neg c, if_neg (fun e => c (tw.mp e).2)]
      rfl
  | succ m ih =>
    intro k fuel hf hk hz
    obtain ⟨fuel, rfl⟩ : ∃ q, fuel = q + 1 := ⟨fuel - 1, by omega⟩
    rw [B_X8_isPair_46, hN.gI 1 rfl, bO_s, bn.many, n_subL 1 (by omega), if_neg (fun q => by have := (n_le (by omega) (by omega)).mp q; omega), h.g3, bO_s, rcv_m h.b3.lo, bO_s, Q0_get h.b3 by_ (by omega), bP_s]
    by_cases c : gB y k = 0
    · rw [if_pos c, n_i1]
      exact ih (k + 1) fuel (by omega) (by omega) (fun q hq => by
        by_cases e : q = k
        · rw [e]; exact c
        · exact hz q (by omega))
    · rw [if_neg c, if_neg (fun e => c ((tw.mp e).1 k (by omega)))]
      rfl
theorem Q8_isPair {S : ST} {ie in_ id_ : Nat} {n e d t t2 : List UInt8} {le ln ld l l2 : Bool} (X : Cx G F W) (h : isRs W) (hN : isB W in_ 128) (hE : isB W ie 128) (hD : isB W id_ 128) (bn : Byt 128 (S 0 in_) n ln) (be : Byt 128 (S 0 ie) e le) (bd : Byt 128 (S 0 id_) d ld) (b69 : Byt 128 (S 0 69) t l) (b70 : Byt 128 (S 0 70) t2 l2) (n1 : in_ < 67) (n2 : ie < 67) (n3 : id_ < 67) (hs : suitsF n = true) : ∃ S', P_X8_isPair G F (W.ad (.o 8 0)) (W.ad (.o 0 in_)) (W.ad (.o 0 ie)) (W.ad (.o 0 id_)) (mem W S) = some (if rpF n e d = true then 1 else 0, mem W S') ∧ fr [(6, 0), (8, 0), (0, 69), (0, 70)] S S' ∧ (∃ t l, Byt 128 (S' 0 69) t l) ∧ ∃ t l, Byt 128 (S' 0 70) t l := by
  have hF := X.hF
  have hnl : n.length ≤ 128 := bn.2.2.2
  have hel : e.length ≤ 128 := be.2.2.2
  have hdl : d.length ≤ 128 := bd.2.2.2
  have hn0 : 0 < n.length := by
    obtain ⟨s1, s2, _⟩ := of_decide_eq_true hs
    omega
  obtain ⟨o1, q1, b1⟩ := Q0_clear (G := G) (F := F) (S := S) h.b3 b69
  obtain ⟨S1, hS1⟩ : ∃ S1, S1 = S.so 0 69 o1 := ⟨_, rfl⟩
  rw [← hS1] at q1
  obtain ⟨o2, q2, b2⟩ := Q0_put1 (G := G) (F := F) (S := S1) (x := 2) h.b3 (by rw [hS1, so_eq]; exact b1)
  obtain ⟨S2, hS2⟩ : ∃ S2, S2 = S1.so 0 69 o2 := ⟨_, rfl⟩
  rw [← hS2] at q2
  rw [tkl_fit (by simp), lsl_fit (by simp), List.nil_append, show lo8 (2 : Int32) = 2 from rfl] at b2
  have f2 : fr [(6, 0), (8, 0), (0, 69), (0, 70)] S S2 := by
    rw [hS2, hS1]
    exact (fr_so (by simp)).trans (fr_so (by simp))
  obtain ⟨S3, q3, f3, b3⟩ := Q8_raise (G := G) (F := F) (S := S2) (ib := 69) (ie := ie) (in_ := in_) (it := 70) X h h.b3 hE hN h.b4 (by decide) (by omega) (by omega) (by rw [hS2, so_eq]; exact b2) (by rw [f2 0 ie (by simp; omega)]; exact be) (by rw [f2 0 in_ (by simp; omega)]; exact bn) (by rw [hS2, so_ne (by omega), hS1, so_ne (by omega)]; exact b70) (by simp) (by omega) hs hnl
  have f3' : fr [(6, 0), (8, 0), (0, 69), (0, 70)] S S3 := f2.trans (f3.mono (by simp))
  obtain ⟨S4, q4, f4, b4⟩ := Q8_raise (G := G) (F := F) (S := S3) (ib := 70) (ie := id_) (in_ := in_) (it := 69) X h h.b4 hD hN h.b3 (by decide) (by omega) (by omega) b3 (by rw [f3' 0 id_ (by simp; omega)]; exact bd) (by rw [f3' 0 in_ (by simp; omega)]; exact bn) (by rw [f3 0 69 (by simp), hS2, so_eq]; exact b2) (by rw [powF_len]; omega) (by omega) hs hnl
  have f4' : fr [(6, 0), (8, 0), (0, 69), (0, 70)] S S4 := f3'.trans (f4.mono (by simp))
  refine ⟨S4, ?_, f4', ⟨_, _, b4⟩, _, _, by rw [f4 0 70 (by simp)]; exact b3⟩
  unfold P_X8_isPair
  rw [h.g3, bO_s, rcv_m h.b3.lo, bO_s, q1, bO_s, h.g3, bO_s, rcv_m h.b3.lo, bO_s, q2, bO_s, h.g3, bO_s, h.g4, bO_s, rcv_m h.1, bO_s, q3, bO_s, h.g4, bO_s, h.g3, bO_s, rcv_m h.1, bO_s, q4, bO_s]
  have e0 := Q8_pair_l (G := G) (F := F) (S := S4) h hN (by rw [f4' 0 in_ (by simp; omega)]; exact bn) b4 (powF_len _ _ _) hn0 (by omega) (n.length - 1) 0 F (by omega) (by omega) (fun q hq => absurd hq (by omega))
  refine e0.trans ?_
  unfold rpF
  by_cases c : beN (powF (powF [2] e n) d n) = 2
  · rw [if_pos c, if_pos (decide_eq_true c)]
  · rw [if_neg c, if_neg (by rw [decide_eq_false c]; decide)]
end PAIR
