/-! A TOKEN'S PART READ; NAMES IN A LIST: the class -/
/-- the first of names that a text's value says -/
def lsF (J : JT) (o : Option Nat) (f : Nat → Nat) : Nat → Nat → Option Nat
  | 0, _ => none
  | m + 1, a => if sayB J o (str (f a)) = true then some a else lsF J o f m (a + 1)
section RPT
variable {W : WR} {G : mG} {F : Nat} {S : ST} {xs : List UInt8} {l : Bool} {ir : Nat}
theorem Q10_readPart {p it rt : Nat} {ts : List UInt8} {lt : Bool} (X : Cx G F W) (h : isTk W) (T : SPT (S 10 0) xs) (hp : p ≤ (ptA xs).length) (hR : isB W ir 8192) (bx : Byt 8192 (S 0 ir) xs l) (hT : isB W it rt) (bt : Byt rt (S 0 it) ts lt) (hne : ir ≠ it) (hf : fltF (ptX xs p) = none) (hr : (ptX xs p).length * 3 / 4 ≤ rt) : ∃ o, P_X10_readPart G F (W.ad (.o 10 0)) (W.ad (.o 0 ir)) (Int32.ofNat p) (W.ad (.o 0 it)) (mem W S) = some (mem W (S.so 0 it o)) ∧ Byt rt o (dec (ptX xs p)) false := by
  have hl := bx.le
  obtain ⟨p1, p2⟩ := part_le hp
  obtain ⟨o1, g1, b1⟩ := Q0_clear (G := G) (F := F) (S := S) hT bt
  have T1 : SPT ((S.so 0 it o1) 10 0) xs := by rw [so_ne (by omega)]; exact T
  obtain ⟨o2, g2, b2⟩ := Q0_putUnlettered (G := G) (F := F) (S := S.so 0 it o1) (i := it) (i2 := ir) (st := stP (ptA xs) p) (stop := peP xs p) X hT (by rw [so_eq]; exact b1) hR (by rw [so_ne (fun q => hne q.2)]; exact bx) hne p1 p2 (by omega) (flt_none hf)
  rw [so_so] at g2
  have dl : (dec (ptX xs p)).length = (ptX xs p).length * 3 / 4 := dec_len _
  have b2 : Byt rt o2 (tkl rt [] (dec (ptX xs p))) (lsl rt [] (dec (ptX xs p)) false) := b2
  rw [tkl_fit (by rw [dl]; simp; omega), lsl_fit (by rw [dl]; simp; omega), List.nil_append] at b2
  refine ⟨o2, ?_, b2⟩
  unfold P_X10_readPart
  rw [rcv_m hT.lo, bO_s, g1, bO_s, rcv_m h.1, bO_s, Q10_start h T1 hp, bP_s, rcv_m h.1, bO_s, Q10_end h T1 hp, bP_s, rcv_m hT.lo, bO_s, g2, bO_s]
end RPT
section LST
variable {W : WR} {G : mG} {F : Nat} {S : ST} {t ip : Nat} {J : JT} {lp : Bool}
theorem Q10_listed_l {n : Option Nat} {from_ many : Nat} (X : Cx G F W) (K : isTx W t ip) (C : TbC (S 9 t) J) (Y : JX J) (bp : Byt 8192 (S 0 ip) J.2.2 lp) (hn : ∀ i, n = some i → i < 2 ^ 31) (hm : from_ + many ≤ 11) : ∀ (m a fuel : Nat), m < fuel → a + m = many → B_X10_listed_3 G F fuel (W.ad (.o 9 t)) (oI n) (Int32.ofNat from_) (Int32.ofNat many) (Int32.ofNat a) (mem W S) = some (oI (lsF J n (fun a => 33 + (from_ + a)) m a), mem W S) := by
  intro m
  induction m with
  | zero =>
    intro a fuel hf ha
    obtain ⟨fuel, rfl⟩ : ∃ q, fuel = q + 1 := ⟨fuel - 1, by omega⟩
    rw [B_X10_listed_3, if_pos ((n_le (by omega) (by omega)).mpr (by omega))]
    rfl
  | succ m ih =>
    intro a fuel hf ha
    obtain ⟨fuel, rfl⟩ : ∃ q, fuel = q + 1 := ⟨fuel - 1, by omega⟩
    rw [B_X10_listed_3, if_neg (fun z => by have := (n_le (by omega) (by omega)).mp z; omega), n_add, Q11_alg (by omega), bP_s, rcv_m K.1, bO_s, Q9_says X K C Y bp (by omega) hn, bP_s]
    show _ = some (oI (if sayB J n (str (33 + (from_ + a))) = true then some a else lsF J n (fun a => 33 + (from_ + a)) m (a + 1)), mem W S)
    by_cases c : sayB J n (str (33 + (from_ + a))) = true
    · rw [if_pos c, if_neg (by decide), if_pos c]
      rfl
    · rw [if_neg c, if_pos rfl, if_neg c, n_i1]
      exact ih (a + 1) fuel (by omega) (by omega)
theorem Q10_listed {n : Option Nat} {from_ many : Nat} (X : Cx G F W) (K : isTx W t ip) (C : TbC (S 9 t) J) (Y : JX J) (bp : Byt 8192 (S 0 ip) J.2.2 lp) (hn : ∀ i, n = some i → i < 2 ^ 31) (hm : from_ + many ≤ 11) : P_X10_listed G F (W.ad (.o 9 t)) (oI n) (Int32.ofNat from_) (Int32.ofNat many) (mem W S) = some (oI (lsF J n (fun a => 33 + (from_ + a)) many 0), mem W S) := by
  have hF := X.hF
  exact Q10_listed_l X K C Y bp hn hm many 0 F (by omega) (by omega)
end LST
