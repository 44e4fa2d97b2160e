/-- lengths of the model's arrays, by field -/
def mLen : Nat → Nat
  | 0 => 8192
  | 2 => 65536
  | 3 => 8
  | 4 => 8192
  | 6 => 1200
  | 7 => 1200
  | 8 => 1200
  | 9 => 1200
  | 10 => 1200
  | 11 => 1200
  | 12 => 1200
  | 13 => 1200
  | 14 => 1200
  | 15 => 16400
  | 16 => 2
  | 27 => 8300
  | 30 => 8200
  | 31 => 64
  | 32 => 8
  | 33 => 80
  | 34 => 8
  | 35 => 64
  | 36 => 33100
  | 38 => 25000
  | 40 => 128
  | 41 => 256
  | 42 => 256
  | 43 => 240
  | 45 => 16
  | 46 => 16
  | 47 => 16
  | 48 => 80
  | 49 => 8300
  | 51 => 64
  | 52 => 16
  | 60 => 34
  | 61 => 34
  | 62 => 128
  | 63 => 32
  | 64 => 32
  | 65 => 64
  | 66 => 34
  | 67 => 32
  | 68 => 34
  | 69 => 34
  | 70 => 34
  | 71 => 34
  | 72 => 34
  | 74 => 34
  | 75 => 34
  | 76 => 34
  | 77 => 34
  | 78 => 34
  | 79 => 64
  | 80 => 64
  | 81 => 128
  | 82 => 128
  | 83 => 16
  | 84 => 16
  | 85 => 2048
  | 86 => 16
  | 87 => 2048
  | 88 => 16
  | 89 => 2048
  | 90 => 16
  | 91 => 16
  | 92 => 131200
  | 93 => 16
  | 94 => 131200
  | 95 => 16
  | 96 => 8200
  | 97 => 8200
  | 98 => 8200
  | 107 => 64
  | 108 => 8200
  | 109 => 8200
  | 112 => 8200
  | 114 => 32
  | 115 => 64
  | 116 => 34
  | 117 => 34
  | 118 => 34
  | 119 => 8300
  | 121 => 60000
  | 123 => 6
  | 124 => 8200
  | 125 => 64
  | 126 => 8200
  | 128 => 8200
  | 130 => 64
  | 131 => 32
  | 132 => 8200
  | 133 => 8200
  | _ => 0
def modLen : Nat → Nat
  | 0 => 34
  | 3 => 34
  | 4 => 34
  | 5 => 70
  | 6 => 34
  | 7 => 34
  | 8 => 34
  | _ => 0
/-! 0=tape 1=tapeSize 2=rows 3=sizes 4=out 5=outSize 6=vKind 7=vIn 8=vPlace 9=vAt 10=vMany 11=vFrom 12=vSize 13=vNameFrom 14=vNameSize 15=pool 16=counts 17=hand 18=hasText 19=src 20=srcAt 21=srcSize 22=pos 23=fault 24=bank 25=poolTop 26=deep 27=draft 28=drafted 29=letterFault 30=decoded 31=w32 32=h32 33=w64 34=h64 35=digest 36=mass 37=massSize 38=message 39=messageSize 40=pad 41=box 42=backBox 43=keyBytes 44=keyRounds 45=cell 46=turnedCell 47=one 48=wrapped 49=content 50=contentSize 51=mark 52=counter 53=productHigh 54=productLow 55=hashHigh 56=hashLow 57=free 58=field 59=orders 60=x1 61=x2 62=big 63=prime 64=orderBytes 65=base 66=curveB 67=lessTwo 68=pX 69=pY 70=qX 71=qY 72=qZ 73=isNowhere 74=a1 75=a2 76=a3 77=a4 78=a5 79=point 80=derived 81=signed 82=masked 83=isKey 84=kty 85=keyA 86=keyASize 87=keyE 88=keyESize 89=keyD 90=keyDSize 91=use 92=kid 93=kidSize 94=algName 95=algSize 96=partA 97=partB 98=partC 99=sizeA 100=sizeB 101=sizeC 102=headAlg 103=headEnc 104=isBare 105=headKid 106=headKidSize 107=fresh 108=uBytes 109=vBytes 110=uSize 111=vSize0 112=sig 113=sigSize 114=scalar 115=sumPoint 116=z1 117=r1 118=s1 119=headBytes 120=headSize 121=said 122=saidSize 123=points 124=payloadBytes 125=contentKey 126=sealedKey 127=sealedKeySize 128=beginning 129=beginningSize 130=shared 131=names 132=sealedContent 133=marked -/
/-! THE MODEL'S ARRAYS OF BYTES -/
def sb (x : UInt8) : Int32 := x.toInt8.toInt32
theorem sb_lo8 (x : Int32) : x.toInt8.toInt32 = sb (lo8 x) := by
  refine congrArg Int8.toInt32 (Int8.toBitVec_inj.mp ?_)
  rw [Int32.toBitVec_toInt8]
  show _ = (x.toBitVec.setWidth 8)
  exact BitVec.signExtend_eq_setWidth_of_le _ (by decide)
theorem lo8_sb (x : UInt8) : lo8 (sb x) = x := by
  have h : ∀ n, n < 256 → lo8 (sb (UInt8.ofNat n)) = UInt8.ofNat n := by decide +kernel
  have := h x.toNat x.toNat_lt
  rwa [UInt8.ofNat_toNat] at this
theorem sb_and (x : UInt8) : sb x &&& 255 = b32 x := by rw [and255, lo8_sb]
theorem sb_sb (x : UInt8) : (sb x).toInt8.toInt32 = sb x := by rw [sb_lo8, lo8_sb]
/-- the model stands: its object, its arrays, their lengths -/
abbrev isM (W : WR) : Prop := W.live (.o 13 0) = true ∧ (∀ k, 0 < mLen k → W.live (.a 13 0 k) = true) ∧ (∀ k, 0 < mLen k → W.r 13 0 k = some (.a 13 0 k)) ∧ ∀ k, 0 < mLen k → W.n (.a 13 0 k) = mLen k
theorem isM.lo {W : WR} (h : isM W) : W.live (.o 13 0) = true := h.1
theorem isM.la {W : WR} (h : isM W) : ∀ k, 0 < mLen k → W.live (.a 13 0 k) = true := h.2.1
theorem isM.r {W : WR} (h : isM W) : ∀ k, 0 < mLen k → W.r 13 0 k = some (.a 13 0 k) := h.2.2.1
theorem isM.n {W : WR} (h : isM W) : ∀ k, 0 < mLen k → W.n (.a 13 0 k) = mLen k := h.2.2.2
/-- the bytes in field k -/
def mB (o : Ob) (k : Nat) (β : Nat → UInt8) : Prop := o.a k = fun j => sb (β j)
/-- bytes written from a place on -/
def wrB (β : Nat → UInt8) (p : Nat) (ys : List UInt8) : Nat → UInt8 := fun j => if p ≤ j ∧ j < p + ys.length then ys.getD (j - p) 0 else β j
/-- n bytes read from a place on -/
def rdB (β : Nat → UInt8) (p n : Nat) : List UInt8 := (List.range n).map fun j => β (p + j)
theorem rdB_len (β : Nat → UInt8) (p n : Nat) : (rdB β p n).length = n := by simp [rdB]
theorem rdB_at {β : Nat → UInt8} {p n j : Nat} (h : j < n) : (rdB β p n)[j]? = some (β (p + j)) := by simp [rdB, h]
theorem rdB_wrB (β : Nat → UInt8) (p : Nat) (ys : List UInt8) : rdB (wrB β p ys) p ys.length = ys := by
  apply List.ext_getElem?
  intro j
  by_cases h : j < ys.length
  · rw [rdB_at h, List.getElem?_eq_getElem h]
    simp [wrB, h]
  · rw [List.getElem?_eq_none (by rw [rdB_len]; omega), List.getElem?_eq_none (by omega)]
theorem rdB_off {β : Nat → UInt8} {p q n : Nat} {ys : List UInt8} (h : q + n ≤ p ∨ p + ys.length ≤ q) : rdB (wrB β p ys) q n = rdB β q n := by
  unfold rdB
  apply List.map_congr_left
  intro j hj
  rw [List.mem_range] at hj
  unfold wrB
  rw [if_neg (by omega)]
theorem wrB_nil (β : Nat → UInt8) (p : Nat) : wrB β p [] = β := by
  funext j
  unfold wrB
  rw [if_neg (by simp only [List.length_nil]; omega)]
theorem wrB_snoc (β : Nat → UInt8) (p : Nat) (ys : List UInt8) (y : UInt8) : wrB β p (ys ++ [y]) = va_up (wrB β p ys) (p + ys.length) y := by
  funext j
  show (if p ≤ j ∧ j < p + (ys ++ [y]).length then (ys ++ [y]).getD (j - p) 0 else β j) = if j = p + ys.length then y else if p ≤ j ∧ j < p + ys.length then ys.getD (j - p) 0 else β j
  by_cases h1 : j = p + ys.length
  · subst h1
    simp
  · rw [if_neg h1, List.length_append]
    by_cases h2 : p ≤ j ∧ j < p + ys.length
    · rw [if_pos (c := p ≤ j ∧ j < p + ys.length) h2, if_pos ⟨h2.1, by omega⟩]
      simp only [List.getD_eq_getElem?_getD]
      rw [List.getElem?_append_left (by omega)]
    · rw [if_neg (c := p ≤ j ∧ j < p + ys.length) h2, if_neg (by simp only [List.length_singleton]; omega)]
section MDL
variable {W : WR} {S : ST} {G : mG} {F : Nat}
theorem isM.gI (h : isM W) (k : Nat) (q : (kdF 13)[k]? = some 0) : gfI (mem W S) (W.ad (.o 13 0)) 13 k = some ((S 13 0).f k) := gfI_m h.lo q
theorem isM.gR (h : isM W) (k : Nat) (q : (kdF 13)[k]? = some 2) (hk : 0 < mLen k) : gfR (mem W S) (W.ad (.o 13 0)) 13 k = some (W.ad (.a 13 0 k)) := gfR_m h.lo q (h.r k hk)
theorem isM.pI (h : isM W) (k : Nat) (v : Int32) (q : (kdF 13)[k]? = some 0) : pfv (mem W S) (W.ad (.o 13 0)) 13 k (.int v) = some (mem W (S.so 13 0 ((S 13 0).sf k v))) := pfI_m h.lo q
theorem isM.aB (h : isM W) {k j : Nat} {β : Nat → UInt8} (q : (kdA 13)[k]? = some 1) (hb : mB (S 13 0) k β) (hj : j < mLen k) (hl : mLen k < 2 ^ 31) : aI G (mem W S) 1 (W.ad (.a 13 0 k)) (Int32.ofNat j) = some (sb (β j)) := by
  have hk : 0 < mLen k := by omega
  rw [aI_m (h.la k hk) q (by decide) (by decide) (by rw [h.n k hk]; exact inB_n hj hl), n_at (by omega), hb]
theorem isM.aN (h : isM W) {k j : Nat} (q : (kdA 13)[k]? = some 0) (hj : j < mLen k) (hl : mLen k < 2 ^ 31) : aI G (mem W S) 0 (W.ad (.a 13 0 k)) (Int32.ofNat j) = some ((S 13 0).a k j) := by
  have hk : 0 < mLen k := by omega
  rw [aI_m (h.la k hk) q (by decide) (by decide) (by rw [h.n k hk]; exact inB_n hj hl), n_at (by omega)]
theorem isM.sB (h : isM W) {k j : Nat} {β : Nat → UInt8} {y : UInt8} (q : (kdA 13)[k]? = some 1) (hb : mB (S 13 0) k β) (hj : j < mLen k) (hl : mLen k < 2 ^ 31) : sI (mem W S) 1 (W.ad (.a 13 0 k)) (Int32.ofNat j) (sb y) = some (mem W (S.so 13 0 ((S 13 0).sA k (fun j' => sb (va_up β j y j'))))) := by
  have hk : 0 < mLen k := by omega
  rw [sI_m (h.la k hk) q (by decide) (by decide) (by rw [h.n k hk]; exact inB_n hj hl), n_at (by omega), hb]
  congr 4
  funext j'
  unfold upd va_up
  split <;> rfl
theorem isM.sN (h : isM W) {k j : Nat} {v : Int32} (q : (kdA 13)[k]? = some 0) (hj : j < mLen k) (hl : mLen k < 2 ^ 31) : sI (mem W S) 0 (W.ad (.a 13 0 k)) (Int32.ofNat j) v = some (mem W (S.so 13 0 ((S 13 0).sA k (upd ((S 13 0).a k) j v)))) := by
  have hk : 0 < mLen k := by omega
  rw [sI_m (h.la k hk) q (by decide) (by decide) (by rw [h.n k hk]; exact inB_n hj hl), n_at (by omega)]
theorem sA_a (o : Ob) (k : Nat) (f : Nat → Int32) : (o.sA k f).a k = f := by simp [sA_at]
theorem sA_a' {o : Ob} {k k' : Nat} {f : Nat → Int32} (h : k' ≠ k) : (o.sA k f).a k' = o.a k' := by simp [sA_at, h]
theorem sA_sA (o : Ob) (k : Nat) (f g : Nat → Int32) : (o.sA k f).sA k g = o.sA k g := by
  have e : va_up (va_up o.a k f) k g = va_up o.a k g := by
    funext j
    unfold va_up
    split <;> rfl
  show Ob.mk o.f o.g (va_up (va_up o.a k f) k g) o.l o.m = _
  rw [e]
  rfl
theorem sA_self {o : Ob} {k : Nat} {f : Nat → Int32} (h : o.a k = f) : o.sA k f = o := by
  have e : va_up o.a k f = o.a := by
    funext j
    unfold va_up
    split
    · rename_i q
      rw [q, h]
    · rfl
  show Ob.mk o.f o.g (va_up o.a k f) o.l o.m = o
  rw [e]
  rfl
theorem mB_sA (o : Ob) (k : Nat) (β : Nat → UInt8) : mB (o.sA k (fun j => sb (β j))) k β := sA_a o k _
theorem mB_sA' {o : Ob} {k k' : Nat} {f : Nat → Int32} {β : Nat → UInt8} (h : k' ≠ k) (hb : mB o k' β) : mB (o.sA k f) k' β := by
  unfold mB
  rw [sA_a' h]
  exact hb
/-- the copying of the model -/
theorem QM_move_l {k1 k2 p1 p2 cnt : Nat} {β1 : Nat → UInt8} (h : isM W) (q1 : (kdA 13)[k1]? = some 1) (q2 : (kdA 13)[k2]? = some 1) (hne : k1 ≠ k2) (l1 : mLen k1 < 2 ^ 30) (l2 : mLen k2 < 2 ^ 30) (b1 : p1 + cnt ≤ mLen k1) (b2 : p2 + cnt ≤ mLen k2) : ∀ (m k n : Nat) (S : ST) (β2 : Nat → UInt8), m < n → k + m = cnt → mB (S 13 0) k1 β1 → mB (S 13 0) k2 β2 → B_X13_move_3 G F n (W.ad (.a 13 0 k1)) (Int32.ofNat p1) (W.ad (.a 13 0 k2)) (Int32.ofNat p2) (Int32.ofNat cnt) (Int32.ofNat k) (mem W S) = some (mem W (S.so 13 0 ((S 13 0).sA k2 (fun j => sb (wrB β2 (p2 + k) (rdB β1 (p1 + k) m) j))))) := by
  intro m
  induction m with
  | zero =>
    intro k n S β2 hn hk hb1 hb2
    obtain ⟨n, rfl⟩ : ∃ q, n = q + 1 := ⟨n - 1, by omega⟩
    rw [B_X13_move_3, if_pos ((n_le (by omega) (by omega)).mpr (by omega))]
    have e : rdB β1 (p1 + k) 0 = [] := rfl
    rw [e, wrB_nil, sA_self hb2, so_self]
  | succ m ih =>
    intro k n S β2 hn hk hb1 hb2
    obtain ⟨n, rfl⟩ : ∃ q, n = q + 1 := ⟨n - 1, by omega⟩
    rw [B_X13_move_3, if_neg (by rw [n_le (by omega) (by omega)]; omega), n_add, n_add, h.aB q1 hb1 (by omega) (by omega), bO_s]
    simp only [sb_sb]
    rw [h.sB q2 hb2 (by omega) (by omega), bO_s, o32, n_add]
    rw [ih (k + 1) n _ (va_up β2 (p2 + k) (β1 (p1 + k))) (by omega) (by omega) (by rw [so_eq]; exact mB_sA' hne hb1) (by rw [so_eq]; exact mB_sA _ _ _), so_so, so_eq, sA_sA]
    congr 5
    funext j
    congr 1
    unfold wrB va_up
    simp only [rdB_len]
    by_cases hj : p2 + (k + 1) ≤ j ∧ j < p2 + (k + 1) + m
    · rw [if_pos hj, if_pos ⟨by omega, by omega⟩]
      simp only [List.getD_eq_getElem?_getD]
      rw [rdB_at (by omega), rdB_at (by omega)]
      simp only [Option.getD_some]
      congr 1
      omega
    · rw [if_neg hj]
      by_cases hj2 : j = p2 + k
      · rw [if_pos hj2, if_pos ⟨by omega, by omega⟩]
        simp only [List.getD_eq_getElem?_getD]
        rw [rdB_at (by omega)]
        simp only [Option.getD_some]
        congr 1
        omega
      · rw [if_neg hj2, if_neg (by omega)]
theorem QM_move {k1 k2 p1 p2 cnt : Nat} {β1 β2 : Nat → UInt8} (X : Cx G F W) (h : isM W) (q1 : (kdA 13)[k1]? = some 1) (q2 : (kdA 13)[k2]? = some 1) (hne : k1 ≠ k2) (l1 : mLen k1 < 2 ^ 30) (l2 : mLen k2 < 2 ^ 30) (b1 : p1 + cnt ≤ mLen k1) (b2 : p2 + cnt ≤ mLen k2) (hc : cnt < 100000) (hb1 : mB (S 13 0) k1 β1) (hb2 : mB (S 13 0) k2 β2) : P_X13_move G F (W.ad (.a 13 0 k1)) (Int32.ofNat p1) (W.ad (.a 13 0 k2)) (Int32.ofNat p2) (Int32.ofNat cnt) (mem W S) = some (mem W (S.so 13 0 ((S 13 0).sA k2 (fun j => sb (wrB β2 p2 (rdB β1 p1 cnt) j))))) := by
  have := X.hF
  exact QM_move_l h q1 q2 hne l1 l2 b1 b2 cnt 0 F S β2 (by omega) (Nat.zero_add _) hb1 hb2
end MDL
