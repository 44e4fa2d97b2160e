def mstrs : List (String × Nat × String) := [("SealedTokens$Curve", 27, "ffffffff00000001000000000000000000000000ffffffffffffffffffffffff"), ("SealedTokens$Curve", 37, "ffffffff00000001000000000000000000000000fffffffffffffffffffffffd"), ("SealedTokens$Curve", 42, "ffffffff00000000ffffffffffffffffbce6faada7179e84f3b9cac2fc632551"), ("SealedTokens$Curve", 47, "ffffffff00000000ffffffffffffffffbce6faada7179e84f3b9cac2fc63254f"), ("SealedTokens$Curve", 86, "5ac635d8aa3a93e7b3ebbd55769886bc651d06b0cc53b0f63bce3c3e27d2604b"), ("SealedTokens$Curve", 92, "6b17d1f2e12c4247f8bce6e563a440f277037d812deb33a0f4a13945d898c296"), ("SealedTokens$Curve", 94, "4fe342e2fe1a7f9b8ee7eb4a7c0f9e162bce33576b315ececbb6406837bf51f5"), ("SealedTokens$Reader", 117, "null"), ("SealedTokens$Reader", 123, "false"), ("SealedTokens$Reader", 125, "true"), ("SealedTokens$Reader", 175, "\\u"), ("SealedTokens$Text", 134, "\\u00"), ("SealedTokens$Text", 118, "null"), ("SealedTokens$Text", 124, "false"), ("SealedTokens$Text", 126, "true"), ("SealedTokens$Bytes", 71, "ABCDEFGHIJKLMNOPQRSTUVWXYZabcdefghijklmnopqrstuvwxyz0123456789-_"), ("SealedTokens$Key", 41, "kty"), ("SealedTokens$Key", 47, "oct"), ("SealedTokens$Key", 53, "RSA"), ("SealedTokens$Key", 55, "EC"), ("SealedTokens$Key", 60, "kid"), ("SealedTokens$Key", 65, "use"), ("SealedTokens$Key", 67, "alg"), ("SealedTokens$Key", 68, "d"), ("SealedTokens$Key", 81, "k"), ("SealedTokens$Key", 104, "n"), ("SealedTokens$Key", 106, "e"), ("SealedTokens$Key", 112, "crv"), ("SealedTokens$Key", 114, "P-256"), ("SealedTokens$Key", 116, "x"), ("SealedTokens$Key", 118, "y"), ("SealedTokens$Key", 134, "sig"), ("SealedTokens$Key", 136, "enc"), ("SealedTokens", 467, "HS256"), ("SealedTokens", 469, "HS512"), ("SealedTokens", 471, "RS256"), ("SealedTokens", 473, "PS256"), ("SealedTokens", 475, "ES256"), ("SealedTokens", 477, "dir"), ("SealedTokens", 479, "A128KW"), ("SealedTokens", 481, "A256KW"), ("SealedTokens", 483, "RSA-OAEP-256"), ("SealedTokens", 485, "ECDH-ES"), ("SealedTokens", 487, "ECDH-ES+A128KW"), ("SealedTokens$Key", 179, "{\"k\":\""), ("SealedTokens$Key", 188, "\",\"kty\":\"oct\"}"), ("SealedTokens$Key", 190, "{\"e\":\""), ("SealedTokens$Key", 192, "\",\"kty\":\"RSA\",\"n\":\""), ("SealedTokens$Key", 194, "\"}"), ("SealedTokens$Key", 196, "{\"crv\":\"P-256\",\"kty\":\"EC\""), ("SealedTokens$Key", 205, ",\"x\":\""), ("SealedTokens$Key", 207, "\",\"y\":\""), ("SealedTokens$Token", 249, "{\"alg\":\""), ("SealedTokens$Token", 254, ",\"kid\":"), ("SealedTokens$Token", 172, "crit"), ("SealedTokens$Token", 124, "kid"), ("SealedTokens$Token", 133, "alg"), ("SealedTokens$Token", 177, "b64"), ("SealedTokens$Token", 260, ",\"enc\":\""), ("SealedTokens", 489, "A128CBC-HS256"), ("SealedTokens", 491, "A256CBC-HS512"), ("SealedTokens", 493, "A128GCM"), ("SealedTokens", 495, "A256GCM"), ("SealedTokens$Token", 262, ",\"epk\":{\"kty\":\"EC\",\"crv\":\"P-256\""), ("SealedTokens$Token", 268, ",\"apu\":\""), ("SealedTokens$Token", 274, ",\"apv\":\""), ("SealedTokens$Token", 199, "enc"), ("SealedTokens$Token", 201, "zip"), ("SealedTokens$Token", 211, "epk"), ("SealedTokens$Token", 213, "kty"), ("SealedTokens$Token", 215, "EC"), ("SealedTokens$Token", 224, "apu"), ("SealedTokens$Token", 229, "apv"), ("SealedTokensModel", 713, "ffffffff00000001000000000000000000000000ffffffffffffffffffffffff"), ("SealedTokensModel", 718, "ffffffff00000000ffffffffffffffffbce6faada7179e84f3b9cac2fc632551"), ("SealedTokensModel", 720, "6b17d1f2e12c4247f8bce6e563a440f277037d812deb33a0f4a13945d898c296"), ("SealedTokensModel", 722, "4fe342e2fe1a7f9b8ee7eb4a7c0f9e162bce33576b315ececbb6406837bf51f5"), ("SealedTokensModel", 724, "5ac635d8aa3a93e7b3ebbd55769886bc651d06b0cc53b0f63bce3c3e27d2604b"), ("SealedTokensModel", 430, "\"\\/bfnrtu"), ("SealedTokensModel", 389, "true"), ("SealedTokensModel", 391, "false"), ("SealedTokensModel", 393, "null"), ("SealedTokensModel", 473, "\"\\bfnrt"), ("SealedTokensModel", 475, "\\u00"), ("SealedTokensModel", 800, "kty"), ("SealedTokensModel", 801, "oct"), ("SealedTokensModel", 806, "RSA"), ("SealedTokensModel", 808, "EC"), ("SealedTokensModel", 810, "kid"), ("SealedTokensModel", 815, "use"), ("SealedTokensModel", 816, "alg"), ("SealedTokensModel", 824, "crv"), ("SealedTokensModel", 826, "P-256"), ("SealedTokensModel", 828, "k"), ("SealedTokensModel", 830, "n"), ("SealedTokensModel", 832, "x"), ("SealedTokensModel", 841, "e"), ("SealedTokensModel", 843, "y"), ("SealedTokensModel", 845, "d"), ("SealedTokensModel", 864, "sig"), ("SealedTokensModel", 865, "enc"), ("SealedTokensModel", 873, "{\"k\":\""), ("SealedTokensModel", 879, "\",\"kty\":\"oct\"}"), ("SealedTokensModel", 881, "{\"e\":\""), ("SealedTokensModel", 883, "\",\"kty\":\"RSA\",\"n\":\""), ("SealedTokensModel", 885, "\"}"), ("SealedTokensModel", 887, "{\"crv\":\"P-256\",\"kty\":\"EC\",\"x\":\""), ("SealedTokensModel", 889, "\",\"y\":\""), ("SealedTokensModel", 914, "HS256 HS512 RS256 PS256 ES256 "), ("SealedTokensModel", 982, "{\"alg\":\""), ("SealedTokensModel", 988, ",\"enc\":\""), ("SealedTokensModel", 922, "A128CBC-HS256 A256CBC-HS512 A128GCM A256GCM "), ("SealedTokensModel", 990, ",\"kid\":"), ("SealedTokensModel", 782, "3031300d060960864801650304020105000420"), ("SealedTokensModel", 899, "crit"), ("SealedTokensModel", 904, "zip"), ("SealedTokensModel", 936, "b64"), ("SealedTokensModel", 912, "dir A128KW A256KW RSA-OAEP-256 ECDH-ES ECDH-ES+A128KW "), ("SealedTokensModel", 938, "epk"), ("SealedTokensModel", 940, "apu"), ("SealedTokensModel", 945, "apv"), ("SealedTokensModel", 1061, ",\"epk\":{\"kty\":\"EC\",\"crv\":\"P-256\",\"x\":\""), ("SealedTokensModel", 1063, ",\"apu\":\""), ("SealedTokensModel", 1065, ",\"apv\":\"")]
def mstat : List (String × String × String) := [("SealedTokens$Cipher", "SWAP", "[I"), ("SealedTokens$Digest", "START_256", "[I"), ("SealedTokens$Digest", "START_512", "[J"), ("SealedTokens$Digest", "ROUND_512", "[J"), ("SealedTokens$Digest", "ROUND_256", "[I"), ("SealedTokens", "WAY_KEY", "[I"), ("SealedTokens", "WAY_FIRST", "[I"), ("SealedTokens", "WAY_MARK", "[I"), ("SealedTokens$Rsa", "SHA_256_INFO", "[I"), ("SealedTokensModel", "K512", "[J"), ("SealedTokensModel", "K256", "[I")]
/-! THE MEMORY LAYER: the cells as one function from addresses; a judgement WW over it; a row an instruction. -/
abbrev mD : Type := va_G × (Nat → ClassId)
def mcl : List vw_C := [(RX0, TX0, 3), (RX1, TX1, 6), (RX2, TX2, 9), (RX3, TX3, 16), (RX4, TX4, 11), (RX5, TX5, 10), (RX6, TX6, 8), (RX7, TX7, 9), (RX8, TX8, 6), (RX9, TX9, 11), (RX10, TX10, 16), (RX11, TX11, 18), (RX12, TX12, 9), (RX13, TX13, 134)]
def mty : Nat → FieldType := fun k => match k with
  | 0 => .int
  | 1 => .byte
  | 2 => .long
  | 3 => .boolean
  | 4 => .object "SealedTokens$Bytes"
  | 5 => .object "SealedTokens$Key"
  | _ => .array .long
def mtys (D : mD) : List (ClassId × FieldType) := [(D.2 0, mty 0), (D.2 1, mty 1), (D.2 2, mty 2), (D.2 3, mty 3), (D.2 4, mty 4), (D.2 5, mty 5), (D.2 6, mty 6)]
theorem mtys_at (D : mD) {k : Nat} (h : k < 7) : (mtys D)[k]? = some (D.2 k, mty k) := by
  rcases (show k = 0 ∨ k = 1 ∨ k = 2 ∨ k = 3 ∨ k = 4 ∨ k = 5 ∨ k = 6 by omega) with rfl | rfl | rfl | rfl | rfl | rfl | rfl <;> rfl
/-- a String constant: its fields value and coder; nobody writes it -/
def mStr (A : Nat → Prop) (a : Nat) (fs : List Value) (U : State) (H : Heap) : Prop :=
  va_O "java/lang/String" a A U H ∧ ∃ (v : Nat) (cd : Int32), fs = [.ref v, .int cd] ∧ va_OF "java/lang/String" "value" "[B" (.ref v) a A U H ∧ va_OF "java/lang/String" "coder" "B" (.int cd) a A U H
/-- a cell of the memory as the machine has it -/
def mAt (D : mD) (A : Nat → Prop) (a : Nat) (e : mE) (H : Heap) : Prop := match e with
  | .inl (k, x) => k < 7 ∧ H[a]? = some (vp_cell (D.2 k) x) ∧ A a
  | .inr (c, fs) => c < 14 ∧ va_at D.1 mcl (a, .inr (c, fs)) H ∧ A a
theorem mStr.moved {A : Nat → Prop} {a : Nat} {cs : List Value} {u U : State} {H : Heap} (hvm : u.vm.Alike U.vm) (h : mStr A a cs u H) : mStr A a cs U H := by
  obtain ⟨h1, v, cd, h2, h3, h4⟩ := h
  exact ⟨h1.moved hvm, v, cd, h2, h3.moved hvm, h4.moved hvm⟩
theorem mStr.kept {A : Nat → Prop} {a : Nat} {cs : List Value} {U : State} {H H1 : Heap} (h : mStr A a cs U H) (hq : ∀ q : Nat, q < H.size → ¬ A q → H1[q]? = H[q]?) : mStr A a cs U H1 := by
  obtain ⟨h1, v, cd, h2, h3, h4⟩ := h
  exact ⟨h1.kept hq, v, cd, h2, h3.kept hq, h4.kept hq⟩
theorem mAt.kept {D : mD} {A : Nat → Prop} {a : Nat} {e : mE} {H H1 : Heap} (h : mAt D A a e H) (h1 : H1[a]? = H[a]?) : mAt D A a e H1 := by
  match e with
  | .inl (k, x) =>
    obtain ⟨z, h, hA⟩ := h
    exact ⟨z, h1.trans h, hA⟩
  | .inr (c, fs) =>
    obtain ⟨z, h, hA⟩ := h
    exact ⟨z, h.kept h1, hA⟩
theorem mAt.lt {D : mD} {A : Nat → Prop} {a : Nat} {e : mE} {H : Heap} (h : mAt D A a e H) : a < H.size := by
  match e with
  | .inl (k, x) => exact (Array.getElem?_eq_some_iff.mp h.2.1).1
  | .inr (c, fs) => exact va_at.lt h.2.1
def mHold (D : mD) (A : Nat → Prop) (M : mM) (H : Heap) : Prop := ∀ (a : Nat) (e : mE), M a = some e → mAt D A a e H
/-- one cell of ours has changed -/
theorem mHold.set {D : mD} {A : Nat → Prop} {M : mM} {H H1 : Heap} {b : Nat} {e : mE} (h : mHold D A M H) (he : mAt D A b e H1) (oq : ∀ q : Nat, q ≠ b → H1[q]? = H[q]?) : mHold D A (va_up M b (some e)) H1 := by
  intro a e' q
  by_cases hab : a = b
  · subst hab
    rw [va_up_self] at q
    cases q
    exact he
  · rw [va_up_ne _ _ hab] at q
    exact (h a e' q).kept (oq a hab)
/-- the words that a callee may be given; and the links to private members of nest mates -/
def mtbl : List Cond := lw_tbl.filter goodWord
def mnM : List (String × Nat × MethodName × String) := [("SealedTokens", 39, ⟨"SealedTokens$Text", "<init>", "()V"⟩, "SealedTokens"), ("SealedTokens", 62, ⟨"SealedTokens$Key", "<init>", "()V"⟩, "SealedTokens"), ("SealedTokens", 69, ⟨"SealedTokens$Digest", "<init>", "()V"⟩, "SealedTokens"), ("SealedTokens", 108, ⟨"SealedTokens$Token", "<init>", "()V"⟩, "SealedTokens"), ("SealedTokens$Curve", 19, ⟨"SealedTokens$Modulus", "<init>", "()V"⟩, "SealedTokens"), ("SealedTokens$Curve", 110, ⟨"SealedTokens$Reader", "hexValue", "(I)I"⟩, "SealedTokens"), ("SealedTokens$Key", 140, ⟨"SealedTokens", "algName", "(I)Ljava/lang/String;"⟩, "SealedTokens"), ("SealedTokens$Rsa", 9, ⟨"SealedTokens$Modulus", "<init>", "()V"⟩, "SealedTokens"), ("SealedTokens$Token", 192, ⟨"SealedTokens", "algName", "(I)Ljava/lang/String;"⟩, "SealedTokens"), ("SealedTokens$Token", 196, ⟨"SealedTokens", "wayName", "(I)Ljava/lang/String;"⟩, "SealedTokens"), ("SealedTokensModel", 121, ⟨"SealedTokensModel$Mod", "<init>", "()V"⟩, "SealedTokensModel")]
def mnF : List (String × Nat × String × String × String × String) := [("SealedTokens$Content", 64, "SealedTokens", "WAY_MARK", "[I", "SealedTokens"), ("SealedTokens$Content", 67, "SealedTokens", "WAY_KEY", "[I", "SealedTokens"), ("SealedTokens$Key", 176, "SealedTokens", "WAY_KEY", "[I", "SealedTokens"), ("SealedTokens$Token", 94, "SealedTokens", "WAY_FIRST", "[I", "SealedTokens"), ("SealedTokens$Token", 100, "SealedTokens", "WAY_MARK", "[I", "SealedTokens"), ("SealedTokens$Token", 279, "SealedTokens", "WAY_KEY", "[I", "SealedTokens"), ("SealedTokensModel", 729, "SealedTokensModel$Mod", "m", "[I", "SealedTokensModel"), ("SealedTokensModel", 753, "SealedTokensModel$Mod", "unit", "[I", "SealedTokensModel")]
def mAO (ty : FieldType) (U : State) : Prop := (Cond.arrayOver ty).before #[] U = true
theorem mAO_spec {U : State} (h : mAO (.array .long) U) : ∃ (comp c : Nat) (k : Class), U.vm.findClass (FieldType.array .long).toString = some comp ∧ (U.vm.classes.findIdx? fun (x : Class) => match x.kind with | .array component _ => component == comp | _ => false) = some c ∧ U.vm.classes[c]? = some k ∧ k.kind = .array comp (.array .long) ∧ U.vm.findClass ("[" ++ (FieldType.array .long).toString) = some c := by
  unfold mAO Cond.before at h
  simp only [Cond.holds, Cond.value, beq_iff_eq] at h
  cases hc : U.vm.findClass (FieldType.array .long).toString with
  | none => simp [hc] at h
  | some comp =>
    simp only [hc, Option.bind_some, Option.bind_eq_some_iff, Option.map_eq_some_iff] at h
    obtain ⟨c, hi, k, hk, hb⟩ := h
    obtain ⟨hlt, hp, -⟩ := Array.findIdx?_eq_some_iff_getElem.mp hi
    have hkk : U.vm.classes[c] = k := (Array.getElem?_eq_some_iff.mp hk).2
    rw [hkk] at hp
    cases hkind : k.kind with
    | array component ty =>
      rw [hkind] at hb hp
      simp at hb hp
      exact ⟨comp, c, k, rfl, hi, hk, by rw [hkind, hp, hb.1], hb.2⟩
    | _ => rw [hkind] at hb; simp at hb
theorem mAO.moved {u U : State} (hvm : u.vm.Alike U.vm) (h : mAO (.array .long) u) : mAO (.array .long) U := by
  obtain ⟨comp, c, k, h1, h2, h3, h4, h5⟩ := mAO_spec h
  obtain ⟨k', hk', he⟩ := hvm.2.2 _ _ h3
  have hi : (U.vm.classes.findIdx? fun (x : Class) => match x.kind with | .array component _ => component == comp | _ => false) = some c := by
    have e1 := va_idx_bare U.vm comp
    have e2 := va_idx_bare u.vm comp
    rw [hvm.bare_eq] at e1
    exact e1.symm.trans (e2.trans h2)
  have hkind : k'.kind = .array comp (.array .long) := by rw [he]; exact h4
  have f1 : U.vm.findClass (FieldType.array .long).toString = some comp := by rw [hvm.findClass]; exact h1
  have f2 : U.vm.findClass ("[" ++ (FieldType.array .long).toString) = some c := by rw [hvm.findClass]; exact h5
  unfold mAO Cond.before Cond.holds
  simp only [Cond.value]
  rw [f1, Option.bind_some]
  refine (congrArg (fun o : Option Nat => (o.bind (fun c => (U.vm.classes[c]?).map fun (k : Class) => match k.kind with | .array _ ty => decide (ty = FieldType.array .long) && decide (U.vm.findClass ("[" ++ (FieldType.array .long).toString) = some c) | _ => false) == some true)) hi).trans ?_
  simp [hk', hkind, f2]
/-- the String constants (class, entry, text) and the static arrays (class, field, descriptor) whose addresses G knows, what stands there, and the links -/
def mRO (G : mG) (A : Nat → Prop) (U : State) (H : Heap) : Prop := (∀ a fs, G.2.1 a = some fs → mStr A a fs U H) ∧ (∀ a n f, G.2.2.1 a = some (n, f) → va_T .int a n (fun j => .int (f j)) A U H) ∧ (∀ a n f, G.2.2.2.1 a = some (n, f) → va_T .byte a n (fun j => .int (f j)) A U H) ∧ ∀ a n f, G.2.2.2.2 a = some (n, f) → va_T .long a n (fun j => .long (f j)) A U H
theorem mRO.moved {G : mG} {A : Nat → Prop} {u U : State} {H : Heap} (hvm : u.vm.Alike U.vm) (h : mRO G A u H) : mRO G A U H := ⟨fun a fs q => (h.1 a fs q).moved hvm, fun a n f q => (h.2.1 a n f q).moved hvm, fun a n f q => (h.2.2.1 a n f q).moved hvm, fun a n f q => (h.2.2.2 a n f q).moved hvm⟩
theorem mRO.kept {G : mG} {A : Nat → Prop} {U : State} {H H1 : Heap} (h : mRO G A U H) (hq : ∀ q : Nat, q < H.size → ¬ A q → H1[q]? = H[q]?) : mRO G A U H1 := ⟨fun a fs q => (h.1 a fs q).kept hq, fun a n f q => (h.2.1 a n f q).kept hq, fun a n f q => (h.2.2.1 a n f q).kept hq, fun a n f q => (h.2.2.2 a n f q).kept hq⟩
def mEnv (G : mG) (A : Nat → Prop) (U : State) : Prop := (∀ (j : Nat) (q : String × Nat × String), mstrs[j]? = some q → vk_R q.1 q.2.1 q.2.2 (G.1 j) U) ∧ (∀ (j : Nat) (q : String × String × String), mstat[j]? = some q → va_Z q.1 q.2.1 q.2.2 (.ref (G.1 (1000 + j))) A U U.heap) ∧ (∀ q ∈ mnM, va_Nw (.methodLinkNest q.1 q.2.1 q.2.2.1 q.2.2.2) U) ∧ (∀ q ∈ mnF, va_Nw (.fieldLinkNest q.1 q.2.1 q.2.2.1 q.2.2.2.1 q.2.2.2.2.1 q.2.2.2.2.2) U) ∧ va_AO "SealedTokens$Bytes" U ∧ va_AO "SealedTokens$Key" U ∧ va_Z "java/lang/String" "COMPACT_STRINGS" "Z" (.int 1) A U U.heap ∧ va_Zq "jdk/internal/util/Preconditions" "SIOOBE_FORMATTER" "Ljava/util/function/BiFunction;" A U U.heap ∧ mAO (.array .long) U ∧ mRO G A U U.heap
/-- all that stays while a method runs, in one -/
abbrev mXT : Type := mD × mG × (Nat → Prop) × Program × Launch × Env × Room × State × MethodId × Array Value × List Frame × Method × Code × (State → Prop)
def mCX (G : mG) (own : String) (cc : ByteArray) (nL : Nat) (ret : Option FieldType) (nm : String) (rm : Room) (x : mXT) : Prop := match x with
  | (D, G', A, p, _, _, R, s, m, args, _, meth, c, _) => G' = G ∧ R = rm ∧ p.tables.exec = Jvm.exec ∧ c.code = cc ∧ c.maxLocals = nL ∧ meth.sig.returnType = ret ∧ meth.locks = false ∧ meth.name = nm ∧ s.vm.findClass own = some m.cls ∧ (∀ w ∈ mtbl, w.before args s = true) ∧ va_K D.1 mcl (mtys D) s ∧ (∀ q, s.heap.size ≤ q → A q) ∧ mEnv G A s
/-- z: the heap's size, the cells and the slots that the method has made so far -/
def WW (x : mXT) (z : Nat × Nat × Nat) (M : mM) (pc : Nat) (lv : List (Nat × Value)) (st : List Value) : Prop := match x with
  | (D, _, A, p, l, e, R, s, m, args, below, meth, c, Q) => ∀ (H : Heap) (locs : List Loc) (la : Array Slot), H.size = z.1 → lv_has la c.maxLocals lv → mHold D A M H → va_S A s.heap H locs → W p l e R s m args below meth c H locs z.2.1 z.2.2 Q (F0 m pc la st)
/-! pure steps on the memory -/
section MROWS
variable {G : mG} {own : String} {cc : ByteArray} {nL : Nat} {ret : Option FieldType} {nm : String} {rm : Room} {x : mXT} {z : Nat × Nat × Nat} {M : mM} {lv : List (Nat × Value)} {st : List Value}
theorem ww_iconst (pc : Nat) (X : mCX G own cc nL ret nm rm x) {n : Int} {v : Int32} (d : decode cc pc = .ok (.iconst n, 1)) (hv : Int32.ofInt n = v) (k : WW x z M (pc + 1) lv (.int v :: st)) : WW x z M pc lv (st) := by
  obtain ⟨D, G', A, p, l, e, R, s, m, args, below, meth, c, Q⟩ := x
  obtain ⟨hG, hrm, hx, hb, hml, hr, hlk, hnm, hown, hts, hK, hA, hE⟩ := X
  intro H locs la hz hl hM hS
  exact lv_iconst hx hb d hv (k H locs la hz hl hM hS)
theorem ww_bipush (pc : Nat) (X : mCX G own cc nL ret nm rm x) {n : Int} {v : Int32} (d : decode cc pc = .ok (.bipush n, 2)) (hv : (Int8.ofInt n).toInt32 = v) (k : WW x z M (pc + 2) lv (.int v :: st)) : WW x z M pc lv (st) := by
  obtain ⟨D, G', A, p, l, e, R, s, m, args, below, meth, c, Q⟩ := x
  obtain ⟨hG, hrm, hx, hb, hml, hr, hlk, hnm, hown, hts, hK, hA, hE⟩ := X
  intro H locs la hz hl hM hS
  exact lv_bipush hx hb d hv (k H locs la hz hl hM hS)
theorem ww_sipush (pc : Nat) (X : mCX G own cc nL ret nm rm x) {n : Int} {v : Int32} (d : decode cc pc = .ok (.sipush n, 3)) (hv : (Int16.ofInt n).toInt32 = v) (k : WW x z M (pc + 3) lv (.int v :: st)) : WW x z M pc lv (st) := by
  obtain ⟨D, G', A, p, l, e, R, s, m, args, below, meth, c, Q⟩ := x
  obtain ⟨hG, hrm, hx, hb, hml, hr, hlk, hnm, hown, hts, hK, hA, hE⟩ := X
  intro H locs la hz hl hM hS
  exact lv_sipush hx hb d hv (k H locs la hz hl hM hS)
theorem ww_lconst (pc : Nat) (X : mCX G own cc nL ret nm rm x) {n : Fin 2} {v : Int64} (d : decode cc pc = .ok (.lconst n, 1)) (hv : Int64.ofNat (n : Nat) = v) (k : WW x z M (pc + 1) lv (.long v :: st)) : WW x z M pc lv (st) := by
  obtain ⟨D, G', A, p, l, e, R, s, m, args, below, meth, c, Q⟩ := x
  obtain ⟨hG, hrm, hx, hb, hml, hr, hlk, hnm, hown, hts, hK, hA, hE⟩ := X
  intro H locs la hz hl hM hS
  exact lv_lconst hx hb d hv (k H locs la hz hl hM hS)
theorem ww_ldc (pc : Nat) (X : mCX G own cc nL ret nm rm x) {i : Nat} {v : Int32} (d : decode cc pc = .ok (.ldc i, 2)) (hc : Jvm.Cond.constant own i v ∈ mtbl) (k : WW x z M (pc + 2) lv (.int v :: st)) : WW x z M pc lv (st) := by
  obtain ⟨D, G', A, p, l, e, R, s, m, args, below, meth, c, Q⟩ := x
  obtain ⟨hG, hrm, hx, hb, hml, hr, hlk, hnm, hown, hts, hK, hA, hE⟩ := X
  intro H locs la hz hl hM hS
  exact lv_ldc hx hb hown (hts _ hc) d (k H locs la hz hl hM hS)
theorem ww_ldcw (pc : Nat) (X : mCX G own cc nL ret nm rm x) {i : Nat} {v : Int32} (d : decode cc pc = .ok (.ldc_w i, 3)) (hc : Jvm.Cond.constant own i v ∈ mtbl) (k : WW x z M (pc + 3) lv (.int v :: st)) : WW x z M pc lv (st) := by
  obtain ⟨D, G', A, p, l, e, R, s, m, args, below, meth, c, Q⟩ := x
  obtain ⟨hG, hrm, hx, hb, hml, hr, hlk, hnm, hown, hts, hK, hA, hE⟩ := X
  intro H locs la hz hl hM hS
  exact lv_ldcw hx hb hown (hts _ hc) d (k H locs la hz hl hM hS)
theorem ww_ldc2 (pc : Nat) (X : mCX G own cc nL ret nm rm x) {i : Nat} {v : Int64} (d : decode cc pc = .ok (.ldc2_w i, 3)) (hc : Jvm.Cond.constantLong own i v ∈ mtbl) (k : WW x z M (pc + 3) lv (.long v :: st)) : WW x z M pc lv (st) := by
  obtain ⟨D, G', A, p, l, e, R, s, m, args, below, meth, c, Q⟩ := x
  obtain ⟨hG, hrm, hx, hb, hml, hr, hlk, hnm, hown, hts, hK, hA, hE⟩ := X
  intro H locs la hz hl hM hS
  exact lv_ldc2 hx hb hown (hts _ hc) d (k H locs la hz hl hM hS)
theorem ww_iload_n (pc : Nat) (X : mCX G own cc nL ret nm rm x) {q : Fin 4} {i : Nat} {v : Int32} (d : decode cc pc = .ok (.iload_n q, 1)) (kk : Nat) (hi : (q : Nat) = i) (h : lv[kk]? = some (i, .int v)) (k : WW x z M (pc + 1) lv (.int v :: st)) : WW x z M pc lv (st) := by
  obtain ⟨D, G', A, p, l, e, R, s, m, args, below, meth, c, Q⟩ := x
  obtain ⟨hG, hrm, hx, hb, hml, hr, hlk, hnm, hown, hts, hK, hA, hE⟩ := X
  intro H locs la hz hl hM hS
  exact lv_iload_n hx hb d hi (lv_at hl kk h) (k H locs la hz hl hM hS)
theorem ww_iload (pc : Nat) (X : mCX G own cc nL ret nm rm x) {i : Nat} {v : Int32} (d : decode cc pc = .ok (.iload i, 2)) (kk : Nat) (h : lv[kk]? = some (i, .int v)) (k : WW x z M (pc + 2) lv (.int v :: st)) : WW x z M pc lv (st) := by
  obtain ⟨D, G', A, p, l, e, R, s, m, args, below, meth, c, Q⟩ := x
  obtain ⟨hG, hrm, hx, hb, hml, hr, hlk, hnm, hown, hts, hK, hA, hE⟩ := X
  intro H locs la hz hl hM hS
  exact lv_iload hx hb d (lv_at hl kk h) (k H locs la hz hl hM hS)
theorem ww_istore_n (pc : Nat) (X : mCX G own cc nL ret nm rm x) {q : Fin 4} {i : Nat} {v : Int32} {lv' : List (Nat × Value)} (d : decode cc pc = .ok (.istore_n q, 1)) (hi : (q : Nat) = i) (hn : i < nL) (is : List Nat) (h : lv_pick ((i, Value.int v) :: lv.filter (fun q => !(q.1 == i) && !(q.1 + 1 == i && q.2.category == 2))) is = lv') (k : WW x z M (pc + 1) lv' st) : WW x z M pc lv (.int v :: st) := by
  obtain ⟨D, G', A, p, l, e, R, s, m, args, below, meth, c, Q⟩ := x
  obtain ⟨hG, hrm, hx, hb, hml, hr, hlk, hnm, hown, hts, hK, hA, hE⟩ := X
  intro H locs la hz hl hM hS
  subst hml
  exact lv_istore_n hx hb d hi hl hn rfl (fun la' hl' => k H locs la' hz (lv_sub hl' is h) hM hS)
theorem ww_istore (pc : Nat) (X : mCX G own cc nL ret nm rm x) {i : Nat} {v : Int32} {lv' : List (Nat × Value)} (d : decode cc pc = .ok (.istore i, 2)) (hn : i < nL) (is : List Nat) (h : lv_pick ((i, Value.int v) :: lv.filter (fun q => !(q.1 == i) && !(q.1 + 1 == i && q.2.category == 2))) is = lv') (k : WW x z M (pc + 2) lv' st) : WW x z M pc lv (.int v :: st) := by
  obtain ⟨D, G', A, p, l, e, R, s, m, args, below, meth, c, Q⟩ := x
  obtain ⟨hG, hrm, hx, hb, hml, hr, hlk, hnm, hown, hts, hK, hA, hE⟩ := X
  intro H locs la hz hl hM hS
  subst hml
  exact lv_istore hx hb d hl hn rfl (fun la' hl' => k H locs la' hz (lv_sub hl' is h) hM hS)
theorem ww_lload_n (pc : Nat) (X : mCX G own cc nL ret nm rm x) {q : Fin 4} {i : Nat} {v : Int64} (d : decode cc pc = .ok (.lload_n q, 1)) (kk : Nat) (hi : (q : Nat) = i) (h : lv[kk]? = some (i, .long v)) (k : WW x z M (pc + 1) lv (.long v :: st)) : WW x z M pc lv (st) := by
  obtain ⟨D, G', A, p, l, e, R, s, m, args, below, meth, c, Q⟩ := x
  obtain ⟨hG, hrm, hx, hb, hml, hr, hlk, hnm, hown, hts, hK, hA, hE⟩ := X
  intro H locs la hz hl hM hS
  exact lv_lload_n hx hb d hi (lv_at hl kk h) (k H locs la hz hl hM hS)
theorem ww_lload (pc : Nat) (X : mCX G own cc nL ret nm rm x) {i : Nat} {v : Int64} (d : decode cc pc = .ok (.lload i, 2)) (kk : Nat) (h : lv[kk]? = some (i, .long v)) (k : WW x z M (pc + 2) lv (.long v :: st)) : WW x z M pc lv (st) := by
  obtain ⟨D, G', A, p, l, e, R, s, m, args, below, meth, c, Q⟩ := x
  obtain ⟨hG, hrm, hx, hb, hml, hr, hlk, hnm, hown, hts, hK, hA, hE⟩ := X
  intro H locs la hz hl hM hS
  exact lv_lload hx hb d (lv_at hl kk h) (k H locs la hz hl hM hS)
theorem ww_lstore_n (pc : Nat) (X : mCX G own cc nL ret nm rm x) {q : Fin 4} {i : Nat} {v : Int64} {lv' : List (Nat × Value)} (d : decode cc pc = .ok (.lstore_n q, 1)) (hi : (q : Nat) = i) (hn : i + 1 < nL) (is : List Nat) (h : lv_pick ((i, Value.long v) :: lv.filter (fun q => !(q.1 == i) && (!(q.1 == i + 1) && !(q.1 + 1 == i && q.2.category == 2)))) is = lv') (k : WW x z M (pc + 1) lv' st) : WW x z M pc lv (.long v :: st) := by
  obtain ⟨D, G', A, p, l, e, R, s, m, args, below, meth, c, Q⟩ := x
  obtain ⟨hG, hrm, hx, hb, hml, hr, hlk, hnm, hown, hts, hK, hA, hE⟩ := X
  intro H locs la hz hl hM hS
  subst hml
  exact lv_lstore_n hx hb d hi hl hn rfl (fun la' hl' => k H locs la' hz (lv_sub hl' is h) hM hS)
theorem ww_lstore (pc : Nat) (X : mCX G own cc nL ret nm rm x) {i : Nat} {v : Int64} {lv' : List (Nat × Value)} (d : decode cc pc = .ok (.lstore i, 2)) (hn : i + 1 < nL) (is : List Nat) (h : lv_pick ((i, Value.long v) :: lv.filter (fun q => !(q.1 == i) && (!(q.1 == i + 1) && !(q.1 + 1 == i && q.2.category == 2)))) is = lv') (k : WW x z M (pc + 2) lv' st) : WW x z M pc lv (.long v :: st) := by
  obtain ⟨D, G', A, p, l, e, R, s, m, args, below, meth, c, Q⟩ := x
  obtain ⟨hG, hrm, hx, hb, hml, hr, hlk, hnm, hown, hts, hK, hA, hE⟩ := X
  intro H locs la hz hl hM hS
  subst hml
  exact lv_lstore hx hb d hl hn rfl (fun la' hl' => k H locs la' hz (lv_sub hl' is h) hM hS)
theorem ww_aload_n (pc : Nat) (X : mCX G own cc nL ret nm rm x) {q : Fin 4} {i : Nat} {v : Nat} (d : decode cc pc = .ok (.aload_n q, 1)) (kk : Nat) (hi : (q : Nat) = i) (h : lv[kk]? = some (i, .ref v)) (k : WW x z M (pc + 1) lv (.ref v :: st)) : WW x z M pc lv (st) := by
  obtain ⟨D, G', A, p, l, e, R, s, m, args, below, meth, c, Q⟩ := x
  obtain ⟨hG, hrm, hx, hb, hml, hr, hlk, hnm, hown, hts, hK, hA, hE⟩ := X
  intro H locs la hz hl hM hS
  exact lv_aload_n hx hb d hi (lv_at hl kk h) (k H locs la hz hl hM hS)
theorem ww_aload (pc : Nat) (X : mCX G own cc nL ret nm rm x) {i : Nat} {v : Nat} (d : decode cc pc = .ok (.aload i, 2)) (kk : Nat) (h : lv[kk]? = some (i, .ref v)) (k : WW x z M (pc + 2) lv (.ref v :: st)) : WW x z M pc lv (st) := by
  obtain ⟨D, G', A, p, l, e, R, s, m, args, below, meth, c, Q⟩ := x
  obtain ⟨hG, hrm, hx, hb, hml, hr, hlk, hnm, hown, hts, hK, hA, hE⟩ := X
  intro H locs la hz hl hM hS
  exact lv_aload hx hb d (lv_at hl kk h) (k H locs la hz hl hM hS)
theorem ww_astore_n (pc : Nat) (X : mCX G own cc nL ret nm rm x) {q : Fin 4} {i : Nat} {v : Nat} {lv' : List (Nat × Value)} (d : decode cc pc = .ok (.astore_n q, 1)) (hi : (q : Nat) = i) (hn : i < nL) (is : List Nat) (h : lv_pick ((i, Value.ref v) :: lv.filter (fun q => !(q.1 == i) && !(q.1 + 1 == i && q.2.category == 2))) is = lv') (k : WW x z M (pc + 1) lv' st) : WW x z M pc lv (.ref v :: st) := by
  obtain ⟨D, G', A, p, l, e, R, s, m, args, below, meth, c, Q⟩ := x
  obtain ⟨hG, hrm, hx, hb, hml, hr, hlk, hnm, hown, hts, hK, hA, hE⟩ := X
  intro H locs la hz hl hM hS
  subst hml
  exact lv_astore_n hx hb d hi hl hn rfl (fun la' hl' => k H locs la' hz (lv_sub hl' is h) hM hS)
theorem ww_astore (pc : Nat) (X : mCX G own cc nL ret nm rm x) {i : Nat} {v : Nat} {lv' : List (Nat × Value)} (d : decode cc pc = .ok (.astore i, 2)) (hn : i < nL) (is : List Nat) (h : lv_pick ((i, Value.ref v) :: lv.filter (fun q => !(q.1 == i) && !(q.1 + 1 == i && q.2.category == 2))) is = lv') (k : WW x z M (pc + 2) lv' st) : WW x z M pc lv (.ref v :: st) := by
  obtain ⟨D, G', A, p, l, e, R, s, m, args, below, meth, c, Q⟩ := x
  obtain ⟨hG, hrm, hx, hb, hml, hr, hlk, hnm, hown, hts, hK, hA, hE⟩ := X
  intro H locs la hz hl hM hS
  subst hml
  exact lv_astore hx hb d hl hn rfl (fun la' hl' => k H locs la' hz (lv_sub hl' is h) hM hS)
theorem ww_iinc (pc : Nat) (X : mCX G own cc nL ret nm rm x) {i : Nat} {n : Int} {v v' : Int32} {lv' : List (Nat × Value)} (d : decode cc pc = .ok (.iinc i n, 3)) (kk : Nat) (hk : lv[kk]? = some (i, .int v)) (hv : v + Int32.ofInt n = v') (hn : i < nL) (is : List Nat) (h : lv_pick ((i, Value.int v') :: lv.filter (fun q => !(q.1 == i) && !(q.1 + 1 == i && q.2.category == 2))) is = lv') (k : WW x z M (pc + 3) lv' st) : WW x z M pc lv st := by
  obtain ⟨D, G', A, p, l, e, R, s, m, args, below, meth, c, Q⟩ := x
  obtain ⟨hG, hrm, hx, hb, hml, hr, hlk, hnm, hown, hts, hK, hA, hE⟩ := X
  intro H locs la hz hl hM hS
  subst hml
  exact lv_iinc hx hb d hl hk hv hn rfl (fun la' hl' => k H locs la' hz (lv_sub hl' is h) hM hS)
theorem ww_iincW (pc : Nat) (X : mCX G own cc nL ret nm rm x) {i : Nat} {n : Int} {v v' : Int32} {lv' : List (Nat × Value)} (d : decode cc pc = .ok (.iinc i n, 6)) (kk : Nat) (hk : lv[kk]? = some (i, .int v)) (hv : v + Int32.ofInt n = v') (hn : i < nL) (is : List Nat) (h : lv_pick ((i, Value.int v') :: lv.filter (fun q => !(q.1 == i) && !(q.1 + 1 == i && q.2.category == 2))) is = lv') (k : WW x z M (pc + 6) lv' st) : WW x z M pc lv st := by
  obtain ⟨D, G', A, p, l, e, R, s, m, args, below, meth, c, Q⟩ := x
  obtain ⟨hG, hrm, hx, hb, hml, hr, hlk, hnm, hown, hts, hK, hA, hE⟩ := X
  intro H locs la hz hl hM hS
  subst hml
  exact lv_iincW hx hb d hl hk hv hn rfl (fun la' hl' => k H locs la' hz (lv_sub hl' is h) hM hS)
theorem ww_iadd (pc : Nat) (X : mCX G own cc nL ret nm rm x) {a b : Int32} (d : decode cc pc = .ok (.iadd, 1))  (k : WW x z M (pc + 1) lv (.int (a + b) :: st)) : WW x z M pc lv (.int b :: .int a :: st) := by
  obtain ⟨D, G', A, p, l, e, R, s, m, args, below, meth, c, Q⟩ := x
  obtain ⟨hG, hrm, hx, hb, hml, hr, hlk, hnm, hown, hts, hK, hA, hE⟩ := X
  intro H locs la hz hl hM hS
  exact lv_iadd hx hb d (k H locs la hz hl hM hS)
theorem ww_isub (pc : Nat) (X : mCX G own cc nL ret nm rm x) {a b : Int32} (d : decode cc pc = .ok (.isub, 1))  (k : WW x z M (pc + 1) lv (.int (a - b) :: st)) : WW x z M pc lv (.int b :: .int a :: st) := by
  obtain ⟨D, G', A, p, l, e, R, s, m, args, below, meth, c, Q⟩ := x
  obtain ⟨hG, hrm, hx, hb, hml, hr, hlk, hnm, hown, hts, hK, hA, hE⟩ := X
  intro H locs la hz hl hM hS
  exact lv_isub hx hb d (k H locs la hz hl hM hS)
theorem ww_imul (pc : Nat) (X : mCX G own cc nL ret nm rm x) {a b : Int32} (d : decode cc pc = .ok (.imul, 1))  (k : WW x z M (pc + 1) lv (.int (a * b) :: st)) : WW x z M pc lv (.int b :: .int a :: st) := by
  obtain ⟨D, G', A, p, l, e, R, s, m, args, below, meth, c, Q⟩ := x
  obtain ⟨hG, hrm, hx, hb, hml, hr, hlk, hnm, hown, hts, hK, hA, hE⟩ := X
  intro H locs la hz hl hM hS
  exact lv_imul hx hb d (k H locs la hz hl hM hS)
theorem ww_iand (pc : Nat) (X : mCX G own cc nL ret nm rm x) {a b : Int32} (d : decode cc pc = .ok (.iand, 1))  (k : WW x z M (pc + 1) lv (.int (a &&& b) :: st)) : WW x z M pc lv (.int b :: .int a :: st) := by
  obtain ⟨D, G', A, p, l, e, R, s, m, args, below, meth, c, Q⟩ := x
  obtain ⟨hG, hrm, hx, hb, hml, hr, hlk, hnm, hown, hts, hK, hA, hE⟩ := X
  intro H locs la hz hl hM hS
  exact lv_iand hx hb d (k H locs la hz hl hM hS)
theorem ww_ior (pc : Nat) (X : mCX G own cc nL ret nm rm x) {a b : Int32} (d : decode cc pc = .ok (.ior, 1))  (k : WW x z M (pc + 1) lv (.int (a ||| b) :: st)) : WW x z M pc lv (.int b :: .int a :: st) := by
  obtain ⟨D, G', A, p, l, e, R, s, m, args, below, meth, c, Q⟩ := x
  obtain ⟨hG, hrm, hx, hb, hml, hr, hlk, hnm, hown, hts, hK, hA, hE⟩ := X
  intro H locs la hz hl hM hS
  exact lv_ior hx hb d (k H locs la hz hl hM hS)
theorem ww_ixor (pc : Nat) (X : mCX G own cc nL ret nm rm x) {a b : Int32} (d : decode cc pc = .ok (.ixor, 1))  (k : WW x z M (pc + 1) lv (.int (a ^^^ b) :: st)) : WW x z M pc lv (.int b :: .int a :: st) := by
  obtain ⟨D, G', A, p, l, e, R, s, m, args, below, meth, c, Q⟩ := x
  obtain ⟨hG, hrm, hx, hb, hml, hr, hlk, hnm, hown, hts, hK, hA, hE⟩ := X
  intro H locs la hz hl hM hS
  exact lv_ixor hx hb d (k H locs la hz hl hM hS)
theorem ww_ishl (pc : Nat) (X : mCX G own cc nL ret nm rm x) {a b : Int32} (d : decode cc pc = .ok (.ishl, 1))  (k : WW x z M (pc + 1) lv (.int (a <<< (b &&& 31)) :: st)) : WW x z M pc lv (.int b :: .int a :: st) := by
  obtain ⟨D, G', A, p, l, e, R, s, m, args, below, meth, c, Q⟩ := x
  obtain ⟨hG, hrm, hx, hb, hml, hr, hlk, hnm, hown, hts, hK, hA, hE⟩ := X
  intro H locs la hz hl hM hS
  exact lv_ishl hx hb d (k H locs la hz hl hM hS)
theorem ww_ishr (pc : Nat) (X : mCX G own cc nL ret nm rm x) {a b : Int32} (d : decode cc pc = .ok (.ishr, 1))  (k : WW x z M (pc + 1) lv (.int (a >>> (b &&& 31)) :: st)) : WW x z M pc lv (.int b :: .int a :: st) := by
  obtain ⟨D, G', A, p, l, e, R, s, m, args, below, meth, c, Q⟩ := x
  obtain ⟨hG, hrm, hx, hb, hml, hr, hlk, hnm, hown, hts, hK, hA, hE⟩ := X
  intro H locs la hz hl hM hS
  exact lv_ishr hx hb d (k H locs la hz hl hM hS)
theorem ww_iushr (pc : Nat) (X : mCX G own cc nL ret nm rm x) {a b : Int32} (d : decode cc pc = .ok (.iushr, 1))  (k : WW x z M (pc + 1) lv (.int (ushI a b) :: st)) : WW x z M pc lv (.int b :: .int a :: st) := by
  obtain ⟨D, G', A, p, l, e, R, s, m, args, below, meth, c, Q⟩ := x
  obtain ⟨hG, hrm, hx, hb, hml, hr, hlk, hnm, hown, hts, hK, hA, hE⟩ := X
  intro H locs la hz hl hM hS
  exact lv_iushr hx hb d rfl (k H locs la hz hl hM hS)
theorem ww_ladd (pc : Nat) (X : mCX G own cc nL ret nm rm x) {a b : Int64} (d : decode cc pc = .ok (.ladd, 1))  (k : WW x z M (pc + 1) lv (.long (a + b) :: st)) : WW x z M pc lv (.long b :: .long a :: st) := by
  obtain ⟨D, G', A, p, l, e, R, s, m, args, below, meth, c, Q⟩ := x
  obtain ⟨hG, hrm, hx, hb, hml, hr, hlk, hnm, hown, hts, hK, hA, hE⟩ := X
  intro H locs la hz hl hM hS
  exact lv_ladd hx hb d (k H locs la hz hl hM hS)
theorem ww_lsub (pc : Nat) (X : mCX G own cc nL ret nm rm x) {a b : Int64} (d : decode cc pc = .ok (.lsub, 1))  (k : WW x z M (pc + 1) lv (.long (a - b) :: st)) : WW x z M pc lv (.long b :: .long a :: st) := by
  obtain ⟨D, G', A, p, l, e, R, s, m, args, below, meth, c, Q⟩ := x
  obtain ⟨hG, hrm, hx, hb, hml, hr, hlk, hnm, hown, hts, hK, hA, hE⟩ := X
  intro H locs la hz hl hM hS
  exact lv_lsub hx hb d (k H locs la hz hl hM hS)
theorem ww_lmul (pc : Nat) (X : mCX G own cc nL ret nm rm x) {a b : Int64} (d : decode cc pc = .ok (.lmul, 1))  (k : WW x z M (pc + 1) lv (.long (a * b) :: st)) : WW x z M pc lv (.long b :: .long a :: st) := by
  obtain ⟨D, G', A, p, l, e, R, s, m, args, below, meth, c, Q⟩ := x
  obtain ⟨hG, hrm, hx, hb, hml, hr, hlk, hnm, hown, hts, hK, hA, hE⟩ := X
  intro H locs la hz hl hM hS
  exact lv_lmul hx hb d (k H locs la hz hl hM hS)
theorem ww_land (pc : Nat) (X : mCX G own cc nL ret nm rm x) {a b : Int64} (d : decode cc pc = .ok (.land, 1))  (k : WW x z M (pc + 1) lv (.long (a &&& b) :: st)) : WW x z M pc lv (.long b :: .long a :: st) := by
  obtain ⟨D, G', A, p, l, e, R, s, m, args, below, meth, c, Q⟩ := x
  obtain ⟨hG, hrm, hx, hb, hml, hr, hlk, hnm, hown, hts, hK, hA, hE⟩ := X
  intro H locs la hz hl hM hS
  exact lv_land hx hb d (k H locs la hz hl hM hS)
theorem ww_lor (pc : Nat) (X : mCX G own cc nL ret nm rm x) {a b : Int64} (d : decode cc pc = .ok (.lor, 1))  (k : WW x z M (pc + 1) lv (.long (a ||| b) :: st)) : WW x z M pc lv (.long b :: .long a :: st) := by
  obtain ⟨D, G', A, p, l, e, R, s, m, args, below, meth, c, Q⟩ := x
  obtain ⟨hG, hrm, hx, hb, hml, hr, hlk, hnm, hown, hts, hK, hA, hE⟩ := X
  intro H locs la hz hl hM hS
  exact lv_lor hx hb d (k H locs la hz hl hM hS)
theorem ww_lxor (pc : Nat) (X : mCX G own cc nL ret nm rm x) {a b : Int64} (d : decode cc pc = .ok (.lxor, 1))  (k : WW x z M (pc + 1) lv (.long (a ^^^ b) :: st)) : WW x z M pc lv (.long b :: .long a :: st) := by
  obtain ⟨D, G', A, p, l, e, R, s, m, args, below, meth, c, Q⟩ := x
  obtain ⟨hG, hrm, hx, hb, hml, hr, hlk, hnm, hown, hts, hK, hA, hE⟩ := X
  intro H locs la hz hl hM hS
  exact lv_lxor hx hb d (k H locs la hz hl hM hS)
theorem ww_lushr (pc : Nat) (X : mCX G own cc nL ret nm rm x) {a : Int64} {b : Int32} (d : decode cc pc = .ok (.lushr, 1))  (k : WW x z M (pc + 1) lv (.long (ushL a b) :: st)) : WW x z M pc lv (.int b :: .long a :: st) := by
  obtain ⟨D, G', A, p, l, e, R, s, m, args, below, meth, c, Q⟩ := x
  obtain ⟨hG, hrm, hx, hb, hml, hr, hlk, hnm, hown, hts, hK, hA, hE⟩ := X
  intro H locs la hz hl hM hS
  exact lv_lushr hx hb d rfl (k H locs la hz hl hM hS)
theorem ww_lshl (pc : Nat) (X : mCX G own cc nL ret nm rm x) {a : Int64} {b : Int32} (d : decode cc pc = .ok (.lshl, 1))  (k : WW x z M (pc + 1) lv (.long (shlL a b) :: st)) : WW x z M pc lv (.int b :: .long a :: st) := by
  obtain ⟨D, G', A, p, l, e, R, s, m, args, below, meth, c, Q⟩ := x
  obtain ⟨hG, hrm, hx, hb, hml, hr, hlk, hnm, hown, hts, hK, hA, hE⟩ := X
  intro H locs la hz hl hM hS
  exact lv_lshl hx hb d rfl (k H locs la hz hl hM hS)
theorem ww_lshr (pc : Nat) (X : mCX G own cc nL ret nm rm x) {a : Int64} {b : Int32} (d : decode cc pc = .ok (.lshr, 1))  (k : WW x z M (pc + 1) lv (.long (shrL a b) :: st)) : WW x z M pc lv (.int b :: .long a :: st) := by
  obtain ⟨D, G', A, p, l, e, R, s, m, args, below, meth, c, Q⟩ := x
  obtain ⟨hG, hrm, hx, hb, hml, hr, hlk, hnm, hown, hts, hK, hA, hE⟩ := X
  intro H locs la hz hl hM hS
  exact lv_lshr hx hb d rfl (k H locs la hz hl hM hS)
theorem ww_lcmp (pc : Nat) (X : mCX G own cc nL ret nm rm x) {a b : Int64} (d : decode cc pc = .ok (.lcmp, 1))  (k : WW x z M (pc + 1) lv (.int (lg_cmp a b) :: st)) : WW x z M pc lv (.long b :: .long a :: st) := by
  obtain ⟨D, G', A, p, l, e, R, s, m, args, below, meth, c, Q⟩ := x
  obtain ⟨hG, hrm, hx, hb, hml, hr, hlk, hnm, hown, hts, hK, hA, hE⟩ := X
  intro H locs la hz hl hM hS
  exact W.lcmp hx hb d (k H locs la hz hl hM hS)
theorem ww_ineg (pc : Nat) (X : mCX G own cc nL ret nm rm x) {a : Int32} (d : decode cc pc = .ok (.ineg, 1))  (k : WW x z M (pc + 1) lv (.int (-a) :: st)) : WW x z M pc lv (.int a :: st) := by
  obtain ⟨D, G', A, p, l, e, R, s, m, args, below, meth, c, Q⟩ := x
  obtain ⟨hG, hrm, hx, hb, hml, hr, hlk, hnm, hown, hts, hK, hA, hE⟩ := X
  intro H locs la hz hl hM hS
  exact lv_ineg hx hb d (k H locs la hz hl hM hS)
theorem ww_lneg (pc : Nat) (X : mCX G own cc nL ret nm rm x) {a : Int64} (d : decode cc pc = .ok (.lneg, 1))  (k : WW x z M (pc + 1) lv (.long (-a) :: st)) : WW x z M pc lv (.long a :: st) := by
  obtain ⟨D, G', A, p, l, e, R, s, m, args, below, meth, c, Q⟩ := x
  obtain ⟨hG, hrm, hx, hb, hml, hr, hlk, hnm, hown, hts, hK, hA, hE⟩ := X
  intro H locs la hz hl hM hS
  exact lv_lneg hx hb d (k H locs la hz hl hM hS)
theorem ww_i2l (pc : Nat) (X : mCX G own cc nL ret nm rm x) {a : Int32} (d : decode cc pc = .ok (.i2l, 1))  (k : WW x z M (pc + 1) lv (.long a.toInt64 :: st)) : WW x z M pc lv (.int a :: st) := by
  obtain ⟨D, G', A, p, l, e, R, s, m, args, below, meth, c, Q⟩ := x
  obtain ⟨hG, hrm, hx, hb, hml, hr, hlk, hnm, hown, hts, hK, hA, hE⟩ := X
  intro H locs la hz hl hM hS
  exact lv_i2l hx hb d rfl (k H locs la hz hl hM hS)
theorem ww_l2i (pc : Nat) (X : mCX G own cc nL ret nm rm x) {a : Int64} (d : decode cc pc = .ok (.l2i, 1))  (k : WW x z M (pc + 1) lv (.int a.toInt32 :: st)) : WW x z M pc lv (.long a :: st) := by
  obtain ⟨D, G', A, p, l, e, R, s, m, args, below, meth, c, Q⟩ := x
  obtain ⟨hG, hrm, hx, hb, hml, hr, hlk, hnm, hown, hts, hK, hA, hE⟩ := X
  intro H locs la hz hl hM hS
  exact lv_l2i hx hb d rfl (k H locs la hz hl hM hS)
theorem ww_i2b (pc : Nat) (X : mCX G own cc nL ret nm rm x) {a : Int32} (d : decode cc pc = .ok (.i2b, 1))  (k : WW x z M (pc + 1) lv (.int a.toInt8.toInt32 :: st)) : WW x z M pc lv (.int a :: st) := by
  obtain ⟨D, G', A, p, l, e, R, s, m, args, below, meth, c, Q⟩ := x
  obtain ⟨hG, hrm, hx, hb, hml, hr, hlk, hnm, hown, hts, hK, hA, hE⟩ := X
  intro H locs la hz hl hM hS
  exact lv_i2b hx hb d rfl (k H locs la hz hl hM hS)
theorem ww_i2c (pc : Nat) (X : mCX G own cc nL ret nm rm x) {a : Int32} (d : decode cc pc = .ok (.i2c, 1))  (k : WW x z M (pc + 1) lv (.int (a.toUInt32 % 65536).toInt32 :: st)) : WW x z M pc lv (.int a :: st) := by
  obtain ⟨D, G', A, p, l, e, R, s, m, args, below, meth, c, Q⟩ := x
  obtain ⟨hG, hrm, hx, hb, hml, hr, hlk, hnm, hown, hts, hK, hA, hE⟩ := X
  intro H locs la hz hl hM hS
  exact lv_i2c hx hb d rfl (k H locs la hz hl hM hS)
theorem ww_idiv (pc : Nat) (X : mCX G own cc nL ret nm rm x) {a b v : Int32} (d : decode cc pc = .ok (.idiv, 1)) (hv : dvI a b = some v) (k : WW x z M (pc + 1) lv (.int v :: st)) : WW x z M pc lv (.int b :: .int a :: st) := by
  obtain ⟨D, G', A, p, l, e, R, s, m, args, below, meth, c, Q⟩ := x
  obtain ⟨hG, hrm, hx, hb, hml, hr, hlk, hnm, hown, hts, hK, hA, hE⟩ := X
  intro H locs la hz hl hM hS
  exact by
    unfold dvI at hv
    split at hv
    · cases hv
    · rename_i hne
      cases hv
      exact lv_idiv hx hb d hne (k H locs la hz hl hM hS)
theorem ww_irem (pc : Nat) (X : mCX G own cc nL ret nm rm x) {a b v : Int32} (d : decode cc pc = .ok (.irem, 1)) (hv : rmI a b = some v) (k : WW x z M (pc + 1) lv (.int v :: st)) : WW x z M pc lv (.int b :: .int a :: st) := by
  obtain ⟨D, G', A, p, l, e, R, s, m, args, below, meth, c, Q⟩ := x
  obtain ⟨hG, hrm, hx, hb, hml, hr, hlk, hnm, hown, hts, hK, hA, hE⟩ := X
  intro H locs la hz hl hM hS
  exact by
    unfold rmI at hv
    split at hv
    · cases hv
    · rename_i hne
      cases hv
      exact lv_irem hx hb d hne (k H locs la hz hl hM hS)
theorem ww_dup (pc : Nat) (X : mCX G own cc nL ret nm rm x) {v : Value} (d : decode cc pc = .ok (.dup, 1)) (hv : v.category = 1) (k : WW x z M (pc + 1) lv (v :: v :: st)) : WW x z M pc lv (v :: st) := by
  obtain ⟨D, G', A, p, l, e, R, s, m, args, below, meth, c, Q⟩ := x
  obtain ⟨hG, hrm, hx, hb, hml, hr, hlk, hnm, hown, hts, hK, hA, hE⟩ := X
  intro H locs la hz hl hM hS
  exact lv_dup hx hb d hv (k H locs la hz hl hM hS)
theorem ww_pop (pc : Nat) (X : mCX G own cc nL ret nm rm x) {v : Value} (d : decode cc pc = .ok (.pop, 1)) (hv : v.category = 1) (k : WW x z M (pc + 1) lv (st)) : WW x z M pc lv (v :: st) := by
  obtain ⟨D, G', A, p, l, e, R, s, m, args, below, meth, c, Q⟩ := x
  obtain ⟨hG, hrm, hx, hb, hml, hr, hlk, hnm, hown, hts, hK, hA, hE⟩ := X
  intro H locs la hz hl hM hS
  exact lv_pop hx hb d hv (k H locs la hz hl hM hS)
theorem ww_dup_x1 (pc : Nat) (X : mCX G own cc nL ret nm rm x) {v u : Value} (d : decode cc pc = .ok (.dup_x1, 1)) (hv : v.category = 1) (hu : u.category = 1) (k : WW x z M (pc + 1) lv (v :: u :: v :: st)) : WW x z M pc lv (v :: u :: st) := by
  obtain ⟨D, G', A, p, l, e, R, s, m, args, below, meth, c, Q⟩ := x
  obtain ⟨hG, hrm, hx, hb, hml, hr, hlk, hnm, hown, hts, hK, hA, hE⟩ := X
  intro H locs la hz hl hM hS
  exact lv_dup_x1 hx hb d hv hu (k H locs la hz hl hM hS)
theorem ww_dup_x2 (pc : Nat) (X : mCX G own cc nL ret nm rm x) {v u t : Value} (d : decode cc pc = .ok (.dup_x2, 1)) (hv : v.category = 1) (hu : u.category = 1) (ht : t.category = 1) (k : WW x z M (pc + 1) lv (v :: u :: t :: v :: st)) : WW x z M pc lv (v :: u :: t :: st) := by
  obtain ⟨D, G', A, p, l, e, R, s, m, args, below, meth, c, Q⟩ := x
  obtain ⟨hG, hrm, hx, hb, hml, hr, hlk, hnm, hown, hts, hK, hA, hE⟩ := X
  intro H locs la hz hl hM hS
  exact lv_dup_x2 hx hb d hv hu ht (k H locs la hz hl hM hS)
theorem ww_dup2_11 (pc : Nat) (X : mCX G own cc nL ret nm rm x) {v u : Value} (d : decode cc pc = .ok (.dup2, 1)) (hv : v.category = 1) (hu : u.category = 1) (k : WW x z M (pc + 1) lv (v :: u :: v :: u :: st)) : WW x z M pc lv (v :: u :: st) := by
  obtain ⟨D, G', A, p, l, e, R, s, m, args, below, meth, c, Q⟩ := x
  obtain ⟨hG, hrm, hx, hb, hml, hr, hlk, hnm, hown, hts, hK, hA, hE⟩ := X
  intro H locs la hz hl hM hS
  exact lv_dup2_11 hx hb d hv hu (k H locs la hz hl hM hS)
theorem ww_dup2_2 (pc : Nat) (X : mCX G own cc nL ret nm rm x) {v : Value} (d : decode cc pc = .ok (.dup2, 1)) (hv : v.category = 2) (k : WW x z M (pc + 1) lv (v :: v :: st)) : WW x z M pc lv (v :: st) := by
  obtain ⟨D, G', A, p, l, e, R, s, m, args, below, meth, c, Q⟩ := x
  obtain ⟨hG, hrm, hx, hb, hml, hr, hlk, hnm, hown, hts, hK, hA, hE⟩ := X
  intro H locs la hz hl hM hS
  exact lv_dup2_2 hx hb d hv (k H locs la hz hl hM hS)
theorem ww_dup2_x1_2 (pc : Nat) (X : mCX G own cc nL ret nm rm x) {v u : Value} (d : decode cc pc = .ok (.dup2_x1, 1)) (hv : v.category = 2) (hu : u.category = 1) (k : WW x z M (pc + 1) lv (v :: u :: v :: st)) : WW x z M pc lv (v :: u :: st) := by
  obtain ⟨D, G', A, p, l, e, R, s, m, args, below, meth, c, Q⟩ := x
  obtain ⟨hG, hrm, hx, hb, hml, hr, hlk, hnm, hown, hts, hK, hA, hE⟩ := X
  intro H locs la hz hl hM hS
  exact lv_dup2_x1_2 hx hb d hv hu (k H locs la hz hl hM hS)
theorem ww_if_eq (pc tgt : Nat) (X : mCX G own cc nL ret nm rm x) {a : Int32} {off : Int} (d : decode cc pc = .ok (.ifCond .eq off, 3)) (ht : (pc : Int) + off = (tgt : Int)) (kt : a = 0 → WW x z M tgt lv st) (kf : ¬ a = 0 → WW x z M (pc + 3) lv st) : WW x z M pc lv (.int a :: st) := by
  obtain ⟨D, G', A, p, l, e, R, s, m, args, below, meth, c, Q⟩ := x
  obtain ⟨hG, hrm, hx, hb, hml, hr, hlk, hnm, hown, hts, hK, hA, hE⟩ := X
  intro H locs la hz hl hM hS
  exact lv_if_eq hx hb d ht (fun q => kt q H locs la hz hl hM hS) (fun q => kf q H locs la hz hl hM hS)
theorem ww_icmp_eq (pc tgt : Nat) (X : mCX G own cc nL ret nm rm x) {a b : Int32} {off : Int} (d : decode cc pc = .ok (.if_icmp .eq off, 3)) (ht : (pc : Int) + off = (tgt : Int)) (kt : a = b → WW x z M tgt lv st) (kf : ¬ a = b → WW x z M (pc + 3) lv st) : WW x z M pc lv (.int b :: .int a :: st) := by
  obtain ⟨D, G', A, p, l, e, R, s, m, args, below, meth, c, Q⟩ := x
  obtain ⟨hG, hrm, hx, hb, hml, hr, hlk, hnm, hown, hts, hK, hA, hE⟩ := X
  intro H locs la hz hl hM hS
  exact lv_icmp_eq hx hb d ht (fun q => kt q H locs la hz hl hM hS) (fun q => kf q H locs la hz hl hM hS)
theorem ww_if_ne (pc tgt : Nat) (X : mCX G own cc nL ret nm rm x) {a : Int32} {off : Int} (d : decode cc pc = .ok (.ifCond .ne off, 3)) (ht : (pc : Int) + off = (tgt : Int)) (kt : ¬ a = 0 → WW x z M tgt lv st) (kf : a = 0 → WW x z M (pc + 3) lv st) : WW x z M pc lv (.int a :: st) := by
  obtain ⟨D, G', A, p, l, e, R, s, m, args, below, meth, c, Q⟩ := x
  obtain ⟨hG, hrm, hx, hb, hml, hr, hlk, hnm, hown, hts, hK, hA, hE⟩ := X
  intro H locs la hz hl hM hS
  exact lv_if_ne hx hb d ht (fun q => kt q H locs la hz hl hM hS) (fun q => kf q H locs la hz hl hM hS)
theorem ww_icmp_ne (pc tgt : Nat) (X : mCX G own cc nL ret nm rm x) {a b : Int32} {off : Int} (d : decode cc pc = .ok (.if_icmp .ne off, 3)) (ht : (pc : Int) + off = (tgt : Int)) (kt : ¬ a = b → WW x z M tgt lv st) (kf : a = b → WW x z M (pc + 3) lv st) : WW x z M pc lv (.int b :: .int a :: st) := by
  obtain ⟨D, G', A, p, l, e, R, s, m, args, below, meth, c, Q⟩ := x
  obtain ⟨hG, hrm, hx, hb, hml, hr, hlk, hnm, hown, hts, hK, hA, hE⟩ := X
  intro H locs la hz hl hM hS
  exact lv_icmp_ne hx hb d ht (fun q => kt q H locs la hz hl hM hS) (fun q => kf q H locs la hz hl hM hS)
theorem ww_if_lt (pc tgt : Nat) (X : mCX G own cc nL ret nm rm x) {a : Int32} {off : Int} (d : decode cc pc = .ok (.ifCond .lt off, 3)) (ht : (pc : Int) + off = (tgt : Int)) (kt : a < 0 → WW x z M tgt lv st) (kf : ¬ a < 0 → WW x z M (pc + 3) lv st) : WW x z M pc lv (.int a :: st) := by
  obtain ⟨D, G', A, p, l, e, R, s, m, args, below, meth, c, Q⟩ := x
  obtain ⟨hG, hrm, hx, hb, hml, hr, hlk, hnm, hown, hts, hK, hA, hE⟩ := X
  intro H locs la hz hl hM hS
  exact lv_if_lt hx hb d ht (fun q => kt q H locs la hz hl hM hS) (fun q => kf q H locs la hz hl hM hS)
theorem ww_icmp_lt (pc tgt : Nat) (X : mCX G own cc nL ret nm rm x) {a b : Int32} {off : Int} (d : decode cc pc = .ok (.if_icmp .lt off, 3)) (ht : (pc : Int) + off = (tgt : Int)) (kt : a < b → WW x z M tgt lv st) (kf : ¬ a < b → WW x z M (pc + 3) lv st) : WW x z M pc lv (.int b :: .int a :: st) := by
  obtain ⟨D, G', A, p, l, e, R, s, m, args, below, meth, c, Q⟩ := x
  obtain ⟨hG, hrm, hx, hb, hml, hr, hlk, hnm, hown, hts, hK, hA, hE⟩ := X
  intro H locs la hz hl hM hS
  exact lv_icmp_lt hx hb d ht (fun q => kt q H locs la hz hl hM hS) (fun q => kf q H locs la hz hl hM hS)
theorem ww_if_ge (pc tgt : Nat) (X : mCX G own cc nL ret nm rm x) {a : Int32} {off : Int} (d : decode cc pc = .ok (.ifCond .ge off, 3)) (ht : (pc : Int) + off = (tgt : Int)) (kt : 0 ≤ a → WW x z M tgt lv st) (kf : ¬ 0 ≤ a → WW x z M (pc + 3) lv st) : WW x z M pc lv (.int a :: st) := by
  obtain ⟨D, G', A, p, l, e, R, s, m, args, below, meth, c, Q⟩ := x
  obtain ⟨hG, hrm, hx, hb, hml, hr, hlk, hnm, hown, hts, hK, hA, hE⟩ := X
  intro H locs la hz hl hM hS
  exact lv_if_ge hx hb d ht (fun q => kt q H locs la hz hl hM hS) (fun q => kf q H locs la hz hl hM hS)
theorem ww_icmp_ge (pc tgt : Nat) (X : mCX G own cc nL ret nm rm x) {a b : Int32} {off : Int} (d : decode cc pc = .ok (.if_icmp .ge off, 3)) (ht : (pc : Int) + off = (tgt : Int)) (kt : b ≤ a → WW x z M tgt lv st) (kf : ¬ b ≤ a → WW x z M (pc + 3) lv st) : WW x z M pc lv (.int b :: .int a :: st) := by
  obtain ⟨D, G', A, p, l, e, R, s, m, args, below, meth, c, Q⟩ := x
  obtain ⟨hG, hrm, hx, hb, hml, hr, hlk, hnm, hown, hts, hK, hA, hE⟩ := X
  intro H locs la hz hl hM hS
  exact lv_icmp_ge hx hb d ht (fun q => kt q H locs la hz hl hM hS) (fun q => kf q H locs la hz hl hM hS)
theorem ww_if_gt (pc tgt : Nat) (X : mCX G own cc nL ret nm rm x) {a : Int32} {off : Int} (d : decode cc pc = .ok (.ifCond .gt off, 3)) (ht : (pc : Int) + off = (tgt : Int)) (kt : 0 < a → WW x z M tgt lv st) (kf : ¬ 0 < a → WW x z M (pc + 3) lv st) : WW x z M pc lv (.int a :: st) := by
  obtain ⟨D, G', A, p, l, e, R, s, m, args, below, meth, c, Q⟩ := x
  obtain ⟨hG, hrm, hx, hb, hml, hr, hlk, hnm, hown, hts, hK, hA, hE⟩ := X
  intro H locs la hz hl hM hS
  exact lv_if_gt hx hb d ht (fun q => kt q H locs la hz hl hM hS) (fun q => kf q H locs la hz hl hM hS)
theorem ww_icmp_gt (pc tgt : Nat) (X : mCX G own cc nL ret nm rm x) {a b : Int32} {off : Int} (d : decode cc pc = .ok (.if_icmp .gt off, 3)) (ht : (pc : Int) + off = (tgt : Int)) (kt : b < a → WW x z M tgt lv st) (kf : ¬ b < a → WW x z M (pc + 3) lv st) : WW x z M pc lv (.int b :: .int a :: st) := by
  obtain ⟨D, G', A, p, l, e, R, s, m, args, below, meth, c, Q⟩ := x
  obtain ⟨hG, hrm, hx, hb, hml, hr, hlk, hnm, hown, hts, hK, hA, hE⟩ := X
  intro H locs la hz hl hM hS
  exact lv_icmp_gt hx hb d ht (fun q => kt q H locs la hz hl hM hS) (fun q => kf q H locs la hz hl hM hS)
theorem ww_if_le (pc tgt : Nat) (X : mCX G own cc nL ret nm rm x) {a : Int32} {off : Int} (d : decode cc pc = .ok (.ifCond .le off, 3)) (ht : (pc : Int) + off = (tgt : Int)) (kt : a ≤ 0 → WW x z M tgt lv st) (kf : ¬ a ≤ 0 → WW x z M (pc + 3) lv st) : WW x z M pc lv (.int a :: st) := by
  obtain ⟨D, G', A, p, l, e, R, s, m, args, below, meth, c, Q⟩ := x
  obtain ⟨hG, hrm, hx, hb, hml, hr, hlk, hnm, hown, hts, hK, hA, hE⟩ := X
  intro H locs la hz hl hM hS
  exact lv_if_le hx hb d ht (fun q => kt q H locs la hz hl hM hS) (fun q => kf q H locs la hz hl hM hS)
theorem ww_icmp_le (pc tgt : Nat) (X : mCX G own cc nL ret nm rm x) {a b : Int32} {off : Int} (d : decode cc pc = .ok (.if_icmp .le off, 3)) (ht : (pc : Int) + off = (tgt : Int)) (kt : a ≤ b → WW x z M tgt lv st) (kf : ¬ a ≤ b → WW x z M (pc + 3) lv st) : WW x z M pc lv (.int b :: .int a :: st) := by
  obtain ⟨D, G', A, p, l, e, R, s, m, args, below, meth, c, Q⟩ := x
  obtain ⟨hG, hrm, hx, hb, hml, hr, hlk, hnm, hown, hts, hK, hA, hE⟩ := X
  intro H locs la hz hl hM hS
  exact lv_icmp_le hx hb d ht (fun q => kt q H locs la hz hl hM hS) (fun q => kf q H locs la hz hl hM hS)
theorem ww_goto (pc tgt : Nat) (X : mCX G own cc nL ret nm rm x) {off : Int} (d : decode cc pc = .ok (.goto off, 3)) (ht : (pc : Int) + off = (tgt : Int)) (k : WW x z M tgt lv st) : WW x z M pc lv st := by
  obtain ⟨D, G', A, p, l, e, R, s, m, args, below, meth, c, Q⟩ := x
  obtain ⟨hG, hrm, hx, hb, hml, hr, hlk, hnm, hown, hts, hK, hA, hE⟩ := X
  intro H locs la hz hl hM hS
  exact lv_goto hx hb d ht (k H locs la hz hl hM hS)
theorem ww_lookup (pc tgt : Nat) (X : mCX G own cc nL ret nm rm x) {dflt : Int} {ps : Array (Int × Int)} {len : Nat} {a : Int32} {off : Int} (d : decode cc pc = .ok (.lookupswitch dflt ps, len)) (hp : (ps.toList.zip (ps.toList.drop 1)).all (fun (a, next) => a.1 < next.1) = true) (ho : Op.lookupswitch.offset ps.toList dflt a.toInt = off) (ht : (pc : Int) + off = (tgt : Int)) (k : WW x z M tgt lv st) : WW x z M pc lv (.int a :: st) := by
  obtain ⟨D, G', A, p, l, e, R, s, m, args, below, meth, c, Q⟩ := x
  obtain ⟨hG, hrm, hx, hb, hml, hr, hlk, hnm, hown, hts, hK, hA, hE⟩ := X
  intro H locs la hz hl hM hS
  exact lv_lookup hx hb d hp ho ht (k H locs la hz hl hM hS)
theorem ww_tableOut (pc tgt : Nat) (X : mCX G own cc nL ret nm rm x) {dflt lo hi : Int} {offs : Array Int} {len : Nat} {a : Int32} (d : decode cc pc = .ok (.tableswitch dflt lo hi offs, len)) (h : a.toInt < lo ∨ hi < a.toInt) (ht : (pc : Int) + dflt = (tgt : Int)) (k : WW x z M tgt lv st) : WW x z M pc lv (.int a :: st) := by
  obtain ⟨D, G', A, p, l, e, R, s, m, args, below, meth, c, Q⟩ := x
  obtain ⟨hG, hrm, hx, hb, hml, hr, hlk, hnm, hown, hts, hK, hA, hE⟩ := X
  intro H locs la hz hl hM hS
  exact lv_tableOut hx hb d h ht (k H locs la hz hl hM hS)
theorem ww_tableIn (pc tgt : Nat) (X : mCX G own cc nL ret nm rm x) {dflt lo hi : Int} {offs : Array Int} {len : Nat} {a : Int32} {off : Int} (d : decode cc pc = .ok (.tableswitch dflt lo hi offs, len)) (h1 : ¬ a.toInt < lo) (h2 : ¬ hi < a.toInt) (ho : offs[(a.toInt - lo).toNat]? = some off) (ht : (pc : Int) + off = (tgt : Int)) (k : WW x z M tgt lv st) : WW x z M pc lv (.int a :: st) := by
  obtain ⟨D, G', A, p, l, e, R, s, m, args, below, meth, c, Q⟩ := x
  obtain ⟨hG, hrm, hx, hb, hml, hr, hlk, hnm, hown, hts, hK, hA, hE⟩ := X
  intro H locs la hz hl hM hS
  exact lv_tableIn hx hb d h1 h2 ho ht (k H locs la hz hl hM hS)
theorem ww_sub {lv' : List (Nat × Value)} {pc : Nat} (is : List Nat) (h : lv_pick lv is = lv') (k : WW x z M pc lv' st) : WW x z M pc lv st := by
  obtain ⟨D, G', A, p, l, e, R, s, m, args, below, meth, c, Q⟩ := x
  intro H locs la hz hl hM hS
  exact k H locs la hz (lv_sub hl is h) hM hS
end MROWS
