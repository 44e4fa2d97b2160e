/-! THE CONSTANTS IN THE MACHINE: what the Statement gives of Strings and static tables -/
def sFl (own : String) (k : Nat) : Term := .field (.string own k) "java/lang/String" "value" "[B"
def strC (own : String) (k : Nat) (bs : List Int32) : List Cond := [.exactly (.string own k) "java/lang/String", .eq (.field (.string own k) "java/lang/String" "coder" "B") (.int 0), .arrayOf (sFl own k) .byte, .eq (.length (sFl own k)) (.int (Int32.ofNat bs.length))] ++ (List.range bs.length).map (fun j => .eq (.elem (sFl own k) (.int (Int32.ofNat j))) (.int (bs.getD j 0)))
def tabI (C n d : String) (bs : List Int32) : List Cond := [.isRef (.static C n d), .arrayOf (.static C n d) .int, .eq (.length (.static C n d)) (.int (Int32.ofNat bs.length))] ++ (List.range bs.length).map (fun j => .eq (.elem (.static C n d) (.int (Int32.ofNat j))) (.int (bs.getD j 0)))
def tabL (C n d : String) (bs : List Int64) : List Cond := [.isRef (.static C n d), .arrayOf (.static C n d) .long, .eq (.length (.static C n d)) (.int (Int32.ofNat bs.length))] ++ (List.range bs.length).map (fun j => .eq (.elem (.static C n d) (.int (Int32.ofNat j))) (.long (bs.getD j 0)))
def msegs : List (List Cond) := [
  [.arrayOf (.arg 0) .int],
  [.le (.length (.arg 0)) (.int (4096))],
  tabI "SealedTokens$Cipher" "SWAP" "[I" mt_0,
  [.eq (.static "java/lang/String" "COMPACT_STRINGS" "Z") (.int (1))],
  [.isRef (.static "jdk/internal/util/Preconditions" "SIOOBE_FORMATTER" "Ljava/util/function/BiFunction;")],
  [.eq (.static "java/lang/StringUTF16" "$assertionsDisabled" "Z") (.int (1))],
  [.eq (.static "java/lang/StringUTF16" "HI_BYTE_SHIFT" "I") (.int (0))],
  [.eq (.static "java/lang/StringUTF16" "LO_BYTE_SHIFT" "I") (.int (8))],
  tabI "SealedTokens$Digest" "START_256" "[I" mt_1,
  tabL "SealedTokens$Digest" "START_512" "[J" mt_2,
  tabL "SealedTokens$Digest" "ROUND_512" "[J" mt_3,
  tabI "SealedTokens$Digest" "ROUND_256" "[I" mt_4,
  tabI "SealedTokens" "WAY_KEY" "[I" mt_5,
  tabI "SealedTokens" "WAY_FIRST" "[I" mt_6,
  tabI "SealedTokens" "WAY_MARK" "[I" mt_7,
  tabI "SealedTokens$Rsa" "SHA_256_INFO" "[I" mt_8,
  tabL "SealedTokensModel" "K512" "[J" mt_9,
  tabI "SealedTokensModel" "K256" "[I" mt_10,
  strC "SealedTokens$Curve" 27 mb_0,
  strC "SealedTokens$Curve" 37 mb_1,
  strC "SealedTokens$Curve" 42 mb_2,
  strC "SealedTokens$Curve" 47 mb_3,
  strC "SealedTokens$Curve" 86 mb_4,
  strC "SealedTokens$Curve" 92 mb_5,
  strC "SealedTokens$Curve" 94 mb_6,
  strC "SealedTokens$Reader" 117 mb_7,
  strC "SealedTokens$Reader" 123 mb_8,
  strC "SealedTokens$Reader" 125 mb_9,
  strC "SealedTokens$Reader" 175 mb_10,
  strC "SealedTokens$Text" 134 mb_11,
  strC "SealedTokens$Text" 118 mb_12,
  [.eq (.string "SealedTokens$Reader" 117) (.string "SealedTokens$Text" 118)],
  strC "SealedTokens$Text" 124 mb_13,
  [.eq (.string "SealedTokens$Reader" 123) (.string "SealedTokens$Text" 124)],
  strC "SealedTokens$Text" 126 mb_14,
  [.eq (.string "SealedTokens$Reader" 125) (.string "SealedTokens$Text" 126)],
  strC "SealedTokens$Bytes" 71 mb_15,
  strC "SealedTokens$Key" 41 mb_16,
  strC "SealedTokens$Key" 47 mb_17,
  strC "SealedTokens$Key" 53 mb_18,
  strC "SealedTokens$Key" 55 mb_19,
  strC "SealedTokens$Key" 60 mb_20,
  strC "SealedTokens$Key" 65 mb_21,
  strC "SealedTokens$Key" 67 mb_22,
  strC "SealedTokens$Key" 68 mb_23,
  strC "SealedTokens$Key" 81 mb_24,
  strC "SealedTokens$Key" 104 mb_25,
  strC "SealedTokens$Key" 106 mb_26,
  strC "SealedTokens$Key" 112 mb_27,
  strC "SealedTokens$Key" 114 mb_28,
  strC "SealedTokens$Key" 116 mb_29,
  strC "SealedTokens$Key" 118 mb_30,
  strC "SealedTokens$Key" 134 mb_31,
  strC "SealedTokens$Key" 136 mb_32,
  strC "SealedTokens" 467 mb_33,
  strC "SealedTokens" 469 mb_34,
  strC "SealedTokens" 471 mb_35,
  strC "SealedTokens" 473 mb_36,
  strC "SealedTokens" 475 mb_37,
  strC "SealedTokens" 477 mb_38,
  strC "SealedTokens" 479 mb_39,
  strC "SealedTokens" 481 mb_40,
  strC "SealedTokens" 483 mb_41,
  strC "SealedTokens" 485 mb_42,
  strC "SealedTokens" 487 mb_43,
  strC "SealedTokens$Key" 179 mb_44,
  strC "SealedTokens$Key" 188 mb_45,
  strC "SealedTokens$Key" 190 mb_46,
  strC "SealedTokens$Key" 192 mb_47,
  strC "SealedTokens$Key" 194 mb_48,
  strC "SealedTokens$Key" 196 mb_49,
  strC "SealedTokens$Key" 205 mb_50,
  strC "SealedTokens$Key" 207 mb_51,
  strC "SealedTokens$Token" 249 mb_52,
  strC "SealedTokens$Token" 254 mb_53,
  strC "SealedTokens$Token" 172 mb_54,
  strC "SealedTokens$Token" 124 mb_55,
  [.eq (.string "SealedTokens$Key" 60) (.string "SealedTokens$Token" 124)],
  strC "SealedTokens$Token" 133 mb_56,
  [.eq (.string "SealedTokens$Key" 67) (.string "SealedTokens$Token" 133)],
  strC "SealedTokens$Token" 177 mb_57,
  strC "SealedTokens$Token" 260 mb_58,
  strC "SealedTokens" 489 mb_59,
  strC "SealedTokens" 491 mb_60,
  strC "SealedTokens" 493 mb_61,
  strC "SealedTokens" 495 mb_62,
  strC "SealedTokens$Token" 262 mb_63,
  strC "SealedTokens$Token" 268 mb_64,
  strC "SealedTokens$Token" 274 mb_65,
  strC "SealedTokens$Token" 199 mb_66,
  [.eq (.string "SealedTokens$Key" 136) (.string "SealedTokens$Token" 199)],
  strC "SealedTokens$Token" 201 mb_67,
  strC "SealedTokens$Token" 211 mb_68,
  strC "SealedTokens$Token" 213 mb_69,
  [.eq (.string "SealedTokens$Key" 41) (.string "SealedTokens$Token" 213)],
  strC "SealedTokens$Token" 215 mb_70,
  [.eq (.string "SealedTokens$Key" 55) (.string "SealedTokens$Token" 215)],
  strC "SealedTokens$Token" 224 mb_71,
  strC "SealedTokens$Token" 229 mb_72,
  strC "SealedTokensModel" 713 mb_73,
  [.eq (.string "SealedTokens$Curve" 27) (.string "SealedTokensModel" 713)],
  strC "SealedTokensModel" 718 mb_74,
  [.eq (.string "SealedTokens$Curve" 42) (.string "SealedTokensModel" 718)],
  strC "SealedTokensModel" 720 mb_75,
  [.eq (.string "SealedTokens$Curve" 92) (.string "SealedTokensModel" 720)],
  strC "SealedTokensModel" 722 mb_76,
  [.eq (.string "SealedTokens$Curve" 94) (.string "SealedTokensModel" 722)],
  strC "SealedTokensModel" 724 mb_77,
  [.eq (.string "SealedTokens$Curve" 86) (.string "SealedTokensModel" 724)],
  strC "SealedTokensModel" 430 mb_78,
  strC "SealedTokensModel" 389 mb_79,
  [.eq (.string "SealedTokens$Reader" 125) (.string "SealedTokensModel" 389)],
  [.eq (.string "SealedTokens$Text" 126) (.string "SealedTokensModel" 389)],
  strC "SealedTokensModel" 391 mb_80,
  [.eq (.string "SealedTokens$Reader" 123) (.string "SealedTokensModel" 391)],
  [.eq (.string "SealedTokens$Text" 124) (.string "SealedTokensModel" 391)],
  strC "SealedTokensModel" 393 mb_81,
  [.eq (.string "SealedTokens$Reader" 117) (.string "SealedTokensModel" 393)],
  [.eq (.string "SealedTokens$Text" 118) (.string "SealedTokensModel" 393)],
  strC "SealedTokensModel" 473 mb_82,
  strC "SealedTokensModel" 475 mb_83,
  [.eq (.string "SealedTokens$Text" 134) (.string "SealedTokensModel" 475)],
  strC "SealedTokensModel" 800 mb_84,
  [.eq (.string "SealedTokens$Key" 41) (.string "SealedTokensModel" 800)],
  [.eq (.string "SealedTokens$Token" 213) (.string "SealedTokensModel" 800)],
  strC "SealedTokensModel" 801 mb_85,
  [.eq (.string "SealedTokens$Key" 47) (.string "SealedTokensModel" 801)],
  strC "SealedTokensModel" 806 mb_86,
  [.eq (.string "SealedTokens$Key" 53) (.string "SealedTokensModel" 806)],
  strC "SealedTokensModel" 808 mb_87,
  [.eq (.string "SealedTokens$Key" 55) (.string "SealedTokensModel" 808)],
  [.eq (.string "SealedTokens$Token" 215) (.string "SealedTokensModel" 808)],
  strC "SealedTokensModel" 810 mb_88,
  [.eq (.string "SealedTokens$Key" 60) (.string "SealedTokensModel" 810)],
  [.eq (.string "SealedTokens$Token" 124) (.string "SealedTokensModel" 810)],
  strC "SealedTokensModel" 815 mb_89,
  [.eq (.string "SealedTokens$Key" 65) (.string "SealedTokensModel" 815)],
  strC "SealedTokensModel" 816 mb_90,
  [.eq (.string "SealedTokens$Key" 67) (.string "SealedTokensModel" 816)],
  [.eq (.string "SealedTokens$Token" 133) (.string "SealedTokensModel" 816)],
  strC "SealedTokensModel" 824 mb_91,
  [.eq (.string "SealedTokens$Key" 112) (.string "SealedTokensModel" 824)],
  strC "SealedTokensModel" 826 mb_92,
  [.eq (.string "SealedTokens$Key" 114) (.string "SealedTokensModel" 826)],
  strC "SealedTokensModel" 828 mb_93,
  [.eq (.string "SealedTokens$Key" 81) (.string "SealedTokensModel" 828)],
  strC "SealedTokensModel" 830 mb_94,
  [.eq (.string "SealedTokens$Key" 104) (.string "SealedTokensModel" 830)],
  strC "SealedTokensModel" 832 mb_95,
  [.eq (.string "SealedTokens$Key" 116) (.string "SealedTokensModel" 832)],
  strC "SealedTokensModel" 841 mb_96,
  [.eq (.string "SealedTokens$Key" 106) (.string "SealedTokensModel" 841)],
  strC "SealedTokensModel" 843 mb_97,
  [.eq (.string "SealedTokens$Key" 118) (.string "SealedTokensModel" 843)],
  strC "SealedTokensModel" 845 mb_98,
  [.eq (.string "SealedTokens$Key" 68) (.string "SealedTokensModel" 845)],
  strC "SealedTokensModel" 864 mb_99,
  [.eq (.string "SealedTokens$Key" 134) (.string "SealedTokensModel" 864)],
  strC "SealedTokensModel" 865 mb_100,
  [.eq (.string "SealedTokens$Key" 136) (.string "SealedTokensModel" 865)],
  [.eq (.string "SealedTokens$Token" 199) (.string "SealedTokensModel" 865)],
  strC "SealedTokensModel" 873 mb_101,
  [.eq (.string "SealedTokens$Key" 179) (.string "SealedTokensModel" 873)],
  strC "SealedTokensModel" 879 mb_102,
  [.eq (.string "SealedTokens$Key" 188) (.string "SealedTokensModel" 879)],
  strC "SealedTokensModel" 881 mb_103,
  [.eq (.string "SealedTokens$Key" 190) (.string "SealedTokensModel" 881)],
  strC "SealedTokensModel" 883 mb_104,
  [.eq (.string "SealedTokens$Key" 192) (.string "SealedTokensModel" 883)],
  strC "SealedTokensModel" 885 mb_105,
  [.eq (.string "SealedTokens$Key" 194) (.string "SealedTokensModel" 885)],
  strC "SealedTokensModel" 887 mb_106,
  strC "SealedTokensModel" 889 mb_107,
  [.eq (.string "SealedTokens$Key" 207) (.string "SealedTokensModel" 889)],
  strC "SealedTokensModel" 914 mb_108,
  strC "SealedTokensModel" 982 mb_109,
  [.eq (.string "SealedTokens$Token" 249) (.string "SealedTokensModel" 982)],
  strC "SealedTokensModel" 988 mb_110,
  [.eq (.string "SealedTokens$Token" 260) (.string "SealedTokensModel" 988)],
  strC "SealedTokensModel" 922 mb_111,
  strC "SealedTokensModel" 990 mb_112,
  [.eq (.string "SealedTokens$Token" 254) (.string "SealedTokensModel" 990)],
  strC "SealedTokensModel" 782 mb_113,
  strC "SealedTokensModel" 899 mb_114,
  [.eq (.string "SealedTokens$Token" 172) (.string "SealedTokensModel" 899)],
  strC "SealedTokensModel" 904 mb_115,
  [.eq (.string "SealedTokens$Token" 201) (.string "SealedTokensModel" 904)],
  strC "SealedTokensModel" 936 mb_116,
  [.eq (.string "SealedTokens$Token" 177) (.string "SealedTokensModel" 936)],
  strC "SealedTokensModel" 912 mb_117,
  strC "SealedTokensModel" 938 mb_118,
  [.eq (.string "SealedTokens$Token" 211) (.string "SealedTokensModel" 938)],
  strC "SealedTokensModel" 940 mb_119,
  [.eq (.string "SealedTokens$Token" 224) (.string "SealedTokensModel" 940)],
  strC "SealedTokensModel" 945 mb_120,
  [.eq (.string "SealedTokens$Token" 229) (.string "SealedTokensModel" 945)],
  strC "SealedTokensModel" 1061 mb_121,
  strC "SealedTokensModel" 1063 mb_122,
  [.eq (.string "SealedTokens$Token" 268) (.string "SealedTokensModel" 1063)],
  strC "SealedTokensModel" 1065 mb_123,
  [.eq (.string "SealedTokens$Token" 274) (.string "SealedTokensModel" 1065)],
  [.not (.eq (.arg 0) (.static "SealedTokens$Cipher" "SWAP" "[I"))],
  [.not (.eq (.arg 0) (.static "SealedTokens$Digest" "START_256" "[I"))],
  [.not (.eq (.static "SealedTokens$Digest" "ROUND_512" "[J") (.static "SealedTokensModel" "K512" "[J"))],
  [.not (.eq (.arg 0) (.static "SealedTokens$Digest" "ROUND_256" "[I"))],
  [.not (.eq (.static "SealedTokens$Digest" "ROUND_256" "[I") (.static "SealedTokensModel" "K256" "[I"))],
  [.not (.eq (.arg 0) (.static "SealedTokens" "WAY_KEY" "[I"))],
  [.not (.eq (.arg 0) (.static "SealedTokens" "WAY_FIRST" "[I"))],
  [.not (.eq (.arg 0) (.static "SealedTokens" "WAY_MARK" "[I"))],
  [.not (.eq (.arg 0) (.static "SealedTokens$Rsa" "SHA_256_INFO" "[I"))],
  [.not (.eq (.arg 0) (.static "SealedTokensModel" "K256" "[I"))]]
set_option maxRecDepth 100000 in
theorem flat_eq : flatC narrow_1 = msegs.flatten := by decide +kernel
theorem seg_before {args : Array Value} {s : State} (h : (Jvm.Cond.and given_1 narrow_1).before args s = true) {i : Nat} {l : List Cond} (hi : msegs[i]? = some l) : ∀ c ∈ l, c.before args s = true := by
  intro c hc
  refine flat_of_before _ h c ?_
  show c ∈ flatC given_1 ++ flatC narrow_1
  rw [flat_eq]
  exact List.mem_append_right _ (List.mem_flatten.mpr ⟨l, List.mem_of_getElem? hi, hc⟩)
theorem str_facts {args : Array Value} {s : State} {A : Nat → Prop} {own : String} {k : Nat} {bs : List Int32} (hl : bs.length < 2 ^ 31) (h : ∀ c ∈ strC own k bs, c.before args s = true) (hA : ∀ a : Nat, a < s.heap.size → ¬ A a) : ∃ q : Nat × Nat, (Term.string own k).eval args s none [] s = some (.ref q.1) ∧ mStr A q.1 [.ref q.2, .int 0] s s.heap ∧ va_T .byte q.2 bs.length (fun j => .int (bs.getD j 0)) A s s.heap := by
  have e1 := h (.exactly (.string own k) "java/lang/String") (by simp [strC])
  have e2 := h (.eq (.field (.string own k) "java/lang/String" "coder" "B") (.int 0)) (by simp [strC])
  have e3 := h (.arrayOf (sFl own k) .byte) (by simp [strC])
  have e4 := h (.eq (.length (sFl own k)) (.int (Int32.ofNat bs.length))) (by simp [strC])
  have e5 : ∀ j, j < bs.length → (Cond.eq (.elem (sFl own k) (.int (Int32.ofNat j))) (.int (bs.getD j 0))).before args s = true := fun j hj => h _ (List.mem_append_right _ (List.mem_map.mpr ⟨j, List.mem_range.mpr hj, rfl⟩))
  obtain ⟨a, c, cA, kA, q1, q2, q3, q4, q5, q6, -⟩ := Cond.exactly_spec (args := args) (first := s) (o := none) (s := s) (idx := []) (t := .string own k) (cls := "java/lang/String") e1
  obtain ⟨t, ht, hT⟩ := va_Tof (f := fun j => .int (bs.getD j 0)) (A := A) hl e3 (va_eqt e4) (fun j hj => va_eqt (e5 j hj)) hA
  exact ⟨(a, t), q1, ⟨⟨cA, q3, q5, by rw [q6]; exact q2, hA a (Array.getElem?_eq_some_iff.mp q3).1⟩, t, 0, rfl, vk_OFof q1 ht hA, vk_OFof q1 (va_eqt e2) hA⟩, hT⟩
theorem tabI_facts {args : Array Value} {s : State} {A : Nat → Prop} {C n d : String} {bs : List Int32} (hl : bs.length < 2 ^ 31) (h : ∀ c ∈ tabI C n d bs, c.before args s = true) (h1 : (Cond.laysStatic C n d).before args s = true) (h2 : (Cond.initialized C).before args s = true) (hA : ∀ a : Nat, a < s.heap.size → ¬ A a) : ∃ t : Nat, va_Z C n d (.ref t) A s s.heap ∧ va_T .int t bs.length (fun j => .int (bs.getD j 0)) A s s.heap := by
  have e3 := h (.arrayOf (.static C n d) .int) (by simp [tabI])
  have e4 := h (.eq (.length (.static C n d)) (.int (Int32.ofNat bs.length))) (by simp [tabI])
  have e5 : ∀ j, j < bs.length → (Cond.eq (.elem (.static C n d) (.int (Int32.ofNat j))) (.int (bs.getD j 0))).before args s = true := fun j hj => h _ (List.mem_append_right _ (List.mem_map.mpr ⟨j, List.mem_range.mpr hj, rfl⟩))
  obtain ⟨t, ht, hT⟩ := va_Tof (f := fun j => .int (bs.getD j 0)) (A := A) hl e3 (va_eqt e4) (fun j hj => va_eqt (e5 j hj)) hA
  exact ⟨t, va_Zof h1 h2 ht hA, hT⟩
theorem tabL_facts {args : Array Value} {s : State} {A : Nat → Prop} {C n d : String} {bs : List Int64} (hl : bs.length < 2 ^ 31) (h : ∀ c ∈ tabL C n d bs, c.before args s = true) (h1 : (Cond.laysStatic C n d).before args s = true) (h2 : (Cond.initialized C).before args s = true) (hA : ∀ a : Nat, a < s.heap.size → ¬ A a) : ∃ t : Nat, va_Z C n d (.ref t) A s s.heap ∧ va_T .long t bs.length (fun j => .long (bs.getD j 0)) A s s.heap := by
  have e3 := h (.arrayOf (.static C n d) .long) (by simp [tabL])
  have e4 := h (.eq (.length (.static C n d)) (.int (Int32.ofNat bs.length))) (by simp [tabL])
  have e5 : ∀ j, j < bs.length → (Cond.eq (.elem (.static C n d) (.int (Int32.ofNat j))) (.long (bs.getD j 0))).before args s = true := fun j hj => h _ (List.mem_append_right _ (List.mem_map.mpr ⟨j, List.mem_range.mpr hj, rfl⟩))
  obtain ⟨t, ht, hT⟩ := va_Tof (f := fun j => .long (bs.getD j 0)) (A := A) hl e3 (va_eqt e4) (fun j hj => va_eqtl (e5 j hj)) hA
  exact ⟨t, va_Zof h1 h2 ht hA, hT⟩
/-- one cell holds one table -/
theorem va_T_n {ty ty' : FieldType} {t N1 N2 : Nat} {f1 f2 : Nat → Value} {A : Nat → Prop} {U : State} {H : Heap} (h1 : va_T ty t N1 f1 A U H) (h2 : va_T ty' t N2 f2 A U H) (l1 : N1 < 2 ^ 31) (l2 : N2 < 2 ^ 31) : N1 = N2 ∧ ∀ j, j < N1 → f1 j = f2 j := by
  obtain ⟨c1, a1, a2, a3, a4, a5, a6, a7⟩ := h1
  obtain ⟨c2, b1, b2, b3, b4, b5, b6, b7⟩ := h2
  cases a1.symm.trans b1
  have e : nI N1 = nI N2 := a5.symm.trans b5
  have hn : N1 = N2 := (nI_eq l1 l2).mp e
  subst hn
  exact ⟨rfl, fun j hj => Option.some.inj ((a6 j hj).symm.trans (b6 j hj))⟩
theorem list_eq {α : Type} {l1 l2 : List α} {d : α} (h : l1.length = l2.length) (h2 : ∀ j, j < l1.length → l1.getD j d = l2.getD j d) : l1 = l2 := by
  apply List.ext_getElem h
  intro j h3 h4
  have := h2 j h3
  rw [List.getD_eq_getElem?_getD, List.getD_eq_getElem?_getD, List.getElem?_eq_getElem h3, List.getElem?_eq_getElem h4] at this
  exact this
theorem mStr_v {A : Nat → Prop} {a v1 v2 : Nat} {U : State} {H : Heap} (h1 : mStr A a [.ref v1, .int 0] U H) (h2 : mStr A a [.ref v2, .int 0] U H) : v1 = v2 := by
  obtain ⟨-, w1, c1, e1, ⟨cf, k, i, f, cell, g1, g2, g3, g4, g5, g6⟩, -⟩ := h1
  obtain ⟨-, w2, c2, e2, ⟨cf', k', i', f', cell', g1', g2', g3', g4', g5', g6'⟩, -⟩ := h2
  cases e1
  cases e2
  cases g1.symm.trans g1'
  cases g3.symm.trans g3'
  cases g5.symm.trans g5'
  rfl
theorem mstrs_len : mstrs.length = 124 := by decide
set_option maxRecDepth 100000 in
theorem all_strs {args : Array Value} {s : State} {A : Nat → Prop} (h : (Jvm.Cond.and given_1 narrow_1).before args s = true) (hA : ∀ a : Nat, a < s.heap.size → ¬ A a) : ∀ j, j < 124 → ∃ q : Nat × Nat, (Term.string (mstrs.getD j ("", 0, "")).1 (mstrs.getD j ("", 0, "")).2.1).eval args s none [] s = some (.ref q.1) ∧ mStr A q.1 [.ref q.2, .int 0] s s.heap ∧ va_T .byte q.2 (mbyt.getD j []).length (fun i => .int ((mbyt.getD j []).getD i 0)) A s s.heap := by
  exact (lt_s (lt_s (lt_s (lt_s (lt_s (lt_s (lt_s (lt_s (lt_s (lt_s (lt_s (lt_s (lt_s (lt_s (lt_s (lt_s (lt_s (lt_s (lt_s (lt_s (lt_s (lt_s (lt_s (lt_s (lt_s (lt_s (lt_s (lt_s (lt_s (lt_s (lt_s (lt_s (lt_s (lt_s (lt_s (lt_s (lt_s (lt_s (lt_s (lt_s (lt_s (lt_s (lt_s (lt_s (lt_s (lt_s (lt_s (lt_s (lt_s (lt_s (lt_s (lt_s (lt_s (lt_s (lt_s (lt_s (lt_s (lt_s (lt_s (lt_s (lt_s (lt_s (lt_s (lt_s (lt_s (lt_s (lt_s (lt_s (lt_s (lt_s (lt_s (lt_s (lt_s (lt_s (lt_s (lt_s (lt_s (lt_s (lt_s (lt_s (lt_s (lt_s (lt_s (lt_s (lt_s (lt_s (lt_s (lt_s (lt_s (lt_s (lt_s (lt_s (lt_s (lt_s (lt_s (lt_s (lt_s (lt_s (lt_s (lt_s (lt_s (lt_s (lt_s (lt_s (lt_s (lt_s (lt_s (lt_s (lt_s (lt_s (lt_s (lt_s (lt_s (lt_s (lt_s (lt_s (lt_s (lt_s (lt_s (lt_s (lt_s (lt_s (lt_s (lt_s lt_0 (str_facts (own := "SealedTokens$Curve") (k := 27) (bs := mb_0) (by decide) (seg_before h (i := 18) rfl) hA)) (str_facts (own := "SealedTokens$Curve") (k := 37) (bs := mb_1) (by decide) (seg_before h (i := 19) rfl) hA)) (str_facts (own := "SealedTokens$Curve") (k := 42) (bs := mb_2) (by decide) (seg_before h (i := 20) rfl) hA)) (str_facts (own := "SealedTokens$Curve") (k := 47) (bs := mb_3) (by decide) (seg_before h (i := 21) rfl) hA)) (str_facts (own := "SealedTokens$Curve") (k := 86) (bs := mb_4) (by decide) (seg_before h (i := 22) rfl) hA)) (str_facts (own := "SealedTokens$Curve") (k := 92) (bs := mb_5) (by decide) (seg_before h (i := 23) rfl) hA)) (str_facts (own := "SealedTokens$Curve") (k := 94) (bs := mb_6) (by decide) (seg_before h (i := 24) rfl) hA)) (str_facts (own := "SealedTokens$Reader") (k := 117) (bs := mb_7) (by decide) (seg_before h (i := 25) rfl) hA)) (str_facts (own := "SealedTokens$Reader") (k := 123) (bs := mb_8) (by decide) (seg_before h (i := 26) rfl) hA)) (str_facts (own := "SealedTokens$Reader") (k := 125) (bs := mb_9) (by decide) (seg_before h (i := 27) rfl) hA)) (str_facts (own := "SealedTokens$Reader") (k := 175) (bs := mb_10) (by decide) (seg_before h (i := 28) rfl) hA)) (str_facts (own := "SealedTokens$Text") (k := 134) (bs := mb_11) (by decide) (seg_before h (i := 29) rfl) hA)) (str_facts (own := "SealedTokens$Text") (k := 118) (bs := mb_12) (by decide) (seg_before h (i := 30) rfl) hA)) (str_facts (own := "SealedTokens$Text") (k := 124) (bs := mb_13) (by decide) (seg_before h (i := 32) rfl) hA)) (str_facts (own := "SealedTokens$Text") (k := 126) (bs := mb_14) (by decide) (seg_before h (i := 34) rfl) hA)) (str_facts (own := "SealedTokens$Bytes") (k := 71) (bs := mb_15) (by decide) (seg_before h (i := 36) rfl) hA)) (str_facts (own := "SealedTokens$Key") (k := 41) (bs := mb_16) (by decide) (seg_before h (i := 37) rfl) hA)) (str_facts (own := "SealedTokens$Key") (k := 47) (bs := mb_17) (by decide) (seg_before h (i := 38) rfl) hA)) (str_facts (own := "SealedTokens$Key") (k := 53) (bs := mb_18) (by decide) (seg_before h (i := 39) rfl) hA)) (str_facts (own := "SealedTokens$Key") (k := 55) (bs := mb_19) (by decide) (seg_before h (i := 40) rfl) hA)) (str_facts (own := "SealedTokens$Key") (k := 60) (bs := mb_20) (by decide) (seg_before h (i := 41) rfl) hA)) (str_facts (own := "SealedTokens$Key") (k := 65) (bs := mb_21) (by decide) (seg_before h (i := 42) rfl) hA)) (str_facts (own := "SealedTokens$Key") (k := 67) (bs := mb_22) (by decide) (seg_before h (i := 43) rfl) hA)) (str_facts (own := "SealedTokens$Key") (k := 68) (bs := mb_23) (by decide) (seg_before h (i := 44) rfl) hA)) (str_facts (own := "SealedTokens$Key") (k := 81) (bs := mb_24) (by decide) (seg_before h (i := 45) rfl) hA)) (str_facts (own := "SealedTokens$Key") (k := 104) (bs := mb_25) (by decide) (seg_before h (i := 46) rfl) hA)) (str_facts (own := "SealedTokens$Key") (k := 106) (bs := mb_26) (by decide) (seg_before h (i := 47) rfl) hA)) (str_facts (own := "SealedTokens$Key") (k := 112) (bs := mb_27) (by decide) (seg_before h (i := 48) rfl) hA)) (str_facts (own := "SealedTokens$Key") (k := 114) (bs := mb_28) (by decide) (seg_before h (i := 49) rfl) hA)) (str_facts (own := "SealedTokens$Key") (k := 116) (bs := mb_29) (by decide) (seg_before h (i := 50) rfl) hA)) (str_facts (own := "SealedTokens$Key") (k := 118) (bs := mb_30) (by decide) (seg_before h (i := 51) rfl) hA)) (str_facts (own := "SealedTokens$Key") (k := 134) (bs := mb_31) (by decide) (seg_before h (i := 52) rfl) hA)) (str_facts (own := "SealedTokens$Key") (k := 136) (bs := mb_32) (by decide) (seg_before h (i := 53) rfl) hA)) (str_facts (own := "SealedTokens") (k := 467) (bs := mb_33) (by decide) (seg_before h (i := 54) rfl) hA)) (str_facts (own := "SealedTokens") (k := 469) (bs := mb_34) (by decide) (seg_before h (i := 55) rfl) hA)) (str_facts (own := "SealedTokens") (k := 471) (bs := mb_35) (by decide) (seg_before h (i := 56) rfl) hA)) (str_facts (own := "SealedTokens") (k := 473) (bs := mb_36) (by decide) (seg_before h (i := 57) rfl) hA)) (str_facts (own := "SealedTokens") (k := 475) (bs := mb_37) (by decide) (seg_before h (i := 58) rfl) hA)) (str_facts (own := "SealedTokens") (k := 477) (bs := mb_38) (by decide) (seg_before h (i := 59) rfl) hA)) (str_facts (own := "SealedTokens") (k := 479) (bs := mb_39) (by decide) (seg_before h (i := 60) rfl) hA)) (str_facts (own := "SealedTokens") (k := 481) (bs := mb_40) (by decide) (seg_before h (i := 61) rfl) hA)) (str_facts (own := "SealedTokens") (k := 483) (bs := mb_41) (by decide) (seg_before h (i := 62) rfl) hA)) (str_facts (own := "SealedTokens") (k := 485) (bs := mb_42) (by decide) (seg_before h (i := 63) rfl) hA)) (str_facts (own := "SealedTokens") (k := 487) (bs := mb_43) (by decide) (seg_before h (i := 64) rfl) hA)) (str_facts (own := "SealedTokens$Key") (k := 179) (bs := mb_44) (by decide) (seg_before h (i := 65) rfl) hA)) (str_facts (own := "SealedTokens$Key") (k := 188) (bs := mb_45) (by decide) (seg_before h (i := 66) rfl) hA)) (str_facts (own := "SealedTokens$Key") (k := 190) (bs := mb_46) (by decide) (seg_before h (i := 67) rfl) hA)) (str_facts (own := "SealedTokens$Key") (k := 192) (bs := mb_47) (by decide) (seg_before h (i := 68) rfl) hA)) (str_facts (own := "SealedTokens$Key") (k := 194) (bs := mb_48) (by decide) (seg_before h (i := 69) rfl) hA)) (str_facts (own := "SealedTokens$Key") (k := 196) (bs := mb_49) (by decide) (seg_before h (i := 70) rfl) hA)) (str_facts (own := "SealedTokens$Key") (k := 205) (bs := mb_50) (by decide) (seg_before h (i := 71) rfl) hA)) (str_facts (own := "SealedTokens$Key") (k := 207) (bs := mb_51) (by decide) (seg_before h (i := 72) rfl) hA)) (str_facts (own := "SealedTokens$Token") (k := 249) (bs := mb_52) (by decide) (seg_before h (i := 73) rfl) hA)) (str_facts (own := "SealedTokens$Token") (k := 254) (bs := mb_53) (by decide) (seg_before h (i := 74) rfl) hA)) (str_facts (own := "SealedTokens$Token") (k := 172) (bs := mb_54) (by decide) (seg_before h (i := 75) rfl) hA)) (str_facts (own := "SealedTokens$Token") (k := 124) (bs := mb_55) (by decide) (seg_before h (i := 76) rfl) hA)) (str_facts (own := "SealedTokens$Token") (k := 133) (bs := mb_56) (by decide) (seg_before h (i := 78) rfl) hA)) (str_facts (own := "SealedTokens$Token") (k := 177) (bs := mb_57) (by decide) (seg_before h (i := 80) rfl) hA)) (str_facts (own := "SealedTokens$Token") (k := 260) (bs := mb_58) (by decide) (seg_before h (i := 81) rfl) hA)) (str_facts (own := "SealedTokens") (k := 489) (bs := mb_59) (by decide) (seg_before h (i := 82) rfl) hA)) (str_facts (own := "SealedTokens") (k := 491) (bs := mb_60) (by decide) (seg_before h (i := 83) rfl) hA)) (str_facts (own := "SealedTokens") (k := 493) (bs := mb_61) (by decide) (seg_before h (i := 84) rfl) hA)) (str_facts (own := "SealedTokens") (k := 495) (bs := mb_62) (by decide) (seg_before h (i := 85) rfl) hA)) (str_facts (own := "SealedTokens$Token") (k := 262) (bs := mb_63) (by decide) (seg_before h (i := 86) rfl) hA)) (str_facts (own := "SealedTokens$Token") (k := 268) (bs := mb_64) (by decide) (seg_before h (i := 87) rfl) hA)) (str_facts (own := "SealedTokens$Token") (k := 274) (bs := mb_65) (by decide) (seg_before h (i := 88) rfl) hA)) (str_facts (own := "SealedTokens$Token") (k := 199) (bs := mb_66) (by decide) (seg_before h (i := 89) rfl) hA)) (str_facts (own := "SealedTokens$Token") (k := 201) (bs := mb_67) (by decide) (seg_before h (i := 91) rfl) hA)) (str_facts (own := "SealedTokens$Token") (k := 211) (bs := mb_68) (by decide) (seg_before h (i := 92) rfl) hA)) (str_facts (own := "SealedTokens$Token") (k := 213) (bs := mb_69) (by decide) (seg_before h (i := 93) rfl) hA)) (str_facts (own := "SealedTokens$Token") (k := 215) (bs := mb_70) (by decide) (seg_before h (i := 95) rfl) hA)) (str_facts (own := "SealedTokens$Token") (k := 224) (bs := mb_71) (by decide) (seg_before h (i := 97) rfl) hA)) (str_facts (own := "SealedTokens$Token") (k := 229) (bs := mb_72) (by decide) (seg_before h (i := 98) rfl) hA)) (str_facts (own := "SealedTokensModel") (k := 713) (bs := mb_73) (by decide) (seg_before h (i := 99) rfl) hA)) (str_facts (own := "SealedTokensModel") (k := 718) (bs := mb_74) (by decide) (seg_before h (i := 101) rfl) hA)) (str_facts (own := "SealedTokensModel") (k := 720) (bs := mb_75) (by decide) (seg_before h (i := 103) rfl) hA)) (str_facts (own := "SealedTokensModel") (k := 722) (bs := mb_76) (by decide) (seg_before h (i := 105) rfl) hA)) (str_facts (own := "SealedTokensModel") (k := 724) (bs := mb_77) (by decide) (seg_before h (i := 107) rfl) hA)) (str_facts (own := "SealedTokensModel") (k := 430) (bs := mb_78) (by decide) (seg_before h (i := 109) rfl) hA)) (str_facts (own := "SealedTokensModel") (k := 389) (bs := mb_79) (by decide) (seg_before h (i := 110) rfl) hA)) (str_facts (own := "SealedTokensModel") (k := 391) (bs := mb_80) (by decide) (seg_before h (i := 113) rfl) hA)) (str_facts (own := "SealedTokensModel") (k := 393) (bs := mb_81) (by decide) (seg_before h (i := 116) rfl) hA)) (str_facts (own := "SealedTokensModel") (k := 473) (bs := mb_82) (by decide) (seg_before h (i := 119) rfl) hA)) (str_facts (own := "SealedTokensModel") (k := 475) (bs := mb_83) (by decide) (seg_before h (i := 120) rfl) hA)) (str_facts (own := "SealedTokensModel") (k := 800) (bs := mb_84) (by decide) (seg_before h (i := 122) rfl) hA)) (str_facts (own := "SealedTokensModel") (k := 801) (bs := mb_85) (by decide) (seg_before h (i := 125) rfl) hA)) (str_facts (own := "SealedTokensModel") (k := 806) (bs := mb_86) (by decide) (seg_before h (i := 127) rfl) hA)) (str_facts (own := "SealedTokensModel") (k := 808) (bs := mb_87) (by decide) (seg_before h (i := 129) rfl) hA)) (str_facts (own := "SealedTokensModel") (k := 810) (bs := mb_88) (by decide) (seg_before h (i := 132) rfl) hA)) (str_facts (own := "SealedTokensModel") (k := 815) (bs := mb_89) (by decide) (seg_before h (i := 135) rfl) hA)) (str_facts (own := "SealedTokensModel") (k := 816) (bs := mb_90) (by decide) (seg_before h (i := 137) rfl) hA)) (str_facts (own := "SealedTokensModel") (k := 824) (bs := mb_91) (by decide) (seg_before h (i := 140) rfl) hA)) (str_facts (own := "SealedTokensModel") (k := 826) (bs := mb_92) (by decide) (seg_before h (i := 142) rfl) hA)) (str_facts (own := "SealedTokensModel") (k := 828) (bs := mb_93) (by decide) (seg_before h (i := 144) rfl) hA)) (str_facts (own := "SealedTokensModel") (k := 830) (bs := mb_94) (by decide) (seg_before h (i := 146) rfl) hA)) (str_facts (own := "SealedTokensModel") (k := 832) (bs := mb_95) (by decide) (seg_before h (i := 148) rfl) hA)) (str_facts (own := "SealedTokensModel") (k := 841) (bs := mb_96) (by decide) (seg_before h (i := 150) rfl) hA)) (str_facts (own := "SealedTokensModel") (k := 843) (bs := mb_97) (by decide) (seg_before h (i := 152) rfl) hA)) (str_facts (own := "SealedTokensModel") (k := 845) (bs := mb_98) (by decide) (seg_before h (i := 154) rfl) hA)) (str_facts (own := "SealedTokensModel") (k := 864) (bs := mb_99) (by decide) (seg_before h (i := 156) rfl) hA)) (str_facts (own := "SealedTokensModel") (k := 865) (bs := mb_100) (by decide) (seg_before h (i := 158) rfl) hA)) (str_facts (own := "SealedTokensModel") (k := 873) (bs := mb_101) (by decide) (seg_before h (i := 161) rfl) hA)) (str_facts (own := "SealedTokensModel") (k := 879) (bs := mb_102) (by decide) (seg_before h (i := 163) rfl) hA)) (str_facts (own := "SealedTokensModel") (k := 881) (bs := mb_103) (by decide) (seg_before h (i := 165) rfl) hA)) (str_facts (own := "SealedTokensModel") (k := 883) (bs := mb_104) (by decide) (seg_before h (i := 167) rfl) hA)) (str_facts (own := "SealedTokensModel") (k := 885) (bs := mb_105) (by decide) (seg_before h (i := 169) rfl) hA)) (str_facts (own := "SealedTokensModel") (k := 887) (bs := mb_106) (by decide) (seg_before h (i := 171) rfl) hA)) (str_facts (own := "SealedTokensModel") (k := 889) (bs := mb_107) (by decide) (seg_before h (i := 172) rfl) hA)) (str_facts (own := "SealedTokensModel") (k := 914) (bs := mb_108) (by decide) (seg_before h (i := 174) rfl) hA)) (str_facts (own := "SealedTokensModel") (k := 982) (bs := mb_109) (by decide) (seg_before h (i := 175) rfl) hA)) (str_facts (own := "SealedTokensModel") (k := 988) (bs := mb_110) (by decide) (seg_before h (i := 177) rfl) hA)) (str_facts (own := "SealedTokensModel") (k := 922) (bs := mb_111) (by decide) (seg_before h (i := 179) rfl) hA)) (str_facts (own := "SealedTokensModel") (k := 990) (bs := mb_112) (by decide) (seg_before h (i := 180) rfl) hA)) (str_facts (own := "SealedTokensModel") (k := 782) (bs := mb_113) (by decide) (seg_before h (i := 182) rfl) hA)) (str_facts (own := "SealedTokensModel") (k := 899) (bs := mb_114) (by decide) (seg_before h (i := 183) rfl) hA)) (str_facts (own := "SealedTokensModel") (k := 904) (bs := mb_115) (by decide) (seg_before h (i := 185) rfl) hA)) (str_facts (own := "SealedTokensModel") (k := 936) (bs := mb_116) (by decide) (seg_before h (i := 187) rfl) hA)) (str_facts (own := "SealedTokensModel") (k := 912) (bs := mb_117) (by decide) (seg_before h (i := 189) rfl) hA)) (str_facts (own := "SealedTokensModel") (k := 938) (bs := mb_118) (by decide) (seg_before h (i := 190) rfl) hA)) (str_facts (own := "SealedTokensModel") (k := 940) (bs := mb_119) (by decide) (seg_before h (i := 192) rfl) hA)) (str_facts (own := "SealedTokensModel") (k := 945) (bs := mb_120) (by decide) (seg_before h (i := 194) rfl) hA)) (str_facts (own := "SealedTokensModel") (k := 1061) (bs := mb_121) (by decide) (seg_before h (i := 196) rfl) hA)) (str_facts (own := "SealedTokensModel") (k := 1063) (bs := mb_122) (by decide) (seg_before h (i := 197) rfl) hA)) (str_facts (own := "SealedTokensModel") (k := 1065) (bs := mb_123) (by decide) (seg_before h (i := 199) rfl) hA))
theorem tab_0 {args : Array Value} {s : State} {A : Nat → Prop} (h : (Jvm.Cond.and given_1 narrow_1).before args s = true) (hts : ∀ w ∈ lw_tbl, w.before args s = true) (hA : ∀ a : Nat, a < s.heap.size → ¬ A a) : ∃ t : Nat, va_Z "SealedTokens$Cipher" "SWAP" "[I" (.ref t) A s s.heap ∧ va_T .int t mt_0.length (fun j => .int (mt_0.getD j 0)) A s s.heap := tabI_facts (by decide +kernel) (seg_before h (i := 2) rfl) (hts _ (List.mem_of_getElem? (i := 456) (by decide +kernel))) (hts _ (List.mem_of_getElem? (i := 192) (by decide +kernel))) hA
theorem tab_1 {args : Array Value} {s : State} {A : Nat → Prop} (h : (Jvm.Cond.and given_1 narrow_1).before args s = true) (hts : ∀ w ∈ lw_tbl, w.before args s = true) (hA : ∀ a : Nat, a < s.heap.size → ¬ A a) : ∃ t : Nat, va_Z "SealedTokens$Digest" "START_256" "[I" (.ref t) A s s.heap ∧ va_T .int t mt_1.length (fun j => .int (mt_1.getD j 0)) A s s.heap := tabI_facts (by decide +kernel) (seg_before h (i := 8) rfl) (hts _ (List.mem_of_getElem? (i := 1143) (by decide +kernel))) (hts _ (List.mem_of_getElem? (i := 191) (by decide +kernel))) hA
theorem tab_4 {args : Array Value} {s : State} {A : Nat → Prop} (h : (Jvm.Cond.and given_1 narrow_1).before args s = true) (hts : ∀ w ∈ lw_tbl, w.before args s = true) (hA : ∀ a : Nat, a < s.heap.size → ¬ A a) : ∃ t : Nat, va_Z "SealedTokens$Digest" "ROUND_256" "[I" (.ref t) A s s.heap ∧ va_T .int t mt_4.length (fun j => .int (mt_4.getD j 0)) A s s.heap := tabI_facts (by decide +kernel) (seg_before h (i := 11) rfl) (hts _ (List.mem_of_getElem? (i := 1168) (by decide +kernel))) (hts _ (List.mem_of_getElem? (i := 191) (by decide +kernel))) hA
theorem tab_5 {args : Array Value} {s : State} {A : Nat → Prop} (h : (Jvm.Cond.and given_1 narrow_1).before args s = true) (hts : ∀ w ∈ lw_tbl, w.before args s = true) (hA : ∀ a : Nat, a < s.heap.size → ¬ A a) : ∃ t : Nat, va_Z "SealedTokens" "WAY_KEY" "[I" (.ref t) A s s.heap ∧ va_T .int t mt_5.length (fun j => .int (mt_5.getD j 0)) A s s.heap := tabI_facts (by decide +kernel) (seg_before h (i := 12) rfl) (hts _ (List.mem_of_getElem? (i := 1266) (by decide +kernel))) (hts _ (List.mem_of_getElem? (i := 185) (by decide +kernel))) hA
theorem tab_6 {args : Array Value} {s : State} {A : Nat → Prop} (h : (Jvm.Cond.and given_1 narrow_1).before args s = true) (hts : ∀ w ∈ lw_tbl, w.before args s = true) (hA : ∀ a : Nat, a < s.heap.size → ¬ A a) : ∃ t : Nat, va_Z "SealedTokens" "WAY_FIRST" "[I" (.ref t) A s s.heap ∧ va_T .int t mt_6.length (fun j => .int (mt_6.getD j 0)) A s s.heap := tabI_facts (by decide +kernel) (seg_before h (i := 13) rfl) (hts _ (List.mem_of_getElem? (i := 1268) (by decide +kernel))) (hts _ (List.mem_of_getElem? (i := 185) (by decide +kernel))) hA
theorem tab_7 {args : Array Value} {s : State} {A : Nat → Prop} (h : (Jvm.Cond.and given_1 narrow_1).before args s = true) (hts : ∀ w ∈ lw_tbl, w.before args s = true) (hA : ∀ a : Nat, a < s.heap.size → ¬ A a) : ∃ t : Nat, va_Z "SealedTokens" "WAY_MARK" "[I" (.ref t) A s s.heap ∧ va_T .int t mt_7.length (fun j => .int (mt_7.getD j 0)) A s s.heap := tabI_facts (by decide +kernel) (seg_before h (i := 14) rfl) (hts _ (List.mem_of_getElem? (i := 1273) (by decide +kernel))) (hts _ (List.mem_of_getElem? (i := 185) (by decide +kernel))) hA
theorem tab_8 {args : Array Value} {s : State} {A : Nat → Prop} (h : (Jvm.Cond.and given_1 narrow_1).before args s = true) (hts : ∀ w ∈ lw_tbl, w.before args s = true) (hA : ∀ a : Nat, a < s.heap.size → ¬ A a) : ∃ t : Nat, va_Z "SealedTokens$Rsa" "SHA_256_INFO" "[I" (.ref t) A s s.heap ∧ va_T .int t mt_8.length (fun j => .int (mt_8.getD j 0)) A s s.heap := tabI_facts (by decide +kernel) (seg_before h (i := 15) rfl) (hts _ (List.mem_of_getElem? (i := 1688) (by decide +kernel))) (hts _ (List.mem_of_getElem? (i := 194) (by decide +kernel))) hA
theorem tab_10 {args : Array Value} {s : State} {A : Nat → Prop} (h : (Jvm.Cond.and given_1 narrow_1).before args s = true) (hts : ∀ w ∈ lw_tbl, w.before args s = true) (hA : ∀ a : Nat, a < s.heap.size → ¬ A a) : ∃ t : Nat, va_Z "SealedTokensModel" "K256" "[I" (.ref t) A s s.heap ∧ va_T .int t mt_10.length (fun j => .int (mt_10.getD j 0)) A s s.heap := tabI_facts (by decide +kernel) (seg_before h (i := 17) rfl) (hts _ (List.mem_of_getElem? (i := 2725) (by decide +kernel))) (hts _ (List.mem_of_getElem? (i := 203) (by decide +kernel))) hA
theorem tab_2 {args : Array Value} {s : State} {A : Nat → Prop} (h : (Jvm.Cond.and given_1 narrow_1).before args s = true) (hts : ∀ w ∈ lw_tbl, w.before args s = true) (hA : ∀ a : Nat, a < s.heap.size → ¬ A a) : ∃ t : Nat, va_Z "SealedTokens$Digest" "START_512" "[J" (.ref t) A s s.heap ∧ va_T .long t mt_2.length (fun j => .long (mt_2.getD j 0)) A s s.heap := tabL_facts (by decide +kernel) (seg_before h (i := 9) rfl) (hts _ (List.mem_of_getElem? (i := 1146) (by decide +kernel))) (hts _ (List.mem_of_getElem? (i := 191) (by decide +kernel))) hA
theorem tab_3 {args : Array Value} {s : State} {A : Nat → Prop} (h : (Jvm.Cond.and given_1 narrow_1).before args s = true) (hts : ∀ w ∈ lw_tbl, w.before args s = true) (hA : ∀ a : Nat, a < s.heap.size → ¬ A a) : ∃ t : Nat, va_Z "SealedTokens$Digest" "ROUND_512" "[J" (.ref t) A s s.heap ∧ va_T .long t mt_3.length (fun j => .long (mt_3.getD j 0)) A s s.heap := tabL_facts (by decide +kernel) (seg_before h (i := 10) rfl) (hts _ (List.mem_of_getElem? (i := 1162) (by decide +kernel))) (hts _ (List.mem_of_getElem? (i := 191) (by decide +kernel))) hA
theorem tab_9 {args : Array Value} {s : State} {A : Nat → Prop} (h : (Jvm.Cond.and given_1 narrow_1).before args s = true) (hts : ∀ w ∈ lw_tbl, w.before args s = true) (hA : ∀ a : Nat, a < s.heap.size → ¬ A a) : ∃ t : Nat, va_Z "SealedTokensModel" "K512" "[J" (.ref t) A s s.heap ∧ va_T .long t mt_9.length (fun j => .long (mt_9.getD j 0)) A s s.heap := tabL_facts (by decide +kernel) (seg_before h (i := 16) rfl) (hts _ (List.mem_of_getElem? (i := 2716) (by decide +kernel))) (hts _ (List.mem_of_getElem? (i := 203) (by decide +kernel))) hA
-- places: compact 3, sioobe 4
