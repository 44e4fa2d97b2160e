-- ===== PART A: goes FIRST, ahead of the names: the tables' words, and 'selects' of the private methods out of them =====
/-- a private method of a class that the tables say can be made, by its rows of tables_1 -/
def lw_okq (q : MethodName × Nat) : Prop := (q.1.cls ≠ "java/lang/invoke/MethodHandle" ∧ q.1.cls ≠ "java/lang/invoke/VarHandle") ∧ Cond.instantiable q.1.cls q.2 ∈ tables_1 ∧ Cond.privateMethod q.1 ∈ tables_1 ∧ Cond.instanceMethod q.1 ∈ tables_1
theorem lw_p0 : lw_okq (⟨"SealedTokens$Modulus", "loadLimbs", "(LSealedTokens$Bytes;II[J)V"⟩, 8) := ⟨⟨by decide +kernel, by decide +kernel⟩, List.mem_of_getElem? (i := 335) (by decide +kernel), List.mem_of_getElem? (i := 469) (by decide +kernel), List.mem_of_getElem? (i := 470) (by decide +kernel)⟩
theorem lw_p1 : lw_okq (⟨"SealedTokens$Modulus", "settle", "([J)V"⟩, 8) := ⟨⟨by decide +kernel, by decide +kernel⟩, List.mem_of_getElem? (i := 335) (by decide +kernel), List.mem_of_getElem? (i := 483) (by decide +kernel), List.mem_of_getElem? (i := 484) (by decide +kernel)⟩
theorem lw_p2 : lw_okq (⟨"SealedTokens", "isRow", "(I)Z"⟩, 18) := ⟨⟨by decide +kernel, by decide +kernel⟩, List.mem_of_getElem? (i := 23) (by decide +kernel), List.mem_of_getElem? (i := 705) (by decide +kernel), List.mem_of_getElem? (i := 706) (by decide +kernel)⟩
theorem lw_p3 : lw_okq (⟨"SealedTokens$Reader", "skipBlanks", "()V"⟩, 9) := ⟨⟨by decide +kernel, by decide +kernel⟩, List.mem_of_getElem? (i := 138) (by decide +kernel), List.mem_of_getElem? (i := 756) (by decide +kernel), List.mem_of_getElem? (i := 757) (by decide +kernel)⟩
theorem lw_p4 : lw_okq (⟨"SealedTokens$Reader", "begin", "(I)Z"⟩, 9) := ⟨⟨by decide +kernel, by decide +kernel⟩, List.mem_of_getElem? (i := 138) (by decide +kernel), List.mem_of_getElem? (i := 765) (by decide +kernel), List.mem_of_getElem? (i := 766) (by decide +kernel)⟩
theorem lw_p5 : lw_okq (⟨"SealedTokens$Reader", "wrong", "(I)Z"⟩, 9) := ⟨⟨by decide +kernel, by decide +kernel⟩, List.mem_of_getElem? (i := 138) (by decide +kernel), List.mem_of_getElem? (i := 772) (by decide +kernel), List.mem_of_getElem? (i := 773) (by decide +kernel)⟩
theorem lw_p6 : lw_okq (⟨"SealedTokens$Reader", "goOn", "(I)Z"⟩, 9) := ⟨⟨by decide +kernel, by decide +kernel⟩, List.mem_of_getElem? (i := 138) (by decide +kernel), List.mem_of_getElem? (i := 780) (by decide +kernel), List.mem_of_getElem? (i := 781) (by decide +kernel)⟩
theorem lw_p7 : lw_okq (⟨"SealedTokens$Reader", "word", "(Ljava/lang/String;)Z"⟩, 9) := ⟨⟨by decide +kernel, by decide +kernel⟩, List.mem_of_getElem? (i := 138) (by decide +kernel), List.mem_of_getElem? (i := 785) (by decide +kernel), List.mem_of_getElem? (i := 786) (by decide +kernel)⟩
theorem lw_p8 : lw_okq (⟨"SealedTokens$Reader", "number", "()Z"⟩, 9) := ⟨⟨by decide +kernel, by decide +kernel⟩, List.mem_of_getElem? (i := 138) (by decide +kernel), List.mem_of_getElem? (i := 793) (by decide +kernel), List.mem_of_getElem? (i := 794) (by decide +kernel)⟩
theorem lw_p9 : lw_okq (⟨"SealedTokens$Reader", "digits", "()Z"⟩, 9) := ⟨⟨by decide +kernel, by decide +kernel⟩, List.mem_of_getElem? (i := 138) (by decide +kernel), List.mem_of_getElem? (i := 797) (by decide +kernel), List.mem_of_getElem? (i := 798) (by decide +kernel)⟩
theorem lw_p10 : lw_okq (⟨"SealedTokens$Reader", "string", "()Z"⟩, 9) := ⟨⟨by decide +kernel, by decide +kernel⟩, List.mem_of_getElem? (i := 138) (by decide +kernel), List.mem_of_getElem? (i := 802) (by decide +kernel), List.mem_of_getElem? (i := 803) (by decide +kernel)⟩
theorem lw_p11 : lw_okq (⟨"SealedTokens$Reader", "escape", "()I"⟩, 9) := ⟨⟨by decide +kernel, by decide +kernel⟩, List.mem_of_getElem? (i := 138) (by decide +kernel), List.mem_of_getElem? (i := 806) (by decide +kernel), List.mem_of_getElem? (i := 807) (by decide +kernel)⟩
theorem lw_p12 : lw_okq (⟨"SealedTokens$Reader", "fourDigits", "(Z)I"⟩, 9) := ⟨⟨by decide +kernel, by decide +kernel⟩, List.mem_of_getElem? (i := 138) (by decide +kernel), List.mem_of_getElem? (i := 813) (by decide +kernel), List.mem_of_getElem? (i := 814) (by decide +kernel)⟩
theorem lw_p13 : lw_okq (⟨"SealedTokens$Reader", "putPoint", "(I)V"⟩, 9) := ⟨⟨by decide +kernel, by decide +kernel⟩, List.mem_of_getElem? (i := 138) (by decide +kernel), List.mem_of_getElem? (i := 823) (by decide +kernel), List.mem_of_getElem? (i := 824) (by decide +kernel)⟩
theorem lw_p14 : lw_okq (⟨"SealedTokens$Reader", "longForm", "(I)Z"⟩, 9) := ⟨⟨by decide +kernel, by decide +kernel⟩, List.mem_of_getElem? (i := 138) (by decide +kernel), List.mem_of_getElem? (i := 828) (by decide +kernel), List.mem_of_getElem? (i := 829) (by decide +kernel)⟩
theorem lw_p15 : lw_okq (⟨"SealedTokens$Reader", "close", "()Z"⟩, 9) := ⟨⟨by decide +kernel, by decide +kernel⟩, List.mem_of_getElem? (i := 138) (by decide +kernel), List.mem_of_getElem? (i := 832) (by decide +kernel), List.mem_of_getElem? (i := 833) (by decide +kernel)⟩
def lw_privs_1 : List (MethodName × Nat) := [(⟨"SealedTokens$Modulus", "loadLimbs", "(LSealedTokens$Bytes;II[J)V"⟩, 8), (⟨"SealedTokens$Modulus", "settle", "([J)V"⟩, 8), (⟨"SealedTokens", "isRow", "(I)Z"⟩, 18), (⟨"SealedTokens$Reader", "skipBlanks", "()V"⟩, 9), (⟨"SealedTokens$Reader", "begin", "(I)Z"⟩, 9), (⟨"SealedTokens$Reader", "wrong", "(I)Z"⟩, 9), (⟨"SealedTokens$Reader", "goOn", "(I)Z"⟩, 9), (⟨"SealedTokens$Reader", "word", "(Ljava/lang/String;)Z"⟩, 9), (⟨"SealedTokens$Reader", "number", "()Z"⟩, 9), (⟨"SealedTokens$Reader", "digits", "()Z"⟩, 9), (⟨"SealedTokens$Reader", "string", "()Z"⟩, 9), (⟨"SealedTokens$Reader", "escape", "()I"⟩, 9), (⟨"SealedTokens$Reader", "fourDigits", "(Z)I"⟩, 9), (⟨"SealedTokens$Reader", "putPoint", "(I)V"⟩, 9), (⟨"SealedTokens$Reader", "longForm", "(I)Z"⟩, 9), (⟨"SealedTokens$Reader", "close", "()Z"⟩, 9)]
theorem lw_r1 : ∀ q ∈ lw_privs_1, lw_okq q := List.forall_mem_cons.mpr ⟨lw_p0, List.forall_mem_cons.mpr ⟨lw_p1, List.forall_mem_cons.mpr ⟨lw_p2, List.forall_mem_cons.mpr ⟨lw_p3, List.forall_mem_cons.mpr ⟨lw_p4, List.forall_mem_cons.mpr ⟨lw_p5, List.forall_mem_cons.mpr ⟨lw_p6, List.forall_mem_cons.mpr ⟨lw_p7, List.forall_mem_cons.mpr ⟨lw_p8, List.forall_mem_cons.mpr ⟨lw_p9, List.forall_mem_cons.mpr ⟨lw_p10, List.forall_mem_cons.mpr ⟨lw_p11, List.forall_mem_cons.mpr ⟨lw_p12, List.forall_mem_cons.mpr ⟨lw_p13, List.forall_mem_cons.mpr ⟨lw_p14, List.forall_mem_cons.mpr ⟨lw_p15, fun _ h => absurd h List.not_mem_nil⟩⟩⟩⟩⟩⟩⟩⟩⟩⟩⟩⟩⟩⟩⟩⟩
theorem lw_p16 : lw_okq (⟨"SealedTokens$Reader", "memberName", "(I)Z"⟩, 9) := ⟨⟨by decide +kernel, by decide +kernel⟩, List.mem_of_getElem? (i := 138) (by decide +kernel), List.mem_of_getElem? (i := 840) (by decide +kernel), List.mem_of_getElem? (i := 841) (by decide +kernel)⟩
theorem lw_p17 : lw_okq (⟨"SealedTokens$Reader", "after", "(I)Z"⟩, 9) := ⟨⟨by decide +kernel, by decide +kernel⟩, List.mem_of_getElem? (i := 138) (by decide +kernel), List.mem_of_getElem? (i := 861) (by decide +kernel), List.mem_of_getElem? (i := 862) (by decide +kernel)⟩
theorem lw_p18 : lw_okq (⟨"SealedTokens", "show", "(LSealedTokens$Bytes;II)I"⟩, 18) := ⟨⟨by decide +kernel, by decide +kernel⟩, List.mem_of_getElem? (i := 23) (by decide +kernel), List.mem_of_getElem? (i := 874) (by decide +kernel), List.mem_of_getElem? (i := 875) (by decide +kernel)⟩
theorem lw_p19 : lw_okq (⟨"SealedTokens$Text", "closeTo", "(IILSealedTokens$Bytes;)I"⟩, 11) := ⟨⟨by decide +kernel, by decide +kernel⟩, List.mem_of_getElem? (i := 67) (by decide +kernel), List.mem_of_getElem? (i := 897) (by decide +kernel), List.mem_of_getElem? (i := 898) (by decide +kernel)⟩
theorem lw_p20 : lw_okq (⟨"SealedTokens$Text", "putStart", "(ILSealedTokens$Bytes;)V"⟩, 11) := ⟨⟨by decide +kernel, by decide +kernel⟩, List.mem_of_getElem? (i := 67) (by decide +kernel), List.mem_of_getElem? (i := 916) (by decide +kernel), List.mem_of_getElem? (i := 917) (by decide +kernel)⟩
theorem lw_p21 : lw_okq (⟨"SealedTokens$Digest", "addByte", "(I)V"⟩, 11) := ⟨⟨by decide +kernel, by decide +kernel⟩, List.mem_of_getElem? (i := 223) (by decide +kernel), List.mem_of_getElem? (i := 969) (by decide +kernel), List.mem_of_getElem? (i := 970) (by decide +kernel)⟩
theorem lw_p22 : lw_okq (⟨"SealedTokens$Digest", "mixWide", "()V"⟩, 11) := ⟨⟨by decide +kernel, by decide +kernel⟩, List.mem_of_getElem? (i := 223) (by decide +kernel), List.mem_of_getElem? (i := 973) (by decide +kernel), List.mem_of_getElem? (i := 974) (by decide +kernel)⟩
theorem lw_p23 : lw_okq (⟨"SealedTokens$Digest", "mix", "()V"⟩, 11) := ⟨⟨by decide +kernel, by decide +kernel⟩, List.mem_of_getElem? (i := 223) (by decide +kernel), List.mem_of_getElem? (i := 980) (by decide +kernel), List.mem_of_getElem? (i := 981) (by decide +kernel)⟩
theorem lw_p24 : lw_okq (⟨"SealedTokens$Digest", "addKeyBlock", "(I)V"⟩, 11) := ⟨⟨by decide +kernel, by decide +kernel⟩, List.mem_of_getElem? (i := 223) (by decide +kernel), List.mem_of_getElem? (i := 1003) (by decide +kernel), List.mem_of_getElem? (i := 1004) (by decide +kernel)⟩
theorem lw_p25 : lw_okq (⟨"SealedTokens", "isCipherKey", "(I)Z"⟩, 18) := ⟨⟨by decide +kernel, by decide +kernel⟩, List.mem_of_getElem? (i := 23) (by decide +kernel), List.mem_of_getElem? (i := 1015) (by decide +kernel), List.mem_of_getElem? (i := 1016) (by decide +kernel)⟩
theorem lw_p26 : lw_okq (⟨"SealedTokens$Cipher", "addRoundKey", "([II)V"⟩, 6) := ⟨⟨by decide +kernel, by decide +kernel⟩, List.mem_of_getElem? (i := 266) (by decide +kernel), List.mem_of_getElem? (i := 1035) (by decide +kernel), List.mem_of_getElem? (i := 1036) (by decide +kernel)⟩
theorem lw_p27 : lw_okq (⟨"SealedTokens", "waySuits", "(III)Z"⟩, 18) := ⟨⟨by decide +kernel, by decide +kernel⟩, List.mem_of_getElem? (i := 23) (by decide +kernel), List.mem_of_getElem? (i := 1078) (by decide +kernel), List.mem_of_getElem? (i := 1079) (by decide +kernel)⟩
theorem lw_p28 : lw_okq (⟨"SealedTokens$Content", "putChained", "(LSealedTokens$Bytes;LSealedTokens$Bytes;LSealedTokens$Bytes;LSealedTokens$Bytes;)V"⟩, 9) := ⟨⟨by decide +kernel, by decide +kernel⟩, List.mem_of_getElem? (i := 293) (by decide +kernel), List.mem_of_getElem? (i := 1096) (by decide +kernel), List.mem_of_getElem? (i := 1097) (by decide +kernel)⟩
theorem lw_p29 : lw_okq (⟨"SealedTokens$Content", "markByCode", "(ILSealedTokens$Bytes;LSealedTokens$Bytes;LSealedTokens$Bytes;LSealedTokens$Bytes;I)V"⟩, 9) := ⟨⟨by decide +kernel, by decide +kernel⟩, List.mem_of_getElem? (i := 293) (by decide +kernel), List.mem_of_getElem? (i := 1105) (by decide +kernel), List.mem_of_getElem? (i := 1106) (by decide +kernel)⟩
theorem lw_p30 : lw_okq (⟨"SealedTokens$Content", "putCounted", "(LSealedTokens$Bytes;LSealedTokens$Bytes;LSealedTokens$Bytes;ILSealedTokens$Bytes;)V"⟩, 9) := ⟨⟨by decide +kernel, by decide +kernel⟩, List.mem_of_getElem? (i := 293) (by decide +kernel), List.mem_of_getElem? (i := 1118) (by decide +kernel), List.mem_of_getElem? (i := 1119) (by decide +kernel)⟩
theorem lw_p31 : lw_okq (⟨"SealedTokens$Content", "startCounter", "(LSealedTokens$Bytes;I)V"⟩, 9) := ⟨⟨by decide +kernel, by decide +kernel⟩, List.mem_of_getElem? (i := 293) (by decide +kernel), List.mem_of_getElem? (i := 1122) (by decide +kernel), List.mem_of_getElem? (i := 1123) (by decide +kernel)⟩
def lw_privs_2 : List (MethodName × Nat) := [(⟨"SealedTokens$Reader", "memberName", "(I)Z"⟩, 9), (⟨"SealedTokens$Reader", "after", "(I)Z"⟩, 9), (⟨"SealedTokens", "show", "(LSealedTokens$Bytes;II)I"⟩, 18), (⟨"SealedTokens$Text", "closeTo", "(IILSealedTokens$Bytes;)I"⟩, 11), (⟨"SealedTokens$Text", "putStart", "(ILSealedTokens$Bytes;)V"⟩, 11), (⟨"SealedTokens$Digest", "addByte", "(I)V"⟩, 11), (⟨"SealedTokens$Digest", "mixWide", "()V"⟩, 11), (⟨"SealedTokens$Digest", "mix", "()V"⟩, 11), (⟨"SealedTokens$Digest", "addKeyBlock", "(I)V"⟩, 11), (⟨"SealedTokens", "isCipherKey", "(I)Z"⟩, 18), (⟨"SealedTokens$Cipher", "addRoundKey", "([II)V"⟩, 6), (⟨"SealedTokens", "waySuits", "(III)Z"⟩, 18), (⟨"SealedTokens$Content", "putChained", "(LSealedTokens$Bytes;LSealedTokens$Bytes;LSealedTokens$Bytes;LSealedTokens$Bytes;)V"⟩, 9), (⟨"SealedTokens$Content", "markByCode", "(ILSealedTokens$Bytes;LSealedTokens$Bytes;LSealedTokens$Bytes;LSealedTokens$Bytes;I)V"⟩, 9), (⟨"SealedTokens$Content", "putCounted", "(LSealedTokens$Bytes;LSealedTokens$Bytes;LSealedTokens$Bytes;ILSealedTokens$Bytes;)V"⟩, 9), (⟨"SealedTokens$Content", "startCounter", "(LSealedTokens$Bytes;I)V"⟩, 9)]
theorem lw_r2 : ∀ q ∈ lw_privs_2, lw_okq q := List.forall_mem_cons.mpr ⟨lw_p16, List.forall_mem_cons.mpr ⟨lw_p17, List.forall_mem_cons.mpr ⟨lw_p18, List.forall_mem_cons.mpr ⟨lw_p19, List.forall_mem_cons.mpr ⟨lw_p20, List.forall_mem_cons.mpr ⟨lw_p21, List.forall_mem_cons.mpr ⟨lw_p22, List.forall_mem_cons.mpr ⟨lw_p23, List.forall_mem_cons.mpr ⟨lw_p24, List.forall_mem_cons.mpr ⟨lw_p25, List.forall_mem_cons.mpr ⟨lw_p26, List.forall_mem_cons.mpr ⟨lw_p27, List.forall_mem_cons.mpr ⟨lw_p28, List.forall_mem_cons.mpr ⟨lw_p29, List.forall_mem_cons.mpr ⟨lw_p30, List.forall_mem_cons.mpr ⟨lw_p31, fun _ h => absurd h List.not_mem_nil⟩⟩⟩⟩⟩⟩⟩⟩⟩⟩⟩⟩⟩⟩⟩⟩
theorem lw_p32 : lw_okq (⟨"SealedTokens$Content", "markByField", "(LSealedTokens$Bytes;LSealedTokens$Bytes;LSealedTokens$Bytes;I)V"⟩, 9) := ⟨⟨by decide +kernel, by decide +kernel⟩, List.mem_of_getElem? (i := 293) (by decide +kernel), List.mem_of_getElem? (i := 1126) (by decide +kernel), List.mem_of_getElem? (i := 1127) (by decide +kernel)⟩
theorem lw_p33 : lw_okq (⟨"SealedTokens$Content", "half", "(I)J"⟩, 9) := ⟨⟨by decide +kernel, by decide +kernel⟩, List.mem_of_getElem? (i := 293) (by decide +kernel), List.mem_of_getElem? (i := 1130) (by decide +kernel), List.mem_of_getElem? (i := 1131) (by decide +kernel)⟩
theorem lw_p34 : lw_okq (⟨"SealedTokens$Content", "addToSum", "(LSealedTokens$Bytes;I)V"⟩, 9) := ⟨⟨by decide +kernel, by decide +kernel⟩, List.mem_of_getElem? (i := 293) (by decide +kernel), List.mem_of_getElem? (i := 1134) (by decide +kernel), List.mem_of_getElem? (i := 1135) (by decide +kernel)⟩
theorem lw_p35 : lw_okq (⟨"SealedTokens$Content", "timesFactor", "(JJ)V"⟩, 9) := ⟨⟨by decide +kernel, by decide +kernel⟩, List.mem_of_getElem? (i := 293) (by decide +kernel), List.mem_of_getElem? (i := 1138) (by decide +kernel), List.mem_of_getElem? (i := 1139) (by decide +kernel)⟩
theorem lw_p36 : lw_okq (⟨"SealedTokens$Content", "putMarkHalf", "(J)V"⟩, 9) := ⟨⟨by decide +kernel, by decide +kernel⟩, List.mem_of_getElem? (i := 293) (by decide +kernel), List.mem_of_getElem? (i := 1144) (by decide +kernel), List.mem_of_getElem? (i := 1145) (by decide +kernel)⟩
theorem lw_p37 : lw_okq (⟨"SealedTokens$Content", "markStands", "(LSealedTokens$Bytes;I)Z"⟩, 9) := ⟨⟨by decide +kernel, by decide +kernel⟩, List.mem_of_getElem? (i := 293) (by decide +kernel), List.mem_of_getElem? (i := 1162) (by decide +kernel), List.mem_of_getElem? (i := 1163) (by decide +kernel)⟩
theorem lw_p38 : lw_okq (⟨"SealedTokens$Content", "putUnchained", "(LSealedTokens$Bytes;LSealedTokens$Bytes;LSealedTokens$Bytes;ILSealedTokens$Bytes;)Z"⟩, 9) := ⟨⟨by decide +kernel, by decide +kernel⟩, List.mem_of_getElem? (i := 293) (by decide +kernel), List.mem_of_getElem? (i := 1167) (by decide +kernel), List.mem_of_getElem? (i := 1168) (by decide +kernel)⟩
theorem lw_p39 : lw_okq (⟨"SealedTokens$Curve", "twice", "()V"⟩, 16) := ⟨⟨by decide +kernel, by decide +kernel⟩, List.mem_of_getElem? (i := 387) (by decide +kernel), List.mem_of_getElem? (i := 1218) (by decide +kernel), List.mem_of_getElem? (i := 1219) (by decide +kernel)⟩
theorem lw_p40 : lw_okq (⟨"SealedTokens$Curve", "add", "([[J)Z"⟩, 16) := ⟨⟨by decide +kernel, by decide +kernel⟩, List.mem_of_getElem? (i := 387) (by decide +kernel), List.mem_of_getElem? (i := 1223) (by decide +kernel), List.mem_of_getElem? (i := 1224) (by decide +kernel)⟩
theorem lw_p41 : lw_okq (⟨"SealedTokens$Key", "areLettersThere", "(LSealedTokens$Text;)Z"⟩, 10) := ⟨⟨by decide +kernel, by decide +kernel⟩, List.mem_of_getElem? (i := 173) (by decide +kernel), List.mem_of_getElem? (i := 1289) (by decide +kernel), List.mem_of_getElem? (i := 1290) (by decide +kernel)⟩
theorem lw_p42 : lw_okq (⟨"SealedTokens$Key", "takeRsa", "(LSealedTokens$Text;)Z"⟩, 10) := ⟨⟨by decide +kernel, by decide +kernel⟩, List.mem_of_getElem? (i := 173) (by decide +kernel), List.mem_of_getElem? (i := 1317) (by decide +kernel), List.mem_of_getElem? (i := 1318) (by decide +kernel)⟩
theorem lw_p43 : lw_okq (⟨"SealedTokens$Key", "takeCurveSecret", "(LSealedTokens$Text;)Z"⟩, 10) := ⟨⟨by decide +kernel, by decide +kernel⟩, List.mem_of_getElem? (i := 173) (by decide +kernel), List.mem_of_getElem? (i := 1330) (by decide +kernel), List.mem_of_getElem? (i := 1331) (by decide +kernel)⟩
theorem lw_p44 : lw_okq (⟨"SealedTokens$Key", "takeUse", "(LSealedTokens$Text;)V"⟩, 10) := ⟨⟨by decide +kernel, by decide +kernel⟩, List.mem_of_getElem? (i := 173) (by decide +kernel), List.mem_of_getElem? (i := 1334) (by decide +kernel), List.mem_of_getElem? (i := 1335) (by decide +kernel)⟩
theorem lw_p45 : lw_okq (⟨"SealedTokens$Key", "makeKidRoom", "(I)V"⟩, 10) := ⟨⟨by decide +kernel, by decide +kernel⟩, List.mem_of_getElem? (i := 173) (by decide +kernel), List.mem_of_getElem? (i := 1354) (by decide +kernel), List.mem_of_getElem? (i := 1355) (by decide +kernel)⟩
theorem lw_p46 : lw_okq (⟨"SealedTokens", "numbersBelong", "(LSealedTokens$Key;)Z"⟩, 18) := ⟨⟨by decide +kernel, by decide +kernel⟩, List.mem_of_getElem? (i := 23) (by decide +kernel), List.mem_of_getElem? (i := 1360) (by decide +kernel), List.mem_of_getElem? (i := 1361) (by decide +kernel)⟩
theorem lw_p47 : lw_okq (⟨"SealedTokens", "isKey", "(I)Z"⟩, 18) := ⟨⟨by decide +kernel, by decide +kernel⟩, List.mem_of_getElem? (i := 23) (by decide +kernel), List.mem_of_getElem? (i := 1389) (by decide +kernel), List.mem_of_getElem? (i := 1390) (by decide +kernel)⟩
def lw_privs_3 : List (MethodName × Nat) := [(⟨"SealedTokens$Content", "markByField", "(LSealedTokens$Bytes;LSealedTokens$Bytes;LSealedTokens$Bytes;I)V"⟩, 9), (⟨"SealedTokens$Content", "half", "(I)J"⟩, 9), (⟨"SealedTokens$Content", "addToSum", "(LSealedTokens$Bytes;I)V"⟩, 9), (⟨"SealedTokens$Content", "timesFactor", "(JJ)V"⟩, 9), (⟨"SealedTokens$Content", "putMarkHalf", "(J)V"⟩, 9), (⟨"SealedTokens$Content", "markStands", "(LSealedTokens$Bytes;I)Z"⟩, 9), (⟨"SealedTokens$Content", "putUnchained", "(LSealedTokens$Bytes;LSealedTokens$Bytes;LSealedTokens$Bytes;ILSealedTokens$Bytes;)Z"⟩, 9), (⟨"SealedTokens$Curve", "twice", "()V"⟩, 16), (⟨"SealedTokens$Curve", "add", "([[J)Z"⟩, 16), (⟨"SealedTokens$Key", "areLettersThere", "(LSealedTokens$Text;)Z"⟩, 10), (⟨"SealedTokens$Key", "takeRsa", "(LSealedTokens$Text;)Z"⟩, 10), (⟨"SealedTokens$Key", "takeCurveSecret", "(LSealedTokens$Text;)Z"⟩, 10), (⟨"SealedTokens$Key", "takeUse", "(LSealedTokens$Text;)V"⟩, 10), (⟨"SealedTokens$Key", "makeKidRoom", "(I)V"⟩, 10), (⟨"SealedTokens", "numbersBelong", "(LSealedTokens$Key;)Z"⟩, 18), (⟨"SealedTokens", "isKey", "(I)Z"⟩, 18)]
theorem lw_r3 : ∀ q ∈ lw_privs_3, lw_okq q := List.forall_mem_cons.mpr ⟨lw_p32, List.forall_mem_cons.mpr ⟨lw_p33, List.forall_mem_cons.mpr ⟨lw_p34, List.forall_mem_cons.mpr ⟨lw_p35, List.forall_mem_cons.mpr ⟨lw_p36, List.forall_mem_cons.mpr ⟨lw_p37, List.forall_mem_cons.mpr ⟨lw_p38, List.forall_mem_cons.mpr ⟨lw_p39, List.forall_mem_cons.mpr ⟨lw_p40, List.forall_mem_cons.mpr ⟨lw_p41, List.forall_mem_cons.mpr ⟨lw_p42, List.forall_mem_cons.mpr ⟨lw_p43, List.forall_mem_cons.mpr ⟨lw_p44, List.forall_mem_cons.mpr ⟨lw_p45, List.forall_mem_cons.mpr ⟨lw_p46, List.forall_mem_cons.mpr ⟨lw_p47, fun _ h => absurd h List.not_mem_nil⟩⟩⟩⟩⟩⟩⟩⟩⟩⟩⟩⟩⟩⟩⟩⟩
theorem lw_p48 : lw_okq (⟨"SealedTokens", "isRowOrNone", "(I)Z"⟩, 18) := ⟨⟨by decide +kernel, by decide +kernel⟩, List.mem_of_getElem? (i := 23) (by decide +kernel), List.mem_of_getElem? (i := 1423) (by decide +kernel), List.mem_of_getElem? (i := 1424) (by decide +kernel)⟩
theorem lw_p49 : lw_okq (⟨"SealedTokens$Token", "startHead", "(Ljava/lang/String;)V"⟩, 16) := ⟨⟨by decide +kernel, by decide +kernel⟩, List.mem_of_getElem? (i := 557) (by decide +kernel), List.mem_of_getElem? (i := 1436) (by decide +kernel), List.mem_of_getElem? (i := 1437) (by decide +kernel)⟩
theorem lw_p50 : lw_okq (⟨"SealedTokens$Token", "putKid", "(LSealedTokens$Key;)V"⟩, 16) := ⟨⟨by decide +kernel, by decide +kernel⟩, List.mem_of_getElem? (i := 557) (by decide +kernel), List.mem_of_getElem? (i := 1444) (by decide +kernel), List.mem_of_getElem? (i := 1445) (by decide +kernel)⟩
theorem lw_p51 : lw_okq (⟨"SealedTokens$Token", "isHeadSound", "(LSealedTokens$Text;I)Z"⟩, 16) := ⟨⟨by decide +kernel, by decide +kernel⟩, List.mem_of_getElem? (i := 557) (by decide +kernel), List.mem_of_getElem? (i := 1456) (by decide +kernel), List.mem_of_getElem? (i := 1457) (by decide +kernel)⟩
theorem lw_p52 : lw_okq (⟨"SealedTokens$Token", "isCritSound", "(LSealedTokens$Text;I)Z"⟩, 16) := ⟨⟨by decide +kernel, by decide +kernel⟩, List.mem_of_getElem? (i := 557) (by decide +kernel), List.mem_of_getElem? (i := 1464) (by decide +kernel), List.mem_of_getElem? (i := 1465) (by decide +kernel)⟩
theorem lw_p53 : lw_okq (⟨"SealedTokens$Token", "isSaidBefore", "(LSealedTokens$Text;II)Z"⟩, 16) := ⟨⟨by decide +kernel, by decide +kernel⟩, List.mem_of_getElem? (i := 557) (by decide +kernel), List.mem_of_getElem? (i := 1468) (by decide +kernel), List.mem_of_getElem? (i := 1469) (by decide +kernel)⟩
theorem lw_p54 : lw_okq (⟨"SealedTokens", "makeSignature", "(LSealedTokens$Key;ILSealedTokens$Bytes;)Z"⟩, 18) := ⟨⟨by decide +kernel, by decide +kernel⟩, List.mem_of_getElem? (i := 23) (by decide +kernel), List.mem_of_getElem? (i := 1484) (by decide +kernel), List.mem_of_getElem? (i := 1485) (by decide +kernel)⟩
theorem lw_p55 : lw_okq (⟨"SealedTokens", "codeWork", "(LSealedTokens$Key;ILSealedTokens$Bytes;)V"⟩, 18) := ⟨⟨by decide +kernel, by decide +kernel⟩, List.mem_of_getElem? (i := 23) (by decide +kernel), List.mem_of_getElem? (i := 1488) (by decide +kernel), List.mem_of_getElem? (i := 1489) (by decide +kernel)⟩
theorem lw_p56 : lw_okq (⟨"SealedTokens", "hashWork", "(LSealedTokens$Bytes;)V"⟩, 18) := ⟨⟨by decide +kernel, by decide +kernel⟩, List.mem_of_getElem? (i := 23) (by decide +kernel), List.mem_of_getElem? (i := 1492) (by decide +kernel), List.mem_of_getElem? (i := 1493) (by decide +kernel)⟩
theorem lw_p57 : lw_okq (⟨"SealedTokens$Rsa", "framePkcs", "(LSealedTokens$Bytes;I)V"⟩, 6) := ⟨⟨by decide +kernel, by decide +kernel⟩, List.mem_of_getElem? (i := 329) (by decide +kernel), List.mem_of_getElem? (i := 1500) (by decide +kernel), List.mem_of_getElem? (i := 1501) (by decide +kernel)⟩
theorem lw_p58 : lw_okq (⟨"SealedTokens$Rsa", "hashSalted", "(LSealedTokens$Bytes;LSealedTokens$Bytes;ILSealedTokens$Bytes;)V"⟩, 6) := ⟨⟨by decide +kernel, by decide +kernel⟩, List.mem_of_getElem? (i := 329) (by decide +kernel), List.mem_of_getElem? (i := 1519) (by decide +kernel), List.mem_of_getElem? (i := 1520) (by decide +kernel)⟩
theorem lw_p59 : lw_okq (⟨"SealedTokens$Rsa", "maskFrame", "(IIII)V"⟩, 6) := ⟨⟨by decide +kernel, by decide +kernel⟩, List.mem_of_getElem? (i := 329) (by decide +kernel), List.mem_of_getElem? (i := 1527) (by decide +kernel), List.mem_of_getElem? (i := 1528) (by decide +kernel)⟩
theorem lw_p60 : lw_okq (⟨"SealedTokens", "signatureIsRight", "(LSealedTokens$Key;)Z"⟩, 18) := ⟨⟨by decide +kernel, by decide +kernel⟩, List.mem_of_getElem? (i := 23) (by decide +kernel), List.mem_of_getElem? (i := 1576) (by decide +kernel), List.mem_of_getElem? (i := 1577) (by decide +kernel)⟩
theorem lw_p61 : lw_okq (⟨"SealedTokens$Rsa", "isNumberOf", "(LSealedTokens$Bytes;LSealedTokens$Bytes;)Z"⟩, 6) := ⟨⟨by decide +kernel, by decide +kernel⟩, List.mem_of_getElem? (i := 329) (by decide +kernel), List.mem_of_getElem? (i := 1585) (by decide +kernel), List.mem_of_getElem? (i := 1586) (by decide +kernel)⟩
theorem lw_p62 : lw_okq (⟨"SealedTokens", "showPayload", "(LSealedTokens$Bytes;)V"⟩, 18) := ⟨⟨by decide +kernel, by decide +kernel⟩, List.mem_of_getElem? (i := 23) (by decide +kernel), List.mem_of_getElem? (i := 1600) (by decide +kernel), List.mem_of_getElem? (i := 1601) (by decide +kernel)⟩
theorem lw_p63 : lw_okq (⟨"SealedTokens$Token", "putParty", "(Ljava/lang/String;LSealedTokens$Bytes;)V"⟩, 16) := ⟨⟨by decide +kernel, by decide +kernel⟩, List.mem_of_getElem? (i := 557) (by decide +kernel), List.mem_of_getElem? (i := 1637) (by decide +kernel), List.mem_of_getElem? (i := 1638) (by decide +kernel)⟩
def lw_privs_4 : List (MethodName × Nat) := [(⟨"SealedTokens", "isRowOrNone", "(I)Z"⟩, 18), (⟨"SealedTokens$Token", "startHead", "(Ljava/lang/String;)V"⟩, 16), (⟨"SealedTokens$Token", "putKid", "(LSealedTokens$Key;)V"⟩, 16), (⟨"SealedTokens$Token", "isHeadSound", "(LSealedTokens$Text;I)Z"⟩, 16), (⟨"SealedTokens$Token", "isCritSound", "(LSealedTokens$Text;I)Z"⟩, 16), (⟨"SealedTokens$Token", "isSaidBefore", "(LSealedTokens$Text;II)Z"⟩, 16), (⟨"SealedTokens", "makeSignature", "(LSealedTokens$Key;ILSealedTokens$Bytes;)Z"⟩, 18), (⟨"SealedTokens", "codeWork", "(LSealedTokens$Key;ILSealedTokens$Bytes;)V"⟩, 18), (⟨"SealedTokens", "hashWork", "(LSealedTokens$Bytes;)V"⟩, 18), (⟨"SealedTokens$Rsa", "framePkcs", "(LSealedTokens$Bytes;I)V"⟩, 6), (⟨"SealedTokens$Rsa", "hashSalted", "(LSealedTokens$Bytes;LSealedTokens$Bytes;ILSealedTokens$Bytes;)V"⟩, 6), (⟨"SealedTokens$Rsa", "maskFrame", "(IIII)V"⟩, 6), (⟨"SealedTokens", "signatureIsRight", "(LSealedTokens$Key;)Z"⟩, 18), (⟨"SealedTokens$Rsa", "isNumberOf", "(LSealedTokens$Bytes;LSealedTokens$Bytes;)Z"⟩, 6), (⟨"SealedTokens", "showPayload", "(LSealedTokens$Bytes;)V"⟩, 18), (⟨"SealedTokens$Token", "putParty", "(Ljava/lang/String;LSealedTokens$Bytes;)V"⟩, 16)]
theorem lw_r4 : ∀ q ∈ lw_privs_4, lw_okq q := List.forall_mem_cons.mpr ⟨lw_p48, List.forall_mem_cons.mpr ⟨lw_p49, List.forall_mem_cons.mpr ⟨lw_p50, List.forall_mem_cons.mpr ⟨lw_p51, List.forall_mem_cons.mpr ⟨lw_p52, List.forall_mem_cons.mpr ⟨lw_p53, List.forall_mem_cons.mpr ⟨lw_p54, List.forall_mem_cons.mpr ⟨lw_p55, List.forall_mem_cons.mpr ⟨lw_p56, List.forall_mem_cons.mpr ⟨lw_p57, List.forall_mem_cons.mpr ⟨lw_p58, List.forall_mem_cons.mpr ⟨lw_p59, List.forall_mem_cons.mpr ⟨lw_p60, List.forall_mem_cons.mpr ⟨lw_p61, List.forall_mem_cons.mpr ⟨lw_p62, List.forall_mem_cons.mpr ⟨lw_p63, fun _ h => absurd h List.not_mem_nil⟩⟩⟩⟩⟩⟩⟩⟩⟩⟩⟩⟩⟩⟩⟩⟩
theorem lw_p64 : lw_okq (⟨"SealedTokens", "makeSealedKey", "(LSealedTokens$Key;LSealedTokens$Bytes;LSealedTokens$Bytes;)V"⟩, 18) := ⟨⟨by decide +kernel, by decide +kernel⟩, List.mem_of_getElem? (i := 23) (by decide +kernel), List.mem_of_getElem? (i := 1643) (by decide +kernel), List.mem_of_getElem? (i := 1644) (by decide +kernel)⟩
theorem lw_p65 : lw_okq (⟨"SealedTokens", "agree", "(LSealedTokens$Bytes;LSealedTokens$Bytes;LSealedTokens$Bytes;LSealedTokens$Bytes;)V"⟩, 18) := ⟨⟨by decide +kernel, by decide +kernel⟩, List.mem_of_getElem? (i := 23) (by decide +kernel), List.mem_of_getElem? (i := 1647) (by decide +kernel), List.mem_of_getElem? (i := 1648) (by decide +kernel)⟩
theorem lw_p66 : lw_okq (⟨"SealedTokens$Rsa", "putEmptyHash", "(LSealedTokens$Bytes;)V"⟩, 6) := ⟨⟨by decide +kernel, by decide +kernel⟩, List.mem_of_getElem? (i := 329) (by decide +kernel), List.mem_of_getElem? (i := 1658) (by decide +kernel), List.mem_of_getElem? (i := 1659) (by decide +kernel)⟩
theorem lw_p67 : lw_okq (⟨"SealedTokens$Token", "takeAgreement", "(LSealedTokens$Text;)Z"⟩, 16) := ⟨⟨by decide +kernel, by decide +kernel⟩, List.mem_of_getElem? (i := 557) (by decide +kernel), List.mem_of_getElem? (i := 1687) (by decide +kernel), List.mem_of_getElem? (i := 1688) (by decide +kernel)⟩
theorem lw_p68 : lw_okq (⟨"SealedTokens", "contentKeyComes", "(LSealedTokens$Key;)Z"⟩, 18) := ⟨⟨by decide +kernel, by decide +kernel⟩, List.mem_of_getElem? (i := 23) (by decide +kernel), List.mem_of_getElem? (i := 1713) (by decide +kernel), List.mem_of_getElem? (i := 1714) (by decide +kernel)⟩
theorem lw_p69 : lw_okq (⟨"SealedTokensModel", "layCipher", "()V"⟩, 134) := ⟨⟨by decide +kernel, by decide +kernel⟩, List.mem_of_getElem? (i := 1721) (by decide +kernel), List.mem_of_getElem? (i := 1767) (by decide +kernel), List.mem_of_getElem? (i := 1768) (by decide +kernel)⟩
theorem lw_p70 : lw_okq (⟨"SealedTokensModel", "layCurve", "()V"⟩, 134) := ⟨⟨by decide +kernel, by decide +kernel⟩, List.mem_of_getElem? (i := 1721) (by decide +kernel), List.mem_of_getElem? (i := 1777) (by decide +kernel), List.mem_of_getElem? (i := 1778) (by decide +kernel)⟩
theorem lw_p71 : lw_okq (⟨"SealedTokensModel$Mod", "twice", "([I)V"⟩, 9) := ⟨⟨by decide +kernel, by decide +kernel⟩, List.mem_of_getElem? (i := 1729) (by decide +kernel), List.mem_of_getElem? (i := 1803) (by decide +kernel), List.mem_of_getElem? (i := 1804) (by decide +kernel)⟩
theorem lw_p72 : lw_okq (⟨"SealedTokensModel$Mod", "less", "([I)V"⟩, 9) := ⟨⟨by decide +kernel, by decide +kernel⟩, List.mem_of_getElem? (i := 1729) (by decide +kernel), List.mem_of_getElem? (i := 1812) (by decide +kernel), List.mem_of_getElem? (i := 1813) (by decide +kernel)⟩
theorem lw_p73 : lw_okq (⟨"SealedTokensModel", "read", "([BIII)Z"⟩, 134) := ⟨⟨by decide +kernel, by decide +kernel⟩, List.mem_of_getElem? (i := 1721) (by decide +kernel), List.mem_of_getElem? (i := 2272) (by decide +kernel), List.mem_of_getElem? (i := 2273) (by decide +kernel)⟩
theorem lw_p74 : lw_okq (⟨"SealedTokensModel", "blanks", "()V"⟩, 134) := ⟨⟨by decide +kernel, by decide +kernel⟩, List.mem_of_getElem? (i := 1721) (by decide +kernel), List.mem_of_getElem? (i := 2276) (by decide +kernel), List.mem_of_getElem? (i := 2277) (by decide +kernel)⟩
theorem lw_p75 : lw_okq (⟨"SealedTokensModel", "at", "()I"⟩, 134) := ⟨⟨by decide +kernel, by decide +kernel⟩, List.mem_of_getElem? (i := 1721) (by decide +kernel), List.mem_of_getElem? (i := 2280) (by decide +kernel), List.mem_of_getElem? (i := 2281) (by decide +kernel)⟩
theorem lw_p76 : lw_okq (⟨"SealedTokensModel", "readValue", "(II)V"⟩, 134) := ⟨⟨by decide +kernel, by decide +kernel⟩, List.mem_of_getElem? (i := 1721) (by decide +kernel), List.mem_of_getElem? (i := 2284) (by decide +kernel), List.mem_of_getElem? (i := 2285) (by decide +kernel)⟩
theorem lw_p77 : lw_okq (⟨"SealedTokensModel", "fail", "(I)V"⟩, 134) := ⟨⟨by decide +kernel, by decide +kernel⟩, List.mem_of_getElem? (i := 1721) (by decide +kernel), List.mem_of_getElem? (i := 2288) (by decide +kernel), List.mem_of_getElem? (i := 2289) (by decide +kernel)⟩
theorem lw_p78 : lw_okq (⟨"SealedTokensModel", "readMany", "(IZ)V"⟩, 134) := ⟨⟨by decide +kernel, by decide +kernel⟩, List.mem_of_getElem? (i := 1721) (by decide +kernel), List.mem_of_getElem? (i := 2292) (by decide +kernel), List.mem_of_getElem? (i := 2293) (by decide +kernel)⟩
theorem lw_p79 : lw_okq (⟨"SealedTokensModel", "good", "()Z"⟩, 134) := ⟨⟨by decide +kernel, by decide +kernel⟩, List.mem_of_getElem? (i := 1721) (by decide +kernel), List.mem_of_getElem? (i := 2296) (by decide +kernel), List.mem_of_getElem? (i := 2297) (by decide +kernel)⟩
def lw_privs_5 : List (MethodName × Nat) := [(⟨"SealedTokens", "makeSealedKey", "(LSealedTokens$Key;LSealedTokens$Bytes;LSealedTokens$Bytes;)V"⟩, 18), (⟨"SealedTokens", "agree", "(LSealedTokens$Bytes;LSealedTokens$Bytes;LSealedTokens$Bytes;LSealedTokens$Bytes;)V"⟩, 18), (⟨"SealedTokens$Rsa", "putEmptyHash", "(LSealedTokens$Bytes;)V"⟩, 6), (⟨"SealedTokens$Token", "takeAgreement", "(LSealedTokens$Text;)Z"⟩, 16), (⟨"SealedTokens", "contentKeyComes", "(LSealedTokens$Key;)Z"⟩, 18), (⟨"SealedTokensModel", "layCipher", "()V"⟩, 134), (⟨"SealedTokensModel", "layCurve", "()V"⟩, 134), (⟨"SealedTokensModel$Mod", "twice", "([I)V"⟩, 9), (⟨"SealedTokensModel$Mod", "less", "([I)V"⟩, 9), (⟨"SealedTokensModel", "read", "([BIII)Z"⟩, 134), (⟨"SealedTokensModel", "blanks", "()V"⟩, 134), (⟨"SealedTokensModel", "at", "()I"⟩, 134), (⟨"SealedTokensModel", "readValue", "(II)V"⟩, 134), (⟨"SealedTokensModel", "fail", "(I)V"⟩, 134), (⟨"SealedTokensModel", "readMany", "(IZ)V"⟩, 134), (⟨"SealedTokensModel", "good", "()Z"⟩, 134)]
theorem lw_r5 : ∀ q ∈ lw_privs_5, lw_okq q := List.forall_mem_cons.mpr ⟨lw_p64, List.forall_mem_cons.mpr ⟨lw_p65, List.forall_mem_cons.mpr ⟨lw_p66, List.forall_mem_cons.mpr ⟨lw_p67, List.forall_mem_cons.mpr ⟨lw_p68, List.forall_mem_cons.mpr ⟨lw_p69, List.forall_mem_cons.mpr ⟨lw_p70, List.forall_mem_cons.mpr ⟨lw_p71, List.forall_mem_cons.mpr ⟨lw_p72, List.forall_mem_cons.mpr ⟨lw_p73, List.forall_mem_cons.mpr ⟨lw_p74, List.forall_mem_cons.mpr ⟨lw_p75, List.forall_mem_cons.mpr ⟨lw_p76, List.forall_mem_cons.mpr ⟨lw_p77, List.forall_mem_cons.mpr ⟨lw_p78, List.forall_mem_cons.mpr ⟨lw_p79, fun _ h => absurd h List.not_mem_nil⟩⟩⟩⟩⟩⟩⟩⟩⟩⟩⟩⟩⟩⟩⟩⟩
theorem lw_p80 : lw_okq (⟨"SealedTokensModel", "readName", "(I)V"⟩, 134) := ⟨⟨by decide +kernel, by decide +kernel⟩, List.mem_of_getElem? (i := 1721) (by decide +kernel), List.mem_of_getElem? (i := 2300) (by decide +kernel), List.mem_of_getElem? (i := 2301) (by decide +kernel)⟩
theorem lw_p81 : lw_okq (⟨"SealedTokensModel", "readString", "()V"⟩, 134) := ⟨⟨by decide +kernel, by decide +kernel⟩, List.mem_of_getElem? (i := 1721) (by decide +kernel), List.mem_of_getElem? (i := 2304) (by decide +kernel), List.mem_of_getElem? (i := 2305) (by decide +kernel)⟩
theorem lw_p82 : lw_okq (⟨"SealedTokensModel", "escape", "()V"⟩, 134) := ⟨⟨by decide +kernel, by decide +kernel⟩, List.mem_of_getElem? (i := 1721) (by decide +kernel), List.mem_of_getElem? (i := 2308) (by decide +kernel), List.mem_of_getElem? (i := 2309) (by decide +kernel)⟩
theorem lw_p83 : lw_okq (⟨"SealedTokensModel", "keep8", "(I)V"⟩, 134) := ⟨⟨by decide +kernel, by decide +kernel⟩, List.mem_of_getElem? (i := 1721) (by decide +kernel), List.mem_of_getElem? (i := 2368) (by decide +kernel), List.mem_of_getElem? (i := 2369) (by decide +kernel)⟩
theorem lw_p84 : lw_okq (⟨"SealedTokensModel", "four", "(Z)I"⟩, 134) := ⟨⟨by decide +kernel, by decide +kernel⟩, List.mem_of_getElem? (i := 1721) (by decide +kernel), List.mem_of_getElem? (i := 2372) (by decide +kernel), List.mem_of_getElem? (i := 2373) (by decide +kernel)⟩
theorem lw_p85 : lw_okq (⟨"SealedTokensModel", "sign8", "(I)V"⟩, 134) := ⟨⟨by decide +kernel, by decide +kernel⟩, List.mem_of_getElem? (i := 1721) (by decide +kernel), List.mem_of_getElem? (i := 2379) (by decide +kernel), List.mem_of_getElem? (i := 2380) (by decide +kernel)⟩
theorem lw_p86 : lw_okq (⟨"SealedTokensModel", "wide", "(I)V"⟩, 134) := ⟨⟨by decide +kernel, by decide +kernel⟩, List.mem_of_getElem? (i := 1721) (by decide +kernel), List.mem_of_getElem? (i := 2383) (by decide +kernel), List.mem_of_getElem? (i := 2384) (by decide +kernel)⟩
theorem lw_p87 : lw_okq (⟨"SealedTokensModel", "word", "(Ljava/lang/String;)V"⟩, 134) := ⟨⟨by decide +kernel, by decide +kernel⟩, List.mem_of_getElem? (i := 1721) (by decide +kernel), List.mem_of_getElem? (i := 2393) (by decide +kernel), List.mem_of_getElem? (i := 2394) (by decide +kernel)⟩
theorem lw_p88 : lw_okq (⟨"SealedTokensModel", "number", "()V"⟩, 134) := ⟨⟨by decide +kernel, by decide +kernel⟩, List.mem_of_getElem? (i := 1721) (by decide +kernel), List.mem_of_getElem? (i := 2398) (by decide +kernel), List.mem_of_getElem? (i := 2399) (by decide +kernel)⟩
theorem lw_p89 : lw_okq (⟨"SealedTokensModel", "digits", "()V"⟩, 134) := ⟨⟨by decide +kernel, by decide +kernel⟩, List.mem_of_getElem? (i := 1721) (by decide +kernel), List.mem_of_getElem? (i := 2402) (by decide +kernel), List.mem_of_getElem? (i := 2403) (by decide +kernel)⟩
theorem lw_p90 : lw_okq (⟨"SealedTokensModel", "isValue", "(I)Z"⟩, 134) := ⟨⟨by decide +kernel, by decide +kernel⟩, List.mem_of_getElem? (i := 1721) (by decide +kernel), List.mem_of_getElem? (i := 2410) (by decide +kernel), List.mem_of_getElem? (i := 2411) (by decide +kernel)⟩
theorem lw_p91 : lw_okq (⟨"SealedTokensModel", "tell", "([BII)I"⟩, 134) := ⟨⟨by decide +kernel, by decide +kernel⟩, List.mem_of_getElem? (i := 1721) (by decide +kernel), List.mem_of_getElem? (i := 2418) (by decide +kernel), List.mem_of_getElem? (i := 2419) (by decide +kernel)⟩
theorem lw_p92 : lw_okq (⟨"SealedTokensModel", "sayValue", "(I)V"⟩, 134) := ⟨⟨by decide +kernel, by decide +kernel⟩, List.mem_of_getElem? (i := 1721) (by decide +kernel), List.mem_of_getElem? (i := 2434) (by decide +kernel), List.mem_of_getElem? (i := 2435) (by decide +kernel)⟩
theorem lw_p93 : lw_okq (⟨"SealedTokensModel", "sayAll", "(Ljava/lang/String;)V"⟩, 134) := ⟨⟨by decide +kernel, by decide +kernel⟩, List.mem_of_getElem? (i := 1721) (by decide +kernel), List.mem_of_getElem? (i := 2438) (by decide +kernel), List.mem_of_getElem? (i := 2439) (by decide +kernel)⟩
theorem lw_p94 : lw_okq (⟨"SealedTokensModel", "say", "(I)V"⟩, 134) := ⟨⟨by decide +kernel, by decide +kernel⟩, List.mem_of_getElem? (i := 1721) (by decide +kernel), List.mem_of_getElem? (i := 2442) (by decide +kernel), List.mem_of_getElem? (i := 2443) (by decide +kernel)⟩
theorem lw_p95 : lw_okq (⟨"SealedTokensModel", "sayString", "([BII)V"⟩, 134) := ⟨⟨by decide +kernel, by decide +kernel⟩, List.mem_of_getElem? (i := 1721) (by decide +kernel), List.mem_of_getElem? (i := 2446) (by decide +kernel), List.mem_of_getElem? (i := 2447) (by decide +kernel)⟩
def lw_privs_6 : List (MethodName × Nat) := [(⟨"SealedTokensModel", "readName", "(I)V"⟩, 134), (⟨"SealedTokensModel", "readString", "()V"⟩, 134), (⟨"SealedTokensModel", "escape", "()V"⟩, 134), (⟨"SealedTokensModel", "keep8", "(I)V"⟩, 134), (⟨"SealedTokensModel", "four", "(Z)I"⟩, 134), (⟨"SealedTokensModel", "sign8", "(I)V"⟩, 134), (⟨"SealedTokensModel", "wide", "(I)V"⟩, 134), (⟨"SealedTokensModel", "word", "(Ljava/lang/String;)V"⟩, 134), (⟨"SealedTokensModel", "number", "()V"⟩, 134), (⟨"SealedTokensModel", "digits", "()V"⟩, 134), (⟨"SealedTokensModel", "isValue", "(I)Z"⟩, 134), (⟨"SealedTokensModel", "tell", "([BII)I"⟩, 134), (⟨"SealedTokensModel", "sayValue", "(I)V"⟩, 134), (⟨"SealedTokensModel", "sayAll", "(Ljava/lang/String;)V"⟩, 134), (⟨"SealedTokensModel", "say", "(I)V"⟩, 134), (⟨"SealedTokensModel", "sayString", "([BII)V"⟩, 134)]
theorem lw_r6 : ∀ q ∈ lw_privs_6, lw_okq q := List.forall_mem_cons.mpr ⟨lw_p80, List.forall_mem_cons.mpr ⟨lw_p81, List.forall_mem_cons.mpr ⟨lw_p82, List.forall_mem_cons.mpr ⟨lw_p83, List.forall_mem_cons.mpr ⟨lw_p84, List.forall_mem_cons.mpr ⟨lw_p85, List.forall_mem_cons.mpr ⟨lw_p86, List.forall_mem_cons.mpr ⟨lw_p87, List.forall_mem_cons.mpr ⟨lw_p88, List.forall_mem_cons.mpr ⟨lw_p89, List.forall_mem_cons.mpr ⟨lw_p90, List.forall_mem_cons.mpr ⟨lw_p91, List.forall_mem_cons.mpr ⟨lw_p92, List.forall_mem_cons.mpr ⟨lw_p93, List.forall_mem_cons.mpr ⟨lw_p94, List.forall_mem_cons.mpr ⟨lw_p95, fun _ h => absurd h List.not_mem_nil⟩⟩⟩⟩⟩⟩⟩⟩⟩⟩⟩⟩⟩⟩⟩⟩
theorem lw_p96 : lw_okq (⟨"SealedTokensModel", "saved", "()I"⟩, 134) := ⟨⟨by decide +kernel, by decide +kernel⟩, List.mem_of_getElem? (i := 1721) (by decide +kernel), List.mem_of_getElem? (i := 2452) (by decide +kernel), List.mem_of_getElem? (i := 2453) (by decide +kernel)⟩
theorem lw_p97 : lw_okq (⟨"SealedTokensModel", "sayLetters", "([BII)V"⟩, 134) := ⟨⟨by decide +kernel, by decide +kernel⟩, List.mem_of_getElem? (i := 1721) (by decide +kernel), List.mem_of_getElem? (i := 2460) (by decide +kernel), List.mem_of_getElem? (i := 2461) (by decide +kernel)⟩
theorem lw_p98 : lw_okq (⟨"SealedTokensModel", "unletter", "([BII[BI)I"⟩, 134) := ⟨⟨by decide +kernel, by decide +kernel⟩, List.mem_of_getElem? (i := 1721) (by decide +kernel), List.mem_of_getElem? (i := 2471) (by decide +kernel), List.mem_of_getElem? (i := 2472) (by decide +kernel)⟩
theorem lw_p99 : lw_okq (⟨"SealedTokensModel", "empty", "()V"⟩, 134) := ⟨⟨by decide +kernel, by decide +kernel⟩, List.mem_of_getElem? (i := 1721) (by decide +kernel), List.mem_of_getElem? (i := 2483) (by decide +kernel), List.mem_of_getElem? (i := 2484) (by decide +kernel)⟩
theorem lw_p100 : lw_okq (⟨"SealedTokensModel", "lay", "([BII)V"⟩, 134) := ⟨⟨by decide +kernel, by decide +kernel⟩, List.mem_of_getElem? (i := 1721) (by decide +kernel), List.mem_of_getElem? (i := 2487) (by decide +kernel), List.mem_of_getElem? (i := 2488) (by decide +kernel)⟩
theorem lw_p101 : lw_okq (⟨"SealedTokensModel", "digestOf", "(I)I"⟩, 134) := ⟨⟨by decide +kernel, by decide +kernel⟩, List.mem_of_getElem? (i := 1721) (by decide +kernel), List.mem_of_getElem? (i := 2491) (by decide +kernel), List.mem_of_getElem? (i := 2492) (by decide +kernel)⟩
theorem lw_p102 : lw_okq (⟨"SealedTokensModel", "digest64", "()V"⟩, 134) := ⟨⟨by decide +kernel, by decide +kernel⟩, List.mem_of_getElem? (i := 1721) (by decide +kernel), List.mem_of_getElem? (i := 2495) (by decide +kernel), List.mem_of_getElem? (i := 2496) (by decide +kernel)⟩
theorem lw_p103 : lw_okq (⟨"SealedTokensModel", "fill", "(I)V"⟩, 134) := ⟨⟨by decide +kernel, by decide +kernel⟩, List.mem_of_getElem? (i := 1721) (by decide +kernel), List.mem_of_getElem? (i := 2499) (by decide +kernel), List.mem_of_getElem? (i := 2500) (by decide +kernel)⟩
theorem lw_p104 : lw_okq (⟨"SealedTokensModel", "layNumber", "(JI)V"⟩, 134) := ⟨⟨by decide +kernel, by decide +kernel⟩, List.mem_of_getElem? (i := 1721) (by decide +kernel), List.mem_of_getElem? (i := 2505) (by decide +kernel), List.mem_of_getElem? (i := 2506) (by decide +kernel)⟩
theorem lw_p105 : lw_okq (⟨"SealedTokensModel", "turn64", "()V"⟩, 134) := ⟨⟨by decide +kernel, by decide +kernel⟩, List.mem_of_getElem? (i := 1721) (by decide +kernel), List.mem_of_getElem? (i := 2524) (by decide +kernel), List.mem_of_getElem? (i := 2525) (by decide +kernel)⟩
theorem lw_p106 : lw_okq (⟨"SealedTokensModel", "turn32", "()V"⟩, 134) := ⟨⟨by decide +kernel, by decide +kernel⟩, List.mem_of_getElem? (i := 1721) (by decide +kernel), List.mem_of_getElem? (i := 2534) (by decide +kernel), List.mem_of_getElem? (i := 2535) (by decide +kernel)⟩
theorem lw_p107 : lw_okq (⟨"SealedTokensModel", "tellMessage", "([BII)V"⟩, 134) := ⟨⟨by decide +kernel, by decide +kernel⟩, List.mem_of_getElem? (i := 1721) (by decide +kernel), List.mem_of_getElem? (i := 2547) (by decide +kernel), List.mem_of_getElem? (i := 2548) (by decide +kernel)⟩
theorem lw_p108 : lw_okq (⟨"SealedTokensModel", "codeOf", "(I[BII)I"⟩, 134) := ⟨⟨by decide +kernel, by decide +kernel⟩, List.mem_of_getElem? (i := 1721) (by decide +kernel), List.mem_of_getElem? (i := 2551) (by decide +kernel), List.mem_of_getElem? (i := 2552) (by decide +kernel)⟩
theorem lw_p109 : lw_okq (⟨"SealedTokensModel", "setKey", "([BII)V"⟩, 134) := ⟨⟨by decide +kernel, by decide +kernel⟩, List.mem_of_getElem? (i := 1721) (by decide +kernel), List.mem_of_getElem? (i := 2559) (by decide +kernel), List.mem_of_getElem? (i := 2560) (by decide +kernel)⟩
theorem lw_p110 : lw_okq (⟨"SealedTokensModel", "setCells", "([BI)V"⟩, 134) := ⟨⟨by decide +kernel, by decide +kernel⟩, List.mem_of_getElem? (i := 1721) (by decide +kernel), List.mem_of_getElem? (i := 2563) (by decide +kernel), List.mem_of_getElem? (i := 2564) (by decide +kernel)⟩
theorem lw_p111 : lw_okq (⟨"SealedTokensModel", "back", "()V"⟩, 134) := ⟨⟨by decide +kernel, by decide +kernel⟩, List.mem_of_getElem? (i := 1721) (by decide +kernel), List.mem_of_getElem? (i := 2567) (by decide +kernel), List.mem_of_getElem? (i := 2568) (by decide +kernel)⟩
def lw_privs_7 : List (MethodName × Nat) := [(⟨"SealedTokensModel", "saved", "()I"⟩, 134), (⟨"SealedTokensModel", "sayLetters", "([BII)V"⟩, 134), (⟨"SealedTokensModel", "unletter", "([BII[BI)I"⟩, 134), (⟨"SealedTokensModel", "empty", "()V"⟩, 134), (⟨"SealedTokensModel", "lay", "([BII)V"⟩, 134), (⟨"SealedTokensModel", "digestOf", "(I)I"⟩, 134), (⟨"SealedTokensModel", "digest64", "()V"⟩, 134), (⟨"SealedTokensModel", "fill", "(I)V"⟩, 134), (⟨"SealedTokensModel", "layNumber", "(JI)V"⟩, 134), (⟨"SealedTokensModel", "turn64", "()V"⟩, 134), (⟨"SealedTokensModel", "turn32", "()V"⟩, 134), (⟨"SealedTokensModel", "tellMessage", "([BII)V"⟩, 134), (⟨"SealedTokensModel", "codeOf", "(I[BII)I"⟩, 134), (⟨"SealedTokensModel", "setKey", "([BII)V"⟩, 134), (⟨"SealedTokensModel", "setCells", "([BI)V"⟩, 134), (⟨"SealedTokensModel", "back", "()V"⟩, 134)]
theorem lw_r7 : ∀ q ∈ lw_privs_7, lw_okq q := List.forall_mem_cons.mpr ⟨lw_p96, List.forall_mem_cons.mpr ⟨lw_p97, List.forall_mem_cons.mpr ⟨lw_p98, List.forall_mem_cons.mpr ⟨lw_p99, List.forall_mem_cons.mpr ⟨lw_p100, List.forall_mem_cons.mpr ⟨lw_p101, List.forall_mem_cons.mpr ⟨lw_p102, List.forall_mem_cons.mpr ⟨lw_p103, List.forall_mem_cons.mpr ⟨lw_p104, List.forall_mem_cons.mpr ⟨lw_p105, List.forall_mem_cons.mpr ⟨lw_p106, List.forall_mem_cons.mpr ⟨lw_p107, List.forall_mem_cons.mpr ⟨lw_p108, List.forall_mem_cons.mpr ⟨lw_p109, List.forall_mem_cons.mpr ⟨lw_p110, List.forall_mem_cons.mpr ⟨lw_p111, fun _ h => absurd h List.not_mem_nil⟩⟩⟩⟩⟩⟩⟩⟩⟩⟩⟩⟩⟩⟩⟩⟩
theorem lw_p112 : lw_okq (⟨"SealedTokensModel", "withKey", "(I)V"⟩, 134) := ⟨⟨by decide +kernel, by decide +kernel⟩, List.mem_of_getElem? (i := 1721) (by decide +kernel), List.mem_of_getElem? (i := 2571) (by decide +kernel), List.mem_of_getElem? (i := 2572) (by decide +kernel)⟩
theorem lw_p113 : lw_okq (⟨"SealedTokensModel", "forth", "()V"⟩, 134) := ⟨⟨by decide +kernel, by decide +kernel⟩, List.mem_of_getElem? (i := 1721) (by decide +kernel), List.mem_of_getElem? (i := 2575) (by decide +kernel), List.mem_of_getElem? (i := 2576) (by decide +kernel)⟩
theorem lw_p114 : lw_okq (⟨"SealedTokensModel", "getCells", "([BI)V"⟩, 134) := ⟨⟨by decide +kernel, by decide +kernel⟩, List.mem_of_getElem? (i := 1721) (by decide +kernel), List.mem_of_getElem? (i := 2579) (by decide +kernel), List.mem_of_getElem? (i := 2580) (by decide +kernel)⟩
theorem lw_p115 : lw_okq (⟨"SealedTokensModel", "isCipherKey", "(I)Z"⟩, 134) := ⟨⟨by decide +kernel, by decide +kernel⟩, List.mem_of_getElem? (i := 1721) (by decide +kernel), List.mem_of_getElem? (i := 2587) (by decide +kernel), List.mem_of_getElem? (i := 2588) (by decide +kernel)⟩
theorem lw_p116 : lw_okq (⟨"SealedTokensModel", "wrapUp", "([BII)I"⟩, 134) := ⟨⟨by decide +kernel, by decide +kernel⟩, List.mem_of_getElem? (i := 1721) (by decide +kernel), List.mem_of_getElem? (i := 2591) (by decide +kernel), List.mem_of_getElem? (i := 2592) (by decide +kernel)⟩
theorem lw_p117 : lw_okq (⟨"SealedTokensModel", "unwrapIt", "([BII)Z"⟩, 134) := ⟨⟨by decide +kernel, by decide +kernel⟩, List.mem_of_getElem? (i := 1721) (by decide +kernel), List.mem_of_getElem? (i := 2599) (by decide +kernel), List.mem_of_getElem? (i := 2600) (by decide +kernel)⟩
theorem lw_p118 : lw_okq (⟨"SealedTokensModel", "isContent", "(IIIII)Z"⟩, 134) := ⟨⟨by decide +kernel, by decide +kernel⟩, List.mem_of_getElem? (i := 1721) (by decide +kernel), List.mem_of_getElem? (i := 2608) (by decide +kernel), List.mem_of_getElem? (i := 2609) (by decide +kernel)⟩
theorem lw_p119 : lw_okq (⟨"SealedTokensModel", "sealIt", "(I[BI[BI[BII[BII)V"⟩, 134) := ⟨⟨by decide +kernel, by decide +kernel⟩, List.mem_of_getElem? (i := 1721) (by decide +kernel), List.mem_of_getElem? (i := 2621) (by decide +kernel), List.mem_of_getElem? (i := 2622) (by decide +kernel)⟩
theorem lw_p120 : lw_okq (⟨"SealedTokensModel", "stream", "([BI[BII)V"⟩, 134) := ⟨⟨by decide +kernel, by decide +kernel⟩, List.mem_of_getElem? (i := 1721) (by decide +kernel), List.mem_of_getElem? (i := 2625) (by decide +kernel), List.mem_of_getElem? (i := 2626) (by decide +kernel)⟩
theorem lw_p121 : lw_okq (⟨"SealedTokensModel", "setCounter", "([BII)V"⟩, 134) := ⟨⟨by decide +kernel, by decide +kernel⟩, List.mem_of_getElem? (i := 1721) (by decide +kernel), List.mem_of_getElem? (i := 2629) (by decide +kernel), List.mem_of_getElem? (i := 2630) (by decide +kernel)⟩
theorem lw_p122 : lw_okq (⟨"SealedTokensModel", "sumMark", "([BI[BII[BII)V"⟩, 134) := ⟨⟨by decide +kernel, by decide +kernel⟩, List.mem_of_getElem? (i := 1721) (by decide +kernel), List.mem_of_getElem? (i := 2633) (by decide +kernel), List.mem_of_getElem? (i := 2634) (by decide +kernel)⟩
theorem lw_p123 : lw_okq (⟨"SealedTokensModel", "gatherAll", "([BII)V"⟩, 134) := ⟨⟨by decide +kernel, by decide +kernel⟩, List.mem_of_getElem? (i := 1721) (by decide +kernel), List.mem_of_getElem? (i := 2637) (by decide +kernel), List.mem_of_getElem? (i := 2638) (by decide +kernel)⟩
theorem lw_p124 : lw_okq (⟨"SealedTokensModel", "gather", "([BII)V"⟩, 134) := ⟨⟨by decide +kernel, by decide +kernel⟩, List.mem_of_getElem? (i := 1721) (by decide +kernel), List.mem_of_getElem? (i := 2641) (by decide +kernel), List.mem_of_getElem? (i := 2642) (by decide +kernel)⟩
theorem lw_p125 : lw_okq (⟨"SealedTokensModel", "codeMark", "(I[BI[BI[BII[BII)V"⟩, 134) := ⟨⟨by decide +kernel, by decide +kernel⟩, List.mem_of_getElem? (i := 1721) (by decide +kernel), List.mem_of_getElem? (i := 2646) (by decide +kernel), List.mem_of_getElem? (i := 2647) (by decide +kernel)⟩
theorem lw_p126 : lw_okq (⟨"SealedTokensModel", "openIt", "(I[BI[BI[BII[BII[BI)Z"⟩, 134) := ⟨⟨by decide +kernel, by decide +kernel⟩, List.mem_of_getElem? (i := 1721) (by decide +kernel), List.mem_of_getElem? (i := 2654) (by decide +kernel), List.mem_of_getElem? (i := 2655) (by decide +kernel)⟩
theorem lw_p127 : lw_okq (⟨"SealedTokensModel", "raise", "([BII[BII[BII)V"⟩, 134) := ⟨⟨by decide +kernel, by decide +kernel⟩, List.mem_of_getElem? (i := 1721) (by decide +kernel), List.mem_of_getElem? (i := 2662) (by decide +kernel), List.mem_of_getElem? (i := 2663) (by decide +kernel)⟩
def lw_privs_8 : List (MethodName × Nat) := [(⟨"SealedTokensModel", "withKey", "(I)V"⟩, 134), (⟨"SealedTokensModel", "forth", "()V"⟩, 134), (⟨"SealedTokensModel", "getCells", "([BI)V"⟩, 134), (⟨"SealedTokensModel", "isCipherKey", "(I)Z"⟩, 134), (⟨"SealedTokensModel", "wrapUp", "([BII)I"⟩, 134), (⟨"SealedTokensModel", "unwrapIt", "([BII)Z"⟩, 134), (⟨"SealedTokensModel", "isContent", "(IIIII)Z"⟩, 134), (⟨"SealedTokensModel", "sealIt", "(I[BI[BI[BII[BII)V"⟩, 134), (⟨"SealedTokensModel", "stream", "([BI[BII)V"⟩, 134), (⟨"SealedTokensModel", "setCounter", "([BII)V"⟩, 134), (⟨"SealedTokensModel", "sumMark", "([BI[BII[BII)V"⟩, 134), (⟨"SealedTokensModel", "gatherAll", "([BII)V"⟩, 134), (⟨"SealedTokensModel", "gather", "([BII)V"⟩, 134), (⟨"SealedTokensModel", "codeMark", "(I[BI[BI[BII[BII)V"⟩, 134), (⟨"SealedTokensModel", "openIt", "(I[BI[BI[BII[BII[BI)Z"⟩, 134), (⟨"SealedTokensModel", "raise", "([BII[BII[BII)V"⟩, 134)]
theorem lw_r8 : ∀ q ∈ lw_privs_8, lw_okq q := List.forall_mem_cons.mpr ⟨lw_p112, List.forall_mem_cons.mpr ⟨lw_p113, List.forall_mem_cons.mpr ⟨lw_p114, List.forall_mem_cons.mpr ⟨lw_p115, List.forall_mem_cons.mpr ⟨lw_p116, List.forall_mem_cons.mpr ⟨lw_p117, List.forall_mem_cons.mpr ⟨lw_p118, List.forall_mem_cons.mpr ⟨lw_p119, List.forall_mem_cons.mpr ⟨lw_p120, List.forall_mem_cons.mpr ⟨lw_p121, List.forall_mem_cons.mpr ⟨lw_p122, List.forall_mem_cons.mpr ⟨lw_p123, List.forall_mem_cons.mpr ⟨lw_p124, List.forall_mem_cons.mpr ⟨lw_p125, List.forall_mem_cons.mpr ⟨lw_p126, List.forall_mem_cons.mpr ⟨lw_p127, fun _ h => absurd h List.not_mem_nil⟩⟩⟩⟩⟩⟩⟩⟩⟩⟩⟩⟩⟩⟩⟩⟩
theorem lw_p128 : lw_okq (⟨"SealedTokensModel$Mod", "addOne", "([I)V"⟩, 9) := ⟨⟨by decide +kernel, by decide +kernel⟩, List.mem_of_getElem? (i := 1729) (by decide +kernel), List.mem_of_getElem? (i := 2670) (by decide +kernel), List.mem_of_getElem? (i := 2671) (by decide +kernel)⟩
theorem lw_p129 : lw_okq (⟨"SealedTokensModel", "setPoint", "([BI)Z"⟩, 134) := ⟨⟨by decide +kernel, by decide +kernel⟩, List.mem_of_getElem? (i := 1721) (by decide +kernel), List.mem_of_getElem? (i := 2690) (by decide +kernel), List.mem_of_getElem? (i := 2691) (by decide +kernel)⟩
theorem lw_p130 : lw_okq (⟨"SealedTokensModel", "times", "([BI)V"⟩, 134) := ⟨⟨by decide +kernel, by decide +kernel⟩, List.mem_of_getElem? (i := 1721) (by decide +kernel), List.mem_of_getElem? (i := 2704) (by decide +kernel), List.mem_of_getElem? (i := 2705) (by decide +kernel)⟩
theorem lw_p131 : lw_okq (⟨"SealedTokensModel", "twicePoint", "()V"⟩, 134) := ⟨⟨by decide +kernel, by decide +kernel⟩, List.mem_of_getElem? (i := 1721) (by decide +kernel), List.mem_of_getElem? (i := 2708) (by decide +kernel), List.mem_of_getElem? (i := 2709) (by decide +kernel)⟩
theorem lw_p132 : lw_okq (⟨"SealedTokensModel", "addPoint", "()V"⟩, 134) := ⟨⟨by decide +kernel, by decide +kernel⟩, List.mem_of_getElem? (i := 1721) (by decide +kernel), List.mem_of_getElem? (i := 2716) (by decide +kernel), List.mem_of_getElem? (i := 2717) (by decide +kernel)⟩
theorem lw_p133 : lw_okq (⟨"SealedTokensModel", "getPoint", "([BI)Z"⟩, 134) := ⟨⟨by decide +kernel, by decide +kernel⟩, List.mem_of_getElem? (i := 1721) (by decide +kernel), List.mem_of_getElem? (i := 2720) (by decide +kernel), List.mem_of_getElem? (i := 2721) (by decide +kernel)⟩
theorem lw_p134 : lw_okq (⟨"SealedTokensModel", "setLessTwo", "([B)V"⟩, 134) := ⟨⟨by decide +kernel, by decide +kernel⟩, List.mem_of_getElem? (i := 1721) (by decide +kernel), List.mem_of_getElem? (i := 2724) (by decide +kernel), List.mem_of_getElem? (i := 2725) (by decide +kernel)⟩
theorem lw_p135 : lw_okq (⟨"SealedTokensModel", "deriveIt", "([BII[BII[BII[BIII)V"⟩, 134) := ⟨⟨by decide +kernel, by decide +kernel⟩, List.mem_of_getElem? (i := 1721) (by decide +kernel), List.mem_of_getElem? (i := 2732) (by decide +kernel), List.mem_of_getElem? (i := 2733) (by decide +kernel)⟩
theorem lw_p136 : lw_okq (⟨"SealedTokensModel", "memberOf", "(IILjava/lang/String;)I"⟩, 134) := ⟨⟨by decide +kernel, by decide +kernel⟩, List.mem_of_getElem? (i := 1721) (by decide +kernel), List.mem_of_getElem? (i := 2741) (by decide +kernel), List.mem_of_getElem? (i := 2742) (by decide +kernel)⟩
theorem lw_p137 : lw_okq (⟨"SealedTokensModel", "isSaid", "(IILjava/lang/String;)Z"⟩, 134) := ⟨⟨by decide +kernel, by decide +kernel⟩, List.mem_of_getElem? (i := 1721) (by decide +kernel), List.mem_of_getElem? (i := 2745) (by decide +kernel), List.mem_of_getElem? (i := 2746) (by decide +kernel)⟩
theorem lw_p138 : lw_okq (⟨"SealedTokensModel", "says", "(IILjava/lang/String;)Z"⟩, 134) := ⟨⟨by decide +kernel, by decide +kernel⟩, List.mem_of_getElem? (i := 1721) (by decide +kernel), List.mem_of_getElem? (i := 2750) (by decide +kernel), List.mem_of_getElem? (i := 2751) (by decide +kernel)⟩
theorem lw_p139 : lw_okq (⟨"SealedTokensModel", "isString", "(II)Z"⟩, 134) := ⟨⟨by decide +kernel, by decide +kernel⟩, List.mem_of_getElem? (i := 1721) (by decide +kernel), List.mem_of_getElem? (i := 2754) (by decide +kernel), List.mem_of_getElem? (i := 2755) (by decide +kernel)⟩
theorem lw_p140 : lw_okq (⟨"SealedTokensModel", "isOdd", "(ILjava/lang/String;)Z"⟩, 134) := ⟨⟨by decide +kernel, by decide +kernel⟩, List.mem_of_getElem? (i := 1721) (by decide +kernel), List.mem_of_getElem? (i := 2761) (by decide +kernel), List.mem_of_getElem? (i := 2762) (by decide +kernel)⟩
theorem lw_p141 : lw_okq (⟨"SealedTokensModel", "bytesOf", "(IILjava/lang/String;[B)I"⟩, 134) := ⟨⟨by decide +kernel, by decide +kernel⟩, List.mem_of_getElem? (i := 1721) (by decide +kernel), List.mem_of_getElem? (i := 2772) (by decide +kernel), List.mem_of_getElem? (i := 2773) (by decide +kernel)⟩
theorem lw_p142 : lw_okq (⟨"SealedTokensModel", "isRsa", "()Z"⟩, 134) := ⟨⟨by decide +kernel, by decide +kernel⟩, List.mem_of_getElem? (i := 1721) (by decide +kernel), List.mem_of_getElem? (i := 2779) (by decide +kernel), List.mem_of_getElem? (i := 2780) (by decide +kernel)⟩
theorem lw_p143 : lw_okq (⟨"SealedTokensModel", "isLessThan", "([BI[BI)Z"⟩, 134) := ⟨⟨by decide +kernel, by decide +kernel⟩, List.mem_of_getElem? (i := 1721) (by decide +kernel), List.mem_of_getElem? (i := 2783) (by decide +kernel), List.mem_of_getElem? (i := 2784) (by decide +kernel)⟩
def lw_privs_9 : List (MethodName × Nat) := [(⟨"SealedTokensModel$Mod", "addOne", "([I)V"⟩, 9), (⟨"SealedTokensModel", "setPoint", "([BI)Z"⟩, 134), (⟨"SealedTokensModel", "times", "([BI)V"⟩, 134), (⟨"SealedTokensModel", "twicePoint", "()V"⟩, 134), (⟨"SealedTokensModel", "addPoint", "()V"⟩, 134), (⟨"SealedTokensModel", "getPoint", "([BI)Z"⟩, 134), (⟨"SealedTokensModel", "setLessTwo", "([B)V"⟩, 134), (⟨"SealedTokensModel", "deriveIt", "([BII[BII[BII[BIII)V"⟩, 134), (⟨"SealedTokensModel", "memberOf", "(IILjava/lang/String;)I"⟩, 134), (⟨"SealedTokensModel", "isSaid", "(IILjava/lang/String;)Z"⟩, 134), (⟨"SealedTokensModel", "says", "(IILjava/lang/String;)Z"⟩, 134), (⟨"SealedTokensModel", "isString", "(II)Z"⟩, 134), (⟨"SealedTokensModel", "isOdd", "(ILjava/lang/String;)Z"⟩, 134), (⟨"SealedTokensModel", "bytesOf", "(IILjava/lang/String;[B)I"⟩, 134), (⟨"SealedTokensModel", "isRsa", "()Z"⟩, 134), (⟨"SealedTokensModel", "isLessThan", "([BI[BI)Z"⟩, 134)]
theorem lw_r9 : ∀ q ∈ lw_privs_9, lw_okq q := List.forall_mem_cons.mpr ⟨lw_p128, List.forall_mem_cons.mpr ⟨lw_p129, List.forall_mem_cons.mpr ⟨lw_p130, List.forall_mem_cons.mpr ⟨lw_p131, List.forall_mem_cons.mpr ⟨lw_p132, List.forall_mem_cons.mpr ⟨lw_p133, List.forall_mem_cons.mpr ⟨lw_p134, List.forall_mem_cons.mpr ⟨lw_p135, List.forall_mem_cons.mpr ⟨lw_p136, List.forall_mem_cons.mpr ⟨lw_p137, List.forall_mem_cons.mpr ⟨lw_p138, List.forall_mem_cons.mpr ⟨lw_p139, List.forall_mem_cons.mpr ⟨lw_p140, List.forall_mem_cons.mpr ⟨lw_p141, List.forall_mem_cons.mpr ⟨lw_p142, List.forall_mem_cons.mpr ⟨lw_p143, fun _ h => absurd h List.not_mem_nil⟩⟩⟩⟩⟩⟩⟩⟩⟩⟩⟩⟩⟩⟩⟩⟩
theorem lw_p144 : lw_okq (⟨"SealedTokensModel", "isEc", "()Z"⟩, 134) := ⟨⟨by decide +kernel, by decide +kernel⟩, List.mem_of_getElem? (i := 1721) (by decide +kernel), List.mem_of_getElem? (i := 2787) (by decide +kernel), List.mem_of_getElem? (i := 2788) (by decide +kernel)⟩
theorem lw_p145 : lw_okq (⟨"SealedTokensModel", "isSecret", "([BI)Z"⟩, 134) := ⟨⟨by decide +kernel, by decide +kernel⟩, List.mem_of_getElem? (i := 1721) (by decide +kernel), List.mem_of_getElem? (i := 2791) (by decide +kernel), List.mem_of_getElem? (i := 2792) (by decide +kernel)⟩
theorem lw_p146 : lw_okq (⟨"SealedTokensModel", "keepKey", "(III)V"⟩, 134) := ⟨⟨by decide +kernel, by decide +kernel⟩, List.mem_of_getElem? (i := 1721) (by decide +kernel), List.mem_of_getElem? (i := 2795) (by decide +kernel), List.mem_of_getElem? (i := 2796) (by decide +kernel)⟩
theorem lw_p147 : lw_okq (⟨"SealedTokensModel", "keepWord", "(II[BI)I"⟩, 134) := ⟨⟨by decide +kernel, by decide +kernel⟩, List.mem_of_getElem? (i := 1721) (by decide +kernel), List.mem_of_getElem? (i := 2801) (by decide +kernel), List.mem_of_getElem? (i := 2802) (by decide +kernel)⟩
theorem lw_p148 : lw_okq (⟨"SealedTokensModel", "isKey", "(I)Z"⟩, 134) := ⟨⟨by decide +kernel, by decide +kernel⟩, List.mem_of_getElem? (i := 1721) (by decide +kernel), List.mem_of_getElem? (i := 2809) (by decide +kernel), List.mem_of_getElem? (i := 2810) (by decide +kernel)⟩
theorem lw_p149 : lw_okq (⟨"SealedTokensModel", "sayPart", "(Ljava/lang/String;[BII)V"⟩, 134) := ⟨⟨by decide +kernel, by decide +kernel⟩, List.mem_of_getElem? (i := 1721) (by decide +kernel), List.mem_of_getElem? (i := 2822) (by decide +kernel), List.mem_of_getElem? (i := 2823) (by decide +kernel)⟩
theorem lw_p150 : lw_okq (⟨"SealedTokensModel", "maySign", "(IIZ)Z"⟩, 134) := ⟨⟨by decide +kernel, by decide +kernel⟩, List.mem_of_getElem? (i := 1721) (by decide +kernel), List.mem_of_getElem? (i := 2836) (by decide +kernel), List.mem_of_getElem? (i := 2837) (by decide +kernel)⟩
theorem lw_p151 : lw_okq (⟨"SealedTokensModel", "lets", "(ILjava/lang/String;II)Z"⟩, 134) := ⟨⟨by decide +kernel, by decide +kernel⟩, List.mem_of_getElem? (i := 1721) (by decide +kernel), List.mem_of_getElem? (i := 2841) (by decide +kernel), List.mem_of_getElem? (i := 2842) (by decide +kernel)⟩
theorem lw_p152 : lw_okq (⟨"SealedTokensModel", "sayHead", "(ILjava/lang/String;II)V"⟩, 134) := ⟨⟨by decide +kernel, by decide +kernel⟩, List.mem_of_getElem? (i := 1721) (by decide +kernel), List.mem_of_getElem? (i := 2848) (by decide +kernel), List.mem_of_getElem? (i := 2849) (by decide +kernel)⟩
theorem lw_p153 : lw_okq (⟨"SealedTokensModel", "sayWord", "(Ljava/lang/String;I)V"⟩, 134) := ⟨⟨by decide +kernel, by decide +kernel⟩, List.mem_of_getElem? (i := 1721) (by decide +kernel), List.mem_of_getElem? (i := 2853) (by decide +kernel), List.mem_of_getElem? (i := 2854) (by decide +kernel)⟩
theorem lw_p154 : lw_okq (⟨"SealedTokensModel", "late", "(III)I"⟩, 134) := ⟨⟨by decide +kernel, by decide +kernel⟩, List.mem_of_getElem? (i := 1721) (by decide +kernel), List.mem_of_getElem? (i := 2863) (by decide +kernel), List.mem_of_getElem? (i := 2864) (by decide +kernel)⟩
theorem lw_p155 : lw_okq (⟨"SealedTokensModel", "signIt", "(III)I"⟩, 134) := ⟨⟨by decide +kernel, by decide +kernel⟩, List.mem_of_getElem? (i := 1721) (by decide +kernel), List.mem_of_getElem? (i := 2867) (by decide +kernel), List.mem_of_getElem? (i := 2868) (by decide +kernel)⟩
theorem lw_p156 : lw_okq (⟨"SealedTokensModel", "signPoint", "(II)I"⟩, 134) := ⟨⟨by decide +kernel, by decide +kernel⟩, List.mem_of_getElem? (i := 1721) (by decide +kernel), List.mem_of_getElem? (i := 2871) (by decide +kernel), List.mem_of_getElem? (i := 2872) (by decide +kernel)⟩
theorem lw_p157 : lw_okq (⟨"SealedTokensModel", "digestNumber", "()V"⟩, 134) := ⟨⟨by decide +kernel, by decide +kernel⟩, List.mem_of_getElem? (i := 1721) (by decide +kernel), List.mem_of_getElem? (i := 2875) (by decide +kernel), List.mem_of_getElem? (i := 2876) (by decide +kernel)⟩
theorem lw_p158 : lw_okq (⟨"SealedTokensModel", "digestMessage", "()V"⟩, 134) := ⟨⟨by decide +kernel, by decide +kernel⟩, List.mem_of_getElem? (i := 1721) (by decide +kernel), List.mem_of_getElem? (i := 2879) (by decide +kernel), List.mem_of_getElem? (i := 2880) (by decide +kernel)⟩
theorem lw_p159 : lw_okq (⟨"SealedTokensModel", "saltOut", "([BIII)V"⟩, 134) := ⟨⟨by decide +kernel, by decide +kernel⟩, List.mem_of_getElem? (i := 1721) (by decide +kernel), List.mem_of_getElem? (i := 2886) (by decide +kernel), List.mem_of_getElem? (i := 2887) (by decide +kernel)⟩
def lw_privs_10 : List (MethodName × Nat) := [(⟨"SealedTokensModel", "isEc", "()Z"⟩, 134), (⟨"SealedTokensModel", "isSecret", "([BI)Z"⟩, 134), (⟨"SealedTokensModel", "keepKey", "(III)V"⟩, 134), (⟨"SealedTokensModel", "keepWord", "(II[BI)I"⟩, 134), (⟨"SealedTokensModel", "isKey", "(I)Z"⟩, 134), (⟨"SealedTokensModel", "sayPart", "(Ljava/lang/String;[BII)V"⟩, 134), (⟨"SealedTokensModel", "maySign", "(IIZ)Z"⟩, 134), (⟨"SealedTokensModel", "lets", "(ILjava/lang/String;II)Z"⟩, 134), (⟨"SealedTokensModel", "sayHead", "(ILjava/lang/String;II)V"⟩, 134), (⟨"SealedTokensModel", "sayWord", "(Ljava/lang/String;I)V"⟩, 134), (⟨"SealedTokensModel", "late", "(III)I"⟩, 134), (⟨"SealedTokensModel", "signIt", "(III)I"⟩, 134), (⟨"SealedTokensModel", "signPoint", "(II)I"⟩, 134), (⟨"SealedTokensModel", "digestNumber", "()V"⟩, 134), (⟨"SealedTokensModel", "digestMessage", "()V"⟩, 134), (⟨"SealedTokensModel", "saltOut", "([BIII)V"⟩, 134)]
theorem lw_r10 : ∀ q ∈ lw_privs_10, lw_okq q := List.forall_mem_cons.mpr ⟨lw_p144, List.forall_mem_cons.mpr ⟨lw_p145, List.forall_mem_cons.mpr ⟨lw_p146, List.forall_mem_cons.mpr ⟨lw_p147, List.forall_mem_cons.mpr ⟨lw_p148, List.forall_mem_cons.mpr ⟨lw_p149, List.forall_mem_cons.mpr ⟨lw_p150, List.forall_mem_cons.mpr ⟨lw_p151, List.forall_mem_cons.mpr ⟨lw_p152, List.forall_mem_cons.mpr ⟨lw_p153, List.forall_mem_cons.mpr ⟨lw_p154, List.forall_mem_cons.mpr ⟨lw_p155, List.forall_mem_cons.mpr ⟨lw_p156, List.forall_mem_cons.mpr ⟨lw_p157, List.forall_mem_cons.mpr ⟨lw_p158, List.forall_mem_cons.mpr ⟨lw_p159, fun _ h => absurd h List.not_mem_nil⟩⟩⟩⟩⟩⟩⟩⟩⟩⟩⟩⟩⟩⟩⟩⟩
theorem lw_p160 : lw_okq (⟨"SealedTokensModel", "maskOn", "([BII[BII)V"⟩, 134) := ⟨⟨by decide +kernel, by decide +kernel⟩, List.mem_of_getElem? (i := 1721) (by decide +kernel), List.mem_of_getElem? (i := 2890) (by decide +kernel), List.mem_of_getElem? (i := 2891) (by decide +kernel)⟩
theorem lw_p161 : lw_okq (⟨"SealedTokensModel", "fillOut", "(I)V"⟩, 134) := ⟨⟨by decide +kernel, by decide +kernel⟩, List.mem_of_getElem? (i := 1721) (by decide +kernel), List.mem_of_getElem? (i := 2894) (by decide +kernel), List.mem_of_getElem? (i := 2895) (by decide +kernel)⟩
theorem lw_p162 : lw_okq (⟨"SealedTokensModel", "headOf", "([BIIZ)I"⟩, 134) := ⟨⟨by decide +kernel, by decide +kernel⟩, List.mem_of_getElem? (i := 1721) (by decide +kernel), List.mem_of_getElem? (i := 2899) (by decide +kernel), List.mem_of_getElem? (i := 2900) (by decide +kernel)⟩
theorem lw_p163 : lw_okq (⟨"SealedTokensModel", "isCrit", "(II)Z"⟩, 134) := ⟨⟨by decide +kernel, by decide +kernel⟩, List.mem_of_getElem? (i := 1721) (by decide +kernel), List.mem_of_getElem? (i := 2904) (by decide +kernel), List.mem_of_getElem? (i := 2905) (by decide +kernel)⟩
theorem lw_p164 : lw_okq (⟨"SealedTokensModel", "isKnown", "(II)Z"⟩, 134) := ⟨⟨by decide +kernel, by decide +kernel⟩, List.mem_of_getElem? (i := 1721) (by decide +kernel), List.mem_of_getElem? (i := 2909) (by decide +kernel), List.mem_of_getElem? (i := 2910) (by decide +kernel)⟩
theorem lw_p165 : lw_okq (⟨"SealedTokensModel", "wordAt", "(IILjava/lang/String;)I"⟩, 134) := ⟨⟨by decide +kernel, by decide +kernel⟩, List.mem_of_getElem? (i := 1721) (by decide +kernel), List.mem_of_getElem? (i := 2915) (by decide +kernel), List.mem_of_getElem? (i := 2916) (by decide +kernel)⟩
theorem lw_p166 : lw_okq (⟨"SealedTokensModel", "agreed", "(I)I"⟩, 134) := ⟨⟨by decide +kernel, by decide +kernel⟩, List.mem_of_getElem? (i := 1721) (by decide +kernel), List.mem_of_getElem? (i := 2919) (by decide +kernel), List.mem_of_getElem? (i := 2920) (by decide +kernel)⟩
theorem lw_p167 : lw_okq (⟨"SealedTokensModel", "addLetters", "([BII)V"⟩, 134) := ⟨⟨by decide +kernel, by decide +kernel⟩, List.mem_of_getElem? (i := 1721) (by decide +kernel), List.mem_of_getElem? (i := 2926) (by decide +kernel), List.mem_of_getElem? (i := 2927) (by decide +kernel)⟩
theorem lw_p168 : lw_okq (⟨"SealedTokensModel", "addByte", "(I)V"⟩, 134) := ⟨⟨by decide +kernel, by decide +kernel⟩, List.mem_of_getElem? (i := 1721) (by decide +kernel), List.mem_of_getElem? (i := 2930) (by decide +kernel), List.mem_of_getElem? (i := 2931) (by decide +kernel)⟩
theorem lw_p169 : lw_okq (⟨"SealedTokensModel", "saidOut", "()I"⟩, 134) := ⟨⟨by decide +kernel, by decide +kernel⟩, List.mem_of_getElem? (i := 1721) (by decide +kernel), List.mem_of_getElem? (i := 2934) (by decide +kernel), List.mem_of_getElem? (i := 2935) (by decide +kernel)⟩
theorem lw_p170 : lw_okq (⟨"SealedTokensModel", "pointsOf", "(I)I"⟩, 134) := ⟨⟨by decide +kernel, by decide +kernel⟩, List.mem_of_getElem? (i := 1721) (by decide +kernel), List.mem_of_getElem? (i := 2942) (by decide +kernel), List.mem_of_getElem? (i := 2943) (by decide +kernel)⟩
theorem lw_p171 : lw_okq (⟨"SealedTokensModel", "hasKid", "(I)Z"⟩, 134) := ⟨⟨by decide +kernel, by decide +kernel⟩, List.mem_of_getElem? (i := 1721) (by decide +kernel), List.mem_of_getElem? (i := 2946) (by decide +kernel), List.mem_of_getElem? (i := 2947) (by decide +kernel)⟩
theorem lw_p172 : lw_okq (⟨"SealedTokensModel", "isSigned", "(II)Z"⟩, 134) := ⟨⟨by decide +kernel, by decide +kernel⟩, List.mem_of_getElem? (i := 1721) (by decide +kernel), List.mem_of_getElem? (i := 2950) (by decide +kernel), List.mem_of_getElem? (i := 2951) (by decide +kernel)⟩
theorem lw_p173 : lw_okq (⟨"SealedTokensModel", "isSignedPoint", "(I)Z"⟩, 134) := ⟨⟨by decide +kernel, by decide +kernel⟩, List.mem_of_getElem? (i := 1721) (by decide +kernel), List.mem_of_getElem? (i := 2954) (by decide +kernel), List.mem_of_getElem? (i := 2955) (by decide +kernel)⟩
theorem lw_p174 : lw_okq (⟨"SealedTokensModel", "isBelow", "([BII)Z"⟩, 134) := ⟨⟨by decide +kernel, by decide +kernel⟩, List.mem_of_getElem? (i := 1721) (by decide +kernel), List.mem_of_getElem? (i := 2958) (by decide +kernel), List.mem_of_getElem? (i := 2959) (by decide +kernel)⟩
theorem lw_p175 : lw_okq (⟨"SealedTokensModel", "isSalted", "(II)Z"⟩, 134) := ⟨⟨by decide +kernel, by decide +kernel⟩, List.mem_of_getElem? (i := 1721) (by decide +kernel), List.mem_of_getElem? (i := 2962) (by decide +kernel), List.mem_of_getElem? (i := 2963) (by decide +kernel)⟩
def lw_privs_11 : List (MethodName × Nat) := [(⟨"SealedTokensModel", "maskOn", "([BII[BII)V"⟩, 134), (⟨"SealedTokensModel", "fillOut", "(I)V"⟩, 134), (⟨"SealedTokensModel", "headOf", "([BIIZ)I"⟩, 134), (⟨"SealedTokensModel", "isCrit", "(II)Z"⟩, 134), (⟨"SealedTokensModel", "isKnown", "(II)Z"⟩, 134), (⟨"SealedTokensModel", "wordAt", "(IILjava/lang/String;)I"⟩, 134), (⟨"SealedTokensModel", "agreed", "(I)I"⟩, 134), (⟨"SealedTokensModel", "addLetters", "([BII)V"⟩, 134), (⟨"SealedTokensModel", "addByte", "(I)V"⟩, 134), (⟨"SealedTokensModel", "saidOut", "()I"⟩, 134), (⟨"SealedTokensModel", "pointsOf", "(I)I"⟩, 134), (⟨"SealedTokensModel", "hasKid", "(I)Z"⟩, 134), (⟨"SealedTokensModel", "isSigned", "(II)Z"⟩, 134), (⟨"SealedTokensModel", "isSignedPoint", "(I)Z"⟩, 134), (⟨"SealedTokensModel", "isBelow", "([BII)Z"⟩, 134), (⟨"SealedTokensModel", "isSalted", "(II)Z"⟩, 134)]
theorem lw_r11 : ∀ q ∈ lw_privs_11, lw_okq q := List.forall_mem_cons.mpr ⟨lw_p160, List.forall_mem_cons.mpr ⟨lw_p161, List.forall_mem_cons.mpr ⟨lw_p162, List.forall_mem_cons.mpr ⟨lw_p163, List.forall_mem_cons.mpr ⟨lw_p164, List.forall_mem_cons.mpr ⟨lw_p165, List.forall_mem_cons.mpr ⟨lw_p166, List.forall_mem_cons.mpr ⟨lw_p167, List.forall_mem_cons.mpr ⟨lw_p168, List.forall_mem_cons.mpr ⟨lw_p169, List.forall_mem_cons.mpr ⟨lw_p170, List.forall_mem_cons.mpr ⟨lw_p171, List.forall_mem_cons.mpr ⟨lw_p172, List.forall_mem_cons.mpr ⟨lw_p173, List.forall_mem_cons.mpr ⟨lw_p174, List.forall_mem_cons.mpr ⟨lw_p175, fun _ h => absurd h List.not_mem_nil⟩⟩⟩⟩⟩⟩⟩⟩⟩⟩⟩⟩⟩⟩⟩⟩
theorem lw_p176 : lw_okq (⟨"SealedTokensModel", "maySeal", "(IIIZ)Z"⟩, 134) := ⟨⟨by decide +kernel, by decide +kernel⟩, List.mem_of_getElem? (i := 1721) (by decide +kernel), List.mem_of_getElem? (i := 2970) (by decide +kernel), List.mem_of_getElem? (i := 2971) (by decide +kernel)⟩
theorem lw_p177 : lw_okq (⟨"SealedTokensModel", "agreeFresh", "(IIIIII)V"⟩, 134) := ⟨⟨by decide +kernel, by decide +kernel⟩, List.mem_of_getElem? (i := 1721) (by decide +kernel), List.mem_of_getElem? (i := 2974) (by decide +kernel), List.mem_of_getElem? (i := 2975) (by decide +kernel)⟩
theorem lw_p178 : lw_okq (⟨"SealedTokensModel", "agree", "([BI[BIII)Z"⟩, 134) := ⟨⟨by decide +kernel, by decide +kernel⟩, List.mem_of_getElem? (i := 1721) (by decide +kernel), List.mem_of_getElem? (i := 2978) (by decide +kernel), List.mem_of_getElem? (i := 2979) (by decide +kernel)⟩
theorem lw_p179 : lw_okq (⟨"SealedTokensModel", "nameOf", "(Ljava/lang/String;I)I"⟩, 134) := ⟨⟨by decide +kernel, by decide +kernel⟩, List.mem_of_getElem? (i := 1721) (by decide +kernel), List.mem_of_getElem? (i := 2982) (by decide +kernel), List.mem_of_getElem? (i := 2983) (by decide +kernel)⟩
theorem lw_p180 : lw_okq (⟨"SealedTokensModel", "sealRsa", "(II[BI)V"⟩, 134) := ⟨⟨by decide +kernel, by decide +kernel⟩, List.mem_of_getElem? (i := 1721) (by decide +kernel), List.mem_of_getElem? (i := 2986) (by decide +kernel), List.mem_of_getElem? (i := 2987) (by decide +kernel)⟩
theorem lw_p181 : lw_okq (⟨"SealedTokensModel", "compose", "(IIIIIII)I"⟩, 134) := ⟨⟨by decide +kernel, by decide +kernel⟩, List.mem_of_getElem? (i := 1721) (by decide +kernel), List.mem_of_getElem? (i := 2990) (by decide +kernel), List.mem_of_getElem? (i := 2991) (by decide +kernel)⟩
theorem lw_p182 : lw_okq (⟨"SealedTokensModel", "keyComes", "(III)Z"⟩, 134) := ⟨⟨by decide +kernel, by decide +kernel⟩, List.mem_of_getElem? (i := 1721) (by decide +kernel), List.mem_of_getElem? (i := 3001) (by decide +kernel), List.mem_of_getElem? (i := 3002) (by decide +kernel)⟩
theorem lw_p183 : lw_okq (⟨"SealedTokensModel", "openRsa", "(I)I"⟩, 134) := ⟨⟨by decide +kernel, by decide +kernel⟩, List.mem_of_getElem? (i := 1721) (by decide +kernel), List.mem_of_getElem? (i := 3005) (by decide +kernel), List.mem_of_getElem? (i := 3006) (by decide +kernel)⟩
def lw_privs_12 : List (MethodName × Nat) := [(⟨"SealedTokensModel", "maySeal", "(IIIZ)Z"⟩, 134), (⟨"SealedTokensModel", "agreeFresh", "(IIIIII)V"⟩, 134), (⟨"SealedTokensModel", "agree", "([BI[BIII)Z"⟩, 134), (⟨"SealedTokensModel", "nameOf", "(Ljava/lang/String;I)I"⟩, 134), (⟨"SealedTokensModel", "sealRsa", "(II[BI)V"⟩, 134), (⟨"SealedTokensModel", "compose", "(IIIIIII)I"⟩, 134), (⟨"SealedTokensModel", "keyComes", "(III)Z"⟩, 134), (⟨"SealedTokensModel", "openRsa", "(I)I"⟩, 134)]
theorem lw_r12 : ∀ q ∈ lw_privs_12, lw_okq q := List.forall_mem_cons.mpr ⟨lw_p176, List.forall_mem_cons.mpr ⟨lw_p177, List.forall_mem_cons.mpr ⟨lw_p178, List.forall_mem_cons.mpr ⟨lw_p179, List.forall_mem_cons.mpr ⟨lw_p180, List.forall_mem_cons.mpr ⟨lw_p181, List.forall_mem_cons.mpr ⟨lw_p182, List.forall_mem_cons.mpr ⟨lw_p183, fun _ h => absurd h List.not_mem_nil⟩⟩⟩⟩⟩⟩⟩⟩
def lw_privs : List (MethodName × Nat) := lw_privs_1 ++ (lw_privs_2 ++ (lw_privs_3 ++ (lw_privs_4 ++ (lw_privs_5 ++ (lw_privs_6 ++ (lw_privs_7 ++ (lw_privs_8 ++ (lw_privs_9 ++ (lw_privs_10 ++ (lw_privs_11 ++ (lw_privs_12)))))))))))
def lw_tbl : List Cond := k2_sels lw_privs ++ tables_1
theorem lw_privs_ok : ∀ q ∈ lw_privs, lw_okq q := by
  show ∀ q ∈ lw_privs_1 ++ (lw_privs_2 ++ (lw_privs_3 ++ (lw_privs_4 ++ (lw_privs_5 ++ (lw_privs_6 ++ (lw_privs_7 ++ (lw_privs_8 ++ (lw_privs_9 ++ (lw_privs_10 ++ (lw_privs_11 ++ (lw_privs_12))))))))))), lw_okq q
  exact List.forall_mem_append.mpr ⟨lw_r1, List.forall_mem_append.mpr ⟨lw_r2, List.forall_mem_append.mpr ⟨lw_r3, List.forall_mem_append.mpr ⟨lw_r4, List.forall_mem_append.mpr ⟨lw_r5, List.forall_mem_append.mpr ⟨lw_r6, List.forall_mem_append.mpr ⟨lw_r7, List.forall_mem_append.mpr ⟨lw_r8, List.forall_mem_append.mpr ⟨lw_r9, List.forall_mem_append.mpr ⟨lw_r10, List.forall_mem_append.mpr ⟨lw_r11, lw_r12⟩⟩⟩⟩⟩⟩⟩⟩⟩⟩⟩
/-! ===== BEGIN words of one list among another's, by their places ===== -/
theorem goodIn_r {big : List Cond} (ws : List Cond) (ps : List Nat) (hp : ws = ps.filterMap (fun i => big[i]?)) (h : ws.all goodWord = true) : GoodIn big ws := by
  intro w hw
  have h1 := List.all_eq_true.mp h w hw
  rw [hp] at hw
  obtain ⟨i, -, hi⟩ := List.mem_filterMap.mp hw
  have hm : w ∈ big := by first | exact List.mem_of_getElem? hi | exact List.getElem?_mem hi
  exact ⟨hm, good_of_word h1⟩
theorem goodIn_app {big a b : List Cond} (ha : GoodIn big a) (hb : GoodIn big b) : GoodIn big (a ++ b) := fun w h => (List.mem_append.mp h).elim (ha w) (hb w)
theorem goodIn_ca {big a b : List Cond} {c : Cond} (ha : GoodIn big (c :: a)) (hb : GoodIn big b) : GoodIn big (c :: (a ++ b)) := fun w h => (List.mem_cons.mp h).elim (fun e => ha w (List.mem_cons.mpr (Or.inl e))) (fun h => (List.mem_append.mp h).elim (fun h => ha w (List.mem_cons.mpr (Or.inr h))) (hb w))
theorem goodIn_sub {big ws : List Cond} (hm : ∀ w ∈ ws, w ∈ big) (h : ws.all goodWord = true) : GoodIn big ws := fun w hw => ⟨hm w hw, good_of_word (List.all_eq_true.mp h w hw)⟩
/-! ===== END ===== -/

def RX0 : String := "SealedTokens$Bytes"
def TX0 : u_T := fun k => match k with
  | 0 => ("SealedTokens$Bytes", "at", "[I", true)
  | 1 => ("SealedTokens$Bytes", "many", "I", false)
  | _ => ("SealedTokens$Bytes", "lost", "Z", false)
def tyX0 : Nat → FieldType := fun k => match k with
  | 0 => .array .int
  | 1 => .int
  | _ => .boolean
abbrev wsX00 : List Cond := u_ws RX0 TX0 3
theorem nmX0 : ∀ a, a < 3 → ∀ b, b < 3 → a ≠ b → (TX0 a).2.1 ≠ (TX0 b).2.1 := by decide +kernel
theorem tyX0_ok : ∀ k, k < 3 → parseFieldDescriptor (TX0 k).2.2.1 = some (tyX0 k) := by decide +kernel
abbrev cX0_init : ByteArray := prog_2_method_1_code
def yX0_init : MethodName := ⟨RX0, "<init>", "(I)V"⟩
abbrev cX0_clear : ByteArray := prog_2_method_2_code
def yX0_clear : MethodName := ⟨RX0, "clear", "()V"⟩
abbrev cX0_cutTo : ByteArray := prog_2_method_3_code
def yX0_cutTo : MethodName := ⟨RX0, "cutTo", "(I)V"⟩
abbrev cX0_get : ByteArray := prog_2_method_4_code
def yX0_get : MethodName := ⟨RX0, "get", "(I)I"⟩
abbrev cX0_peek : ByteArray := prog_2_method_5_code
def yX0_peek : MethodName := ⟨RX0, "peek", "(I)I"⟩
abbrev cX0_set : ByteArray := prog_2_method_6_code
def yX0_set : MethodName := ⟨RX0, "set", "(II)V"⟩
abbrev cX0_put : ByteArray := prog_2_method_7_code
def yX0_put : MethodName := ⟨RX0, "put", "(I)V"⟩
abbrev cX0_putSame : ByteArray := prog_2_method_8_code
def yX0_putSame : MethodName := ⟨RX0, "putSame", "(II)V"⟩
abbrev cX0_putWord : ByteArray := prog_2_method_9_code
def yX0_putWord : MethodName := ⟨RX0, "putWord", "(I)V"⟩
abbrev cX0_putText : ByteArray := prog_2_method_10_code
def yX0_putText : MethodName := ⟨RX0, "putText", "(Ljava/lang/String;)V"⟩
abbrev cX0_putPart : ByteArray := prog_2_method_11_code
def yX0_putPart : MethodName := ⟨RX0, "putPart", "(LSealedTokens$Bytes;II)V"⟩
abbrev cX0_putAll : ByteArray := prog_2_method_12_code
def yX0_putAll : MethodName := ⟨RX0, "putAll", "(LSealedTokens$Bytes;)V"⟩
abbrev cX0_become : ByteArray := prog_2_method_13_code
def yX0_become : MethodName := ⟨RX0, "become", "(LSealedTokens$Bytes;)V"⟩
abbrev cX0_holds : ByteArray := prog_2_method_14_code
def yX0_holds : MethodName := ⟨RX0, "holds", "(I)Z"⟩
abbrev cX0_same : ByteArray := prog_2_method_15_code
def yX0_same : MethodName := ⟨RX0, "same", "(LSealedTokens$Bytes;)Z"⟩
abbrev cX0_compare : ByteArray := prog_2_method_16_code
def yX0_compare : MethodName := ⟨RX0, "compare", "(LSealedTokens$Bytes;ILSealedTokens$Bytes;II)I"⟩
abbrev cX0_isBelow : ByteArray := prog_2_method_17_code
def yX0_isBelow : MethodName := ⟨RX0, "isBelow", "(LSealedTokens$Bytes;LSealedTokens$Bytes;)Z"⟩
abbrev cX0_lettersFor : ByteArray := prog_2_method_18_code
def yX0_lettersFor : MethodName := ⟨RX0, "lettersFor", "(I)I"⟩
abbrev cX0_bytesFor : ByteArray := prog_2_method_19_code
def yX0_bytesFor : MethodName := ⟨RX0, "bytesFor", "(I)I"⟩
abbrev cX0_letterValue : ByteArray := prog_2_method_20_code
def yX0_letterValue : MethodName := ⟨RX0, "letterValue", "(I)I"⟩
abbrev cX0_letterFault : ByteArray := prog_2_method_21_code
def yX0_letterFault : MethodName := ⟨RX0, "letterFault", "(LSealedTokens$Bytes;II)I"⟩
abbrev cX0_putLetters : ByteArray := prog_2_method_22_code
def yX0_putLetters : MethodName := ⟨RX0, "putLetters", "(LSealedTokens$Bytes;II)V"⟩
abbrev cX0_putLetterPart : ByteArray := prog_2_method_23_code
def yX0_putLetterPart : MethodName := ⟨RX0, "putLetterPart", "(LSealedTokens$Bytes;II)V"⟩
abbrev cX0_putUnlettered : ByteArray := prog_2_method_24_code
def yX0_putUnlettered : MethodName := ⟨RX0, "putUnlettered", "(LSealedTokens$Bytes;II)V"⟩
def RX1 : String := "SealedTokens$Cipher"
def TX1 : u_T := fun k => match k with
  | 0 => ("SealedTokens$Cipher", "swapBack", "[I", true)
  | 1 => ("SealedTokens$Cipher", "roundKeys", "[I", true)
  | 2 => ("SealedTokens$Cipher", "rounds", "I", false)
  | 3 => ("SealedTokens$Cipher", "turned", "[I", true)
  | 4 => ("SealedTokens$Cipher", "block", "[I", true)
  | _ => ("SealedTokens$Cipher", "wrapped", "[I", true)
def tyX1 : Nat → FieldType := fun k => match k with
  | 0 => .array .int
  | 1 => .array .int
  | 2 => .int
  | 3 => .array .int
  | 4 => .array .int
  | _ => .array .int
abbrev wsX10 : List Cond := u_ws RX1 TX1 6
theorem nmX1 : ∀ a, a < 6 → ∀ b, b < 6 → a ≠ b → (TX1 a).2.1 ≠ (TX1 b).2.1 := by decide +kernel
theorem tyX1_ok : ∀ k, k < 6 → parseFieldDescriptor (TX1 k).2.2.1 = some (tyX1 k) := by decide +kernel
abbrev cX1_init : ByteArray := prog_3_method_1_code
def yX1_init : MethodName := ⟨RX1, "<init>", "()V"⟩
abbrev cX1_become : ByteArray := prog_3_method_2_code
def yX1_become : MethodName := ⟨RX1, "become", "(LSealedTokens$Bytes;II)V"⟩
abbrev cX1_twice : ByteArray := prog_3_method_3_code
def yX1_twice : MethodName := ⟨RX1, "twice", "(I)I"⟩
abbrev cX1_addRoundKey : ByteArray := prog_3_method_4_code
def yX1_addRoundKey : MethodName := ⟨RX1, "addRoundKey", "([II)V"⟩
abbrev cX1_forward : ByteArray := prog_3_method_5_code
def yX1_forward : MethodName := ⟨RX1, "forward", "([I)V"⟩
abbrev cX1_backward : ByteArray := prog_3_method_6_code
def yX1_backward : MethodName := ⟨RX1, "backward", "([I)V"⟩
abbrev cX1_mixColumns : ByteArray := prog_3_method_7_code
def yX1_mixColumns : MethodName := ⟨RX1, "mixColumns", "([I)V"⟩
abbrev cX1_unmixColumns : ByteArray := prog_3_method_8_code
def yX1_unmixColumns : MethodName := ⟨RX1, "unmixColumns", "([I)V"⟩
abbrev cX1_putBlock : ByteArray := prog_3_method_9_code
def yX1_putBlock : MethodName := ⟨RX1, "putBlock", "(LSealedTokens$Bytes;ZLSealedTokens$Bytes;)V"⟩
abbrev cX1_mayWrap : ByteArray := prog_3_method_10_code
def yX1_mayWrap : MethodName := ⟨RX1, "mayWrap", "(I)Z"⟩
abbrev cX1_putWrapped : ByteArray := prog_3_method_11_code
def yX1_putWrapped : MethodName := ⟨RX1, "putWrapped", "(LSealedTokens$Bytes;LSealedTokens$Bytes;LSealedTokens$Bytes;)V"⟩
abbrev cX1_putUnwrapped : ByteArray := prog_3_method_12_code
def yX1_putUnwrapped : MethodName := ⟨RX1, "putUnwrapped", "(LSealedTokens$Bytes;LSealedTokens$Bytes;LSealedTokens$Bytes;)Z"⟩
def RX2 : String := "SealedTokens$Content"
def TX2 : u_T := fun k => match k with
  | 0 => ("SealedTokens$Content", "digest", "LSealedTokens$Digest;", true)
  | 1 => ("SealedTokens$Content", "cipher", "LSealedTokens$Cipher;", true)
  | 2 => ("SealedTokens$Content", "block", "[I", true)
  | 3 => ("SealedTokens$Content", "chain", "[I", true)
  | 4 => ("SealedTokens$Content", "mark", "LSealedTokens$Bytes;", true)
  | 5 => ("SealedTokens$Content", "factorHigh", "J", false)
  | 6 => ("SealedTokens$Content", "factorLow", "J", false)
  | 7 => ("SealedTokens$Content", "sumHigh", "J", false)
  | _ => ("SealedTokens$Content", "sumLow", "J", false)
def tyX2 : Nat → FieldType := fun k => match k with
  | 0 => .object "SealedTokens$Digest"
  | 1 => .object "SealedTokens$Cipher"
  | 2 => .array .int
  | 3 => .array .int
  | 4 => .object "SealedTokens$Bytes"
  | 5 => .long
  | 6 => .long
  | 7 => .long
  | _ => .long
abbrev wsX20 : List Cond := u_ws RX2 TX2 9
theorem nmX2 : ∀ a, a < 9 → ∀ b, b < 9 → a ≠ b → (TX2 a).2.1 ≠ (TX2 b).2.1 := by decide +kernel
theorem tyX2_ok : ∀ k, k < 9 → parseFieldDescriptor (TX2 k).2.2.1 = some (tyX2 k) := by decide +kernel
abbrev cX2_init : ByteArray := prog_4_method_1_code
def yX2_init : MethodName := ⟨RX2, "<init>", "(LSealedTokens$Digest;LSealedTokens$Cipher;)V"⟩
abbrev cX2_sealedBytes : ByteArray := prog_4_method_2_code
def yX2_sealedBytes : MethodName := ⟨RX2, "sealedBytes", "(II)I"⟩
abbrev cX2_lock : ByteArray := prog_4_method_3_code
def yX2_lock : MethodName := ⟨RX2, "lock", "(ILSealedTokens$Bytes;LSealedTokens$Bytes;LSealedTokens$Bytes;LSealedTokens$Bytes;LSealedTokens$Bytes;)V"⟩
abbrev cX2_unlock : ByteArray := prog_4_method_4_code
def yX2_unlock : MethodName := ⟨RX2, "unlock", "(ILSealedTokens$Bytes;LSealedTokens$Bytes;LSealedTokens$Bytes;LSealedTokens$Bytes;LSealedTokens$Bytes;)Z"⟩
abbrev cX2_markStands : ByteArray := prog_4_method_5_code
def yX2_markStands : MethodName := ⟨RX2, "markStands", "(LSealedTokens$Bytes;I)Z"⟩
abbrev cX2_putChained : ByteArray := prog_4_method_6_code
def yX2_putChained : MethodName := ⟨RX2, "putChained", "(LSealedTokens$Bytes;LSealedTokens$Bytes;LSealedTokens$Bytes;LSealedTokens$Bytes;)V"⟩
abbrev cX2_putUnchained : ByteArray := prog_4_method_7_code
def yX2_putUnchained : MethodName := ⟨RX2, "putUnchained", "(LSealedTokens$Bytes;LSealedTokens$Bytes;LSealedTokens$Bytes;ILSealedTokens$Bytes;)Z"⟩
abbrev cX2_markByCode : ByteArray := prog_4_method_8_code
def yX2_markByCode : MethodName := ⟨RX2, "markByCode", "(ILSealedTokens$Bytes;LSealedTokens$Bytes;LSealedTokens$Bytes;LSealedTokens$Bytes;I)V"⟩
abbrev cX2_startCounter : ByteArray := prog_4_method_9_code
def yX2_startCounter : MethodName := ⟨RX2, "startCounter", "(LSealedTokens$Bytes;I)V"⟩
abbrev cX2_putCounted : ByteArray := prog_4_method_10_code
def yX2_putCounted : MethodName := ⟨RX2, "putCounted", "(LSealedTokens$Bytes;LSealedTokens$Bytes;LSealedTokens$Bytes;ILSealedTokens$Bytes;)V"⟩
abbrev cX2_markByField : ByteArray := prog_4_method_11_code
def yX2_markByField : MethodName := ⟨RX2, "markByField", "(LSealedTokens$Bytes;LSealedTokens$Bytes;LSealedTokens$Bytes;I)V"⟩
abbrev cX2_putMarkHalf : ByteArray := prog_4_method_12_code
def yX2_putMarkHalf : MethodName := ⟨RX2, "putMarkHalf", "(J)V"⟩
abbrev cX2_half : ByteArray := prog_4_method_13_code
def yX2_half : MethodName := ⟨RX2, "half", "(I)J"⟩
abbrev cX2_addToSum : ByteArray := prog_4_method_14_code
def yX2_addToSum : MethodName := ⟨RX2, "addToSum", "(LSealedTokens$Bytes;I)V"⟩
abbrev cX2_timesFactor : ByteArray := prog_4_method_15_code
def yX2_timesFactor : MethodName := ⟨RX2, "timesFactor", "(JJ)V"⟩
def RX3 : String := "SealedTokens$Curve"
def TX3 : u_T := fun k => match k with
  | 0 => ("SealedTokens$Curve", "base", "[[J", true)
  | 1 => ("SealedTokens$Curve", "other", "[[J", true)
  | 2 => ("SealedTokens$Curve", "field", "LSealedTokens$Modulus;", true)
  | 3 => ("SealedTokens$Curve", "order", "LSealedTokens$Modulus;", true)
  | 4 => ("SealedTokens$Curve", "fieldBytes", "LSealedTokens$Bytes;", true)
  | 5 => ("SealedTokens$Curve", "fieldInverter", "LSealedTokens$Bytes;", true)
  | 6 => ("SealedTokens$Curve", "orderBytes", "LSealedTokens$Bytes;", true)
  | 7 => ("SealedTokens$Curve", "orderInverter", "LSealedTokens$Bytes;", true)
  | 8 => ("SealedTokens$Curve", "b", "[J", true)
  | 9 => ("SealedTokens$Curve", "unit", "[J", true)
  | 10 => ("SealedTokens$Curve", "sum", "[[J", true)
  | 11 => ("SealedTokens$Curve", "t", "[[J", true)
  | 12 => ("SealedTokens$Curve", "point", "LSealedTokens$Bytes;", true)
  | 13 => ("SealedTokens$Curve", "hashShare", "LSealedTokens$Bytes;", true)
  | 14 => ("SealedTokens$Curve", "pointShare", "LSealedTokens$Bytes;", true)
  | _ => ("SealedTokens$Curve", "nothing", "LSealedTokens$Bytes;", true)
def tyX3 : Nat → FieldType := fun k => match k with
  | 0 => .array (.array .long)
  | 1 => .array (.array .long)
  | 2 => .object "SealedTokens$Modulus"
  | 3 => .object "SealedTokens$Modulus"
  | 4 => .object "SealedTokens$Bytes"
  | 5 => .object "SealedTokens$Bytes"
  | 6 => .object "SealedTokens$Bytes"
  | 7 => .object "SealedTokens$Bytes"
  | 8 => .array .long
  | 9 => .array .long
  | 10 => .array (.array .long)
  | 11 => .array (.array .long)
  | 12 => .object "SealedTokens$Bytes"
  | 13 => .object "SealedTokens$Bytes"
  | 14 => .object "SealedTokens$Bytes"
  | _ => .object "SealedTokens$Bytes"
abbrev wsX30 : List Cond := u_ws RX3 TX3 16
theorem nmX3 : ∀ a, a < 16 → ∀ b, b < 16 → a ≠ b → (TX3 a).2.1 ≠ (TX3 b).2.1 := by decide +kernel
theorem tyX3_ok : ∀ k, k < 16 → parseFieldDescriptor (TX3 k).2.2.1 = some (tyX3 k) := by decide +kernel
abbrev cX3_init : ByteArray := prog_5_method_1_code
def yX3_init : MethodName := ⟨RX3, "<init>", "()V"⟩
abbrev cX3_ofDigits : ByteArray := prog_5_method_2_code
def yX3_ofDigits : MethodName := ⟨RX3, "ofDigits", "(Ljava/lang/String;)LSealedTokens$Bytes;"⟩
abbrev cX3_isSecret : ByteArray := prog_5_method_3_code
def yX3_isSecret : MethodName := ⟨RX3, "isSecret", "(LSealedTokens$Bytes;I)Z"⟩
abbrev cX3_load : ByteArray := prog_5_method_4_code
def yX3_load : MethodName := ⟨RX3, "load", "(LSealedTokens$Bytes;)Z"⟩
abbrev cX3_isPair : ByteArray := prog_5_method_5_code
def yX3_isPair : MethodName := ⟨RX3, "isPair", "(LSealedTokens$Bytes;LSealedTokens$Bytes;)Z"⟩
abbrev cX3_sumUp : ByteArray := prog_5_method_6_code
def yX3_sumUp : MethodName := ⟨RX3, "sumUp", "(LSealedTokens$Bytes;[[JLSealedTokens$Bytes;[[J)V"⟩
abbrev cX3_twice : ByteArray := prog_5_method_7_code
def yX3_twice : MethodName := ⟨RX3, "twice", "()V"⟩
abbrev cX3_add : ByteArray := prog_5_method_8_code
def yX3_add : MethodName := ⟨RX3, "add", "([[J)Z"⟩
abbrev cX3_putSum : ByteArray := prog_5_method_9_code
def yX3_putSum : MethodName := ⟨RX3, "putSum", "(LSealedTokens$Bytes;)Z"⟩
abbrev cX3_putSignature : ByteArray := prog_5_method_10_code
def yX3_putSignature : MethodName := ⟨RX3, "putSignature", "(LSealedTokens$Bytes;LSealedTokens$Bytes;LSealedTokens$Bytes;LSealedTokens$Bytes;)Z"⟩
abbrev cX3_isSignatureRight : ByteArray := prog_5_method_11_code
def yX3_isSignatureRight : MethodName := ⟨RX3, "isSignatureRight", "(LSealedTokens$Bytes;LSealedTokens$Bytes;LSealedTokens$Bytes;)Z"⟩
def RX4 : String := "SealedTokens$Digest"
def TX4 : u_T := fun k => match k with
  | 0 => ("SealedTokens$Digest", "wide", "Z", false)
  | 1 => ("SealedTokens$Digest", "blockBytes", "I", false)
  | 2 => ("SealedTokens$Digest", "block", "[I", true)
  | 3 => ("SealedTokens$Digest", "filled", "I", false)
  | 4 => ("SealedTokens$Digest", "total", "I", false)
  | 5 => ("SealedTokens$Digest", "state", "[I", true)
  | 6 => ("SealedTokens$Digest", "plan", "[I", true)
  | 7 => ("SealedTokens$Digest", "wideState", "[J", true)
  | 8 => ("SealedTokens$Digest", "widePlan", "[J", true)
  | 9 => ("SealedTokens$Digest", "keyBlock", "[I", true)
  | _ => ("SealedTokens$Digest", "inner", "LSealedTokens$Bytes;", true)
def tyX4 : Nat → FieldType := fun k => match k with
  | 0 => .boolean
  | 1 => .int
  | 2 => .array .int
  | 3 => .int
  | 4 => .int
  | 5 => .array .int
  | 6 => .array .int
  | 7 => .array .long
  | 8 => .array .long
  | 9 => .array .int
  | _ => .object "SealedTokens$Bytes"
abbrev wsX40 : List Cond := u_ws RX4 TX4 11
theorem nmX4 : ∀ a, a < 11 → ∀ b, b < 11 → a ≠ b → (TX4 a).2.1 ≠ (TX4 b).2.1 := by decide +kernel
theorem tyX4_ok : ∀ k, k < 11 → parseFieldDescriptor (TX4 k).2.2.1 = some (tyX4 k) := by decide +kernel
abbrev cX4_init : ByteArray := prog_6_method_1_code
def yX4_init : MethodName := ⟨RX4, "<init>", "()V"⟩
abbrev cX4_start : ByteArray := prog_6_method_2_code
def yX4_start : MethodName := ⟨RX4, "start", "(I)V"⟩
abbrev cX4_add : ByteArray := prog_6_method_3_code
def yX4_add : MethodName := ⟨RX4, "add", "(LSealedTokens$Bytes;II)V"⟩
abbrev cX4_addWord : ByteArray := prog_6_method_4_code
def yX4_addWord : MethodName := ⟨RX4, "addWord", "(I)V"⟩
abbrev cX4_addByte : ByteArray := prog_6_method_5_code
def yX4_addByte : MethodName := ⟨RX4, "addByte", "(I)V"⟩
abbrev cX4_finish : ByteArray := prog_6_method_6_code
def yX4_finish : MethodName := ⟨RX4, "finish", "(LSealedTokens$Bytes;)V"⟩
abbrev cX4_mix : ByteArray := prog_6_method_7_code
def yX4_mix : MethodName := ⟨RX4, "mix", "()V"⟩
abbrev cX4_mixWide : ByteArray := prog_6_method_8_code
def yX4_mixWide : MethodName := ⟨RX4, "mixWide", "()V"⟩
abbrev cX4_startCode : ByteArray := prog_6_method_9_code
def yX4_startCode : MethodName := ⟨RX4, "startCode", "(ILSealedTokens$Bytes;II)V"⟩
abbrev cX4_finishCode : ByteArray := prog_6_method_10_code
def yX4_finishCode : MethodName := ⟨RX4, "finishCode", "(LSealedTokens$Bytes;)V"⟩
abbrev cX4_addKeyBlock : ByteArray := prog_6_method_11_code
def yX4_addKeyBlock : MethodName := ⟨RX4, "addKeyBlock", "(I)V"⟩
abbrev cX4_putDerived : ByteArray := prog_6_method_12_code
def yX4_putDerived : MethodName := ⟨RX4, "putDerived", "(LSealedTokens$Bytes;LSealedTokens$Bytes;LSealedTokens$Bytes;LSealedTokens$Bytes;ILSealedTokens$Bytes;)V"⟩
def RX5 : String := "SealedTokens$Key"
def TX5 : u_T := fun k => match k with
  | 0 => ("SealedTokens$Key", "there", "Z", false)
  | 1 => ("SealedTokens$Key", "kind", "I", false)
  | 2 => ("SealedTokens$Key", "use", "I", false)
  | 3 => ("SealedTokens$Key", "alg", "I", false)
  | 4 => ("SealedTokens$Key", "kidThere", "Z", false)
  | 5 => ("SealedTokens$Key", "secretThere", "Z", false)
  | 6 => ("SealedTokens$Key", "main", "LSealedTokens$Bytes;", true)
  | 7 => ("SealedTokens$Key", "exponent", "LSealedTokens$Bytes;", true)
  | 8 => ("SealedTokens$Key", "secret", "LSealedTokens$Bytes;", true)
  | _ => ("SealedTokens$Key", "kid", "LSealedTokens$Bytes;", false)
def tyX5 : Nat → FieldType := fun k => match k with
  | 0 => .boolean
  | 1 => .int
  | 2 => .int
  | 3 => .int
  | 4 => .boolean
  | 5 => .boolean
  | 6 => .object "SealedTokens$Bytes"
  | 7 => .object "SealedTokens$Bytes"
  | 8 => .object "SealedTokens$Bytes"
  | _ => .object "SealedTokens$Bytes"
abbrev wsX50 : List Cond := u_ws RX5 TX5 10
theorem nmX5 : ∀ a, a < 10 → ∀ b, b < 10 → a ≠ b → (TX5 a).2.1 ≠ (TX5 b).2.1 := by decide +kernel
theorem tyX5_ok : ∀ k, k < 10 → parseFieldDescriptor (TX5 k).2.2.1 = some (tyX5 k) := by decide +kernel
abbrev cX5_init : ByteArray := prog_7_method_1_code
def yX5_init : MethodName := ⟨RX5, "<init>", "()V"⟩
abbrev cX5_reasonAgainst : ByteArray := prog_7_method_2_code
def yX5_reasonAgainst : MethodName := ⟨RX5, "reasonAgainst", "(LSealedTokens$Text;)I"⟩
abbrev cX5_areLettersThere : ByteArray := prog_7_method_3_code
def yX5_areLettersThere : MethodName := ⟨RX5, "areLettersThere", "(LSealedTokens$Text;)Z"⟩
abbrev cX5_isPointThere : ByteArray := prog_7_method_4_code
def yX5_isPointThere : MethodName := ⟨RX5, "isPointThere", "(LSealedTokens$Text;I)Z"⟩
abbrev cX5_takePoint : ByteArray := prog_7_method_5_code
def yX5_takePoint : MethodName := ⟨RX5, "takePoint", "(LSealedTokens$Text;ILSealedTokens$Bytes;)Z"⟩
abbrev cX5_takeRsa : ByteArray := prog_7_method_6_code
def yX5_takeRsa : MethodName := ⟨RX5, "takeRsa", "(LSealedTokens$Text;)Z"⟩
abbrev cX5_takeCurveSecret : ByteArray := prog_7_method_7_code
def yX5_takeCurveSecret : MethodName := ⟨RX5, "takeCurveSecret", "(LSealedTokens$Text;)Z"⟩
abbrev cX5_takeUse : ByteArray := prog_7_method_8_code
def yX5_takeUse : MethodName := ⟨RX5, "takeUse", "(LSealedTokens$Text;)V"⟩
abbrev cX5_makeKidRoom : ByteArray := prog_7_method_9_code
def yX5_makeKidRoom : MethodName := ⟨RX5, "makeKidRoom", "(I)V"⟩
abbrev cX5_maySign : ByteArray := prog_7_method_10_code
def yX5_maySign : MethodName := ⟨RX5, "maySign", "(IZ)Z"⟩
abbrev cX5_maySeal : ByteArray := prog_7_method_11_code
def yX5_maySeal : MethodName := ⟨RX5, "maySeal", "(IIZ)Z"⟩
abbrev cX5_putPrinted : ByteArray := prog_7_method_12_code
def yX5_putPrinted : MethodName := ⟨RX5, "putPrinted", "(LSealedTokens$Bytes;)V"⟩
abbrev cX5_putPointMembers : ByteArray := prog_7_method_13_code
def yX5_putPointMembers : MethodName := ⟨RX5, "putPointMembers", "(LSealedTokens$Bytes;LSealedTokens$Bytes;)V"⟩
def RX6 : String := "SealedTokens$Modulus"
def TX6 : u_T := fun k => match k with
  | 0 => ("SealedTokens$Modulus", "limbs", "I", false)
  | 1 => ("SealedTokens$Modulus", "twist", "J", false)
  | 2 => ("SealedTokens$Modulus", "modulus", "[J", true)
  | 3 => ("SealedTokens$Modulus", "one", "[J", true)
  | 4 => ("SealedTokens$Modulus", "leader", "[J", true)
  | 5 => ("SealedTokens$Modulus", "raised", "[J", true)
  | 6 => ("SealedTokens$Modulus", "factor", "[J", true)
  | _ => ("SealedTokens$Modulus", "sum", "[J", true)
def tyX6 : Nat → FieldType := fun k => match k with
  | 0 => .int
  | 1 => .long
  | 2 => .array .long
  | 3 => .array .long
  | 4 => .array .long
  | 5 => .array .long
  | 6 => .array .long
  | _ => .array .long
abbrev wsX60 : List Cond := u_ws RX6 TX6 8
theorem nmX6 : ∀ a, a < 8 → ∀ b, b < 8 → a ≠ b → (TX6 a).2.1 ≠ (TX6 b).2.1 := by decide +kernel
theorem tyX6_ok : ∀ k, k < 8 → parseFieldDescriptor (TX6 k).2.2.1 = some (tyX6 k) := by decide +kernel
abbrev cX6_init : ByteArray := prog_8_method_1_code
def yX6_init : MethodName := ⟨RX6, "<init>", "()V"⟩
abbrev cX6_suits : ByteArray := prog_8_method_2_code
def yX6_suits : MethodName := ⟨RX6, "suits", "(LSealedTokens$Bytes;)Z"⟩
abbrev cX6_become : ByteArray := prog_8_method_3_code
def yX6_become : MethodName := ⟨RX6, "become", "(LSealedTokens$Bytes;)V"⟩
abbrev cX6_loadLimbs : ByteArray := prog_8_method_4_code
def yX6_loadLimbs : MethodName := ⟨RX6, "loadLimbs", "(LSealedTokens$Bytes;II[J)V"⟩
abbrev cX6_take : ByteArray := prog_8_method_5_code
def yX6_take : MethodName := ⟨RX6, "take", "(LSealedTokens$Bytes;II[J)V"⟩
abbrev cX6_give : ByteArray := prog_8_method_6_code
def yX6_give : MethodName := ⟨RX6, "give", "([JILSealedTokens$Bytes;)V"⟩
abbrev cX6_isZero : ByteArray := prog_8_method_7_code
def yX6_isZero : MethodName := ⟨RX6, "isZero", "([J)Z"⟩
abbrev cX6_areSame : ByteArray := prog_8_method_8_code
def yX6_areSame : MethodName := ⟨RX6, "areSame", "([J[J)Z"⟩
abbrev cX6_plus : ByteArray := prog_8_method_9_code
def yX6_plus : MethodName := ⟨RX6, "plus", "([J[J[J)V"⟩
abbrev cX6_minus : ByteArray := prog_8_method_10_code
def yX6_minus : MethodName := ⟨RX6, "minus", "([J[J[J)V"⟩
abbrev cX6_settle : ByteArray := prog_8_method_11_code
def yX6_settle : MethodName := ⟨RX6, "settle", "([J)V"⟩
abbrev cX6_times : ByteArray := prog_8_method_12_code
def yX6_times : MethodName := ⟨RX6, "times", "([J[J[J)V"⟩
abbrev cX6_lead : ByteArray := prog_8_method_13_code
def yX6_lead : MethodName := ⟨RX6, "lead", "([J)V"⟩
abbrev cX6_leadBack : ByteArray := prog_8_method_14_code
def yX6_leadBack : MethodName := ⟨RX6, "leadBack", "([J)V"⟩
abbrev cX6_raise : ByteArray := prog_8_method_15_code
def yX6_raise : MethodName := ⟨RX6, "raise", "([JLSealedTokens$Bytes;[J)V"⟩
def RX7 : String := "SealedTokens$Reader"
def TX7 : u_T := fun k => match k with
  | 0 => ("SealedTokens$Reader", "source", "LSealedTokens$Bytes;", false)
  | 1 => ("SealedTokens$Reader", "to", "LSealedTokens$Text;", false)
  | 2 => ("SealedTokens$Reader", "at", "I", false)
  | 3 => ("SealedTokens$Reader", "fault", "I", false)
  | 4 => ("SealedTokens$Reader", "open", "I", false)
  | 5 => ("SealedTokens$Reader", "depth", "I", false)
  | 6 => ("SealedTokens$Reader", "state", "I", false)
  | 7 => ("SealedTokens$Reader", "nameAt", "I", false)
  | _ => ("SealedTokens$Reader", "nameMany", "I", false)
def tyX7 : Nat → FieldType := fun k => match k with
  | 0 => .object "SealedTokens$Bytes"
  | 1 => .object "SealedTokens$Text"
  | 2 => .int
  | 3 => .int
  | 4 => .int
  | 5 => .int
  | 6 => .int
  | 7 => .int
  | _ => .int
abbrev wsX70 : List Cond := u_ws RX7 TX7 9
theorem nmX7 : ∀ a, a < 9 → ∀ b, b < 9 → a ≠ b → (TX7 a).2.1 ≠ (TX7 b).2.1 := by decide +kernel
theorem tyX7_ok : ∀ k, k < 9 → parseFieldDescriptor (TX7 k).2.2.1 = some (tyX7 k) := by decide +kernel
abbrev cX7_init : ByteArray := prog_9_method_1_code
def yX7_init : MethodName := ⟨RX7, "<init>", "(LSealedTokens$Bytes;LSealedTokens$Text;)V"⟩
abbrev cX7_read : ByteArray := prog_9_method_2_code
def yX7_read : MethodName := ⟨RX7, "read", "(LSealedTokens$Bytes;LSealedTokens$Text;)I"⟩
abbrev cX7_wrong : ByteArray := prog_9_method_3_code
def yX7_wrong : MethodName := ⟨RX7, "wrong", "(I)Z"⟩
abbrev cX7_goOn : ByteArray := prog_9_method_4_code
def yX7_goOn : MethodName := ⟨RX7, "goOn", "(I)Z"⟩
abbrev cX7_skipBlanks : ByteArray := prog_9_method_5_code
def yX7_skipBlanks : MethodName := ⟨RX7, "skipBlanks", "()V"⟩
abbrev cX7_isBlank : ByteArray := prog_9_method_6_code
def yX7_isBlank : MethodName := ⟨RX7, "isBlank", "(I)Z"⟩
abbrev cX7_close : ByteArray := prog_9_method_7_code
def yX7_close : MethodName := ⟨RX7, "close", "()Z"⟩
abbrev cX7_after : ByteArray := prog_9_method_8_code
def yX7_after : MethodName := ⟨RX7, "after", "(I)Z"⟩
abbrev cX7_memberName : ByteArray := prog_9_method_9_code
def yX7_memberName : MethodName := ⟨RX7, "memberName", "(I)Z"⟩
abbrev cX7_kindBegunBy : ByteArray := prog_9_method_10_code
def yX7_kindBegunBy : MethodName := ⟨RX7, "kindBegunBy", "(I)I"⟩
abbrev cX7_begin : ByteArray := prog_9_method_11_code
def yX7_begin : MethodName := ⟨RX7, "begin", "(I)Z"⟩
abbrev cX7_word : ByteArray := prog_9_method_12_code
def yX7_word : MethodName := ⟨RX7, "word", "(Ljava/lang/String;)Z"⟩
abbrev cX7_number : ByteArray := prog_9_method_13_code
def yX7_number : MethodName := ⟨RX7, "number", "()Z"⟩
abbrev cX7_digits : ByteArray := prog_9_method_14_code
def yX7_digits : MethodName := ⟨RX7, "digits", "()Z"⟩
abbrev cX7_string : ByteArray := prog_9_method_15_code
def yX7_string : MethodName := ⟨RX7, "string", "()Z"⟩
abbrev cX7_longForm : ByteArray := prog_9_method_16_code
def yX7_longForm : MethodName := ⟨RX7, "longForm", "(I)Z"⟩
abbrev cX7_escape : ByteArray := prog_9_method_17_code
def yX7_escape : MethodName := ⟨RX7, "escape", "()I"⟩
abbrev cX7_shortEscaped : ByteArray := prog_9_method_18_code
def yX7_shortEscaped : MethodName := ⟨RX7, "shortEscaped", "(I)I"⟩
abbrev cX7_fourDigits : ByteArray := prog_9_method_19_code
def yX7_fourDigits : MethodName := ⟨RX7, "fourDigits", "(Z)I"⟩
abbrev cX7_hexValue : ByteArray := prog_9_method_20_code
def yX7_hexValue : MethodName := ⟨RX7, "hexValue", "(I)I"⟩
abbrev cX7_putPoint : ByteArray := prog_9_method_21_code
def yX7_putPoint : MethodName := ⟨RX7, "putPoint", "(I)V"⟩
def RX8 : String := "SealedTokens$Rsa"
def TX8 : u_T := fun k => match k with
  | 0 => ("SealedTokens$Rsa", "digest", "LSealedTokens$Digest;", true)
  | 1 => ("SealedTokens$Rsa", "modulus", "LSealedTokens$Modulus;", true)
  | 2 => ("SealedTokens$Rsa", "number", "[J", true)
  | 3 => ("SealedTokens$Rsa", "frame", "LSealedTokens$Bytes;", true)
  | 4 => ("SealedTokens$Rsa", "other", "LSealedTokens$Bytes;", true)
  | _ => ("SealedTokens$Rsa", "mask", "LSealedTokens$Bytes;", true)
def tyX8 : Nat → FieldType := fun k => match k with
  | 0 => .object "SealedTokens$Digest"
  | 1 => .object "SealedTokens$Modulus"
  | 2 => .array .long
  | 3 => .object "SealedTokens$Bytes"
  | 4 => .object "SealedTokens$Bytes"
  | _ => .object "SealedTokens$Bytes"
abbrev wsX80 : List Cond := u_ws RX8 TX8 6
theorem nmX8 : ∀ a, a < 6 → ∀ b, b < 6 → a ≠ b → (TX8 a).2.1 ≠ (TX8 b).2.1 := by decide +kernel
theorem tyX8_ok : ∀ k, k < 6 → parseFieldDescriptor (TX8 k).2.2.1 = some (tyX8 k) := by decide +kernel
abbrev cX8_init : ByteArray := prog_10_method_1_code
def yX8_init : MethodName := ⟨RX8, "<init>", "(LSealedTokens$Digest;)V"⟩
abbrev cX8_raise : ByteArray := prog_10_method_2_code
def yX8_raise : MethodName := ⟨RX8, "raise", "(LSealedTokens$Bytes;LSealedTokens$Bytes;LSealedTokens$Bytes;LSealedTokens$Bytes;)V"⟩
abbrev cX8_isPair : ByteArray := prog_10_method_3_code
def yX8_isPair : MethodName := ⟨RX8, "isPair", "(LSealedTokens$Bytes;LSealedTokens$Bytes;LSealedTokens$Bytes;)Z"⟩
abbrev cX8_framePkcs : ByteArray := prog_10_method_4_code
def yX8_framePkcs : MethodName := ⟨RX8, "framePkcs", "(LSealedTokens$Bytes;I)V"⟩
abbrev cX8_signPkcs : ByteArray := prog_10_method_5_code
def yX8_signPkcs : MethodName := ⟨RX8, "signPkcs", "(LSealedTokens$Bytes;LSealedTokens$Bytes;LSealedTokens$Bytes;LSealedTokens$Bytes;)V"⟩
abbrev cX8_isNumberOf : ByteArray := prog_10_method_6_code
def yX8_isNumberOf : MethodName := ⟨RX8, "isNumberOf", "(LSealedTokens$Bytes;LSealedTokens$Bytes;)Z"⟩
abbrev cX8_isPkcsRight : ByteArray := prog_10_method_7_code
def yX8_isPkcsRight : MethodName := ⟨RX8, "isPkcsRight", "(LSealedTokens$Bytes;LSealedTokens$Bytes;LSealedTokens$Bytes;LSealedTokens$Bytes;)Z"⟩
abbrev cX8_bitsOf : ByteArray := prog_10_method_8_code
def yX8_bitsOf : MethodName := ⟨RX8, "bitsOf", "(LSealedTokens$Bytes;)I"⟩
abbrev cX8_maskFrame : ByteArray := prog_10_method_9_code
def yX8_maskFrame : MethodName := ⟨RX8, "maskFrame", "(IIII)V"⟩
abbrev cX8_hashSalted : ByteArray := prog_10_method_10_code
def yX8_hashSalted : MethodName := ⟨RX8, "hashSalted", "(LSealedTokens$Bytes;LSealedTokens$Bytes;ILSealedTokens$Bytes;)V"⟩
abbrev cX8_signPss : ByteArray := prog_10_method_11_code
def yX8_signPss : MethodName := ⟨RX8, "signPss", "(LSealedTokens$Bytes;LSealedTokens$Bytes;LSealedTokens$Bytes;LSealedTokens$Bytes;LSealedTokens$Bytes;)Z"⟩
abbrev cX8_isPssRight : ByteArray := prog_10_method_12_code
def yX8_isPssRight : MethodName := ⟨RX8, "isPssRight", "(LSealedTokens$Bytes;LSealedTokens$Bytes;LSealedTokens$Bytes;LSealedTokens$Bytes;)Z"⟩
abbrev cX8_putEmptyHash : ByteArray := prog_10_method_13_code
def yX8_putEmptyHash : MethodName := ⟨RX8, "putEmptyHash", "(LSealedTokens$Bytes;)V"⟩
abbrev cX8_sealOaep : ByteArray := prog_10_method_14_code
def yX8_sealOaep : MethodName := ⟨RX8, "sealOaep", "(LSealedTokens$Bytes;LSealedTokens$Bytes;LSealedTokens$Bytes;LSealedTokens$Bytes;LSealedTokens$Bytes;)V"⟩
abbrev cX8_openOaep : ByteArray := prog_10_method_15_code
def yX8_openOaep : MethodName := ⟨RX8, "openOaep", "(LSealedTokens$Bytes;LSealedTokens$Bytes;LSealedTokens$Bytes;LSealedTokens$Bytes;)Z"⟩
def RX9 : String := "SealedTokens$Text"
def TX9 : u_T := fun k => match k with
  | 0 => ("SealedTokens$Text", "count", "I", false)
  | 1 => ("SealedTokens$Text", "kind", "[I", true)
  | 2 => ("SealedTokens$Text", "parent", "[I", true)
  | 3 => ("SealedTokens$Text", "place", "[I", true)
  | 4 => ("SealedTokens$Text", "start", "[I", true)
  | 5 => ("SealedTokens$Text", "inside", "[I", true)
  | 6 => ("SealedTokens$Text", "saidAt", "[I", true)
  | 7 => ("SealedTokens$Text", "saidMany", "[I", true)
  | 8 => ("SealedTokens$Text", "nameAt", "[I", true)
  | 9 => ("SealedTokens$Text", "nameMany", "[I", true)
  | _ => ("SealedTokens$Text", "pool", "LSealedTokens$Bytes;", true)
def tyX9 : Nat → FieldType := fun k => match k with
  | 0 => .int
  | 1 => .array .int
  | 2 => .array .int
  | 3 => .array .int
  | 4 => .array .int
  | 5 => .array .int
  | 6 => .array .int
  | 7 => .array .int
  | 8 => .array .int
  | 9 => .array .int
  | _ => .object "SealedTokens$Bytes"
abbrev wsX90 : List Cond := u_ws RX9 TX9 11
theorem nmX9 : ∀ a, a < 11 → ∀ b, b < 11 → a ≠ b → (TX9 a).2.1 ≠ (TX9 b).2.1 := by decide +kernel
theorem tyX9_ok : ∀ k, k < 11 → parseFieldDescriptor (TX9 k).2.2.1 = some (tyX9 k) := by decide +kernel
abbrev cX9_init : ByteArray := prog_11_method_1_code
def yX9_init : MethodName := ⟨RX9, "<init>", "()V"⟩
abbrev cX9_clear : ByteArray := prog_11_method_2_code
def yX9_clear : MethodName := ⟨RX9, "clear", "()V"⟩
abbrev cX9_has : ByteArray := prog_11_method_3_code
def yX9_has : MethodName := ⟨RX9, "has", "(I)Z"⟩
abbrev cX9_isKind : ByteArray := prog_11_method_4_code
def yX9_isKind : MethodName := ⟨RX9, "isKind", "(II)Z"⟩
abbrev cX9_begin : ByteArray := prog_11_method_5_code
def yX9_begin : MethodName := ⟨RX9, "begin", "(III)I"⟩
abbrev cX9_poolSays : ByteArray := prog_11_method_6_code
def yX9_poolSays : MethodName := ⟨RX9, "poolSays", "(IILSealedTokens$Bytes;II)Z"⟩
abbrev cX9_named : ByteArray := prog_11_method_7_code
def yX9_named : MethodName := ⟨RX9, "named", "(ILSealedTokens$Bytes;II)I"⟩
abbrev cX9_poolSpells : ByteArray := prog_11_method_8_code
def yX9_poolSpells : MethodName := ⟨RX9, "poolSpells", "(IILjava/lang/String;)Z"⟩
abbrev cX9_find : ByteArray := prog_11_method_9_code
def yX9_find : MethodName := ⟨RX9, "find", "(ILjava/lang/String;)I"⟩
abbrev cX9_says : ByteArray := prog_11_method_10_code
def yX9_says : MethodName := ⟨RX9, "says", "(ILjava/lang/String;)Z"⟩
abbrev cX9_saysSame : ByteArray := prog_11_method_11_code
def yX9_saysSame : MethodName := ⟨RX9, "saysSame", "(ILSealedTokens$Bytes;)Z"⟩
abbrev cX9_isStringOrNone : ByteArray := prog_11_method_12_code
def yX9_isStringOrNone : MethodName := ⟨RX9, "isStringOrNone", "(I)Z"⟩
abbrev cX9_areLetters : ByteArray := prog_11_method_13_code
def yX9_areLetters : MethodName := ⟨RX9, "areLetters", "(I)Z"⟩
abbrev cX9_putLettered : ByteArray := prog_11_method_14_code
def yX9_putLettered : MethodName := ⟨RX9, "putLettered", "(IIILSealedTokens$Bytes;)Z"⟩
abbrev cX9_putValue : ByteArray := prog_11_method_15_code
def yX9_putValue : MethodName := ⟨RX9, "putValue", "(ILSealedTokens$Bytes;)V"⟩
abbrev cX9_closeTo : ByteArray := prog_11_method_16_code
def yX9_closeTo : MethodName := ⟨RX9, "closeTo", "(IILSealedTokens$Bytes;)I"⟩
abbrev cX9_putStart : ByteArray := prog_11_method_17_code
def yX9_putStart : MethodName := ⟨RX9, "putStart", "(ILSealedTokens$Bytes;)V"⟩
abbrev cX9_putString : ByteArray := prog_11_method_18_code
def yX9_putString : MethodName := ⟨RX9, "putString", "(LSealedTokens$Bytes;IILSealedTokens$Bytes;)V"⟩
abbrev cX9_shortEscape : ByteArray := prog_11_method_19_code
def yX9_shortEscape : MethodName := ⟨RX9, "shortEscape", "(I)I"⟩
def RX10 : String := "SealedTokens$Token"
def TX10 : u_T := fun k => match k with
  | 0 => ("SealedTokens$Token", "head", "LSealedTokens$Bytes;", true)
  | 1 => ("SealedTokens$Token", "alg", "I", false)
  | 2 => ("SealedTokens$Token", "way", "I", false)
  | 3 => ("SealedTokens$Token", "asItIs", "Z", false)
  | 4 => ("SealedTokens$Token", "u", "LSealedTokens$Bytes;", true)
  | 5 => ("SealedTokens$Token", "v", "LSealedTokens$Bytes;", true)
  | 6 => ("SealedTokens$Token", "point", "LSealedTokens$Bytes;", true)
  | 7 => ("SealedTokens$Token", "fresh", "LSealedTokens$Bytes;", true)
  | 8 => ("SealedTokens$Token", "seed", "LSealedTokens$Bytes;", true)
  | 9 => ("SealedTokens$Token", "contentKey", "LSealedTokens$Bytes;", true)
  | 10 => ("SealedTokens$Token", "sealedKey", "LSealedTokens$Bytes;", true)
  | 11 => ("SealedTokens$Token", "first", "LSealedTokens$Bytes;", true)
  | 12 => ("SealedTokens$Token", "agreed", "LSealedTokens$Bytes;", true)
  | 13 => ("SealedTokens$Token", "label", "LSealedTokens$Bytes;", true)
  | 14 => ("SealedTokens$Token", "starts", "[I", true)
  | _ => ("SealedTokens$Token", "kid", "I", false)
def tyX10 : Nat → FieldType := fun k => match k with
  | 0 => .object "SealedTokens$Bytes"
  | 1 => .int
  | 2 => .int
  | 3 => .boolean
  | 4 => .object "SealedTokens$Bytes"
  | 5 => .object "SealedTokens$Bytes"
  | 6 => .object "SealedTokens$Bytes"
  | 7 => .object "SealedTokens$Bytes"
  | 8 => .object "SealedTokens$Bytes"
  | 9 => .object "SealedTokens$Bytes"
  | 10 => .object "SealedTokens$Bytes"
  | 11 => .object "SealedTokens$Bytes"
  | 12 => .object "SealedTokens$Bytes"
  | 13 => .object "SealedTokens$Bytes"
  | 14 => .array .int
  | _ => .int
abbrev wsX100 : List Cond := u_ws RX10 TX10 16
theorem nmX10 : ∀ a, a < 16 → ∀ b, b < 16 → a ≠ b → (TX10 a).2.1 ≠ (TX10 b).2.1 := by decide +kernel
theorem tyX10_ok : ∀ k, k < 16 → parseFieldDescriptor (TX10 k).2.2.1 = some (tyX10 k) := by decide +kernel
abbrev cX10_init : ByteArray := prog_12_method_1_code
def yX10_init : MethodName := ⟨RX10, "<init>", "()V"⟩
abbrev cX10_split : ByteArray := prog_12_method_2_code
def yX10_split : MethodName := ⟨RX10, "split", "(LSealedTokens$Bytes;I)Z"⟩
abbrev cX10_partStart : ByteArray := prog_12_method_3_code
def yX10_partStart : MethodName := ⟨RX10, "partStart", "(I)I"⟩
abbrev cX10_partEnd : ByteArray := prog_12_method_4_code
def yX10_partEnd : MethodName := ⟨RX10, "partEnd", "(I)I"⟩
abbrev cX10_isFaulty : ByteArray := prog_12_method_5_code
def yX10_isFaulty : MethodName := ⟨RX10, "isFaulty", "(LSealedTokens$Bytes;I)Z"⟩
abbrev cX10_partBytes : ByteArray := prog_12_method_6_code
def yX10_partBytes : MethodName := ⟨RX10, "partBytes", "(I)I"⟩
abbrev cX10_readPart : ByteArray := prog_12_method_7_code
def yX10_readPart : MethodName := ⟨RX10, "readPart", "(LSealedTokens$Bytes;ILSealedTokens$Bytes;)V"⟩
abbrev cX10_readSealedParts : ByteArray := prog_12_method_8_code
def yX10_readSealedParts : MethodName := ⟨RX10, "readSealedParts", "(LSealedTokens$Bytes;LSealedTokens$Bytes;)Z"⟩
abbrev cX10_kidSuits : ByteArray := prog_12_method_9_code
def yX10_kidSuits : MethodName := ⟨RX10, "kidSuits", "(LSealedTokens$Text;LSealedTokens$Key;)Z"⟩
abbrev cX10_isHeadSound : ByteArray := prog_12_method_10_code
def yX10_isHeadSound : MethodName := ⟨RX10, "isHeadSound", "(LSealedTokens$Text;I)Z"⟩
abbrev cX10_isCritSound : ByteArray := prog_12_method_11_code
def yX10_isCritSound : MethodName := ⟨RX10, "isCritSound", "(LSealedTokens$Text;I)Z"⟩
abbrev cX10_isSaidBefore : ByteArray := prog_12_method_12_code
def yX10_isSaidBefore : MethodName := ⟨RX10, "isSaidBefore", "(LSealedTokens$Text;II)Z"⟩
abbrev cX10_signedHeadReason : ByteArray := prog_12_method_13_code
def yX10_signedHeadReason : MethodName := ⟨RX10, "signedHeadReason", "(LSealedTokens$Text;)I"⟩
abbrev cX10_listed : ByteArray := prog_12_method_14_code
def yX10_listed : MethodName := ⟨RX10, "listed", "(LSealedTokens$Text;III)I"⟩
abbrev cX10_listedWay : ByteArray := prog_12_method_15_code
def yX10_listedWay : MethodName := ⟨RX10, "listedWay", "(LSealedTokens$Text;I)I"⟩
abbrev cX10_sealedHeadReason : ByteArray := prog_12_method_16_code
def yX10_sealedHeadReason : MethodName := ⟨RX10, "sealedHeadReason", "(LSealedTokens$Text;)I"⟩
abbrev cX10_takeAgreement : ByteArray := prog_12_method_17_code
def yX10_takeAgreement : MethodName := ⟨RX10, "takeAgreement", "(LSealedTokens$Text;)Z"⟩
abbrev cX10_takeParty : ByteArray := prog_12_method_18_code
def yX10_takeParty : MethodName := ⟨RX10, "takeParty", "(LSealedTokens$Text;ILSealedTokens$Bytes;)Z"⟩
abbrev cX10_makeSignedHead : ByteArray := prog_12_method_19_code
def yX10_makeSignedHead : MethodName := ⟨RX10, "makeSignedHead", "(ILSealedTokens$Key;)V"⟩
abbrev cX10_startHead : ByteArray := prog_12_method_20_code
def yX10_startHead : MethodName := ⟨RX10, "startHead", "(Ljava/lang/String;)V"⟩
abbrev cX10_putKid : ByteArray := prog_12_method_21_code
def yX10_putKid : MethodName := ⟨RX10, "putKid", "(LSealedTokens$Key;)V"⟩
abbrev cX10_makeSealedHead : ByteArray := prog_12_method_22_code
def yX10_makeSealedHead : MethodName := ⟨RX10, "makeSealedHead", "(LSealedTokens$Key;LSealedTokens$Bytes;LSealedTokens$Bytes;)V"⟩
abbrev cX10_putParty : ByteArray := prog_12_method_23_code
def yX10_putParty : MethodName := ⟨RX10, "putParty", "(Ljava/lang/String;LSealedTokens$Bytes;)V"⟩
abbrev cX10_draw : ByteArray := prog_12_method_24_code
def yX10_draw : MethodName := ⟨RX10, "draw", "(IILSealedTokens$Bytes;)Z"⟩
abbrev cX10_sealedLetters : ByteArray := prog_12_method_25_code
def yX10_sealedLetters : MethodName := ⟨RX10, "sealedLetters", "(I)I"⟩
def RX11 : String := "SealedTokens"
def TX11 : u_T := fun k => match k with
  | 0 => ("SealedTokens", "rows", "[LSealedTokens$Bytes;", true)
  | 1 => ("SealedTokens", "tape", "LSealedTokens$Bytes;", true)
  | 2 => ("SealedTokens", "shown", "LSealedTokens$Bytes;", true)
  | 3 => ("SealedTokens", "nothing", "LSealedTokens$Bytes;", true)
  | 4 => ("SealedTokens", "work", "LSealedTokens$Bytes;", true)
  | 5 => ("SealedTokens", "sealed", "LSealedTokens$Bytes;", true)
  | 6 => ("SealedTokens", "plain", "LSealedTokens$Bytes;", true)
  | 7 => ("SealedTokens", "hand", "LSealedTokens$Text;", false)
  | 8 => ("SealedTokens", "spare", "LSealedTokens$Text;", false)
  | 9 => ("SealedTokens", "reader", "LSealedTokens$Reader;", true)
  | 10 => ("SealedTokens", "keys", "[LSealedTokens$Key;", true)
  | 11 => ("SealedTokens", "spareKey", "LSealedTokens$Key;", false)
  | 12 => ("SealedTokens", "digest", "LSealedTokens$Digest;", true)
  | 13 => ("SealedTokens", "cipher", "LSealedTokens$Cipher;", true)
  | 14 => ("SealedTokens", "content", "LSealedTokens$Content;", true)
  | 15 => ("SealedTokens", "rsa", "LSealedTokens$Rsa;", true)
  | 16 => ("SealedTokens", "curve", "LSealedTokens$Curve;", true)
  | _ => ("SealedTokens", "token", "LSealedTokens$Token;", true)
def tyX11 : Nat → FieldType := fun k => match k with
  | 0 => .array (.object "SealedTokens$Bytes")
  | 1 => .object "SealedTokens$Bytes"
  | 2 => .object "SealedTokens$Bytes"
  | 3 => .object "SealedTokens$Bytes"
  | 4 => .object "SealedTokens$Bytes"
  | 5 => .object "SealedTokens$Bytes"
  | 6 => .object "SealedTokens$Bytes"
  | 7 => .object "SealedTokens$Text"
  | 8 => .object "SealedTokens$Text"
  | 9 => .object "SealedTokens$Reader"
  | 10 => .array (.object "SealedTokens$Key")
  | 11 => .object "SealedTokens$Key"
  | 12 => .object "SealedTokens$Digest"
  | 13 => .object "SealedTokens$Cipher"
  | 14 => .object "SealedTokens$Content"
  | 15 => .object "SealedTokens$Rsa"
  | 16 => .object "SealedTokens$Curve"
  | _ => .object "SealedTokens$Token"
abbrev wsX110 : List Cond := u_ws RX11 TX11 18
theorem nmX11 : ∀ a, a < 18 → ∀ b, b < 18 → a ≠ b → (TX11 a).2.1 ≠ (TX11 b).2.1 := by decide +kernel
theorem tyX11_ok : ∀ k, k < 18 → parseFieldDescriptor (TX11 k).2.2.1 = some (tyX11 k) := by decide +kernel
abbrev cX11_init : ByteArray := prog_1_method_1_code
def yX11_init : MethodName := ⟨RX11, "<init>", "()V"⟩
abbrev cX11_feed : ByteArray := prog_1_method_2_code
def yX11_feed : MethodName := ⟨RX11, "feed", "(IIIII)I"⟩
abbrev cX11_end : ByteArray := prog_1_method_3_code
def yX11_end : MethodName := ⟨RX11, "end", "(I)I"⟩
abbrev cX11_row : ByteArray := prog_1_method_4_code
def yX11_row : MethodName := ⟨RX11, "row", "(I)I"⟩
abbrev cX11_keep : ByteArray := prog_1_method_5_code
def yX11_keep : MethodName := ⟨RX11, "keep", "(I)I"⟩
abbrev cX11_poke : ByteArray := prog_1_method_6_code
def yX11_poke : MethodName := ⟨RX11, "poke", "(III)I"⟩
abbrev cX11_size : ByteArray := prog_1_method_7_code
def yX11_size : MethodName := ⟨RX11, "size", "(I)I"⟩
abbrev cX11_out : ByteArray := prog_1_method_8_code
def yX11_out : MethodName := ⟨RX11, "out", "(I)I"⟩
abbrev cX11_json : ByteArray := prog_1_method_9_code
def yX11_json : MethodName := ⟨RX11, "json", "(I)I"⟩
abbrev cX11_value : ByteArray := prog_1_method_10_code
def yX11_value : MethodName := ⟨RX11, "value", "(II)I"⟩
abbrev cX11_text : ByteArray := prog_1_method_11_code
def yX11_text : MethodName := ⟨RX11, "text", "(I)I"⟩
abbrev cX11_name : ByteArray := prog_1_method_12_code
def yX11_name : MethodName := ⟨RX11, "name", "(I)I"⟩
abbrev cX11_member : ByteArray := prog_1_method_13_code
def yX11_member : MethodName := ⟨RX11, "member", "(II)I"⟩
abbrev cX11_write : ByteArray := prog_1_method_14_code
def yX11_write : MethodName := ⟨RX11, "write", "(I)I"⟩
abbrev cX11_encode : ByteArray := prog_1_method_15_code
def yX11_encode : MethodName := ⟨RX11, "encode", "(I)I"⟩
abbrev cX11_decode : ByteArray := prog_1_method_16_code
def yX11_decode : MethodName := ⟨RX11, "decode", "(I)I"⟩
abbrev cX11_hash : ByteArray := prog_1_method_17_code
def yX11_hash : MethodName := ⟨RX11, "hash", "(II)I"⟩
abbrev cX11_code : ByteArray := prog_1_method_18_code
def yX11_code : MethodName := ⟨RX11, "code", "(III)I"⟩
abbrev cX11_block : ByteArray := prog_1_method_19_code
def yX11_block : MethodName := ⟨RX11, "block", "(IIZ)I"⟩
abbrev cX11_wrap : ByteArray := prog_1_method_20_code
def yX11_wrap : MethodName := ⟨RX11, "wrap", "(II)I"⟩
abbrev cX11_unwrap : ByteArray := prog_1_method_21_code
def yX11_unwrap : MethodName := ⟨RX11, "unwrap", "(II)I"⟩
abbrev cX11_seal : ByteArray := prog_1_method_22_code
def yX11_seal : MethodName := ⟨RX11, "seal", "(IIIII)I"⟩
abbrev cX11_open : ByteArray := prog_1_method_23_code
def yX11_open : MethodName := ⟨RX11, "open", "(IIIII)I"⟩
abbrev cX11_power : ByteArray := prog_1_method_24_code
def yX11_power : MethodName := ⟨RX11, "power", "(III)I"⟩
abbrev cX11_multiply : ByteArray := prog_1_method_25_code
def yX11_multiply : MethodName := ⟨RX11, "multiply", "(II)I"⟩
abbrev cX11_derive : ByteArray := prog_1_method_26_code
def yX11_derive : MethodName := ⟨RX11, "derive", "(IIIII)I"⟩
abbrev cX11_key : ByteArray := prog_1_method_27_code
def yX11_key : MethodName := ⟨RX11, "key", "(I)I"⟩
abbrev cX11_drop : ByteArray := prog_1_method_28_code
def yX11_drop : MethodName := ⟨RX11, "drop", "(I)I"⟩
abbrev cX11_told : ByteArray := prog_1_method_29_code
def yX11_told : MethodName := ⟨RX11, "told", "(II)I"⟩
abbrev cX11_print : ByteArray := prog_1_method_30_code
def yX11_print : MethodName := ⟨RX11, "print", "(I)I"⟩
abbrev cX11_sign : ByteArray := prog_1_method_31_code
def yX11_sign : MethodName := ⟨RX11, "sign", "(IIIII)I"⟩
abbrev cX11_verify : ByteArray := prog_1_method_32_code
def yX11_verify : MethodName := ⟨RX11, "verify", "(I)I"⟩
abbrev cX11_encrypt : ByteArray := prog_1_method_33_code
def yX11_encrypt : MethodName := ⟨RX11, "encrypt", "(IIIIIII)I"⟩
abbrev cX11_decrypt : ByteArray := prog_1_method_34_code
def yX11_decrypt : MethodName := ⟨RX11, "decrypt", "(I)I"⟩
abbrev cX11_isRow : ByteArray := prog_1_method_35_code
def yX11_isRow : MethodName := ⟨RX11, "isRow", "(I)Z"⟩
abbrev cX11_isRowOrNone : ByteArray := prog_1_method_36_code
def yX11_isRowOrNone : MethodName := ⟨RX11, "isRowOrNone", "(I)Z"⟩
abbrev cX11_isKey : ByteArray := prog_1_method_37_code
def yX11_isKey : MethodName := ⟨RX11, "isKey", "(I)Z"⟩
abbrev cX11_isCipherKey : ByteArray := prog_1_method_38_code
def yX11_isCipherKey : MethodName := ⟨RX11, "isCipherKey", "(I)Z"⟩
abbrev cX11_waySuits : ByteArray := prog_1_method_39_code
def yX11_waySuits : MethodName := ⟨RX11, "waySuits", "(III)Z"⟩
abbrev cX11_show : ByteArray := prog_1_method_40_code
def yX11_show : MethodName := ⟨RX11, "show", "(LSealedTokens$Bytes;II)I"⟩
abbrev cX11_numbersBelong : ByteArray := prog_1_method_41_code
def yX11_numbersBelong : MethodName := ⟨RX11, "numbersBelong", "(LSealedTokens$Key;)Z"⟩
abbrev cX11_algName : ByteArray := prog_1_method_42_code
def yX11_algName : MethodName := ⟨RX11, "algName", "(I)Ljava/lang/String;"⟩
abbrev cX11_wayName : ByteArray := prog_1_method_43_code
def yX11_wayName : MethodName := ⟨RX11, "wayName", "(I)Ljava/lang/String;"⟩
abbrev cX11_showPayload : ByteArray := prog_1_method_44_code
def yX11_showPayload : MethodName := ⟨RX11, "showPayload", "(LSealedTokens$Bytes;)V"⟩
abbrev cX11_makeSignature : ByteArray := prog_1_method_45_code
def yX11_makeSignature : MethodName := ⟨RX11, "makeSignature", "(LSealedTokens$Key;ILSealedTokens$Bytes;)Z"⟩
abbrev cX11_signatureIsRight : ByteArray := prog_1_method_46_code
def yX11_signatureIsRight : MethodName := ⟨RX11, "signatureIsRight", "(LSealedTokens$Key;)Z"⟩
abbrev cX11_codeWork : ByteArray := prog_1_method_47_code
def yX11_codeWork : MethodName := ⟨RX11, "codeWork", "(LSealedTokens$Key;ILSealedTokens$Bytes;)V"⟩
abbrev cX11_hashWork : ByteArray := prog_1_method_48_code
def yX11_hashWork : MethodName := ⟨RX11, "hashWork", "(LSealedTokens$Bytes;)V"⟩
abbrev cX11_agree : ByteArray := prog_1_method_49_code
def yX11_agree : MethodName := ⟨RX11, "agree", "(LSealedTokens$Bytes;LSealedTokens$Bytes;LSealedTokens$Bytes;LSealedTokens$Bytes;)V"⟩
abbrev cX11_makeSealedKey : ByteArray := prog_1_method_50_code
def yX11_makeSealedKey : MethodName := ⟨RX11, "makeSealedKey", "(LSealedTokens$Key;LSealedTokens$Bytes;LSealedTokens$Bytes;)V"⟩
abbrev cX11_contentKeyComes : ByteArray := prog_1_method_51_code
def yX11_contentKeyComes : MethodName := ⟨RX11, "contentKeyComes", "(LSealedTokens$Key;)Z"⟩
def RX12 : String := "SealedTokensModel$Mod"
def TX12 : u_T := fun k => match k with
  | 0 => ("SealedTokensModel$Mod", "m", "[I", true)
  | 1 => ("SealedTokensModel$Mod", "n", "I", false)
  | 2 => ("SealedTokensModel$Mod", "turn", "I", false)
  | 3 => ("SealedTokensModel$Mod", "unit", "[I", true)
  | 4 => ("SealedTokensModel$Mod", "square", "[I", true)
  | 5 => ("SealedTokensModel$Mod", "t", "[I", true)
  | 6 => ("SealedTokensModel$Mod", "held", "[I", true)
  | 7 => ("SealedTokensModel$Mod", "raised", "[I", true)
  | _ => ("SealedTokensModel$Mod", "plain", "[I", true)
def tyX12 : Nat → FieldType := fun k => match k with
  | 0 => .array .int
  | 1 => .int
  | 2 => .int
  | 3 => .array .int
  | 4 => .array .int
  | 5 => .array .int
  | 6 => .array .int
  | 7 => .array .int
  | _ => .array .int
abbrev wsX120 : List Cond := u_ws RX12 TX12 9
theorem nmX12 : ∀ a, a < 9 → ∀ b, b < 9 → a ≠ b → (TX12 a).2.1 ≠ (TX12 b).2.1 := by decide +kernel
theorem tyX12_ok : ∀ k, k < 9 → parseFieldDescriptor (TX12 k).2.2.1 = some (tyX12 k) := by decide +kernel
abbrev cX12_init : ByteArray := prog_15_method_1_code
def yX12_init : MethodName := ⟨RX12, "<init>", "()V"⟩
abbrev cX12_set : ByteArray := prog_15_method_2_code
def yX12_set : MethodName := ⟨RX12, "set", "([BII)V"⟩
abbrev cX12_load : ByteArray := prog_15_method_3_code
def yX12_load : MethodName := ⟨RX12, "load", "([BII[I)V"⟩
abbrev cX12_store : ByteArray := prog_15_method_4_code
def yX12_store : MethodName := ⟨RX12, "store", "([I[BII)V"⟩
abbrev cX12_order : ByteArray := prog_15_method_5_code
def yX12_order : MethodName := ⟨RX12, "order", "([I[I)I"⟩
abbrev cX12_isZero : ByteArray := prog_15_method_6_code
def yX12_isZero : MethodName := ⟨RX12, "isZero", "([I)Z"⟩
abbrev cX12_less : ByteArray := prog_15_method_7_code
def yX12_less : MethodName := ⟨RX12, "less", "([I)V"⟩
abbrev cX12_twice : ByteArray := prog_15_method_8_code
def yX12_twice : MethodName := ⟨RX12, "twice", "([I)V"⟩
abbrev cX12_reduce : ByteArray := prog_15_method_9_code
def yX12_reduce : MethodName := ⟨RX12, "reduce", "([BII[I)V"⟩
abbrev cX12_addOne : ByteArray := prog_15_method_10_code
def yX12_addOne : MethodName := ⟨RX12, "addOne", "([I)V"⟩
abbrev cX12_add : ByteArray := prog_15_method_11_code
def yX12_add : MethodName := ⟨RX12, "add", "([I[I[I)V"⟩
abbrev cX12_subtract : ByteArray := prog_15_method_12_code
def yX12_subtract : MethodName := ⟨RX12, "subtract", "([I[I[I)V"⟩
abbrev cX12_product : ByteArray := prog_15_method_13_code
def yX12_product : MethodName := ⟨RX12, "product", "([I[I[I)V"⟩
abbrev cX12_into : ByteArray := prog_15_method_14_code
def yX12_into : MethodName := ⟨RX12, "into", "([I[I)V"⟩
abbrev cX12_outOf : ByteArray := prog_15_method_15_code
def yX12_outOf : MethodName := ⟨RX12, "outOf", "([I[I)V"⟩
abbrev cX12_power : ByteArray := prog_15_method_16_code
def yX12_power : MethodName := ⟨RX12, "power", "([I[BII[I)V"⟩
def RX13 : String := "SealedTokensModel"
def TX13 : u_T := fun k => match k with
  | 0 => ("SealedTokensModel", "tape", "[B", true)
  | 1 => ("SealedTokensModel", "tapeSize", "I", false)
  | 2 => ("SealedTokensModel", "rows", "[B", true)
  | 3 => ("SealedTokensModel", "sizes", "[I", true)
  | 4 => ("SealedTokensModel", "out", "[B", true)
  | 5 => ("SealedTokensModel", "outSize", "I", false)
  | 6 => ("SealedTokensModel", "vKind", "[I", true)
  | 7 => ("SealedTokensModel", "vIn", "[I", true)
  | 8 => ("SealedTokensModel", "vPlace", "[I", true)
  | 9 => ("SealedTokensModel", "vAt", "[I", true)
  | 10 => ("SealedTokensModel", "vMany", "[I", true)
  | 11 => ("SealedTokensModel", "vFrom", "[I", true)
  | 12 => ("SealedTokensModel", "vSize", "[I", true)
  | 13 => ("SealedTokensModel", "vNameFrom", "[I", true)
  | 14 => ("SealedTokensModel", "vNameSize", "[I", true)
  | 15 => ("SealedTokensModel", "pool", "[B", true)
  | 16 => ("SealedTokensModel", "counts", "[I", true)
  | 17 => ("SealedTokensModel", "hand", "I", false)
  | 18 => ("SealedTokensModel", "hasText", "Z", false)
  | 19 => ("SealedTokensModel", "src", "[B", false)
  | 20 => ("SealedTokensModel", "srcAt", "I", false)
  | 21 => ("SealedTokensModel", "srcSize", "I", false)
  | 22 => ("SealedTokensModel", "pos", "I", false)
  | 23 => ("SealedTokensModel", "fault", "I", false)
  | 24 => ("SealedTokensModel", "bank", "I", false)
  | 25 => ("SealedTokensModel", "poolTop", "I", false)
  | 26 => ("SealedTokensModel", "deep", "I", false)
  | 27 => ("SealedTokensModel", "draft", "[B", true)
  | 28 => ("SealedTokensModel", "drafted", "I", false)
  | 29 => ("SealedTokensModel", "letterFault", "I", false)
  | 30 => ("SealedTokensModel", "decoded", "[B", true)
  | 31 => ("SealedTokensModel", "w32", "[I", true)
  | 32 => ("SealedTokensModel", "h32", "[I", true)
  | 33 => ("SealedTokensModel", "w64", "[J", true)
  | 34 => ("SealedTokensModel", "h64", "[J", true)
  | 35 => ("SealedTokensModel", "digest", "[B", true)
  | 36 => ("SealedTokensModel", "mass", "[B", true)
  | 37 => ("SealedTokensModel", "massSize", "I", false)
  | 38 => ("SealedTokensModel", "message", "[B", true)
  | 39 => ("SealedTokensModel", "messageSize", "I", false)
  | 40 => ("SealedTokensModel", "pad", "[B", true)
  | 41 => ("SealedTokensModel", "box", "[I", true)
  | 42 => ("SealedTokensModel", "backBox", "[I", true)
  | 43 => ("SealedTokensModel", "keyBytes", "[I", true)
  | 44 => ("SealedTokensModel", "keyRounds", "I", false)
  | 45 => ("SealedTokensModel", "cell", "[I", true)
  | 46 => ("SealedTokensModel", "turnedCell", "[I", true)
  | 47 => ("SealedTokensModel", "one", "[B", true)
  | 48 => ("SealedTokensModel", "wrapped", "[B", true)
  | 49 => ("SealedTokensModel", "content", "[B", true)
  | 50 => ("SealedTokensModel", "contentSize", "I", false)
  | 51 => ("SealedTokensModel", "mark", "[B", true)
  | 52 => ("SealedTokensModel", "counter", "[B", true)
  | 53 => ("SealedTokensModel", "productHigh", "J", false)
  | 54 => ("SealedTokensModel", "productLow", "J", false)
  | 55 => ("SealedTokensModel", "hashHigh", "J", false)
  | 56 => ("SealedTokensModel", "hashLow", "J", false)
  | 57 => ("SealedTokensModel", "free", "LSealedTokensModel$Mod;", true)
  | 58 => ("SealedTokensModel", "field", "LSealedTokensModel$Mod;", true)
  | 59 => ("SealedTokensModel", "orders", "LSealedTokensModel$Mod;", true)
  | 60 => ("SealedTokensModel", "x1", "[I", true)
  | 61 => ("SealedTokensModel", "x2", "[I", true)
  | 62 => ("SealedTokensModel", "big", "[B", true)
  | 63 => ("SealedTokensModel", "prime", "[B", true)
  | 64 => ("SealedTokensModel", "orderBytes", "[B", true)
  | 65 => ("SealedTokensModel", "base", "[B", true)
  | 66 => ("SealedTokensModel", "curveB", "[I", true)
  | 67 => ("SealedTokensModel", "lessTwo", "[B", true)
  | 68 => ("SealedTokensModel", "pX", "[I", true)
  | 69 => ("SealedTokensModel", "pY", "[I", true)
  | 70 => ("SealedTokensModel", "qX", "[I", true)
  | 71 => ("SealedTokensModel", "qY", "[I", true)
  | 72 => ("SealedTokensModel", "qZ", "[I", true)
  | 73 => ("SealedTokensModel", "isNowhere", "Z", false)
  | 74 => ("SealedTokensModel", "a1", "[I", true)
  | 75 => ("SealedTokensModel", "a2", "[I", true)
  | 76 => ("SealedTokensModel", "a3", "[I", true)
  | 77 => ("SealedTokensModel", "a4", "[I", true)
  | 78 => ("SealedTokensModel", "a5", "[I", true)
  | 79 => ("SealedTokensModel", "point", "[B", true)
  | 80 => ("SealedTokensModel", "derived", "[B", true)
  | 81 => ("SealedTokensModel", "signed", "[B", true)
  | 82 => ("SealedTokensModel", "masked", "[B", true)
  | 83 => ("SealedTokensModel", "isKey", "[Z", true)
  | 84 => ("SealedTokensModel", "kty", "[I", true)
  | 85 => ("SealedTokensModel", "keyA", "[B", true)
  | 86 => ("SealedTokensModel", "keyASize", "[I", true)
  | 87 => ("SealedTokensModel", "keyE", "[B", true)
  | 88 => ("SealedTokensModel", "keyESize", "[I", true)
  | 89 => ("SealedTokensModel", "keyD", "[B", true)
  | 90 => ("SealedTokensModel", "keyDSize", "[I", true)
  | 91 => ("SealedTokensModel", "use", "[I", true)
  | 92 => ("SealedTokensModel", "kid", "[B", true)
  | 93 => ("SealedTokensModel", "kidSize", "[I", true)
  | 94 => ("SealedTokensModel", "algName", "[B", true)
  | 95 => ("SealedTokensModel", "algSize", "[I", true)
  | 96 => ("SealedTokensModel", "partA", "[B", true)
  | 97 => ("SealedTokensModel", "partB", "[B", true)
  | 98 => ("SealedTokensModel", "partC", "[B", true)
  | 99 => ("SealedTokensModel", "sizeA", "I", false)
  | 100 => ("SealedTokensModel", "sizeB", "I", false)
  | 101 => ("SealedTokensModel", "sizeC", "I", false)
  | 102 => ("SealedTokensModel", "headAlg", "I", false)
  | 103 => ("SealedTokensModel", "headEnc", "I", false)
  | 104 => ("SealedTokensModel", "isBare", "Z", false)
  | 105 => ("SealedTokensModel", "headKid", "I", false)
  | 106 => ("SealedTokensModel", "headKidSize", "I", false)
  | 107 => ("SealedTokensModel", "fresh", "[B", true)
  | 108 => ("SealedTokensModel", "uBytes", "[B", true)
  | 109 => ("SealedTokensModel", "vBytes", "[B", true)
  | 110 => ("SealedTokensModel", "uSize", "I", false)
  | 111 => ("SealedTokensModel", "vSize0", "I", false)
  | 112 => ("SealedTokensModel", "sig", "[B", true)
  | 113 => ("SealedTokensModel", "sigSize", "I", false)
  | 114 => ("SealedTokensModel", "scalar", "[B", true)
  | 115 => ("SealedTokensModel", "sumPoint", "[B", true)
  | 116 => ("SealedTokensModel", "z1", "[I", true)
  | 117 => ("SealedTokensModel", "r1", "[I", true)
  | 118 => ("SealedTokensModel", "s1", "[I", true)
  | 119 => ("SealedTokensModel", "headBytes", "[B", true)
  | 120 => ("SealedTokensModel", "headSize", "I", false)
  | 121 => ("SealedTokensModel", "said", "[B", true)
  | 122 => ("SealedTokensModel", "saidSize", "I", false)
  | 123 => ("SealedTokensModel", "points", "[I", true)
  | 124 => ("SealedTokensModel", "payloadBytes", "[B", true)
  | 125 => ("SealedTokensModel", "contentKey", "[B", true)
  | 126 => ("SealedTokensModel", "sealedKey", "[B", true)
  | 127 => ("SealedTokensModel", "sealedKeySize", "I", false)
  | 128 => ("SealedTokensModel", "beginning", "[B", true)
  | 129 => ("SealedTokensModel", "beginningSize", "I", false)
  | 130 => ("SealedTokensModel", "shared", "[B", true)
  | 131 => ("SealedTokensModel", "names", "[B", true)
  | 132 => ("SealedTokensModel", "sealedContent", "[B", true)
  | _ => ("SealedTokensModel", "marked", "[B", true)
def tyX13 : Nat → FieldType := fun k => match k with
  | 0 => .array .byte
  | 1 => .int
  | 2 => .array .byte
  | 3 => .array .int
  | 4 => .array .byte
  | 5 => .int
  | 6 => .array .int
  | 7 => .array .int
  | 8 => .array .int
  | 9 => .array .int
  | 10 => .array .int
  | 11 => .array .int
  | 12 => .array .int
  | 13 => .array .int
  | 14 => .array .int
  | 15 => .array .byte
  | 16 => .array .int
  | 17 => .int
  | 18 => .boolean
  | 19 => .array .byte
  | 20 => .int
  | 21 => .int
  | 22 => .int
  | 23 => .int
  | 24 => .int
  | 25 => .int
  | 26 => .int
  | 27 => .array .byte
  | 28 => .int
  | 29 => .int
  | 30 => .array .byte
  | 31 => .array .int
  | 32 => .array .int
  | 33 => .array .long
  | 34 => .array .long
  | 35 => .array .byte
  | 36 => .array .byte
  | 37 => .int
  | 38 => .array .byte
  | 39 => .int
  | 40 => .array .byte
  | 41 => .array .int
  | 42 => .array .int
  | 43 => .array .int
  | 44 => .int
  | 45 => .array .int
  | 46 => .array .int
  | 47 => .array .byte
  | 48 => .array .byte
  | 49 => .array .byte
  | 50 => .int
  | 51 => .array .byte
  | 52 => .array .byte
  | 53 => .long
  | 54 => .long
  | 55 => .long
  | 56 => .long
  | 57 => .object "SealedTokensModel$Mod"
  | 58 => .object "SealedTokensModel$Mod"
  | 59 => .object "SealedTokensModel$Mod"
  | 60 => .array .int
  | 61 => .array .int
  | 62 => .array .byte
  | 63 => .array .byte
  | 64 => .array .byte
  | 65 => .array .byte
  | 66 => .array .int
  | 67 => .array .byte
  | 68 => .array .int
  | 69 => .array .int
  | 70 => .array .int
  | 71 => .array .int
  | 72 => .array .int
  | 73 => .boolean
  | 74 => .array .int
  | 75 => .array .int
  | 76 => .array .int
  | 77 => .array .int
  | 78 => .array .int
  | 79 => .array .byte
  | 80 => .array .byte
  | 81 => .array .byte
  | 82 => .array .byte
  | 83 => .array .boolean
  | 84 => .array .int
  | 85 => .array .byte
  | 86 => .array .int
  | 87 => .array .byte
  | 88 => .array .int
  | 89 => .array .byte
  | 90 => .array .int
  | 91 => .array .int
  | 92 => .array .byte
  | 93 => .array .int
  | 94 => .array .byte
  | 95 => .array .int
  | 96 => .array .byte
  | 97 => .array .byte
  | 98 => .array .byte
  | 99 => .int
  | 100 => .int
  | 101 => .int
  | 102 => .int
  | 103 => .int
  | 104 => .boolean
  | 105 => .int
  | 106 => .int
  | 107 => .array .byte
  | 108 => .array .byte
  | 109 => .array .byte
  | 110 => .int
  | 111 => .int
  | 112 => .array .byte
  | 113 => .int
  | 114 => .array .byte
  | 115 => .array .byte
  | 116 => .array .int
  | 117 => .array .int
  | 118 => .array .int
  | 119 => .array .byte
  | 120 => .int
  | 121 => .array .byte
  | 122 => .int
  | 123 => .array .int
  | 124 => .array .byte
  | 125 => .array .byte
  | 126 => .array .byte
  | 127 => .int
  | 128 => .array .byte
  | 129 => .int
  | 130 => .array .byte
  | 131 => .array .byte
  | 132 => .array .byte
  | _ => .array .byte
abbrev wsX130 : List Cond := u_ws RX13 TX13 134
theorem nmX13 : ∀ a, a < 134 → ∀ b, b < 134 → a ≠ b → (TX13 a).2.1 ≠ (TX13 b).2.1 := by decide +kernel
theorem tyX13_ok : ∀ k, k < 134 → parseFieldDescriptor (TX13 k).2.2.1 = some (tyX13 k) := by decide +kernel
abbrev cX13_init : ByteArray := prog_14_method_1_code
def yX13_init : MethodName := ⟨RX13, "<init>", "()V"⟩
abbrev cX13_isRow : ByteArray := prog_14_method_3_code
def yX13_isRow : MethodName := ⟨RX13, "isRow", "(I)Z"⟩
abbrev cX13_put : ByteArray := prog_14_method_4_code
def yX13_put : MethodName := ⟨RX13, "put", "([BIIJ)V"⟩
abbrev cX13_longAt : ByteArray := prog_14_method_5_code
def yX13_longAt : MethodName := ⟨RX13, "longAt", "([BII)J"⟩
abbrev cX13_move : ByteArray := prog_14_method_6_code
def yX13_move : MethodName := ⟨RX13, "move", "([BI[BII)V"⟩
abbrev cX13_same : ByteArray := prog_14_method_7_code
def yX13_same : MethodName := ⟨RX13, "same", "([BI[BII)Z"⟩
abbrev cX13_tell : ByteArray := prog_14_method_8_code
def yX13_tell : MethodName := ⟨RX13, "tell", "([BII)I"⟩
abbrev cX13_feed : ByteArray := prog_14_method_9_code
def yX13_feed : MethodName := ⟨RX13, "feed", "(IIIII)I"⟩
abbrev cX13_end : ByteArray := prog_14_method_10_code
def yX13_end : MethodName := ⟨RX13, "end", "(I)I"⟩
abbrev cX13_row : ByteArray := prog_14_method_11_code
def yX13_row : MethodName := ⟨RX13, "row", "(I)I"⟩
abbrev cX13_keep : ByteArray := prog_14_method_12_code
def yX13_keep : MethodName := ⟨RX13, "keep", "(I)I"⟩
abbrev cX13_poke : ByteArray := prog_14_method_13_code
def yX13_poke : MethodName := ⟨RX13, "poke", "(III)I"⟩
abbrev cX13_size : ByteArray := prog_14_method_14_code
def yX13_size : MethodName := ⟨RX13, "size", "(I)I"⟩
abbrev cX13_out : ByteArray := prog_14_method_15_code
def yX13_out : MethodName := ⟨RX13, "out", "(I)I"⟩
abbrev cX13_at : ByteArray := prog_14_method_16_code
def yX13_at : MethodName := ⟨RX13, "at", "()I"⟩
abbrev cX13_fail : ByteArray := prog_14_method_17_code
def yX13_fail : MethodName := ⟨RX13, "fail", "(I)V"⟩
abbrev cX13_good : ByteArray := prog_14_method_18_code
def yX13_good : MethodName := ⟨RX13, "good", "()Z"⟩
abbrev cX13_blanks : ByteArray := prog_14_method_19_code
def yX13_blanks : MethodName := ⟨RX13, "blanks", "()V"⟩
abbrev cX13_read : ByteArray := prog_14_method_20_code
def yX13_read : MethodName := ⟨RX13, "read", "([BIII)Z"⟩
abbrev cX13_isDigit : ByteArray := prog_14_method_21_code
def yX13_isDigit : MethodName := ⟨RX13, "isDigit", "(I)Z"⟩
abbrev cX13_readValue : ByteArray := prog_14_method_22_code
def yX13_readValue : MethodName := ⟨RX13, "readValue", "(II)V"⟩
abbrev cX13_keep8 : ByteArray := prog_14_method_23_code
def yX13_keep8 : MethodName := ⟨RX13, "keep8", "(I)V"⟩
abbrev cX13_word : ByteArray := prog_14_method_24_code
def yX13_word : MethodName := ⟨RX13, "word", "(Ljava/lang/String;)V"⟩
abbrev cX13_digits : ByteArray := prog_14_method_25_code
def yX13_digits : MethodName := ⟨RX13, "digits", "()V"⟩
abbrev cX13_number : ByteArray := prog_14_method_26_code
def yX13_number : MethodName := ⟨RX13, "number", "()V"⟩
abbrev cX13_readMany : ByteArray := prog_14_method_27_code
def yX13_readMany : MethodName := ⟨RX13, "readMany", "(IZ)V"⟩
abbrev cX13_readName : ByteArray := prog_14_method_28_code
def yX13_readName : MethodName := ⟨RX13, "readName", "(I)V"⟩
abbrev cX13_readString : ByteArray := prog_14_method_29_code
def yX13_readString : MethodName := ⟨RX13, "readString", "()V"⟩
abbrev cX13_wide : ByteArray := prog_14_method_30_code
def yX13_wide : MethodName := ⟨RX13, "wide", "(I)V"⟩
abbrev cX13_hexOf : ByteArray := prog_14_method_31_code
def yX13_hexOf : MethodName := ⟨RX13, "hexOf", "(I)I"⟩
abbrev cX13_escape : ByteArray := prog_14_method_32_code
def yX13_escape : MethodName := ⟨RX13, "escape", "()V"⟩
abbrev cX13_four : ByteArray := prog_14_method_33_code
def yX13_four : MethodName := ⟨RX13, "four", "(Z)I"⟩
abbrev cX13_sign8 : ByteArray := prog_14_method_34_code
def yX13_sign8 : MethodName := ⟨RX13, "sign8", "(I)V"⟩
abbrev cX13_json : ByteArray := prog_14_method_35_code
def yX13_json : MethodName := ⟨RX13, "json", "(I)I"⟩
abbrev cX13_isValue : ByteArray := prog_14_method_36_code
def yX13_isValue : MethodName := ⟨RX13, "isValue", "(I)Z"⟩
abbrev cX13_value : ByteArray := prog_14_method_37_code
def yX13_value : MethodName := ⟨RX13, "value", "(II)I"⟩
abbrev cX13_text : ByteArray := prog_14_method_38_code
def yX13_text : MethodName := ⟨RX13, "text", "(I)I"⟩
abbrev cX13_name : ByteArray := prog_14_method_39_code
def yX13_name : MethodName := ⟨RX13, "name", "(I)I"⟩
abbrev cX13_member : ByteArray := prog_14_method_40_code
def yX13_member : MethodName := ⟨RX13, "member", "(II)I"⟩
abbrev cX13_say : ByteArray := prog_14_method_41_code
def yX13_say : MethodName := ⟨RX13, "say", "(I)V"⟩
abbrev cX13_sayAll : ByteArray := prog_14_method_42_code
def yX13_sayAll : MethodName := ⟨RX13, "sayAll", "(Ljava/lang/String;)V"⟩
abbrev cX13_sayString : ByteArray := prog_14_method_43_code
def yX13_sayString : MethodName := ⟨RX13, "sayString", "([BII)V"⟩
abbrev cX13_saved : ByteArray := prog_14_method_44_code
def yX13_saved : MethodName := ⟨RX13, "saved", "()I"⟩
abbrev cX13_write : ByteArray := prog_14_method_45_code
def yX13_write : MethodName := ⟨RX13, "write", "(I)I"⟩
abbrev cX13_sayValue : ByteArray := prog_14_method_46_code
def yX13_sayValue : MethodName := ⟨RX13, "sayValue", "(I)V"⟩
abbrev cX13_letterOf : ByteArray := prog_14_method_47_code
def yX13_letterOf : MethodName := ⟨RX13, "letterOf", "(I)I"⟩
abbrev cX13_sixOf : ByteArray := prog_14_method_48_code
def yX13_sixOf : MethodName := ⟨RX13, "sixOf", "(I)I"⟩
abbrev cX13_sayLetters : ByteArray := prog_14_method_49_code
def yX13_sayLetters : MethodName := ⟨RX13, "sayLetters", "([BII)V"⟩
abbrev cX13_unletter : ByteArray := prog_14_method_50_code
def yX13_unletter : MethodName := ⟨RX13, "unletter", "([BII[BI)I"⟩
abbrev cX13_encode : ByteArray := prog_14_method_51_code
def yX13_encode : MethodName := ⟨RX13, "encode", "(I)I"⟩
abbrev cX13_decode : ByteArray := prog_14_method_52_code
def yX13_decode : MethodName := ⟨RX13, "decode", "(I)I"⟩
abbrev cX13_right : ByteArray := prog_14_method_53_code
def yX13_right : MethodName := ⟨RX13, "right", "(II)I"⟩
abbrev cX13_right64 : ByteArray := prog_14_method_54_code
def yX13_right64 : MethodName := ⟨RX13, "right64", "(JI)J"⟩
abbrev cX13_empty : ByteArray := prog_14_method_55_code
def yX13_empty : MethodName := ⟨RX13, "empty", "()V"⟩
abbrev cX13_lay : ByteArray := prog_14_method_56_code
def yX13_lay : MethodName := ⟨RX13, "lay", "([BII)V"⟩
abbrev cX13_layNumber : ByteArray := prog_14_method_57_code
def yX13_layNumber : MethodName := ⟨RX13, "layNumber", "(JI)V"⟩
abbrev cX13_fill : ByteArray := prog_14_method_59_code
def yX13_fill : MethodName := ⟨RX13, "fill", "(I)V"⟩
abbrev cX13_digestOf : ByteArray := prog_14_method_60_code
def yX13_digestOf : MethodName := ⟨RX13, "digestOf", "(I)I"⟩
abbrev cX13_firstOf : ByteArray := prog_14_method_61_code
def yX13_firstOf : MethodName := ⟨RX13, "firstOf", "(I)J"⟩
abbrev cX13_turn32 : ByteArray := prog_14_method_62_code
def yX13_turn32 : MethodName := ⟨RX13, "turn32", "()V"⟩
abbrev cX13_digest64 : ByteArray := prog_14_method_63_code
def yX13_digest64 : MethodName := ⟨RX13, "digest64", "()V"⟩
abbrev cX13_turn64 : ByteArray := prog_14_method_64_code
def yX13_turn64 : MethodName := ⟨RX13, "turn64", "()V"⟩
abbrev cX13_hash : ByteArray := prog_14_method_65_code
def yX13_hash : MethodName := ⟨RX13, "hash", "(II)I"⟩
abbrev cX13_codeOf : ByteArray := prog_14_method_66_code
def yX13_codeOf : MethodName := ⟨RX13, "codeOf", "(I[BII)I"⟩
abbrev cX13_tellMessage : ByteArray := prog_14_method_67_code
def yX13_tellMessage : MethodName := ⟨RX13, "tellMessage", "([BII)V"⟩
abbrev cX13_code : ByteArray := prog_14_method_68_code
def yX13_code : MethodName := ⟨RX13, "code", "(III)I"⟩
abbrev cX13_twice : ByteArray := prog_14_method_69_code
def yX13_twice : MethodName := ⟨RX13, "twice", "(I)I"⟩
abbrev cX13_times : ByteArray := prog_14_method_70_code
def yX13_times : MethodName := ⟨RX13, "times", "(II)I"⟩
abbrev cX13_layCipher : ByteArray := prog_14_method_71_code
def yX13_layCipher : MethodName := ⟨RX13, "layCipher", "()V"⟩
abbrev cX13_setKey : ByteArray := prog_14_method_72_code
def yX13_setKey : MethodName := ⟨RX13, "setKey", "([BII)V"⟩
abbrev cX13_withKey : ByteArray := prog_14_method_73_code
def yX13_withKey : MethodName := ⟨RX13, "withKey", "(I)V"⟩
abbrev cX13_forth : ByteArray := prog_14_method_74_code
def yX13_forth : MethodName := ⟨RX13, "forth", "()V"⟩
abbrev cX13_back : ByteArray := prog_14_method_75_code
def yX13_back : MethodName := ⟨RX13, "back", "()V"⟩
abbrev cX13_setCells : ByteArray := prog_14_method_76_code
def yX13_setCells : MethodName := ⟨RX13, "setCells", "([BI)V"⟩
abbrev cX13_getCells : ByteArray := prog_14_method_77_code
def yX13_getCells : MethodName := ⟨RX13, "getCells", "([BI)V"⟩
abbrev cX13_block : ByteArray := prog_14_method_78_code
def yX13_block : MethodName := ⟨RX13, "block", "(IIZ)I"⟩
abbrev cX13_wrapUp : ByteArray := prog_14_method_79_code
def yX13_wrapUp : MethodName := ⟨RX13, "wrapUp", "([BII)I"⟩
abbrev cX13_unwrapIt : ByteArray := prog_14_method_80_code
def yX13_unwrapIt : MethodName := ⟨RX13, "unwrapIt", "([BII)Z"⟩
abbrev cX13_isCipherKey : ByteArray := prog_14_method_81_code
def yX13_isCipherKey : MethodName := ⟨RX13, "isCipherKey", "(I)Z"⟩
abbrev cX13_wrap : ByteArray := prog_14_method_82_code
def yX13_wrap : MethodName := ⟨RX13, "wrap", "(II)I"⟩
abbrev cX13_unwrap : ByteArray := prog_14_method_83_code
def yX13_unwrap : MethodName := ⟨RX13, "unwrap", "(II)I"⟩
abbrev cX13_keyOf : ByteArray := prog_14_method_84_code
def yX13_keyOf : MethodName := ⟨RX13, "keyOf", "(I)I"⟩
abbrev cX13_beginningOf : ByteArray := prog_14_method_85_code
def yX13_beginningOf : MethodName := ⟨RX13, "beginningOf", "(I)I"⟩
abbrev cX13_markOf : ByteArray := prog_14_method_86_code
def yX13_markOf : MethodName := ⟨RX13, "markOf", "(I)I"⟩
abbrev cX13_codeMark : ByteArray := prog_14_method_87_code
def yX13_codeMark : MethodName := ⟨RX13, "codeMark", "(I[BI[BI[BII[BII)V"⟩
abbrev cX13_gather : ByteArray := prog_14_method_88_code
def yX13_gather : MethodName := ⟨RX13, "gather", "([BII)V"⟩
abbrev cX13_gatherAll : ByteArray := prog_14_method_89_code
def yX13_gatherAll : MethodName := ⟨RX13, "gatherAll", "([BII)V"⟩
abbrev cX13_sumMark : ByteArray := prog_14_method_90_code
def yX13_sumMark : MethodName := ⟨RX13, "sumMark", "([BI[BII[BII)V"⟩
abbrev cX13_setCounter : ByteArray := prog_14_method_91_code
def yX13_setCounter : MethodName := ⟨RX13, "setCounter", "([BII)V"⟩
abbrev cX13_stream : ByteArray := prog_14_method_92_code
def yX13_stream : MethodName := ⟨RX13, "stream", "([BI[BII)V"⟩
abbrev cX13_sealIt : ByteArray := prog_14_method_93_code
def yX13_sealIt : MethodName := ⟨RX13, "sealIt", "(I[BI[BI[BII[BII)V"⟩
abbrev cX13_openIt : ByteArray := prog_14_method_94_code
def yX13_openIt : MethodName := ⟨RX13, "openIt", "(I[BI[BI[BII[BII[BI)Z"⟩
abbrev cX13_isContent : ByteArray := prog_14_method_95_code
def yX13_isContent : MethodName := ⟨RX13, "isContent", "(IIIII)Z"⟩
abbrev cX13_seal : ByteArray := prog_14_method_96_code
def yX13_seal : MethodName := ⟨RX13, "seal", "(IIIII)I"⟩
abbrev cX13_open : ByteArray := prog_14_method_97_code
def yX13_open : MethodName := ⟨RX13, "open", "(IIIII)I"⟩
abbrev cX13_raise : ByteArray := prog_14_method_98_code
def yX13_raise : MethodName := ⟨RX13, "raise", "([BII[BII[BII)V"⟩
abbrev cX13_power : ByteArray := prog_14_method_99_code
def yX13_power : MethodName := ⟨RX13, "power", "(III)I"⟩
abbrev cX13_digits_ : ByteArray := prog_14_method_100_code
def yX13_digits_ : MethodName := ⟨RX13, "digits", "(Ljava/lang/String;[BI)V"⟩
abbrev cX13_layCurve : ByteArray := prog_14_method_101_code
def yX13_layCurve : MethodName := ⟨RX13, "layCurve", "()V"⟩
abbrev cX13_setLessTwo : ByteArray := prog_14_method_102_code
def yX13_setLessTwo : MethodName := ⟨RX13, "setLessTwo", "([B)V"⟩
abbrev cX13_setPoint : ByteArray := prog_14_method_103_code
def yX13_setPoint : MethodName := ⟨RX13, "setPoint", "([BI)Z"⟩
abbrev cX13_twicePoint : ByteArray := prog_14_method_104_code
def yX13_twicePoint : MethodName := ⟨RX13, "twicePoint", "()V"⟩
abbrev cX13_addPoint : ByteArray := prog_14_method_105_code
def yX13_addPoint : MethodName := ⟨RX13, "addPoint", "()V"⟩
abbrev cX13_times_ : ByteArray := prog_14_method_106_code
def yX13_times_ : MethodName := ⟨RX13, "times", "([BI)V"⟩
abbrev cX13_getPoint : ByteArray := prog_14_method_107_code
def yX13_getPoint : MethodName := ⟨RX13, "getPoint", "([BI)Z"⟩
abbrev cX13_multiply : ByteArray := prog_14_method_108_code
def yX13_multiply : MethodName := ⟨RX13, "multiply", "(II)I"⟩
abbrev cX13_isSecret : ByteArray := prog_14_method_109_code
def yX13_isSecret : MethodName := ⟨RX13, "isSecret", "([BI)Z"⟩
abbrev cX13_deriveIt : ByteArray := prog_14_method_110_code
def yX13_deriveIt : MethodName := ⟨RX13, "deriveIt", "([BII[BII[BII[BIII)V"⟩
abbrev cX13_derive : ByteArray := prog_14_method_111_code
def yX13_derive : MethodName := ⟨RX13, "derive", "(IIIII)I"⟩
abbrev cX13_maskOn : ByteArray := prog_14_method_112_code
def yX13_maskOn : MethodName := ⟨RX13, "maskOn", "([BII[BII)V"⟩
abbrev cX13_fillOut : ByteArray := prog_14_method_113_code
def yX13_fillOut : MethodName := ⟨RX13, "fillOut", "(I)V"⟩
abbrev cX13_digestMessage : ByteArray := prog_14_method_114_code
def yX13_digestMessage : MethodName := ⟨RX13, "digestMessage", "()V"⟩
abbrev cX13_bitsOf : ByteArray := prog_14_method_115_code
def yX13_bitsOf : MethodName := ⟨RX13, "bitsOf", "([BII)I"⟩
abbrev cX13_saltOut : ByteArray := prog_14_method_116_code
def yX13_saltOut : MethodName := ⟨RX13, "saltOut", "([BIII)V"⟩
abbrev cX13_isSalted : ByteArray := prog_14_method_117_code
def yX13_isSalted : MethodName := ⟨RX13, "isSalted", "(II)Z"⟩
abbrev cX13_memberOf : ByteArray := prog_14_method_118_code
def yX13_memberOf : MethodName := ⟨RX13, "memberOf", "(IILjava/lang/String;)I"⟩
abbrev cX13_isSaid : ByteArray := prog_14_method_119_code
def yX13_isSaid : MethodName := ⟨RX13, "isSaid", "(IILjava/lang/String;)Z"⟩
abbrev cX13_isString : ByteArray := prog_14_method_120_code
def yX13_isString : MethodName := ⟨RX13, "isString", "(II)Z"⟩
abbrev cX13_says : ByteArray := prog_14_method_121_code
def yX13_says : MethodName := ⟨RX13, "says", "(IILjava/lang/String;)Z"⟩
abbrev cX13_bytesOf : ByteArray := prog_14_method_122_code
def yX13_bytesOf : MethodName := ⟨RX13, "bytesOf", "(IILjava/lang/String;[B)I"⟩
abbrev cX13_isOdd : ByteArray := prog_14_method_123_code
def yX13_isOdd : MethodName := ⟨RX13, "isOdd", "(ILjava/lang/String;)Z"⟩
abbrev cX13_key : ByteArray := prog_14_method_124_code
def yX13_key : MethodName := ⟨RX13, "key", "(I)I"⟩
abbrev cX13_isLessThan : ByteArray := prog_14_method_125_code
def yX13_isLessThan : MethodName := ⟨RX13, "isLessThan", "([BI[BI)Z"⟩
abbrev cX13_isRsa : ByteArray := prog_14_method_126_code
def yX13_isRsa : MethodName := ⟨RX13, "isRsa", "()Z"⟩
abbrev cX13_isEc : ByteArray := prog_14_method_127_code
def yX13_isEc : MethodName := ⟨RX13, "isEc", "()Z"⟩
abbrev cX13_keepKey : ByteArray := prog_14_method_128_code
def yX13_keepKey : MethodName := ⟨RX13, "keepKey", "(III)V"⟩
abbrev cX13_keepWord : ByteArray := prog_14_method_129_code
def yX13_keepWord : MethodName := ⟨RX13, "keepWord", "(II[BI)I"⟩
abbrev cX13_isKey : ByteArray := prog_14_method_130_code
def yX13_isKey : MethodName := ⟨RX13, "isKey", "(I)Z"⟩
abbrev cX13_drop : ByteArray := prog_14_method_131_code
def yX13_drop : MethodName := ⟨RX13, "drop", "(I)I"⟩
abbrev cX13_told : ByteArray := prog_14_method_132_code
def yX13_told : MethodName := ⟨RX13, "told", "(II)I"⟩
abbrev cX13_sayPart : ByteArray := prog_14_method_133_code
def yX13_sayPart : MethodName := ⟨RX13, "sayPart", "(Ljava/lang/String;[BII)V"⟩
abbrev cX13_print : ByteArray := prog_14_method_134_code
def yX13_print : MethodName := ⟨RX13, "print", "(I)I"⟩
abbrev cX13_wordOf : ByteArray := prog_14_method_135_code
def yX13_wordOf : MethodName := ⟨RX13, "wordOf", "(Ljava/lang/String;[BII)I"⟩
abbrev cX13_begins : ByteArray := prog_14_method_136_code
def yX13_begins : MethodName := ⟨RX13, "begins", "(Ljava/lang/String;I)I"⟩
abbrev cX13_sayWord : ByteArray := prog_14_method_137_code
def yX13_sayWord : MethodName := ⟨RX13, "sayWord", "(Ljava/lang/String;I)V"⟩
abbrev cX13_wordAt : ByteArray := prog_14_method_138_code
def yX13_wordAt : MethodName := ⟨RX13, "wordAt", "(IILjava/lang/String;)I"⟩
abbrev cX13_headOf : ByteArray := prog_14_method_139_code
def yX13_headOf : MethodName := ⟨RX13, "headOf", "([BIIZ)I"⟩
abbrev cX13_isCrit : ByteArray := prog_14_method_140_code
def yX13_isCrit : MethodName := ⟨RX13, "isCrit", "(II)Z"⟩
abbrev cX13_isKnown : ByteArray := prog_14_method_141_code
def yX13_isKnown : MethodName := ⟨RX13, "isKnown", "(II)Z"⟩
abbrev cX13_agreed : ByteArray := prog_14_method_142_code
def yX13_agreed : MethodName := ⟨RX13, "agreed", "(I)I"⟩
abbrev cX13_lets : ByteArray := prog_14_method_143_code
def yX13_lets : MethodName := ⟨RX13, "lets", "(ILjava/lang/String;II)Z"⟩
abbrev cX13_maySign : ByteArray := prog_14_method_144_code
def yX13_maySign : MethodName := ⟨RX13, "maySign", "(IIZ)Z"⟩
abbrev cX13_signIt : ByteArray := prog_14_method_145_code
def yX13_signIt : MethodName := ⟨RX13, "signIt", "(III)I"⟩
abbrev cX13_digestNumber : ByteArray := prog_14_method_146_code
def yX13_digestNumber : MethodName := ⟨RX13, "digestNumber", "()V"⟩
abbrev cX13_signPoint : ByteArray := prog_14_method_147_code
def yX13_signPoint : MethodName := ⟨RX13, "signPoint", "(II)I"⟩
abbrev cX13_isSigned : ByteArray := prog_14_method_148_code
def yX13_isSigned : MethodName := ⟨RX13, "isSigned", "(II)Z"⟩
abbrev cX13_isBelow : ByteArray := prog_14_method_149_code
def yX13_isBelow : MethodName := ⟨RX13, "isBelow", "([BII)Z"⟩
abbrev cX13_isSignedPoint : ByteArray := prog_14_method_150_code
def yX13_isSignedPoint : MethodName := ⟨RX13, "isSignedPoint", "(I)Z"⟩
abbrev cX13_sayHead : ByteArray := prog_14_method_151_code
def yX13_sayHead : MethodName := ⟨RX13, "sayHead", "(ILjava/lang/String;II)V"⟩
abbrev cX13_addLetters : ByteArray := prog_14_method_152_code
def yX13_addLetters : MethodName := ⟨RX13, "addLetters", "([BII)V"⟩
abbrev cX13_addByte : ByteArray := prog_14_method_153_code
def yX13_addByte : MethodName := ⟨RX13, "addByte", "(I)V"⟩
abbrev cX13_saidOut : ByteArray := prog_14_method_154_code
def yX13_saidOut : MethodName := ⟨RX13, "saidOut", "()I"⟩
abbrev cX13_sign : ByteArray := prog_14_method_155_code
def yX13_sign : MethodName := ⟨RX13, "sign", "(IIIII)I"⟩
abbrev cX13_late : ByteArray := prog_14_method_156_code
def yX13_late : MethodName := ⟨RX13, "late", "(III)I"⟩
abbrev cX13_hasKid : ByteArray := prog_14_method_157_code
def yX13_hasKid : MethodName := ⟨RX13, "hasKid", "(I)Z"⟩
abbrev cX13_pointsOf : ByteArray := prog_14_method_158_code
def yX13_pointsOf : MethodName := ⟨RX13, "pointsOf", "(I)I"⟩
abbrev cX13_verify : ByteArray := prog_14_method_159_code
def yX13_verify : MethodName := ⟨RX13, "verify", "(I)I"⟩
abbrev cX13_maySeal : ByteArray := prog_14_method_160_code
def yX13_maySeal : MethodName := ⟨RX13, "maySeal", "(IIIZ)Z"⟩
abbrev cX13_nameOf : ByteArray := prog_14_method_161_code
def yX13_nameOf : MethodName := ⟨RX13, "nameOf", "(Ljava/lang/String;I)I"⟩
abbrev cX13_agree : ByteArray := prog_14_method_162_code
def yX13_agree : MethodName := ⟨RX13, "agree", "([BI[BIII)Z"⟩
abbrev cX13_sealRsa : ByteArray := prog_14_method_163_code
def yX13_sealRsa : MethodName := ⟨RX13, "sealRsa", "(II[BI)V"⟩
abbrev cX13_openRsa : ByteArray := prog_14_method_164_code
def yX13_openRsa : MethodName := ⟨RX13, "openRsa", "(I)I"⟩
abbrev cX13_encrypt : ByteArray := prog_14_method_165_code
def yX13_encrypt : MethodName := ⟨RX13, "encrypt", "(IIIIIII)I"⟩
abbrev cX13_agreeFresh : ByteArray := prog_14_method_166_code
def yX13_agreeFresh : MethodName := ⟨RX13, "agreeFresh", "(IIIIII)V"⟩
abbrev cX13_compose : ByteArray := prog_14_method_167_code
def yX13_compose : MethodName := ⟨RX13, "compose", "(IIIIIII)I"⟩
abbrev cX13_decrypt : ByteArray := prog_14_method_168_code
def yX13_decrypt : MethodName := ⟨RX13, "decrypt", "(I)I"⟩
abbrev cX13_keyComes : ByteArray := prog_14_method_169_code
def yX13_keyComes : MethodName := ⟨RX13, "keyComes", "(III)Z"⟩
def RJ11 : String := "java/lang/Character"
def TJ11 : u_T := fun k => match k with
  | _ => ("", "", "", false)
def tyJ11 : Nat → FieldType := fun k => match k with
  | _ => .int
abbrev wsJ110 : List Cond := u_ws RJ11 TJ11 0
theorem nmJ11 : ∀ a, a < 0 → ∀ b, b < 0 → a ≠ b → (TJ11 a).2.1 ≠ (TJ11 b).2.1 := by decide +kernel
theorem tyJ11_ok : ∀ k, k < 0 → parseFieldDescriptor (TJ11 k).2.2.1 = some (tyJ11 k) := by decide +kernel
abbrev cJ11_isValidCodePoint_9a6ad : ByteArray := prog_16_method_11_code
def yJ11_isValidCodePoint_9a6ad : MethodName := ⟨RJ11, "isValidCodePoint", "(I)Z"⟩
abbrev cJ11_highSurrogate_5068e : ByteArray := prog_16_method_28_code
def yJ11_highSurrogate_5068e : MethodName := ⟨RJ11, "highSurrogate", "(I)C"⟩
abbrev cJ11_lowSurrogate_5068e : ByteArray := prog_16_method_29_code
def yJ11_lowSurrogate_5068e : MethodName := ⟨RJ11, "lowSurrogate", "(I)C"⟩
def RJ9 : String := "java/lang/Math"
def TJ9 : u_T := fun k => match k with
  | _ => ("", "", "", false)
def tyJ9 : Nat → FieldType := fun k => match k with
  | _ => .int
abbrev wsJ90 : List Cond := u_ws RJ9 TJ9 0
theorem nmJ9 : ∀ a, a < 0 → ∀ b, b < 0 → a ≠ b → (TJ9 a).2.1 ≠ (TJ9 b).2.1 := by decide +kernel
theorem tyJ9_ok : ∀ k, k < 0 → parseFieldDescriptor (TJ9 k).2.2.1 = some (tyJ9 k) := by decide +kernel
abbrev cJ9_max_7cf53 : ByteArray := prog_17_method_65_code
def yJ9_max_7cf53 : MethodName := ⟨RJ9, "max", "(II)I"⟩
abbrev cJ9_min_7cf53 : ByteArray := prog_17_method_69_code
def yJ9_min_7cf53 : MethodName := ⟨RJ9, "min", "(II)I"⟩
def RJ0 : String := "java/lang/String"
def TJ0 : u_T := fun k => match k with
  | _ => ("", "", "", false)
def tyJ0 : Nat → FieldType := fun k => match k with
  | _ => .int
abbrev wsJ00 : List Cond := u_ws RJ0 TJ0 0
theorem nmJ0 : ∀ a, a < 0 → ∀ b, b < 0 → a ≠ b → (TJ0 a).2.1 ≠ (TJ0 b).2.1 := by decide +kernel
theorem tyJ0_ok : ∀ k, k < 0 → parseFieldDescriptor (TJ0 k).2.2.1 = some (tyJ0 k) := by decide +kernel
abbrev cJ0_length_8abf5 : ByteArray := prog_18_method_54_code
def yJ0_length_8abf5 : MethodName := ⟨RJ0, "length", "()I"⟩
abbrev cJ0_charAt_5068e : ByteArray := prog_18_method_56_code
def yJ0_charAt_5068e : MethodName := ⟨RJ0, "charAt", "(I)C"⟩
abbrev cJ0_indexOf_0f7a4 : ByteArray := prog_18_method_79_code
def yJ0_indexOf_0f7a4 : MethodName := ⟨RJ0, "indexOf", "(I)I"⟩
abbrev cJ0_indexOf_7cf53 : ByteArray := prog_18_method_80_code
def yJ0_indexOf_7cf53 : MethodName := ⟨RJ0, "indexOf", "(II)I"⟩
abbrev cJ0_coder_7d493 : ByteArray := prog_18_method_152_code
def yJ0_coder_7d493 : MethodName := ⟨RJ0, "coder", "()B"⟩
abbrev cJ0_isLatin1_aae02 : ByteArray := prog_18_method_154_code
def yJ0_isLatin1_aae02 : MethodName := ⟨RJ0, "isLatin1", "()Z"⟩
abbrev cJ0_checkIndex_df160 : ByteArray := prog_18_method_155_code
def yJ0_checkIndex_df160 : MethodName := ⟨RJ0, "checkIndex", "(II)V"⟩
abbrev cJ0_checkBoundsBeginEnd_23922 : ByteArray := prog_18_method_158_code
def yJ0_checkBoundsBeginEnd_23922 : MethodName := ⟨RJ0, "checkBoundsBeginEnd", "(III)V"⟩
def RJ1 : String := "java/lang/StringLatin1"
def TJ1 : u_T := fun k => match k with
  | _ => ("", "", "", false)
def tyJ1 : Nat → FieldType := fun k => match k with
  | _ => .int
abbrev wsJ10 : List Cond := u_ws RJ1 TJ1 0
theorem nmJ1 : ∀ a, a < 0 → ∀ b, b < 0 → a ≠ b → (TJ1 a).2.1 ≠ (TJ1 b).2.1 := by decide +kernel
theorem tyJ1_ok : ∀ k, k < 0 → parseFieldDescriptor (TJ1 k).2.2.1 = some (tyJ1 k) := by decide +kernel
abbrev cJ1_charAt_3b067 : ByteArray := prog_19_method_2_code
def yJ1_charAt_3b067 : MethodName := ⟨RJ1, "charAt", "([BI)C"⟩
abbrev cJ1_canEncode_9a6ad : ByteArray := prog_19_method_4_code
def yJ1_canEncode_9a6ad : MethodName := ⟨RJ1, "canEncode", "(I)Z"⟩
abbrev cJ1_indexOf_4cfef : ByteArray := prog_19_method_22_code
def yJ1_indexOf_4cfef : MethodName := ⟨RJ1, "indexOf", "([BIII)I"⟩
abbrev cJ1_indexOfChar_4cfef : ByteArray := prog_19_method_23_code
def yJ1_indexOfChar_4cfef : MethodName := ⟨RJ1, "indexOfChar", "([BIII)I"⟩
def RJ2 : String := "java/lang/StringUTF16"
def TJ2 : u_T := fun k => match k with
  | _ => ("", "", "", false)
def tyJ2 : Nat → FieldType := fun k => match k with
  | _ => .int
abbrev wsJ20 : List Cond := u_ws RJ2 TJ2 0
theorem nmJ2 : ∀ a, a < 0 → ∀ b, b < 0 → a ≠ b → (TJ2 a).2.1 ≠ (TJ2 b).2.1 := by decide +kernel
theorem tyJ2_ok : ∀ k, k < 0 → parseFieldDescriptor (TJ2 k).2.2.1 = some (tyJ2 k) := by decide +kernel
abbrev cJ2_getChar_3b067 : ByteArray := prog_20_method_5_code
def yJ2_getChar_3b067 : MethodName := ⟨RJ2, "getChar", "([BI)C"⟩
abbrev cJ2_length_9d52b : ByteArray := prog_20_method_6_code
def yJ2_length_9d52b : MethodName := ⟨RJ2, "length", "([B)I"⟩
abbrev cJ2_indexOf_4cfef : ByteArray := prog_20_method_40_code
def yJ2_indexOf_4cfef : MethodName := ⟨RJ2, "indexOf", "([BIII)I"⟩
abbrev cJ2_indexOfChar_4cfef : ByteArray := prog_20_method_47_code
def yJ2_indexOfChar_4cfef : MethodName := ⟨RJ2, "indexOfChar", "([BIII)I"⟩
abbrev cJ2_indexOfCharUnsafe_4cfef : ByteArray := prog_20_method_48_code
def yJ2_indexOfCharUnsafe_4cfef : MethodName := ⟨RJ2, "indexOfCharUnsafe", "([BIII)I"⟩
abbrev cJ2_indexOfSupplementary_4cfef : ByteArray := prog_20_method_49_code
def yJ2_indexOfSupplementary_4cfef : MethodName := ⟨RJ2, "indexOfSupplementary", "([BIII)I"⟩
abbrev cJ2_charAt_3b067 : ByteArray := prog_20_method_83_code
def yJ2_charAt_3b067 : MethodName := ⟨RJ2, "charAt", "([BI)C"⟩
abbrev cJ2_checkIndex_2214a : ByteArray := prog_20_method_91_code
def yJ2_checkIndex_2214a : MethodName := ⟨RJ2, "checkIndex", "(I[B)V"⟩
abbrev cJ2_checkBoundsBeginEnd_d044e : ByteArray := prog_20_method_93_code
def yJ2_checkBoundsBeginEnd_d044e : MethodName := ⟨RJ2, "checkBoundsBeginEnd", "(II[B)V"⟩
def RJ10 : String := "java/lang/System"
def TJ10 : u_T := fun k => match k with
  | _ => ("", "", "", false)
def tyJ10 : Nat → FieldType := fun k => match k with
  | _ => .int
abbrev wsJ100 : List Cond := u_ws RJ10 TJ10 0
theorem nmJ10 : ∀ a, a < 0 → ∀ b, b < 0 → a ≠ b → (TJ10 a).2.1 ≠ (TJ10 b).2.1 := by decide +kernel
theorem tyJ10_ok : ∀ k, k < 0 → parseFieldDescriptor (TJ10 k).2.2.1 = some (tyJ10 k) := by decide +kernel
def RJ3 : String := "jdk/internal/util/Preconditions"
def TJ3 : u_T := fun k => match k with
  | _ => ("", "", "", false)
def tyJ3 : Nat → FieldType := fun k => match k with
  | _ => .int
abbrev wsJ30 : List Cond := u_ws RJ3 TJ3 0
theorem nmJ3 : ∀ a, a < 0 → ∀ b, b < 0 → a ≠ b → (TJ3 a).2.1 ≠ (TJ3 b).2.1 := by decide +kernel
theorem tyJ3_ok : ∀ k, k < 0 → parseFieldDescriptor (TJ3 k).2.2.1 = some (tyJ3 k) := by decide +kernel
abbrev cJ3_checkIndex_8e157 : ByteArray := prog_22_method_11_code
def yJ3_checkIndex_8e157 : MethodName := ⟨RJ3, "checkIndex", "(IILjava/util/function/BiFunction;)I"⟩
abbrev cJ3_checkFromToIndex_8c36e : ByteArray := prog_22_method_12_code
def yJ3_checkFromToIndex_8c36e : MethodName := ⟨RJ3, "checkFromToIndex", "(IIILjava/util/function/BiFunction;)I"⟩
def RL : String := "SealedTokensLaw"
abbrev cL_law : ByteArray := code
def yL_law : MethodName := ⟨RL, "law", "([I)Z"⟩
