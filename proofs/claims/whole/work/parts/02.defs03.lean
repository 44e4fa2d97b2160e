def P_X13_wrap (G : mG) (F : Nat) (l0 : Nat) (l1 : Int32) (l2 : Int32) (M : mM) : Option (Int32 × mM) :=
  bO (rcv M l0 13) fun _ =>
  bP (P_X13_isCipherKey G F l0 l1 M) fun v2 M2 =>
  if v2 = 0 then (some ((-2 : Int32), M2))
  else (bP (P_X13_isRow G F l2 M2) fun v9 M9 =>
  if v9 = 0 then (some ((-2 : Int32), M9))
  else (bO (gfR M9 l0 13 3) fun v16 =>
  bO (aI G M9 0 v16 l2) fun v20 =>
  if v20 < (16 : Int32) then (some ((-2 : Int32), M9))
  else (bO (gfR M9 l0 13 3) fun v27 =>
  bO (aI G M9 0 v27 l2) fun v31 =>
  if (64 : Int32) < v31 then (some ((-2 : Int32), M9))
  else (bO (gfR M9 l0 13 3) fun v38 =>
  bO (aI G M9 0 v38 l2) fun v42 =>
  if (v42 - v42 / (8 : Int32) * (8 : Int32)) = 0 then (bO (gfR M9 l0 13 2) fun v54 =>
  bO (gfR M9 l0 13 3) fun v63 =>
  bO (aI G M9 0 v63 l1) fun v67 =>
  bO (rcv M9 l0 13) fun _ =>
  bO (P_X13_setKey G F l0 v54 ((8192 : Int32) * l1) v67 M9) fun M68 =>
  bO (gfR M68 l0 13 48) fun v73 =>
  bO (gfR M68 l0 13 2) fun v79 =>
  bO (gfR M68 l0 13 3) fun v88 =>
  bO (aI G M68 0 v88 l2) fun v92 =>
  bO (rcv M68 l0 13) fun _ =>
  bP (P_X13_wrapUp G F l0 v79 ((8192 : Int32) * l2) v92 M68) fun v93 M93 =>
  bO (rcv M93 l0 13) fun _ =>
  bP (P_X13_tell G F l0 v73 (0 : Int32) v93 M93) fun v96 M96 =>
  some (v96, M96))
  else (some ((-2 : Int32), M9))))))
def P_X13_unwrap (G : mG) (F : Nat) (l0 : Nat) (l1 : Int32) (l2 : Int32) (M : mM) : Option (Int32 × mM) :=
  bO (rcv M l0 13) fun _ =>
  bP (P_X13_isCipherKey G F l0 l1 M) fun v2 M2 =>
  if v2 = 0 then (some ((-2 : Int32), M2))
  else (bP (P_X13_isRow G F l2 M2) fun v9 M9 =>
  if v9 = 0 then (some ((-2 : Int32), M9))
  else (bO (gfR M9 l0 13 3) fun v16 =>
  bO (aI G M9 0 v16 l2) fun v20 =>
  if v20 < (24 : Int32) then (some ((-2 : Int32), M9))
  else (bO (gfR M9 l0 13 3) fun v27 =>
  bO (aI G M9 0 v27 l2) fun v31 =>
  if (72 : Int32) < v31 then (some ((-2 : Int32), M9))
  else (bO (gfR M9 l0 13 3) fun v38 =>
  bO (aI G M9 0 v38 l2) fun v42 =>
  if (v42 - v42 / (8 : Int32) * (8 : Int32)) = 0 then (bO (gfR M9 l0 13 2) fun v54 =>
  bO (gfR M9 l0 13 3) fun v63 =>
  bO (aI G M9 0 v63 l1) fun v67 =>
  bO (rcv M9 l0 13) fun _ =>
  bO (P_X13_setKey G F l0 v54 ((8192 : Int32) * l1) v67 M9) fun M68 =>
  bO (gfR M68 l0 13 2) fun v73 =>
  bO (gfR M68 l0 13 3) fun v82 =>
  bO (aI G M68 0 v82 l2) fun v86 =>
  bO (rcv M68 l0 13) fun _ =>
  bP (P_X13_unwrapIt G F l0 v73 ((8192 : Int32) * l2) v86 M68) fun v87 M87 =>
  if v87 = 0 then (some ((-1 : Int32), M87))
  else (bO (gfR M87 l0 13 48) fun v95 =>
  bO (gfR M87 l0 13 3) fun v101 =>
  bO (aI G M87 0 v101 l2) fun v105 =>
  bO (rcv M87 l0 13) fun _ =>
  bP (P_X13_tell G F l0 v95 (8 : Int32) (v105 - (8 : Int32)) M87) fun v109 M109 =>
  some (v109, M109)))
  else (some ((-2 : Int32), M9))))))
def P_X13_keyOf (G : mG) (F : Nat) (l0 : Int32) (M : mM) : Option (Int32 × mM) :=
  if l0 = 0 then (some ((32 : Int32), M))
  else (if l0 = (1 : Int32) then (some ((64 : Int32), M))
  else (if l0 = (2 : Int32) then (some ((16 : Int32), M))
  else (some ((32 : Int32), M))))
def P_X13_beginningOf (G : mG) (F : Nat) (l0 : Int32) (M : mM) : Option (Int32 × mM) :=
  if (2 : Int32) ≤ l0 then (some ((12 : Int32), M))
  else (some ((16 : Int32), M))
def P_X13_markOf (G : mG) (F : Nat) (l0 : Int32) (M : mM) : Option (Int32 × mM) :=
  if l0 = (1 : Int32) then (some ((32 : Int32), M))
  else (some ((16 : Int32), M))
def B_X13_codeMark_80 (G : mG) (F : Nat) (l0 : Nat) (l1 : Int32) (l2 : Nat) (l3 : Int32) (sk0 : Nat) (sk1 : Int32) (M : mM) : Option mM :=
  bP (P_X13_keyOf G F l1 M) fun v83 M83 =>
  bO (rcv M83 sk0 13) fun _ =>
  bP (P_X13_codeOf G F sk0 sk1 l2 l3 (v83 / (2 : Int32)) M83) fun v88 M88 =>
  bO (gfR M88 l0 13 35) fun v94 =>
  bO (gfR M88 l0 13 51) fun v99 =>
  bP (P_X13_markOf G F l1 M88) fun v104 M104 =>
  bO (P_X13_move G F v94 (0 : Int32) v99 (0 : Int32) v104 M104) fun M107 =>
  some M107
def P_X13_codeMark (G : mG) (F : Nat) (l0 : Nat) (l1 : Int32) (l2 : Nat) (l3 : Int32) (l4 : Nat) (l5 : Int32) (l6 : Nat) (l7 : Int32) (l8 : Int32) (l9 : Nat) (l10 : Int32) (l11 : Int32) (M : mM) : Option mM :=
  bO (pfv M l0 13 39 (.int (0 : Int32))) fun M2 =>
  bO (rcv M2 l0 13) fun _ =>
  bO (P_X13_tellMessage G F l0 l6 l7 l8 M2) fun M12 =>
  bO (rcv M12 l0 13) fun _ =>
  bO (P_X13_tellMessage G F l0 l4 l5 (16 : Int32) M12) fun M22 =>
  bO (rcv M22 l0 13) fun _ =>
  bO (P_X13_tellMessage G F l0 l9 l10 l11 M22) fun M32 =>
  bO (gfR M32 l0 13 38) fun v36 =>
  bO (gfI M32 l0 13 39) fun v40 =>
  bO (P_X13_put G F v36 v40 (8 : Int32) ((8 : Int64) * (l8.toInt64)) M32) fun M52 =>
  bO (gfI M52 l0 13 39) fun v57 =>
  bO (pfv M52 l0 13 39 (.int (v57 + (8 : Int32)))) fun M63 =>
  if l1 = 0 then (B_X13_codeMark_80 G F l0 l1 l2 l3 l0 (256 : Int32) M63)
  else (B_X13_codeMark_80 G F l0 l1 l2 l3 l0 (512 : Int32) M63)
def B_X13_gather_199 (G : mG) (F : Nat) (r103 : Nat → Int64 → Int64 → Int64 → Int64 → Int64 → Int64 → Int32 → mM → Option mM) (l0 : Nat) (l4 : Int64) (l6 : Int64) (l8 : Int64) (l10 : Int64) (l12 : Int64) (l14 : Int64) (l16 : Int32) (sk0 : Int32) (M : mM) : Option mM :=
  if sk0 = 0 then (r103 l0 l4 l6 l8 l10 ((ushL l12 (1 : Int32)) ^^^ (0 : Int64)) ((ushL l14 (1 : Int32)) ||| (shlL l12 (63 : Int32))) (l16 + 1) M)
  else (r103 l0 l4 l6 l8 l10 ((ushL l12 (1 : Int32)) ^^^ (-2233785415175766016 : Int64)) ((ushL l14 (1 : Int32)) ||| (shlL l12 (63 : Int32))) (l16 + 1) M)
def B_X13_gather_166 (G : mG) (F : Nat) (r103 : Nat → Int64 → Int64 → Int64 → Int64 → Int64 → Int64 → Int32 → mM → Option mM) (l0 : Nat) (l4 : Int64) (l6 : Int64) (l10 : Int64) (l12 : Int64) (l14 : Int64) (l16 : Int32) (l17 : Int32) (sk0 : Int64) (M : mM) : Option mM :=
  if l17 = 0 then (if (lg_cmp (l14 &&& (1 : Int64)) (1 : Int64)) = 0 then (B_X13_gather_199 G F r103 l0 l4 l6 sk0 l10 l12 l14 l16 (1 : Int32) M)
  else (B_X13_gather_199 G F r103 l0 l4 l6 sk0 l10 l12 l14 l16 (0 : Int32) M))
  else (if (lg_cmp (l14 &&& (1 : Int64)) (1 : Int64)) = 0 then (B_X13_gather_199 G F r103 l0 l4 l6 sk0 (l10 ^^^ l14) l12 l14 l16 (1 : Int32) M)
  else (B_X13_gather_199 G F r103 l0 l4 l6 sk0 (l10 ^^^ l14) l12 l14 l16 (0 : Int32) M))
def B_X13_gather_137 (G : mG) (F : Nat) (r103 : Nat → Int64 → Int64 → Int64 → Int64 → Int64 → Int64 → Int32 → mM → Option mM) (l0 : Nat) (l4 : Int64) (l6 : Int64) (l8 : Int64) (l10 : Int64) (l12 : Int64) (l14 : Int64) (l16 : Int32) (sk0 : Int64) (M : mM) : Option mM :=
  if (lg_cmp (sk0 &&& (1 : Int64)) (1 : Int64)) = 0 then (if (1 : Int32) = 0 then (B_X13_gather_166 G F r103 l0 l4 l6 l10 l12 l14 l16 (1 : Int32) l8 M)
  else (B_X13_gather_166 G F r103 l0 l4 l6 l10 l12 l14 l16 (1 : Int32) (l8 ^^^ l12) M))
  else (if (0 : Int32) = 0 then (B_X13_gather_166 G F r103 l0 l4 l6 l10 l12 l14 l16 (0 : Int32) l8 M)
  else (B_X13_gather_166 G F r103 l0 l4 l6 l10 l12 l14 l16 (0 : Int32) (l8 ^^^ l12) M))
def B_X13_gather_103 (G : mG) (F : Nat) : Nat → Nat → Int64 → Int64 → Int64 → Int64 → Int64 → Int64 → Int32 → mM → Option mM
  | 0, _, _, _, _, _, _, _, _, _ => none
  | n + 1, l0, l4, l6, l8, l10, l12, l14, l16, M =>
  if (128 : Int32) ≤ l16 then (bO (pfv M l0 13 53 (.long l8)) fun M241 =>
  bO (pfv M241 l0 13 54 (.long l10)) fun M247 =>
  some M247)
  else (if (64 : Int32) ≤ l16 then (B_X13_gather_137 G F (B_X13_gather_103 G F n) l0 l4 l6 l8 l10 l12 l14 l16 (ushL l6 ((127 : Int32) - l16)) M)
  else (B_X13_gather_137 G F (B_X13_gather_103 G F n) l0 l4 l6 l8 l10 l12 l14 l16 (ushL l4 ((63 : Int32) - l16)) M))
def B_X13_gather_15 (G : mG) (F : Nat) : Nat → Nat → Nat → Int32 → Int32 → Int64 → Int64 → Int32 → mM → Option mM
  | 0, _, _, _, _, _, _, _, _ => none
  | n + 1, l0, l1, l2, l3, l4, l6, l8, M =>
  if l3 ≤ l8 then (bO (gfL M l0 13 55) fun v89 =>
  bO (gfL M l0 13 56) fun v95 =>
  B_X13_gather_103 G F F l0 l4 l6 (0 : Int64) (0 : Int64) v89 v95 (0 : Int32) M)
  else (bO (aI G M 1 l1 (l2 + l8)) fun v26 =>
  if (8 : Int32) ≤ l8 then (B_X13_gather_15 G F n l0 l1 l2 l3 l4 (l6 ^^^ (shlL ((v26.toInt64) &&& (255 : Int64)) ((120 : Int32) - ((8 : Int32) * l8)))) (l8 + 1) M)
  else (B_X13_gather_15 G F n l0 l1 l2 l3 (l4 ^^^ (shlL ((v26.toInt64) &&& (255 : Int64)) ((56 : Int32) - ((8 : Int32) * l8)))) l6 (l8 + 1) M))
def P_X13_gather (G : mG) (F : Nat) (l0 : Nat) (l1 : Nat) (l2 : Int32) (l3 : Int32) (M : mM) : Option mM :=
  bO (gfL M l0 13 53) fun v1 =>
  bO (gfL M l0 13 54) fun v7 =>
  B_X13_gather_15 G F F l0 l1 l2 l3 v1 v7 (0 : Int32) M
def B_X13_gatherAll_3 (G : mG) (F : Nat) : Nat → Nat → Nat → Int32 → Int32 → Int32 → mM → Option mM
  | 0, _, _, _, _, _, _ => none
  | n + 1, l0, l1, l2, l3, l4, M =>
  if l3 ≤ l4 then (some M)
  else (if (16 : Int32) ≤ (l3 - l4) then (bO (rcv M l0 13) fun _ =>
  bO (P_X13_gather G F l0 l1 (l2 + l4) (16 : Int32) M) fun M33 =>
  B_X13_gatherAll_3 G F n l0 l1 l2 l3 (l4 + 16) M33)
  else (bO (rcv M l0 13) fun _ =>
  bO (P_X13_gather G F l0 l1 (l2 + l4) (l3 - l4) M) fun M33 =>
  B_X13_gatherAll_3 G F n l0 l1 l2 l3 (l4 + 16) M33))
def P_X13_gatherAll (G : mG) (F : Nat) (l0 : Nat) (l1 : Nat) (l2 : Int32) (l3 : Int32) (M : mM) : Option mM :=
  B_X13_gatherAll_3 G F F l0 l1 l2 l3 (0 : Int32) M
def P_X13_setCounter (G : mG) (F : Nat) (l0 : Nat) (l1 : Nat) (l2 : Int32) (l3 : Int32) (M : mM) : Option mM :=
  bO (gfR M l0 13 52) fun v3 =>
  bO (P_X13_move G F l1 l2 v3 (0 : Int32) (12 : Int32) M) fun M9 =>
  bO (gfR M9 l0 13 52) fun v13 =>
  bO (P_X13_put G F v13 (12 : Int32) (4 : Int32) (l3.toInt64) M9) fun M21 =>
  some M21
def B_X13_sumMark_3 (G : mG) (F : Nat) : Nat → Nat → Nat → Int32 → Nat → Int32 → Int32 → Nat → Int32 → Int32 → Int32 → mM → Option mM
  | 0, _, _, _, _, _, _, _, _, _, _, _ => none
  | n + 1, l0, l1, l2, l3, l4, l5, l6, l7, l8, l9, M =>
  if (16 : Int32) ≤ l9 then (bO (rcv M l0 13) fun _ =>
  bO (P_X13_forth G F l0 M) fun M25 =>
  bO (gfR M25 l0 13 47) fun v30 =>
  bO (rcv M25 l0 13) fun _ =>
  bO (P_X13_getCells G F l0 v30 (0 : Int32) M25) fun M34 =>
  bO (gfR M34 l0 13 47) fun v39 =>
  bP (P_X13_longAt G F v39 (0 : Int32) (8 : Int32) M34) fun v45 M45 =>
  bO (pfv M45 l0 13 55 (.long v45)) fun M48 =>
  bO (gfR M48 l0 13 47) fun v53 =>
  bP (P_X13_longAt G F v53 (8 : Int32) (8 : Int32) M48) fun v60 M60 =>
  bO (pfv M60 l0 13 56 (.long v60)) fun M63 =>
  bO (pfv M63 l0 13 53 (.long (0 : Int64))) fun M68 =>
  bO (pfv M68 l0 13 54 (.long (0 : Int64))) fun M73 =>
  bO (rcv M73 l0 13) fun _ =>
  bO (P_X13_gatherAll G F l0 l3 l4 l5 M73) fun M82 =>
  bO (rcv M82 l0 13) fun _ =>
  bO (P_X13_gatherAll G F l0 l6 l7 l8 M82) fun M92 =>
  bO (gfR M92 l0 13 47) fun v96 =>
  bO (P_X13_put G F v96 (0 : Int32) (8 : Int32) ((8 : Int64) * (l5.toInt64)) M92) fun M109 =>
  bO (gfR M109 l0 13 47) fun v113 =>
  bO (P_X13_put G F v113 (8 : Int32) (8 : Int32) ((8 : Int64) * (l8.toInt64)) M109) fun M127 =>
  bO (gfR M127 l0 13 47) fun v132 =>
  bO (rcv M127 l0 13) fun _ =>
  bO (P_X13_gather G F l0 v132 (0 : Int32) (16 : Int32) M127) fun M138 =>
  bO (rcv M138 l0 13) fun _ =>
  bO (P_X13_setCounter G F l0 l1 l2 (1 : Int32) M138) fun M145 =>
  bO (gfR M145 l0 13 52) fun v150 =>
  bO (rcv M145 l0 13) fun _ =>
  bO (P_X13_setCells G F l0 v150 (0 : Int32) M145) fun M154 =>
  bO (rcv M154 l0 13) fun _ =>
  bO (P_X13_forth G F l0 M154) fun M158 =>
  bO (gfR M158 l0 13 47) fun v163 =>
  bO (rcv M158 l0 13) fun _ =>
  bO (P_X13_getCells G F l0 v163 (0 : Int32) M158) fun M167 =>
  bO (gfR M167 l0 13 51) fun v171 =>
  bO (gfR M167 l0 13 47) fun v178 =>
  bP (P_X13_longAt G F v178 (0 : Int32) (8 : Int32) M167) fun v184 M184 =>
  bO (gfL M184 l0 13 53) fun v188 =>
  bO (P_X13_put G F v171 (0 : Int32) (8 : Int32) (v184 ^^^ v188) M184) fun M192 =>
  bO (gfR M192 l0 13 51) fun v196 =>
  bO (gfR M192 l0 13 47) fun v204 =>
  bP (P_X13_longAt G F v204 (8 : Int32) (8 : Int32) M192) fun v211 M211 =>
  bO (gfL M211 l0 13 54) fun v215 =>
  bO (P_X13_put G F v196 (8 : Int32) (8 : Int32) (v211 ^^^ v215) M211) fun M219 =>
  some M219)
  else (bO (gfR M l0 13 45) fun v11 =>
  bO (sI M 0 v11 l9 (0 : Int32)) fun M17 =>
  B_X13_sumMark_3 G F n l0 l1 l2 l3 l4 l5 l6 l7 l8 (l9 + 1) M17)
def P_X13_sumMark (G : mG) (F : Nat) (l0 : Nat) (l1 : Nat) (l2 : Int32) (l3 : Nat) (l4 : Int32) (l5 : Int32) (l6 : Nat) (l7 : Int32) (l8 : Int32) (M : mM) : Option mM :=
  B_X13_sumMark_3 G F F l0 l1 l2 l3 l4 l5 l6 l7 l8 (0 : Int32) M
def B_X13_stream_44 (G : mG) (F : Nat) (r3 : Nat → Nat → Int32 → Nat → Int32 → Int32 → Int32 → mM → Option mM) (l0 : Nat) (l1 : Nat) (l2 : Int32) (l3 : Nat) (l4 : Int32) (l5 : Int32) (l6 : Int32) (M : mM) : Option mM :=
  bO (gfR M l0 13 49) fun v45 =>
  bO (aI G M 1 l3 (l4 + l6)) fun v56 =>
  bO (gfR M l0 13 45) fun v58 =>
  bO (aI G M 0 v58 (l6 - l6 / (16 : Int32) * (16 : Int32))) fun v66 =>
  bO (sI M 1 v45 l6 (((v56 ^^^ v66).toInt8.toInt32).toInt8.toInt32)) fun M69 =>
  r3 l0 l1 l2 l3 l4 l5 (l6 + 1) M69
def B_X13_stream_3 (G : mG) (F : Nat) : Nat → Nat → Nat → Int32 → Nat → Int32 → Int32 → Int32 → mM → Option mM
  | 0, _, _, _, _, _, _, _, _ => none
  | n + 1, l0, l1, l2, l3, l4, l5, l6, M =>
  if l5 ≤ l6 then (bO (pfv M l0 13 50 (.int l5)) fun M79 =>
  some M79)
  else (if (l6 - l6 / (16 : Int32) * (16 : Int32)) = 0 then (bO (rcv M l0 13) fun _ =>
  bO (P_X13_setCounter G F l0 l1 l2 ((2 : Int32) + (l6 / (16 : Int32))) M) fun M28 =>
  bO (gfR M28 l0 13 52) fun v33 =>
  bO (rcv M28 l0 13) fun _ =>
  bO (P_X13_setCells G F l0 v33 (0 : Int32) M28) fun M37 =>
  bO (rcv M37 l0 13) fun _ =>
  bO (P_X13_forth G F l0 M37) fun M41 =>
  B_X13_stream_44 G F (B_X13_stream_3 G F n) l0 l1 l2 l3 l4 l5 l6 M41)
  else (B_X13_stream_44 G F (B_X13_stream_3 G F n) l0 l1 l2 l3 l4 l5 l6 M))
def P_X13_stream (G : mG) (F : Nat) (l0 : Nat) (l1 : Nat) (l2 : Int32) (l3 : Nat) (l4 : Int32) (l5 : Int32) (M : mM) : Option mM :=
  B_X13_stream_3 G F F l0 l1 l2 l3 l4 l5 (0 : Int32) M
def B_X13_sealIt_132 (G : mG) (F : Nat) (r86 : Nat → Int32 → Nat → Int32 → Nat → Int32 → Nat → Int32 → Int32 → Nat → Int32 → Int32 → Int32 → Int32 → mM → Option mM) (r96 : Nat → Int32 → Nat → Int32 → Nat → Int32 → Nat → Int32 → Int32 → Nat → Int32 → Int32 → Int32 → Int32 → Int32 → mM → Option mM) (l0 : Nat) (l1 : Int32) (l2 : Nat) (l3 : Int32) (l4 : Nat) (l5 : Int32) (l6 : Nat) (l7 : Int32) (l8 : Int32) (l9 : Nat) (l10 : Int32) (l11 : Int32) (l13 : Int32) (l14 : Int32) (l15 : Int32) (sk0 : Int32) (M : mM) : Option mM :=
  bO (gfR M l0 13 45) fun v135 =>
  if l14 = 0 then (bO (aI G M 1 l4 (l5 + l15)) fun v154 =>
  bO (sI M 0 v135 l15 ((sk0 ^^^ v154) &&& (255 : Int32))) fun M176 =>
  r96 l0 l1 l2 l3 l4 l5 l6 l7 l8 l9 l10 l11 l13 l14 (l15 + 1) M176)
  else (bO (gfR M l0 13 49) fun v159 =>
  bO (aI G M 1 v159 ((l14 - (16 : Int32)) + l15)) fun v170 =>
  bO (sI M 0 v135 l15 ((sk0 ^^^ v170) &&& (255 : Int32))) fun M176 =>
  r96 l0 l1 l2 l3 l4 l5 l6 l7 l8 l9 l10 l11 l13 l14 (l15 + 1) M176)
def B_X13_sealIt_96 (G : mG) (F : Nat) (r86 : Nat → Int32 → Nat → Int32 → Nat → Int32 → Nat → Int32 → Int32 → Nat → Int32 → Int32 → Int32 → Int32 → mM → Option mM) : Nat → Nat → Int32 → Nat → Int32 → Nat → Int32 → Nat → Int32 → Int32 → Nat → Int32 → Int32 → Int32 → Int32 → Int32 → mM → Option mM
  | 0, _, _, _, _, _, _, _, _, _, _, _, _, _, _, _, _ => none
  | n + 1, l0, l1, l2, l3, l4, l5, l6, l7, l8, l9, l10, l11, l13, l14, l15, M =>
  if (16 : Int32) ≤ l15 then (bO (rcv M l0 13) fun _ =>
  bO (P_X13_forth G F l0 M) fun M184 =>
  bO (gfR M184 l0 13 49) fun v189 =>
  bO (rcv M184 l0 13) fun _ =>
  bO (P_X13_getCells G F l0 v189 l14 M184) fun M194 =>
  r86 l0 l1 l2 l3 l4 l5 l6 l7 l8 l9 l10 l11 l13 (l14 + 16) M194)
  else (if l11 ≤ (l14 + l15) then (B_X13_sealIt_132 G F r86 (B_X13_sealIt_96 G F r86 n) l0 l1 l2 l3 l4 l5 l6 l7 l8 l9 l10 l11 l13 l14 l15 (l13 - l11) M)
  else (bO (aI G M 1 l9 ((l10 + l14) + l15)) fun v123 =>
  B_X13_sealIt_132 G F r86 (B_X13_sealIt_96 G F r86 n) l0 l1 l2 l3 l4 l5 l6 l7 l8 l9 l10 l11 l13 l14 l15 v123 M))
def B_X13_sealIt_86 (G : mG) (F : Nat) : Nat → Nat → Int32 → Nat → Int32 → Nat → Int32 → Nat → Int32 → Int32 → Nat → Int32 → Int32 → Int32 → Int32 → mM → Option mM
  | 0, _, _, _, _, _, _, _, _, _, _, _, _, _, _, _ => none
  | n + 1, l0, l1, l2, l3, l4, l5, l6, l7, l8, l9, l10, l11, l13, l14, M =>
  if l13 ≤ l14 then (bO (pfv M l0 13 50 (.int l13)) fun M206 =>
  bO (gfR M206 l0 13 49) fun v224 =>
  bO (rcv M206 l0 13) fun _ =>
  bO (P_X13_codeMark G F l0 l1 l2 l3 l4 l5 l6 l7 l8 v224 (0 : Int32) l13 M206) fun M230 =>
  some M230)
  else (B_X13_sealIt_96 G F (B_X13_sealIt_86 G F n) F l0 l1 l2 l3 l4 l5 l6 l7 l8 l9 l10 l11 l13 l14 (0 : Int32) M)
def P_X13_sealIt (G : mG) (F : Nat) (l0 : Nat) (l1 : Int32) (l2 : Nat) (l3 : Int32) (l4 : Nat) (l5 : Int32) (l6 : Nat) (l7 : Int32) (l8 : Int32) (l9 : Nat) (l10 : Int32) (l11 : Int32) (M : mM) : Option mM :=
  if l1 ≤ (1 : Int32) then (bP (P_X13_keyOf G F l1 M) fun v52 M52 =>
  bO (rcv M52 l0 13) fun _ =>
  bO (P_X13_setKey G F l0 l2 (l3 + (v52 / (2 : Int32))) (v52 / (2 : Int32)) M52) fun M67 =>
  B_X13_sealIt_86 G F F l0 l1 l2 l3 l4 l5 l6 l7 l8 l9 l10 l11 ((l11 + (16 : Int32)) - (l11 - l11 / (16 : Int32) * (16 : Int32))) (0 : Int32) M67)
  else (bP (P_X13_keyOf G F l1 M) fun v9 M9 =>
  bO (rcv M9 l0 13) fun _ =>
  bO (P_X13_setKey G F l0 l2 l3 v9 M9) fun M12 =>
  bO (rcv M12 l0 13) fun _ =>
  bO (P_X13_stream G F l0 l4 l5 l9 l10 l11 M12) fun M26 =>
  bO (gfR M26 l0 13 49) fun v41 =>
  bO (rcv M26 l0 13) fun _ =>
  bO (P_X13_sumMark G F l0 l4 l5 l6 l7 l8 v41 (0 : Int32) l11 M26) fun M47 =>
  some M47)
def B_X13_openIt_284 (G : mG) (F : Nat) : Nat → Nat → Int32 → Int32 → Int32 → Int32 → mM → Option (Int32 × mM)
  | 0, _, _, _, _, _, _ => none
  | n + 1, l0, l11, l15, l16, l17, M =>
  if l11 ≤ l17 then (bO (pfv M l0 13 50 (.int (l11 - l15))) fun M331 =>
  retZ l16 M331)
  else (if l16 = 0 then (bO (pfv M l0 13 50 (.int (l11 - l15))) fun M331 =>
  retZ l16 M331)
  else (bO (gfR M l0 13 49) fun v297 =>
  bO (aI G M 1 v297 l17) fun v302 =>
  if (v302 &&& (255 : Int32)) = l15 then (B_X13_openIt_284 G F n l0 l11 l15 (1 : Int32) (l17 + 1) M)
  else (B_X13_openIt_284 G F n l0 l11 l15 (0 : Int32) (l17 + 1) M)))
def B_X13_openIt_174 (G : mG) (F : Nat) (r149 : Nat → Nat → Int32 → Nat → Int32 → Int32 → Int32 → mM → Option (Int32 × mM)) : Nat → Nat → Nat → Int32 → Nat → Int32 → Int32 → Int32 → Int32 → mM → Option (Int32 × mM)
  | 0, _, _, _, _, _, _, _, _, _ => none
  | n + 1, l0, l4, l5, l9, l10, l11, l15, l16, M =>
  if (16 : Int32) ≤ l16 then (r149 l0 l4 l5 l9 l10 l11 (l15 + 16) M)
  else (bO (gfR M l0 13 49) fun v182 =>
  bO (gfR M l0 13 45) fun v191 =>
  bO (aI G M 0 v191 l16) fun v196 =>
  if l15 = 0 then (bO (aI G M 1 l4 (l5 + l16)) fun v209 =>
  bO (sI M 1 v182 (l15 + l16) (((v196 ^^^ v209).toInt8.toInt32).toInt8.toInt32)) fun M229 =>
  B_X13_openIt_174 G F r149 n l0 l4 l5 l9 l10 l11 l15 (l16 + 1) M229)
  else (bO (aI G M 1 l9 (((l10 + l15) - (16 : Int32)) + l16)) fun v226 =>
  bO (sI M 1 v182 (l15 + l16) (((v196 ^^^ v226).toInt8.toInt32).toInt8.toInt32)) fun M229 =>
  B_X13_openIt_174 G F r149 n l0 l4 l5 l9 l10 l11 l15 (l16 + 1) M229))
def B_X13_openIt_149 (G : mG) (F : Nat) : Nat → Nat → Nat → Int32 → Nat → Int32 → Int32 → Int32 → mM → Option (Int32 × mM)
  | 0, _, _, _, _, _, _, _, _ => none
  | n + 1, l0, l4, l5, l9, l10, l11, l15, M =>
  if l11 ≤ l15 then (bO (gfR M l0 13 49) fun v243 =>
  bO (aI G M 1 v243 (l11 - (1 : Int32))) fun v250 =>
  if (v250 &&& (255 : Int32)) < (1 : Int32) then (B_X13_openIt_284 G F F l0 l11 (v250 &&& (255 : Int32)) (0 : Int32) (l11 - (v250 &&& (255 : Int32))) M)
  else (if (16 : Int32) < (v250 &&& (255 : Int32)) then (B_X13_openIt_284 G F F l0 l11 (v250 &&& (255 : Int32)) (0 : Int32) (l11 - (v250 &&& (255 : Int32))) M)
  else (B_X13_openIt_284 G F F l0 l11 (v250 &&& (255 : Int32)) (1 : Int32) (l11 - (v250 &&& (255 : Int32))) M)))
  else (bO (rcv M l0 13) fun _ =>
  bO (P_X13_setCells G F l0 l9 (l10 + l15) M) fun M164 =>
  bO (rcv M164 l0 13) fun _ =>
  bO (P_X13_back G F l0 M164) fun M168 =>
  B_X13_openIt_174 G F (B_X13_openIt_149 G F n) F l0 l4 l5 l9 l10 l11 l15 (0 : Int32) M168)
def P_X13_openIt (G : mG) (F : Nat) (l0 : Nat) (l1 : Int32) (l2 : Nat) (l3 : Int32) (l4 : Nat) (l5 : Int32) (l6 : Nat) (l7 : Int32) (l8 : Int32) (l9 : Nat) (l10 : Int32) (l11 : Int32) (l12 : Nat) (l13 : Int32) (M : mM) : Option (Int32 × mM) :=
  if l1 ≤ (1 : Int32) then (bO (rcv M l0 13) fun _ =>
  bO (P_X13_codeMark G F l0 l1 l2 l3 l4 l5 l6 l7 l8 l9 l10 l11 M) fun M90 =>
  bO (gfR M90 l0 13 51) fun v94 =>
  bP (P_X13_markOf G F l1 M90) fun v103 M103 =>
  bP (P_X13_same G F v94 (0 : Int32) l12 l13 v103 M103) fun v106 M106 =>
  if v106 = 0 then (retZ (0 : Int32) M106)
  else (if l11 = 0 then (retZ (0 : Int32) M106)
  else (if (l11 - l11 / (16 : Int32) * (16 : Int32)) = 0 then (bP (P_X13_keyOf G F l1 M106) fun v128 M128 =>
  bO (rcv M128 l0 13) fun _ =>
  bO (P_X13_setKey G F l0 l2 (l3 + (v128 / (2 : Int32))) (v128 / (2 : Int32)) M128) fun M143 =>
  B_X13_openIt_149 G F F l0 l4 l5 l9 l10 l11 (0 : Int32) M143)
  else (retZ (0 : Int32) M106))))
  else (bP (P_X13_keyOf G F l1 M) fun v9 M9 =>
  bO (rcv M9 l0 13) fun _ =>
  bO (P_X13_setKey G F l0 l2 l3 v9 M9) fun M12 =>
  bO (rcv M12 l0 13) fun _ =>
  bO (P_X13_sumMark G F l0 l4 l5 l6 l7 l8 l9 l10 l11 M12) fun M32 =>
  bO (gfR M32 l0 13 51) fun v36 =>
  bP (P_X13_same G F v36 (0 : Int32) l12 l13 (16 : Int32) M32) fun v46 M46 =>
  if v46 = 0 then (retZ (0 : Int32) M46)
  else (bO (rcv M46 l0 13) fun _ =>
  bO (P_X13_stream G F l0 l4 l5 l9 l10 l11 M46) fun M65 =>
  retZ (1 : Int32) M65))
def P_X13_isContent (G : mG) (F : Nat) (l0 : Nat) (l1 : Int32) (l2 : Int32) (l3 : Int32) (l4 : Int32) (l5 : Int32) (M : mM) : Option (Int32 × mM) :=
  if l1 < 0 then (retZ (0 : Int32) M)
  else (if (4 : Int32) ≤ l1 then (retZ (0 : Int32) M)
  else (bP (P_X13_isRow G F l2 M) fun v10 M10 =>
  if v10 = 0 then (retZ (0 : Int32) M10)
  else (bP (P_X13_isRow G F l3 M10) fun v17 M17 =>
  if v17 = 0 then (retZ (0 : Int32) M17)
  else (bP (P_X13_isRow G F l4 M17) fun v25 M25 =>
  if v25 = 0 then (retZ (0 : Int32) M25)
  else (bP (P_X13_isRow G F l5 M25) fun v33 M33 =>
  if v33 = 0 then (retZ (0 : Int32) M33)
  else (bO (gfR M33 l0 13 3) fun v40 =>
  bO (aI G M33 0 v40 l2) fun v44 =>
  bP (P_X13_keyOf G F l1 M33) fun v46 M46 =>
  if v44 = v46 then (bO (gfR M46 l0 13 3) fun v53 =>
  bO (aI G M46 0 v53 l3) fun v57 =>
  bP (P_X13_beginningOf G F l1 M46) fun v59 M59 =>
  if v57 = v59 then (retZ (1 : Int32) M59)
  else (retZ (0 : Int32) M59))
  else (retZ (0 : Int32) M46)))))))
def B_X13_seal_47 (G : mG) (F : Nat) (l0 : Nat) (l1 : Int32) (l2 : Int32) (l3 : Int32) (l4 : Int32) (l5 : Int32) (l6 : Int32) (sk0 : Int32) (M : mM) : Option (Int32 × mM) :=
  bP (P_X13_markOf G F l1 M) fun v48 M48 =>
  if (sk0 + v48) ≤ (8192 : Int32) then (bO (gfR M48 l0 13 2) fun v64 =>
  bO (gfR M48 l0 13 2) fun v73 =>
  bO (gfR M48 l0 13 2) fun v82 =>
  bO (gfR M48 l0 13 3) fun v92 =>
  bO (aI G M48 0 v92 l4) fun v97 =>
  bO (gfR M48 l0 13 2) fun v99 =>
  bO (rcv M48 l0 13) fun _ =>
  bO (P_X13_sealIt G F l0 l1 v64 ((8192 : Int32) * l2) v73 ((8192 : Int32) * l3) v82 ((8192 : Int32) * l4) v97 v99 ((8192 : Int32) * l5) l6 M48) fun M110 =>
  bO (gfR M110 l0 13 51) fun v114 =>
  bO (gfR M110 l0 13 49) fun v119 =>
  bO (gfI M110 l0 13 50) fun v123 =>
  bP (P_X13_markOf G F l1 M110) fun v127 M127 =>
  bO (P_X13_move G F v114 (0 : Int32) v119 v123 v127 M127) fun M130 =>
  bO (gfR M130 l0 13 49) fun v135 =>
  bO (gfI M130 l0 13 50) fun v140 =>
  bP (P_X13_markOf G F l1 M130) fun v144 M144 =>
  bO (rcv M144 l0 13) fun _ =>
  bP (P_X13_tell G F l0 v135 (0 : Int32) (v140 + v144) M144) fun v148 M148 =>
  some (v148, M148))
  else (some ((-3 : Int32), M48))
def P_X13_seal (G : mG) (F : Nat) (l0 : Nat) (l1 : Int32) (l2 : Int32) (l3 : Int32) (l4 : Int32) (l5 : Int32) (M : mM) : Option (Int32 × mM) :=
  bO (rcv M l0 13) fun _ =>
  bP (P_X13_isContent G F l0 l1 l2 l3 l4 l5 M) fun v8 M8 =>
  if v8 = 0 then (some ((-2 : Int32), M8))
  else (bO (gfR M8 l0 13 3) fun v18 =>
  bO (aI G M8 0 v18 l5) fun v23 =>
  if (2 : Int32) ≤ l1 then (B_X13_seal_47 G F l0 l1 l2 l3 l4 l5 v23 v23 M8)
  else (B_X13_seal_47 G F l0 l1 l2 l3 l4 l5 v23 ((v23 + (16 : Int32)) - (v23 - v23 / (16 : Int32) * (16 : Int32))) M8))
def B_X13_open_109 (G : mG) (F : Nat) (l0 : Nat) (sk0 : Int32) (M : mM) : Option (Int32 × mM) :=
  if sk0 = 0 then (some ((-1 : Int32), M))
  else (bO (gfR M l0 13 49) fun v118 =>
  bO (gfI M l0 13 50) fun v123 =>
  bO (rcv M l0 13) fun _ =>
  bP (P_X13_tell G F l0 v118 (0 : Int32) v123 M) fun v126 M126 =>
  some (v126, M126))
def P_X13_open (G : mG) (F : Nat) (l0 : Nat) (l1 : Int32) (l2 : Int32) (l3 : Int32) (l4 : Int32) (l5 : Int32) (M : mM) : Option (Int32 × mM) :=
  bO (rcv M l0 13) fun _ =>
  bP (P_X13_isContent G F l0 l1 l2 l3 l4 l5 M) fun v8 M8 =>
  if v8 = 0 then (some ((-2 : Int32), M8))
  else (bO (gfR M8 l0 13 3) fun v18 =>
  bO (aI G M8 0 v18 l5) fun v23 =>
  bP (P_X13_markOf G F l1 M8) fun v25 M25 =>
  if (v23 - v25) < 0 then (B_X13_open_109 G F l0 (0 : Int32) M25)
  else (bO (gfR M25 l0 13 2) fun v39 =>
  bO (gfR M25 l0 13 2) fun v48 =>
  bO (gfR M25 l0 13 2) fun v57 =>
  bO (gfR M25 l0 13 3) fun v67 =>
  bO (aI G M25 0 v67 l4) fun v72 =>
  bO (gfR M25 l0 13 2) fun v74 =>
  bO (gfR M25 l0 13 2) fun v86 =>
  bO (rcv M25 l0 13) fun _ =>
  bP (P_X13_openIt G F l0 l1 v39 ((8192 : Int32) * l2) v48 ((8192 : Int32) * l3) v57 ((8192 : Int32) * l4) v72 v74 ((8192 : Int32) * l5) (v23 - v25) v86 (((8192 : Int32) * l5) + (v23 - v25)) M25) fun v98 M98 =>
  if v98 = 0 then (B_X13_open_109 G F l0 (0 : Int32) M98)
  else (B_X13_open_109 G F l0 (1 : Int32) M98)))
def P_X13_raise (G : mG) (F : Nat) (l0 : Nat) (l1 : Nat) (l2 : Int32) (l3 : Int32) (l4 : Nat) (l5 : Int32) (l6 : Int32) (l7 : Nat) (l8 : Int32) (l9 : Int32) (M : mM) : Option mM :=
  bO (gfR M l0 13 57) fun v1 =>
  bO (rcv M v1 12) fun _ =>
  bO (P_X12_set G F v1 l7 l8 l9 M) fun M10 =>
  bO (gfR M10 l0 13 57) fun v14 =>
  bO (gfR M10 l0 13 60) fun v21 =>
  bO (rcv M10 v14 12) fun _ =>
  bO (P_X12_reduce G F v14 l1 l2 l3 v21 M10) fun M24 =>
  bO (gfR M24 l0 13 57) fun v28 =>
  bO (gfR M24 l0 13 60) fun v32 =>
  bO (gfR M24 l0 13 60) fun v36 =>
  bO (rcv M24 v28 12) fun _ =>
  bO (P_X12_into G F v28 v32 v36 M24) fun M39 =>
  bO (gfR M39 l0 13 57) fun v43 =>
  bO (gfR M39 l0 13 60) fun v47 =>
  bO (gfR M39 l0 13 61) fun v57 =>
  bO (rcv M39 v43 12) fun _ =>
  bO (P_X12_power G F v43 v47 l4 l5 l6 v57 M39) fun M60 =>
  bO (gfR M60 l0 13 57) fun v64 =>
  bO (gfR M60 l0 13 61) fun v68 =>
  bO (gfR M60 l0 13 61) fun v72 =>
  bO (rcv M60 v64 12) fun _ =>
  bO (P_X12_outOf G F v64 v68 v72 M60) fun M75 =>
  bO (gfR M75 l0 13 57) fun v79 =>
  bO (gfR M75 l0 13 61) fun v83 =>
  bO (gfR M75 l0 13 62) fun v87 =>
  bO (rcv M75 v79 12) fun _ =>
  bO (P_X12_store G F v79 v83 v87 (0 : Int32) l9 M75) fun M93 =>
  some M93
def B_X13_power_132 (G : mG) (F : Nat) (l0 : Nat) (l1 : Int32) (l2 : Int32) (l4 : Int32) (l5 : Int32) (M : mM) : Option (Int32 × mM) :=
  bO (gfR M l0 13 2) fun v134 =>
  bO (gfR M l0 13 3) fun v143 =>
  bO (aI G M 0 v143 l1) fun v147 =>
  bO (gfR M l0 13 2) fun v149 =>
  bO (gfR M l0 13 3) fun v158 =>
  bO (aI G M 0 v158 l2) fun v162 =>
  bO (gfR M l0 13 2) fun v164 =>
  bO (rcv M l0 13) fun _ =>
  bO (P_X13_raise G F l0 v134 ((8192 : Int32) * l1) v147 v149 ((8192 : Int32) * l2) v162 v164 l4 l5 M) fun M171 =>
  bO (gfR M171 l0 13 62) fun v176 =>
  bO (rcv M171 l0 13) fun _ =>
  bP (P_X13_tell G F l0 v176 (0 : Int32) l5 M171) fun v182 M182 =>
  some (v182, M182)
def P_X13_power (G : mG) (F : Nat) (l0 : Nat) (l1 : Int32) (l2 : Int32) (l3 : Int32) (M : mM) : Option (Int32 × mM) :=
  bP (P_X13_isRow G F l1 M) fun v1 M1 =>
  if v1 = 0 then (some ((-2 : Int32), M1))
  else (bP (P_X13_isRow G F l2 M1) fun v8 M8 =>
  if v8 = 0 then (some ((-2 : Int32), M8))
  else (bP (P_X13_isRow G F l3 M8) fun v15 M15 =>
  if v15 = 0 then (some ((-2 : Int32), M15))
  else (bO (gfR M15 l0 13 3) fun v22 =>
  bO (aI G M15 0 v22 l1) fun v26 =>
  if (128 : Int32) < v26 then (some ((-2 : Int32), M15))
  else (bO (gfR M15 l0 13 3) fun v34 =>
  bO (aI G M15 0 v34 l2) fun v38 =>
  if (128 : Int32) < v38 then (some ((-2 : Int32), M15))
  else (bO (gfR M15 l0 13 3) fun v46 =>
  bO (aI G M15 0 v46 l3) fun v50 =>
  if v50 < (1 : Int32) then (some ((-2 : Int32), M15))
  else (bO (gfR M15 l0 13 3) fun v56 =>
  bO (aI G M15 0 v56 l3) fun v60 =>
  if v60 ≤ (128 : Int32) then (bO (gfR M15 l0 13 3) fun v78 =>
  bO (aI G M15 0 v78 l3) fun v82 =>
  bO (gfR M15 l0 13 2) fun v86 =>
  bO (aI G M15 1 v86 ((8192 : Int32) * l3)) fun v91 =>
  if v91 = 0 then (some ((-2 : Int32), M15))
  else (bO (gfR M15 l0 13 2) fun v96 =>
  bO (aI G M15 1 v96 ((((8192 : Int32) * l3) + v82) - (1 : Int32))) fun v106 =>
  if (v106 - v106 / (2 : Int32) * (2 : Int32)) = 0 then (some ((-2 : Int32), M15))
  else (if v82 = (1 : Int32) then (bO (gfR M15 l0 13 2) fun v119 =>
  bO (aI G M15 1 v119 ((8192 : Int32) * l3)) fun v124 =>
  if v124 = (1 : Int32) then (some ((-2 : Int32), M15))
  else (B_X13_power_132 G F l0 l1 l2 ((8192 : Int32) * l3) v82 M15))
  else (B_X13_power_132 G F l0 l1 l2 ((8192 : Int32) * l3) v82 M15))))
  else (some ((-2 : Int32), M15))))))))
def P_X13_setLessTwo (G : mG) (F : Nat) (l0 : Nat) (l1 : Nat) (M : mM) : Option mM :=
  bO (gfR M l0 13 67) fun v3 =>
  bO (P_X13_move G F l1 (0 : Int32) v3 (0 : Int32) (32 : Int32) M) fun M9 =>
  bO (gfR M9 l0 13 67) fun v13 =>
  bO (gfR M9 l0 13 67) fun v19 =>
  bO (aI G M9 1 v19 (31 : Int32)) fun v24 =>
  bO (sI M9 1 v13 (31 : Int32) (((v24 - (2 : Int32)).toInt8.toInt32).toInt8.toInt32)) fun M28 =>
  some M28
def B_X13_setPoint_166 (G : mG) (F : Nat) : Nat → Nat → Int32 → mM → Option (Int32 × mM)
  | 0, _, _, _ => none
  | n + 1, l0, l3, M =>
  if (3 : Int32) ≤ l3 then (bO (gfR M l0 13 58) fun v197 =>
  bO (gfR M l0 13 69) fun v201 =>
  bO (gfR M l0 13 69) fun v205 =>
  bO (gfR M l0 13 75) fun v209 =>
  bO (rcv M v197 12) fun _ =>
  bO (P_X12_product G F v197 v201 v205 v209 M) fun M212 =>
  bO (gfR M212 l0 13 58) fun v216 =>
  bO (gfR M212 l0 13 74) fun v220 =>
  bO (gfR M212 l0 13 75) fun v224 =>
  bO (rcv M212 v216 12) fun _ =>
  bP (P_X12_order G F v216 v220 v224 M212) fun v227 M227 =>
  if v227 = 0 then (retZ (1 : Int32) M227)
  else (retZ (0 : Int32) M227))
  else (bO (gfR M l0 13 58) fun v172 =>
  bO (gfR M l0 13 74) fun v176 =>
  bO (gfR M l0 13 68) fun v180 =>
  bO (gfR M l0 13 74) fun v184 =>
  bO (rcv M v172 12) fun _ =>
  bO (P_X12_subtract G F v172 v176 v180 v184 M) fun M187 =>
  B_X13_setPoint_166 G F n l0 (l3 + 1) M187)
def P_X13_setPoint (G : mG) (F : Nat) (l0 : Nat) (l1 : Nat) (l2 : Int32) (M : mM) : Option (Int32 × mM) :=
  bO (gfR M l0 13 58) fun v1 =>
  bO (gfR M l0 13 68) fun v9 =>
  bO (rcv M v1 12) fun _ =>
  bO (P_X12_load G F v1 l1 l2 (32 : Int32) v9 M) fun M12 =>
  bO (gfR M12 l0 13 58) fun v16 =>
  bO (gfR M12 l0 13 69) fun v27 =>
  bO (rcv M12 v16 12) fun _ =>
  bO (P_X12_load G F v16 l1 (l2 + (32 : Int32)) (32 : Int32) v27 M12) fun M30 =>
  bO (gfR M30 l0 13 58) fun v34 =>
  bO (gfR M30 l0 13 68) fun v38 =>
  bO (gfR M30 l0 13 58) fun v42 =>
  bO (gfR M30 v42 12 0) fun v45 =>
  bO (rcv M30 v34 12) fun _ =>
  bP (P_X12_order G F v34 v38 v45 M30) fun v48 M48 =>
  if 0 ≤ v48 then (retZ (0 : Int32) M48)
  else (bO (gfR M48 l0 13 58) fun v55 =>
  bO (gfR M48 l0 13 69) fun v59 =>
  bO (gfR M48 l0 13 58) fun v63 =>
  bO (gfR M48 v63 12 0) fun v66 =>
  bO (rcv M48 v55 12) fun _ =>
  bP (P_X12_order G F v55 v59 v66 M48) fun v69 M69 =>
  if v69 < 0 then (bO (gfR M69 l0 13 58) fun v78 =>
  bO (gfR M69 l0 13 68) fun v82 =>
  bO (gfR M69 l0 13 68) fun v86 =>
  bO (rcv M69 v78 12) fun _ =>
  bO (P_X12_into G F v78 v82 v86 M69) fun M89 =>
  bO (gfR M89 l0 13 58) fun v93 =>
  bO (gfR M89 l0 13 69) fun v97 =>
  bO (gfR M89 l0 13 69) fun v101 =>
  bO (rcv M89 v93 12) fun _ =>
  bO (P_X12_into G F v93 v97 v101 M89) fun M104 =>
  bO (gfR M104 l0 13 58) fun v108 =>
  bO (gfR M104 l0 13 68) fun v112 =>
  bO (gfR M104 l0 13 68) fun v116 =>
  bO (gfR M104 l0 13 74) fun v120 =>
  bO (rcv M104 v108 12) fun _ =>
  bO (P_X12_product G F v108 v112 v116 v120 M104) fun M123 =>
  bO (gfR M123 l0 13 58) fun v127 =>
  bO (gfR M123 l0 13 74) fun v131 =>
  bO (gfR M123 l0 13 68) fun v135 =>
  bO (gfR M123 l0 13 74) fun v139 =>
  bO (rcv M123 v127 12) fun _ =>
  bO (P_X12_product G F v127 v131 v135 v139 M123) fun M142 =>
  bO (gfR M142 l0 13 58) fun v146 =>
  bO (gfR M142 l0 13 74) fun v150 =>
  bO (gfR M142 l0 13 66) fun v154 =>
  bO (gfR M142 l0 13 74) fun v158 =>
  bO (rcv M142 v146 12) fun _ =>
  bO (P_X12_add G F v146 v150 v154 v158 M142) fun M161 =>
  B_X13_setPoint_166 G F F l0 (0 : Int32) M161)
  else (retZ (0 : Int32) M69))
def P_X13_twicePoint (G : mG) (F : Nat) (l0 : Nat) (M : mM) : Option mM :=
  bO (gfI M l0 13 73) fun v1 =>
  if v1 = 0 then (bO (gfR M l0 13 58) fun v9 =>
  bO (gfR M l0 13 72) fun v13 =>
  bO (gfR M l0 13 72) fun v17 =>
  bO (gfR M l0 13 77) fun v21 =>
  bO (rcv M v9 12) fun _ =>
  bO (P_X12_product G F v9 v13 v17 v21 M) fun M24 =>
  bO (gfR M24 l0 13 58) fun v28 =>
  bO (gfR M24 l0 13 70) fun v32 =>
  bO (gfR M24 l0 13 77) fun v36 =>
  bO (gfR M24 l0 13 78) fun v40 =>
  bO (rcv M24 v28 12) fun _ =>
  bO (P_X12_subtract G F v28 v32 v36 v40 M24) fun M43 =>
  bO (gfR M43 l0 13 58) fun v47 =>
  bO (gfR M43 l0 13 70) fun v51 =>
  bO (gfR M43 l0 13 77) fun v55 =>
  bO (gfR M43 l0 13 77) fun v59 =>
  bO (rcv M43 v47 12) fun _ =>
  bO (P_X12_add G F v47 v51 v55 v59 M43) fun M62 =>
  bO (gfR M62 l0 13 58) fun v66 =>
  bO (gfR M62 l0 13 77) fun v70 =>
  bO (gfR M62 l0 13 78) fun v74 =>
  bO (gfR M62 l0 13 77) fun v78 =>
  bO (rcv M62 v66 12) fun _ =>
  bO (P_X12_product G F v66 v70 v74 v78 M62) fun M81 =>
  bO (gfR M81 l0 13 58) fun v85 =>
  bO (gfR M81 l0 13 77) fun v89 =>
  bO (gfR M81 l0 13 77) fun v93 =>
  bO (gfR M81 l0 13 76) fun v97 =>
  bO (rcv M81 v85 12) fun _ =>
  bO (P_X12_add G F v85 v89 v93 v97 M81) fun M100 =>
  bO (gfR M100 l0 13 58) fun v104 =>
  bO (gfR M100 l0 13 76) fun v108 =>
  bO (gfR M100 l0 13 77) fun v112 =>
  bO (gfR M100 l0 13 76) fun v116 =>
  bO (rcv M100 v104 12) fun _ =>
  bO (P_X12_add G F v104 v108 v112 v116 M100) fun M119 =>
  bO (gfR M119 l0 13 58) fun v123 =>
  bO (gfR M119 l0 13 71) fun v127 =>
  bO (gfR M119 l0 13 72) fun v131 =>
  bO (gfR M119 l0 13 72) fun v135 =>
  bO (rcv M119 v123 12) fun _ =>
  bO (P_X12_product G F v123 v127 v131 v135 M119) fun M138 =>
  bO (gfR M138 l0 13 58) fun v142 =>
  bO (gfR M138 l0 13 72) fun v146 =>
  bO (gfR M138 l0 13 72) fun v150 =>
  bO (gfR M138 l0 13 72) fun v154 =>
  bO (rcv M138 v142 12) fun _ =>
  bO (P_X12_add G F v142 v146 v150 v154 M138) fun M157 =>
  bO (gfR M157 l0 13 58) fun v161 =>
  bO (gfR M157 l0 13 71) fun v165 =>
  bO (gfR M157 l0 13 71) fun v169 =>
  bO (gfR M157 l0 13 74) fun v173 =>
  bO (rcv M157 v161 12) fun _ =>
  bO (P_X12_product G F v161 v165 v169 v173 M157) fun M176 =>
  bO (gfR M176 l0 13 58) fun v180 =>
  bO (gfR M176 l0 13 70) fun v184 =>
  bO (gfR M176 l0 13 74) fun v188 =>
  bO (gfR M176 l0 13 75) fun v192 =>
  bO (rcv M176 v180 12) fun _ =>
  bO (P_X12_product G F v180 v184 v188 v192 M176) fun M195 =>
  bO (gfR M195 l0 13 58) fun v199 =>
  bO (gfR M195 l0 13 75) fun v203 =>
  bO (gfR M195 l0 13 75) fun v207 =>
  bO (gfR M195 l0 13 75) fun v211 =>
  bO (rcv M195 v199 12) fun _ =>
  bO (P_X12_add G F v199 v203 v207 v211 M195) fun M214 =>
  bO (gfR M214 l0 13 58) fun v218 =>
  bO (gfR M214 l0 13 75) fun v222 =>
  bO (gfR M214 l0 13 75) fun v226 =>
  bO (gfR M214 l0 13 75) fun v230 =>
  bO (rcv M214 v218 12) fun _ =>
  bO (P_X12_add G F v218 v222 v226 v230 M214) fun M233 =>
  bO (gfR M233 l0 13 58) fun v237 =>
  bO (gfR M233 l0 13 76) fun v241 =>
  bO (gfR M233 l0 13 76) fun v245 =>
  bO (gfR M233 l0 13 70) fun v249 =>
  bO (rcv M233 v237 12) fun _ =>
  bO (P_X12_product G F v237 v241 v245 v249 M233) fun M252 =>
  bO (gfR M252 l0 13 58) fun v256 =>
  bO (gfR M252 l0 13 70) fun v260 =>
  bO (gfR M252 l0 13 75) fun v264 =>
  bO (gfR M252 l0 13 70) fun v268 =>
  bO (rcv M252 v256 12) fun _ =>
  bO (P_X12_subtract G F v256 v260 v264 v268 M252) fun M271 =>
  bO (gfR M271 l0 13 58) fun v275 =>
  bO (gfR M271 l0 13 70) fun v279 =>
  bO (gfR M271 l0 13 75) fun v283 =>
  bO (gfR M271 l0 13 70) fun v287 =>
  bO (rcv M271 v275 12) fun _ =>
  bO (P_X12_subtract G F v275 v279 v283 v287 M271) fun M290 =>
  bO (gfR M290 l0 13 58) fun v294 =>
  bO (gfR M290 l0 13 74) fun v298 =>
  bO (gfR M290 l0 13 74) fun v302 =>
  bO (gfR M290 l0 13 74) fun v306 =>
  bO (rcv M290 v294 12) fun _ =>
  bO (P_X12_product G F v294 v298 v302 v306 M290) fun M309 =>
  bO (gfR M309 l0 13 58) fun v313 =>
  bO (gfR M309 l0 13 74) fun v317 =>
  bO (gfR M309 l0 13 74) fun v321 =>
  bO (gfR M309 l0 13 74) fun v325 =>
  bO (rcv M309 v313 12) fun _ =>
  bO (P_X12_add G F v313 v317 v321 v325 M309) fun M328 =>
  bO (gfR M328 l0 13 58) fun v332 =>
  bO (gfR M328 l0 13 74) fun v336 =>
  bO (gfR M328 l0 13 74) fun v340 =>
  bO (gfR M328 l0 13 74) fun v344 =>
  bO (rcv M328 v332 12) fun _ =>
  bO (P_X12_add G F v332 v336 v340 v344 M328) fun M347 =>
  bO (gfR M347 l0 13 58) fun v351 =>
  bO (gfR M347 l0 13 74) fun v355 =>
  bO (gfR M347 l0 13 74) fun v359 =>
  bO (gfR M347 l0 13 74) fun v363 =>
  bO (rcv M347 v351 12) fun _ =>
  bO (P_X12_add G F v351 v355 v359 v363 M347) fun M366 =>
  bO (gfR M366 l0 13 58) fun v370 =>
  bO (gfR M366 l0 13 75) fun v374 =>
  bO (gfR M366 l0 13 70) fun v378 =>
  bO (gfR M366 l0 13 75) fun v382 =>
  bO (rcv M366 v370 12) fun _ =>
  bO (P_X12_subtract G F v370 v374 v378 v382 M366) fun M385 =>
  bO (gfR M385 l0 13 58) fun v389 =>
  bO (gfR M385 l0 13 76) fun v393 =>
  bO (gfR M385 l0 13 75) fun v397 =>
  bO (gfR M385 l0 13 71) fun v401 =>
  bO (rcv M385 v389 12) fun _ =>
  bO (P_X12_product G F v389 v393 v397 v401 M385) fun M404 =>
  bO (gfR M404 l0 13 58) fun v408 =>
  bO (gfR M404 l0 13 71) fun v412 =>
  bO (gfR M404 l0 13 74) fun v416 =>
  bO (gfR M404 l0 13 71) fun v420 =>
  bO (rcv M404 v408 12) fun _ =>
  bO (P_X12_subtract G F v408 v412 v416 v420 M404) fun M423 =>
  bO (gfR M423 l0 13 58) fun v428 =>
  bO (gfR M423 l0 13 72) fun v432 =>
  bO (rcv M423 v428 12) fun _ =>
  bP (P_X12_isZero G F v428 v432 M423) fun v435 M435 =>
  bO (pfZ M435 l0 13 73 v435) fun M438 =>
  some M438)
  else (some M)
def B_X13_addPoint_9 (G : mG) (F : Nat) : Nat → Nat → Int32 → mM → Option mM
  | 0, _, _, _ => none
  | n + 1, l0, l1, M =>
  if (8 : Int32) ≤ l1 then (bO (pfZ M l0 13 73 (0 : Int32)) fun M62 =>
  some M62)
  else (bO (gfR M l0 13 70) fun v16 =>
  bO (gfR M l0 13 68) fun v21 =>
  bO (aI G M 0 v21 l1) fun v25 =>
  bO (sI M 0 v16 l1 v25) fun M26 =>
  bO (gfR M26 l0 13 71) fun v28 =>
  bO (gfR M26 l0 13 69) fun v33 =>
  bO (aI G M26 0 v33 l1) fun v37 =>
  bO (sI M26 0 v28 l1 v37) fun M38 =>
  bO (gfR M38 l0 13 72) fun v40 =>
  bO (gfR M38 l0 13 58) fun v45 =>
  bO (gfR M38 v45 12 3) fun v48 =>
  bO (aI G M38 0 v48 l1) fun v52 =>
  bO (sI M38 0 v40 l1 v52) fun M53 =>
  B_X13_addPoint_9 G F n l0 (l1 + 1) M53)
def P_X13_addPoint (G : mG) (F : Nat) (l0 : Nat) (M : mM) : Option mM :=
  bO (gfI M l0 13 73) fun v1 =>
  if v1 = 0 then (bO (gfR M l0 13 58) fun v67 =>
  bO (gfR M l0 13 72) fun v71 =>
  bO (gfR M l0 13 72) fun v75 =>
  bO (gfR M l0 13 74) fun v79 =>
  bO (rcv M v67 12) fun _ =>
  bO (P_X12_product G F v67 v71 v75 v79 M) fun M82 =>
  bO (gfR M82 l0 13 58) fun v86 =>
  bO (gfR M82 l0 13 68) fun v90 =>
  bO (gfR M82 l0 13 74) fun v94 =>
  bO (gfR M82 l0 13 75) fun v98 =>
  bO (rcv M82 v86 12) fun _ =>
  bO (P_X12_product G F v86 v90 v94 v98 M82) fun M101 =>
  bO (gfR M101 l0 13 58) fun v105 =>
  bO (gfR M101 l0 13 74) fun v109 =>
  bO (gfR M101 l0 13 72) fun v113 =>
  bO (gfR M101 l0 13 74) fun v117 =>
  bO (rcv M101 v105 12) fun _ =>
  bO (P_X12_product G F v105 v109 v113 v117 M101) fun M120 =>
  bO (gfR M120 l0 13 58) fun v124 =>
  bO (gfR M120 l0 13 69) fun v128 =>
  bO (gfR M120 l0 13 74) fun v132 =>
  bO (gfR M120 l0 13 76) fun v136 =>
  bO (rcv M120 v124 12) fun _ =>
  bO (P_X12_product G F v124 v128 v132 v136 M120) fun M139 =>
  bO (gfR M139 l0 13 58) fun v143 =>
  bO (gfR M139 l0 13 75) fun v147 =>
  bO (gfR M139 l0 13 70) fun v151 =>
  bO (gfR M139 l0 13 75) fun v155 =>
  bO (rcv M139 v143 12) fun _ =>
  bO (P_X12_subtract G F v143 v147 v151 v155 M139) fun M158 =>
  bO (gfR M158 l0 13 58) fun v162 =>
  bO (gfR M158 l0 13 76) fun v166 =>
  bO (gfR M158 l0 13 71) fun v170 =>
  bO (gfR M158 l0 13 76) fun v174 =>
  bO (rcv M158 v162 12) fun _ =>
  bO (P_X12_subtract G F v162 v166 v170 v174 M158) fun M177 =>
  bO (gfR M177 l0 13 58) fun v181 =>
  bO (gfR M177 l0 13 75) fun v185 =>
  bO (rcv M177 v181 12) fun _ =>
  bP (P_X12_isZero G F v181 v185 M177) fun v188 M188 =>
  if v188 = 0 then (bO (gfR M188 l0 13 58) fun v222 =>
  bO (gfR M188 l0 13 72) fun v226 =>
  bO (gfR M188 l0 13 75) fun v230 =>
  bO (gfR M188 l0 13 72) fun v234 =>
  bO (rcv M188 v222 12) fun _ =>
  bO (P_X12_product G F v222 v226 v230 v234 M188) fun M237 =>
  bO (gfR M237 l0 13 58) fun v241 =>
  bO (gfR M237 l0 13 75) fun v245 =>
  bO (gfR M237 l0 13 75) fun v249 =>
  bO (gfR M237 l0 13 77) fun v253 =>
  bO (rcv M237 v241 12) fun _ =>
  bO (P_X12_product G F v241 v245 v249 v253 M237) fun M256 =>
  bO (gfR M256 l0 13 58) fun v260 =>
  bO (gfR M256 l0 13 77) fun v264 =>
  bO (gfR M256 l0 13 75) fun v268 =>
  bO (gfR M256 l0 13 78) fun v272 =>
  bO (rcv M256 v260 12) fun _ =>
  bO (P_X12_product G F v260 v264 v268 v272 M256) fun M275 =>
  bO (gfR M275 l0 13 58) fun v279 =>
  bO (gfR M275 l0 13 70) fun v283 =>
  bO (gfR M275 l0 13 77) fun v287 =>
  bO (gfR M275 l0 13 77) fun v291 =>
  bO (rcv M275 v279 12) fun _ =>
  bO (P_X12_product G F v279 v283 v287 v291 M275) fun M294 =>
  bO (gfR M294 l0 13 58) fun v298 =>
  bO (gfR M294 l0 13 76) fun v302 =>
  bO (gfR M294 l0 13 76) fun v306 =>
  bO (gfR M294 l0 13 70) fun v310 =>
  bO (rcv M294 v298 12) fun _ =>
  bO (P_X12_product G F v298 v302 v306 v310 M294) fun M313 =>
  bO (gfR M313 l0 13 58) fun v317 =>
  bO (gfR M313 l0 13 70) fun v321 =>
  bO (gfR M313 l0 13 78) fun v325 =>
  bO (gfR M313 l0 13 70) fun v329 =>
  bO (rcv M313 v317 12) fun _ =>
  bO (P_X12_subtract G F v317 v321 v325 v329 M313) fun M332 =>
  bO (gfR M332 l0 13 58) fun v336 =>
  bO (gfR M332 l0 13 70) fun v340 =>
  bO (gfR M332 l0 13 77) fun v344 =>
  bO (gfR M332 l0 13 70) fun v348 =>
  bO (rcv M332 v336 12) fun _ =>
  bO (P_X12_subtract G F v336 v340 v344 v348 M332) fun M351 =>
  bO (gfR M351 l0 13 58) fun v355 =>
  bO (gfR M351 l0 13 70) fun v359 =>
  bO (gfR M351 l0 13 77) fun v363 =>
  bO (gfR M351 l0 13 70) fun v367 =>
  bO (rcv M351 v355 12) fun _ =>
  bO (P_X12_subtract G F v355 v359 v363 v367 M351) fun M370 =>
  bO (gfR M370 l0 13 58) fun v374 =>
  bO (gfR M370 l0 13 71) fun v378 =>
  bO (gfR M370 l0 13 78) fun v382 =>
  bO (gfR M370 l0 13 78) fun v386 =>
  bO (rcv M370 v374 12) fun _ =>
  bO (P_X12_product G F v374 v378 v382 v386 M370) fun M389 =>
  bO (gfR M389 l0 13 58) fun v393 =>
  bO (gfR M389 l0 13 77) fun v397 =>
  bO (gfR M389 l0 13 70) fun v401 =>
  bO (gfR M389 l0 13 77) fun v405 =>
  bO (rcv M389 v393 12) fun _ =>
  bO (P_X12_subtract G F v393 v397 v401 v405 M389) fun M408 =>
  bO (gfR M408 l0 13 58) fun v412 =>
  bO (gfR M408 l0 13 76) fun v416 =>
  bO (gfR M408 l0 13 77) fun v420 =>
  bO (gfR M408 l0 13 71) fun v424 =>
  bO (rcv M408 v412 12) fun _ =>
  bO (P_X12_product G F v412 v416 v420 v424 M408) fun M427 =>
  bO (gfR M427 l0 13 58) fun v431 =>
  bO (gfR M427 l0 13 71) fun v435 =>
  bO (gfR M427 l0 13 78) fun v439 =>
  bO (gfR M427 l0 13 71) fun v443 =>
  bO (rcv M427 v431 12) fun _ =>
  bO (P_X12_subtract G F v431 v435 v439 v443 M427) fun M446 =>
  some M446)
  else (bO (gfR M188 l0 13 58) fun v195 =>
  bO (gfR M188 l0 13 76) fun v199 =>
  bO (rcv M188 v195 12) fun _ =>
  bP (P_X12_isZero G F v195 v199 M188) fun v202 M202 =>
  if v202 = 0 then (bO (pfZ M202 l0 13 73 (1 : Int32)) fun M217 =>
  some M217)
  else (bO (rcv M202 l0 13) fun _ =>
  bO (P_X13_twicePoint G F l0 M202) fun M209 =>
  some M209)))
  else (B_X13_addPoint_9 G F F l0 (0 : Int32) M)
def B_X13_times__7 (G : mG) (F : Nat) : Nat → Nat → Nat → Int32 → Int32 → mM → Option mM
  | 0, _, _, _, _, _ => none
  | n + 1, l0, l1, l2, l3, M =>
  if (256 : Int32) ≤ l3 then (some M)
  else (bO (rcv M l0 13) fun _ =>
  bO (P_X13_twicePoint G F l0 M) fun M15 =>
  bO (aI G M15 1 l1 (l2 + (l3 / (8 : Int32)))) fun v25 =>
  if ((v25 >>> (((7 : Int32) - (l3 - l3 / (8 : Int32) * (8 : Int32))) &&& 31)) &&& (1 : Int32)) = (1 : Int32) then (bO (rcv M15 l0 13) fun _ =>
  bO (P_X13_addPoint G F l0 M15) fun M41 =>
  B_X13_times__7 G F n l0 l1 l2 (l3 + 1) M41)
  else (B_X13_times__7 G F n l0 l1 l2 (l3 + 1) M15))
def P_X13_times_ (G : mG) (F : Nat) (l0 : Nat) (l1 : Nat) (l2 : Int32) (M : mM) : Option mM :=
  bO (pfZ M l0 13 73 (1 : Int32)) fun M2 =>
  B_X13_times__7 G F F l0 l1 l2 (0 : Int32) M2
def P_X13_getPoint (G : mG) (F : Nat) (l0 : Nat) (l1 : Nat) (l2 : Int32) (M : mM) : Option (Int32 × mM) :=
  bO (gfI M l0 13 73) fun v1 =>
  if v1 = 0 then (bO (gfR M l0 13 63) fun v11 =>
  bO (rcv M l0 13) fun _ =>
  bO (P_X13_setLessTwo G F l0 v11 M) fun M14 =>
  bO (gfR M14 l0 13 58) fun v18 =>
  bO (gfR M14 l0 13 72) fun v22 =>
  bO (gfR M14 l0 13 67) fun v26 =>
  bO (gfR M14 l0 13 74) fun v33 =>
  bO (rcv M14 v18 12) fun _ =>
  bO (P_X12_power G F v18 v22 v26 (0 : Int32) (32 : Int32) v33 M14) fun M36 =>
  bO (gfR M36 l0 13 58) fun v40 =>
  bO (gfR M36 l0 13 74) fun v44 =>
  bO (gfR M36 l0 13 74) fun v48 =>
  bO (gfR M36 l0 13 75) fun v52 =>
  bO (rcv M36 v40 12) fun _ =>
  bO (P_X12_product G F v40 v44 v48 v52 M36) fun M55 =>
  bO (gfR M55 l0 13 58) fun v59 =>
  bO (gfR M55 l0 13 70) fun v63 =>
  bO (gfR M55 l0 13 75) fun v67 =>
  bO (gfR M55 l0 13 76) fun v71 =>
  bO (rcv M55 v59 12) fun _ =>
  bO (P_X12_product G F v59 v63 v67 v71 M55) fun M74 =>
  bO (gfR M74 l0 13 58) fun v78 =>
  bO (gfR M74 l0 13 75) fun v82 =>
  bO (gfR M74 l0 13 74) fun v86 =>
  bO (gfR M74 l0 13 75) fun v90 =>
  bO (rcv M74 v78 12) fun _ =>
  bO (P_X12_product G F v78 v82 v86 v90 M74) fun M93 =>
  bO (gfR M93 l0 13 58) fun v97 =>
  bO (gfR M93 l0 13 71) fun v101 =>
  bO (gfR M93 l0 13 75) fun v105 =>
  bO (gfR M93 l0 13 77) fun v109 =>
  bO (rcv M93 v97 12) fun _ =>
  bO (P_X12_product G F v97 v101 v105 v109 M93) fun M112 =>
  bO (gfR M112 l0 13 58) fun v116 =>
  bO (gfR M112 l0 13 76) fun v120 =>
  bO (gfR M112 l0 13 76) fun v124 =>
  bO (rcv M112 v116 12) fun _ =>
  bO (P_X12_outOf G F v116 v120 v124 M112) fun M127 =>
  bO (gfR M127 l0 13 58) fun v131 =>
  bO (gfR M127 l0 13 77) fun v135 =>
  bO (gfR M127 l0 13 77) fun v139 =>
  bO (rcv M127 v131 12) fun _ =>
  bO (P_X12_outOf G F v131 v135 v139 M127) fun M142 =>
  bO (gfR M142 l0 13 58) fun v146 =>
  bO (gfR M142 l0 13 76) fun v150 =>
  bO (rcv M142 v146 12) fun _ =>
  bO (P_X12_store G F v146 v150 l1 l2 (32 : Int32) M142) fun M157 =>
  bO (gfR M157 l0 13 58) fun v161 =>
  bO (gfR M157 l0 13 77) fun v165 =>
  bO (rcv M157 v161 12) fun _ =>
  bO (P_X12_store G F v161 v165 l1 (l2 + (32 : Int32)) (32 : Int32) M157) fun M175 =>
  retZ (1 : Int32) M175)
  else (retZ (0 : Int32) M)
def B_X13_multiply_74 (G : mG) (F : Nat) (l0 : Nat) (l1 : Int32) (sk0 : Int32) (M : mM) : Option (Int32 × mM) :=
  if sk0 = 0 then (some ((-2 : Int32), M))
  else (bO (gfR M l0 13 2) fun v84 =>
  bO (rcv M l0 13) fun _ =>
  bO (P_X13_times_ G F l0 v84 ((8192 : Int32) * l1) M) fun M92 =>
  bO (gfR M92 l0 13 79) fun v97 =>
  bO (rcv M92 l0 13) fun _ =>
  bP (P_X13_getPoint G F l0 v97 (0 : Int32) M92) fun v101 M101 =>
  if v101 = 0 then (some ((-1 : Int32), M101))
  else (bO (gfR M101 l0 13 79) fun v109 =>
  bO (rcv M101 l0 13) fun _ =>
  bP (P_X13_tell G F l0 v109 (0 : Int32) (64 : Int32) M101) fun v115 M115 =>
  some (v115, M115)))
def B_X13_multiply_44 (G : mG) (F : Nat) (l0 : Nat) (l1 : Int32) (l2 : Int32) (M : mM) : Option (Int32 × mM) :=
  if l2 = (-1 : Int32) then (bO (gfR M l0 13 65) fun v51 =>
  bO (rcv M l0 13) fun _ =>
  bP (P_X13_setPoint G F l0 v51 (0 : Int32) M) fun v55 M55 =>
  B_X13_multiply_74 G F l0 l1 v55 M55)
  else (bO (gfR M l0 13 2) fun v63 =>
  bO (rcv M l0 13) fun _ =>
  bP (P_X13_setPoint G F l0 v63 ((8192 : Int32) * l2) M) fun v71 M71 =>
  B_X13_multiply_74 G F l0 l1 v71 M71)
def P_X13_multiply (G : mG) (F : Nat) (l0 : Nat) (l1 : Int32) (l2 : Int32) (M : mM) : Option (Int32 × mM) :=
  bP (P_X13_isRow G F l1 M) fun v1 M1 =>
  if v1 = 0 then (some ((-2 : Int32), M1))
  else (bO (gfR M1 l0 13 3) fun v8 =>
  bO (aI G M1 0 v8 l1) fun v12 =>
  if v12 = (32 : Int32) then (if l2 = (-1 : Int32) then (B_X13_multiply_44 G F l0 l1 l2 M1)
  else (bP (P_X13_isRow G F l2 M1) fun v24 M24 =>
  if v24 = 0 then (some ((-2 : Int32), M24))
  else (bO (gfR M24 l0 13 3) fun v31 =>
  bO (aI G M24 0 v31 l2) fun v35 =>
  if v35 = (64 : Int32) then (B_X13_multiply_44 G F l0 l1 l2 M24)
  else (some ((-2 : Int32), M24)))))
  else (some ((-2 : Int32), M1)))
def P_X13_isSecret (G : mG) (F : Nat) (l0 : Nat) (l1 : Nat) (l2 : Int32) (M : mM) : Option (Int32 × mM) :=
  bO (gfR M l0 13 59) fun v1 =>
  bO (gfR M l0 13 60) fun v9 =>
  bO (rcv M v1 12) fun _ =>
  bO (P_X12_load G F v1 l1 l2 (32 : Int32) v9 M) fun M12 =>
  bO (gfR M12 l0 13 59) fun v16 =>
  bO (gfR M12 l0 13 60) fun v20 =>
  bO (rcv M12 v16 12) fun _ =>
  bP (P_X12_isZero G F v16 v20 M12) fun v23 M23 =>
  if v23 = 0 then (bO (gfR M23 l0 13 59) fun v30 =>
  bO (gfR M23 l0 13 60) fun v34 =>
  bO (gfR M23 l0 13 59) fun v38 =>
  bO (gfR M23 v38 12 0) fun v41 =>
  bO (rcv M23 v30 12) fun _ =>
  bP (P_X12_order G F v30 v34 v41 M23) fun v44 M44 =>
  if 0 ≤ v44 then (retZ (0 : Int32) M44)
  else (retZ (1 : Int32) M44))
  else (retZ (0 : Int32) M23)
def B_X13_deriveIt_3 (G : mG) (F : Nat) : Nat → Nat → Nat → Int32 → Int32 → Nat → Int32 → Int32 → Nat → Int32 → Int32 → Nat → Int32 → Int32 → Int32 → Int32 → mM → Option mM
  | 0, _, _, _, _, _, _, _, _, _, _, _, _, _, _, _, _ => none
  | n + 1, l0, l1, l2, l3, l4, l5, l6, l7, l8, l9, l10, l11, l12, l13, l14, M =>
  if l13 ≤ ((32 : Int32) * l14) then (some M)
  else (bO (rcv M l0 13) fun _ =>
  bO (P_X13_empty G F l0 M) fun M14 =>
  bO (rcv M14 l0 13) fun _ =>
  bO (P_X13_layNumber G F l0 ((l14 + (1 : Int32)).toInt64) (4 : Int32) M14) fun M24 =>
  bO (rcv M24 l0 13) fun _ =>
  bO (P_X13_lay G F l0 l1 l2 l3 M24) fun M31 =>
  bO (rcv M31 l0 13) fun _ =>
  bO (P_X13_layNumber G F l0 (l6.toInt64) (4 : Int32) M31) fun M39 =>
  bO (rcv M39 l0 13) fun _ =>
  bO (P_X13_lay G F l0 l4 l5 l6 M39) fun M49 =>
  bO (rcv M49 l0 13) fun _ =>
  bO (P_X13_layNumber G F l0 (l9.toInt64) (4 : Int32) M49) fun M57 =>
  bO (rcv M57 l0 13) fun _ =>
  bO (P_X13_lay G F l0 l7 l8 l9 M57) fun M67 =>
  bO (rcv M67 l0 13) fun _ =>
  bO (P_X13_layNumber G F l0 (l12.toInt64) (4 : Int32) M67) fun M75 =>
  bO (rcv M75 l0 13) fun _ =>
  bO (P_X13_lay G F l0 l10 l11 l12 M75) fun M85 =>
  bO (rcv M85 l0 13) fun _ =>
  bO (P_X13_layNumber G F l0 ((8 : Int64) * (l13.toInt64)) (4 : Int32) M85) fun M97 =>
  bO (rcv M97 l0 13) fun _ =>
  bP (P_X13_digestOf G F l0 (256 : Int32) M97) fun v104 M104 =>
  bO (gfR M104 l0 13 35) fun v110 =>
  bO (gfR M104 l0 13 80) fun v115 =>
  if (32 : Int32) ≤ (l13 - ((32 : Int32) * l14)) then (bO (P_X13_move G F v110 (0 : Int32) v115 ((32 : Int32) * l14) (32 : Int32) M104) fun M149 =>
  B_X13_deriveIt_3 G F n l0 l1 l2 l3 l4 l5 l6 l7 l8 l9 l10 l11 l12 l13 (l14 + 1) M149)
  else (bO (P_X13_move G F v110 (0 : Int32) v115 ((32 : Int32) * l14) (l13 - ((32 : Int32) * l14)) M104) fun M149 =>
  B_X13_deriveIt_3 G F n l0 l1 l2 l3 l4 l5 l6 l7 l8 l9 l10 l11 l12 l13 (l14 + 1) M149))
def P_X13_deriveIt (G : mG) (F : Nat) (l0 : Nat) (l1 : Nat) (l2 : Int32) (l3 : Int32) (l4 : Nat) (l5 : Int32) (l6 : Int32) (l7 : Nat) (l8 : Int32) (l9 : Int32) (l10 : Nat) (l11 : Int32) (l12 : Int32) (l13 : Int32) (M : mM) : Option mM :=
  B_X13_deriveIt_3 G F F l0 l1 l2 l3 l4 l5 l6 l7 l8 l9 l10 l11 l12 l13 (0 : Int32) M
def B_X13_derive_53 (G : mG) (F : Nat) (l0 : Nat) (l1 : Int32) (l2 : Int32) (l3 : Int32) (l4 : Int32) (l5 : Int32) (M : mM) : Option (Int32 × mM) :=
  bO (gfR M l0 13 2) fun v55 =>
  bO (gfR M l0 13 3) fun v64 =>
  bO (aI G M 0 v64 l1) fun v68 =>
  bO (gfR M l0 13 2) fun v70 =>
  bO (gfR M l0 13 3) fun v79 =>
  bO (aI G M 0 v79 l2) fun v83 =>
  bO (gfR M l0 13 2) fun v85 =>
  bO (gfR M l0 13 3) fun v94 =>
  bO (aI G M 0 v94 l3) fun v98 =>
  bO (gfR M l0 13 2) fun v100 =>
  bO (gfR M l0 13 3) fun v110 =>
  bO (aI G M 0 v110 l4) fun v115 =>
  bO (rcv M l0 13) fun _ =>
  bO (P_X13_deriveIt G F l0 v55 ((8192 : Int32) * l1) v68 v70 ((8192 : Int32) * l2) v83 v85 ((8192 : Int32) * l3) v98 v100 ((8192 : Int32) * l4) v115 l5 M) fun M118 =>
  bO (gfR M118 l0 13 80) fun v123 =>
  bO (rcv M118 l0 13) fun _ =>
  bP (P_X13_tell G F l0 v123 (0 : Int32) l5 M118) fun v129 M129 =>
  some (v129, M129)
def P_X13_derive (G : mG) (F : Nat) (l0 : Nat) (l1 : Int32) (l2 : Int32) (l3 : Int32) (l4 : Int32) (l5 : Int32) (M : mM) : Option (Int32 × mM) :=
  bP (P_X13_isRow G F l1 M) fun v1 M1 =>
  if v1 = 0 then (some ((-2 : Int32), M1))
  else (bP (P_X13_isRow G F l2 M1) fun v8 M8 =>
  if v8 = 0 then (some ((-2 : Int32), M8))
  else (bP (P_X13_isRow G F l3 M8) fun v15 M15 =>
  if v15 = 0 then (some ((-2 : Int32), M15))
  else (bP (P_X13_isRow G F l4 M15) fun v23 M23 =>
  if v23 = 0 then (some ((-2 : Int32), M23))
  else (if l5 = (16 : Int32) then (B_X13_derive_53 G F l0 l1 l2 l3 l4 l5 M23)
  else (if l5 = (32 : Int32) then (B_X13_derive_53 G F l0 l1 l2 l3 l4 l5 M23)
  else (if l5 = (64 : Int32) then (B_X13_derive_53 G F l0 l1 l2 l3 l4 l5 M23)
  else (some ((-2 : Int32), M23))))))))
def B_X13_maskOn_48 (G : mG) (F : Nat) (r3 : Nat → Nat → Int32 → Int32 → Nat → Int32 → Int32 → Int32 → mM → Option mM) : Nat → Nat → Nat → Int32 → Int32 → Nat → Int32 → Int32 → Int32 → Int32 → mM → Option mM
  | 0, _, _, _, _, _, _, _, _, _, _ => none
  | n + 1, l0, l1, l2, l3, l4, l5, l6, l7, l9, M =>
  if l6 ≤ l9 then (r3 l0 l1 l2 l3 l4 l5 l6 (l7 + 1) M)
  else (if (((32 : Int32) * l7) + (32 : Int32)) ≤ l9 then (r3 l0 l1 l2 l3 l4 l5 l6 (l7 + 1) M)
  else (bO (aI G M 1 l4 (l5 + l9)) fun v76 =>
  bO (gfR M l0 13 35) fun v78 =>
  bO (aI G M 1 v78 (l9 - ((32 : Int32) * l7))) fun v89 =>
  bO (sI M 1 l4 (l5 + l9) (((v76 ^^^ v89).toInt8.toInt32).toInt8.toInt32)) fun M92 =>
  B_X13_maskOn_48 G F r3 n l0 l1 l2 l3 l4 l5 l6 l7 (l9 + 1) M92))
def B_X13_maskOn_3 (G : mG) (F : Nat) : Nat → Nat → Nat → Int32 → Int32 → Nat → Int32 → Int32 → Int32 → mM → Option mM
  | 0, _, _, _, _, _, _, _, _, _ => none
  | n + 1, l0, l1, l2, l3, l4, l5, l6, l7, M =>
  if l6 ≤ ((32 : Int32) * l7) then (some M)
  else (bO (rcv M l0 13) fun _ =>
  bO (P_X13_empty G F l0 M) fun M14 =>
  bO (rcv M14 l0 13) fun _ =>
  bO (P_X13_lay G F l0 l1 l2 l3 M14) fun M21 =>
  bO (rcv M21 l0 13) fun _ =>
  bO (P_X13_layNumber G F l0 (l7.toInt64) (4 : Int32) M21) fun M29 =>
  bO (rcv M29 l0 13) fun _ =>
  bP (P_X13_digestOf G F l0 (256 : Int32) M29) fun v36 M36 =>
  B_X13_maskOn_48 G F (B_X13_maskOn_3 G F n) F l0 l1 l2 l3 l4 l5 l6 l7 ((32 : Int32) * l7) M36)
def P_X13_maskOn (G : mG) (F : Nat) (l0 : Nat) (l1 : Nat) (l2 : Int32) (l3 : Int32) (l4 : Nat) (l5 : Int32) (l6 : Int32) (M : mM) : Option mM :=
  B_X13_maskOn_3 G F F l0 l1 l2 l3 l4 l5 l6 (0 : Int32) M
def P_X13_digestMessage (G : mG) (F : Nat) (l0 : Nat) (M : mM) : Option mM :=
  bO (rcv M l0 13) fun _ =>
  bO (P_X13_empty G F l0 M) fun M1 =>
  bO (gfR M1 l0 13 38) fun v6 =>
  bO (gfI M1 l0 13 39) fun v11 =>
  bO (rcv M1 l0 13) fun _ =>
  bO (P_X13_lay G F l0 v6 (0 : Int32) v11 M1) fun M14 =>
  bO (rcv M14 l0 13) fun _ =>
  bP (P_X13_digestOf G F l0 (256 : Int32) M14) fun v21 M21 =>
  some M21
def B_X13_fillOut_53 (G : mG) (F : Nat) : Nat → Nat → Int32 → Int32 → mM → Option mM
  | 0, _, _, _, _ => none
  | n + 1, l0, l1, l2, M =>
  if (19 : Int32) ≤ l2 then (bO (gfR M l0 13 35) fun v108 =>
  bO (gfR M l0 13 82) fun v113 =>
  bO (P_X13_move G F v108 (0 : Int32) v113 (l1 - (32 : Int32)) (32 : Int32) M) fun M122 =>
  some M122)
  else (bO (gfR M l0 13 82) fun v60 =>
  bO (rcs G (G.1 113)) fun _ =>
  bP (P_J0_charAt_5068e G F (G.1 113) ((2 : Int32) * l2) M) fun v77 M77 =>
  bP (P_X13_hexOf G F v77 M77) fun v80 M80 =>
  bO (rcs G (G.1 113)) fun _ =>
  bP (P_J0_charAt_5068e G F (G.1 113) (((2 : Int32) * l2) + (1 : Int32)) M80) fun v92 M92 =>
  bP (P_X13_hexOf G F v92 M92) fun v95 M95 =>
  bO (sI M95 1 v60 ((l1 - (51 : Int32)) + l2) (((((16 : Int32) * v80) + v95).toInt8.toInt32).toInt8.toInt32)) fun M100 =>
  B_X13_fillOut_53 G F n l0 l1 (l2 + 1) M100)
def B_X13_fillOut_20 (G : mG) (F : Nat) : Nat → Nat → Int32 → Int32 → mM → Option mM
  | 0, _, _, _, _ => none
  | n + 1, l0, l1, l2, M =>
  if (l1 - (52 : Int32)) ≤ l2 then (bO (gfR M l0 13 82) fun v42 =>
  bO (sI M 1 v42 (l1 - (52 : Int32)) ((0 : Int32).toInt8.toInt32)) fun M50 =>
  B_X13_fillOut_53 G F F l0 l1 (0 : Int32) M50)
  else (bO (gfR M l0 13 82) fun v29 =>
  bO (sI M 1 v29 l2 ((-1 : Int32).toInt8.toInt32)) fun M34 =>
  B_X13_fillOut_20 G F n l0 l1 (l2 + 1) M34)
def P_X13_fillOut (G : mG) (F : Nat) (l0 : Nat) (l1 : Int32) (M : mM) : Option mM :=
  bO (rcv M l0 13) fun _ =>
  bO (P_X13_digestMessage G F l0 M) fun M1 =>
  bO (gfR M1 l0 13 82) fun v5 =>
  bO (sI M1 1 v5 (0 : Int32) ((0 : Int32).toInt8.toInt32)) fun M10 =>
  bO (gfR M10 l0 13 82) fun v12 =>
  bO (sI M10 1 v12 (1 : Int32) ((1 : Int32).toInt8.toInt32)) fun M17 =>
  B_X13_fillOut_20 G F F l0 l1 (2 : Int32) M17
def B_X13_bitsOf_3 (G : mG) (F : Nat) : Nat → Nat → Int32 → Int32 → Int32 → mM → Option (Int32 × mM)
  | 0, _, _, _, _, _ => none
  | n + 1, l0, l1, l2, l3, M =>
  bO (aI G M 1 l0 l1) fun v5 =>
  if ((v5 >>> ((l3 - (1 : Int32)) &&& 31)) &&& (1 : Int32)) = 0 then (B_X13_bitsOf_3 G F n l0 l1 l2 (l3 + (-1)) M)
  else (some ((((8 : Int32) * (l2 - (1 : Int32))) + l3), M))
def P_X13_bitsOf (G : mG) (F : Nat) (l0 : Nat) (l1 : Int32) (l2 : Int32) (M : mM) : Option (Int32 × mM) :=
  B_X13_bitsOf_3 G F F l0 l1 l2 (8 : Int32) M
def B_X13_saltOut_23 (G : mG) (F : Nat) : Nat → Nat → Nat → Int32 → Int32 → Int32 → Int32 → Int32 → Int32 → mM → Option mM
  | 0, _, _, _, _, _, _, _, _, _ => none
  | n + 1, l0, l1, l2, l3, l4, l5, l6, l7, M =>
  if l4 ≤ l7 then (bO (gfR M l0 13 35) fun v45 =>
  bO (gfR M l0 13 81) fun v50 =>
  bO (P_X13_move G F v45 (0 : Int32) v50 (0 : Int32) (32 : Int32) M) fun M56 =>
  bO (rcv M56 l0 13) fun _ =>
  bO (P_X13_empty G F l0 M56) fun M60 =>
  bO (rcv M60 l0 13) fun _ =>
  bO (P_X13_layNumber G F l0 (0 : Int64) (8 : Int32) M60) fun M67 =>
  bO (gfR M67 l0 13 81) fun v72 =>
  bO (rcv M67 l0 13) fun _ =>
  bO (P_X13_lay G F l0 v72 (0 : Int32) (32 : Int32) M67) fun M78 =>
  bO (rcv M78 l0 13) fun _ =>
  bO (P_X13_lay G F l0 l1 l2 (32 : Int32) M78) fun M86 =>
  bO (rcv M86 l0 13) fun _ =>
  bP (P_X13_digestOf G F l0 (256 : Int32) M86) fun v93 M93 =>
  bO (gfR M93 l0 13 35) fun v99 =>
  bO (gfR M93 l0 13 82) fun v104 =>
  bO (P_X13_move G F v99 (0 : Int32) v104 ((l6 + l5) - (33 : Int32)) (32 : Int32) M93) fun M117 =>
  bO (gfR M117 l0 13 82) fun v121 =>
  bO (sI M117 1 v121 ((l6 + l5) - (66 : Int32)) ((1 : Int32).toInt8.toInt32)) fun M133 =>
  bO (gfR M133 l0 13 82) fun v137 =>
  bO (P_X13_move G F l1 l2 v137 ((l6 + l5) - (65 : Int32)) (32 : Int32) M133) fun M150 =>
  bO (gfR M150 l0 13 82) fun v155 =>
  bO (gfR M150 l0 13 82) fun v169 =>
  bO (rcv M150 l0 13) fun _ =>
  bO (P_X13_maskOn G F l0 v155 ((l6 + l5) - (33 : Int32)) (32 : Int32) v169 l6 (l5 - (33 : Int32)) M150) fun M179 =>
  bO (gfR M179 l0 13 82) fun v183 =>
  bO (aI G M179 1 v183 l6) fun v189 =>
  bO (sI M179 1 v183 l6 (((v189 &&& (((255 : Int32) >>> ((((8 : Int32) * l5) - l3) &&& 31)).toInt8.toInt32)).toInt8.toInt32).toInt8.toInt32)) fun M204 =>
  bO (gfR M204 l0 13 82) fun v206 =>
  bO (sI M204 1 v206 (l4 - (1 : Int32)) ((-68 : Int32).toInt8.toInt32)) fun M215 =>
  some M215)
  else (bO (gfR M l0 13 82) fun v31 =>
  bO (sI M 1 v31 l7 ((0 : Int32).toInt8.toInt32)) fun M37 =>
  B_X13_saltOut_23 G F n l0 l1 l2 l3 l4 l5 l6 (l7 + 1) M37)
def P_X13_saltOut (G : mG) (F : Nat) (l0 : Nat) (l1 : Nat) (l2 : Int32) (l3 : Int32) (l4 : Int32) (M : mM) : Option mM :=
  bO (rcv M l0 13) fun _ =>
  bO (P_X13_digestMessage G F l0 M) fun M1 =>
  B_X13_saltOut_23 G F F l0 l1 l2 l3 l4 ((l3 + (7 : Int32)) / (8 : Int32)) (l4 - ((l3 + (7 : Int32)) / (8 : Int32))) (0 : Int32) M1
def B_X13_isSalted_156 (G : mG) (F : Nat) : Nat → Nat → Int32 → Int32 → Int32 → Int32 → mM → Option (Int32 × mM)
  | 0, _, _, _, _, _, _ => none
  | n + 1, l0, l3, l4, l5, l6, M =>
  if ((l4 + l3) - (66 : Int32)) ≤ l6 then (bO (rcv M l0 13) fun _ =>
  bO (P_X13_digestMessage G F l0 M) fun M197 =>
  bO (gfR M197 l0 13 35) fun v201 =>
  bO (gfR M197 l0 13 81) fun v206 =>
  bO (P_X13_move G F v201 (0 : Int32) v206 (0 : Int32) (32 : Int32) M197) fun M212 =>
  bO (rcv M212 l0 13) fun _ =>
  bO (P_X13_empty G F l0 M212) fun M216 =>
  bO (rcv M216 l0 13) fun _ =>
  bO (P_X13_layNumber G F l0 (0 : Int64) (8 : Int32) M216) fun M223 =>
  bO (gfR M223 l0 13 81) fun v228 =>
  bO (rcv M223 l0 13) fun _ =>
  bO (P_X13_lay G F l0 v228 (0 : Int32) (32 : Int32) M223) fun M234 =>
  bO (gfR M234 l0 13 82) fun v239 =>
  bO (rcv M234 l0 13) fun _ =>
  bO (P_X13_lay G F l0 v239 ((l4 + l3) - (65 : Int32)) (32 : Int32) M234) fun M251 =>
  bO (rcv M251 l0 13) fun _ =>
  bP (P_X13_digestOf G F l0 (256 : Int32) M251) fun v258 M258 =>
  if l5 = 0 then (retZ (0 : Int32) M258)
  else (bO (gfR M258 l0 13 35) fun v269 =>
  bO (gfR M258 l0 13 82) fun v274 =>
  bP (P_X13_same G F v269 (0 : Int32) v274 ((l4 + l3) - (33 : Int32)) (32 : Int32) M258) fun v286 M286 =>
  if v286 = 0 then (retZ (0 : Int32) M286)
  else (retZ (1 : Int32) M286)))
  else (if l5 = 0 then (B_X13_isSalted_156 G F n l0 l3 l4 (0 : Int32) (l6 + 1) M)
  else (bO (gfR M l0 13 82) fun v174 =>
  bO (aI G M 1 v174 l6) fun v179 =>
  if v179 = 0 then (B_X13_isSalted_156 G F n l0 l3 l4 (1 : Int32) (l6 + 1) M)
  else (B_X13_isSalted_156 G F n l0 l3 l4 (0 : Int32) (l6 + 1) M)))
def B_X13_isSalted_27 (G : mG) (F : Nat) (l0 : Nat) (l1 : Int32) (l2 : Int32) (l3 : Int32) (l4 : Int32) (M : mM) : Option (Int32 × mM) :=
  bO (gfR M l0 13 62) fun v28 =>
  bO (aI G M 1 v28 (l2 - (1 : Int32))) fun v34 =>
  if v34 = (-68 : Int32) then (bO (gfR M l0 13 62) fun v41 =>
  bO (aI G M 1 v41 l4) fun v46 =>
  if ((v46 &&& (255 : Int32)) >>> (((8 : Int32) - (((8 : Int32) * l3) - l1)) &&& 31)) = 0 then (bO (gfR M l0 13 62) fun v67 =>
  bO (gfR M l0 13 82) fun v72 =>
  bO (P_X13_move G F v67 (0 : Int32) v72 (0 : Int32) l2 M) fun M77 =>
  bO (gfR M77 l0 13 82) fun v82 =>
  bO (gfR M77 l0 13 82) fun v95 =>
  bO (rcv M77 l0 13) fun _ =>
  bO (P_X13_maskOn G F l0 v82 ((l4 + l3) - (33 : Int32)) (32 : Int32) v95 l4 (l3 - (33 : Int32)) M77) fun M104 =>
  bO (gfR M104 l0 13 82) fun v108 =>
  bO (aI G M104 1 v108 l4) fun v114 =>
  bO (sI M104 1 v108 l4 (((v114 &&& (((255 : Int32) >>> ((((8 : Int32) * l3) - l1) &&& 31)).toInt8.toInt32)).toInt8.toInt32).toInt8.toInt32)) fun M128 =>
  bO (gfR M128 l0 13 82) fun v130 =>
  bO (aI G M128 1 v130 ((l4 + l3) - (66 : Int32))) fun v140 =>
  if v140 = (1 : Int32) then (B_X13_isSalted_156 G F F l0 l3 l4 (1 : Int32) l4 M128)
  else (B_X13_isSalted_156 G F F l0 l3 l4 (0 : Int32) l4 M128))
  else (retZ (0 : Int32) M))
  else (retZ (0 : Int32) M)
def P_X13_isSalted (G : mG) (F : Nat) (l0 : Nat) (l1 : Int32) (l2 : Int32) (M : mM) : Option (Int32 × mM) :=
  if (l2 - ((l1 + (7 : Int32)) / (8 : Int32))) ≤ 0 then (B_X13_isSalted_27 G F l0 l1 l2 ((l1 + (7 : Int32)) / (8 : Int32)) (l2 - ((l1 + (7 : Int32)) / (8 : Int32))) M)
  else (bO (gfR M l0 13 62) fun v19 =>
  bO (aI G M 1 v19 (0 : Int32)) fun v23 =>
  if v23 = 0 then (B_X13_isSalted_27 G F l0 l1 l2 ((l1 + (7 : Int32)) / (8 : Int32)) (l2 - ((l1 + (7 : Int32)) / (8 : Int32))) M)
  else (retZ (0 : Int32) M))
def B_X13_isSaid_18 (G : mG) (F : Nat) : Nat → Nat → Int32 → Int32 → Nat → Int32 → Int32 → mM → Option (Int32 × mM)
  | 0, _, _, _, _, _, _, _ => none
  | n + 1, l0, l1, l2, l3, l4, l5, M =>
  if l2 ≤ l5 then (retZ l4 M)
  else (if l4 = 0 then (retZ l4 M)
  else (bO (gfR M l0 13 15) fun v30 =>
  bO (aI G M 1 v30 (l1 + l5)) fun v37 =>
  bO (rcs G l3) fun _ =>
  bP (P_J0_charAt_5068e G F l3 l5 M) fun v41 M41 =>
  if v37 = v41 then (B_X13_isSaid_18 G F n l0 l1 l2 l3 (1 : Int32) (l5 + 1) M41)
  else (B_X13_isSaid_18 G F n l0 l1 l2 l3 (0 : Int32) (l5 + 1) M41)))
def P_X13_isSaid (G : mG) (F : Nat) (l0 : Nat) (l1 : Int32) (l2 : Int32) (l3 : Nat) (M : mM) : Option (Int32 × mM) :=
  bO (rcs G l3) fun _ =>
  bP (P_J0_length_8abf5 G F l3 M) fun v2 M2 =>
  if l2 = v2 then (B_X13_isSaid_18 G F F l0 l1 l2 l3 (1 : Int32) (0 : Int32) M2)
  else (B_X13_isSaid_18 G F F l0 l1 l2 l3 (0 : Int32) (0 : Int32) M2)
def B_X13_memberOf_15 (G : mG) (F : Nat) : Nat → Nat → Int32 → Int32 → Nat → Int32 → Int32 → mM → Option (Int32 × mM)
  | 0, _, _, _, _, _, _, _ => none
  | n + 1, l0, l1, l2, l3, l4, l5, M =>
  bO (gfR M l0 13 16) fun v20 =>
  bO (aI G M 0 v20 l1) fun v24 =>
  if (l4 + v24) ≤ l5 then (some ((-1 : Int32), M))
  else (bO (gfR M l0 13 7) fun v30 =>
  bO (aI G M 0 v30 l5) fun v35 =>
  if v35 = l2 then (bO (gfR M l0 13 13) fun v42 =>
  bO (aI G M 0 v42 l5) fun v47 =>
  bO (gfR M l0 13 14) fun v49 =>
  bO (aI G M 0 v49 l5) fun v54 =>
  bO (rcv M l0 13) fun _ =>
  bP (P_X13_isSaid G F l0 v47 v54 l3 M) fun v56 M56 =>
  if v56 = 0 then (B_X13_memberOf_15 G F n l0 l1 l2 l3 l4 (l5 + 1) M56)
  else (some ((l5 - l4), M56)))
  else (B_X13_memberOf_15 G F n l0 l1 l2 l3 l4 (l5 + 1) M))
def P_X13_memberOf (G : mG) (F : Nat) (l0 : Nat) (l1 : Int32) (l2 : Int32) (l3 : Nat) (M : mM) : Option (Int32 × mM) :=
  B_X13_memberOf_15 G F F l0 l1 l2 l3 ((600 : Int32) * l1) ((((600 : Int32) * l1) + l2) + (1 : Int32)) M
def P_X13_isString (G : mG) (F : Nat) (l0 : Nat) (l1 : Int32) (l2 : Int32) (M : mM) : Option (Int32 × mM) :=
  if l2 < 0 then (retZ (0 : Int32) M)
  else (bO (gfR M l0 13 6) fun v5 =>
  bO (aI G M 0 v5 (((600 : Int32) * l1) + l2)) fun v15 =>
  if v15 = (4 : Int32) then (retZ (1 : Int32) M)
  else (retZ (0 : Int32) M))
def P_X13_says (G : mG) (F : Nat) (l0 : Nat) (l1 : Int32) (l2 : Int32) (l3 : Nat) (M : mM) : Option (Int32 × mM) :=
  bO (rcv M l0 13) fun _ =>
  bP (P_X13_isString G F l0 l1 l2 M) fun v3 M3 =>
  if v3 = 0 then (retZ (0 : Int32) M3)
  else (bO (gfR M3 l0 13 11) fun v11 =>
  bO (aI G M3 0 v11 (((600 : Int32) * l1) + l2)) fun v21 =>
  bO (gfR M3 l0 13 12) fun v23 =>
  bO (aI G M3 0 v23 (((600 : Int32) * l1) + l2)) fun v33 =>
  bO (rcv M3 l0 13) fun _ =>
  bP (P_X13_isSaid G F l0 v21 v33 l3 M3) fun v35 M35 =>
  if v35 = 0 then (retZ (0 : Int32) M35)
  else (retZ (1 : Int32) M35))
def P_X13_bytesOf (G : mG) (F : Nat) (l0 : Nat) (l1 : Int32) (l2 : Int32) (l3 : Nat) (l4 : Nat) (M : mM) : Option (Int32 × mM) :=
  bO (rcv M l0 13) fun _ =>
  bP (P_X13_memberOf G F l0 l1 l2 l3 M) fun v4 M4 =>
  bO (rcv M4 l0 13) fun _ =>
  bP (P_X13_isString G F l0 l1 v4 M4) fun v13 M13 =>
  if v13 = 0 then (some ((-1 : Int32), M13))
  else (bO (gfR M13 l0 13 15) fun v21 =>
  bO (gfR M13 l0 13 11) fun v25 =>
  bO (aI G M13 0 v25 (((600 : Int32) * l1) + v4)) fun v36 =>
  bO (gfR M13 l0 13 12) fun v38 =>
  bO (aI G M13 0 v38 (((600 : Int32) * l1) + v4)) fun v49 =>
  bO (rcv M13 l0 13) fun _ =>
  bP (P_X13_unletter G F l0 v21 v36 v49 l4 (0 : Int32) M13) fun v53 M53 =>
  some (v53, M53))
def P_X13_isOdd (G : mG) (F : Nat) (l0 : Nat) (l1 : Int32) (l2 : Nat) (M : mM) : Option (Int32 × mM) :=
  bO (rcv M l0 13) fun _ =>
  bP (P_X13_memberOf G F l0 l1 (0 : Int32) l2 M) fun v4 M4 =>
  if v4 < 0 then (retZ (0 : Int32) M4)
  else (bO (rcv M4 l0 13) fun _ =>
  bP (P_X13_isString G F l0 l1 v4 M4) fun v15 M15 =>
  if v15 = 0 then (retZ (1 : Int32) M15)
  else (retZ (0 : Int32) M15))
def B_X13_isLessThan_44 (G : mG) (F : Nat) (l1 : Nat) (l2 : Int32) (l3 : Nat) (l5 : Int32) (M : mM) : Option (Int32 × mM) :=
  if l2 ≤ l5 then (retZ (0 : Int32) M)
  else (bO (aI G M 1 l1 l5) fun v53 =>
  bO (aI G M 1 l3 l5) fun v61 =>
  if (v61 &&& (255 : Int32)) ≤ (v53 &&& (255 : Int32)) then (retZ (0 : Int32) M)
  else (retZ (1 : Int32) M))
def B_X13_isLessThan_21 (G : mG) (F : Nat) : Nat → Nat → Int32 → Nat → Int32 → mM → Option (Int32 × mM)
  | 0, _, _, _, _, _ => none
  | n + 1, l1, l2, l3, l5, M =>
  if l2 ≤ l5 then (B_X13_isLessThan_44 G F l1 l2 l3 l5 M)
  else (bO (aI G M 1 l1 l5) fun v30 =>
  bO (aI G M 1 l3 l5) fun v34 =>
  if v30 = v34 then (B_X13_isLessThan_21 G F n l1 l2 l3 (l5 + 1) M)
  else (B_X13_isLessThan_44 G F l1 l2 l3 l5 M))
def P_X13_isLessThan (G : mG) (F : Nat) (l0 : Nat) (l1 : Nat) (l2 : Int32) (l3 : Nat) (l4 : Int32) (M : mM) : Option (Int32 × mM) :=
  if l2 = l4 then (B_X13_isLessThan_21 G F F l1 l2 l3 (0 : Int32) M)
  else (if l4 ≤ l2 then (retZ (0 : Int32) M)
  else (retZ (1 : Int32) M))
def B_X13_isRsa_136 (G : mG) (F : Nat) (l0 : Nat) (sk0 : Int32) (M : mM) : Option (Int32 × mM) :=
  if sk0 = 0 then (retZ sk0 M)
  else (bO (gfI M l0 13 101) fun v142 =>
  if 0 ≤ v142 then (bO (gfI M l0 13 101) fun v151 =>
  if v151 = 0 then (retZ (0 : Int32) M)
  else (bO (gfR M l0 13 98) fun v158 =>
  bO (aI G M 1 v158 (0 : Int32)) fun v162 =>
  if v162 = 0 then (retZ (0 : Int32) M)
  else (bO (gfR M l0 13 98) fun v168 =>
  bO (gfI M l0 13 101) fun v172 =>
  bO (gfR M l0 13 96) fun v176 =>
  bO (gfI M l0 13 99) fun v180 =>
  bO (rcv M l0 13) fun _ =>
  bP (P_X13_isLessThan G F l0 v168 v172 v176 v180 M) fun v183 M183 =>
  if v183 = 0 then (retZ (0 : Int32) M183)
  else (bO (gfR M183 l0 13 57) fun v192 =>
  bO (gfR M183 l0 13 96) fun v196 =>
  bO (gfI M183 l0 13 99) fun v201 =>
  bO (rcv M183 v192 12) fun _ =>
  bO (P_X12_set G F v192 v196 (0 : Int32) v201 M183) fun M204 =>
  bO (gfR M204 l0 13 57) fun v208 =>
  bO (gfR M204 l0 13 57) fun v212 =>
  bO (gfR M204 v212 12 3) fun v215 =>
  bO (gfR M204 l0 13 57) fun v219 =>
  bO (gfR M204 v219 12 3) fun v222 =>
  bO (gfR M204 l0 13 60) fun v226 =>
  bO (rcv M204 v208 12) fun _ =>
  bO (P_X12_add G F v208 v215 v222 v226 M204) fun M229 =>
  bO (gfR M229 l0 13 57) fun v233 =>
  bO (gfR M229 l0 13 60) fun v237 =>
  bO (gfR M229 l0 13 97) fun v241 =>
  bO (gfI M229 l0 13 100) fun v246 =>
  bO (gfR M229 l0 13 61) fun v250 =>
  bO (rcv M229 v233 12) fun _ =>
  bO (P_X12_power G F v233 v237 v241 (0 : Int32) v246 v250 M229) fun M253 =>
  bO (gfR M253 l0 13 57) fun v257 =>
  bO (gfR M253 l0 13 61) fun v261 =>
  bO (gfR M253 l0 13 98) fun v265 =>
  bO (gfI M253 l0 13 101) fun v270 =>
  bO (gfR M253 l0 13 61) fun v274 =>
  bO (rcv M253 v257 12) fun _ =>
  bO (P_X12_power G F v257 v261 v265 (0 : Int32) v270 v274 M253) fun M277 =>
  bO (gfR M277 l0 13 57) fun v281 =>
  bO (gfR M277 l0 13 60) fun v285 =>
  bO (gfR M277 l0 13 61) fun v289 =>
  bO (rcv M277 v281 12) fun _ =>
  bP (P_X12_order G F v281 v285 v289 M277) fun v292 M292 =>
  if v292 = 0 then (retZ (1 : Int32) M292)
  else (retZ (0 : Int32) M292)))))
  else (retZ sk0 M))
def B_X13_isRsa_108 (G : mG) (F : Nat) (l0 : Nat) (M : mM) : Option (Int32 × mM) :=
  bO (gfR M l0 13 97) fun v110 =>
  bO (gfI M l0 13 100) fun v114 =>
  bO (gfR M l0 13 96) fun v118 =>
  bO (gfI M l0 13 99) fun v122 =>
  bO (rcv M l0 13) fun _ =>
  bP (P_X13_isLessThan G F l0 v110 v114 v118 v122 M) fun v125 M125 =>
  if v125 = 0 then (B_X13_isRsa_136 G F l0 (0 : Int32) M125)
  else (B_X13_isRsa_136 G F l0 (1 : Int32) M125)
def B_X13_isRsa_49 (G : mG) (F : Nat) (l0 : Nat) (sk0 : Int32) (M : mM) : Option (Int32 × mM) :=
  if sk0 = 0 then (B_X13_isRsa_136 G F l0 (0 : Int32) M)
  else (bO (gfI M l0 13 100) fun v55 =>
  if v55 ≤ 0 then (B_X13_isRsa_136 G F l0 (0 : Int32) M)
  else (bO (gfR M l0 13 97) fun v62 =>
  bO (aI G M 1 v62 (0 : Int32)) fun v66 =>
  if v66 = 0 then (B_X13_isRsa_136 G F l0 (0 : Int32) M)
  else (bO (gfR M l0 13 97) fun v71 =>
  bO (gfI M l0 13 100) fun v75 =>
  bO (aI G M 1 v71 (v75 - (1 : Int32))) fun v80 =>
  if (v80 - v80 / (2 : Int32) * (2 : Int32)) = 0 then (B_X13_isRsa_136 G F l0 (0 : Int32) M)
  else (bO (gfI M l0 13 100) fun v87 =>
  if (1 : Int32) < v87 then (B_X13_isRsa_108 G F l0 M)
  else (bO (gfR M l0 13 97) fun v95 =>
  bO (aI G M 1 v95 (0 : Int32)) fun v99 =>
  if (v99 &&& (255 : Int32)) < (3 : Int32) then (B_X13_isRsa_136 G F l0 (0 : Int32) M)
  else (B_X13_isRsa_108 G F l0 M))))))
def P_X13_isRsa (G : mG) (F : Nat) (l0 : Nat) (M : mM) : Option (Int32 × mM) :=
  bO (gfI M l0 13 99) fun v1 =>
  if v1 < (64 : Int32) then (B_X13_isRsa_49 G F l0 (0 : Int32) M)
  else (bO (gfI M l0 13 99) fun v10 =>
  if (128 : Int32) < v10 then (B_X13_isRsa_49 G F l0 (0 : Int32) M)
  else (bO (gfR M l0 13 96) fun v20 =>
  bO (aI G M 1 v20 (0 : Int32)) fun v24 =>
  if v24 = 0 then (B_X13_isRsa_49 G F l0 (0 : Int32) M)
  else (bO (gfR M l0 13 96) fun v29 =>
  bO (gfI M l0 13 99) fun v33 =>
  bO (aI G M 1 v29 (v33 - (1 : Int32))) fun v38 =>
  if (v38 - v38 / (2 : Int32) * (2 : Int32)) = 0 then (B_X13_isRsa_49 G F l0 (0 : Int32) M)
  else (B_X13_isRsa_49 G F l0 (1 : Int32) M))))
def B_X13_isEc_36 (G : mG) (F : Nat) (l0 : Nat) (M : mM) : Option (Int32 × mM) :=
  bO (gfR M l0 13 96) fun v37 =>
  bO (gfR M l0 13 79) fun v42 =>
  bO (P_X13_move G F v37 (0 : Int32) v42 (0 : Int32) (32 : Int32) M) fun M48 =>
  bO (gfR M48 l0 13 97) fun v52 =>
  bO (gfR M48 l0 13 79) fun v57 =>
  bO (P_X13_move G F v52 (0 : Int32) v57 (32 : Int32) (32 : Int32) M48) fun M64 =>
  bO (gfR M64 l0 13 79) fun v69 =>
  bO (rcv M64 l0 13) fun _ =>
  bP (P_X13_setPoint G F l0 v69 (0 : Int32) M64) fun v73 M73 =>
  if v73 = 0 then (retZ (0 : Int32) M73)
  else (bO (gfI M73 l0 13 101) fun v82 =>
  if 0 ≤ v82 then (bO (gfR M73 l0 13 98) fun v92 =>
  bO (rcv M73 l0 13) fun _ =>
  bP (P_X13_isSecret G F l0 v92 (0 : Int32) M73) fun v96 M96 =>
  if v96 = 0 then (retZ (0 : Int32) M96)
  else (bO (gfR M96 l0 13 65) fun v106 =>
  bO (rcv M96 l0 13) fun _ =>
  bP (P_X13_setPoint G F l0 v106 (0 : Int32) M96) fun v110 M110 =>
  bO (gfR M110 l0 13 98) fun v116 =>
  bO (rcv M110 l0 13) fun _ =>
  bO (P_X13_times_ G F l0 v116 (0 : Int32) M110) fun M120 =>
  if v110 = 0 then (retZ (0 : Int32) M120)
  else (bO (gfR M120 l0 13 62) fun v129 =>
  bO (rcv M120 l0 13) fun _ =>
  bP (P_X13_getPoint G F l0 v129 (0 : Int32) M120) fun v133 M133 =>
  if v133 = 0 then (retZ (0 : Int32) M133)
  else (bO (gfR M133 l0 13 62) fun v140 =>
  bO (gfR M133 l0 13 79) fun v145 =>
  bP (P_X13_same G F v140 (0 : Int32) v145 (0 : Int32) (64 : Int32) M133) fun v151 M151 =>
  if v151 = 0 then (retZ (0 : Int32) M151)
  else (retZ (1 : Int32) M151)))))
  else (retZ (1 : Int32) M73))
def P_X13_isEc (G : mG) (F : Nat) (l0 : Nat) (M : mM) : Option (Int32 × mM) :=
  bO (gfI M l0 13 99) fun v1 =>
  if v1 = (32 : Int32) then (bO (gfI M l0 13 100) fun v10 =>
  if v10 = (32 : Int32) then (bO (gfI M l0 13 101) fun v19 =>
  if v19 < 0 then (B_X13_isEc_36 G F l0 M)
  else (bO (gfI M l0 13 101) fun v26 =>
  if v26 = (32 : Int32) then (B_X13_isEc_36 G F l0 M)
  else (retZ (0 : Int32) M)))
  else (retZ (0 : Int32) M))
  else (retZ (0 : Int32) M)
def P_X13_keepWord (G : mG) (F : Nat) (l0 : Nat) (l1 : Int32) (l2 : Int32) (l3 : Nat) (l4 : Int32) (M : mM) : Option (Int32 × mM) :=
  if 0 ≤ l2 then (bO (gfR M l0 13 15) fun v16 =>
  bO (gfR M l0 13 11) fun v20 =>
  bO (aI G M 0 v20 (((600 : Int32) * l1) + l2)) fun v25 =>
  bO (gfR M l0 13 12) fun v30 =>
  bO (aI G M 0 v30 (((600 : Int32) * l1) + l2)) fun v35 =>
  bO (P_X13_move G F v16 v25 l3 l4 v35 M) fun M36 =>
  bO (gfR M36 l0 13 12) fun v40 =>
  bO (aI G M36 0 v40 (((600 : Int32) * l1) + l2)) fun v45 =>
  some (v45, M36))
  else (some ((-1 : Int32), M))
def B_X13_keepKey_188 (G : mG) (F : Nat) (l0 : Nat) (l1 : Int32) (l3 : Int32) (sk0 : Nat) (sk1 : Int32) (sk2 : Int32) (M : mM) : Option mM :=
  bO (sI M 0 sk0 sk1 sk2) fun M188 =>
  bO (gfR M188 l0 13 93) fun v190 =>
  bO (rcv M188 l0 13) fun _ =>
  bP (P_X13_memberOf G F l0 l3 (0 : Int32) (G.1 88) M188) fun v202 M202 =>
  bO (gfR M202 l0 13 92) fun v206 =>
  bO (rcv M202 l0 13) fun _ =>
  bP (P_X13_keepWord G F l0 l3 v202 v206 ((8200 : Int32) * l1) M202) fun v214 M214 =>
  bO (sI M214 0 v190 l1 v214) fun M217 =>
  bO (gfR M217 l0 13 95) fun v219 =>
  bO (rcv M217 l0 13) fun _ =>
  bP (P_X13_memberOf G F l0 l3 (0 : Int32) (G.1 90) M217) fun v231 M231 =>
  bO (gfR M231 l0 13 94) fun v235 =>
  bO (rcv M231 l0 13) fun _ =>
  bP (P_X13_keepWord G F l0 l3 v231 v235 ((8200 : Int32) * l1) M231) fun v243 M243 =>
  bO (sI M243 0 v219 l1 v243) fun M246 =>
  some M246
def B_X13_keepKey_104 (G : mG) (F : Nat) (l0 : Nat) (l1 : Int32) (l3 : Int32) (sk0 : Nat) (sk1 : Int32) (sk2 : Int32) (M : mM) : Option mM :=
  bO (sI M 0 sk0 sk1 sk2) fun M104 =>
  bO (gfR M104 l0 13 98) fun v106 =>
  bO (gfR M104 l0 13 89) fun v111 =>
  bO (gfR M104 l0 13 90) fun v120 =>
  bO (aI G M104 0 v120 l1) fun v124 =>
  bO (P_X13_move G F v106 (0 : Int32) v111 ((128 : Int32) * l1) v124 M104) fun M125 =>
  bO (rcv M125 l0 13) fun _ =>
  bP (P_X13_memberOf G F l0 l3 (0 : Int32) (G.1 89) M125) fun v134 M134 =>
  bO (gfR M134 l0 13 91) fun v140 =>
  if 0 ≤ v134 then (bO (rcv M134 l0 13) fun _ =>
  bP (P_X13_says G F l0 l3 v134 (G.1 99) M134) fun v160 M160 =>
  if v160 = 0 then (bO (rcv M160 l0 13) fun _ =>
  bP (P_X13_says G F l0 l3 v134 (G.1 100) M160) fun v177 M177 =>
  if v177 = 0 then (B_X13_keepKey_188 G F l0 l1 l3 v140 l1 (3 : Int32) M177)
  else (B_X13_keepKey_188 G F l0 l1 l3 v140 l1 (2 : Int32) M177))
  else (B_X13_keepKey_188 G F l0 l1 l3 v140 l1 (1 : Int32) M160))
  else (B_X13_keepKey_188 G F l0 l1 l3 v140 l1 (0 : Int32) M134)
def P_X13_keepKey (G : mG) (F : Nat) (l0 : Nat) (l1 : Int32) (l2 : Int32) (l3 : Int32) (M : mM) : Option mM :=
  bO (gfR M l0 13 83) fun v1 =>
  bO (sI M 3 v1 l1 (vp_nar .boolean (1 : Int32))) fun M6 =>
  bO (gfR M6 l0 13 84) fun v8 =>
  bO (sI M6 0 v8 l1 l2) fun M13 =>
  bO (gfR M13 l0 13 86) fun v15 =>
  bO (gfI M13 l0 13 99) fun v20 =>
  bO (sI M13 0 v15 l1 v20) fun M23 =>
  bO (gfR M23 l0 13 96) fun v25 =>
  bO (gfR M23 l0 13 85) fun v30 =>
  bO (gfI M23 l0 13 99) fun v39 =>
  bO (P_X13_move G F v25 (0 : Int32) v30 ((128 : Int32) * l1) v39 M23) fun M42 =>
  bO (gfR M42 l0 13 88) fun v46 =>
  bO (gfI M42 l0 13 100) fun v51 =>
  bO (sI M42 0 v46 l1 v51) fun M54 =>
  bO (gfR M54 l0 13 97) fun v56 =>
  bO (gfR M54 l0 13 87) fun v61 =>
  bO (gfI M54 l0 13 100) fun v70 =>
  bO (P_X13_move G F v56 (0 : Int32) v61 ((128 : Int32) * l1) v70 M54) fun M73 =>
  bO (gfR M73 l0 13 90) fun v77 =>
  if l2 = 0 then (B_X13_keepKey_104 G F l0 l1 l3 v77 l1 (0 : Int32) M73)
  else (bO (gfI M73 l0 13 101) fun v90 =>
  if 0 ≤ v90 then (bO (gfI M73 l0 13 101) fun v101 =>
  B_X13_keepKey_104 G F l0 l1 l3 v77 l1 v101 M73)
  else (B_X13_keepKey_104 G F l0 l1 l3 v77 l1 (0 : Int32) M73))
def B_X13_key_453 (G : mG) (F : Nat) : Nat → Nat → Int32 → Int32 → Int32 → mM → Option (Int32 × mM)
  | 0, _, _, _, _, _ => none
  | n + 1, l0, l2, l4, l6, M =>
  if (16 : Int32) ≤ l6 then (if l6 = (16 : Int32) then (some ((-17 : Int32), M))
  else (bO (rcv M l0 13) fun _ =>
  bO (P_X13_keepKey G F l0 l6 l4 l2 M) fun M492 =>
  some (l6, M492)))
  else (bO (gfR M l0 13 83) fun v461 =>
  bO (aI G M 3 v461 l6) fun v466 =>
  if v466 = 0 then (if l6 = (16 : Int32) then (some ((-17 : Int32), M))
  else (bO (rcv M l0 13) fun _ =>
  bO (P_X13_keepKey G F l0 l6 l4 l2 M) fun M492 =>
  some (l6, M492)))
  else (B_X13_key_453 G F n l0 l2 l4 (l6 + 1) M))
def B_X13_key_390 (G : mG) (F : Nat) (l0 : Nat) (l2 : Int32) (l4 : Int32) (l5 : Int32) (M : mM) : Option (Int32 × mM) :=
  if l5 = 0 then (some ((-15 : Int32), M))
  else (if l4 = 0 then (bO (gfI M l0 13 99) fun v404 =>
  if v404 < (1 : Int32) then (some ((-16 : Int32), M))
  else (bO (gfI M l0 13 99) fun v412 =>
  if (128 : Int32) < v412 then (some ((-16 : Int32), M))
  else (B_X13_key_453 G F F l0 l2 l4 (0 : Int32) M)))
  else (if l4 = (1 : Int32) then (bO (rcv M l0 13) fun _ =>
  bP (P_X13_isRsa G F l0 M) fun v431 M431 =>
  if v431 = 0 then (some ((-16 : Int32), M431))
  else (B_X13_key_453 G F F l0 l2 l4 (0 : Int32) M431))
  else (bO (rcv M l0 13) fun _ =>
  bP (P_X13_isEc G F l0 M) fun v441 M441 =>
  if v441 = 0 then (some ((-16 : Int32), M441))
  else (B_X13_key_453 G F F l0 l2 l4 (0 : Int32) M441))))
def B_X13_key_370 (G : mG) (F : Nat) (l0 : Nat) (l2 : Int32) (l4 : Int32) (l6 : Int32) (M : mM) : Option (Int32 × mM) :=
  if l6 = 0 then (bO (pfv M l0 13 101 (.int (-1 : Int32))) fun M387 =>
  B_X13_key_390 G F l0 l2 l4 (0 : Int32) M387)
  else (bO (gfI M l0 13 101) fun v380 =>
  bO (pfv M l0 13 101 (.int v380)) fun M387 =>
  B_X13_key_390 G F l0 l2 l4 (0 : Int32) M387)
def B_X13_key_344 (G : mG) (F : Nat) (l0 : Nat) (l2 : Int32) (l4 : Int32) (l5 : Int32) (l6 : Int32) (sk0 : Nat) (sk1 : Int32) (M : mM) : Option (Int32 × mM) :=
  bO (pfv M sk0 13 101 (.int sk1)) fun M344 =>
  if l5 = 0 then (B_X13_key_370 G F l0 l2 l4 l6 M344)
  else (bO (gfI M344 l0 13 100) fun v353 =>
  if v353 < 0 then (B_X13_key_370 G F l0 l2 l4 l6 M344)
  else (bO (gfI M344 l0 13 101) fun v360 =>
  if v360 < 0 then (B_X13_key_370 G F l0 l2 l4 l6 M344)
  else (if l6 = 0 then (bO (pfv M344 l0 13 101 (.int (-1 : Int32))) fun M387 =>
  B_X13_key_390 G F l0 l2 l4 (1 : Int32) M387)
  else (bO (gfI M344 l0 13 101) fun v380 =>
  bO (pfv M344 l0 13 101 (.int v380)) fun M387 =>
  B_X13_key_390 G F l0 l2 l4 (1 : Int32) M387))))
def B_X13_key_319 (G : mG) (F : Nat) (l0 : Nat) (l2 : Int32) (l4 : Int32) (l5 : Int32) (sk0 : Int32) (M : mM) : Option (Int32 × mM) :=
  if sk0 = 0 then (B_X13_key_344 G F l0 l2 l4 l5 sk0 l0 (0 : Int32) M)
  else (bO (gfR M l0 13 98) fun v334 =>
  bO (rcv M l0 13) fun _ =>
  bP (P_X13_bytesOf G F l0 l2 (0 : Int32) (G.1 98) v334 M) fun v337 M337 =>
  B_X13_key_344 G F l0 l2 l4 l5 sk0 l0 v337 M337)
def B_X13_key_292 (G : mG) (F : Nat) (l0 : Nat) (l2 : Int32) (l4 : Int32) (l5 : Int32) (sk0 : Nat) (sk1 : Nat) (sk2 : Int32) (sk3 : Int32) (sk4 : Nat) (M : mM) : Option (Int32 × mM) :=
  bO (gfR M l0 13 97) fun v293 =>
  bO (rcv M sk1 13) fun _ =>
  bP (P_X13_bytesOf G F sk1 sk2 sk3 sk4 v293 M) fun v296 M296 =>
  bO (pfv M296 sk0 13 100 (.int v296)) fun M299 =>
  bO (rcv M299 l0 13) fun _ =>
  bP (P_X13_memberOf G F l0 l2 (0 : Int32) (G.1 98) M299) fun v308 M308 =>
  if v308 < 0 then (B_X13_key_319 G F l0 l2 l4 l5 (0 : Int32) M308)
  else (B_X13_key_319 G F l0 l2 l4 l5 (1 : Int32) M308)
def B_X13_key_266 (G : mG) (F : Nat) (l0 : Nat) (l2 : Int32) (l4 : Int32) (sk0 : Int32) (M : mM) : Option (Int32 × mM) :=
  if l4 = 0 then (B_X13_key_390 G F l0 l2 l4 sk0 M)
  else (if l4 = (1 : Int32) then (B_X13_key_292 G F l0 l2 l4 sk0 l0 l0 l2 (0 : Int32) (G.1 96) M)
  else (B_X13_key_292 G F l0 l2 l4 sk0 l0 l0 l2 (0 : Int32) (G.1 97) M))
def B_X13_key_239 (G : mG) (F : Nat) (l0 : Nat) (l2 : Int32) (l4 : Int32) (l5 : Int32) (sk0 : Nat) (sk1 : Nat) (sk2 : Int32) (sk3 : Int32) (sk4 : Nat) (M : mM) : Option (Int32 × mM) :=
  bO (gfR M l0 13 96) fun v240 =>
  bO (rcv M sk1 13) fun _ =>
  bP (P_X13_bytesOf G F sk1 sk2 sk3 sk4 v240 M) fun v243 M243 =>
  bO (pfv M243 sk0 13 99 (.int v243)) fun M246 =>
  if l5 = 0 then (B_X13_key_266 G F l0 l2 l4 (0 : Int32) M246)
  else (bO (gfI M246 l0 13 99) fun v255 =>
  if v255 < 0 then (B_X13_key_266 G F l0 l2 l4 (0 : Int32) M246)
  else (B_X13_key_266 G F l0 l2 l4 (1 : Int32) M246))
def B_X13_key_207 (G : mG) (F : Nat) (l0 : Nat) (l2 : Int32) (l4 : Int32) (sk0 : Int32) (M : mM) : Option (Int32 × mM) :=
  if l4 = 0 then (B_X13_key_239 G F l0 l2 l4 sk0 l0 l0 l2 (0 : Int32) (G.1 93) M)
  else (if l4 = (1 : Int32) then (B_X13_key_239 G F l0 l2 l4 sk0 l0 l0 l2 (0 : Int32) (G.1 94) M)
  else (B_X13_key_239 G F l0 l2 l4 sk0 l0 l0 l2 (0 : Int32) (G.1 95) M))
def B_X13_key_120 (G : mG) (F : Nat) (l0 : Nat) (l2 : Int32) (sk0 : Int32) (M : mM) : Option (Int32 × mM) :=
  if 0 ≤ sk0 then (bO (rcv M l0 13) fun _ =>
  bP (P_X13_isOdd G F l0 l2 (G.1 88) M) fun v135 M135 =>
  if v135 = 0 then (bO (rcv M135 l0 13) fun _ =>
  bP (P_X13_isOdd G F l0 l2 (G.1 89) M135) fun v146 M146 =>
  if v146 = 0 then (bO (rcv M146 l0 13) fun _ =>
  bP (P_X13_isOdd G F l0 l2 (G.1 90) M146) fun v157 M157 =>
  if v157 = 0 then (bO (pfv M157 l0 13 100 (.int (0 : Int32))) fun M168 =>
  bO (pfv M168 l0 13 101 (.int (0 : Int32))) fun M173 =>
  if sk0 = (2 : Int32) then (bO (rcv M173 l0 13) fun _ =>
  bP (P_X13_memberOf G F l0 l2 (0 : Int32) (G.1 91) M173) fun v190 M190 =>
  bO (rcv M190 l0 13) fun _ =>
  bP (P_X13_says G F l0 l2 v190 (G.1 92) M190) fun v196 M196 =>
  if v196 = 0 then (B_X13_key_207 G F l0 l2 sk0 (0 : Int32) M196)
  else (B_X13_key_207 G F l0 l2 sk0 (1 : Int32) M196))
  else (B_X13_key_207 G F l0 l2 sk0 (1 : Int32) M173))
  else (some ((-14 : Int32), M157)))
  else (some ((-14 : Int32), M146)))
  else (some ((-14 : Int32), M135)))
  else (some ((-13 : Int32), M))
def P_X13_key (G : mG) (F : Nat) (l0 : Nat) (l1 : Int32) (M : mM) : Option (Int32 × mM) :=
  bP (P_X13_isRow G F l1 M) fun v1 M1 =>
  if v1 = 0 then (some ((-2 : Int32), M1))
  else (bO (gfI M1 l0 13 17) fun v12 =>
  bO (gfR M1 l0 13 2) fun v19 =>
  bO (gfR M1 l0 13 3) fun v28 =>
  bO (aI G M1 0 v28 l1) fun v32 =>
  bO (rcv M1 l0 13) fun _ =>
  bP (P_X13_read G F l0 v19 ((8192 : Int32) * l1) v32 ((1 : Int32) - v12) M1) fun v34 M34 =>
  if v34 = 0 then (some ((-11 : Int32), M34))
  else (bO (gfR M34 l0 13 6) fun v44 =>
  bO (aI G M34 0 v44 ((600 : Int32) * ((1 : Int32) - v12))) fun v52 =>
  if v52 = (6 : Int32) then (bO (rcv M34 l0 13) fun _ =>
  bP (P_X13_memberOf G F l0 ((1 : Int32) - v12) (0 : Int32) (G.1 84) M34) fun v67 M67 =>
  bO (rcv M67 l0 13) fun _ =>
  bP (P_X13_says G F l0 ((1 : Int32) - v12) v67 (G.1 85) M67) fun v77 M77 =>
  if v77 = 0 then (bO (rcv M77 l0 13) fun _ =>
  bP (P_X13_says G F l0 ((1 : Int32) - v12) v67 (G.1 86) M77) fun v93 M93 =>
  if v93 = 0 then (bO (rcv M93 l0 13) fun _ =>
  bP (P_X13_says G F l0 ((1 : Int32) - v12) v67 (G.1 87) M93) fun v109 M109 =>
  if v109 = 0 then (B_X13_key_120 G F l0 ((1 : Int32) - v12) (-1 : Int32) M109)
  else (B_X13_key_120 G F l0 ((1 : Int32) - v12) (2 : Int32) M109))
  else (B_X13_key_120 G F l0 ((1 : Int32) - v12) (1 : Int32) M93))
  else (B_X13_key_120 G F l0 ((1 : Int32) - v12) (0 : Int32) M77))
  else (some ((-12 : Int32), M34))))
def P_X13_isKey (G : mG) (F : Nat) (l0 : Nat) (l1 : Int32) (M : mM) : Option (Int32 × mM) :=
  if l1 < 0 then (retZ (0 : Int32) M)
  else (if (16 : Int32) ≤ l1 then (retZ (0 : Int32) M)
  else (bO (gfR M l0 13 83) fun v11 =>
  bO (aI G M 3 v11 l1) fun v15 =>
  if v15 = 0 then (retZ (0 : Int32) M)
  else (retZ (1 : Int32) M)))
def P_X13_drop (G : mG) (F : Nat) (l0 : Nat) (l1 : Int32) (M : mM) : Option (Int32 × mM) :=
  bO (rcv M l0 13) fun _ =>
  bP (P_X13_isKey G F l0 l1 M) fun v2 M2 =>
  if v2 = 0 then (some ((-2 : Int32), M2))
  else (bO (gfR M2 l0 13 83) fun v12 =>
  bO (sI M2 3 v12 l1 (vp_nar .boolean (0 : Int32))) fun M17 =>
  some ((1 : Int32), M17))
def P_X13_told (G : mG) (F : Nat) (l0 : Nat) (l1 : Int32) (l2 : Int32) (M : mM) : Option (Int32 × mM) :=
  bO (rcv M l0 13) fun _ =>
  bP (P_X13_isKey G F l0 l1 M) fun v2 M2 =>
  if v2 = 0 then (some ((-2 : Int32), M2))
  else (if l2 < 0 then (some ((-2 : Int32), M2))
  else (if l2 ≤ (5 : Int32) then (if l2 = (0 : Int32) then (bO (gfR M2 l0 13 84) fun v57 =>
  bO (aI G M2 0 v57 l1) fun v61 =>
  some (v61, M2))
  else (if l2 = (1 : Int32) then (bO (gfR M2 l0 13 86) fun v64 =>
  bO (aI G M2 0 v64 l1) fun v68 =>
  some (v68, M2))
  else (if l2 = (2 : Int32) then (bO (gfR M2 l0 13 90) fun v71 =>
  bO (aI G M2 0 v71 l1) fun v75 =>
  if v75 ≤ 0 then (some ((0 : Int32), M2))
  else (some ((1 : Int32), M2)))
  else (if l2 = (3 : Int32) then (bO (gfR M2 l0 13 91) fun v86 =>
  bO (aI G M2 0 v86 l1) fun v90 =>
  some (v90, M2))
  else (if l2 = (4 : Int32) then (bO (gfR M2 l0 13 93) fun v93 =>
  bO (aI G M2 0 v93 l1) fun v97 =>
  some (v97, M2))
  else (bO (gfR M2 l0 13 95) fun v100 =>
  bO (aI G M2 0 v100 l1) fun v104 =>
  if v104 < 0 then (some ((0 : Int32), M2))
  else (some ((1 : Int32), M2))))))))
  else (some ((-2 : Int32), M2))))
def P_X13_sayPart (G : mG) (F : Nat) (l0 : Nat) (l1 : Nat) (l2 : Nat) (l3 : Int32) (l4 : Int32) (M : mM) : Option mM :=
  bO (rcv M l0 13) fun _ =>
  bO (P_X13_sayAll G F l0 l1 M) fun M2 =>
  bO (rcv M2 l0 13) fun _ =>
  bO (P_X13_sayLetters G F l0 l2 l3 l4 M2) fun M10 =>
  some M10
def B_X13_print_164 (G : mG) (F : Nat) (l0 : Nat) (M : mM) : Option (Int32 × mM) :=
  bO (rcv M l0 13) fun _ =>
  bO (P_X13_empty G F l0 M) fun M165 =>
  bO (gfR M165 l0 13 27) fun v170 =>
  bO (gfI M165 l0 13 28) fun v175 =>
  bO (rcv M165 l0 13) fun _ =>
  bO (P_X13_lay G F l0 v170 (0 : Int32) v175 M165) fun M178 =>
  bO (gfR M178 l0 13 35) fun v183 =>
  bO (rcv M178 l0 13) fun _ =>
  bP (P_X13_digestOf G F l0 (256 : Int32) M178) fun v191 M191 =>
  bO (rcv M191 l0 13) fun _ =>
  bP (P_X13_tell G F l0 v183 (0 : Int32) v191 M191) fun v194 M194 =>
  some (v194, M194)
def P_X13_print (G : mG) (F : Nat) (l0 : Nat) (l1 : Int32) (M : mM) : Option (Int32 × mM) :=
  bO (rcv M l0 13) fun _ =>
  bP (P_X13_isKey G F l0 l1 M) fun v2 M2 =>
  if v2 = 0 then (some ((-2 : Int32), M2))
  else (bO (pfv M2 l0 13 28 (.int (0 : Int32))) fun M13 =>
  bO (gfR M13 l0 13 84) fun v17 =>
  bO (aI G M13 0 v17 l1) fun v21 =>
  if v21 = 0 then (bO (gfR M13 l0 13 85) fun v30 =>
  bO (gfR M13 l0 13 86) fun v39 =>
  bO (aI G M13 0 v39 l1) fun v43 =>
  bO (rcv M13 l0 13) fun _ =>
  bO (P_X13_sayPart G F l0 (G.1 101) v30 ((128 : Int32) * l1) v43 M13) fun M44 =>
  bO (rcv M44 l0 13) fun _ =>
  bO (P_X13_sayAll G F l0 (G.1 102) M44) fun M51 =>
  B_X13_print_164 G F l0 M51)
  else (bO (gfR M13 l0 13 84) fun v58 =>
  bO (aI G M13 0 v58 l1) fun v62 =>
  if v62 = (1 : Int32) then (bO (gfR M13 l0 13 87) fun v72 =>
  bO (gfR M13 l0 13 88) fun v81 =>
  bO (aI G M13 0 v81 l1) fun v85 =>
  bO (rcv M13 l0 13) fun _ =>
  bO (P_X13_sayPart G F l0 (G.1 103) v72 ((128 : Int32) * l1) v85 M13) fun M86 =>
  bO (gfR M86 l0 13 85) fun v94 =>
  bO (gfR M86 l0 13 86) fun v103 =>
  bO (aI G M86 0 v103 l1) fun v107 =>
  bO (rcv M86 l0 13) fun _ =>
  bO (P_X13_sayPart G F l0 (G.1 104) v94 ((128 : Int32) * l1) v107 M86) fun M108 =>
  bO (rcv M108 l0 13) fun _ =>
  bO (P_X13_sayAll G F l0 (G.1 105) M108) fun M115 =>
  B_X13_print_164 G F l0 M115)
  else (bO (gfR M13 l0 13 85) fun v126 =>
  bO (rcv M13 l0 13) fun _ =>
  bO (P_X13_sayPart G F l0 (G.1 106) v126 ((128 : Int32) * l1) (32 : Int32) M13) fun M136 =>
  bO (gfR M136 l0 13 87) fun v144 =>
  bO (rcv M136 l0 13) fun _ =>
  bO (P_X13_sayPart G F l0 (G.1 107) v144 ((128 : Int32) * l1) (32 : Int32) M136) fun M154 =>
  bO (rcv M154 l0 13) fun _ =>
  bO (P_X13_sayAll G F l0 (G.1 105) M154) fun M161 =>
  B_X13_print_164 G F l0 M161)))
def B_X13_wordOf_85 (G : mG) (F : Nat) (r6 : Nat → Nat → Int32 → Int32 → Int32 → Int32 → mM → Option (Int32 × mM)) : Nat → Nat → Nat → Int32 → Int32 → Int32 → Int32 → mM → Option (Int32 × mM)
  | 0, _, _, _, _, _, _, _ => none
  | n + 1, l0, l1, l2, l3, l4, l5, M =>
  bO (rcs G l0) fun _ =>
  bP (P_J0_charAt_5068e G F l0 l5 M) fun v88 M88 =>
  if v88 = (32 : Int32) then (r6 l0 l1 l2 l3 (l4 + 1) (l5 + 1) M88)
  else (B_X13_wordOf_85 G F r6 n l0 l1 l2 l3 l4 (l5 + 1) M88)
def B_X13_wordOf_62 (G : mG) (F : Nat) (r6 : Nat → Nat → Int32 → Int32 → Int32 → Int32 → mM → Option (Int32 × mM)) (l0 : Nat) (l1 : Nat) (l2 : Int32) (l3 : Int32) (l4 : Int32) (l5 : Int32) (l6 : Int32) (M : mM) : Option (Int32 × mM) :=
  if l6 = l3 then (bO (rcs G l0) fun _ =>
  bP (P_J0_charAt_5068e G F l0 (l5 + l6) M) fun v74 M74 =>
  if v74 = (32 : Int32) then (some (l4, M74))
  else (B_X13_wordOf_85 G F r6 F l0 l1 l2 l3 l4 l5 M74))
  else (B_X13_wordOf_85 G F r6 F l0 l1 l2 l3 l4 l5 M)
def B_X13_wordOf_18 (G : mG) (F : Nat) (r6 : Nat → Nat → Int32 → Int32 → Int32 → Int32 → mM → Option (Int32 × mM)) : Nat → Nat → Nat → Int32 → Int32 → Int32 → Int32 → Int32 → mM → Option (Int32 × mM)
  | 0, _, _, _, _, _, _, _, _ => none
  | n + 1, l0, l1, l2, l3, l4, l5, l6, M =>
  if l3 ≤ l6 then (B_X13_wordOf_62 G F r6 l0 l1 l2 l3 l4 l5 l6 M)
  else (bO (rcs G l0) fun _ =>
  bP (P_J0_charAt_5068e G F l0 (l5 + l6) M) fun v30 M30 =>
  if v30 = (32 : Int32) then (B_X13_wordOf_62 G F r6 l0 l1 l2 l3 l4 l5 l6 M30)
  else (bO (rcs G l0) fun _ =>
  bP (P_J0_charAt_5068e G F l0 (l5 + l6) M30) fun v44 M44 =>
  bO (aI G M44 1 l1 (l2 + l6)) fun v52 =>
  if v44 = v52 then (B_X13_wordOf_18 G F r6 n l0 l1 l2 l3 l4 l5 (l6 + 1) M44)
  else (B_X13_wordOf_62 G F r6 l0 l1 l2 l3 l4 l5 l6 M44)))
def B_X13_wordOf_6 (G : mG) (F : Nat) : Nat → Nat → Nat → Int32 → Int32 → Int32 → Int32 → mM → Option (Int32 × mM)
  | 0, _, _, _, _, _, _, _ => none
  | n + 1, l0, l1, l2, l3, l4, l5, M =>
  bO (rcs G l0) fun _ =>
  bP (P_J0_length_8abf5 G F l0 M) fun v9 M9 =>
  if v9 ≤ l5 then (some ((-1 : Int32), M9))
  else (B_X13_wordOf_18 G F (B_X13_wordOf_6 G F n) F l0 l1 l2 l3 l4 l5 (0 : Int32) M9)
def P_X13_wordOf (G : mG) (F : Nat) (l0 : Nat) (l1 : Nat) (l2 : Int32) (l3 : Int32) (M : mM) : Option (Int32 × mM) :=
  B_X13_wordOf_6 G F F l0 l1 l2 l3 (0 : Int32) (0 : Int32) M
def B_X13_begins_9 (G : mG) (F : Nat) (r4 : Nat → Int32 → Int32 → Int32 → mM → Option (Int32 × mM)) : Nat → Nat → Int32 → Int32 → Int32 → mM → Option (Int32 × mM)
  | 0, _, _, _, _, _ => none
  | n + 1, l0, l1, l2, l3, M =>
  bO (rcs G l0) fun _ =>
  bP (P_J0_charAt_5068e G F l0 l2 M) fun v11 M11 =>
  if v11 = (32 : Int32) then (r4 l0 l1 (l2 + 1) (l3 + 1) M11)
  else (B_X13_begins_9 G F r4 n l0 l1 (l2 + 1) l3 M11)
def B_X13_begins_4 (G : mG) (F : Nat) : Nat → Nat → Int32 → Int32 → Int32 → mM → Option (Int32 × mM)
  | 0, _, _, _, _, _ => none
  | n + 1, l0, l1, l2, l3, M =>
  if l1 ≤ l3 then (some (l2, M))
  else (B_X13_begins_9 G F (B_X13_begins_4 G F n) F l0 l1 l2 l3 M)
def P_X13_begins (G : mG) (F : Nat) (l0 : Nat) (l1 : Int32) (M : mM) : Option (Int32 × mM) :=
  B_X13_begins_4 G F F l0 l1 (0 : Int32) (0 : Int32) M
def B_X13_sayWord_6 (G : mG) (F : Nat) : Nat → Nat → Nat → Int32 → mM → Option mM
  | 0, _, _, _, _ => none
  | n + 1, l0, l1, l3, M =>
  bO (rcs G l1) fun _ =>
  bP (P_J0_charAt_5068e G F l1 l3 M) fun v8 M8 =>
  if v8 = (32 : Int32) then (some M8)
  else (bO (rcs G l1) fun _ =>
  bP (P_J0_charAt_5068e G F l1 l3 M8) fun v19 M19 =>
  bO (rcv M19 l0 13) fun _ =>
  bO (P_X13_say G F l0 v19 M19) fun M22 =>
  B_X13_sayWord_6 G F n l0 l1 (l3 + 1) M22)
def P_X13_sayWord (G : mG) (F : Nat) (l0 : Nat) (l1 : Nat) (l2 : Int32) (M : mM) : Option mM :=
  bP (P_X13_begins G F l1 l2 M) fun v2 M2 =>
  B_X13_sayWord_6 G F F l0 l1 v2 M2
def P_X13_wordAt (G : mG) (F : Nat) (l0 : Nat) (l1 : Int32) (l2 : Int32) (l3 : Nat) (M : mM) : Option (Int32 × mM) :=
  bO (gfR M l0 13 15) fun v2 =>
  bO (gfR M l0 13 11) fun v6 =>
  bO (aI G M 0 v6 (((600 : Int32) * l1) + l2)) fun v16 =>
  bO (gfR M l0 13 12) fun v18 =>
  bO (aI G M 0 v18 (((600 : Int32) * l1) + l2)) fun v28 =>
  bP (P_X13_wordOf G F l3 v2 v16 v28 M) fun v29 M29 =>
  some (v29, M29)
def B_X13_isCrit_95 (G : mG) (F : Nat) (r39 : Nat → Int32 → Int32 → Int32 → Int32 → Int32 → mM → Option (Int32 × mM)) : Nat → Nat → Int32 → Int32 → Int32 → Int32 → Int32 → Int32 → mM → Option (Int32 × mM)
  | 0, _, _, _, _, _, _, _, _ => none
  | n + 1, l0, l1, l2, l3, l4, l5, l6, M =>
  if l5 ≤ l6 then (r39 l0 l1 l2 l3 l4 (l5 + 1) M)
  else (if l4 = 0 then (r39 l0 l1 l2 l3 l4 (l5 + 1) M)
  else (bO (gfR M l0 13 7) fun v108 =>
  bO (aI G M 0 v108 l6) fun v113 =>
  if v113 = l2 then (bO (gfR M l0 13 12) fun v119 =>
  bO (aI G M 0 v119 l6) fun v124 =>
  bO (gfR M l0 13 12) fun v126 =>
  bO (aI G M 0 v126 l5) fun v131 =>
  if v124 = v131 then (bO (gfR M l0 13 15) fun v136 =>
  bO (gfR M l0 13 11) fun v140 =>
  bO (aI G M 0 v140 l6) fun v145 =>
  bO (gfR M l0 13 15) fun v147 =>
  bO (gfR M l0 13 11) fun v151 =>
  bO (aI G M 0 v151 l5) fun v156 =>
  bO (gfR M l0 13 12) fun v158 =>
  bO (aI G M 0 v158 l5) fun v163 =>
  bP (P_X13_same G F v136 v145 v147 v156 v163 M) fun v164 M164 =>
  if v164 = 0 then (B_X13_isCrit_95 G F r39 n l0 l1 l2 l3 (1 : Int32) l5 (l6 + 1) M164)
  else (B_X13_isCrit_95 G F r39 n l0 l1 l2 l3 (0 : Int32) l5 (l6 + 1) M164))
  else (B_X13_isCrit_95 G F r39 n l0 l1 l2 l3 (1 : Int32) l5 (l6 + 1) M))
  else (B_X13_isCrit_95 G F r39 n l0 l1 l2 l3 (1 : Int32) l5 (l6 + 1) M)))
def B_X13_isCrit_39 (G : mG) (F : Nat) : Nat → Nat → Int32 → Int32 → Int32 → Int32 → Int32 → mM → Option (Int32 × mM)
  | 0, _, _, _, _, _, _, _ => none
  | n + 1, l0, l1, l2, l3, l4, l5, M =>
  bO (gfR M l0 13 16) fun v47 =>
  bO (aI G M 0 v47 l1) fun v51 =>
  if (((600 : Int32) * l1) + v51) ≤ l5 then (retZ l4 M)
  else (if l4 = 0 then (retZ l4 M)
  else (bO (gfR M l0 13 7) fun v62 =>
  bO (aI G M 0 v62 l5) fun v67 =>
  if v67 = l2 then (bO (gfR M l0 13 6) fun v73 =>
  bO (aI G M 0 v73 l5) fun v78 =>
  if v78 = (4 : Int32) then (B_X13_isCrit_95 G F (B_X13_isCrit_39 G F n) F l0 l1 l2 l3 (1 : Int32) l5 (l3 + (1 : Int32)) M)
  else (B_X13_isCrit_95 G F (B_X13_isCrit_39 G F n) F l0 l1 l2 l3 (0 : Int32) l5 (l3 + (1 : Int32)) M))
  else (B_X13_isCrit_39 G F n l0 l1 l2 l3 l4 (l5 + 1) M)))
def P_X13_isCrit (G : mG) (F : Nat) (l0 : Nat) (l1 : Int32) (l2 : Int32) (M : mM) : Option (Int32 × mM) :=
  bO (gfR M l0 13 6) fun v9 =>
  bO (aI G M 0 v9 (((600 : Int32) * l1) + l2)) fun v13 =>
  if v13 = (5 : Int32) then (bO (gfR M l0 13 10) fun v19 =>
  bO (aI G M 0 v19 (((600 : Int32) * l1) + l2)) fun v23 =>
  if v23 ≤ 0 then (B_X13_isCrit_39 G F F l0 l1 l2 (((600 : Int32) * l1) + l2) (0 : Int32) ((((600 : Int32) * l1) + l2) + (1 : Int32)) M)
  else (B_X13_isCrit_39 G F F l0 l1 l2 (((600 : Int32) * l1) + l2) (1 : Int32) ((((600 : Int32) * l1) + l2) + (1 : Int32)) M))
  else (B_X13_isCrit_39 G F F l0 l1 l2 (((600 : Int32) * l1) + l2) (0 : Int32) ((((600 : Int32) * l1) + l2) + (1 : Int32)) M)
def B_X13_isKnown_79 (G : mG) (F : Nat) (l0 : Nat) (l4 : Int32) (sk0 : Int32) (M : mM) : Option (Int32 × mM) :=
  if sk0 = 0 then (bO (pfZ M l0 13 104 (0 : Int32)) fun M98 =>
  retZ sk0 M98)
  else (if l4 = (1 : Int32) then (bO (pfZ M l0 13 104 (1 : Int32)) fun M98 =>
  retZ sk0 M98)
  else (bO (pfZ M l0 13 104 (0 : Int32)) fun M98 =>
  retZ sk0 M98))
def B_X13_isKnown_30 (G : mG) (F : Nat) (l0 : Nat) (l1 : Int32) (l2 : Int32) (sk0 : Int32) (M : mM) : Option (Int32 × mM) :=
  bO (gfR M l0 13 10) fun v33 =>
  bO (aI G M 0 v33 (((600 : Int32) * l1) + l2)) fun v43 =>
  if v43 = (1 : Int32) then (bO (rcv M l0 13) fun _ =>
  bP (P_X13_says G F l0 l1 (l2 + (1 : Int32)) (G.1 116) M) fun v56 M56 =>
  if v56 = 0 then (B_X13_isKnown_79 G F l0 sk0 (0 : Int32) M56)
  else (if sk0 = (1 : Int32) then (B_X13_isKnown_79 G F l0 sk0 (1 : Int32) M56)
  else (if sk0 = (2 : Int32) then (B_X13_isKnown_79 G F l0 sk0 (1 : Int32) M56)
  else (B_X13_isKnown_79 G F l0 sk0 (0 : Int32) M56))))
  else (B_X13_isKnown_79 G F l0 sk0 (0 : Int32) M)
def P_X13_isKnown (G : mG) (F : Nat) (l0 : Nat) (l1 : Int32) (l2 : Int32) (M : mM) : Option (Int32 × mM) :=
  bO (rcv M l0 13) fun _ =>
  bP (P_X13_memberOf G F l0 l1 (0 : Int32) (G.1 116) M) fun v6 M6 =>
  if 0 ≤ v6 then (bO (gfR M6 l0 13 6) fun v19 =>
  bO (aI G M6 0 v19 (((600 : Int32) * l1) + v6)) fun v29 =>
  B_X13_isKnown_30 G F l0 l1 l2 v29 M6)
  else (B_X13_isKnown_30 G F l0 l1 l2 (0 : Int32) M6)
def B_X13_agreed_231 (G : mG) (F : Nat) (l0 : Nat) (l3 : Int32) (sk0 : Nat) (sk1 : Int32) (M : mM) : Option (Int32 × mM) :=
  bO (pfv M sk0 13 111 (.int sk1)) fun M231 =>
  if l3 = 0 then (some ((-23 : Int32), M231))
  else (bO (gfI M231 l0 13 110) fun v239 =>
  if v239 < 0 then (some ((-23 : Int32), M231))
  else (bO (gfI M231 l0 13 111) fun v246 =>
  if v246 < 0 then (some ((-23 : Int32), M231))
  else (some ((0 : Int32), M231))))
def B_X13_agreed_198 (G : mG) (F : Nat) (l0 : Nat) (l1 : Int32) (l3 : Int32) (sk0 : Nat) (sk1 : Int32) (M : mM) : Option (Int32 × mM) :=
  bO (pfv M sk0 13 110 (.int sk1)) fun M198 =>
  bO (rcv M198 l0 13) fun _ =>
  bP (P_X13_memberOf G F l0 l1 (0 : Int32) (G.1 120) M198) fun v208 M208 =>
  if 0 ≤ v208 then (bO (gfR M208 l0 13 109) fun v225 =>
  bO (rcv M208 l0 13) fun _ =>
  bP (P_X13_bytesOf G F l0 l1 (0 : Int32) (G.1 120) v225 M208) fun v228 M228 =>
  B_X13_agreed_231 G F l0 l3 l0 v228 M228)
  else (B_X13_agreed_231 G F l0 l3 l0 (0 : Int32) M208)
def B_X13_agreed_168 (G : mG) (F : Nat) (l0 : Nat) (l1 : Int32) (l3 : Int32) (M : mM) : Option (Int32 × mM) :=
  bO (rcv M l0 13) fun _ =>
  bP (P_X13_memberOf G F l0 l1 (0 : Int32) (G.1 119) M) fun v175 M175 =>
  if 0 ≤ v175 then (bO (gfR M175 l0 13 108) fun v192 =>
  bO (rcv M175 l0 13) fun _ =>
  bP (P_X13_bytesOf G F l0 l1 (0 : Int32) (G.1 119) v192 M175) fun v195 M195 =>
  B_X13_agreed_198 G F l0 l1 l3 l0 v195 M195)
  else (B_X13_agreed_198 G F l0 l1 l3 l0 (0 : Int32) M175)
def B_X13_agreed_122 (G : mG) (F : Nat) (l0 : Nat) (l1 : Int32) (sk0 : Int32) (M : mM) : Option (Int32 × mM) :=
  if sk0 = 0 then (B_X13_agreed_168 G F l0 l1 sk0 M)
  else (bO (gfR M l0 13 96) fun v128 =>
  bO (gfR M l0 13 107) fun v133 =>
  bO (P_X13_move G F v128 (0 : Int32) v133 (0 : Int32) (32 : Int32) M) fun M139 =>
  bO (gfR M139 l0 13 97) fun v143 =>
  bO (gfR M139 l0 13 107) fun v148 =>
  bO (P_X13_move G F v143 (0 : Int32) v148 (32 : Int32) (32 : Int32) M139) fun M155 =>
  bO (gfR M155 l0 13 107) fun v160 =>
  bO (rcv M155 l0 13) fun _ =>
  bP (P_X13_setPoint G F l0 v160 (0 : Int32) M155) fun v164 M164 =>
  B_X13_agreed_168 G F l0 l1 v164 M164)
def B_X13_agreed_76 (G : mG) (F : Nat) (l0 : Nat) (l1 : Int32) (l2 : Int32) (sk0 : Int32) (M : mM) : Option (Int32 × mM) :=
  if sk0 = 0 then (B_X13_agreed_122 G F l0 l1 (0 : Int32) M)
  else (bO (gfR M l0 13 96) fun v88 =>
  bO (rcv M l0 13) fun _ =>
  bP (P_X13_bytesOf G F l0 l1 l2 (G.1 95) v88 M) fun v91 M91 =>
  if v91 = (32 : Int32) then (bO (gfR M91 l0 13 97) fun v106 =>
  bO (rcv M91 l0 13) fun _ =>
  bP (P_X13_bytesOf G F l0 l1 l2 (G.1 97) v106 M91) fun v109 M109 =>
  if v109 = (32 : Int32) then (B_X13_agreed_122 G F l0 l1 (1 : Int32) M109)
  else (B_X13_agreed_122 G F l0 l1 (0 : Int32) M109))
  else (B_X13_agreed_122 G F l0 l1 (0 : Int32) M91))
def P_X13_agreed (G : mG) (F : Nat) (l0 : Nat) (l1 : Int32) (M : mM) : Option (Int32 × mM) :=
  bO (rcv M l0 13) fun _ =>
  bP (P_X13_memberOf G F l0 l1 (0 : Int32) (G.1 118) M) fun v6 M6 =>
  if v6 < 0 then (B_X13_agreed_76 G F l0 l1 v6 (0 : Int32) M6)
  else (bO (gfR M6 l0 13 6) fun v15 =>
  bO (aI G M6 0 v15 (((600 : Int32) * l1) + v6)) fun v25 =>
  if v25 = (6 : Int32) then (bO (rcv M6 l0 13) fun _ =>
  bP (P_X13_memberOf G F l0 l1 v6 (G.1 84) M6) fun v39 M39 =>
  bO (rcv M39 l0 13) fun _ =>
  bP (P_X13_says G F l0 l1 v39 (G.1 87) M39) fun v45 M45 =>
  if v45 = 0 then (B_X13_agreed_76 G F l0 l1 v6 (0 : Int32) M45)
  else (bO (rcv M45 l0 13) fun _ =>
  bP (P_X13_memberOf G F l0 l1 v6 (G.1 91) M45) fun v59 M59 =>
  bO (rcv M59 l0 13) fun _ =>
  bP (P_X13_says G F l0 l1 v59 (G.1 92) M59) fun v65 M65 =>
  if v65 = 0 then (B_X13_agreed_76 G F l0 l1 v6 (0 : Int32) M65)
  else (B_X13_agreed_76 G F l0 l1 v6 (1 : Int32) M65)))
  else (B_X13_agreed_76 G F l0 l1 v6 (0 : Int32) M6))
def B_X13_headOf_312 (G : mG) (F : Nat) (l0 : Nat) (l4 : Int32) (l5 : Int32) (sk0 : Nat) (sk1 : Int32) (M : mM) : Option (Int32 × mM) :=
  bO (pfv M sk0 13 106 (.int sk1)) fun M312 =>
  bO (gfI M312 l0 13 102) fun v316 =>
  if v316 < 0 then (some ((-25 : Int32), M312))
  else (bO (gfI M312 l0 13 103) fun v323 =>
  if 0 ≤ v323 then (if l4 = 0 then (some ((0 : Int32), M312))
  else (bO (gfI M312 l0 13 102) fun v338 =>
  if v338 ≤ (3 : Int32) then (some ((0 : Int32), M312))
  else (bO (rcv M312 l0 13) fun _ =>
  bP (P_X13_agreed G F l0 l5 M312) fun v348 M348 =>
  some (v348, M348))))
  else (some ((-25 : Int32), M312)))
def B_X13_headOf_285 (G : mG) (F : Nat) (l0 : Nat) (l4 : Int32) (l5 : Int32) (l8 : Int32) (sk0 : Nat) (sk1 : Int32) (M : mM) : Option (Int32 × mM) :=
  bO (pfv M sk0 13 105 (.int sk1)) fun M285 =>
  if 0 ≤ l8 then (bO (gfR M285 l0 13 12) fun v299 =>
  bO (aI G M285 0 v299 (((600 : Int32) * l5) + l8)) fun v311 =>
  B_X13_headOf_312 G F l0 l4 l5 l0 v311 M285)
  else (B_X13_headOf_312 G F l0 l4 l5 l0 (-1 : Int32) M285)
def B_X13_headOf_258 (G : mG) (F : Nat) (l0 : Nat) (l4 : Int32) (l5 : Int32) (l8 : Int32) (sk0 : Nat) (sk1 : Int32) (M : mM) : Option (Int32 × mM) :=
  bO (pfv M sk0 13 103 (.int sk1)) fun M258 =>
  if 0 ≤ l8 then (bO (gfR M258 l0 13 11) fun v272 =>
  bO (aI G M258 0 v272 (((600 : Int32) * l5) + l8)) fun v284 =>
  B_X13_headOf_285 G F l0 l4 l5 l8 l0 v284 M258)
  else (B_X13_headOf_285 G F l0 l4 l5 l8 l0 (0 : Int32) M258)
def B_X13_headOf_231 (G : mG) (F : Nat) (l0 : Nat) (l4 : Int32) (l5 : Int32) (l7 : Int32) (l8 : Int32) (sk0 : Nat) (sk1 : Nat) (sk2 : Int32) (sk3 : Int32) (sk4 : Nat) (M : mM) : Option (Int32 × mM) :=
  bO (rcv M sk1 13) fun _ =>
  bP (P_X13_wordAt G F sk1 sk2 sk3 sk4 M) fun v231 M231 =>
  bO (pfv M231 sk0 13 102 (.int v231)) fun M234 =>
  if l4 = 0 then (B_X13_headOf_258 G F l0 l4 l5 l8 l0 (0 : Int32) M234)
  else (bO (rcv M234 l0 13) fun _ =>
  bP (P_X13_wordAt G F l0 l5 l7 (G.1 111) M234) fun v251 M251 =>
  B_X13_headOf_258 G F l0 l4 l5 l8 l0 v251 M251)
def B_X13_headOf_182 (G : mG) (F : Nat) (l0 : Nat) (l4 : Int32) (l5 : Int32) (l6 : Int32) (l7 : Int32) (l8 : Int32) (l9 : Int32) (M : mM) : Option (Int32 × mM) :=
  bO (pfZ M l0 13 104 (0 : Int32)) fun M184 =>
  if l9 < 0 then (if l4 = 0 then (B_X13_headOf_231 G F l0 l4 l5 l7 l8 l0 l0 l5 l6 (G.1 108) M184)
  else (B_X13_headOf_231 G F l0 l4 l5 l7 l8 l0 l0 l5 l6 (G.1 117) M184))
  else (if l4 = 0 then (bO (rcv M184 l0 13) fun _ =>
  bP (P_X13_isKnown G F l0 l5 l9 M184) fun v202 M202 =>
  if v202 = 0 then (some ((-24 : Int32), M202))
  else (if l4 = 0 then (B_X13_headOf_231 G F l0 l4 l5 l7 l8 l0 l0 l5 l6 (G.1 108) M202)
  else (B_X13_headOf_231 G F l0 l4 l5 l7 l8 l0 l0 l5 l6 (G.1 117) M202)))
  else (some ((-24 : Int32), M184)))
def B_X13_headOf_154 (G : mG) (F : Nat) (l0 : Nat) (l4 : Int32) (l5 : Int32) (l6 : Int32) (l7 : Int32) (l8 : Int32) (l9 : Int32) (sk0 : Int32) (M : mM) : Option (Int32 × mM) :=
  if sk0 = 0 then (some ((-23 : Int32), M))
  else (if l4 = 0 then (B_X13_headOf_182 G F l0 l4 l5 l6 l7 l8 l9 M)
  else (bO (rcv M l0 13) fun _ =>
  bP (P_X13_memberOf G F l0 l5 (0 : Int32) (G.1 115) M) fun v173 M173 =>
  if v173 < 0 then (B_X13_headOf_182 G F l0 l4 l5 l6 l7 l8 l9 M173)
  else (some ((-23 : Int32), M173))))
def B_X13_headOf_133 (G : mG) (F : Nat) (l0 : Nat) (l4 : Int32) (l5 : Int32) (l6 : Int32) (l7 : Int32) (l8 : Int32) (l9 : Int32) (M : mM) : Option (Int32 × mM) :=
  if l9 < 0 then (B_X13_headOf_154 G F l0 l4 l5 l6 l7 l8 l9 (1 : Int32) M)
  else (bO (rcv M l0 13) fun _ =>
  bP (P_X13_isCrit G F l0 l5 l9 M) fun v143 M143 =>
  if v143 = 0 then (B_X13_headOf_154 G F l0 l4 l5 l6 l7 l8 l9 (0 : Int32) M143)
  else (B_X13_headOf_154 G F l0 l4 l5 l6 l7 l8 l9 (1 : Int32) M143))
def P_X13_headOf (G : mG) (F : Nat) (l0 : Nat) (l1 : Nat) (l2 : Int32) (l3 : Int32) (l4 : Int32) (M : mM) : Option (Int32 × mM) :=
  bO (gfI M l0 13 17) fun v2 =>
  bO (rcv M l0 13) fun _ =>
  bP (P_X13_read G F l0 l1 l2 l3 ((1 : Int32) - v2) M) fun v14 M14 =>
  if v14 = 0 then (some ((-22 : Int32), M14))
  else (bO (gfR M14 l0 13 6) fun v24 =>
  bO (aI G M14 0 v24 ((600 : Int32) * ((1 : Int32) - v2))) fun v33 =>
  if v33 = (6 : Int32) then (bO (rcv M14 l0 13) fun _ =>
  bP (P_X13_memberOf G F l0 ((1 : Int32) - v2) (0 : Int32) (G.1 90) M14) fun v49 M49 =>
  bO (rcv M49 l0 13) fun _ =>
  bP (P_X13_memberOf G F l0 ((1 : Int32) - v2) (0 : Int32) (G.1 100) M49) fun v61 M61 =>
  bO (rcv M61 l0 13) fun _ =>
  bP (P_X13_memberOf G F l0 ((1 : Int32) - v2) (0 : Int32) (G.1 88) M61) fun v73 M73 =>
  bO (rcv M73 l0 13) fun _ =>
  bP (P_X13_memberOf G F l0 ((1 : Int32) - v2) (0 : Int32) (G.1 114) M73) fun v85 M85 =>
  bO (rcv M85 l0 13) fun _ =>
  bP (P_X13_isString G F l0 ((1 : Int32) - v2) v49 M85) fun v95 M95 =>
  if v95 = 0 then (B_X13_headOf_154 G F l0 l4 ((1 : Int32) - v2) v49 v61 v73 v85 (0 : Int32) M95)
  else (if l4 = 0 then (if v73 < 0 then (B_X13_headOf_133 G F l0 l4 ((1 : Int32) - v2) v49 v61 v73 v85 M95)
  else (bO (rcv M95 l0 13) fun _ =>
  bP (P_X13_isString G F l0 ((1 : Int32) - v2) v73 M95) fun v127 M127 =>
  if v127 = 0 then (B_X13_headOf_154 G F l0 l4 ((1 : Int32) - v2) v49 v61 v73 v85 (0 : Int32) M127)
  else (B_X13_headOf_133 G F l0 l4 ((1 : Int32) - v2) v49 v61 v73 v85 M127)))
  else (bO (rcv M95 l0 13) fun _ =>
  bP (P_X13_isString G F l0 ((1 : Int32) - v2) v61 M95) fun v111 M111 =>
  if v111 = 0 then (B_X13_headOf_154 G F l0 l4 ((1 : Int32) - v2) v49 v61 v73 v85 (0 : Int32) M111)
  else (if v73 < 0 then (B_X13_headOf_133 G F l0 l4 ((1 : Int32) - v2) v49 v61 v73 v85 M111)
  else (bO (rcv M111 l0 13) fun _ =>
  bP (P_X13_isString G F l0 ((1 : Int32) - v2) v73 M111) fun v127 M127 =>
  if v127 = 0 then (B_X13_headOf_154 G F l0 l4 ((1 : Int32) - v2) v49 v61 v73 v85 (0 : Int32) M127)
  else (B_X13_headOf_133 G F l0 l4 ((1 : Int32) - v2) v49 v61 v73 v85 M127))))))
  else (some ((-23 : Int32), M14)))
def B_X13_lets_37 (G : mG) (F : Nat) (l0 : Nat) (l1 : Int32) (l4 : Int32) (sk0 : Int32) (M : mM) : Option (Int32 × mM) :=
  bO (gfR M l0 13 83) fun v40 =>
  bO (aI G M 3 v40 l1) fun v44 =>
  if v44 = 0 then (retZ (0 : Int32) M)
  else (if sk0 = 0 then (retZ (0 : Int32) M)
  else (bO (gfR M l0 13 91) fun v54 =>
  bO (aI G M 0 v54 l1) fun v58 =>
  if v58 = 0 then (retZ (1 : Int32) M)
  else (bO (gfR M l0 13 91) fun v63 =>
  bO (aI G M 0 v63 l1) fun v67 =>
  if v67 = l4 then (retZ (1 : Int32) M)
  else (retZ (0 : Int32) M))))
def P_X13_lets (G : mG) (F : Nat) (l0 : Nat) (l1 : Int32) (l2 : Nat) (l3 : Int32) (l4 : Int32) (M : mM) : Option (Int32 × mM) :=
  bO (gfR M l0 13 95) fun v1 =>
  bO (aI G M 0 v1 l1) fun v5 =>
  if v5 < 0 then (B_X13_lets_37 G F l0 l1 l4 (1 : Int32) M)
  else (bO (gfR M l0 13 94) fun v11 =>
  bO (gfR M l0 13 95) fun v20 =>
  bO (aI G M 0 v20 l1) fun v24 =>
  bP (P_X13_wordOf G F l2 v11 ((8200 : Int32) * l1) v24 M) fun v25 M25 =>
  if v25 = l3 then (B_X13_lets_37 G F l0 l1 l4 (1 : Int32) M25)
  else (B_X13_lets_37 G F l0 l1 l4 (0 : Int32) M25))
def B_X13_maySign_51 (G : mG) (F : Nat) (l0 : Nat) (l1 : Int32) (l2 : Int32) (l3 : Int32) (l4 : Int32) (sk0 : Int32) (M : mM) : Option (Int32 × mM) :=
  bO (rcv M l0 13) fun _ =>
  bP (P_X13_lets G F l0 l1 (G.1 108) l2 (1 : Int32) M) fun v60 M60 =>
  if v60 = 0 then (retZ (0 : Int32) M60)
  else (bO (gfR M60 l0 13 84) fun v67 =>
  bO (aI G M60 0 v67 l1) fun v71 =>
  if v71 = l4 then (bO (gfR M60 l0 13 86) fun v78 =>
  bO (aI G M60 0 v78 l1) fun v82 =>
  if v82 < sk0 then (retZ (0 : Int32) M60)
  else (if l3 = 0 then (retZ (1 : Int32) M60)
  else (if l4 = 0 then (retZ (1 : Int32) M60)
  else (bO (gfR M60 l0 13 90) fun v98 =>
  bO (aI G M60 0 v98 l1) fun v102 =>
  if v102 ≤ 0 then (retZ (0 : Int32) M60)
  else (retZ (1 : Int32) M60)))))
  else (retZ (0 : Int32) M60))
def B_X13_maySign_19 (G : mG) (F : Nat) (l0 : Nat) (l1 : Int32) (l2 : Int32) (l3 : Int32) (sk0 : Int32) (M : mM) : Option (Int32 × mM) :=
  if l2 = 0 then (B_X13_maySign_51 G F l0 l1 l2 l3 sk0 (32 : Int32) M)
  else (if l2 = (1 : Int32) then (B_X13_maySign_51 G F l0 l1 l2 l3 sk0 (64 : Int32) M)
  else (if l2 = (3 : Int32) then (B_X13_maySign_51 G F l0 l1 l2 l3 sk0 (67 : Int32) M)
  else (B_X13_maySign_51 G F l0 l1 l2 l3 sk0 (0 : Int32) M)))
def P_X13_maySign (G : mG) (F : Nat) (l0 : Nat) (l1 : Int32) (l2 : Int32) (l3 : Int32) (M : mM) : Option (Int32 × mM) :=
  if (2 : Int32) ≤ l2 then (if (4 : Int32) ≤ l2 then (B_X13_maySign_19 G F l0 l1 l2 l3 (2 : Int32) M)
  else (B_X13_maySign_19 G F l0 l1 l2 l3 (1 : Int32) M))
  else (B_X13_maySign_19 G F l0 l1 l2 l3 (0 : Int32) M)
def P_X13_digestNumber (G : mG) (F : Nat) (l0 : Nat) (M : mM) : Option mM :=
  bO (rcv M l0 13) fun _ =>
  bO (P_X13_digestMessage G F l0 M) fun M1 =>
  bO (gfR M1 l0 13 59) fun v5 =>
  bO (gfR M1 l0 13 35) fun v9 =>
  bO (gfR M1 l0 13 116) fun v16 =>
  bO (rcv M1 v5 12) fun _ =>
  bO (P_X12_reduce G F v5 v9 (0 : Int32) (32 : Int32) v16 M1) fun M19 =>
  bO (gfR M19 l0 13 59) fun v23 =>
  bO (gfR M19 l0 13 116) fun v27 =>
  bO (gfR M19 l0 13 116) fun v31 =>
  bO (rcv M19 v23 12) fun _ =>
  bO (P_X12_into G F v23 v27 v31 M19) fun M34 =>
  some M34
def B_X13_signPoint_340 (G : mG) (F : Nat) (l0 : Nat) (l4 : Int32) (sk0 : Int32) (M : mM) : Option (Int32 × mM) :=
  bO (gfR M l0 13 59) fun v343 =>
  bO (gfR M l0 13 118) fun v347 =>
  bO (gfR M l0 13 112) fun v351 =>
  bO (rcv M v343 12) fun _ =>
  bO (P_X12_store G F v343 v347 v351 (32 : Int32) (32 : Int32) M) fun M358 =>
  bO (pfv M358 l0 13 113 (.int (64 : Int32))) fun M364 =>
  if sk0 = 0 then (if l4 = 0 then (some ((-4 : Int32), M364))
  else (some ((0 : Int32), M364)))
  else (some ((-4 : Int32), M364))
def B_X13_signPoint_78 (G : mG) (F : Nat) (l0 : Nat) (l1 : Int32) (l3 : Int32) (sk0 : Int32) (M : mM) : Option (Int32 × mM) :=
  bO (gfR M l0 13 59) fun v81 =>
  bO (gfR M l0 13 79) fun v85 =>
  bO (gfR M l0 13 117) fun v92 =>
  bO (rcv M v81 12) fun _ =>
  bO (P_X12_reduce G F v81 v85 (0 : Int32) (32 : Int32) v92 M) fun M95 =>
  bO (gfR M95 l0 13 59) fun v99 =>
  bO (gfR M95 l0 13 117) fun v103 =>
  bO (gfR M95 l0 13 112) fun v107 =>
  bO (rcv M95 v99 12) fun _ =>
  bO (P_X12_store G F v99 v103 v107 (0 : Int32) (32 : Int32) M95) fun M113 =>
  bO (gfR M113 l0 13 59) fun v117 =>
  bO (gfR M113 l0 13 117) fun v121 =>
  bO (rcv M113 v117 12) fun _ =>
  bP (P_X12_isZero G F v117 v121 M113) fun v124 M124 =>
  bO (gfR M124 l0 13 59) fun v130 =>
  bO (gfR M124 l0 13 117) fun v134 =>
  bO (gfR M124 l0 13 117) fun v138 =>
  bO (rcv M124 v130 12) fun _ =>
  bO (P_X12_into G F v130 v134 v138 M124) fun M141 =>
  bO (gfR M141 l0 13 59) fun v145 =>
  bO (gfR M141 l0 13 89) fun v149 =>
  bO (gfR M141 l0 13 118) fun v160 =>
  bO (rcv M141 v145 12) fun _ =>
  bO (P_X12_load G F v145 v149 ((128 : Int32) * l1) (32 : Int32) v160 M141) fun M163 =>
  bO (gfR M163 l0 13 59) fun v167 =>
  bO (gfR M163 l0 13 118) fun v171 =>
  bO (gfR M163 l0 13 118) fun v175 =>
  bO (rcv M163 v167 12) fun _ =>
  bO (P_X12_into G F v167 v171 v175 M163) fun M178 =>
  bO (gfR M178 l0 13 59) fun v182 =>
  bO (gfR M178 l0 13 117) fun v186 =>
  bO (gfR M178 l0 13 118) fun v190 =>
  bO (gfR M178 l0 13 118) fun v194 =>
  bO (rcv M178 v182 12) fun _ =>
  bO (P_X12_product G F v182 v186 v190 v194 M178) fun M197 =>
  bO (gfR M197 l0 13 59) fun v201 =>
  bO (gfR M197 l0 13 118) fun v205 =>
  bO (gfR M197 l0 13 116) fun v209 =>
  bO (gfR M197 l0 13 118) fun v213 =>
  bO (rcv M197 v201 12) fun _ =>
  bO (P_X12_add G F v201 v205 v209 v213 M197) fun M216 =>
  bO (gfR M216 l0 13 59) fun v220 =>
  bO (gfR M216 l0 13 2) fun v224 =>
  bO (gfR M216 l0 13 60) fun v231 =>
  bO (rcv M216 v220 12) fun _ =>
  bO (P_X12_load G F v220 v224 l3 (32 : Int32) v231 M216) fun M234 =>
  bO (gfR M234 l0 13 59) fun v238 =>
  bO (gfR M234 l0 13 60) fun v242 =>
  bO (gfR M234 l0 13 60) fun v246 =>
  bO (rcv M234 v238 12) fun _ =>
  bO (P_X12_into G F v238 v242 v246 M234) fun M249 =>
  bO (gfR M249 l0 13 64) fun v254 =>
  bO (rcv M249 l0 13) fun _ =>
  bO (P_X13_setLessTwo G F l0 v254 M249) fun M257 =>
  bO (gfR M257 l0 13 59) fun v261 =>
  bO (gfR M257 l0 13 60) fun v265 =>
  bO (gfR M257 l0 13 67) fun v269 =>
  bO (gfR M257 l0 13 60) fun v276 =>
  bO (rcv M257 v261 12) fun _ =>
  bO (P_X12_power G F v261 v265 v269 (0 : Int32) (32 : Int32) v276 M257) fun M279 =>
  bO (gfR M279 l0 13 59) fun v283 =>
  bO (gfR M279 l0 13 118) fun v287 =>
  bO (gfR M279 l0 13 60) fun v291 =>
  bO (gfR M279 l0 13 118) fun v295 =>
  bO (rcv M279 v283 12) fun _ =>
  bO (P_X12_product G F v283 v287 v291 v295 M279) fun M298 =>
  bO (gfR M298 l0 13 59) fun v302 =>
  bO (gfR M298 l0 13 118) fun v306 =>
  bO (gfR M298 l0 13 118) fun v310 =>
  bO (rcv M298 v302 12) fun _ =>
  bO (P_X12_outOf G F v302 v306 v310 M298) fun M313 =>
  if v124 = 0 then (bO (gfR M313 l0 13 59) fun v322 =>
  bO (gfR M313 l0 13 118) fun v326 =>
  bO (rcv M313 v322 12) fun _ =>
  bP (P_X12_isZero G F v322 v326 M313) fun v329 M329 =>
  if v329 = 0 then (B_X13_signPoint_340 G F l0 sk0 (0 : Int32) M329)
  else (B_X13_signPoint_340 G F l0 sk0 (1 : Int32) M329))
  else (B_X13_signPoint_340 G F l0 sk0 (1 : Int32) M313)
def P_X13_signPoint (G : mG) (F : Nat) (l0 : Nat) (l1 : Int32) (l2 : Int32) (M : mM) : Option (Int32 × mM) :=
  bO (gfR M l0 13 3) fun v7 =>
  bO (aI G M 0 v7 l2) fun v11 =>
  if v11 < (32 : Int32) then (some ((-4 : Int32), M))
  else (bO (gfR M l0 13 2) fun v19 =>
  bO (rcv M l0 13) fun _ =>
  bP (P_X13_isSecret G F l0 v19 ((8192 : Int32) * l2) M) fun v23 M23 =>
  if v23 = 0 then (some ((-4 : Int32), M23))
  else (bO (rcv M23 l0 13) fun _ =>
  bO (P_X13_digestNumber G F l0 M23) fun M33 =>
  bO (gfR M33 l0 13 65) fun v38 =>
  bO (rcv M33 l0 13) fun _ =>
  bP (P_X13_setPoint G F l0 v38 (0 : Int32) M33) fun v42 M42 =>
  bO (gfR M42 l0 13 2) fun v49 =>
  bO (rcv M42 l0 13) fun _ =>
  bO (P_X13_times_ G F l0 v49 ((8192 : Int32) * l2) M42) fun M53 =>
  if v42 = 0 then (B_X13_signPoint_78 G F l0 l1 ((8192 : Int32) * l2) (0 : Int32) M53)
  else (bO (gfR M53 l0 13 79) fun v63 =>
  bO (rcv M53 l0 13) fun _ =>
  bP (P_X13_getPoint G F l0 v63 (0 : Int32) M53) fun v67 M67 =>
  if v67 = 0 then (B_X13_signPoint_78 G F l0 l1 ((8192 : Int32) * l2) (0 : Int32) M67)
  else (B_X13_signPoint_78 G F l0 l1 ((8192 : Int32) * l2) (1 : Int32) M67))))
def B_X13_signIt_140 (G : mG) (F : Nat) (l0 : Nat) (l1 : Int32) (l4 : Int32) (M : mM) : Option (Int32 × mM) :=
  bO (gfR M l0 13 82) fun v142 =>
  bO (gfR M l0 13 89) fun v149 =>
  bO (gfR M l0 13 90) fun v158 =>
  bO (aI G M 0 v158 l1) fun v162 =>
  bO (gfR M l0 13 85) fun v164 =>
  bO (rcv M l0 13) fun _ =>
  bO (P_X13_raise G F l0 v142 (0 : Int32) l4 v149 ((128 : Int32) * l1) v162 v164 ((128 : Int32) * l1) l4 M) fun M174 =>
  bO (pfv M174 l0 13 113 (.int l4)) fun M180 =>
  bO (gfR M180 l0 13 62) fun v184 =>
  bO (gfR M180 l0 13 112) fun v189 =>
  bO (P_X13_move G F v184 (0 : Int32) v189 (0 : Int32) l4 M180) fun M195 =>
  some ((0 : Int32), M195)
def B_X13_signIt_95 (G : mG) (F : Nat) (l0 : Nat) (l1 : Int32) (l2 : Int32) (l3 : Int32) (l4 : Int32) (M : mM) : Option (Int32 × mM) :=
  if l2 = (3 : Int32) then (bO (gfR M l0 13 2) fun v102 =>
  bO (gfR M l0 13 85) fun v111 =>
  bP (P_X13_bitsOf G F v111 ((128 : Int32) * l1) l4 M) fun v121 M121 =>
  bO (rcv M121 l0 13) fun _ =>
  bO (P_X13_saltOut G F l0 v102 ((8192 : Int32) * l3) (v121 - (1 : Int32)) l4 M121) fun M128 =>
  B_X13_signIt_140 G F l0 l1 l4 M128)
  else (bO (rcv M l0 13) fun _ =>
  bO (P_X13_fillOut G F l0 l4 M) fun M137 =>
  B_X13_signIt_140 G F l0 l1 l4 M137)
def B_X13_signIt_28 (G : mG) (F : Nat) (l0 : Nat) (l1 : Int32) (l4 : Int32) (sk0 : Nat) (sk1 : Nat) (sk2 : Int32) (M : mM) : Option (Int32 × mM) :=
  bO (gfR M l0 13 85) fun v29 =>
  bO (rcv M sk1 13) fun _ =>
  bP (P_X13_codeOf G F sk1 sk2 v29 ((128 : Int32) * l1) l4 M) fun v39 M39 =>
  bO (pfv M39 sk0 13 113 (.int v39)) fun M42 =>
  bO (gfR M42 l0 13 35) fun v46 =>
  bO (gfR M42 l0 13 112) fun v51 =>
  bO (gfI M42 l0 13 113) fun v56 =>
  bO (P_X13_move G F v46 (0 : Int32) v51 (0 : Int32) v56 M42) fun M59 =>
  some ((0 : Int32), M59)
def P_X13_signIt (G : mG) (F : Nat) (l0 : Nat) (l1 : Int32) (l2 : Int32) (l3 : Int32) (M : mM) : Option (Int32 × mM) :=
  bO (gfR M l0 13 86) fun v1 =>
  bO (aI G M 0 v1 l1) fun v5 =>
  if (2 : Int32) ≤ l2 then (if l2 = (4 : Int32) then (bO (rcv M l0 13) fun _ =>
  bP (P_X13_signPoint G F l0 l1 l3 M) fun v72 M72 =>
  some (v72, M72))
  else (if l2 = (3 : Int32) then (bO (gfR M l0 13 3) fun v82 =>
  bO (aI G M 0 v82 l3) fun v86 =>
  if (32 : Int32) ≤ v86 then (B_X13_signIt_95 G F l0 l1 l2 l3 v5 M)
  else (some ((-4 : Int32), M)))
  else (B_X13_signIt_95 G F l0 l1 l2 l3 v5 M)))
  else (if l2 = 0 then (B_X13_signIt_28 G F l0 l1 v5 l0 l0 (256 : Int32) M)
  else (B_X13_signIt_28 G F l0 l1 v5 l0 l0 (512 : Int32) M))
def B_X13_isSignedPoint_361 (G : mG) (F : Nat) (l0 : Nat) (l2 : Int32) (M : mM) : Option (Int32 × mM) :=
  if l2 = 0 then (retZ (0 : Int32) M)
  else (bO (gfR M l0 13 79) fun v367 =>
  bO (rcv M l0 13) fun _ =>
  bP (P_X13_getPoint G F l0 v367 (0 : Int32) M) fun v371 M371 =>
  if v371 = 0 then (retZ (0 : Int32) M371)
  else (bO (gfR M371 l0 13 59) fun v380 =>
  bO (gfR M371 l0 13 79) fun v384 =>
  bO (gfR M371 l0 13 60) fun v391 =>
  bO (rcv M371 v380 12) fun _ =>
  bO (P_X12_reduce G F v380 v384 (0 : Int32) (32 : Int32) v391 M371) fun M394 =>
  bO (gfR M394 l0 13 59) fun v398 =>
  bO (gfR M394 l0 13 112) fun v402 =>
  bO (gfR M394 l0 13 61) fun v409 =>
  bO (rcv M394 v398 12) fun _ =>
  bO (P_X12_load G F v398 v402 (0 : Int32) (32 : Int32) v409 M394) fun M412 =>
  bO (gfR M412 l0 13 59) fun v416 =>
  bO (gfR M412 l0 13 60) fun v420 =>
  bO (gfR M412 l0 13 61) fun v424 =>
  bO (rcv M412 v416 12) fun _ =>
  bP (P_X12_order G F v416 v420 v424 M412) fun v427 M427 =>
  if v427 = 0 then (retZ (1 : Int32) M427)
  else (retZ (0 : Int32) M427)))
def B_X13_isSignedPoint_321 (G : mG) (F : Nat) (l0 : Nat) (l3 : Int32) (sk0 : Int32) (M : mM) : Option (Int32 × mM) :=
  bO (gfR M l0 13 114) fun v324 =>
  bO (rcv M l0 13) fun _ =>
  bO (P_X13_times_ G F l0 v324 (0 : Int32) M) fun M328 =>
  if l3 = 0 then (B_X13_isSignedPoint_361 G F l0 sk0 M328)
  else (if sk0 = 0 then (bO (rcv M328 l0 13) fun _ =>
  bO (P_X13_addPoint G F l0 M328) fun M358 =>
  B_X13_isSignedPoint_361 G F l0 (0 : Int32) M358)
  else (bO (gfR M328 l0 13 115) fun v341 =>
  bO (rcv M328 l0 13) fun _ =>
  bP (P_X13_setPoint G F l0 v341 (0 : Int32) M328) fun v345 M345 =>
  if v345 = 0 then (bO (rcv M345 l0 13) fun _ =>
  bO (P_X13_addPoint G F l0 M345) fun M358 =>
  B_X13_isSignedPoint_361 G F l0 (0 : Int32) M358)
  else (bO (rcv M345 l0 13) fun _ =>
  bO (P_X13_addPoint G F l0 M345) fun M358 =>
  B_X13_isSignedPoint_361 G F l0 (1 : Int32) M358)))
def P_X13_isSignedPoint (G : mG) (F : Nat) (l0 : Nat) (l1 : Int32) (M : mM) : Option (Int32 × mM) :=
  bO (gfR M l0 13 112) fun v2 =>
  bO (rcv M l0 13) fun _ =>
  bP (P_X13_isSecret G F l0 v2 (0 : Int32) M) fun v6 M6 =>
  if v6 = 0 then (retZ (0 : Int32) M6)
  else (bO (gfR M6 l0 13 112) fun v14 =>
  bO (rcv M6 l0 13) fun _ =>
  bP (P_X13_isSecret G F l0 v14 (32 : Int32) M6) fun v19 M19 =>
  if v19 = 0 then (retZ (0 : Int32) M19)
  else (bO (rcv M19 l0 13) fun _ =>
  bO (P_X13_digestNumber G F l0 M19) fun M28 =>
  bO (gfR M28 l0 13 59) fun v32 =>
  bO (gfR M28 l0 13 112) fun v36 =>
  bO (gfR M28 l0 13 117) fun v43 =>
  bO (rcv M28 v32 12) fun _ =>
  bO (P_X12_load G F v32 v36 (0 : Int32) (32 : Int32) v43 M28) fun M46 =>
  bO (gfR M46 l0 13 59) fun v50 =>
  bO (gfR M46 l0 13 117) fun v54 =>
  bO (gfR M46 l0 13 117) fun v58 =>
  bO (rcv M46 v50 12) fun _ =>
  bO (P_X12_into G F v50 v54 v58 M46) fun M61 =>
  bO (gfR M61 l0 13 59) fun v65 =>
  bO (gfR M61 l0 13 112) fun v69 =>
  bO (gfR M61 l0 13 118) fun v77 =>
  bO (rcv M61 v65 12) fun _ =>
  bO (P_X12_load G F v65 v69 (32 : Int32) (32 : Int32) v77 M61) fun M80 =>
  bO (gfR M80 l0 13 59) fun v84 =>
  bO (gfR M80 l0 13 118) fun v88 =>
  bO (gfR M80 l0 13 118) fun v92 =>
  bO (rcv M80 v84 12) fun _ =>
  bO (P_X12_into G F v84 v88 v92 M80) fun M95 =>
  bO (gfR M95 l0 13 64) fun v100 =>
  bO (rcv M95 l0 13) fun _ =>
  bO (P_X13_setLessTwo G F l0 v100 M95) fun M103 =>
  bO (gfR M103 l0 13 59) fun v107 =>
  bO (gfR M103 l0 13 118) fun v111 =>
  bO (gfR M103 l0 13 67) fun v115 =>
  bO (gfR M103 l0 13 118) fun v122 =>
  bO (rcv M103 v107 12) fun _ =>
  bO (P_X12_power G F v107 v111 v115 (0 : Int32) (32 : Int32) v122 M103) fun M125 =>
  bO (gfR M125 l0 13 59) fun v129 =>
  bO (gfR M125 l0 13 116) fun v133 =>
  bO (gfR M125 l0 13 118) fun v137 =>
  bO (gfR M125 l0 13 116) fun v141 =>
  bO (rcv M125 v129 12) fun _ =>
  bO (P_X12_product G F v129 v133 v137 v141 M125) fun M144 =>
  bO (gfR M144 l0 13 59) fun v148 =>
  bO (gfR M144 l0 13 117) fun v152 =>
  bO (gfR M144 l0 13 118) fun v156 =>
  bO (gfR M144 l0 13 117) fun v160 =>
  bO (rcv M144 v148 12) fun _ =>
  bO (P_X12_product G F v148 v152 v156 v160 M144) fun M163 =>
  bO (gfR M163 l0 13 59) fun v167 =>
  bO (gfR M163 l0 13 116) fun v171 =>
  bO (gfR M163 l0 13 116) fun v175 =>
  bO (rcv M163 v167 12) fun _ =>
  bO (P_X12_outOf G F v167 v171 v175 M163) fun M178 =>
  bO (gfR M178 l0 13 59) fun v182 =>
  bO (gfR M178 l0 13 117) fun v186 =>
  bO (gfR M178 l0 13 117) fun v190 =>
  bO (rcv M178 v182 12) fun _ =>
  bO (P_X12_outOf G F v182 v186 v190 M178) fun M193 =>
  bO (gfR M193 l0 13 59) fun v197 =>
  bO (gfR M193 l0 13 116) fun v201 =>
  bO (gfR M193 l0 13 114) fun v205 =>
  bO (rcv M193 v197 12) fun _ =>
  bO (P_X12_store G F v197 v201 v205 (0 : Int32) (32 : Int32) M193) fun M211 =>
  bO (gfR M211 l0 13 65) fun v216 =>
  bO (rcv M211 l0 13) fun _ =>
  bP (P_X13_setPoint G F l0 v216 (0 : Int32) M211) fun v220 M220 =>
  bO (gfR M220 l0 13 114) fun v226 =>
  bO (rcv M220 l0 13) fun _ =>
  bO (P_X13_times_ G F l0 v226 (0 : Int32) M220) fun M230 =>
  bO (gfR M230 l0 13 115) fun v235 =>
  bO (rcv M230 l0 13) fun _ =>
  bP (P_X13_getPoint G F l0 v235 (0 : Int32) M230) fun v239 M239 =>
  bO (gfR M239 l0 13 59) fun v244 =>
  bO (gfR M239 l0 13 117) fun v248 =>
  bO (gfR M239 l0 13 114) fun v252 =>
  bO (rcv M239 v244 12) fun _ =>
  bO (P_X12_store G F v244 v248 v252 (0 : Int32) (32 : Int32) M239) fun M258 =>
  bO (gfR M258 l0 13 85) fun v262 =>
  bO (gfR M258 l0 13 79) fun v271 =>
  bO (P_X13_move G F v262 ((128 : Int32) * l1) v271 (0 : Int32) (32 : Int32) M258) fun M277 =>
  bO (gfR M277 l0 13 87) fun v281 =>
  bO (gfR M277 l0 13 79) fun v290 =>
  bO (P_X13_move G F v281 ((128 : Int32) * l1) v290 (32 : Int32) (32 : Int32) M277) fun M297 =>
  if v220 = 0 then (B_X13_isSignedPoint_321 G F l0 v239 (0 : Int32) M297)
  else (bO (gfR M297 l0 13 79) fun v306 =>
  bO (rcv M297 l0 13) fun _ =>
  bP (P_X13_setPoint G F l0 v306 (0 : Int32) M297) fun v310 M310 =>
  if v310 = 0 then (B_X13_isSignedPoint_321 G F l0 v239 (0 : Int32) M310)
  else (B_X13_isSignedPoint_321 G F l0 v239 (1 : Int32) M310))))
def B_X13_isBelow_46 (G : mG) (F : Nat) (l0 : Nat) (l1 : Nat) (l2 : Int32) (l3 : Int32) (l4 : Int32) (l5 : Int32) (M : mM) : Option (Int32 × mM) :=
  if l4 ≤ l5 then (retZ (0 : Int32) M)
  else (bO (aI G M 1 l1 (l2 + l5)) fun v58 =>
  bO (gfR M l0 13 85) fun v64 =>
  bO (aI G M 1 v64 (((128 : Int32) * l3) + l5)) fun v75 =>
  if (v75 &&& (255 : Int32)) ≤ (v58 &&& (255 : Int32)) then (retZ (0 : Int32) M)
  else (retZ (1 : Int32) M))
def B_X13_isBelow_11 (G : mG) (F : Nat) : Nat → Nat → Nat → Int32 → Int32 → Int32 → Int32 → mM → Option (Int32 × mM)
  | 0, _, _, _, _, _, _, _ => none
  | n + 1, l0, l1, l2, l3, l4, l5, M =>
  if l4 ≤ l5 then (B_X13_isBelow_46 G F l0 l1 l2 l3 l4 l5 M)
  else (bO (aI G M 1 l1 (l2 + l5)) fun v23 =>
  bO (gfR M l0 13 85) fun v25 =>
  bO (aI G M 1 v25 (((128 : Int32) * l3) + l5)) fun v36 =>
  if v23 = v36 then (B_X13_isBelow_11 G F n l0 l1 l2 l3 l4 (l5 + 1) M)
  else (B_X13_isBelow_46 G F l0 l1 l2 l3 l4 l5 M))
def P_X13_isBelow (G : mG) (F : Nat) (l0 : Nat) (l1 : Nat) (l2 : Int32) (l3 : Int32) (M : mM) : Option (Int32 × mM) :=
  bO (gfR M l0 13 86) fun v1 =>
  bO (aI G M 0 v1 l3) fun v5 =>
  B_X13_isBelow_11 G F F l0 l1 l2 l3 v5 (0 : Int32) M
def B_X13_isSigned_26 (G : mG) (F : Nat) (l0 : Nat) (l1 : Int32) (l3 : Int32) (sk0 : Nat) (sk1 : Int32) (M : mM) : Option (Int32 × mM) :=
  bO (gfR M l0 13 85) fun v27 =>
  bO (rcv M sk0 13) fun _ =>
  bP (P_X13_codeOf G F sk0 sk1 v27 ((128 : Int32) * l1) l3 M) fun v36 M36 =>
  bO (gfI M36 l0 13 113) fun v42 =>
  if v42 = v36 then (bO (gfR M36 l0 13 112) fun v51 =>
  bO (gfR M36 l0 13 35) fun v56 =>
  bP (P_X13_same G F v51 (0 : Int32) v56 (0 : Int32) v36 M36) fun v62 M62 =>
  if v62 = 0 then (retZ (0 : Int32) M62)
  else (retZ (1 : Int32) M62))
  else (retZ (0 : Int32) M36)
def P_X13_isSigned (G : mG) (F : Nat) (l0 : Nat) (l1 : Int32) (l2 : Int32) (M : mM) : Option (Int32 × mM) :=
  bO (gfR M l0 13 86) fun v1 =>
  bO (aI G M 0 v1 l1) fun v5 =>
  if (2 : Int32) ≤ l2 then (if l2 = (4 : Int32) then (bO (gfI M l0 13 113) fun v80 =>
  if v80 = (64 : Int32) then (bO (rcv M l0 13) fun _ =>
  bP (P_X13_isSignedPoint G F l0 l1 M) fun v90 M90 =>
  if v90 = 0 then (retZ (0 : Int32) M90)
  else (retZ (1 : Int32) M90))
  else (retZ (0 : Int32) M))
  else (bO (gfI M l0 13 113) fun v103 =>
  if v103 = v5 then (bO (gfR M l0 13 112) fun v112 =>
  bO (rcv M l0 13) fun _ =>
  bP (P_X13_isBelow G F l0 v112 (0 : Int32) l1 M) fun v117 M117 =>
  if v117 = 0 then (retZ (0 : Int32) M117)
  else (bO (gfR M117 l0 13 112) fun v127 =>
  bO (gfR M117 l0 13 87) fun v133 =>
  bO (gfR M117 l0 13 88) fun v142 =>
  bO (aI G M117 0 v142 l1) fun v146 =>
  bO (gfR M117 l0 13 85) fun v148 =>
  bO (rcv M117 l0 13) fun _ =>
  bO (P_X13_raise G F l0 v127 (0 : Int32) v5 v133 ((128 : Int32) * l1) v146 v148 ((128 : Int32) * l1) v5 M117) fun M157 =>
  if l2 = (3 : Int32) then (bO (gfR M157 l0 13 85) fun v167 =>
  bP (P_X13_bitsOf G F v167 ((128 : Int32) * l1) v5 M157) fun v176 M176 =>
  bO (rcv M176 l0 13) fun _ =>
  bP (P_X13_isSalted G F l0 (v176 - (1 : Int32)) v5 M176) fun v182 M182 =>
  retZ v182 M182)
  else (bO (rcv M157 l0 13) fun _ =>
  bO (P_X13_fillOut G F l0 v5 M157) fun M188 =>
  bO (gfR M188 l0 13 62) fun v192 =>
  bO (gfR M188 l0 13 82) fun v197 =>
  bP (P_X13_same G F v192 (0 : Int32) v197 (0 : Int32) v5 M188) fun v202 M202 =>
  retZ v202 M202)))
  else (retZ (0 : Int32) M)))
  else (if l2 = 0 then (B_X13_isSigned_26 G F l0 l1 v5 l0 (256 : Int32) M)
  else (B_X13_isSigned_26 G F l0 l1 v5 l0 (512 : Int32) M))
def B_X13_sayHead_51 (G : mG) (F : Nat) (l0 : Nat) (l1 : Int32) (M : mM) : Option mM :=
  bO (gfR M l0 13 93) fun v52 =>
  bO (aI G M 0 v52 l1) fun v56 =>
  if v56 < 0 then (some M)
  else (bO (rcv M l0 13) fun _ =>
  bO (P_X13_sayAll G F l0 (G.1 112) M) fun M64 =>
  bO (gfR M64 l0 13 92) fun v69 =>
  bO (gfR M64 l0 13 93) fun v78 =>
  bO (aI G M64 0 v78 l1) fun v82 =>
  bO (rcv M64 l0 13) fun _ =>
  bO (P_X13_sayString G F l0 v69 ((8200 : Int32) * l1) v82 M64) fun M83 =>
  some M83)
def P_X13_sayHead (G : mG) (F : Nat) (l0 : Nat) (l1 : Int32) (l2 : Nat) (l3 : Int32) (l4 : Int32) (M : mM) : Option mM :=
  bO (pfv M l0 13 28 (.int (0 : Int32))) fun M2 =>
  bO (rcv M2 l0 13) fun _ =>
  bO (P_X13_sayAll G F l0 (G.1 109) M2) fun M9 =>
  bO (rcv M9 l0 13) fun _ =>
  bO (P_X13_sayWord G F l0 l2 l3 M9) fun M15 =>
  bO (rcv M15 l0 13) fun _ =>
  bO (P_X13_say G F l0 (34 : Int32) M15) fun M21 =>
  if l4 < 0 then (B_X13_sayHead_51 G F l0 l1 M21)
  else (bO (rcv M21 l0 13) fun _ =>
  bO (P_X13_sayAll G F l0 (G.1 110) M21) fun M33 =>
  bO (rcv M33 l0 13) fun _ =>
  bO (P_X13_sayWord G F l0 (G.1 111) l4 M33) fun M42 =>
  bO (rcv M42 l0 13) fun _ =>
  bO (P_X13_say G F l0 (34 : Int32) M42) fun M48 =>
  B_X13_sayHead_51 G F l0 l1 M48)
def B_X13_addLetters_36 (G : mG) (F : Nat) (r9 : Nat → Nat → Int32 → Int32 → Int32 → Int32 → Int32 → mM → Option mM) : Nat → Nat → Nat → Int32 → Int32 → Int32 → Int32 → Int32 → mM → Option mM
  | 0, _, _, _, _, _, _, _, _ => none
  | n + 1, l0, l1, l2, l3, l4, l5, l6, M =>
  if l5 < (6 : Int32) then (r9 l0 l1 l2 l3 l4 l5 (l6 + 1) M)
  else (bO (gfR M l0 13 121) fun v47 =>
  bO (gfI M l0 13 122) fun v51 =>
  bP (P_X13_letterOf G F ((l4 >>> ((l5 + (-6)) &&& 31)) &&& (63 : Int32)) M) fun v62 M62 =>
  bO (sI M62 1 v47 v51 ((v62.toInt8.toInt32).toInt8.toInt32)) fun M66 =>
  bO (gfI M66 l0 13 122) fun v69 =>
  bO (pfv M66 l0 13 122 (.int (v69 + (1 : Int32)))) fun M74 =>
  B_X13_addLetters_36 G F r9 n l0 l1 l2 l3 l4 (l5 + (-6)) l6 M74)
def B_X13_addLetters_9 (G : mG) (F : Nat) : Nat → Nat → Nat → Int32 → Int32 → Int32 → Int32 → Int32 → mM → Option mM
  | 0, _, _, _, _, _, _, _, _ => none
  | n + 1, l0, l1, l2, l3, l4, l5, l6, M =>
  if l3 ≤ l6 then (if l5 ≤ 0 then (some M)
  else (bO (gfR M l0 13 121) fun v92 =>
  bO (gfI M l0 13 122) fun v96 =>
  bP (P_X13_letterOf G F ((l4 <<< (((6 : Int32) - l5) &&& 31)) &&& (63 : Int32)) M) fun v110 M110 =>
  bO (sI M110 1 v92 v96 ((v110.toInt8.toInt32).toInt8.toInt32)) fun M114 =>
  bO (gfI M114 l0 13 122) fun v117 =>
  bO (pfv M114 l0 13 122 (.int (v117 + (1 : Int32)))) fun M122 =>
  some M122))
  else (bO (aI G M 1 l1 (l2 + l6)) fun v25 =>
  B_X13_addLetters_36 G F (B_X13_addLetters_9 G F n) F l0 l1 l2 l3 ((l4 <<< ((8 : Int32) &&& 31)) ||| (v25 &&& (255 : Int32))) (l5 + 8) l6 M)
def P_X13_addLetters (G : mG) (F : Nat) (l0 : Nat) (l1 : Nat) (l2 : Int32) (l3 : Int32) (M : mM) : Option mM :=
  B_X13_addLetters_9 G F F l0 l1 l2 l3 (0 : Int32) (0 : Int32) (0 : Int32) M
def P_X13_addByte (G : mG) (F : Nat) (l0 : Nat) (l1 : Int32) (M : mM) : Option mM :=
  bO (gfR M l0 13 121) fun v1 =>
  bO (gfI M l0 13 122) fun v5 =>
  bO (sI M 1 v1 v5 ((l1.toInt8.toInt32).toInt8.toInt32)) fun M10 =>
  bO (gfI M10 l0 13 122) fun v13 =>
  bO (pfv M10 l0 13 122 (.int (v13 + (1 : Int32)))) fun M18 =>
  some M18
def P_X13_saidOut (G : mG) (F : Nat) (l0 : Nat) (M : mM) : Option (Int32 × mM) :=
  bO (gfI M l0 13 122) fun v1 =>
  if v1 ≤ (8192 : Int32) then (bO (gfR M l0 13 121) fun v17 =>
  bO (gfI M l0 13 122) fun v22 =>
  bO (rcv M l0 13) fun _ =>
  bP (P_X13_tell G F l0 v17 (0 : Int32) v22 M) fun v25 M25 =>
  some (v25, M25))
  else (some ((-3 : Int32), M))
def P_X13_late (G : mG) (F : Nat) (l0 : Nat) (l1 : Int32) (l2 : Int32) (l3 : Int32) (M : mM) : Option (Int32 × mM) :=
  bO (pfv M l0 13 39 (.int (0 : Int32))) fun M2 =>
  bO (rcv M2 l0 13) fun _ =>
  bP (P_X13_signIt G F l0 l1 l2 l3 M2) fun v9 M9 =>
  if 0 ≤ v9 then (some ((-3 : Int32), M9))
  else (some ((-4 : Int32), M9))
def B_X13_sign_397 (G : mG) (F : Nat) (l0 : Nat) (l1 : Int32) (l2 : Int32) (l5 : Int32) (M : mM) : Option (Int32 × mM) :=
  bO (pfv M l0 13 39 (.int (0 : Int32))) fun M399 =>
  bO (gfR M399 l0 13 121) fun v404 =>
  bO (gfI M399 l0 13 122) fun v409 =>
  bO (rcv M399 l0 13) fun _ =>
  bO (P_X13_tellMessage G F l0 v404 (0 : Int32) v409 M399) fun M412 =>
  bO (rcv M412 l0 13) fun _ =>
  bP (P_X13_signIt G F l0 l1 l2 l5 M412) fun v420 M420 =>
  if 0 ≤ v420 then (bO (rcv M420 l0 13) fun _ =>
  bO (P_X13_addByte G F l0 (46 : Int32) M420) fun M432 =>
  bO (gfR M432 l0 13 112) fun v437 =>
  bO (gfI M432 l0 13 113) fun v442 =>
  bO (rcv M432 l0 13) fun _ =>
  bO (P_X13_addLetters G F l0 v437 (0 : Int32) v442 M432) fun M445 =>
  bO (rcv M445 l0 13) fun _ =>
  bP (P_X13_saidOut G F l0 M445) fun v449 M449 =>
  some (v449, M449))
  else (some ((-4 : Int32), M420))
def B_X13_sign_298 (G : mG) (F : Nat) (l0 : Nat) (l1 : Int32) (l2 : Int32) (l4 : Int32) (l5 : Int32) (M : mM) : Option (Int32 × mM) :=
  bO (pfv M l0 13 122 (.int (0 : Int32))) fun M300 =>
  bO (gfR M300 l0 13 119) fun v305 =>
  bO (gfI M300 l0 13 120) fun v310 =>
  bO (rcv M300 l0 13) fun _ =>
  bO (P_X13_addLetters G F l0 v305 (0 : Int32) v310 M300) fun M313 =>
  bO (rcv M313 l0 13) fun _ =>
  bO (P_X13_addByte G F l0 (46 : Int32) M313) fun M319 =>
  bO (gfI M319 l0 13 104) fun v323 =>
  if v323 = 0 then (bO (gfR M319 l0 13 2) fun v378 =>
  bO (gfR M319 l0 13 3) fun v388 =>
  bO (aI G M319 0 v388 l4) fun v393 =>
  bO (rcv M319 l0 13) fun _ =>
  bO (P_X13_addLetters G F l0 v378 ((8192 : Int32) * l4) v393 M319) fun M394 =>
  B_X13_sign_397 G F l0 l1 l2 l5 M394)
  else (bO (gfR M319 l0 13 2) fun v330 =>
  bO (gfR M319 l0 13 121) fun v340 =>
  bO (gfI M319 l0 13 122) fun v344 =>
  bO (gfR M319 l0 13 3) fun v348 =>
  bO (aI G M319 0 v348 l4) fun v353 =>
  bO (P_X13_move G F v330 ((8192 : Int32) * l4) v340 v344 v353 M319) fun M354 =>
  bO (gfI M354 l0 13 122) fun v359 =>
  bO (gfR M354 l0 13 3) fun v363 =>
  bO (aI G M354 0 v363 l4) fun v368 =>
  bO (pfv M354 l0 13 122 (.int (v359 + v368))) fun M370 =>
  B_X13_sign_397 G F l0 l1 l2 l5 M370)
def B_X13_sign_234 (G : mG) (F : Nat) : Nat → Nat → Int32 → Int32 → Int32 → Int32 → Int32 → Int32 → mM → Option (Int32 × mM)
  | 0, _, _, _, _, _, _, _, _ => none
  | n + 1, l0, l1, l2, l4, l5, l6, l7, M =>
  bO (gfR M l0 13 3) fun v237 =>
  bO (aI G M 0 v237 l4) fun v242 =>
  if v242 ≤ l7 then (bO (gfI M l0 13 104) fun v284 =>
  if v284 = 0 then (B_X13_sign_298 G F l0 l1 l2 l4 l5 M)
  else (if l6 = 0 then (B_X13_sign_298 G F l0 l1 l2 l4 l5 M)
  else (some ((-5 : Int32), M))))
  else (if l6 = 0 then (bO (gfR M l0 13 2) fun v252 =>
  bO (aI G M 1 v252 (((8192 : Int32) * l4) + l7)) fun v264 =>
  if v264 = (46 : Int32) then (B_X13_sign_234 G F n l0 l1 l2 l4 l5 (1 : Int32) (l7 + 1) M)
  else (B_X13_sign_234 G F n l0 l1 l2 l4 l5 (0 : Int32) (l7 + 1) M))
  else (B_X13_sign_234 G F n l0 l1 l2 l4 l5 (1 : Int32) (l7 + 1) M))
def B_X13_sign_53 (G : mG) (F : Nat) (l0 : Nat) (l1 : Int32) (l2 : Int32) (l3 : Int32) (l4 : Int32) (l5 : Int32) (M : mM) : Option (Int32 × mM) :=
  bO (rcv M l0 13) fun _ =>
  bP (P_X13_maySign G F l0 l1 l2 (1 : Int32) M) fun v57 M57 =>
  if v57 = 0 then (some ((-26 : Int32), M57))
  else (bO (pfZ M57 l0 13 104 (0 : Int32)) fun M68 =>
  if l3 = (-1 : Int32) then (bO (rcv M68 l0 13) fun _ =>
  bO (P_X13_sayHead G F l0 l1 (G.1 108) l2 (-1 : Int32) M68) fun M83 =>
  bO (rcv M83 l0 13) fun _ =>
  bO (P_X13_say G F l0 (125 : Int32) M83) fun M89 =>
  bO (gfI M89 l0 13 28) fun v93 =>
  if v93 ≤ (8192 : Int32) then (bO (gfR M89 l0 13 27) fun v122 =>
  bO (gfR M89 l0 13 119) fun v127 =>
  bO (gfI M89 l0 13 28) fun v132 =>
  bO (P_X13_move G F v122 (0 : Int32) v127 (0 : Int32) v132 M89) fun M135 =>
  bO (gfI M135 l0 13 28) fun v140 =>
  bO (pfv M135 l0 13 120 (.int v140)) fun M143 =>
  B_X13_sign_234 G F F l0 l1 l2 l4 l5 (0 : Int32) (0 : Int32) M143)
  else (if (3 : Int32) ≤ l2 then (bO (rcv M89 l0 13) fun _ =>
  bP (P_X13_late G F l0 l1 l2 l5 M89) fun v117 M117 =>
  some (v117, M117))
  else (some ((-3 : Int32), M89))))
  else (bO (gfR M68 l0 13 2) fun v151 =>
  bO (gfR M68 l0 13 3) fun v160 =>
  bO (aI G M68 0 v160 l3) fun v164 =>
  bO (rcv M68 l0 13) fun _ =>
  bP (P_X13_headOf G F l0 v151 ((8192 : Int32) * l3) v164 (0 : Int32) M68) fun v166 M166 =>
  if v166 < 0 then (if 0 ≤ v166 then (some ((-27 : Int32), M166))
  else (some (v166, M166)))
  else (bO (gfI M166 l0 13 102) fun v177 =>
  if v177 = l2 then (bO (gfR M166 l0 13 3) fun v199 =>
  bO (aI G M166 0 v199 l3) fun v203 =>
  bO (pfv M166 l0 13 120 (.int v203)) fun M204 =>
  bO (gfR M204 l0 13 2) fun v208 =>
  bO (gfR M204 l0 13 119) fun v217 =>
  bO (gfI M204 l0 13 120) fun v222 =>
  bO (P_X13_move G F v208 ((8192 : Int32) * l3) v217 (0 : Int32) v222 M204) fun M225 =>
  B_X13_sign_234 G F F l0 l1 l2 l4 l5 (0 : Int32) (0 : Int32) M225)
  else (if 0 ≤ v166 then (some ((-27 : Int32), M166))
  else (some (v166, M166))))))
def B_X13_sign_29 (G : mG) (F : Nat) (l0 : Nat) (l1 : Int32) (l2 : Int32) (l3 : Int32) (l4 : Int32) (l5 : Int32) (M : mM) : Option (Int32 × mM) :=
  bP (P_X13_isRow G F l4 M) fun v31 M31 =>
  if v31 = 0 then (some ((-2 : Int32), M31))
  else (if l2 ≤ (2 : Int32) then (B_X13_sign_53 G F l0 l1 l2 l3 l4 l5 M31)
  else (bP (P_X13_isRow G F l5 M31) fun v44 M44 =>
  if v44 = 0 then (some ((-2 : Int32), M44))
  else (B_X13_sign_53 G F l0 l1 l2 l3 l4 l5 M44)))
def P_X13_sign (G : mG) (F : Nat) (l0 : Nat) (l1 : Int32) (l2 : Int32) (l3 : Int32) (l4 : Int32) (l5 : Int32) (M : mM) : Option (Int32 × mM) :=
  bO (rcv M l0 13) fun _ =>
  bP (P_X13_isKey G F l0 l1 M) fun v2 M2 =>
  if v2 = 0 then (some ((-2 : Int32), M2))
  else (if l2 < 0 then (some ((-2 : Int32), M2))
  else (if (4 : Int32) < l2 then (some ((-2 : Int32), M2))
  else (if l3 = (-1 : Int32) then (B_X13_sign_29 G F l0 l1 l2 l3 l4 l5 M2)
  else (bP (P_X13_isRow G F l3 M2) fun v23 M23 =>
  if v23 = 0 then (some ((-2 : Int32), M23))
  else (B_X13_sign_29 G F l0 l1 l2 l3 l4 l5 M23)))))
def P_X13_hasKid (G : mG) (F : Nat) (l0 : Nat) (l1 : Int32) (M : mM) : Option (Int32 × mM) :=
  bO (gfI M l0 13 106) fun v1 =>
  if v1 < 0 then (retZ (1 : Int32) M)
  else (bO (gfR M l0 13 93) fun v8 =>
  bO (aI G M 0 v8 l1) fun v12 =>
  bO (gfI M l0 13 106) fun v14 =>
  if v12 = v14 then (bO (gfR M l0 13 92) fun v21 =>
  bO (gfR M l0 13 15) fun v30 =>
  bO (gfI M l0 13 105) fun v34 =>
  bO (gfI M l0 13 106) fun v38 =>
  bP (P_X13_same G F v21 ((8200 : Int32) * l1) v30 v34 v38 M) fun v41 M41 =>
  if v41 = 0 then (retZ (0 : Int32) M41)
  else (retZ (1 : Int32) M41))
  else (retZ (0 : Int32) M))
def B_X13_pointsOf_4 (G : mG) (F : Nat) : Nat → Nat → Int32 → Int32 → Int32 → mM → Option (Int32 × mM)
  | 0, _, _, _, _, _ => none
  | n + 1, l0, l1, l2, l3, M =>
  bO (gfR M l0 13 3) fun v6 =>
  bO (aI G M 0 v6 l1) fun v10 =>
  if v10 ≤ l3 then (some (l2, M))
  else (bO (gfR M l0 13 2) fun v15 =>
  bO (aI G M 1 v15 (((8192 : Int32) * l1) + l3)) fun v25 =>
  if v25 = (46 : Int32) then (if (6 : Int32) ≤ l2 then (B_X13_pointsOf_4 G F n l0 l1 (l2 + 1) (l3 + 1) M)
  else (bO (gfR M l0 13 123) fun v38 =>
  bO (sI M 0 v38 l2 l3) fun M43 =>
  B_X13_pointsOf_4 G F n l0 l1 (l2 + 1) (l3 + 1) M43))
  else (B_X13_pointsOf_4 G F n l0 l1 l2 (l3 + 1) M))
def P_X13_pointsOf (G : mG) (F : Nat) (l0 : Nat) (l1 : Int32) (M : mM) : Option (Int32 × mM) :=
  B_X13_pointsOf_4 G F F l0 l1 (0 : Int32) (0 : Int32) M
def B_X13_verify_220 (G : mG) (F : Nat) : Nat → Nat → Int32 → Int32 → Int32 → Int32 → mM → Option (Int32 × mM)
  | 0, _, _, _, _, _, _ => none
  | n + 1, l0, l2, l6, l7, l8, M =>
  if (16 : Int32) ≤ l8 then (if l7 = 0 then (some ((-26 : Int32), M))
  else (some ((-27 : Int32), M)))
  else (bO (gfI M l0 13 102) fun v231 =>
  bO (rcv M l0 13) fun _ =>
  bP (P_X13_maySign G F l0 l8 v231 (0 : Int32) M) fun v235 M235 =>
  if v235 = 0 then (B_X13_verify_220 G F n l0 l2 l6 l7 (l8 + 1) M235)
  else (bO (rcv M235 l0 13) fun _ =>
  bP (P_X13_hasKid G F l0 l8 M235) fun v244 M244 =>
  if v244 = 0 then (B_X13_verify_220 G F n l0 l2 l6 l7 (l8 + 1) M244)
  else (bO (pfv M244 l0 13 39 (.int (0 : Int32))) fun M255 =>
  bO (gfR M255 l0 13 2) fun v260 =>
  bO (gfR M255 l0 13 123) fun v265 =>
  bO (aI G M255 0 v265 (1 : Int32)) fun v269 =>
  bO (rcv M255 l0 13) fun _ =>
  bO (P_X13_tellMessage G F l0 v260 l2 v269 M255) fun M270 =>
  bO (gfI M270 l0 13 102) fun v277 =>
  bO (rcv M270 l0 13) fun _ =>
  bP (P_X13_isSigned G F l0 l8 v277 M270) fun v280 M280 =>
  if v280 = 0 then (B_X13_verify_220 G F n l0 l2 l6 (1 : Int32) (l8 + 1) M280)
  else (bO (gfR M280 l0 13 124) fun v288 =>
  bO (rcv M280 l0 13) fun _ =>
  bP (P_X13_tell G F l0 v288 (0 : Int32) l6 M280) fun v294 M294 =>
  some (l8, M294)))))
def B_X13_verify_157 (G : mG) (F : Nat) (l0 : Nat) (l1 : Int32) (l2 : Int32) (l6 : Int32) (M : mM) : Option (Int32 × mM) :=
  bO (gfR M l0 13 2) fun v160 =>
  bO (gfR M l0 13 123) fun v165 =>
  bO (aI G M 0 v165 (1 : Int32)) fun v169 =>
  bO (gfR M l0 13 3) fun v174 =>
  bO (aI G M 0 v174 l1) fun v178 =>
  bO (gfR M l0 13 123) fun v180 =>
  bO (aI G M 0 v180 (1 : Int32)) fun v184 =>
  bO (gfR M l0 13 112) fun v189 =>
  bO (rcv M l0 13) fun _ =>
  bP (P_X13_unletter G F l0 v160 ((l2 + v169) + (1 : Int32)) ((v178 - v184) - (1 : Int32)) v189 (0 : Int32) M) fun v193 M193 =>
  bO (pfv M193 l0 13 113 (.int v193)) fun M196 =>
  if l6 < 0 then (some ((-21 : Int32), M196))
  else (bO (gfI M196 l0 13 113) fun v205 =>
  if 0 ≤ v205 then (B_X13_verify_220 G F F l0 l2 l6 (0 : Int32) (0 : Int32) M196)
  else (some ((-21 : Int32), M196)))
def P_X13_verify (G : mG) (F : Nat) (l0 : Nat) (l1 : Int32) (M : mM) : Option (Int32 × mM) :=
  bP (P_X13_isRow G F l1 M) fun v1 M1 =>
  if v1 = 0 then (some ((-2 : Int32), M1))
  else (bO (rcv M1 l0 13) fun _ =>
  bP (P_X13_pointsOf G F l0 l1 M1) fun v12 M12 =>
  if v12 = (2 : Int32) then (bO (gfR M12 l0 13 2) fun v31 =>
  bO (gfR M12 l0 13 123) fun v36 =>
  bO (aI G M12 0 v36 (0 : Int32)) fun v40 =>
  bO (gfR M12 l0 13 119) fun v42 =>
  bO (rcv M12 l0 13) fun _ =>
  bP (P_X13_unletter G F l0 v31 ((8192 : Int32) * l1) v40 v42 (0 : Int32) M12) fun v46 M46 =>
  bO (pfv M46 l0 13 120 (.int v46)) fun M49 =>
  bO (gfI M49 l0 13 120) fun v53 =>
  if 0 ≤ v53 then (bO (gfR M49 l0 13 119) fun v64 =>
  bO (gfI M49 l0 13 120) fun v69 =>
  bO (rcv M49 l0 13) fun _ =>
  bP (P_X13_headOf G F l0 v64 (0 : Int32) v69 (0 : Int32) M49) fun v73 M73 =>
  if 0 ≤ v73 then (bO (gfR M73 l0 13 123) fun v84 =>
  bO (aI G M73 0 v84 (0 : Int32)) fun v88 =>
  bO (gfR M73 l0 13 123) fun v94 =>
  bO (aI G M73 0 v94 (1 : Int32)) fun v98 =>
  bO (gfI M73 l0 13 104) fun v109 =>
  if v109 = 0 then (bO (gfR M73 l0 13 2) fun v138 =>
  bO (gfR M73 l0 13 124) fun v148 =>
  bO (rcv M73 l0 13) fun _ =>
  bP (P_X13_unletter G F l0 v138 (((8192 : Int32) * l1) + (v88 + (1 : Int32))) (v98 - (v88 + (1 : Int32))) v148 (0 : Int32) M73) fun v152 M152 =>
  B_X13_verify_157 G F l0 l1 ((8192 : Int32) * l1) v152 M152)
  else (bO (gfR M73 l0 13 2) fun v116 =>
  bO (gfR M73 l0 13 124) fun v124 =>
  bO (P_X13_move G F v116 (((8192 : Int32) * l1) + (v88 + (1 : Int32))) v124 (0 : Int32) (v98 - (v88 + (1 : Int32))) M73) fun M130 =>
  B_X13_verify_157 G F l0 l1 ((8192 : Int32) * l1) (v98 - (v88 + (1 : Int32))) M130))
  else (some (v73, M73)))
  else (some ((-21 : Int32), M49)))
  else (some ((-20 : Int32), M12)))
def B_X13_maySeal_113 (G : mG) (F : Nat) (l0 : Nat) (l1 : Int32) (l4 : Int32) (sk0 : Int32) (M : mM) : Option (Int32 × mM) :=
  if sk0 = 0 then (retZ (0 : Int32) M)
  else (if l4 = 0 then (retZ (1 : Int32) M)
  else (bO (gfR M l0 13 90) fun v126 =>
  bO (aI G M 0 v126 l1) fun v130 =>
  if v130 ≤ 0 then (retZ (0 : Int32) M)
  else (retZ (1 : Int32) M)))
def P_X13_maySeal (G : mG) (F : Nat) (l0 : Nat) (l1 : Int32) (l2 : Int32) (l3 : Int32) (l4 : Int32) (M : mM) : Option (Int32 × mM) :=
  bO (rcv M l0 13) fun _ =>
  bP (P_X13_lets G F l0 l1 (G.1 117) l2 (2 : Int32) M) fun v7 M7 =>
  if v7 = 0 then (retZ (0 : Int32) M7)
  else (bO (gfR M7 l0 13 86) fun v16 =>
  bO (aI G M7 0 v16 l1) fun v20 =>
  if (3 : Int32) ≤ l2 then (if l2 = (3 : Int32) then (bO (gfR M7 l0 13 84) fun v69 =>
  bO (aI G M7 0 v69 l1) fun v73 =>
  if v73 = (1 : Int32) then (bP (P_X13_keyOf G F l3 M7) fun v83 M83 =>
  if v20 < ((66 : Int32) + v83) then (B_X13_maySeal_113 G F l0 l1 l4 (0 : Int32) M83)
  else (B_X13_maySeal_113 G F l0 l1 l4 (1 : Int32) M83))
  else (B_X13_maySeal_113 G F l0 l1 l4 (0 : Int32) M7))
  else (bO (gfR M7 l0 13 84) fun v99 =>
  bO (aI G M7 0 v99 l1) fun v103 =>
  if v103 = (2 : Int32) then (B_X13_maySeal_113 G F l0 l1 l4 (1 : Int32) M7)
  else (B_X13_maySeal_113 G F l0 l1 l4 (0 : Int32) M7)))
  else (bO (gfR M7 l0 13 84) fun v29 =>
  bO (aI G M7 0 v29 l1) fun v33 =>
  if v33 = 0 then (if l2 = 0 then (bP (P_X13_keyOf G F l3 M7) fun v44 M44 =>
  if v20 = v44 then (retZ (1 : Int32) M44)
  else (retZ (0 : Int32) M44))
  else (if v20 = ((16 : Int32) * l2) then (retZ (1 : Int32) M7)
  else (retZ (0 : Int32) M7)))
  else (retZ (0 : Int32) M7)))
def B_X13_nameOf_9 (G : mG) (F : Nat) : Nat → Nat → Nat → Int32 → Int32 → mM → Option (Int32 × mM)
  | 0, _, _, _, _, _ => none
  | n + 1, l0, l1, l3, l4, M =>
  bO (rcs G l1) fun _ =>
  bP (P_J0_charAt_5068e G F l1 l4 M) fun v12 M12 =>
  if v12 = (32 : Int32) then (some (l3, M12))
  else (bO (gfR M12 l0 13 131) fun v21 =>
  bO (rcs G l1) fun _ =>
  bP (P_J0_charAt_5068e G F l1 l4 M12) fun v28 M28 =>
  bO (sI M28 1 v21 l3 ((v28.toInt8.toInt32).toInt8.toInt32)) fun M32 =>
  B_X13_nameOf_9 G F n l0 l1 (l3 + 1) (l4 + 1) M32)
def P_X13_nameOf (G : mG) (F : Nat) (l0 : Nat) (l1 : Nat) (l2 : Int32) (M : mM) : Option (Int32 × mM) :=
  bP (P_X13_begins G F l1 l2 M) fun v4 M4 =>
  B_X13_nameOf_9 G F F l0 l1 (0 : Int32) v4 M4
def B_X13_agree_66 (G : mG) (F : Nat) (l0 : Nat) (l5 : Int32) (l6 : Int32) (l7 : Int32) (sk0 : Int32) (M : mM) : Option (Int32 × mM) :=
  bO (gfR M l0 13 130) fun v70 =>
  bO (gfR M l0 13 131) fun v77 =>
  bO (gfR M l0 13 108) fun v84 =>
  bO (gfI M l0 13 110) fun v89 =>
  bO (gfR M l0 13 109) fun v93 =>
  bO (gfI M l0 13 111) fun v98 =>
  if l5 = (4 : Int32) then (bP (P_X13_keyOf G F l6 M) fun v109 M109 =>
  bO (rcv M109 l0 13) fun _ =>
  bO (P_X13_deriveIt G F l0 v70 (0 : Int32) (32 : Int32) v77 (0 : Int32) sk0 v84 (0 : Int32) v89 v93 (0 : Int32) v98 v109 M109) fun M117 =>
  retZ l7 M117)
  else (bO (rcv M l0 13) fun _ =>
  bO (P_X13_deriveIt G F l0 v70 (0 : Int32) (32 : Int32) v77 (0 : Int32) sk0 v84 (0 : Int32) v89 v93 (0 : Int32) v98 (16 : Int32) M) fun M117 =>
  retZ l7 M117)
def B_X13_agree_37 (G : mG) (F : Nat) (l0 : Nat) (l5 : Int32) (l6 : Int32) (sk0 : Int32) (M : mM) : Option (Int32 × mM) :=
  if l5 = (4 : Int32) then (bO (rcv M l0 13) fun _ =>
  bP (P_X13_nameOf G F l0 (G.1 111) l6 M) fun v51 M51 =>
  B_X13_agree_66 G F l0 l5 l6 sk0 v51 M51)
  else (bO (rcv M l0 13) fun _ =>
  bP (P_X13_nameOf G F l0 (G.1 117) l5 M) fun v63 M63 =>
  B_X13_agree_66 G F l0 l5 l6 sk0 v63 M63)
def P_X13_agree (G : mG) (F : Nat) (l0 : Nat) (l1 : Nat) (l2 : Int32) (l3 : Nat) (l4 : Int32) (l5 : Int32) (l6 : Int32) (M : mM) : Option (Int32 × mM) :=
  bO (rcv M l0 13) fun _ =>
  bP (P_X13_setPoint G F l0 l3 l4 M) fun v4 M4 =>
  bO (rcv M4 l0 13) fun _ =>
  bO (P_X13_times_ G F l0 l1 l2 M4) fun M12 =>
  if v4 = 0 then (B_X13_agree_37 G F l0 l5 l6 (0 : Int32) M12)
  else (bO (gfR M12 l0 13 130) fun v22 =>
  bO (rcv M12 l0 13) fun _ =>
  bP (P_X13_getPoint G F l0 v22 (0 : Int32) M12) fun v26 M26 =>
  if v26 = 0 then (B_X13_agree_37 G F l0 l5 l6 (0 : Int32) M26)
  else (B_X13_agree_37 G F l0 l5 l6 (1 : Int32) M26))
def B_X13_sealRsa_61 (G : mG) (F : Nat) : Nat → Nat → Int32 → Int32 → Int32 → Int32 → mM → Option mM
  | 0, _, _, _, _, _, _ => none
  | n + 1, l0, l1, l2, l5, l7, M =>
  if ((l5 - l2) - (1 : Int32)) ≤ l7 then (bO (gfR M l0 13 82) fun v87 =>
  bO (sI M 1 v87 ((l5 - l2) - (1 : Int32)) ((1 : Int32).toInt8.toInt32)) fun M97 =>
  bO (gfR M97 l0 13 125) fun v99 =>
  bO (gfR M97 l0 13 82) fun v104 =>
  bO (P_X13_move G F v99 (0 : Int32) v104 (l5 - l2) l2 M97) fun M112 =>
  bO (gfR M112 l0 13 82) fun v117 =>
  bO (gfR M112 l0 13 82) fun v124 =>
  bO (rcv M112 l0 13) fun _ =>
  bO (P_X13_maskOn G F l0 v117 (1 : Int32) (32 : Int32) v124 (33 : Int32) (l5 - (33 : Int32)) M112) fun M134 =>
  bO (gfR M134 l0 13 82) fun v139 =>
  bO (gfR M134 l0 13 82) fun v150 =>
  bO (rcv M134 l0 13) fun _ =>
  bO (P_X13_maskOn G F l0 v139 (33 : Int32) (l5 - (33 : Int32)) v150 (1 : Int32) (32 : Int32) M134) fun M156 =>
  bO (gfR M156 l0 13 82) fun v161 =>
  bO (gfR M156 l0 13 87) fun v168 =>
  bO (gfR M156 l0 13 88) fun v177 =>
  bO (aI G M156 0 v177 l1) fun v181 =>
  bO (gfR M156 l0 13 85) fun v183 =>
  bO (rcv M156 l0 13) fun _ =>
  bO (P_X13_raise G F l0 v161 (0 : Int32) l5 v168 ((128 : Int32) * l1) v181 v183 ((128 : Int32) * l1) l5 M156) fun M193 =>
  bO (gfR M193 l0 13 62) fun v197 =>
  bO (gfR M193 l0 13 126) fun v202 =>
  bO (P_X13_move G F v197 (0 : Int32) v202 (0 : Int32) l5 M193) fun M208 =>
  bO (pfv M208 l0 13 127 (.int l5)) fun M214 =>
  some M214)
  else (bO (gfR M l0 13 82) fun v73 =>
  bO (sI M 1 v73 l7 ((0 : Int32).toInt8.toInt32)) fun M79 =>
  B_X13_sealRsa_61 G F n l0 l1 l2 l5 (l7 + 1) M79)
def P_X13_sealRsa (G : mG) (F : Nat) (l0 : Nat) (l1 : Int32) (l2 : Int32) (l3 : Nat) (l4 : Int32) (M : mM) : Option mM :=
  bO (gfR M l0 13 86) fun v1 =>
  bO (aI G M 0 v1 l1) fun v5 =>
  bO (rcv M l0 13) fun _ =>
  bO (P_X13_empty G F l0 M) fun M9 =>
  bO (rcv M9 l0 13) fun _ =>
  bP (P_X13_digestOf G F l0 (256 : Int32) M9) fun v16 M16 =>
  bO (gfR M16 l0 13 82) fun v22 =>
  bO (sI M16 1 v22 (0 : Int32) ((0 : Int32).toInt8.toInt32)) fun M27 =>
  bO (gfR M27 l0 13 82) fun v32 =>
  bO (P_X13_move G F l3 l4 v32 (1 : Int32) (32 : Int32) M27) fun M38 =>
  bO (gfR M38 l0 13 35) fun v42 =>
  bO (gfR M38 l0 13 82) fun v47 =>
  bO (P_X13_move G F v42 (0 : Int32) v47 (33 : Int32) (32 : Int32) M38) fun M54 =>
  B_X13_sealRsa_61 G F F l0 l1 l2 v5 (65 : Int32) M54
def B_X13_openRsa_232 (G : mG) (F : Nat) (l0 : Nat) (l2 : Int32) (l5 : Int32) (sk0 : Int32) (M : mM) : Option (Int32 × mM) :=
  if sk0 = 0 then (if sk0 = 0 then (some ((-1 : Int32), M))
  else (some (((l2 - l5) - (1 : Int32)), M)))
  else (bO (gfR M l0 13 82) fun v240 =>
  bO (gfR M l0 13 125) fun v248 =>
  bO (P_X13_move G F v240 (l5 + (1 : Int32)) v248 (0 : Int32) ((l2 - l5) - (1 : Int32)) M) fun M258 =>
  if sk0 = 0 then (some ((-1 : Int32), M258))
  else (some (((l2 - l5) - (1 : Int32)), M258)))
def B_X13_openRsa_194 (G : mG) (F : Nat) (l0 : Nat) (l2 : Int32) (l4 : Int32) (l5 : Int32) (M : mM) : Option (Int32 × mM) :=
  if l4 = 0 then (B_X13_openRsa_232 G F l0 l2 l5 (0 : Int32) M)
  else (if l2 ≤ l5 then (B_X13_openRsa_232 G F l0 l2 l5 (0 : Int32) M)
  else (bO (gfR M l0 13 82) fun v206 =>
  bO (aI G M 1 v206 l5) fun v211 =>
  if v211 = (1 : Int32) then (if (64 : Int32) < ((l2 - l5) - (1 : Int32)) then (B_X13_openRsa_232 G F l0 l2 l5 (0 : Int32) M)
  else (B_X13_openRsa_232 G F l0 l2 l5 (1 : Int32) M))
  else (B_X13_openRsa_232 G F l0 l2 l5 (0 : Int32) M)))
def B_X13_openRsa_172 (G : mG) (F : Nat) : Nat → Nat → Int32 → Int32 → Int32 → mM → Option (Int32 × mM)
  | 0, _, _, _, _, _ => none
  | n + 1, l0, l2, l4, l5, M =>
  if l2 ≤ l5 then (B_X13_openRsa_194 G F l0 l2 l4 l5 M)
  else (bO (gfR M l0 13 82) fun v179 =>
  bO (aI G M 1 v179 l5) fun v184 =>
  if v184 = 0 then (B_X13_openRsa_172 G F n l0 l2 l4 (l5 + 1) M)
  else (B_X13_openRsa_194 G F l0 l2 l4 l5 M))
def P_X13_openRsa (G : mG) (F : Nat) (l0 : Nat) (l1 : Int32) (M : mM) : Option (Int32 × mM) :=
  bO (gfR M l0 13 86) fun v1 =>
  bO (aI G M 0 v1 l1) fun v5 =>
  bO (gfI M l0 13 127) fun v8 =>
  if v8 = v5 then (bO (gfR M l0 13 126) fun v17 =>
  bO (rcv M l0 13) fun _ =>
  bP (P_X13_isBelow G F l0 v17 (0 : Int32) l1 M) fun v22 M22 =>
  if v22 = 0 then (some ((-1 : Int32), M22))
  else (bO (gfR M22 l0 13 126) fun v32 =>
  bO (gfR M22 l0 13 89) fun v38 =>
  bO (gfR M22 l0 13 90) fun v47 =>
  bO (aI G M22 0 v47 l1) fun v51 =>
  bO (gfR M22 l0 13 85) fun v53 =>
  bO (rcv M22 l0 13) fun _ =>
  bO (P_X13_raise G F l0 v32 (0 : Int32) v5 v38 ((128 : Int32) * l1) v51 v53 ((128 : Int32) * l1) v5 M22) fun M62 =>
  bO (gfR M62 l0 13 62) fun v66 =>
  bO (gfR M62 l0 13 82) fun v71 =>
  bO (P_X13_move G F v66 (0 : Int32) v71 (0 : Int32) v5 M62) fun M76 =>
  bO (gfR M76 l0 13 82) fun v81 =>
  bO (gfR M76 l0 13 82) fun v91 =>
  bO (rcv M76 l0 13) fun _ =>
  bO (P_X13_maskOn G F l0 v81 (33 : Int32) (v5 - (33 : Int32)) v91 (1 : Int32) (32 : Int32) M76) fun M97 =>
  bO (gfR M97 l0 13 82) fun v102 =>
  bO (gfR M97 l0 13 82) fun v109 =>
  bO (rcv M97 l0 13) fun _ =>
  bO (P_X13_maskOn G F l0 v102 (1 : Int32) (32 : Int32) v109 (33 : Int32) (v5 - (33 : Int32)) M97) fun M118 =>
  bO (rcv M118 l0 13) fun _ =>
  bO (P_X13_empty G F l0 M118) fun M122 =>
  bO (rcv M122 l0 13) fun _ =>
  bP (P_X13_digestOf G F l0 (256 : Int32) M122) fun v129 M129 =>
  bO (gfR M129 l0 13 82) fun v134 =>
  bO (aI G M129 1 v134 (0 : Int32)) fun v138 =>
  if v138 = 0 then (bO (gfR M129 l0 13 35) fun v143 =>
  bO (gfR M129 l0 13 82) fun v148 =>
  bP (P_X13_same G F v143 (0 : Int32) v148 (33 : Int32) (32 : Int32) M129) fun v155 M155 =>
  if v155 = 0 then (B_X13_openRsa_172 G F F l0 v5 (0 : Int32) (65 : Int32) M155)
  else (B_X13_openRsa_172 G F F l0 v5 (1 : Int32) (65 : Int32) M155))
  else (B_X13_openRsa_172 G F F l0 v5 (0 : Int32) (65 : Int32) M129)))
  else (some ((-1 : Int32), M))
def B_X13_agreeFresh_139 (G : mG) (F : Nat) (l0 : Nat) (l1 : Int32) (l2 : Int32) (l3 : Int32) (l4 : Int32) (sk0 : Nat) (sk1 : Int32) (M : mM) : Option mM :=
  bO (gfR M l0 13 109) fun v140 =>
  bO (gfI M l0 13 111) fun v145 =>
  bO (P_X13_move G F sk0 sk1 v140 (0 : Int32) v145 M) fun M148 =>
  bO (gfR M148 l0 13 85) fun v152 =>
  bO (gfR M148 l0 13 79) fun v161 =>
  bO (P_X13_move G F v152 ((128 : Int32) * l1) v161 (0 : Int32) (32 : Int32) M148) fun M167 =>
  bO (gfR M167 l0 13 87) fun v171 =>
  bO (gfR M167 l0 13 79) fun v180 =>
  bO (P_X13_move G F v171 ((128 : Int32) * l1) v180 (32 : Int32) (32 : Int32) M167) fun M187 =>
  bO (gfR M187 l0 13 2) fun v192 =>
  bO (gfR M187 l0 13 79) fun v198 =>
  bO (rcv M187 l0 13) fun _ =>
  bP (P_X13_agree G F l0 v192 l4 v198 (0 : Int32) l2 l3 M187) fun v204 M204 =>
  some M204
def B_X13_agreeFresh_107 (G : mG) (F : Nat) (l0 : Nat) (l1 : Int32) (l2 : Int32) (l3 : Int32) (l4 : Int32) (l6 : Int32) (sk0 : Nat) (sk1 : Int32) (M : mM) : Option mM :=
  bO (gfR M l0 13 108) fun v108 =>
  bO (gfI M l0 13 110) fun v113 =>
  bO (P_X13_move G F sk0 sk1 v108 (0 : Int32) v113 M) fun M116 =>
  bO (gfR M116 l0 13 2) fun v120 =>
  if l6 = (-1 : Int32) then (B_X13_agreeFresh_139 G F l0 l1 l2 l3 l4 v120 (0 : Int32) M116)
  else (B_X13_agreeFresh_139 G F l0 l1 l2 l3 l4 v120 ((8192 : Int32) * l6) M116)
def B_X13_agreeFresh_84 (G : mG) (F : Nat) (l0 : Nat) (l1 : Int32) (l2 : Int32) (l3 : Int32) (l4 : Int32) (l5 : Int32) (l6 : Int32) (sk0 : Nat) (sk1 : Int32) (M : mM) : Option mM :=
  bO (pfv M sk0 13 111 (.int sk1)) fun M84 =>
  bO (gfR M84 l0 13 2) fun v88 =>
  if l5 = (-1 : Int32) then (B_X13_agreeFresh_107 G F l0 l1 l2 l3 l4 l6 v88 (0 : Int32) M84)
  else (B_X13_agreeFresh_107 G F l0 l1 l2 l3 l4 l6 v88 ((8192 : Int32) * l5) M84)
def B_X13_agreeFresh_63 (G : mG) (F : Nat) (l0 : Nat) (l1 : Int32) (l2 : Int32) (l3 : Int32) (l4 : Int32) (l5 : Int32) (l6 : Int32) (sk0 : Nat) (sk1 : Int32) (M : mM) : Option mM :=
  bO (pfv M sk0 13 110 (.int sk1)) fun M63 =>
  if l6 = (-1 : Int32) then (B_X13_agreeFresh_84 G F l0 l1 l2 l3 l4 l5 l6 l0 (0 : Int32) M63)
  else (bO (gfR M63 l0 13 3) fun v78 =>
  bO (aI G M63 0 v78 l6) fun v83 =>
  B_X13_agreeFresh_84 G F l0 l1 l2 l3 l4 l5 l6 l0 v83 M63)
def B_X13_agreeFresh_43 (G : mG) (F : Nat) (l0 : Nat) (l1 : Int32) (l2 : Int32) (l3 : Int32) (l4 : Int32) (l5 : Int32) (l6 : Int32) (sk0 : Int32) (M : mM) : Option mM :=
  if l5 = (-1 : Int32) then (B_X13_agreeFresh_63 G F l0 l1 l2 l3 l4 l5 l6 l0 (0 : Int32) M)
  else (bO (gfR M l0 13 3) fun v57 =>
  bO (aI G M 0 v57 l5) fun v62 =>
  B_X13_agreeFresh_63 G F l0 l1 l2 l3 l4 l5 l6 l0 v62 M)
def P_X13_agreeFresh (G : mG) (F : Nat) (l0 : Nat) (l1 : Int32) (l2 : Int32) (l3 : Int32) (l4 : Int32) (l5 : Int32) (l6 : Int32) (M : mM) : Option mM :=
  bO (gfR M l0 13 65) fun v2 =>
  bO (rcv M l0 13) fun _ =>
  bP (P_X13_setPoint G F l0 v2 (0 : Int32) M) fun v6 M6 =>
  bO (gfR M6 l0 13 2) fun v13 =>
  bO (rcv M6 l0 13) fun _ =>
  bO (P_X13_times_ G F l0 v13 l4 M6) fun M18 =>
  if v6 = 0 then (B_X13_agreeFresh_43 G F l0 l1 l2 l3 l4 l5 l6 (0 : Int32) M18)
  else (bO (gfR M18 l0 13 107) fun v28 =>
  bO (rcv M18 l0 13) fun _ =>
  bP (P_X13_getPoint G F l0 v28 (0 : Int32) M18) fun v32 M32 =>
  if v32 = 0 then (B_X13_agreeFresh_43 G F l0 l1 l2 l3 l4 l5 l6 (0 : Int32) M32)
  else (B_X13_agreeFresh_43 G F l0 l1 l2 l3 l4 l5 l6 (1 : Int32) M32))
def B_X13_compose_107 (G : mG) (F : Nat) (l0 : Nat) (l3 : Int32) (l4 : Int32) (l5 : Int32) (M : mM) : Option (Int32 × mM) :=
  bO (rcv M l0 13) fun _ =>
  bO (P_X13_say G F l0 (125 : Int32) M) fun M110 =>
  bO (gfR M110 l0 13 3) fun v114 =>
  bO (aI G M110 0 v114 l4) fun v119 =>
  bO (gfI M110 l0 13 28) fun v123 =>
  if (8192 : Int32) < v123 then (some ((-3 : Int32), M110))
  else (if v119 ≤ (8000 : Int32) then (bO (pfv M110 l0 13 122 (.int (0 : Int32))) fun M145 =>
  bO (gfR M145 l0 13 27) fun v150 =>
  bO (gfI M145 l0 13 28) fun v155 =>
  bO (rcv M145 l0 13) fun _ =>
  bO (P_X13_addLetters G F l0 v150 (0 : Int32) v155 M145) fun M158 =>
  bO (gfI M158 l0 13 122) fun v162 =>
  bO (gfR M158 l0 13 125) fun v170 =>
  bO (gfR M158 l0 13 2) fun v175 =>
  bO (gfR M158 l0 13 121) fun v181 =>
  bO (gfR M158 l0 13 2) fun v188 =>
  bO (rcv M158 l0 13) fun _ =>
  bO (P_X13_sealIt G F l0 l3 v170 (0 : Int32) v175 l5 v181 (0 : Int32) v162 v188 ((8192 : Int32) * l4) v119 M158) fun M199 =>
  bO (rcv M199 l0 13) fun _ =>
  bO (P_X13_addByte G F l0 (46 : Int32) M199) fun M205 =>
  bO (gfR M205 l0 13 126) fun v210 =>
  bO (gfI M205 l0 13 127) fun v215 =>
  bO (rcv M205 l0 13) fun _ =>
  bO (P_X13_addLetters G F l0 v210 (0 : Int32) v215 M205) fun M218 =>
  bO (rcv M218 l0 13) fun _ =>
  bO (P_X13_addByte G F l0 (46 : Int32) M218) fun M224 =>
  bO (gfR M224 l0 13 2) fun v229 =>
  bP (P_X13_beginningOf G F l3 M224) fun v235 M235 =>
  bO (rcv M235 l0 13) fun _ =>
  bO (P_X13_addLetters G F l0 v229 l5 v235 M235) fun M238 =>
  bO (rcv M238 l0 13) fun _ =>
  bO (P_X13_addByte G F l0 (46 : Int32) M238) fun M244 =>
  bO (gfR M244 l0 13 49) fun v249 =>
  bO (gfI M244 l0 13 50) fun v254 =>
  bO (rcv M244 l0 13) fun _ =>
  bO (P_X13_addLetters G F l0 v249 (0 : Int32) v254 M244) fun M257 =>
  bO (rcv M257 l0 13) fun _ =>
  bO (P_X13_addByte G F l0 (46 : Int32) M257) fun M263 =>
  bO (gfR M263 l0 13 51) fun v268 =>
  bP (P_X13_markOf G F l3 M263) fun v273 M273 =>
  bO (rcv M273 l0 13) fun _ =>
  bO (P_X13_addLetters G F l0 v268 (0 : Int32) v273 M273) fun M276 =>
  bO (rcv M276 l0 13) fun _ =>
  bP (P_X13_saidOut G F l0 M276) fun v280 M280 =>
  some (v280, M280))
  else (some ((-3 : Int32), M110)))
def B_X13_compose_79 (G : mG) (F : Nat) (l0 : Nat) (l3 : Int32) (l4 : Int32) (l5 : Int32) (l7 : Int32) (M : mM) : Option (Int32 × mM) :=
  if l7 = (-1 : Int32) then (B_X13_compose_107 G F l0 l3 l4 l5 M)
  else (bO (gfR M l0 13 109) fun v90 =>
  bO (gfI M l0 13 111) fun v95 =>
  bO (rcv M l0 13) fun _ =>
  bO (P_X13_sayPart G F l0 (G.1 123) v90 (0 : Int32) v95 M) fun M98 =>
  bO (rcv M98 l0 13) fun _ =>
  bO (P_X13_say G F l0 (34 : Int32) M98) fun M104 =>
  B_X13_compose_107 G F l0 l3 l4 l5 M104)
def P_X13_compose (G : mG) (F : Nat) (l0 : Nat) (l1 : Int32) (l2 : Int32) (l3 : Int32) (l4 : Int32) (l5 : Int32) (l6 : Int32) (l7 : Int32) (M : mM) : Option (Int32 × mM) :=
  bO (rcv M l0 13) fun _ =>
  bO (P_X13_sayHead G F l0 l1 (G.1 117) l2 l3 M) fun M7 =>
  if l2 ≤ (3 : Int32) then (B_X13_compose_107 G F l0 l3 l4 l5 M7)
  else (bO (gfR M7 l0 13 107) fun v20 =>
  bO (rcv M7 l0 13) fun _ =>
  bO (P_X13_sayPart G F l0 (G.1 121) v20 (0 : Int32) (32 : Int32) M7) fun M26 =>
  bO (gfR M26 l0 13 107) fun v34 =>
  bO (rcv M26 l0 13) fun _ =>
  bO (P_X13_sayPart G F l0 (G.1 107) v34 (32 : Int32) (32 : Int32) M26) fun M41 =>
  bO (rcv M41 l0 13) fun _ =>
  bO (P_X13_sayAll G F l0 (G.1 105) M41) fun M48 =>
  if l6 = (-1 : Int32) then (B_X13_compose_79 G F l0 l3 l4 l5 l7 M48)
  else (bO (gfR M48 l0 13 108) fun v62 =>
  bO (gfI M48 l0 13 110) fun v67 =>
  bO (rcv M48 l0 13) fun _ =>
  bO (P_X13_sayPart G F l0 (G.1 122) v62 (0 : Int32) v67 M48) fun M70 =>
  bO (rcv M70 l0 13) fun _ =>
  bO (P_X13_say G F l0 (34 : Int32) M70) fun M76 =>
  B_X13_compose_79 G F l0 l3 l4 l5 l7 M76))
def B_X13_encrypt_393 (G : mG) (F : Nat) (l0 : Nat) (l1 : Int32) (l2 : Int32) (l3 : Int32) (l4 : Int32) (l6 : Int32) (l7 : Int32) (l10 : Int32) (l12 : Int32) (sk0 : Nat) (sk1 : Nat) (sk2 : Int32) (sk3 : Int32) (M : mM) : Option (Int32 × mM) :=
  bO (rcv M sk0 13) fun _ =>
  bO (P_X13_setKey G F sk0 sk1 sk2 sk3 M) fun M393 =>
  bO (gfR M393 l0 13 125) fun v399 =>
  bO (rcv M393 l0 13) fun _ =>
  bP (P_X13_wrapUp G F l0 v399 (0 : Int32) l10 M393) fun v405 M405 =>
  bO (pfv M405 l0 13 127 (.int v405)) fun M408 =>
  bO (gfR M408 l0 13 48) fun v412 =>
  bO (gfR M408 l0 13 126) fun v417 =>
  bO (gfI M408 l0 13 127) fun v422 =>
  bO (P_X13_move G F v412 (0 : Int32) v417 (0 : Int32) v422 M408) fun M425 =>
  bO (rcv M425 l0 13) fun _ =>
  bP (P_X13_compose G F l0 l1 l2 l3 l4 l12 l6 l7 M425) fun v440 M440 =>
  some (v440, M440)
def B_X13_encrypt_363 (G : mG) (F : Nat) (l0 : Nat) (l1 : Int32) (l2 : Int32) (l3 : Int32) (l4 : Int32) (l6 : Int32) (l7 : Int32) (l10 : Int32) (l12 : Int32) (sk0 : Nat) (sk1 : Nat) (M : mM) : Option (Int32 × mM) :=
  if l2 = (5 : Int32) then (if l2 = (5 : Int32) then (B_X13_encrypt_393 G F l0 l1 l2 l3 l4 l6 l7 l10 l12 sk0 sk1 (0 : Int32) (16 : Int32) M)
  else (bO (gfR M l0 13 86) fun v388 =>
  bO (aI G M 0 v388 l1) fun v392 =>
  B_X13_encrypt_393 G F l0 l1 l2 l3 l4 l6 l7 l10 l12 sk0 sk1 (0 : Int32) v392 M))
  else (if l2 = (5 : Int32) then (B_X13_encrypt_393 G F l0 l1 l2 l3 l4 l6 l7 l10 l12 sk0 sk1 ((128 : Int32) * l1) (16 : Int32) M)
  else (bO (gfR M l0 13 86) fun v388 =>
  bO (aI G M 0 v388 l1) fun v392 =>
  B_X13_encrypt_393 G F l0 l1 l2 l3 l4 l6 l7 l10 l12 sk0 sk1 ((128 : Int32) * l1) v392 M))
def B_X13_encrypt_317 (G : mG) (F : Nat) (l0 : Nat) (l1 : Int32) (l2 : Int32) (l3 : Int32) (l4 : Int32) (l6 : Int32) (l7 : Int32) (l10 : Int32) (l11 : Int32) (l12 : Int32) (M : mM) : Option (Int32 × mM) :=
  if l2 = (3 : Int32) then (bO (gfR M l0 13 2) fun v327 =>
  bO (rcv M l0 13) fun _ =>
  bO (P_X13_sealRsa G F l0 l1 l10 v327 l12 M) fun M332 =>
  bO (rcv M332 l0 13) fun _ =>
  bP (P_X13_compose G F l0 l1 l2 l3 l4 (l12 + 32) l6 l7 M332) fun v440 M440 =>
  some (v440, M440))
  else (if l11 = 0 then (bO (rcv M l0 13) fun _ =>
  bP (P_X13_compose G F l0 l1 l2 l3 l4 l12 l6 l7 M) fun v440 M440 =>
  some (v440, M440))
  else (if l2 = (5 : Int32) then (bO (gfR M l0 13 80) fun v353 =>
  B_X13_encrypt_363 G F l0 l1 l2 l3 l4 l6 l7 l10 l12 l0 v353 M)
  else (bO (gfR M l0 13 85) fun v360 =>
  B_X13_encrypt_363 G F l0 l1 l2 l3 l4 l6 l7 l10 l12 l0 v360 M)))
def B_X13_encrypt_294 (G : mG) (F : Nat) (l0 : Nat) (l1 : Int32) (l2 : Int32) (l3 : Int32) (l4 : Int32) (l6 : Int32) (l7 : Int32) (l10 : Int32) (l11 : Int32) (l12 : Int32) (sk0 : Nat) (M : mM) : Option (Int32 × mM) :=
  if l2 = 0 then (bO (gfR M l0 13 125) fun v308 =>
  bO (P_X13_move G F sk0 ((128 : Int32) * l1) v308 (0 : Int32) l10 M) fun M314 =>
  B_X13_encrypt_317 G F l0 l1 l2 l3 l4 l6 l7 l10 l11 l12 M314)
  else (bO (gfR M l0 13 125) fun v308 =>
  bO (P_X13_move G F sk0 (0 : Int32) v308 (0 : Int32) l10 M) fun M314 =>
  B_X13_encrypt_317 G F l0 l1 l2 l3 l4 l6 l7 l10 l11 l12 M314)
def B_X13_encrypt_248 (G : mG) (F : Nat) (l0 : Nat) (l1 : Int32) (l2 : Int32) (l3 : Int32) (l4 : Int32) (l6 : Int32) (l7 : Int32) (l10 : Int32) (l11 : Int32) (l12 : Int32) (M : mM) : Option (Int32 × mM) :=
  if l11 = 0 then (if l2 = 0 then (bO (gfR M l0 13 85) fun v284 =>
  B_X13_encrypt_294 G F l0 l1 l2 l3 l4 l6 l7 l10 l11 l12 v284 M)
  else (bO (gfR M l0 13 80) fun v291 =>
  B_X13_encrypt_294 G F l0 l1 l2 l3 l4 l6 l7 l10 l11 l12 v291 M))
  else (bO (gfR M l0 13 2) fun v254 =>
  bO (gfR M l0 13 125) fun v260 =>
  bO (P_X13_move G F v254 l12 v260 (0 : Int32) l10 M) fun M266 =>
  B_X13_encrypt_317 G F l0 l1 l2 l3 l4 l6 l7 l10 l11 (l12 + l10) M266)
def B_X13_encrypt_222 (G : mG) (F : Nat) (l0 : Nat) (l1 : Int32) (l2 : Int32) (l3 : Int32) (l4 : Int32) (l6 : Int32) (l7 : Int32) (l8 : Int32) (l10 : Int32) (l11 : Int32) (l12 : Int32) (M : mM) : Option (Int32 × mM) :=
  bO (pfv M l0 13 127 (.int (0 : Int32))) fun M224 =>
  if l8 = 0 then (B_X13_encrypt_248 G F l0 l1 l2 l3 l4 l6 l7 l10 l11 l12 M224)
  else (bO (rcv M224 l0 13) fun _ =>
  bO (P_X13_agreeFresh G F l0 l1 l2 l3 l12 l6 l7 M224) fun M242 =>
  B_X13_encrypt_248 G F l0 l1 l2 l3 l4 l6 l7 l10 l11 (l12 + 32) M242)
def B_X13_encrypt_181 (G : mG) (F : Nat) (l0 : Nat) (l1 : Int32) (l2 : Int32) (l3 : Int32) (l4 : Int32) (l5 : Int32) (l6 : Int32) (l7 : Int32) (l8 : Int32) (l10 : Int32) (l11 : Int32) (l12 : Int32) (sk0 : Int32) (sk1 : Int32) (M : mM) : Option (Int32 × mM) :=
  bP (P_X13_beginningOf G F l3 M) fun v183 M183 =>
  bO (gfR M183 l0 13 3) fun v190 =>
  bO (aI G M183 0 v190 l5) fun v195 =>
  if v195 < ((sk0 + sk1) + v183) then (some ((-4 : Int32), M183))
  else (if l8 = 0 then (B_X13_encrypt_222 G F l0 l1 l2 l3 l4 l6 l7 l8 l10 l11 l12 M183)
  else (bO (gfR M183 l0 13 2) fun v208 =>
  bO (rcv M183 l0 13) fun _ =>
  bP (P_X13_isSecret G F l0 v208 l12 M183) fun v213 M213 =>
  if v213 = 0 then (some ((-4 : Int32), M213))
  else (B_X13_encrypt_222 G F l0 l1 l2 l3 l4 l6 l7 l8 l10 l11 l12 M213)))
def B_X13_encrypt_158 (G : mG) (F : Nat) (l0 : Nat) (l1 : Int32) (l2 : Int32) (l3 : Int32) (l4 : Int32) (l5 : Int32) (l6 : Int32) (l7 : Int32) (l8 : Int32) (l10 : Int32) (l11 : Int32) (l12 : Int32) (sk0 : Int32) (M : mM) : Option (Int32 × mM) :=
  if l11 = 0 then (if l2 = (3 : Int32) then (B_X13_encrypt_181 G F l0 l1 l2 l3 l4 l5 l6 l7 l8 l10 l11 l12 (sk0 + (0 : Int32)) (32 : Int32) M)
  else (B_X13_encrypt_181 G F l0 l1 l2 l3 l4 l5 l6 l7 l8 l10 l11 l12 (sk0 + (0 : Int32)) (0 : Int32) M))
  else (if l2 = (3 : Int32) then (B_X13_encrypt_181 G F l0 l1 l2 l3 l4 l5 l6 l7 l8 l10 l11 l12 (sk0 + l10) (32 : Int32) M)
  else (B_X13_encrypt_181 G F l0 l1 l2 l3 l4 l5 l6 l7 l8 l10 l11 l12 (sk0 + l10) (0 : Int32) M))
def B_X13_encrypt_136 (G : mG) (F : Nat) (l0 : Nat) (l1 : Int32) (l2 : Int32) (l3 : Int32) (l4 : Int32) (l5 : Int32) (l6 : Int32) (l7 : Int32) (l8 : Int32) (l10 : Int32) (M : mM) : Option (Int32 × mM) :=
  if l8 = 0 then (B_X13_encrypt_158 G F l0 l1 l2 l3 l4 l5 l6 l7 l8 l10 (0 : Int32) ((8192 : Int32) * l5) (0 : Int32) M)
  else (B_X13_encrypt_158 G F l0 l1 l2 l3 l4 l5 l6 l7 l8 l10 (0 : Int32) ((8192 : Int32) * l5) (32 : Int32) M)
def B_X13_encrypt_103 (G : mG) (F : Nat) (l0 : Nat) (l1 : Int32) (l2 : Int32) (l3 : Int32) (l4 : Int32) (l5 : Int32) (l6 : Int32) (l7 : Int32) (l8 : Int32) (M : mM) : Option (Int32 × mM) :=
  bO (rcv M l0 13) fun _ =>
  bP (P_X13_maySeal G F l0 l1 l2 l3 (0 : Int32) M) fun v108 M108 =>
  if v108 = 0 then (some ((-26 : Int32), M108))
  else (bP (P_X13_keyOf G F l3 M108) fun v118 M118 =>
  if l2 ≤ 0 then (B_X13_encrypt_136 G F l0 l1 l2 l3 l4 l5 l6 l7 l8 v118 M118)
  else (if l2 = (4 : Int32) then (B_X13_encrypt_136 G F l0 l1 l2 l3 l4 l5 l6 l7 l8 v118 M118)
  else (if l8 = 0 then (B_X13_encrypt_158 G F l0 l1 l2 l3 l4 l5 l6 l7 l8 v118 (1 : Int32) ((8192 : Int32) * l5) (0 : Int32) M118)
  else (B_X13_encrypt_158 G F l0 l1 l2 l3 l4 l5 l6 l7 l8 v118 (1 : Int32) ((8192 : Int32) * l5) (32 : Int32) M118))))
def B_X13_encrypt_60 (G : mG) (F : Nat) (l0 : Nat) (l1 : Int32) (l2 : Int32) (l3 : Int32) (l4 : Int32) (l5 : Int32) (l6 : Int32) (l7 : Int32) (l8 : Int32) (sk0 : Int32) (M : mM) : Option (Int32 × mM) :=
  if sk0 = 0 then (some ((-2 : Int32), M))
  else (if l8 = 0 then (B_X13_encrypt_103 G F l0 l1 l2 l3 l4 l5 l6 l7 l8 M)
  else (if l6 = (-1 : Int32) then (if l7 = (-1 : Int32) then (B_X13_encrypt_103 G F l0 l1 l2 l3 l4 l5 l6 l7 l8 M)
  else (bP (P_X13_isRow G F l7 M) fun v94 M94 =>
  if v94 = 0 then (some ((-2 : Int32), M94))
  else (B_X13_encrypt_103 G F l0 l1 l2 l3 l4 l5 l6 l7 l8 M94)))
  else (bP (P_X13_isRow G F l6 M) fun v80 M80 =>
  if v80 = 0 then (some ((-2 : Int32), M80))
  else (if l7 = (-1 : Int32) then (B_X13_encrypt_103 G F l0 l1 l2 l3 l4 l5 l6 l7 l8 M80)
  else (bP (P_X13_isRow G F l7 M80) fun v94 M94 =>
  if v94 = 0 then (some ((-2 : Int32), M94))
  else (B_X13_encrypt_103 G F l0 l1 l2 l3 l4 l5 l6 l7 l8 M94))))))
def B_X13_encrypt_10 (G : mG) (F : Nat) (l0 : Nat) (l1 : Int32) (l2 : Int32) (l3 : Int32) (l4 : Int32) (l5 : Int32) (l6 : Int32) (l7 : Int32) (sk0 : Int32) (M : mM) : Option (Int32 × mM) :=
  bO (rcv M l0 13) fun _ =>
  bP (P_X13_isKey G F l0 l1 M) fun v14 M14 =>
  if v14 = 0 then (B_X13_encrypt_60 G F l0 l1 l2 l3 l4 l5 l6 l7 sk0 (0 : Int32) M14)
  else (if l2 < 0 then (B_X13_encrypt_60 G F l0 l1 l2 l3 l4 l5 l6 l7 sk0 (0 : Int32) M14)
  else (if (6 : Int32) ≤ l2 then (B_X13_encrypt_60 G F l0 l1 l2 l3 l4 l5 l6 l7 sk0 (0 : Int32) M14)
  else (if l3 < 0 then (B_X13_encrypt_60 G F l0 l1 l2 l3 l4 l5 l6 l7 sk0 (0 : Int32) M14)
  else (if (4 : Int32) ≤ l3 then (B_X13_encrypt_60 G F l0 l1 l2 l3 l4 l5 l6 l7 sk0 (0 : Int32) M14)
  else (bP (P_X13_isRow G F l4 M14) fun v41 M41 =>
  if v41 = 0 then (B_X13_encrypt_60 G F l0 l1 l2 l3 l4 l5 l6 l7 sk0 (0 : Int32) M41)
  else (bP (P_X13_isRow G F l5 M41) fun v49 M49 =>
  if v49 = 0 then (B_X13_encrypt_60 G F l0 l1 l2 l3 l4 l5 l6 l7 sk0 (0 : Int32) M49)
  else (B_X13_encrypt_60 G F l0 l1 l2 l3 l4 l5 l6 l7 sk0 (1 : Int32) M49)))))))
def P_X13_encrypt (G : mG) (F : Nat) (l0 : Nat) (l1 : Int32) (l2 : Int32) (l3 : Int32) (l4 : Int32) (l5 : Int32) (l6 : Int32) (l7 : Int32) (M : mM) : Option (Int32 × mM) :=
  if l2 ≤ (3 : Int32) then (B_X13_encrypt_10 G F l0 l1 l2 l3 l4 l5 l6 l7 (0 : Int32) M)
  else (B_X13_encrypt_10 G F l0 l1 l2 l3 l4 l5 l6 l7 (1 : Int32) M)
def B_X13_keyComes_178 (G : mG) (F : Nat) (l0 : Nat) (l4 : Int32) (sk0 : Nat) (sk1 : Nat) (sk2 : Int32) (sk3 : Int32) (M : mM) : Option (Int32 × mM) :=
  bO (rcv M sk0 13) fun _ =>
  bO (P_X13_setKey G F sk0 sk1 sk2 sk3 M) fun M178 =>
  bO (gfR M178 l0 13 126) fun v183 =>
  bO (gfI M178 l0 13 127) fun v188 =>
  bO (rcv M178 l0 13) fun _ =>
  bP (P_X13_unwrapIt G F l0 v183 (0 : Int32) v188 M178) fun v191 M191 =>
  bO (gfR M191 l0 13 48) fun v197 =>
  bO (gfR M191 l0 13 125) fun v203 =>
  bO (P_X13_move G F v197 (8 : Int32) v203 (0 : Int32) l4 M191) fun M209 =>
  retZ v191 M209
def B_X13_keyComes_148 (G : mG) (F : Nat) (l0 : Nat) (l1 : Int32) (l2 : Int32) (l4 : Int32) (sk0 : Nat) (sk1 : Nat) (M : mM) : Option (Int32 × mM) :=
  if l2 = (5 : Int32) then (if l2 = (5 : Int32) then (B_X13_keyComes_178 G F l0 l4 sk0 sk1 (0 : Int32) (16 : Int32) M)
  else (bO (gfR M l0 13 86) fun v173 =>
  bO (aI G M 0 v173 l1) fun v177 =>
  B_X13_keyComes_178 G F l0 l4 sk0 sk1 (0 : Int32) v177 M))
  else (if l2 = (5 : Int32) then (B_X13_keyComes_178 G F l0 l4 sk0 sk1 ((128 : Int32) * l1) (16 : Int32) M)
  else (bO (gfR M l0 13 86) fun v173 =>
  bO (aI G M 0 v173 l1) fun v177 =>
  B_X13_keyComes_178 G F l0 l4 sk0 sk1 ((128 : Int32) * l1) v177 M))
def B_X13_keyComes_94 (G : mG) (F : Nat) (l0 : Nat) (l4 : Int32) (sk0 : Nat) (sk1 : Int32) (M : mM) : Option (Int32 × mM) :=
  bO (gfR M l0 13 125) fun v95 =>
  bO (P_X13_move G F sk0 sk1 v95 (0 : Int32) l4 M) fun M101 =>
  bO (gfI M101 l0 13 127) fun v105 =>
  if v105 = 0 then (retZ (1 : Int32) M101)
  else (retZ (0 : Int32) M101)
def B_X13_keyComes_66 (G : mG) (F : Nat) (l0 : Nat) (l1 : Int32) (l2 : Int32) (l4 : Int32) (M : mM) : Option (Int32 × mM) :=
  if l2 = 0 then (bO (gfR M l0 13 85) fun v71 =>
  if l2 = 0 then (B_X13_keyComes_94 G F l0 l4 v71 ((128 : Int32) * l1) M)
  else (B_X13_keyComes_94 G F l0 l4 v71 (0 : Int32) M))
  else (bO (gfR M l0 13 80) fun v78 =>
  if l2 = 0 then (B_X13_keyComes_94 G F l0 l4 v78 ((128 : Int32) * l1) M)
  else (B_X13_keyComes_94 G F l0 l4 v78 (0 : Int32) M))
def B_X13_keyComes_57 (G : mG) (F : Nat) (l0 : Nat) (l1 : Int32) (l2 : Int32) (l4 : Int32) (M : mM) : Option (Int32 × mM) :=
  if l2 = 0 then (B_X13_keyComes_66 G F l0 l1 l2 l4 M)
  else (if l2 = (4 : Int32) then (B_X13_keyComes_66 G F l0 l1 l2 l4 M)
  else (bO (gfI M l0 13 127) fun v118 =>
  if v118 = (l4 + (8 : Int32)) then (if l2 = (5 : Int32) then (bO (gfR M l0 13 80) fun v138 =>
  B_X13_keyComes_148 G F l0 l1 l2 l4 l0 v138 M)
  else (bO (gfR M l0 13 85) fun v145 =>
  B_X13_keyComes_148 G F l0 l1 l2 l4 l0 v145 M))
  else (retZ (0 : Int32) M)))
def P_X13_keyComes (G : mG) (F : Nat) (l0 : Nat) (l1 : Int32) (l2 : Int32) (l3 : Int32) (M : mM) : Option (Int32 × mM) :=
  bP (P_X13_keyOf G F l3 M) fun v1 M1 =>
  if l2 = (3 : Int32) then (bO (rcv M1 l0 13) fun _ =>
  bP (P_X13_openRsa G F l0 l1 M1) fun v13 M13 =>
  if v13 = v1 then (retZ (1 : Int32) M13)
  else (retZ (0 : Int32) M13))
  else (if l2 ≤ (3 : Int32) then (B_X13_keyComes_57 G F l0 l1 l2 v1 M1)
  else (bO (gfR M1 l0 13 89) fun v34 =>
  bO (gfR M1 l0 13 107) fun v43 =>
  bO (rcv M1 l0 13) fun _ =>
  bP (P_X13_agree G F l0 v34 ((128 : Int32) * l1) v43 (0 : Int32) l2 l3 M1) fun v49 M49 =>
  if v49 = 0 then (retZ (0 : Int32) M49)
  else (B_X13_keyComes_57 G F l0 l1 l2 v1 M49)))
def B_X13_decrypt_363 (G : mG) (F : Nat) (r278 : Nat → Int32 → Int32 → Int32 → Int32 → Int32 → mM → Option (Int32 × mM)) (l0 : Nat) (l2 : Int32) (l3 : Int32) (l4 : Int32) (l6 : Int32) (l7 : Int32) (sk0 : Int32) (M : mM) : Option (Int32 × mM) :=
  if sk0 = 0 then (r278 l0 l2 l3 l4 l6 (l7 + 1) M)
  else (bO (gfI M l0 13 103) fun v372 =>
  bO (gfR M l0 13 125) fun v376 =>
  bO (gfR M l0 13 128) fun v381 =>
  bO (gfR M l0 13 2) fun v386 =>
  bO (gfR M l0 13 123) fun v391 =>
  bO (aI G M 0 v391 (0 : Int32)) fun v395 =>
  bO (gfR M l0 13 132) fun v397 =>
  bO (gfR M l0 13 133) fun v403 =>
  bO (rcv M l0 13) fun _ =>
  bP (P_X13_openIt G F l0 v372 v376 (0 : Int32) v381 (0 : Int32) v386 l2 v395 v397 (0 : Int32) l3 v403 (0 : Int32) M) fun v407 M407 =>
  if v407 = 0 then (r278 l0 l2 l3 l4 l6 (l7 + 1) M407)
  else (bO (gfR M407 l0 13 49) fun v415 =>
  bO (gfI M407 l0 13 50) fun v420 =>
  bO (rcv M407 l0 13) fun _ =>
  bP (P_X13_tell G F l0 v415 (0 : Int32) v420 M407) fun v423 M423 =>
  some (l7, M423)))
def B_X13_decrypt_278 (G : mG) (F : Nat) : Nat → Nat → Int32 → Int32 → Int32 → Int32 → Int32 → mM → Option (Int32 × mM)
  | 0, _, _, _, _, _, _, _ => none
  | n + 1, l0, l2, l3, l4, l6, l7, M =>
  if (16 : Int32) ≤ l7 then (if l6 = 0 then (some ((-26 : Int32), M))
  else (some ((-27 : Int32), M)))
  else (bO (gfI M l0 13 102) fun v289 =>
  bO (gfI M l0 13 103) fun v293 =>
  bO (rcv M l0 13) fun _ =>
  bP (P_X13_maySeal G F l0 l7 v289 v293 (1 : Int32) M) fun v297 M297 =>
  if v297 = 0 then (B_X13_decrypt_278 G F n l0 l2 l3 l4 l6 (l7 + 1) M297)
  else (bO (rcv M297 l0 13) fun _ =>
  bP (P_X13_hasKid G F l0 l7 M297) fun v306 M306 =>
  if v306 = 0 then (B_X13_decrypt_278 G F n l0 l2 l3 l4 l6 (l7 + 1) M306)
  else (bO (gfI M306 l0 13 102) fun v319 =>
  bO (gfI M306 l0 13 103) fun v323 =>
  bO (rcv M306 l0 13) fun _ =>
  bP (P_X13_keyComes G F l0 l7 v319 v323 M306) fun v326 M326 =>
  if v326 = 0 then (B_X13_decrypt_363 G F (B_X13_decrypt_278 G F n) l0 l2 l3 l4 (1 : Int32) l7 (0 : Int32) M326)
  else (bO (gfI M326 l0 13 129) fun v333 =>
  bO (gfI M326 l0 13 103) fun v337 =>
  bP (P_X13_beginningOf G F v337 M326) fun v340 M340 =>
  if v333 = v340 then (bO (gfI M340 l0 13 103) fun v349 =>
  bP (P_X13_markOf G F v349 M340) fun v352 M352 =>
  if l4 = v352 then (B_X13_decrypt_363 G F (B_X13_decrypt_278 G F n) l0 l2 l3 l4 (1 : Int32) l7 (1 : Int32) M352)
  else (B_X13_decrypt_363 G F (B_X13_decrypt_278 G F n) l0 l2 l3 l4 (1 : Int32) l7 (0 : Int32) M352))
  else (B_X13_decrypt_363 G F (B_X13_decrypt_278 G F n) l0 l2 l3 l4 (1 : Int32) l7 (0 : Int32) M340)))))
def P_X13_decrypt (G : mG) (F : Nat) (l0 : Nat) (l1 : Int32) (M : mM) : Option (Int32 × mM) :=
  bP (P_X13_isRow G F l1 M) fun v1 M1 =>
  if v1 = 0 then (some ((-2 : Int32), M1))
  else (bO (rcv M1 l0 13) fun _ =>
  bP (P_X13_pointsOf G F l0 l1 M1) fun v12 M12 =>
  if v12 = (4 : Int32) then (bO (gfR M12 l0 13 2) fun v31 =>
  bO (gfR M12 l0 13 123) fun v36 =>
  bO (aI G M12 0 v36 (0 : Int32)) fun v40 =>
  bO (gfR M12 l0 13 119) fun v42 =>
  bO (rcv M12 l0 13) fun _ =>
  bP (P_X13_unletter G F l0 v31 ((8192 : Int32) * l1) v40 v42 (0 : Int32) M12) fun v46 M46 =>
  bO (pfv M46 l0 13 120 (.int v46)) fun M49 =>
  bO (gfR M49 l0 13 2) fun v55 =>
  bO (gfR M49 l0 13 123) fun v60 =>
  bO (aI G M49 0 v60 (0 : Int32)) fun v64 =>
  bO (gfR M49 l0 13 123) fun v69 =>
  bO (aI G M49 0 v69 (1 : Int32)) fun v73 =>
  bO (gfR M49 l0 13 123) fun v75 =>
  bO (aI G M49 0 v75 (0 : Int32)) fun v79 =>
  bO (gfR M49 l0 13 126) fun v84 =>
  bO (rcv M49 l0 13) fun _ =>
  bP (P_X13_unletter G F l0 v55 ((((8192 : Int32) * l1) + v64) + (1 : Int32)) ((v73 - v79) - (1 : Int32)) v84 (0 : Int32) M49) fun v88 M88 =>
  bO (pfv M88 l0 13 127 (.int v88)) fun M91 =>
  bO (gfR M91 l0 13 2) fun v97 =>
  bO (gfR M91 l0 13 123) fun v102 =>
  bO (aI G M91 0 v102 (1 : Int32)) fun v106 =>
  bO (gfR M91 l0 13 123) fun v111 =>
  bO (aI G M91 0 v111 (2 : Int32)) fun v115 =>
  bO (gfR M91 l0 13 123) fun v117 =>
  bO (aI G M91 0 v117 (1 : Int32)) fun v121 =>
  bO (gfR M91 l0 13 128) fun v126 =>
  bO (rcv M91 l0 13) fun _ =>
  bP (P_X13_unletter G F l0 v97 ((((8192 : Int32) * l1) + v106) + (1 : Int32)) ((v115 - v121) - (1 : Int32)) v126 (0 : Int32) M91) fun v130 M130 =>
  bO (pfv M130 l0 13 129 (.int v130)) fun M133 =>
  bO (gfR M133 l0 13 2) fun v138 =>
  bO (gfR M133 l0 13 123) fun v143 =>
  bO (aI G M133 0 v143 (2 : Int32)) fun v147 =>
  bO (gfR M133 l0 13 123) fun v152 =>
  bO (aI G M133 0 v152 (3 : Int32)) fun v156 =>
  bO (gfR M133 l0 13 123) fun v158 =>
  bO (aI G M133 0 v158 (2 : Int32)) fun v162 =>
  bO (gfR M133 l0 13 132) fun v167 =>
  bO (rcv M133 l0 13) fun _ =>
  bP (P_X13_unletter G F l0 v138 ((((8192 : Int32) * l1) + v147) + (1 : Int32)) ((v156 - v162) - (1 : Int32)) v167 (0 : Int32) M133) fun v171 M171 =>
  bO (gfR M171 l0 13 2) fun v177 =>
  bO (gfR M171 l0 13 123) fun v182 =>
  bO (aI G M171 0 v182 (3 : Int32)) fun v186 =>
  bO (gfR M171 l0 13 3) fun v191 =>
  bO (aI G M171 0 v191 l1) fun v195 =>
  bO (gfR M171 l0 13 123) fun v197 =>
  bO (aI G M171 0 v197 (3 : Int32)) fun v201 =>
  bO (gfR M171 l0 13 133) fun v206 =>
  bO (rcv M171 l0 13) fun _ =>
  bP (P_X13_unletter G F l0 v177 ((((8192 : Int32) * l1) + v186) + (1 : Int32)) ((v195 - v201) - (1 : Int32)) v206 (0 : Int32) M171) fun v210 M210 =>
  bO (gfI M210 l0 13 120) fun v216 =>
  if v216 < 0 then (some ((-21 : Int32), M210))
  else (bO (gfI M210 l0 13 127) fun v223 =>
  if v223 < 0 then (some ((-21 : Int32), M210))
  else (bO (gfI M210 l0 13 129) fun v230 =>
  if v230 < 0 then (some ((-21 : Int32), M210))
  else (if v171 < 0 then (some ((-21 : Int32), M210))
  else (if 0 ≤ v210 then (bO (gfR M210 l0 13 119) fun v250 =>
  bO (gfI M210 l0 13 120) fun v255 =>
  bO (rcv M210 l0 13) fun _ =>
  bP (P_X13_headOf G F l0 v250 (0 : Int32) v255 (1 : Int32) M210) fun v259 M259 =>
  if 0 ≤ v259 then (B_X13_decrypt_278 G F F l0 ((8192 : Int32) * l1) v171 v210 (0 : Int32) (0 : Int32) M259)
  else (some (v259, M259)))
  else (some ((-21 : Int32), M210)))))))
  else (some ((-20 : Int32), M12)))
def B_L_law_1364 (G : mG) (F : Nat) (r18 : Nat → Nat → Nat → Int32 → mM → Nat → Nat → Option (Int32 × mM × Nat × Nat)) (l0 : Nat) (l1 : Nat) (l2 : Nat) (l3 : Int32) (sk0 : Int32) (sk1 : Int32) (M : mM) (sz : Nat) (sl : Nat) : Option (Int32 × mM × Nat × Nat) :=
  if sk0 = sk1 then (r18 l0 l1 l2 (l3 + 8) M sz sl)
  else (retZA (0 : Int32) M sz sl)
def B_L_law_1341 (G : mG) (F : Nat) (r18 : Nat → Nat → Nat → Int32 → mM → Nat → Nat → Option (Int32 × mM × Nat × Nat)) (l0 : Nat) (l1 : Nat) (l2 : Nat) (l3 : Int32) (sk0 : Int32) (sk1 : Int32) (M : mM) (sz : Nat) (sl : Nat) : Option (Int32 × mM × Nat × Nat) :=
  if sk0 = sk1 then (r18 l0 l1 l2 (l3 + 8) M sz sl)
  else (retZA (0 : Int32) M sz sl)
def B_L_law_1254 (G : mG) (F : Nat) (r18 : Nat → Nat → Nat → Int32 → mM → Nat → Nat → Option (Int32 × mM × Nat × Nat)) (l0 : Nat) (l1 : Nat) (l2 : Nat) (l3 : Int32) (sk0 : Int32) (sk1 : Int32) (M : mM) (sz : Nat) (sl : Nat) : Option (Int32 × mM × Nat × Nat) :=
  if sk0 = sk1 then (r18 l0 l1 l2 (l3 + 8) M sz sl)
  else (retZA (0 : Int32) M sz sl)
def B_L_law_1231 (G : mG) (F : Nat) (r18 : Nat → Nat → Nat → Int32 → mM → Nat → Nat → Option (Int32 × mM × Nat × Nat)) (l0 : Nat) (l1 : Nat) (l2 : Nat) (l3 : Int32) (sk0 : Int32) (sk1 : Int32) (M : mM) (sz : Nat) (sl : Nat) : Option (Int32 × mM × Nat × Nat) :=
  if sk0 = sk1 then (r18 l0 l1 l2 (l3 + 8) M sz sl)
  else (retZA (0 : Int32) M sz sl)
def B_L_law_1168 (G : mG) (F : Nat) (r18 : Nat → Nat → Nat → Int32 → mM → Nat → Nat → Option (Int32 × mM × Nat × Nat)) (l0 : Nat) (l1 : Nat) (l2 : Nat) (l3 : Int32) (sk0 : Int32) (sk1 : Int32) (M : mM) (sz : Nat) (sl : Nat) : Option (Int32 × mM × Nat × Nat) :=
  if sk0 = sk1 then (r18 l0 l1 l2 (l3 + 8) M sz sl)
  else (retZA (0 : Int32) M sz sl)
def B_L_law_1145 (G : mG) (F : Nat) (r18 : Nat → Nat → Nat → Int32 → mM → Nat → Nat → Option (Int32 × mM × Nat × Nat)) (l0 : Nat) (l1 : Nat) (l2 : Nat) (l3 : Int32) (sk0 : Int32) (sk1 : Int32) (M : mM) (sz : Nat) (sl : Nat) : Option (Int32 × mM × Nat × Nat) :=
  if sk0 = sk1 then (r18 l0 l1 l2 (l3 + 8) M sz sl)
  else (retZA (0 : Int32) M sz sl)
def B_L_law_1112 (G : mG) (F : Nat) (r18 : Nat → Nat → Nat → Int32 → mM → Nat → Nat → Option (Int32 × mM × Nat × Nat)) (l0 : Nat) (l1 : Nat) (l2 : Nat) (l3 : Int32) (sk0 : Int32) (sk1 : Int32) (M : mM) (sz : Nat) (sl : Nat) : Option (Int32 × mM × Nat × Nat) :=
  if sk0 = sk1 then (r18 l0 l1 l2 (l3 + 8) M sz sl)
  else (retZA (0 : Int32) M sz sl)
def B_L_law_1089 (G : mG) (F : Nat) (r18 : Nat → Nat → Nat → Int32 → mM → Nat → Nat → Option (Int32 × mM × Nat × Nat)) (l0 : Nat) (l1 : Nat) (l2 : Nat) (l3 : Int32) (sk0 : Int32) (sk1 : Int32) (M : mM) (sz : Nat) (sl : Nat) : Option (Int32 × mM × Nat × Nat) :=
  if sk0 = sk1 then (r18 l0 l1 l2 (l3 + 8) M sz sl)
  else (retZA (0 : Int32) M sz sl)
def B_L_law_1066 (G : mG) (F : Nat) (r18 : Nat → Nat → Nat → Int32 → mM → Nat → Nat → Option (Int32 × mM × Nat × Nat)) (l0 : Nat) (l1 : Nat) (l2 : Nat) (l3 : Int32) (sk0 : Int32) (sk1 : Int32) (M : mM) (sz : Nat) (sl : Nat) : Option (Int32 × mM × Nat × Nat) :=
  if sk0 = sk1 then (r18 l0 l1 l2 (l3 + 8) M sz sl)
  else (retZA (0 : Int32) M sz sl)
def B_L_law_1003 (G : mG) (F : Nat) (r18 : Nat → Nat → Nat → Int32 → mM → Nat → Nat → Option (Int32 × mM × Nat × Nat)) (l0 : Nat) (l1 : Nat) (l2 : Nat) (l3 : Int32) (sk0 : Int32) (sk1 : Int32) (M : mM) (sz : Nat) (sl : Nat) : Option (Int32 × mM × Nat × Nat) :=
  if sk0 = sk1 then (r18 l0 l1 l2 (l3 + 8) M sz sl)
  else (retZA (0 : Int32) M sz sl)
def B_L_law_970 (G : mG) (F : Nat) (r18 : Nat → Nat → Nat → Int32 → mM → Nat → Nat → Option (Int32 × mM × Nat × Nat)) (l0 : Nat) (l1 : Nat) (l2 : Nat) (l3 : Int32) (sk0 : Int32) (sk1 : Int32) (M : mM) (sz : Nat) (sl : Nat) : Option (Int32 × mM × Nat × Nat) :=
  if sk0 = sk1 then (r18 l0 l1 l2 (l3 + 8) M sz sl)
  else (retZA (0 : Int32) M sz sl)
def B_L_law_927 (G : mG) (F : Nat) (r18 : Nat → Nat → Nat → Int32 → mM → Nat → Nat → Option (Int32 × mM × Nat × Nat)) (l0 : Nat) (l1 : Nat) (l2 : Nat) (l3 : Int32) (sk0 : Int32) (sk1 : Int32) (M : mM) (sz : Nat) (sl : Nat) : Option (Int32 × mM × Nat × Nat) :=
  if sk0 = sk1 then (r18 l0 l1 l2 (l3 + 8) M sz sl)
  else (retZA (0 : Int32) M sz sl)
def B_L_law_864 (G : mG) (F : Nat) (r18 : Nat → Nat → Nat → Int32 → mM → Nat → Nat → Option (Int32 × mM × Nat × Nat)) (l0 : Nat) (l1 : Nat) (l2 : Nat) (l3 : Int32) (sk0 : Int32) (sk1 : Int32) (M : mM) (sz : Nat) (sl : Nat) : Option (Int32 × mM × Nat × Nat) :=
  if sk0 = sk1 then (r18 l0 l1 l2 (l3 + 8) M sz sl)
  else (retZA (0 : Int32) M sz sl)
def B_L_law_801 (G : mG) (F : Nat) (r18 : Nat → Nat → Nat → Int32 → mM → Nat → Nat → Option (Int32 × mM × Nat × Nat)) (l0 : Nat) (l1 : Nat) (l2 : Nat) (l3 : Int32) (sk0 : Int32) (sk1 : Int32) (M : mM) (sz : Nat) (sl : Nat) : Option (Int32 × mM × Nat × Nat) :=
  if sk0 = sk1 then (r18 l0 l1 l2 (l3 + 8) M sz sl)
  else (retZA (0 : Int32) M sz sl)
def B_L_law_768 (G : mG) (F : Nat) (r18 : Nat → Nat → Nat → Int32 → mM → Nat → Nat → Option (Int32 × mM × Nat × Nat)) (l0 : Nat) (l1 : Nat) (l2 : Nat) (l3 : Int32) (sk0 : Int32) (sk1 : Int32) (M : mM) (sz : Nat) (sl : Nat) : Option (Int32 × mM × Nat × Nat) :=
  if sk0 = sk1 then (r18 l0 l1 l2 (l3 + 8) M sz sl)
  else (retZA (0 : Int32) M sz sl)
def B_L_law_735 (G : mG) (F : Nat) (r18 : Nat → Nat → Nat → Int32 → mM → Nat → Nat → Option (Int32 × mM × Nat × Nat)) (l0 : Nat) (l1 : Nat) (l2 : Nat) (l3 : Int32) (sk0 : Int32) (sk1 : Int32) (M : mM) (sz : Nat) (sl : Nat) : Option (Int32 × mM × Nat × Nat) :=
  if sk0 = sk1 then (r18 l0 l1 l2 (l3 + 8) M sz sl)
  else (retZA (0 : Int32) M sz sl)
def B_L_law_724 (G : mG) (F : Nat) (r18 : Nat → Nat → Nat → Int32 → mM → Nat → Nat → Option (Int32 × mM × Nat × Nat)) (l0 : Nat) (l1 : Nat) (l2 : Nat) (l3 : Int32) (sk0 : Int32) (sk1 : Nat) (sk2 : Int32) (sk3 : Int32) (sk4 : Int32) (M : mM) (sz : Nat) (sl : Nat) : Option (Int32 × mM × Nat × Nat) :=
  if sk4 = 0 then (bO (rcv M sk1 13) fun _ =>
  bP (P_X13_block G F sk1 sk2 sk3 (0 : Int32) M) fun v732 M732 =>
  B_L_law_735 G F r18 l0 l1 l2 l3 sk0 v732 M732 sz sl)
  else (bO (rcv M sk1 13) fun _ =>
  bP (P_X13_block G F sk1 sk2 sk3 (1 : Int32) M) fun v732 M732 =>
  B_L_law_735 G F r18 l0 l1 l2 l3 sk0 v732 M732 sz sl)
def B_L_law_705 (G : mG) (F : Nat) (r18 : Nat → Nat → Nat → Int32 → mM → Nat → Nat → Option (Int32 × mM × Nat × Nat)) (l0 : Nat) (l1 : Nat) (l2 : Nat) (l3 : Int32) (sk0 : Nat) (sk1 : Int32) (sk2 : Int32) (sk3 : Int32) (M : mM) (sz : Nat) (sl : Nat) : Option (Int32 × mM × Nat × Nat) :=
  bO (rcv M sk0 11) fun _ =>
  bP (P_X11_block G F sk0 sk1 sk2 sk3 M) fun v705 M705 =>
  bO (aI G M705 0 l0 (l3 + (1 : Int32))) fun v713 =>
  bO (aI G M705 0 l0 (l3 + (2 : Int32))) fun v718 =>
  bO (aI G M705 0 l0 (l3 + (3 : Int32))) fun v723 =>
  B_L_law_724 G F r18 l0 l1 l2 l3 v705 l2 v713 v718 v723 M705 sz sl
def B_L_law_697 (G : mG) (F : Nat) (r18 : Nat → Nat → Nat → Int32 → mM → Nat → Nat → Option (Int32 × mM × Nat × Nat)) (l0 : Nat) (l1 : Nat) (l2 : Nat) (l3 : Int32) (sk0 : Nat) (sk1 : Int32) (sk2 : Int32) (sk3 : Int32) (M : mM) (sz : Nat) (sl : Nat) : Option (Int32 × mM × Nat × Nat) :=
  if sk3 = 0 then (B_L_law_705 G F r18 l0 l1 l2 l3 sk0 sk1 sk2 (0 : Int32) M sz sl)
  else (B_L_law_705 G F r18 l0 l1 l2 l3 sk0 sk1 sk2 (1 : Int32) M sz sl)
def B_L_law_676 (G : mG) (F : Nat) (r18 : Nat → Nat → Nat → Int32 → mM → Nat → Nat → Option (Int32 × mM × Nat × Nat)) (l0 : Nat) (l1 : Nat) (l2 : Nat) (l3 : Int32) (sk0 : Int32) (sk1 : Int32) (M : mM) (sz : Nat) (sl : Nat) : Option (Int32 × mM × Nat × Nat) :=
  if sk0 = sk1 then (r18 l0 l1 l2 (l3 + 8) M sz sl)
  else (retZA (0 : Int32) M sz sl)
def B_L_law_633 (G : mG) (F : Nat) (r18 : Nat → Nat → Nat → Int32 → mM → Nat → Nat → Option (Int32 × mM × Nat × Nat)) (l0 : Nat) (l1 : Nat) (l2 : Nat) (l3 : Int32) (sk0 : Int32) (sk1 : Int32) (M : mM) (sz : Nat) (sl : Nat) : Option (Int32 × mM × Nat × Nat) :=
  if sk0 = sk1 then (r18 l0 l1 l2 (l3 + 8) M sz sl)
  else (retZA (0 : Int32) M sz sl)
def B_L_law_600 (G : mG) (F : Nat) (r18 : Nat → Nat → Nat → Int32 → mM → Nat → Nat → Option (Int32 × mM × Nat × Nat)) (l0 : Nat) (l1 : Nat) (l2 : Nat) (l3 : Int32) (sk0 : Int32) (sk1 : Int32) (M : mM) (sz : Nat) (sl : Nat) : Option (Int32 × mM × Nat × Nat) :=
  if sk0 = sk1 then (r18 l0 l1 l2 (l3 + 8) M sz sl)
  else (retZA (0 : Int32) M sz sl)
def B_L_law_577 (G : mG) (F : Nat) (r18 : Nat → Nat → Nat → Int32 → mM → Nat → Nat → Option (Int32 × mM × Nat × Nat)) (l0 : Nat) (l1 : Nat) (l2 : Nat) (l3 : Int32) (sk0 : Int32) (sk1 : Int32) (M : mM) (sz : Nat) (sl : Nat) : Option (Int32 × mM × Nat × Nat) :=
  if sk0 = sk1 then (r18 l0 l1 l2 (l3 + 8) M sz sl)
  else (retZA (0 : Int32) M sz sl)
def B_L_law_554 (G : mG) (F : Nat) (r18 : Nat → Nat → Nat → Int32 → mM → Nat → Nat → Option (Int32 × mM × Nat × Nat)) (l0 : Nat) (l1 : Nat) (l2 : Nat) (l3 : Int32) (sk0 : Int32) (sk1 : Int32) (M : mM) (sz : Nat) (sl : Nat) : Option (Int32 × mM × Nat × Nat) :=
  if sk0 = sk1 then (r18 l0 l1 l2 (l3 + 8) M sz sl)
  else (retZA (0 : Int32) M sz sl)
def B_L_law_531 (G : mG) (F : Nat) (r18 : Nat → Nat → Nat → Int32 → mM → Nat → Nat → Option (Int32 × mM × Nat × Nat)) (l0 : Nat) (l1 : Nat) (l2 : Nat) (l3 : Int32) (sk0 : Int32) (sk1 : Int32) (M : mM) (sz : Nat) (sl : Nat) : Option (Int32 × mM × Nat × Nat) :=
  if sk0 = sk1 then (r18 l0 l1 l2 (l3 + 8) M sz sl)
  else (retZA (0 : Int32) M sz sl)
def B_L_law_498 (G : mG) (F : Nat) (r18 : Nat → Nat → Nat → Int32 → mM → Nat → Nat → Option (Int32 × mM × Nat × Nat)) (l0 : Nat) (l1 : Nat) (l2 : Nat) (l3 : Int32) (sk0 : Int32) (sk1 : Int32) (M : mM) (sz : Nat) (sl : Nat) : Option (Int32 × mM × Nat × Nat) :=
  if sk0 = sk1 then (r18 l0 l1 l2 (l3 + 8) M sz sl)
  else (retZA (0 : Int32) M sz sl)
def B_L_law_475 (G : mG) (F : Nat) (r18 : Nat → Nat → Nat → Int32 → mM → Nat → Nat → Option (Int32 × mM × Nat × Nat)) (l0 : Nat) (l1 : Nat) (l2 : Nat) (l3 : Int32) (sk0 : Int32) (sk1 : Int32) (M : mM) (sz : Nat) (sl : Nat) : Option (Int32 × mM × Nat × Nat) :=
  if sk0 = sk1 then (r18 l0 l1 l2 (l3 + 8) M sz sl)
  else (retZA (0 : Int32) M sz sl)
def B_L_law_452 (G : mG) (F : Nat) (r18 : Nat → Nat → Nat → Int32 → mM → Nat → Nat → Option (Int32 × mM × Nat × Nat)) (l0 : Nat) (l1 : Nat) (l2 : Nat) (l3 : Int32) (sk0 : Int32) (sk1 : Int32) (M : mM) (sz : Nat) (sl : Nat) : Option (Int32 × mM × Nat × Nat) :=
  if sk0 = sk1 then (r18 l0 l1 l2 (l3 + 8) M sz sl)
  else (retZA (0 : Int32) M sz sl)
def B_L_law_419 (G : mG) (F : Nat) (r18 : Nat → Nat → Nat → Int32 → mM → Nat → Nat → Option (Int32 × mM × Nat × Nat)) (l0 : Nat) (l1 : Nat) (l2 : Nat) (l3 : Int32) (sk0 : Int32) (sk1 : Int32) (M : mM) (sz : Nat) (sl : Nat) : Option (Int32 × mM × Nat × Nat) :=
  if sk0 = sk1 then (r18 l0 l1 l2 (l3 + 8) M sz sl)
  else (retZA (0 : Int32) M sz sl)
def B_L_law_396 (G : mG) (F : Nat) (r18 : Nat → Nat → Nat → Int32 → mM → Nat → Nat → Option (Int32 × mM × Nat × Nat)) (l0 : Nat) (l1 : Nat) (l2 : Nat) (l3 : Int32) (sk0 : Int32) (sk1 : Int32) (M : mM) (sz : Nat) (sl : Nat) : Option (Int32 × mM × Nat × Nat) :=
  if sk0 = sk1 then (r18 l0 l1 l2 (l3 + 8) M sz sl)
  else (retZA (0 : Int32) M sz sl)
def B_L_law_373 (G : mG) (F : Nat) (r18 : Nat → Nat → Nat → Int32 → mM → Nat → Nat → Option (Int32 × mM × Nat × Nat)) (l0 : Nat) (l1 : Nat) (l2 : Nat) (l3 : Int32) (sk0 : Int32) (sk1 : Int32) (M : mM) (sz : Nat) (sl : Nat) : Option (Int32 × mM × Nat × Nat) :=
  if sk0 = sk1 then (r18 l0 l1 l2 (l3 + 8) M sz sl)
  else (retZA (0 : Int32) M sz sl)
def B_L_law_350 (G : mG) (F : Nat) (r18 : Nat → Nat → Nat → Int32 → mM → Nat → Nat → Option (Int32 × mM × Nat × Nat)) (l0 : Nat) (l1 : Nat) (l2 : Nat) (l3 : Int32) (sk0 : Int32) (sk1 : Int32) (M : mM) (sz : Nat) (sl : Nat) : Option (Int32 × mM × Nat × Nat) :=
  if sk0 = sk1 then (r18 l0 l1 l2 (l3 + 8) M sz sl)
  else (retZA (0 : Int32) M sz sl)
def B_L_law_307 (G : mG) (F : Nat) (r18 : Nat → Nat → Nat → Int32 → mM → Nat → Nat → Option (Int32 × mM × Nat × Nat)) (l0 : Nat) (l1 : Nat) (l2 : Nat) (l3 : Int32) (sk0 : Int32) (sk1 : Int32) (M : mM) (sz : Nat) (sl : Nat) : Option (Int32 × mM × Nat × Nat) :=
  if sk0 = sk1 then (r18 l0 l1 l2 (l3 + 8) M sz sl)
  else (retZA (0 : Int32) M sz sl)
def B_L_law_284 (G : mG) (F : Nat) (r18 : Nat → Nat → Nat → Int32 → mM → Nat → Nat → Option (Int32 × mM × Nat × Nat)) (l0 : Nat) (l1 : Nat) (l2 : Nat) (l3 : Int32) (sk0 : Int32) (sk1 : Int32) (M : mM) (sz : Nat) (sl : Nat) : Option (Int32 × mM × Nat × Nat) :=
  if sk0 = sk1 then (r18 l0 l1 l2 (l3 + 8) M sz sl)
  else (retZA (0 : Int32) M sz sl)
def B_L_law_261 (G : mG) (F : Nat) (r18 : Nat → Nat → Nat → Int32 → mM → Nat → Nat → Option (Int32 × mM × Nat × Nat)) (l0 : Nat) (l1 : Nat) (l2 : Nat) (l3 : Int32) (sk0 : Int32) (sk1 : Int32) (M : mM) (sz : Nat) (sl : Nat) : Option (Int32 × mM × Nat × Nat) :=
  if sk0 = sk1 then (r18 l0 l1 l2 (l3 + 8) M sz sl)
  else (retZA (0 : Int32) M sz sl)
def B_L_law_238 (G : mG) (F : Nat) (r18 : Nat → Nat → Nat → Int32 → mM → Nat → Nat → Option (Int32 × mM × Nat × Nat)) (l0 : Nat) (l1 : Nat) (l2 : Nat) (l3 : Int32) (sk0 : Int32) (sk1 : Int32) (M : mM) (sz : Nat) (sl : Nat) : Option (Int32 × mM × Nat × Nat) :=
  if sk0 = sk1 then (r18 l0 l1 l2 (l3 + 8) M sz sl)
  else (retZA (0 : Int32) M sz sl)
def B_L_law_33 (G : mG) (F : Nat) (r18 : Nat → Nat → Nat → Int32 → mM → Nat → Nat → Option (Int32 × mM × Nat × Nat)) (l0 : Nat) (l1 : Nat) (l2 : Nat) (l3 : Int32) (sk0 : Int32) (M : mM) (sz : Nat) (sl : Nat) : Option (Int32 × mM × Nat × Nat) :=
  if sk0 = (0 : Int32) then (bO (aI G M 0 l0 (l3 + (1 : Int32))) fun v185 =>
  bO (aI G M 0 l0 (l3 + (2 : Int32))) fun v190 =>
  bO (aI G M 0 l0 (l3 + (3 : Int32))) fun v195 =>
  bO (aI G M 0 l0 (l3 + (4 : Int32))) fun v200 =>
  bO (aI G M 0 l0 (l3 + (5 : Int32))) fun v205 =>
  bO (rcv M l1 11) fun _ =>
  bP (P_X11_feed G F l1 v185 v190 v195 v200 v205 M) fun v206 M206 =>
  bO (aI G M206 0 l0 (l3 + (1 : Int32))) fun v214 =>
  bO (aI G M206 0 l0 (l3 + (2 : Int32))) fun v219 =>
  bO (aI G M206 0 l0 (l3 + (3 : Int32))) fun v224 =>
  bO (aI G M206 0 l0 (l3 + (4 : Int32))) fun v229 =>
  bO (aI G M206 0 l0 (l3 + (5 : Int32))) fun v234 =>
  bO (rcv M206 l2 13) fun _ =>
  bP (P_X13_feed G F l2 v214 v219 v224 v229 v234 M206) fun v235 M235 =>
  B_L_law_238 G F r18 l0 l1 l2 l3 v206 v235 M235 sz sl)
  else (if sk0 = (1 : Int32) then (bO (aI G M 0 l0 (l3 + (1 : Int32))) fun v248 =>
  bO (rcv M l1 11) fun _ =>
  bP (P_X11_end G F l1 v248 M) fun v249 M249 =>
  bO (aI G M249 0 l0 (l3 + (1 : Int32))) fun v257 =>
  bO (rcv M249 l2 13) fun _ =>
  bP (P_X13_end G F l2 v257 M249) fun v258 M258 =>
  B_L_law_261 G F r18 l0 l1 l2 l3 v249 v258 M258 sz sl)
  else (if sk0 = (2 : Int32) then (bO (aI G M 0 l0 (l3 + (1 : Int32))) fun v271 =>
  bO (rcv M l1 11) fun _ =>
  bP (P_X11_row G F l1 v271 M) fun v272 M272 =>
  bO (aI G M272 0 l0 (l3 + (1 : Int32))) fun v280 =>
  bO (rcv M272 l2 13) fun _ =>
  bP (P_X13_row G F l2 v280 M272) fun v281 M281 =>
  B_L_law_284 G F r18 l0 l1 l2 l3 v272 v281 M281 sz sl)
  else (if sk0 = (3 : Int32) then (bO (aI G M 0 l0 (l3 + (1 : Int32))) fun v294 =>
  bO (rcv M l1 11) fun _ =>
  bP (P_X11_keep G F l1 v294 M) fun v295 M295 =>
  bO (aI G M295 0 l0 (l3 + (1 : Int32))) fun v303 =>
  bO (rcv M295 l2 13) fun _ =>
  bP (P_X13_keep G F l2 v303 M295) fun v304 M304 =>
  B_L_law_307 G F r18 l0 l1 l2 l3 v295 v304 M304 sz sl)
  else (if sk0 = (4 : Int32) then (bO (aI G M 0 l0 (l3 + (1 : Int32))) fun v317 =>
  bO (aI G M 0 l0 (l3 + (2 : Int32))) fun v322 =>
  bO (aI G M 0 l0 (l3 + (3 : Int32))) fun v327 =>
  bO (rcv M l1 11) fun _ =>
  bP (P_X11_poke G F l1 v317 v322 v327 M) fun v328 M328 =>
  bO (aI G M328 0 l0 (l3 + (1 : Int32))) fun v336 =>
  bO (aI G M328 0 l0 (l3 + (2 : Int32))) fun v341 =>
  bO (aI G M328 0 l0 (l3 + (3 : Int32))) fun v346 =>
  bO (rcv M328 l2 13) fun _ =>
  bP (P_X13_poke G F l2 v336 v341 v346 M328) fun v347 M347 =>
  B_L_law_350 G F r18 l0 l1 l2 l3 v328 v347 M347 sz sl)
  else (if sk0 = (5 : Int32) then (bO (aI G M 0 l0 (l3 + (1 : Int32))) fun v360 =>
  bO (rcv M l1 11) fun _ =>
  bP (P_X11_size G F l1 v360 M) fun v361 M361 =>
  bO (aI G M361 0 l0 (l3 + (1 : Int32))) fun v369 =>
  bO (rcv M361 l2 13) fun _ =>
  bP (P_X13_size G F l2 v369 M361) fun v370 M370 =>
  B_L_law_373 G F r18 l0 l1 l2 l3 v361 v370 M370 sz sl)
  else (if sk0 = (6 : Int32) then (bO (aI G M 0 l0 (l3 + (1 : Int32))) fun v383 =>
  bO (rcv M l1 11) fun _ =>
  bP (P_X11_out G F l1 v383 M) fun v384 M384 =>
  bO (aI G M384 0 l0 (l3 + (1 : Int32))) fun v392 =>
  bO (rcv M384 l2 13) fun _ =>
  bP (P_X13_out G F l2 v392 M384) fun v393 M393 =>
  B_L_law_396 G F r18 l0 l1 l2 l3 v384 v393 M393 sz sl)
  else (if sk0 = (7 : Int32) then (bO (aI G M 0 l0 (l3 + (1 : Int32))) fun v406 =>
  bO (rcv M l1 11) fun _ =>
  bP (P_X11_json G F l1 v406 M) fun v407 M407 =>
  bO (aI G M407 0 l0 (l3 + (1 : Int32))) fun v415 =>
  bO (rcv M407 l2 13) fun _ =>
  bP (P_X13_json G F l2 v415 M407) fun v416 M416 =>
  B_L_law_419 G F r18 l0 l1 l2 l3 v407 v416 M416 sz sl)
  else (if sk0 = (8 : Int32) then (bO (aI G M 0 l0 (l3 + (1 : Int32))) fun v429 =>
  bO (aI G M 0 l0 (l3 + (2 : Int32))) fun v434 =>
  bO (rcv M l1 11) fun _ =>
  bP (P_X11_value G F l1 v429 v434 M) fun v435 M435 =>
  bO (aI G M435 0 l0 (l3 + (1 : Int32))) fun v443 =>
  bO (aI G M435 0 l0 (l3 + (2 : Int32))) fun v448 =>
  bO (rcv M435 l2 13) fun _ =>
  bP (P_X13_value G F l2 v443 v448 M435) fun v449 M449 =>
  B_L_law_452 G F r18 l0 l1 l2 l3 v435 v449 M449 sz sl)
  else (if sk0 = (9 : Int32) then (bO (aI G M 0 l0 (l3 + (1 : Int32))) fun v462 =>
  bO (rcv M l1 11) fun _ =>
  bP (P_X11_text G F l1 v462 M) fun v463 M463 =>
  bO (aI G M463 0 l0 (l3 + (1 : Int32))) fun v471 =>
  bO (rcv M463 l2 13) fun _ =>
  bP (P_X13_text G F l2 v471 M463) fun v472 M472 =>
  B_L_law_475 G F r18 l0 l1 l2 l3 v463 v472 M472 sz sl)
  else (if sk0 = (10 : Int32) then (bO (aI G M 0 l0 (l3 + (1 : Int32))) fun v485 =>
  bO (rcv M l1 11) fun _ =>
  bP (P_X11_name G F l1 v485 M) fun v486 M486 =>
  bO (aI G M486 0 l0 (l3 + (1 : Int32))) fun v494 =>
  bO (rcv M486 l2 13) fun _ =>
  bP (P_X13_name G F l2 v494 M486) fun v495 M495 =>
  B_L_law_498 G F r18 l0 l1 l2 l3 v486 v495 M495 sz sl)
  else (if sk0 = (11 : Int32) then (bO (aI G M 0 l0 (l3 + (1 : Int32))) fun v508 =>
  bO (aI G M 0 l0 (l3 + (2 : Int32))) fun v513 =>
  bO (rcv M l1 11) fun _ =>
  bP (P_X11_member G F l1 v508 v513 M) fun v514 M514 =>
  bO (aI G M514 0 l0 (l3 + (1 : Int32))) fun v522 =>
  bO (aI G M514 0 l0 (l3 + (2 : Int32))) fun v527 =>
  bO (rcv M514 l2 13) fun _ =>
  bP (P_X13_member G F l2 v522 v527 M514) fun v528 M528 =>
  B_L_law_531 G F r18 l0 l1 l2 l3 v514 v528 M528 sz sl)
  else (if sk0 = (12 : Int32) then (bO (aI G M 0 l0 (l3 + (1 : Int32))) fun v541 =>
  bO (rcv M l1 11) fun _ =>
  bP (P_X11_write G F l1 v541 M) fun v542 M542 =>
  bO (aI G M542 0 l0 (l3 + (1 : Int32))) fun v550 =>
  bO (rcv M542 l2 13) fun _ =>
  bP (P_X13_write G F l2 v550 M542) fun v551 M551 =>
  B_L_law_554 G F r18 l0 l1 l2 l3 v542 v551 M551 sz sl)
  else (if sk0 = (13 : Int32) then (bO (aI G M 0 l0 (l3 + (1 : Int32))) fun v564 =>
  bO (rcv M l1 11) fun _ =>
  bP (P_X11_encode G F l1 v564 M) fun v565 M565 =>
  bO (aI G M565 0 l0 (l3 + (1 : Int32))) fun v573 =>
  bO (rcv M565 l2 13) fun _ =>
  bP (P_X13_encode G F l2 v573 M565) fun v574 M574 =>
  B_L_law_577 G F r18 l0 l1 l2 l3 v565 v574 M574 sz sl)
  else (if sk0 = (14 : Int32) then (bO (aI G M 0 l0 (l3 + (1 : Int32))) fun v587 =>
  bO (rcv M l1 11) fun _ =>
  bP (P_X11_decode G F l1 v587 M) fun v588 M588 =>
  bO (aI G M588 0 l0 (l3 + (1 : Int32))) fun v596 =>
  bO (rcv M588 l2 13) fun _ =>
  bP (P_X13_decode G F l2 v596 M588) fun v597 M597 =>
  B_L_law_600 G F r18 l0 l1 l2 l3 v588 v597 M597 sz sl)
  else (if sk0 = (15 : Int32) then (bO (aI G M 0 l0 (l3 + (1 : Int32))) fun v610 =>
  bO (aI G M 0 l0 (l3 + (2 : Int32))) fun v615 =>
  bO (rcv M l1 11) fun _ =>
  bP (P_X11_hash G F l1 v610 v615 M) fun v616 M616 =>
  bO (aI G M616 0 l0 (l3 + (1 : Int32))) fun v624 =>
  bO (aI G M616 0 l0 (l3 + (2 : Int32))) fun v629 =>
  bO (rcv M616 l2 13) fun _ =>
  bP (P_X13_hash G F l2 v624 v629 M616) fun v630 M630 =>
  B_L_law_633 G F r18 l0 l1 l2 l3 v616 v630 M630 sz sl)
  else (if sk0 = (16 : Int32) then (bO (aI G M 0 l0 (l3 + (1 : Int32))) fun v643 =>
  bO (aI G M 0 l0 (l3 + (2 : Int32))) fun v648 =>
  bO (aI G M 0 l0 (l3 + (3 : Int32))) fun v653 =>
  bO (rcv M l1 11) fun _ =>
  bP (P_X11_code G F l1 v643 v648 v653 M) fun v654 M654 =>
  bO (aI G M654 0 l0 (l3 + (1 : Int32))) fun v662 =>
  bO (aI G M654 0 l0 (l3 + (2 : Int32))) fun v667 =>
  bO (aI G M654 0 l0 (l3 + (3 : Int32))) fun v672 =>
  bO (rcv M654 l2 13) fun _ =>
  bP (P_X13_code G F l2 v662 v667 v672 M654) fun v673 M673 =>
  B_L_law_676 G F r18 l0 l1 l2 l3 v654 v673 M673 sz sl)
  else (if sk0 = (17 : Int32) then (bO (aI G M 0 l0 (l3 + (1 : Int32))) fun v686 =>
  bO (aI G M 0 l0 (l3 + (2 : Int32))) fun v691 =>
  bO (aI G M 0 l0 (l3 + (3 : Int32))) fun v696 =>
  B_L_law_697 G F r18 l0 l1 l2 l3 l1 v686 v691 v696 M sz sl)
  else (if sk0 = (18 : Int32) then (bO (aI G M 0 l0 (l3 + (1 : Int32))) fun v745 =>
  bO (aI G M 0 l0 (l3 + (2 : Int32))) fun v750 =>
  bO (rcv M l1 11) fun _ =>
  bP (P_X11_wrap G F l1 v745 v750 M) fun v751 M751 =>
  bO (aI G M751 0 l0 (l3 + (1 : Int32))) fun v759 =>
  bO (aI G M751 0 l0 (l3 + (2 : Int32))) fun v764 =>
  bO (rcv M751 l2 13) fun _ =>
  bP (P_X13_wrap G F l2 v759 v764 M751) fun v765 M765 =>
  B_L_law_768 G F r18 l0 l1 l2 l3 v751 v765 M765 sz sl)
  else (if sk0 = (19 : Int32) then (bO (aI G M 0 l0 (l3 + (1 : Int32))) fun v778 =>
  bO (aI G M 0 l0 (l3 + (2 : Int32))) fun v783 =>
  bO (rcv M l1 11) fun _ =>
  bP (P_X11_unwrap G F l1 v778 v783 M) fun v784 M784 =>
  bO (aI G M784 0 l0 (l3 + (1 : Int32))) fun v792 =>
  bO (aI G M784 0 l0 (l3 + (2 : Int32))) fun v797 =>
  bO (rcv M784 l2 13) fun _ =>
  bP (P_X13_unwrap G F l2 v792 v797 M784) fun v798 M798 =>
  B_L_law_801 G F r18 l0 l1 l2 l3 v784 v798 M798 sz sl)
  else (if sk0 = (20 : Int32) then (bO (aI G M 0 l0 (l3 + (1 : Int32))) fun v811 =>
  bO (aI G M 0 l0 (l3 + (2 : Int32))) fun v816 =>
  bO (aI G M 0 l0 (l3 + (3 : Int32))) fun v821 =>
  bO (aI G M 0 l0 (l3 + (4 : Int32))) fun v826 =>
  bO (aI G M 0 l0 (l3 + (5 : Int32))) fun v831 =>
  bO (rcv M l1 11) fun _ =>
  bP (P_X11_seal G F l1 v811 v816 v821 v826 v831 M) fun v832 M832 =>
  bO (aI G M832 0 l0 (l3 + (1 : Int32))) fun v840 =>
  bO (aI G M832 0 l0 (l3 + (2 : Int32))) fun v845 =>
  bO (aI G M832 0 l0 (l3 + (3 : Int32))) fun v850 =>
  bO (aI G M832 0 l0 (l3 + (4 : Int32))) fun v855 =>
  bO (aI G M832 0 l0 (l3 + (5 : Int32))) fun v860 =>
  bO (rcv M832 l2 13) fun _ =>
  bP (P_X13_seal G F l2 v840 v845 v850 v855 v860 M832) fun v861 M861 =>
  B_L_law_864 G F r18 l0 l1 l2 l3 v832 v861 M861 sz sl)
  else (if sk0 = (21 : Int32) then (bO (aI G M 0 l0 (l3 + (1 : Int32))) fun v874 =>
  bO (aI G M 0 l0 (l3 + (2 : Int32))) fun v879 =>
  bO (aI G M 0 l0 (l3 + (3 : Int32))) fun v884 =>
  bO (aI G M 0 l0 (l3 + (4 : Int32))) fun v889 =>
  bO (aI G M 0 l0 (l3 + (5 : Int32))) fun v894 =>
  bO (rcv M l1 11) fun _ =>
  bP (P_X11_open G F l1 v874 v879 v884 v889 v894 M) fun v895 M895 =>
  bO (aI G M895 0 l0 (l3 + (1 : Int32))) fun v903 =>
  bO (aI G M895 0 l0 (l3 + (2 : Int32))) fun v908 =>
  bO (aI G M895 0 l0 (l3 + (3 : Int32))) fun v913 =>
  bO (aI G M895 0 l0 (l3 + (4 : Int32))) fun v918 =>
  bO (aI G M895 0 l0 (l3 + (5 : Int32))) fun v923 =>
  bO (rcv M895 l2 13) fun _ =>
  bP (P_X13_open G F l2 v903 v908 v913 v918 v923 M895) fun v924 M924 =>
  B_L_law_927 G F r18 l0 l1 l2 l3 v895 v924 M924 sz sl)
  else (if sk0 = (22 : Int32) then (bO (aI G M 0 l0 (l3 + (1 : Int32))) fun v937 =>
  bO (aI G M 0 l0 (l3 + (2 : Int32))) fun v942 =>
  bO (aI G M 0 l0 (l3 + (3 : Int32))) fun v947 =>
  bO (rcv M l1 11) fun _ =>
  bP (P_X11_power G F l1 v937 v942 v947 M) fun v948 M948 =>
  bO (aI G M948 0 l0 (l3 + (1 : Int32))) fun v956 =>
  bO (aI G M948 0 l0 (l3 + (2 : Int32))) fun v961 =>
  bO (aI G M948 0 l0 (l3 + (3 : Int32))) fun v966 =>
  bO (rcv M948 l2 13) fun _ =>
  bP (P_X13_power G F l2 v956 v961 v966 M948) fun v967 M967 =>
  B_L_law_970 G F r18 l0 l1 l2 l3 v948 v967 M967 sz sl)
  else (if sk0 = (23 : Int32) then (bO (aI G M 0 l0 (l3 + (1 : Int32))) fun v980 =>
  bO (aI G M 0 l0 (l3 + (2 : Int32))) fun v985 =>
  bO (rcv M l1 11) fun _ =>
  bP (P_X11_multiply G F l1 v980 v985 M) fun v986 M986 =>
  bO (aI G M986 0 l0 (l3 + (1 : Int32))) fun v994 =>
  bO (aI G M986 0 l0 (l3 + (2 : Int32))) fun v999 =>
  bO (rcv M986 l2 13) fun _ =>
  bP (P_X13_multiply G F l2 v994 v999 M986) fun v1000 M1000 =>
  B_L_law_1003 G F r18 l0 l1 l2 l3 v986 v1000 M1000 sz sl)
  else (if sk0 = (24 : Int32) then (bO (aI G M 0 l0 (l3 + (1 : Int32))) fun v1013 =>
  bO (aI G M 0 l0 (l3 + (2 : Int32))) fun v1018 =>
  bO (aI G M 0 l0 (l3 + (3 : Int32))) fun v1023 =>
  bO (aI G M 0 l0 (l3 + (4 : Int32))) fun v1028 =>
  bO (aI G M 0 l0 (l3 + (5 : Int32))) fun v1033 =>
  bO (rcv M l1 11) fun _ =>
  bP (P_X11_derive G F l1 v1013 v1018 v1023 v1028 v1033 M) fun v1034 M1034 =>
  bO (aI G M1034 0 l0 (l3 + (1 : Int32))) fun v1042 =>
  bO (aI G M1034 0 l0 (l3 + (2 : Int32))) fun v1047 =>
  bO (aI G M1034 0 l0 (l3 + (3 : Int32))) fun v1052 =>
  bO (aI G M1034 0 l0 (l3 + (4 : Int32))) fun v1057 =>
  bO (aI G M1034 0 l0 (l3 + (5 : Int32))) fun v1062 =>
  bO (rcv M1034 l2 13) fun _ =>
  bP (P_X13_derive G F l2 v1042 v1047 v1052 v1057 v1062 M1034) fun v1063 M1063 =>
  B_L_law_1066 G F r18 l0 l1 l2 l3 v1034 v1063 M1063 sz sl)
  else (if sk0 = (25 : Int32) then (bO (aI G M 0 l0 (l3 + (1 : Int32))) fun v1076 =>
  bO (rcv M l1 11) fun _ =>
  bAP (P_X11_key G F l1 v1076 M sz sl) fun v1077 M1077 z1077 k1077 =>
  bO (aI G M1077 0 l0 (l3 + (1 : Int32))) fun v1085 =>
  bO (rcv M1077 l2 13) fun _ =>
  bP (P_X13_key G F l2 v1085 M1077) fun v1086 M1086 =>
  B_L_law_1089 G F r18 l0 l1 l2 l3 v1077 v1086 M1086 z1077 k1077)
  else (if sk0 = (26 : Int32) then (bO (aI G M 0 l0 (l3 + (1 : Int32))) fun v1099 =>
  bO (rcv M l1 11) fun _ =>
  bP (P_X11_drop G F l1 v1099 M) fun v1100 M1100 =>
  bO (aI G M1100 0 l0 (l3 + (1 : Int32))) fun v1108 =>
  bO (rcv M1100 l2 13) fun _ =>
  bP (P_X13_drop G F l2 v1108 M1100) fun v1109 M1109 =>
  B_L_law_1112 G F r18 l0 l1 l2 l3 v1100 v1109 M1109 sz sl)
  else (if sk0 = (27 : Int32) then (bO (aI G M 0 l0 (l3 + (1 : Int32))) fun v1122 =>
  bO (aI G M 0 l0 (l3 + (2 : Int32))) fun v1127 =>
  bO (rcv M l1 11) fun _ =>
  bP (P_X11_told G F l1 v1122 v1127 M) fun v1128 M1128 =>
  bO (aI G M1128 0 l0 (l3 + (1 : Int32))) fun v1136 =>
  bO (aI G M1128 0 l0 (l3 + (2 : Int32))) fun v1141 =>
  bO (rcv M1128 l2 13) fun _ =>
  bP (P_X13_told G F l2 v1136 v1141 M1128) fun v1142 M1142 =>
  B_L_law_1145 G F r18 l0 l1 l2 l3 v1128 v1142 M1142 sz sl)
  else (if sk0 = (28 : Int32) then (bO (aI G M 0 l0 (l3 + (1 : Int32))) fun v1155 =>
  bO (rcv M l1 11) fun _ =>
  bP (P_X11_print G F l1 v1155 M) fun v1156 M1156 =>
  bO (aI G M1156 0 l0 (l3 + (1 : Int32))) fun v1164 =>
  bO (rcv M1156 l2 13) fun _ =>
  bP (P_X13_print G F l2 v1164 M1156) fun v1165 M1165 =>
  B_L_law_1168 G F r18 l0 l1 l2 l3 v1156 v1165 M1165 sz sl)
  else (if sk0 = (29 : Int32) then (bO (aI G M 0 l0 (l3 + (1 : Int32))) fun v1178 =>
  bO (aI G M 0 l0 (l3 + (2 : Int32))) fun v1183 =>
  bO (aI G M 0 l0 (l3 + (3 : Int32))) fun v1188 =>
  bO (aI G M 0 l0 (l3 + (4 : Int32))) fun v1193 =>
  bO (aI G M 0 l0 (l3 + (5 : Int32))) fun v1198 =>
  bO (rcv M l1 11) fun _ =>
  bP (P_X11_sign G F l1 v1178 v1183 v1188 v1193 v1198 M) fun v1199 M1199 =>
  bO (aI G M1199 0 l0 (l3 + (1 : Int32))) fun v1207 =>
  bO (aI G M1199 0 l0 (l3 + (2 : Int32))) fun v1212 =>
  bO (aI G M1199 0 l0 (l3 + (3 : Int32))) fun v1217 =>
  bO (aI G M1199 0 l0 (l3 + (4 : Int32))) fun v1222 =>
  bO (aI G M1199 0 l0 (l3 + (5 : Int32))) fun v1227 =>
  bO (rcv M1199 l2 13) fun _ =>
  bP (P_X13_sign G F l2 v1207 v1212 v1217 v1222 v1227 M1199) fun v1228 M1228 =>
  B_L_law_1231 G F r18 l0 l1 l2 l3 v1199 v1228 M1228 sz sl)
  else (if sk0 = (30 : Int32) then (bO (aI G M 0 l0 (l3 + (1 : Int32))) fun v1241 =>
  bO (rcv M l1 11) fun _ =>
  bP (P_X11_verify G F l1 v1241 M) fun v1242 M1242 =>
  bO (aI G M1242 0 l0 (l3 + (1 : Int32))) fun v1250 =>
  bO (rcv M1242 l2 13) fun _ =>
  bP (P_X13_verify G F l2 v1250 M1242) fun v1251 M1251 =>
  B_L_law_1254 G F r18 l0 l1 l2 l3 v1242 v1251 M1251 sz sl)
  else (if sk0 = (31 : Int32) then (bO (aI G M 0 l0 (l3 + (1 : Int32))) fun v1264 =>
  bO (aI G M 0 l0 (l3 + (2 : Int32))) fun v1269 =>
  bO (aI G M 0 l0 (l3 + (3 : Int32))) fun v1274 =>
  bO (aI G M 0 l0 (l3 + (4 : Int32))) fun v1279 =>
  bO (aI G M 0 l0 (l3 + (5 : Int32))) fun v1284 =>
  bO (aI G M 0 l0 (l3 + (6 : Int32))) fun v1290 =>
  bO (aI G M 0 l0 (l3 + (7 : Int32))) fun v1296 =>
  bO (rcv M l1 11) fun _ =>
  bP (P_X11_encrypt G F l1 v1264 v1269 v1274 v1279 v1284 v1290 v1296 M) fun v1297 M1297 =>
  bO (aI G M1297 0 l0 (l3 + (1 : Int32))) fun v1305 =>
  bO (aI G M1297 0 l0 (l3 + (2 : Int32))) fun v1310 =>
  bO (aI G M1297 0 l0 (l3 + (3 : Int32))) fun v1315 =>
  bO (aI G M1297 0 l0 (l3 + (4 : Int32))) fun v1320 =>
  bO (aI G M1297 0 l0 (l3 + (5 : Int32))) fun v1325 =>
  bO (aI G M1297 0 l0 (l3 + (6 : Int32))) fun v1331 =>
  bO (aI G M1297 0 l0 (l3 + (7 : Int32))) fun v1337 =>
  bO (rcv M1297 l2 13) fun _ =>
  bP (P_X13_encrypt G F l2 v1305 v1310 v1315 v1320 v1325 v1331 v1337 M1297) fun v1338 M1338 =>
  B_L_law_1341 G F r18 l0 l1 l2 l3 v1297 v1338 M1338 sz sl)
  else (if sk0 = (32 : Int32) then (bO (aI G M 0 l0 (l3 + (1 : Int32))) fun v1351 =>
  bO (rcv M l1 11) fun _ =>
  bP (P_X11_decrypt G F l1 v1351 M) fun v1352 M1352 =>
  bO (aI G M1352 0 l0 (l3 + (1 : Int32))) fun v1360 =>
  bO (rcv M1352 l2 13) fun _ =>
  bP (P_X13_decrypt G F l2 v1360 M1352) fun v1361 M1361 =>
  B_L_law_1364 G F r18 l0 l1 l2 l3 v1352 v1361 M1361 sz sl)
  else (r18 l0 l1 l2 (l3 + 8) M sz sl)))))))))))))))))))))))))))))))))
def B_L_law_24 (G : mG) (F : Nat) (r18 : Nat → Nat → Nat → Int32 → mM → Nat → Nat → Option (Int32 × mM × Nat × Nat)) (l0 : Nat) (l1 : Nat) (l2 : Nat) (l3 : Int32) (sk0 : Int32) (sk1 : Int32) (M : mM) (sz : Nat) (sl : Nat) : Option (Int32 × mM × Nat × Nat) :=
  if sk1 < sk0 then (retZA (1 : Int32) M sz sl)
  else (bO (aI G M 0 l0 l3) fun v29 =>
  B_L_law_33 G F r18 l0 l1 l2 l3 (v29 &&& (63 : Int32)) M sz sl)
def B_L_law_18 (G : mG) (F : Nat) : Nat → Nat → Nat → Nat → Int32 → mM → Nat → Nat → Option (Int32 × mM × Nat × Nat)
  | 0, _, _, _, _, _, _, _ => none
  | n + 1, l0, l1, l2, l3, M, sz, sl =>
  bO (aln G M l0) fun v20 =>
  B_L_law_24 G F (B_L_law_18 G F n) l0 l1 l2 l3 l3 (v20 - (8 : Int32)) M sz sl
def P_L_law (G : mG) (F : Nat) (l0 : Nat) (M : mM) (sz : Nat) (sl : Nat) : Option (Int32 × mM × Nat × Nat) :=
  bO (some (nwO M sz 11 dfX11)) fun Ma =>
  bA (P_X11_init G F sz Ma (sz + 1) (sl + 18)) fun M4 z4 k4 =>
  bO (some (nwO M4 z4 13 dfX13)) fun M8 =>
  bA (P_X13_init G F z4 M8 (z4 + 1) (k4 + 134)) fun M12 z12 k12 =>
  B_L_law_18 G F F l0 sz z4 (0 : Int32) M12 z12 k12
