def P_J0_coder_7d493 (G : mG) (F : Nat) (l0 : Nat) (M : mM) : Option (Int32 × mM) :=
  if (1 : Int32) = 0 then (retZ (1 : Int32) M)
  else (bO (sCo G l0) fun v7 =>
  retZ v7 M)
def P_J0_isLatin1_aae02 (G : mG) (F : Nat) (l0 : Nat) (M : mM) : Option (Int32 × mM) :=
  if (1 : Int32) = 0 then (retZ (0 : Int32) M)
  else (bO (sCo G l0) fun v7 =>
  if v7 = 0 then (retZ (1 : Int32) M)
  else (retZ (0 : Int32) M))
def P_J0_length_8abf5 (G : mG) (F : Nat) (l0 : Nat) (M : mM) : Option (Int32 × mM) :=
  bO (sVl G l0) fun v1 =>
  bO (aln G M v1) fun v4 =>
  bO (rcs G l0) fun _ =>
  bP (P_J0_coder_7d493 G F l0 M) fun v6 M6 =>
  some ((v4 >>> (v6 &&& 31)), M6)
def P_J1_charAt_3b067 (G : mG) (F : Nat) (l0 : Nat) (l1 : Int32) (M : mM) : Option (Int32 × mM) :=
  bO (aln G M l0) fun v2 =>
  bO (P_J0_checkIndex_df160 G F l1 v2 M) fun M3 =>
  bO (aI G M3 1 l0 l1) fun v8 =>
  retC (((v8 &&& (255 : Int32)).toUInt32 % 65536).toInt32) M3
def P_J0_charAt_5068e (G : mG) (F : Nat) (l0 : Nat) (l1 : Int32) (M : mM) : Option (Int32 × mM) :=
  bO (rcs G l0) fun _ =>
  bP (P_J0_isLatin1_aae02 G F l0 M) fun v1 M1 =>
  if v1 = 0 then (bO (sVl G l0) fun v17 =>
  none)
  else (bO (sVl G l0) fun v8 =>
  bP (P_J1_charAt_3b067 G F v8 l1 M1) fun v12 M12 =>
  retC v12 M12)
def P_J1_canEncode_9a6ad (G : mG) (F : Nat) (l0 : Int32) (M : mM) : Option (Int32 × mM) :=
  if l0 < 0 then (retZ (0 : Int32) M)
  else (if (255 : Int32) < l0 then (retZ (0 : Int32) M)
  else (retZ (1 : Int32) M))
def B_J1_indexOfChar_4cfef_7 (G : mG) (F : Nat) : Nat → Nat → Int32 → Int32 → Int32 → mM → Option (Int32 × mM)
  | 0, _, _, _, _, _ => none
  | n + 1, l0, l3, l4, l5, M =>
  if l3 ≤ l5 then (some ((-1 : Int32), M))
  else (bO (aI G M 1 l0 l5) fun v16 =>
  if v16 = l4 then (some (l5, M))
  else (B_J1_indexOfChar_4cfef_7 G F n l0 l3 l4 (l5 + 1) M))
def P_J1_indexOfChar_4cfef (G : mG) (F : Nat) (l0 : Nat) (l1 : Int32) (l2 : Int32) (l3 : Int32) (M : mM) : Option (Int32 × mM) :=
  B_J1_indexOfChar_4cfef_7 G F F l0 l3 (l1.toInt8.toInt32) l2 M
def P_J1_indexOf_4cfef (G : mG) (F : Nat) (l0 : Nat) (l1 : Int32) (l2 : Int32) (l3 : Int32) (M : mM) : Option (Int32 × mM) :=
  bP (P_J1_canEncode_9a6ad G F l1 M) fun v1 M1 =>
  if v1 = 0 then (some ((-1 : Int32), M1))
  else (bO (aln G M1 l0) fun v17 =>
  if (if l2 < (0 : Int32) then (0 : Int32) else l2) < (if v17 < l3 then v17 else l3) then (bP (P_J1_indexOfChar_4cfef G F l0 l1 (if l2 < (0 : Int32) then (0 : Int32) else l2) (if v17 < l3 then v17 else l3) M1) fun v33 M33 =>
  some (v33, M33))
  else (some ((-1 : Int32), M1)))
def P_J0_indexOf_7cf53 (G : mG) (F : Nat) (l0 : Nat) (l1 : Int32) (l2 : Int32) (M : mM) : Option (Int32 × mM) :=
  bO (rcs G l0) fun _ =>
  bP (P_J0_isLatin1_aae02 G F l0 M) fun v1 M1 =>
  if v1 = 0 then (bO (sVl G l0) fun v24 =>
  bO (rcs G l0) fun _ =>
  bP (P_J0_length_8abf5 G F l0 M1) fun v30 M30 =>
  none)
  else (bO (sVl G l0) fun v8 =>
  bO (rcs G l0) fun _ =>
  bP (P_J0_length_8abf5 G F l0 M1) fun v14 M14 =>
  bP (P_J1_indexOf_4cfef G F v8 l1 l2 v14 M14) fun v17 M17 =>
  some (v17, M17))
def P_J0_indexOf_0f7a4 (G : mG) (F : Nat) (l0 : Nat) (l1 : Int32) (M : mM) : Option (Int32 × mM) :=
  bO (rcs G l0) fun _ =>
  bP (P_J0_indexOf_7cf53 G F l0 l1 (0 : Int32) M) fun v3 M3 =>
  some (v3, M3)
def P_X0_init (G : mG) (F : Nat) (l0 : Nat) (l1 : Int32) (M : mM) (sz : Nat) (sl : Nat) : Option (mM × Nat × Nat) :=
  bO (nwA M sz 0 (if l1 < (0 : Int32) then (0 : Int32) else l1)) fun M10 =>
  bO (pfv M10 l0 0 0 (.ref sz)) fun M12 =>
  some (M12, (sz + 1), (sl + ((if l1 < (0 : Int32) then (0 : Int32) else l1)).toNatClampNeg))
def P_X0_clear (G : mG) (F : Nat) (l0 : Nat) (M : mM) : Option mM :=
  bO (pfv M l0 0 1 (.int (0 : Int32))) fun M2 =>
  bO (pfZ M2 l0 0 2 (0 : Int32)) fun M7 =>
  some M7
def P_X0_cutTo (G : mG) (F : Nat) (l0 : Nat) (l1 : Int32) (M : mM) : Option mM :=
  bO (gfI M l0 0 1) fun v4 =>
  bO (pfv M l0 0 1 (.int (if (0 : Int32) < (if v4 < l1 then v4 else l1) then (if v4 < l1 then v4 else l1) else (0 : Int32)))) fun M13 =>
  some M13
def P_X0_get (G : mG) (F : Nat) (l0 : Nat) (l1 : Int32) (M : mM) : Option (Int32 × mM) :=
  if l1 < 0 then (some ((0 : Int32), M))
  else (bO (gfI M l0 0 1) fun v6 =>
  if v6 ≤ l1 then (some ((0 : Int32), M))
  else (bO (gfR M l0 0 0) fun v13 =>
  bO (aI G M 0 v13 l1) fun v17 =>
  some (v17, M)))
def P_X0_peek (G : mG) (F : Nat) (l0 : Nat) (l1 : Int32) (M : mM) : Option (Int32 × mM) :=
  if l1 < 0 then (some ((-1 : Int32), M))
  else (bO (gfI M l0 0 1) fun v6 =>
  if v6 ≤ l1 then (some ((-1 : Int32), M))
  else (bO (gfR M l0 0 0) fun v13 =>
  bO (aI G M 0 v13 l1) fun v17 =>
  some (v17, M)))
def P_X0_set (G : mG) (F : Nat) (l0 : Nat) (l1 : Int32) (l2 : Int32) (M : mM) : Option mM :=
  if l1 < 0 then (some M)
  else (bO (gfI M l0 0 1) fun v6 =>
  if v6 ≤ l1 then (some M)
  else (bO (gfR M l0 0 0) fun v13 =>
  bO (sI M 0 v13 l1 (l2 &&& (255 : Int32))) fun M22 =>
  some M22))
def P_X0_put (G : mG) (F : Nat) (l0 : Nat) (l1 : Int32) (M : mM) : Option mM :=
  bO (gfI M l0 0 1) fun v1 =>
  bO (gfR M l0 0 0) fun v5 =>
  bO (aln G M v5) fun v8 =>
  if v8 ≤ v1 then (bO (pfZ M l0 0 2 (1 : Int32)) fun M41 =>
  some M41)
  else (bO (gfR M l0 0 0) fun v13 =>
  bO (gfI M l0 0 1) fun v17 =>
  bO (sI M 0 v13 v17 (l1 &&& (255 : Int32))) fun M25 =>
  bO (gfI M25 l0 0 1) fun v28 =>
  bO (pfv M25 l0 0 1 (.int (v28 + (1 : Int32)))) fun M33 =>
  some M33)
def B_X0_putSame_2 (G : mG) (F : Nat) : Nat → Nat → Int32 → Int32 → Int32 → mM → Option mM
  | 0, _, _, _, _, _ => none
  | n + 1, l0, l1, l2, l3, M =>
  if l2 ≤ l3 then (some M)
  else (bO (rcv M l0 0) fun _ =>
  bO (P_X0_put G F l0 l1 M) fun M9 =>
  B_X0_putSame_2 G F n l0 l1 l2 (l3 + 1) M9)
def P_X0_putSame (G : mG) (F : Nat) (l0 : Nat) (l1 : Int32) (l2 : Int32) (M : mM) : Option mM :=
  B_X0_putSame_2 G F F l0 l1 l2 (0 : Int32) M
def P_X0_putWord (G : mG) (F : Nat) (l0 : Nat) (l1 : Int32) (M : mM) : Option mM :=
  bO (rcv M l0 0) fun _ =>
  bO (P_X0_put G F l0 (ushI l1 (24 : Int32)) M) fun M5 =>
  bO (rcv M5 l0 0) fun _ =>
  bO (P_X0_put G F l0 (ushI l1 (16 : Int32)) M5) fun M13 =>
  bO (rcv M13 l0 0) fun _ =>
  bO (P_X0_put G F l0 (ushI l1 (8 : Int32)) M13) fun M21 =>
  bO (rcv M21 l0 0) fun _ =>
  bO (P_X0_put G F l0 l1 M21) fun M26 =>
  some M26
def B_X0_putText_2 (G : mG) (F : Nat) : Nat → Nat → Nat → Int32 → mM → Option mM
  | 0, _, _, _, _ => none
  | n + 1, l0, l1, l2, M =>
  bO (rcs G l1) fun _ =>
  bP (P_J0_length_8abf5 G F l1 M) fun v4 M4 =>
  if v4 ≤ l2 then (some M4)
  else (bO (rcs G l1) fun _ =>
  bP (P_J0_charAt_5068e G F l1 l2 M4) fun v13 M13 =>
  bO (rcv M13 l0 0) fun _ =>
  bO (P_X0_put G F l0 v13 M13) fun M16 =>
  B_X0_putText_2 G F n l0 l1 (l2 + 1) M16)
def P_X0_putText (G : mG) (F : Nat) (l0 : Nat) (l1 : Nat) (M : mM) : Option mM :=
  B_X0_putText_2 G F F l0 l1 (0 : Int32) M
def P_X0_putPart (G : mG) (F : Nat) (l0 : Nat) (l1 : Nat) (l2 : Int32) (l3 : Int32) (M : mM) : Option mM :=
  if l2 < 0 then (some M)
  else (if l3 < 0 then (some M)
  else (bO (gfI M l1 0 1) fun v10 =>
  if l2 ≤ (v10 - l3) then (bO (gfR M l0 0 0) fun v21 =>
  bO (aln G M v21) fun v24 =>
  bO (gfI M l0 0 1) fun v26 =>
  bO (gfR M l1 0 0) fun v36 =>
  bO (gfR M l0 0 0) fun v41 =>
  bO (gfI M l0 0 1) fun v45 =>
  bO (cpI G M v36 l2 v41 v45 (if (v24 - v26) < l3 then (v24 - v26) else l3)) fun M50 =>
  bO (gfI M50 l0 0 1) fun v55 =>
  bO (pfv M50 l0 0 1 (.int (v55 + (if (v24 - v26) < l3 then (v24 - v26) else l3)))) fun M61 =>
  bO (gfI M61 l0 0 2) fun v66 =>
  if v66 = 0 then (if l3 ≤ (if (v24 - v26) < l3 then (v24 - v26) else l3) then (bO (pfZ M61 l0 0 2 (0 : Int32)) fun M83 =>
  some M83)
  else (bO (pfZ M61 l0 0 2 (1 : Int32)) fun M83 =>
  some M83))
  else (bO (pfZ M61 l0 0 2 (1 : Int32)) fun M83 =>
  some M83))
  else (some M)))
def P_X0_putAll (G : mG) (F : Nat) (l0 : Nat) (l1 : Nat) (M : mM) : Option mM :=
  bO (gfI M l1 0 1) fun v4 =>
  bO (rcv M l0 0) fun _ =>
  bO (P_X0_putPart G F l0 l1 (0 : Int32) v4 M) fun M7 =>
  some M7
def P_X0_become (G : mG) (F : Nat) (l0 : Nat) (l1 : Nat) (M : mM) : Option mM :=
  bO (rcv M l0 0) fun _ =>
  bO (P_X0_clear G F l0 M) fun M1 =>
  bO (gfI M1 l1 0 1) fun v8 =>
  bO (rcv M1 l0 0) fun _ =>
  bO (P_X0_putPart G F l0 l1 (0 : Int32) v8 M1) fun M11 =>
  some M11
def B_X0_holds_2 (G : mG) (F : Nat) : Nat → Nat → Int32 → Int32 → mM → Option (Int32 × mM)
  | 0, _, _, _, _ => none
  | n + 1, l0, l1, l2, M =>
  bO (gfI M l0 0 1) fun v4 =>
  if v4 ≤ l2 then (retZ (0 : Int32) M)
  else (bO (gfR M l0 0 0) fun v11 =>
  bO (aI G M 0 v11 l2) fun v15 =>
  if v15 = l1 then (retZ (1 : Int32) M)
  else (B_X0_holds_2 G F n l0 l1 (l2 + 1) M))
def P_X0_holds (G : mG) (F : Nat) (l0 : Nat) (l1 : Int32) (M : mM) : Option (Int32 × mM) :=
  B_X0_holds_2 G F F l0 l1 (0 : Int32) M
def B_X0_compare_3 (G : mG) (F : Nat) : Nat → Nat → Int32 → Nat → Int32 → Int32 → Int32 → mM → Option (Int32 × mM)
  | 0, _, _, _, _, _, _, _ => none
  | n + 1, l0, l1, l2, l3, l4, l5, M =>
  if l4 ≤ l5 then (some ((0 : Int32), M))
  else (bO (rcv M l0 0) fun _ =>
  bP (P_X0_get G F l0 (l1 + l5) M) fun v15 M15 =>
  bO (rcv M15 l2 0) fun _ =>
  bP (P_X0_get G F l2 (l3 + l5) M15) fun v25 M25 =>
  if v15 = v25 then (B_X0_compare_3 G F n l0 l1 l2 l3 l4 (l5 + 1) M25)
  else (if v25 ≤ v15 then (some ((1 : Int32), M25))
  else (some ((-1 : Int32), M25))))
def P_X0_compare (G : mG) (F : Nat) (l0 : Nat) (l1 : Int32) (l2 : Nat) (l3 : Int32) (l4 : Int32) (M : mM) : Option (Int32 × mM) :=
  B_X0_compare_3 G F F l0 l1 l2 l3 l4 (0 : Int32) M
def P_X0_same (G : mG) (F : Nat) (l0 : Nat) (l1 : Nat) (M : mM) : Option (Int32 × mM) :=
  bO (gfI M l0 0 1) fun v1 =>
  bO (gfI M l1 0 1) fun v5 =>
  if v1 = v5 then (bO (gfI M l0 0 1) fun v16 =>
  bP (P_X0_compare G F l0 (0 : Int32) l1 (0 : Int32) v16 M) fun v19 M19 =>
  if v19 = 0 then (retZ (1 : Int32) M19)
  else (retZ (0 : Int32) M19))
  else (retZ (0 : Int32) M)
def P_X0_isBelow (G : mG) (F : Nat) (l0 : Nat) (l1 : Nat) (M : mM) : Option (Int32 × mM) :=
  bO (gfI M l0 0 1) fun v1 =>
  bO (gfI M l1 0 1) fun v5 =>
  if v1 < v5 then (retZ (1 : Int32) M)
  else (bO (gfI M l0 0 1) fun v12 =>
  bO (gfI M l1 0 1) fun v16 =>
  if v12 = v16 then (bO (gfI M l0 0 1) fun v27 =>
  bP (P_X0_compare G F l0 (0 : Int32) l1 (0 : Int32) v27 M) fun v30 M30 =>
  if 0 ≤ v30 then (retZ (0 : Int32) M30)
  else (retZ (1 : Int32) M30))
  else (retZ (0 : Int32) M))
def P_X0_lettersFor (G : mG) (F : Nat) (l0 : Int32) (M : mM) : Option (Int32 × mM) :=
  some ((((l0 * (4 : Int32)) + (2 : Int32)) / (3 : Int32)), M)
def P_X0_bytesFor (G : mG) (F : Nat) (l0 : Int32) (M : mM) : Option (Int32 × mM) :=
  some (((l0 * (3 : Int32)) / (4 : Int32)), M)
def B_X0_letterValue_57 (G : mG) (F : Nat) (l0 : Int32) (M : mM) : Option (Int32 × mM) :=
  if l0 = (45 : Int32) then (some ((62 : Int32), M))
  else (if l0 = (95 : Int32) then (some ((63 : Int32), M))
  else (some ((-1 : Int32), M)))
def B_X0_letterValue_37 (G : mG) (F : Nat) (l0 : Int32) (M : mM) : Option (Int32 × mM) :=
  if l0 < (48 : Int32) then (B_X0_letterValue_57 G F l0 M)
  else (if (57 : Int32) < l0 then (B_X0_letterValue_57 G F l0 M)
  else (some (((l0 - (48 : Int32)) + (52 : Int32)), M)))
def B_X0_letterValue_17 (G : mG) (F : Nat) (l0 : Int32) (M : mM) : Option (Int32 × mM) :=
  if l0 < (97 : Int32) then (B_X0_letterValue_37 G F l0 M)
  else (if (122 : Int32) < l0 then (B_X0_letterValue_37 G F l0 M)
  else (some (((l0 - (97 : Int32)) + (26 : Int32)), M)))
def P_X0_letterValue (G : mG) (F : Nat) (l0 : Int32) (M : mM) : Option (Int32 × mM) :=
  if l0 < (65 : Int32) then (B_X0_letterValue_17 G F l0 M)
  else (if (90 : Int32) < l0 then (B_X0_letterValue_17 G F l0 M)
  else (some ((l0 - (65 : Int32)), M)))
def B_X0_letterFault_72 (G : mG) (F : Nat) (l0 : Nat) (l2 : Int32) (l3 : Int32) (sk0 : Int32) (M : mM) : Option (Int32 × mM) :=
  if sk0 = 0 then (if (1 : Int32) = 0 then (some ((l3 - (1 : Int32)), M))
  else (some ((-1 : Int32), M)))
  else (bO (rcv M l0 0) fun _ =>
  bP (P_X0_get G F l0 (l2 - (1 : Int32)) M) fun v83 M83 =>
  bP (P_X0_letterValue G F v83 M83) fun v86 M86 =>
  if (v86 &&& sk0) = 0 then (if (1 : Int32) = 0 then (some ((l3 - (1 : Int32)), M86))
  else (some ((-1 : Int32), M86)))
  else (if (0 : Int32) = 0 then (some ((l3 - (1 : Int32)), M86))
  else (some ((-1 : Int32), M86))))
def B_X0_letterFault_2 (G : mG) (F : Nat) : Nat → Nat → Int32 → Int32 → Int32 → mM → Option (Int32 × mM)
  | 0, _, _, _, _, _ => none
  | n + 1, l0, l1, l2, l3, M =>
  if l2 ≤ l3 then (if ((if (l2 - l1) < (0 : Int32) then (0 : Int32) else (l2 - l1)) &&& (3 : Int32)) = (1 : Int32) then (some ((if (l2 - l1) < (0 : Int32) then (0 : Int32) else (l2 - l1)), M))
  else (if ((if (l2 - l1) < (0 : Int32) then (0 : Int32) else (l2 - l1)) &&& (3 : Int32)) = (2 : Int32) then (B_X0_letterFault_72 G F l0 l2 (if (l2 - l1) < (0 : Int32) then (0 : Int32) else (l2 - l1)) (15 : Int32) M)
  else (if ((if (l2 - l1) < (0 : Int32) then (0 : Int32) else (l2 - l1)) &&& (3 : Int32)) = (3 : Int32) then (B_X0_letterFault_72 G F l0 l2 (if (l2 - l1) < (0 : Int32) then (0 : Int32) else (l2 - l1)) (3 : Int32) M)
  else (B_X0_letterFault_72 G F l0 l2 (if (l2 - l1) < (0 : Int32) then (0 : Int32) else (l2 - l1)) (0 : Int32) M))))
  else (bO (rcv M l0 0) fun _ =>
  bP (P_X0_get G F l0 l3 M) fun v9 M9 =>
  bP (P_X0_letterValue G F v9 M9) fun v12 M12 =>
  if v12 = (-1 : Int32) then (some ((l3 - l1), M12))
  else (B_X0_letterFault_2 G F n l0 l1 l2 (l3 + 1) M12))
def P_X0_letterFault (G : mG) (F : Nat) (l0 : Nat) (l1 : Int32) (l2 : Int32) (M : mM) : Option (Int32 × mM) :=
  B_X0_letterFault_2 G F F l0 l1 l2 l1 M
def B_X0_putLetters_35 (G : mG) (F : Nat) (r9 : Nat → Nat → Int32 → Int32 → Int32 → Int32 → mM → Option mM) : Nat → Nat → Nat → Int32 → Int32 → Int32 → Int32 → mM → Option mM
  | 0, _, _, _, _, _, _, _ => none
  | n + 1, l0, l1, l3, l4, l5, l6, M =>
  if l5 < (6 : Int32) then (r9 l0 l1 l3 l4 l5 (l6 + 1) M)
  else (bO (rcs G (G.1 15)) fun _ =>
  bP (P_J0_charAt_5068e G F (G.1 15) ((l4 >>> ((l5 - (6 : Int32)) &&& 31)) &&& (63 : Int32)) M) fun v56 M56 =>
  bO (rcv M56 l0 0) fun _ =>
  bO (P_X0_put G F l0 v56 M56) fun M59 =>
  B_X0_putLetters_35 G F r9 n l0 l1 l3 l4 (l5 + (-6)) l6 M59)
def B_X0_putLetters_9 (G : mG) (F : Nat) : Nat → Nat → Nat → Int32 → Int32 → Int32 → Int32 → mM → Option mM
  | 0, _, _, _, _, _, _, _ => none
  | n + 1, l0, l1, l3, l4, l5, l6, M =>
  if l3 ≤ l6 then (if l5 ≤ 0 then (some M)
  else (bO (rcs G (G.1 15)) fun _ =>
  bP (P_J0_charAt_5068e G F (G.1 15) ((l4 <<< (((6 : Int32) - l5) &&& 31)) &&& (63 : Int32)) M) fun v93 M93 =>
  bO (rcv M93 l0 0) fun _ =>
  bO (P_X0_put G F l0 v93 M93) fun M96 =>
  some M96))
  else (bO (rcv M l1 0) fun _ =>
  bP (P_X0_get G F l1 l6 M) fun v23 M23 =>
  B_X0_putLetters_35 G F (B_X0_putLetters_9 G F n) F l0 l1 l3 (((l4 <<< ((8 : Int32) &&& 31)) ||| v23) &&& (65535 : Int32)) (l5 + 8) l6 M23)
def P_X0_putLetters (G : mG) (F : Nat) (l0 : Nat) (l1 : Nat) (l2 : Int32) (l3 : Int32) (M : mM) : Option mM :=
  B_X0_putLetters_9 G F F l0 l1 l3 (0 : Int32) (0 : Int32) l2 M
def P_X0_putLetterPart (G : mG) (F : Nat) (l0 : Nat) (l1 : Nat) (l2 : Int32) (l3 : Int32) (M : mM) : Option mM :=
  bO (rcv M l0 0) fun _ =>
  bO (P_X0_put G F l0 (46 : Int32) M) fun M3 =>
  bO (rcv M3 l0 0) fun _ =>
  bO (P_X0_putLetters G F l0 l1 l2 l3 M3) fun M10 =>
  some M10
def B_X0_putUnlettered_9 (G : mG) (F : Nat) : Nat → Nat → Nat → Int32 → Int32 → Int32 → Int32 → mM → Option mM
  | 0, _, _, _, _, _, _, _ => none
  | n + 1, l0, l1, l3, l4, l5, l6, M =>
  if l3 ≤ l6 then (some M)
  else (bO (rcv M l1 0) fun _ =>
  bP (P_X0_get G F l1 l6 M) fun v23 M23 =>
  bP (P_X0_letterValue G F v23 M23) fun v26 M26 =>
  if (l5 + 6) < (8 : Int32) then (B_X0_putUnlettered_9 G F n l0 l1 l3 (((l4 <<< ((6 : Int32) &&& 31)) ||| v26) &&& (65535 : Int32)) (l5 + 6) (l6 + 1) M26)
  else (bO (rcv M26 l0 0) fun _ =>
  bO (P_X0_put G F l0 ((((l4 <<< ((6 : Int32) &&& 31)) ||| v26) &&& (65535 : Int32)) >>> (((l5 + 6) + (-8)) &&& 31)) M26) fun M54 =>
  B_X0_putUnlettered_9 G F n l0 l1 l3 (((l4 <<< ((6 : Int32) &&& 31)) ||| v26) &&& (65535 : Int32)) ((l5 + 6) + (-8)) (l6 + 1) M54))
def P_X0_putUnlettered (G : mG) (F : Nat) (l0 : Nat) (l1 : Nat) (l2 : Int32) (l3 : Int32) (M : mM) : Option mM :=
  B_X0_putUnlettered_9 G F F l0 l1 l3 (0 : Int32) (0 : Int32) l2 M
def B_X1_init_52 (G : mG) (F : Nat) (r48 : Nat → Int32 → mM → Nat → Nat → Option (mM × Nat × Nat)) (l0 : Nat) (l1 : Int32) (sk0 : Int32) (sk1 : Int32) (M : mM) (sz : Nat) (sl : Nat) : Option (mM × Nat × Nat) :=
  if sk1 ≤ sk0 then (some (M, sz, sl))
  else (bO (gfR M l0 1 0) fun v56 =>
  bO (aI G M 0 (G.1 1000) l1) fun v63 =>
  bO (sI M 0 v56 (v63 &&& (255 : Int32)) l1) fun M69 =>
  r48 l0 (l1 + 1) M69 sz sl)
def B_X1_init_48 (G : mG) (F : Nat) : Nat → Nat → Int32 → mM → Nat → Nat → Option (mM × Nat × Nat)
  | 0, _, _, _, _, _ => none
  | n + 1, l0, l1, M, sz, sl =>
  B_X1_init_52 G F (B_X1_init_48 G F n) l0 l1 l1 (256 : Int32) M sz sl
def P_X1_init (G : mG) (F : Nat) (l0 : Nat) (M : mM) (sz : Nat) (sl : Nat) : Option (mM × Nat × Nat) :=
  bO (nwA M sz 0 (256 : Int32)) fun M8 =>
  bO (pfv M8 l0 1 0 (.ref sz)) fun M10 =>
  bO (nwA M10 (sz + 1) 0 (240 : Int32)) fun M17 =>
  bO (pfv M17 l0 1 1 (.ref (sz + 1))) fun M19 =>
  bO (nwA M19 ((sz + 1) + 1) 0 (16 : Int32)) fun M25 =>
  bO (pfv M25 l0 1 3 (.ref ((sz + 1) + 1))) fun M27 =>
  bO (nwA M27 (((sz + 1) + 1) + 1) 0 (16 : Int32)) fun M33 =>
  bO (pfv M33 l0 1 4 (.ref (((sz + 1) + 1) + 1))) fun M35 =>
  bO (nwA M35 ((((sz + 1) + 1) + 1) + 1) 0 (72 : Int32)) fun M41 =>
  bO (pfv M41 l0 1 5 (.ref ((((sz + 1) + 1) + 1) + 1))) fun M43 =>
  B_X1_init_48 G F F l0 (0 : Int32) M43 (((((sz + 1) + 1) + 1) + 1) + 1) (((((sl + ((256 : Int32)).toNatClampNeg) + ((240 : Int32)).toNatClampNeg) + ((16 : Int32)).toNatClampNeg) + ((16 : Int32)).toNatClampNeg) + ((72 : Int32)).toNatClampNeg)
def P_X1_twice (G : mG) (F : Nat) (l0 : Int32) (M : mM) : Option (Int32 × mM) :=
  if (128 : Int32) ≤ l0 then (some (((l0 <<< ((1 : Int32) &&& 31)) ^^^ (283 : Int32)), M))
  else (some ((l0 <<< ((1 : Int32) &&& 31)), M))
def B_X1_become_234 (G : mG) (F : Nat) (r63 : Nat → Int32 → Int32 → Int32 → mM → Option mM) (l0 : Nat) (l4 : Int32) (l5 : Int32) (l6 : Int32) (l8 : Int32) (l9 : Int32) (l10 : Int32) (l11 : Int32) (M : mM) : Option mM :=
  bO (gfR M l0 1 1) fun v244 =>
  bO (gfR M l0 1 1) fun v252 =>
  bO (aI G M 0 v252 ((4 : Int32) * (l6 - l4))) fun v257 =>
  bO (sI M 0 v244 ((4 : Int32) * l6) (v257 ^^^ l8)) fun M261 =>
  bO (gfR M261 l0 1 1) fun v263 =>
  bO (gfR M261 l0 1 1) fun v273 =>
  bO (aI G M261 0 v273 (((4 : Int32) * (l6 - l4)) + (1 : Int32))) fun v280 =>
  bO (sI M261 0 v263 (((4 : Int32) * l6) + (1 : Int32)) (v280 ^^^ l9)) fun M284 =>
  bO (gfR M284 l0 1 1) fun v286 =>
  bO (gfR M284 l0 1 1) fun v296 =>
  bO (aI G M284 0 v296 (((4 : Int32) * (l6 - l4)) + (2 : Int32))) fun v303 =>
  bO (sI M284 0 v286 (((4 : Int32) * l6) + (2 : Int32)) (v303 ^^^ l10)) fun M307 =>
  bO (gfR M307 l0 1 1) fun v309 =>
  bO (gfR M307 l0 1 1) fun v319 =>
  bO (aI G M307 0 v319 (((4 : Int32) * (l6 - l4)) + (3 : Int32))) fun v326 =>
  bO (sI M307 0 v309 (((4 : Int32) * l6) + (3 : Int32)) (v326 ^^^ l11)) fun M330 =>
  r63 l0 l4 l5 (l6 + 1) M330
def B_X1_become_63 (G : mG) (F : Nat) : Nat → Nat → Int32 → Int32 → Int32 → mM → Option mM
  | 0, _, _, _, _, _ => none
  | n + 1, l0, l4, l5, l6, M =>
  bO (gfI M l0 1 2) fun v67 =>
  if ((4 : Int32) * (v67 + (1 : Int32))) ≤ l6 then (some M)
  else (bO (gfR M l0 1 1) fun v85 =>
  bO (aI G M 0 v85 (((4 : Int32) * l6) - (4 : Int32))) fun v90 =>
  bO (gfR M l0 1 1) fun v94 =>
  bO (aI G M 0 v94 ((((4 : Int32) * l6) - (4 : Int32)) + (1 : Int32))) fun v101 =>
  bO (gfR M l0 1 1) fun v105 =>
  bO (aI G M 0 v105 ((((4 : Int32) * l6) - (4 : Int32)) + (2 : Int32))) fun v112 =>
  bO (gfR M l0 1 1) fun v116 =>
  bO (aI G M 0 v116 ((((4 : Int32) * l6) - (4 : Int32)) + (3 : Int32))) fun v123 =>
  if (l6 &&& (l4 - (1 : Int32))) = 0 then (bO (aI G M 0 (G.1 1000) v101) fun v149 =>
  bO (aI G M 0 (G.1 1000) v112) fun v160 =>
  bO (aI G M 0 (G.1 1000) v123) fun v168 =>
  bO (aI G M 0 (G.1 1000) v90) fun v176 =>
  bP (P_X1_twice G F l5 M) fun v181 M181 =>
  B_X1_become_234 G F (B_X1_become_63 G F n) l0 l4 v181 l6 (v149 ^^^ l5) v160 v168 v176 M181)
  else (if l4 = (8 : Int32) then (if (l6 &&& (l4 - (1 : Int32))) = (4 : Int32) then (bO (aI G M 0 (G.1 1000) v90) fun v207 =>
  bO (aI G M 0 (G.1 1000) v101) fun v215 =>
  bO (aI G M 0 (G.1 1000) v112) fun v223 =>
  bO (aI G M 0 (G.1 1000) v123) fun v231 =>
  B_X1_become_234 G F (B_X1_become_63 G F n) l0 l4 l5 l6 v207 v215 v223 v231 M)
  else (B_X1_become_234 G F (B_X1_become_63 G F n) l0 l4 l5 l6 v90 v101 v112 v123 M))
  else (B_X1_become_234 G F (B_X1_become_63 G F n) l0 l4 l5 l6 v90 v101 v112 v123 M)))
def B_X1_become_26 (G : mG) (F : Nat) : Nat → Nat → Nat → Int32 → Int32 → Int32 → mM → Option mM
  | 0, _, _, _, _, _, _ => none
  | n + 1, l0, l1, l2, l4, l5, M =>
  if ((4 : Int32) * l4) ≤ l5 then (B_X1_become_63 G F F l0 l4 (1 : Int32) l4 M)
  else (bO (gfR M l0 1 1) fun v36 =>
  bO (rcv M l1 0) fun _ =>
  bP (P_X0_get G F l1 (l2 + l5) M) fun v46 M46 =>
  bO (sI M46 0 v36 l5 v46) fun M49 =>
  B_X1_become_26 G F n l0 l1 l2 l4 (l5 + 1) M49)
def P_X1_become (G : mG) (F : Nat) (l0 : Nat) (l1 : Nat) (l2 : Int32) (l3 : Int32) (M : mM) : Option mM :=
  if l3 = (32 : Int32) then (bO (pfv M l0 1 2 (.int ((8 : Int32) + (6 : Int32)))) fun M20 =>
  B_X1_become_26 G F F l0 l1 l2 (8 : Int32) (0 : Int32) M20)
  else (bO (pfv M l0 1 2 (.int ((4 : Int32) + (6 : Int32)))) fun M20 =>
  B_X1_become_26 G F F l0 l1 l2 (4 : Int32) (0 : Int32) M20)
def B_X1_addRoundKey_2 (G : mG) (F : Nat) : Nat → Nat → Nat → Int32 → Int32 → mM → Option mM
  | 0, _, _, _, _, _ => none
  | n + 1, l0, l1, l2, l3, M =>
  if (16 : Int32) ≤ l3 then (some M)
  else (bO (aI G M 0 l1 l3) fun v11 =>
  bO (gfR M l0 1 1) fun v13 =>
  bO (aI G M 0 v13 (((16 : Int32) * l2) + l3)) fun v22 =>
  bO (sI M 0 l1 l3 (v11 ^^^ v22)) fun M24 =>
  B_X1_addRoundKey_2 G F n l0 l1 l2 (l3 + 1) M24)
def P_X1_addRoundKey (G : mG) (F : Nat) (l0 : Nat) (l1 : Nat) (l2 : Int32) (M : mM) : Option mM :=
  B_X1_addRoundKey_2 G F F l0 l1 l2 (0 : Int32) M
def B_X1_mixColumns_2 (G : mG) (F : Nat) : Nat → Nat → Int32 → mM → Option mM
  | 0, _, _, _ => none
  | n + 1, l0, l1, M =>
  if (16 : Int32) ≤ l1 then (some M)
  else (bO (aI G M 0 l0 l1) fun v10 =>
  bO (aI G M 0 l0 l1) fun v14 =>
  bO (aI G M 0 l0 (l1 + (1 : Int32))) fun v19 =>
  bO (aI G M 0 l0 (l1 + (2 : Int32))) fun v25 =>
  bO (aI G M 0 l0 (l1 + (3 : Int32))) fun v31 =>
  bO (aI G M 0 l0 l1) fun v37 =>
  bO (aI G M 0 l0 l1) fun v41 =>
  bO (aI G M 0 l0 (l1 + (1 : Int32))) fun v46 =>
  bP (P_X1_twice G F (v41 ^^^ v46) M) fun v48 M48 =>
  bO (sI M48 0 l0 l1 (v37 ^^^ ((((v14 ^^^ v19) ^^^ v25) ^^^ v31) ^^^ v48))) fun M53 =>
  bO (aI G M53 0 l0 (l1 + (1 : Int32))) fun v59 =>
  bO (aI G M53 0 l0 (l1 + (1 : Int32))) fun v65 =>
  bO (aI G M53 0 l0 (l1 + (2 : Int32))) fun v70 =>
  bP (P_X1_twice G F (v65 ^^^ v70) M53) fun v72 M72 =>
  bO (sI M72 0 l0 (l1 + (1 : Int32)) (v59 ^^^ ((((v14 ^^^ v19) ^^^ v25) ^^^ v31) ^^^ v72))) fun M77 =>
  bO (aI G M77 0 l0 (l1 + (2 : Int32))) fun v83 =>
  bO (aI G M77 0 l0 (l1 + (2 : Int32))) fun v89 =>
  bO (aI G M77 0 l0 (l1 + (3 : Int32))) fun v94 =>
  bP (P_X1_twice G F (v89 ^^^ v94) M77) fun v96 M96 =>
  bO (sI M96 0 l0 (l1 + (2 : Int32)) (v83 ^^^ ((((v14 ^^^ v19) ^^^ v25) ^^^ v31) ^^^ v96))) fun M101 =>
  bO (aI G M101 0 l0 (l1 + (3 : Int32))) fun v107 =>
  bO (aI G M101 0 l0 (l1 + (3 : Int32))) fun v113 =>
  bP (P_X1_twice G F (v113 ^^^ v10) M101) fun v116 M116 =>
  bO (sI M116 0 l0 (l1 + (3 : Int32)) (v107 ^^^ ((((v14 ^^^ v19) ^^^ v25) ^^^ v31) ^^^ v116))) fun M121 =>
  B_X1_mixColumns_2 G F n l0 (l1 + 4) M121)
def P_X1_mixColumns (G : mG) (F : Nat) (l0 : Nat) (M : mM) : Option mM :=
  B_X1_mixColumns_2 G F F l0 (0 : Int32) M
def B_X1_forward_18 (G : mG) (F : Nat) (r8 : Nat → Nat → Int32 → mM → Option mM) : Nat → Nat → Nat → Int32 → Int32 → mM → Option mM
  | 0, _, _, _, _, _ => none
  | n + 1, l0, l1, l2, l3, M =>
  if (16 : Int32) ≤ l3 then (bO (gfR M l0 1 3) fun v53 =>
  bO (cpI G M v53 (0 : Int32) l1 (0 : Int32) (16 : Int32)) fun M61 =>
  bO (gfI M61 l0 1 2) fun v66 =>
  if v66 ≤ l2 then (bO (rcv M61 l0 1) fun _ =>
  bO (P_X1_addRoundKey G F l0 l1 l2 M61) fun M79 =>
  r8 l0 l1 (l2 + 1) M79)
  else (bO (P_X1_mixColumns G F l1 M61) fun M73 =>
  bO (rcv M73 l0 1) fun _ =>
  bO (P_X1_addRoundKey G F l0 l1 l2 M73) fun M79 =>
  r8 l0 l1 (l2 + 1) M79))
  else (bO (gfR M l0 1 3) fun v25 =>
  bO (aI G M 0 l1 ((l3 + ((4 : Int32) * (l3 &&& (3 : Int32)))) &&& (15 : Int32))) fun v43 =>
  bO (aI G M 0 (G.1 1000) v43) fun v44 =>
  bO (sI M 0 v25 l3 v44) fun M45 =>
  B_X1_forward_18 G F r8 n l0 l1 l2 (l3 + 1) M45)
def B_X1_forward_8 (G : mG) (F : Nat) : Nat → Nat → Nat → Int32 → mM → Option mM
  | 0, _, _, _, _ => none
  | n + 1, l0, l1, l2, M =>
  bO (gfI M l0 1 2) fun v10 =>
  if v10 < l2 then (some M)
  else (B_X1_forward_18 G F (B_X1_forward_8 G F n) F l0 l1 l2 (0 : Int32) M)
def P_X1_forward (G : mG) (F : Nat) (l0 : Nat) (l1 : Nat) (M : mM) : Option mM :=
  bO (rcv M l0 1) fun _ =>
  bO (P_X1_addRoundKey G F l0 l1 (0 : Int32) M) fun M3 =>
  B_X1_forward_8 G F F l0 l1 (1 : Int32) M3
def B_X1_unmixColumns_2 (G : mG) (F : Nat) : Nat → Nat → Int32 → mM → Option mM
  | 0, _, _, _ => none
  | n + 1, l0, l1, M =>
  if (16 : Int32) ≤ l1 then (bO (P_X1_mixColumns G F l0 M) fun M83 =>
  some M83)
  else (bO (aI G M 0 l0 l1) fun v10 =>
  bO (aI G M 0 l0 (l1 + (2 : Int32))) fun v15 =>
  bP (P_X1_twice G F (v10 ^^^ v15) M) fun v17 M17 =>
  bP (P_X1_twice G F v17 M17) fun v20 M20 =>
  bO (aI G M20 0 l0 (l1 + (1 : Int32))) fun v28 =>
  bO (aI G M20 0 l0 (l1 + (3 : Int32))) fun v33 =>
  bP (P_X1_twice G F (v28 ^^^ v33) M20) fun v35 M35 =>
  bP (P_X1_twice G F v35 M35) fun v38 M38 =>
  bO (aI G M38 0 l0 l1) fun v45 =>
  bO (sI M38 0 l0 l1 (v45 ^^^ v20)) fun M48 =>
  bO (aI G M48 0 l0 (l1 + (1 : Int32))) fun v54 =>
  bO (sI M48 0 l0 (l1 + (1 : Int32)) (v54 ^^^ v38)) fun M57 =>
  bO (aI G M57 0 l0 (l1 + (2 : Int32))) fun v63 =>
  bO (sI M57 0 l0 (l1 + (2 : Int32)) (v63 ^^^ v20)) fun M66 =>
  bO (aI G M66 0 l0 (l1 + (3 : Int32))) fun v72 =>
  bO (sI M66 0 l0 (l1 + (3 : Int32)) (v72 ^^^ v38)) fun M75 =>
  B_X1_unmixColumns_2 G F n l0 (l1 + 4) M75)
def P_X1_unmixColumns (G : mG) (F : Nat) (l0 : Nat) (M : mM) : Option mM :=
  B_X1_unmixColumns_2 G F F l0 (0 : Int32) M
def B_X1_backward_30 (G : mG) (F : Nat) (r5 : Nat → Nat → Int32 → mM → Option mM) : Nat → Nat → Nat → Int32 → Int32 → mM → Option mM
  | 0, _, _, _, _, _ => none
  | n + 1, l0, l1, l2, l3, M =>
  if (16 : Int32) ≤ l3 then (bO (gfR M l0 1 3) fun v66 =>
  bO (cpI G M v66 (0 : Int32) l1 (0 : Int32) (16 : Int32)) fun M74 =>
  r5 l0 l1 (l2 + (-1)) M74)
  else (bO (gfR M l0 1 3) fun v37 =>
  bO (gfR M l0 1 0) fun v51 =>
  bO (aI G M 0 l1 l3) fun v56 =>
  bO (aI G M 0 v51 v56) fun v57 =>
  bO (sI M 0 v37 ((l3 + ((4 : Int32) * (l3 &&& (3 : Int32)))) &&& (15 : Int32)) v57) fun M58 =>
  B_X1_backward_30 G F r5 n l0 l1 l2 (l3 + 1) M58)
def B_X1_backward_5 (G : mG) (F : Nat) : Nat → Nat → Nat → Int32 → mM → Option mM
  | 0, _, _, _, _ => none
  | n + 1, l0, l1, l2, M =>
  if l2 < (1 : Int32) then (bO (rcv M l0 1) fun _ =>
  bO (P_X1_addRoundKey G F l0 l1 (0 : Int32) M) fun M86 =>
  some M86)
  else (bO (rcv M l0 1) fun _ =>
  bO (P_X1_addRoundKey G F l0 l1 l2 M) fun M13 =>
  bO (gfI M13 l0 1 2) fun v18 =>
  if v18 ≤ l2 then (B_X1_backward_30 G F (B_X1_backward_5 G F n) F l0 l1 l2 (0 : Int32) M13)
  else (bO (P_X1_unmixColumns G F l1 M13) fun M25 =>
  B_X1_backward_30 G F (B_X1_backward_5 G F n) F l0 l1 l2 (0 : Int32) M25))
def P_X1_backward (G : mG) (F : Nat) (l0 : Nat) (l1 : Nat) (M : mM) : Option mM :=
  bO (gfI M l0 1 2) fun v1 =>
  B_X1_backward_5 G F F l0 l1 v1 M
def B_X1_putBlock_55 (G : mG) (F : Nat) : Nat → Nat → Nat → Int32 → mM → Option mM
  | 0, _, _, _, _ => none
  | n + 1, l0, l3, l4, M =>
  if (16 : Int32) ≤ l4 then (some M)
  else (bO (gfR M l0 1 4) fun v64 =>
  bO (aI G M 0 v64 l4) fun v69 =>
  bO (rcv M l3 0) fun _ =>
  bO (P_X0_put G F l3 v69 M) fun M70 =>
  B_X1_putBlock_55 G F n l0 l3 (l4 + 1) M70)
def B_X1_putBlock_3 (G : mG) (F : Nat) : Nat → Nat → Nat → Int32 → Nat → Int32 → mM → Option mM
  | 0, _, _, _, _, _, _ => none
  | n + 1, l0, l1, l2, l3, l4, M =>
  if (16 : Int32) ≤ l4 then (if l2 = 0 then (bO (gfR M l0 1 4) fun v46 =>
  bO (rcv M l0 1) fun _ =>
  bO (P_X1_forward G F l0 v46 M) fun M49 =>
  B_X1_putBlock_55 G F F l0 l3 (0 : Int32) M49)
  else (bO (gfR M l0 1 4) fun v35 =>
  bO (rcv M l0 1) fun _ =>
  bO (P_X1_backward G F l0 v35 M) fun M38 =>
  B_X1_putBlock_55 G F F l0 l3 (0 : Int32) M38))
  else (bO (gfR M l0 1 4) fun v11 =>
  bO (rcv M l1 0) fun _ =>
  bP (P_X0_get G F l1 l4 M) fun v19 M19 =>
  bO (sI M19 0 v11 l4 v19) fun M22 =>
  B_X1_putBlock_3 G F n l0 l1 l2 l3 (l4 + 1) M22)
def P_X1_putBlock (G : mG) (F : Nat) (l0 : Nat) (l1 : Nat) (l2 : Int32) (l3 : Nat) (M : mM) : Option mM :=
  B_X1_putBlock_3 G F F l0 l1 l2 l3 (0 : Int32) M
def P_X1_mayWrap (G : mG) (F : Nat) (l0 : Int32) (M : mM) : Option (Int32 × mM) :=
  if l0 < (16 : Int32) then (retZ (0 : Int32) M)
  else (if (64 : Int32) < l0 then (retZ (0 : Int32) M)
  else (if (l0 &&& (7 : Int32)) = 0 then (retZ (1 : Int32) M)
  else (retZ (0 : Int32) M)))
def B_X1_putWrapped_204 (G : mG) (F : Nat) : Nat → Nat → Nat → Nat → Int32 → mM → Option mM
  | 0, _, _, _, _, _ => none
  | n + 1, l0, l2, l3, l5, M =>
  bO (gfI M l2 0 1) fun v207 =>
  if (v207 + (8 : Int32)) ≤ l5 then (some M)
  else (bO (gfR M l0 1 5) fun v218 =>
  bO (aI G M 0 v218 l5) fun v223 =>
  bO (rcv M l3 0) fun _ =>
  bO (P_X0_put G F l3 v223 M) fun M224 =>
  B_X1_putWrapped_204 G F n l0 l2 l3 (l5 + 1) M224)
def B_X1_putWrapped_93 (G : mG) (F : Nat) : Nat → Nat → Nat → Nat → Int32 → Int32 → mM → Option mM
  | 0, _, _, _, _, _, _ => none
  | n + 1, l0, l2, l3, l4, l5, M =>
  if ((6 : Int32) * l4) ≤ l5 then (bO (gfR M l0 1 4) fun v183 =>
  bO (gfR M l0 1 5) fun v188 =>
  bO (cpI G M v183 (0 : Int32) v188 (0 : Int32) (8 : Int32)) fun M194 =>
  bO (rcv M194 l3 0) fun _ =>
  bO (P_X0_clear G F l3 M194) fun M198 =>
  B_X1_putWrapped_204 G F F l0 l2 l3 (0 : Int32) M198)
  else (bO (rmI l5 (if l4 < (1 : Int32) then (1 : Int32) else l4)) fun v115 =>
  bO (gfR M l0 1 5) fun v121 =>
  bO (gfR M l0 1 4) fun v127 =>
  bO (cpI G M v121 ((8 : Int32) + ((8 : Int32) * v115)) v127 (8 : Int32) (8 : Int32)) fun M134 =>
  bO (gfR M134 l0 1 4) fun v139 =>
  bO (rcv M134 l0 1) fun _ =>
  bO (P_X1_forward G F l0 v139 M134) fun M142 =>
  bO (gfR M142 l0 1 4) fun v146 =>
  bO (aI G M142 0 v146 (7 : Int32)) fun v152 =>
  bO (sI M142 0 v146 (7 : Int32) (v152 ^^^ (l5 + (1 : Int32)))) fun M158 =>
  bO (gfR M158 l0 1 4) fun v160 =>
  bO (gfR M158 l0 1 5) fun v166 =>
  bO (cpI G M158 v160 (8 : Int32) v166 ((8 : Int32) + ((8 : Int32) * v115)) (8 : Int32)) fun M173 =>
  B_X1_putWrapped_93 G F n l0 l2 l3 l4 (l5 + 1) M173)
def B_X1_putWrapped_67 (G : mG) (F : Nat) : Nat → Nat → Nat → Nat → Int32 → Int32 → mM → Option mM
  | 0, _, _, _, _, _, _ => none
  | n + 1, l0, l2, l3, l4, l5, M =>
  if (8 : Int32) ≤ l5 then (B_X1_putWrapped_93 G F F l0 l2 l3 l4 (0 : Int32) M)
  else (bO (gfR M l0 1 4) fun v75 =>
  bO (sI M 0 v75 l5 (166 : Int32)) fun M83 =>
  B_X1_putWrapped_67 G F n l0 l2 l3 l4 (l5 + 1) M83)
def B_X1_putWrapped_33 (G : mG) (F : Nat) : Nat → Nat → Nat → Nat → Int32 → Int32 → mM → Option mM
  | 0, _, _, _, _, _, _ => none
  | n + 1, l0, l2, l3, l4, l5, M =>
  bO (gfI M l2 0 1) fun v36 =>
  if v36 ≤ l5 then (B_X1_putWrapped_67 G F F l0 l2 l3 l4 (0 : Int32) M)
  else (bO (gfR M l0 1 5) fun v43 =>
  bO (rcv M l2 0) fun _ =>
  bP (P_X0_get G F l2 l5 M) fun v54 M54 =>
  bO (sI M54 0 v43 ((8 : Int32) + l5) v54) fun M57 =>
  B_X1_putWrapped_33 G F n l0 l2 l3 l4 (l5 + 1) M57)
def P_X1_putWrapped (G : mG) (F : Nat) (l0 : Nat) (l1 : Nat) (l2 : Nat) (l3 : Nat) (M : mM) : Option mM :=
  bO (gfI M l2 0 1) fun v1 =>
  bP (P_X1_mayWrap G F v1 M) fun v4 M4 =>
  if v4 = 0 then (some M4)
  else (bO (gfI M4 l1 0 1) fun v15 =>
  bO (rcv M4 l0 1) fun _ =>
  bO (P_X1_become G F l0 l1 (0 : Int32) v15 M4) fun M18 =>
  bO (gfI M18 l2 0 1) fun v22 =>
  B_X1_putWrapped_33 G F F l0 l2 l3 (v22 / (8 : Int32)) (0 : Int32) M18)
def B_X1_putUnwrapped_213 (G : mG) (F : Nat) : Nat → Nat → Nat → Int32 → Int32 → mM → Option (Int32 × mM)
  | 0, _, _, _, _, _ => none
  | n + 1, l0, l3, l4, l6, M =>
  if l4 ≤ l6 then (retZ (1 : Int32) M)
  else (bO (gfR M l0 1 5) fun v222 =>
  bO (aI G M 0 v222 ((8 : Int32) + l6)) fun v230 =>
  bO (rcv M l3 0) fun _ =>
  bO (P_X0_put G F l3 v230 M) fun M231 =>
  B_X1_putUnwrapped_213 G F n l0 l3 l4 (l6 + 1) M231)
def B_X1_putUnwrapped_178 (G : mG) (F : Nat) : Nat → Nat → Nat → Int32 → Int32 → mM → Option (Int32 × mM)
  | 0, _, _, _, _, _ => none
  | n + 1, l0, l3, l4, l6, M =>
  if (8 : Int32) ≤ l6 then (bO (rcv M l3 0) fun _ =>
  bO (P_X0_clear G F l3 M) fun M207 =>
  B_X1_putUnwrapped_213 G F F l0 l3 l4 (0 : Int32) M207)
  else (bO (gfR M l0 1 4) fun v186 =>
  bO (aI G M 0 v186 l6) fun v191 =>
  if v191 = (166 : Int32) then (B_X1_putUnwrapped_178 G F n l0 l3 l4 (l6 + 1) M)
  else (retZ (0 : Int32) M))
def B_X1_putUnwrapped_91 (G : mG) (F : Nat) : Nat → Nat → Nat → Int32 → Int32 → Int32 → mM → Option (Int32 × mM)
  | 0, _, _, _, _, _, _ => none
  | n + 1, l0, l3, l4, l5, l6, M =>
  if l6 < 0 then (B_X1_putUnwrapped_178 G F F l0 l3 l4 (0 : Int32) M)
  else (bO (rmI l6 (if l5 < (1 : Int32) then (1 : Int32) else l5)) fun v108 =>
  bO (gfR M l0 1 4) fun v114 =>
  bO (aI G M 0 v114 (7 : Int32)) fun v120 =>
  bO (sI M 0 v114 (7 : Int32) (v120 ^^^ (l6 + (1 : Int32)))) fun M126 =>
  bO (gfR M126 l0 1 5) fun v128 =>
  bO (gfR M126 l0 1 4) fun v134 =>
  bO (cpI G M126 v128 ((8 : Int32) + ((8 : Int32) * v108)) v134 (8 : Int32) (8 : Int32)) fun M141 =>
  bO (gfR M141 l0 1 4) fun v146 =>
  bO (rcv M141 l0 1) fun _ =>
  bO (P_X1_backward G F l0 v146 M141) fun M149 =>
  bO (gfR M149 l0 1 4) fun v153 =>
  bO (gfR M149 l0 1 5) fun v159 =>
  bO (cpI G M149 v153 (8 : Int32) v159 ((8 : Int32) + ((8 : Int32) * v108)) (8 : Int32)) fun M166 =>
  B_X1_putUnwrapped_91 G F n l0 l3 l4 l5 (l6 + (-1)) M166)
def B_X1_putUnwrapped_39 (G : mG) (F : Nat) : Nat → Nat → Nat → Nat → Int32 → Int32 → Int32 → mM → Option (Int32 × mM)
  | 0, _, _, _, _, _, _, _ => none
  | n + 1, l0, l2, l3, l4, l5, l6, M =>
  bO (gfI M l2 0 1) fun v42 =>
  if v42 ≤ l6 then (bO (gfR M l0 1 5) fun v68 =>
  bO (gfR M l0 1 4) fun v73 =>
  bO (cpI G M v68 (0 : Int32) v73 (0 : Int32) (8 : Int32)) fun M79 =>
  B_X1_putUnwrapped_91 G F F l0 l3 l4 l5 (((6 : Int32) * l5) - (1 : Int32)) M79)
  else (bO (gfR M l0 1 5) fun v49 =>
  bO (rcv M l2 0) fun _ =>
  bP (P_X0_get G F l2 l6 M) fun v57 M57 =>
  bO (sI M57 0 v49 l6 v57) fun M60 =>
  B_X1_putUnwrapped_39 G F n l0 l2 l3 l4 l5 (l6 + 1) M60)
def P_X1_putUnwrapped (G : mG) (F : Nat) (l0 : Nat) (l1 : Nat) (l2 : Nat) (l3 : Nat) (M : mM) : Option (Int32 × mM) :=
  bO (gfI M l2 0 1) fun v1 =>
  bP (P_X1_mayWrap G F (v1 - (8 : Int32)) M) fun v11 M11 =>
  if v11 = 0 then (retZ (0 : Int32) M11)
  else (bO (gfI M11 l1 0 1) fun v23 =>
  bO (rcv M11 l0 1) fun _ =>
  bO (P_X1_become G F l0 l1 (0 : Int32) v23 M11) fun M26 =>
  B_X1_putUnwrapped_39 G F F l0 l2 l3 (v1 - (8 : Int32)) ((v1 - (8 : Int32)) / (8 : Int32)) (0 : Int32) M26)
def P_X2_init (G : mG) (F : Nat) (l0 : Nat) (l1 : Nat) (l2 : Nat) (M : mM) (sz : Nat) (sl : Nat) : Option (mM × Nat × Nat) :=
  bO (nwA M sz 0 (16 : Int32)) fun M7 =>
  bO (pfv M7 l0 2 2 (.ref sz)) fun M9 =>
  bO (nwA M9 (sz + 1) 0 (16 : Int32)) fun M15 =>
  bO (pfv M15 l0 2 3 (.ref (sz + 1))) fun M17 =>
  bO (some (nwO M17 ((sz + 1) + 1) 0 dfX0)) fun M21 =>
  bA (P_X0_init G F ((sz + 1) + 1) (64 : Int32) M21 (((sz + 1) + 1) + 1) (((sl + ((16 : Int32)).toNatClampNeg) + ((16 : Int32)).toNatClampNeg) + 3)) fun M27 z27 k27 =>
  bO (pfv M27 l0 2 4 (.ref ((sz + 1) + 1))) fun M30 =>
  bO (pfv M30 l0 2 0 (.ref l1)) fun M35 =>
  bO (pfv M35 l0 2 1 (.ref l2)) fun M40 =>
  some (M40, z27, k27)
def P_X2_sealedBytes (G : mG) (F : Nat) (l0 : Int32) (l1 : Int32) (M : mM) : Option (Int32 × mM) :=
  if (2 : Int32) ≤ l0 then (some (l1, M))
  else (some ((((l1 / (16 : Int32)) + (1 : Int32)) * (16 : Int32)), M))
def B_X2_putChained_144 (G : mG) (F : Nat) (r71 : Nat → Nat → Nat → Int32 → Int32 → Int32 → mM → Option mM) : Nat → Nat → Nat → Nat → Int32 → Int32 → Int32 → Int32 → mM → Option mM
  | 0, _, _, _, _, _, _, _, _ => none
  | n + 1, l0, l3, l4, l5, l6, l7, l8, M =>
  if (16 : Int32) ≤ l8 then (r71 l0 l3 l4 l5 l6 (l7 + 16) M)
  else (bO (gfR M l0 2 2) fun v154 =>
  bO (aI G M 0 v154 l8) fun v159 =>
  bO (rcv M l4 0) fun _ =>
  bO (P_X0_put G F l4 v159 M) fun M160 =>
  B_X2_putChained_144 G F r71 n l0 l3 l4 l5 l6 l7 (l8 + 1) M160)
def B_X2_putChained_81 (G : mG) (F : Nat) (r71 : Nat → Nat → Nat → Int32 → Int32 → Int32 → mM → Option mM) : Nat → Nat → Nat → Nat → Int32 → Int32 → Int32 → Int32 → mM → Option mM
  | 0, _, _, _, _, _, _, _, _ => none
  | n + 1, l0, l3, l4, l5, l6, l7, l8, M =>
  if (16 : Int32) ≤ l8 then (bO (gfR M l0 2 1) fun v131 =>
  bO (gfR M l0 2 2) fun v135 =>
  bO (rcv M v131 1) fun _ =>
  bO (P_X1_forward G F v131 v135 M) fun M138 =>
  B_X2_putChained_144 G F r71 F l0 l3 l4 l5 l6 l7 (0 : Int32) M138)
  else (bO (gfR M l0 2 2) fun v89 =>
  bO (aI G M 0 v89 l8) fun v95 =>
  bO (gfI M l3 0 1) fun v102 =>
  if v102 ≤ (l7 + l8) then (bO (sI M 0 v89 l8 (v95 ^^^ l6)) fun M123 =>
  B_X2_putChained_81 G F r71 n l0 l3 l4 l5 l6 l7 (l8 + 1) M123)
  else (bO (rcv M l3 0) fun _ =>
  bP (P_X0_get G F l3 (l7 + l8) M) fun v114 M114 =>
  bO (sI M114 0 v89 l8 (v95 ^^^ v114)) fun M123 =>
  B_X2_putChained_81 G F r71 n l0 l3 l4 l5 l6 l7 (l8 + 1) M123))
def B_X2_putChained_71 (G : mG) (F : Nat) : Nat → Nat → Nat → Nat → Int32 → Int32 → Int32 → mM → Option mM
  | 0, _, _, _, _, _, _, _ => none
  | n + 1, l0, l3, l4, l5, l6, l7, M =>
  if l5 ≤ l7 then (some M)
  else (B_X2_putChained_81 G F (B_X2_putChained_71 G F n) F l0 l3 l4 l5 l6 l7 (0 : Int32) M)
def B_X2_putChained_42 (G : mG) (F : Nat) : Nat → Nat → Nat → Nat → Nat → Int32 → Int32 → Int32 → mM → Option mM
  | 0, _, _, _, _, _, _, _, _ => none
  | n + 1, l0, l2, l3, l4, l5, l6, l7, M =>
  if (16 : Int32) ≤ l7 then (B_X2_putChained_71 G F F l0 l3 l4 l5 l6 (0 : Int32) M)
  else (bO (gfR M l0 2 2) fun v50 =>
  bO (rcv M l2 0) fun _ =>
  bP (P_X0_get G F l2 l7 M) fun v58 M58 =>
  bO (sI M58 0 v50 l7 v58) fun M61 =>
  B_X2_putChained_42 G F n l0 l2 l3 l4 l5 l6 (l7 + 1) M61)
def P_X2_putChained (G : mG) (F : Nat) (l0 : Nat) (l1 : Nat) (l2 : Nat) (l3 : Nat) (l4 : Nat) (M : mM) : Option mM :=
  bO (gfR M l0 2 1) fun v1 =>
  bO (gfI M l1 0 1) fun v6 =>
  bO (gfI M l1 0 1) fun v12 =>
  bO (rcv M v1 1) fun _ =>
  bO (P_X1_become G F v1 l1 (v6 / (2 : Int32)) (v12 / (2 : Int32)) M) fun M17 =>
  bO (gfI M17 l3 0 1) fun v22 =>
  bP (P_X2_sealedBytes G F (0 : Int32) v22 M17) fun v25 M25 =>
  bO (gfI M25 l3 0 1) fun v33 =>
  B_X2_putChained_42 G F F l0 l2 l3 l4 v25 (v25 - v33) (0 : Int32) M25
def B_X4_start_32 (G : mG) (F : Nat) (l0 : Nat) (sk0 : Nat) (sk1 : Int32) (M : mM) : Option mM :=
  bO (pfv M sk0 4 1 (.int sk1)) fun M32 =>
  bO (pfv M32 l0 4 3 (.int (0 : Int32))) fun M37 =>
  bO (pfv M37 l0 4 4 (.int (0 : Int32))) fun M42 =>
  bO (gfR M42 l0 4 5) fun v50 =>
  bO (cpI G M42 (G.1 1001) (0 : Int32) v50 (0 : Int32) (8 : Int32)) fun M56 =>
  bO (gfR M56 l0 4 7) fun v64 =>
  bO (cpL G M56 (G.1 1002) (0 : Int32) v64 (0 : Int32) (8 : Int32)) fun M70 =>
  some M70
def P_X4_start (G : mG) (F : Nat) (l0 : Nat) (l1 : Int32) (M : mM) : Option mM :=
  if l1 = (512 : Int32) then (bO (pfZ M l0 4 0 (1 : Int32)) fun M13 =>
  bO (gfI M13 l0 4 0) fun v18 =>
  if v18 = 0 then (B_X4_start_32 G F l0 l0 (64 : Int32) M13)
  else (B_X4_start_32 G F l0 l0 (128 : Int32) M13))
  else (bO (pfZ M l0 4 0 (0 : Int32)) fun M13 =>
  bO (gfI M13 l0 4 0) fun v18 =>
  if v18 = 0 then (B_X4_start_32 G F l0 l0 (64 : Int32) M13)
  else (B_X4_start_32 G F l0 l0 (128 : Int32) M13))
def B_X4_mixWide_234 (G : mG) (F : Nat) : Nat → Nat → Nat → Int64 → Int64 → Int64 → Int64 → Int64 → Int64 → Int64 → Int64 → Int32 → mM → Option mM
  | 0, _, _, _, _, _, _, _, _, _, _, _, _ => none
  | n + 1, l0, l1, l2, l4, l6, l8, l10, l12, l14, l16, l18, M =>
  if (80 : Int32) ≤ l18 then (bO (gfR M l0 4 7) fun v407 =>
  bO (aL G M v407 (0 : Int32)) fun v412 =>
  bO (sL M v407 (0 : Int32) (v412 + l2)) fun M415 =>
  bO (gfR M415 l0 4 7) fun v417 =>
  bO (aL G M415 v417 (1 : Int32)) fun v422 =>
  bO (sL M415 v417 (1 : Int32) (v422 + l4)) fun M426 =>
  bO (gfR M426 l0 4 7) fun v428 =>
  bO (aL G M426 v428 (2 : Int32)) fun v433 =>
  bO (sL M426 v428 (2 : Int32) (v433 + l6)) fun M437 =>
  bO (gfR M437 l0 4 7) fun v439 =>
  bO (aL G M437 v439 (3 : Int32)) fun v444 =>
  bO (sL M437 v439 (3 : Int32) (v444 + l8)) fun M448 =>
  bO (gfR M448 l0 4 7) fun v450 =>
  bO (aL G M448 v450 (4 : Int32)) fun v455 =>
  bO (sL M448 v450 (4 : Int32) (v455 + l10)) fun M459 =>
  bO (gfR M459 l0 4 7) fun v461 =>
  bO (aL G M459 v461 (5 : Int32)) fun v466 =>
  bO (sL M459 v461 (5 : Int32) (v466 + l12)) fun M470 =>
  bO (gfR M470 l0 4 7) fun v472 =>
  bO (aL G M470 v472 (6 : Int32)) fun v478 =>
  bO (sL M470 v472 (6 : Int32) (v478 + l14)) fun M482 =>
  bO (gfR M482 l0 4 7) fun v484 =>
  bO (aL G M482 v484 (7 : Int32)) fun v490 =>
  bO (sL M482 v484 (7 : Int32) (v490 + l16)) fun M494 =>
  some M494)
  else (bO (aL G M (G.1 1003) l18) fun v304 =>
  bO (aL G M l1 l18) fun v309 =>
  B_X4_mixWide_234 G F n l0 l1 (((((l16 + ((((ushL l10 (14 : Int32)) ||| (shlL l10 (50 : Int32))) ^^^ ((ushL l10 (18 : Int32)) ||| (shlL l10 (46 : Int32)))) ^^^ ((ushL l10 (41 : Int32)) ||| (shlL l10 (23 : Int32))))) + ((l10 &&& l12) ^^^ ((l10 ^^^ (-1 : Int64)) &&& l14))) + v304) + v309) + (((((ushL l2 (28 : Int32)) ||| (shlL l2 (36 : Int32))) ^^^ ((ushL l2 (34 : Int32)) ||| (shlL l2 (30 : Int32)))) ^^^ ((ushL l2 (39 : Int32)) ||| (shlL l2 (25 : Int32)))) + (((l2 &&& l4) ^^^ (l2 &&& l6)) ^^^ (l4 &&& l6)))) l2 l4 l6 (l8 + ((((l16 + ((((ushL l10 (14 : Int32)) ||| (shlL l10 (50 : Int32))) ^^^ ((ushL l10 (18 : Int32)) ||| (shlL l10 (46 : Int32)))) ^^^ ((ushL l10 (41 : Int32)) ||| (shlL l10 (23 : Int32))))) + ((l10 &&& l12) ^^^ ((l10 ^^^ (-1 : Int64)) &&& l14))) + v304) + v309)) l10 l12 l14 (l18 + 1) M)
def B_X4_mixWide_63 (G : mG) (F : Nat) : Nat → Nat → Nat → Int32 → mM → Option mM
  | 0, _, _, _, _ => none
  | n + 1, l0, l1, l2, M =>
  if (80 : Int32) ≤ l2 then (bO (gfR M l0 4 7) fun v167 =>
  bO (aL G M v167 (0 : Int32)) fun v171 =>
  bO (gfR M l0 4 7) fun v174 =>
  bO (aL G M v174 (1 : Int32)) fun v178 =>
  bO (gfR M l0 4 7) fun v182 =>
  bO (aL G M v182 (2 : Int32)) fun v186 =>
  bO (gfR M l0 4 7) fun v190 =>
  bO (aL G M v190 (3 : Int32)) fun v194 =>
  bO (gfR M l0 4 7) fun v198 =>
  bO (aL G M v198 (4 : Int32)) fun v202 =>
  bO (gfR M l0 4 7) fun v206 =>
  bO (aL G M v206 (5 : Int32)) fun v210 =>
  bO (gfR M l0 4 7) fun v214 =>
  bO (aL G M v214 (6 : Int32)) fun v219 =>
  bO (gfR M l0 4 7) fun v223 =>
  bO (aL G M v223 (7 : Int32)) fun v228 =>
  B_X4_mixWide_234 G F F l0 l1 v171 v178 v186 v194 v202 v210 v219 v228 (0 : Int32) M)
  else (bO (aL G M l1 (l2 - (15 : Int32))) fun v74 =>
  bO (aL G M l1 (l2 - (2 : Int32))) fun v80 =>
  bO (aL G M l1 (l2 - (16 : Int32))) fun v145 =>
  bO (aL G M l1 (l2 - (7 : Int32))) fun v154 =>
  bO (sL M l1 l2 (((v145 + ((((ushL v74 (1 : Int32)) ||| (shlL v74 (63 : Int32))) ^^^ ((ushL v74 (8 : Int32)) ||| (shlL v74 (56 : Int32)))) ^^^ (ushL v74 (7 : Int32)))) + v154) + ((((ushL v80 (19 : Int32)) ||| (shlL v80 (45 : Int32))) ^^^ ((ushL v80 (61 : Int32)) ||| (shlL v80 (3 : Int32)))) ^^^ (ushL v80 (6 : Int32))))) fun M159 =>
  B_X4_mixWide_63 G F n l0 l1 (l2 + 1) M159)
def B_X4_mixWide_18 (G : mG) (F : Nat) (r7 : Nat → Nat → Int32 → mM → Option mM) : Nat → Nat → Nat → Int32 → Int64 → Int32 → mM → Option mM
  | 0, _, _, _, _, _, _ => none
  | n + 1, l0, l1, l2, l3, l5, M =>
  if (8 : Int32) ≤ l5 then (bO (sL M l1 l2 l3) fun M53 =>
  r7 l0 l1 (l2 + 1) M53)
  else (bO (gfR M l0 4 2) fun v30 =>
  bO (aI G M 0 v30 (((8 : Int32) * l2) + l5)) fun v40 =>
  B_X4_mixWide_18 G F r7 n l0 l1 l2 ((shlL l3 (8 : Int32)) ||| (v40.toInt64)) (l5 + 1) M)
def B_X4_mixWide_7 (G : mG) (F : Nat) : Nat → Nat → Nat → Int32 → mM → Option mM
  | 0, _, _, _, _ => none
  | n + 1, l0, l1, l2, M =>
  if (16 : Int32) ≤ l2 then (B_X4_mixWide_63 G F F l0 l1 (16 : Int32) M)
  else (B_X4_mixWide_18 G F (B_X4_mixWide_7 G F n) F l0 l1 l2 (0 : Int64) (0 : Int32) M)
def P_X4_mixWide (G : mG) (F : Nat) (l0 : Nat) (M : mM) : Option mM :=
  bO (gfR M l0 4 8) fun v1 =>
  B_X4_mixWide_7 G F F l0 v1 (0 : Int32) M
def B_X4_mix_246 (G : mG) (F : Nat) : Nat → Nat → Nat → Int32 → Int32 → Int32 → Int32 → Int32 → Int32 → Int32 → Int32 → Int32 → mM → Option mM
  | 0, _, _, _, _, _, _, _, _, _, _, _, _ => none
  | n + 1, l0, l1, l2, l3, l4, l5, l6, l7, l8, l9, l10, M =>
  if (64 : Int32) ≤ l10 then (bO (gfR M l0 4 5) fun v412 =>
  bO (aI G M 0 v412 (0 : Int32)) fun v417 =>
  bO (sI M 0 v412 (0 : Int32) (v417 + l2)) fun M420 =>
  bO (gfR M420 l0 4 5) fun v422 =>
  bO (aI G M420 0 v422 (1 : Int32)) fun v427 =>
  bO (sI M420 0 v422 (1 : Int32) (v427 + l3)) fun M430 =>
  bO (gfR M430 l0 4 5) fun v432 =>
  bO (aI G M430 0 v432 (2 : Int32)) fun v437 =>
  bO (sI M430 0 v432 (2 : Int32) (v437 + l4)) fun M441 =>
  bO (gfR M441 l0 4 5) fun v443 =>
  bO (aI G M441 0 v443 (3 : Int32)) fun v448 =>
  bO (sI M441 0 v443 (3 : Int32) (v448 + l5)) fun M452 =>
  bO (gfR M452 l0 4 5) fun v454 =>
  bO (aI G M452 0 v454 (4 : Int32)) fun v459 =>
  bO (sI M452 0 v454 (4 : Int32) (v459 + l6)) fun M463 =>
  bO (gfR M463 l0 4 5) fun v465 =>
  bO (aI G M463 0 v465 (5 : Int32)) fun v470 =>
  bO (sI M463 0 v465 (5 : Int32) (v470 + l7)) fun M474 =>
  bO (gfR M474 l0 4 5) fun v476 =>
  bO (aI G M474 0 v476 (6 : Int32)) fun v482 =>
  bO (sI M474 0 v476 (6 : Int32) (v482 + l8)) fun M486 =>
  bO (gfR M486 l0 4 5) fun v488 =>
  bO (aI G M486 0 v488 (7 : Int32)) fun v494 =>
  bO (sI M486 0 v488 (7 : Int32) (v494 + l9)) fun M498 =>
  some M498)
  else (bO (aI G M 0 (G.1 1004) l10) fun v314 =>
  bO (aI G M 0 l1 l10) fun v319 =>
  B_X4_mix_246 G F n l0 l1 (((((l9 + ((((ushI l6 (6 : Int32)) ||| (l6 <<< ((26 : Int32) &&& 31))) ^^^ ((ushI l6 (11 : Int32)) ||| (l6 <<< ((21 : Int32) &&& 31)))) ^^^ ((ushI l6 (25 : Int32)) ||| (l6 <<< ((7 : Int32) &&& 31))))) + ((l6 &&& l7) ^^^ ((l6 ^^^ (-1 : Int32)) &&& l8))) + v314) + v319) + (((((ushI l2 (2 : Int32)) ||| (l2 <<< ((30 : Int32) &&& 31))) ^^^ ((ushI l2 (13 : Int32)) ||| (l2 <<< ((19 : Int32) &&& 31)))) ^^^ ((ushI l2 (22 : Int32)) ||| (l2 <<< ((10 : Int32) &&& 31)))) + (((l2 &&& l3) ^^^ (l2 &&& l4)) ^^^ (l3 &&& l4)))) l2 l3 l4 (l5 + ((((l9 + ((((ushI l6 (6 : Int32)) ||| (l6 <<< ((26 : Int32) &&& 31))) ^^^ ((ushI l6 (11 : Int32)) ||| (l6 <<< ((21 : Int32) &&& 31)))) ^^^ ((ushI l6 (25 : Int32)) ||| (l6 <<< ((7 : Int32) &&& 31))))) + ((l6 &&& l7) ^^^ ((l6 ^^^ (-1 : Int32)) &&& l8))) + v314) + v319)) l6 l7 l8 (l10 + 1) M)
def B_X4_mix_75 (G : mG) (F : Nat) : Nat → Nat → Nat → Int32 → mM → Option mM
  | 0, _, _, _, _ => none
  | n + 1, l0, l1, l2, M =>
  if (64 : Int32) ≤ l2 then (bO (gfR M l0 4 5) fun v180 =>
  bO (aI G M 0 v180 (0 : Int32)) fun v184 =>
  bO (gfR M l0 4 5) fun v187 =>
  bO (aI G M 0 v187 (1 : Int32)) fun v191 =>
  bO (gfR M l0 4 5) fun v194 =>
  bO (aI G M 0 v194 (2 : Int32)) fun v198 =>
  bO (gfR M l0 4 5) fun v202 =>
  bO (aI G M 0 v202 (3 : Int32)) fun v206 =>
  bO (gfR M l0 4 5) fun v210 =>
  bO (aI G M 0 v210 (4 : Int32)) fun v214 =>
  bO (gfR M l0 4 5) fun v218 =>
  bO (aI G M 0 v218 (5 : Int32)) fun v222 =>
  bO (gfR M l0 4 5) fun v226 =>
  bO (aI G M 0 v226 (6 : Int32)) fun v231 =>
  bO (gfR M l0 4 5) fun v235 =>
  bO (aI G M 0 v235 (7 : Int32)) fun v240 =>
  B_X4_mix_246 G F F l0 l1 v184 v191 v198 v206 v214 v222 v231 v240 (0 : Int32) M)
  else (bO (aI G M 0 l1 (l2 - (15 : Int32))) fun v86 =>
  bO (aI G M 0 l1 (l2 - (2 : Int32))) fun v92 =>
  bO (aI G M 0 l1 (l2 - (16 : Int32))) fun v158 =>
  bO (aI G M 0 l1 (l2 - (7 : Int32))) fun v167 =>
  bO (sI M 0 l1 l2 (((v158 + ((((ushI v86 (7 : Int32)) ||| (v86 <<< ((25 : Int32) &&& 31))) ^^^ ((ushI v86 (18 : Int32)) ||| (v86 <<< ((14 : Int32) &&& 31)))) ^^^ (ushI v86 (3 : Int32)))) + v167) + ((((ushI v92 (17 : Int32)) ||| (v92 <<< ((15 : Int32) &&& 31))) ^^^ ((ushI v92 (19 : Int32)) ||| (v92 <<< ((13 : Int32) &&& 31)))) ^^^ (ushI v92 (10 : Int32))))) fun M172 =>
  B_X4_mix_75 G F n l0 l1 (l2 + 1) M172)
def B_X4_mix_7 (G : mG) (F : Nat) : Nat → Nat → Nat → Int32 → mM → Option mM
  | 0, _, _, _, _ => none
  | n + 1, l0, l1, l2, M =>
  if (16 : Int32) ≤ l2 then (B_X4_mix_75 G F F l0 l1 (16 : Int32) M)
  else (bO (gfR M l0 4 2) fun v16 =>
  bO (aI G M 0 v16 ((4 : Int32) * l2)) fun v22 =>
  bO (gfR M l0 4 2) fun v27 =>
  bO (aI G M 0 v27 (((4 : Int32) * l2) + (1 : Int32))) fun v35 =>
  bO (gfR M l0 4 2) fun v41 =>
  bO (aI G M 0 v41 (((4 : Int32) * l2) + (2 : Int32))) fun v49 =>
  bO (gfR M l0 4 2) fun v55 =>
  bO (aI G M 0 v55 (((4 : Int32) * l2) + (3 : Int32))) fun v63 =>
  bO (sI M 0 l1 l2 ((((v22 <<< ((24 : Int32) &&& 31)) ||| (v35 <<< ((16 : Int32) &&& 31))) ||| (v49 <<< ((8 : Int32) &&& 31))) ||| v63)) fun M65 =>
  B_X4_mix_7 G F n l0 l1 (l2 + 1) M65)
def P_X4_mix (G : mG) (F : Nat) (l0 : Nat) (M : mM) : Option mM :=
  bO (gfR M l0 4 6) fun v1 =>
  B_X4_mix_7 G F F l0 v1 (0 : Int32) M
def P_X4_addByte (G : mG) (F : Nat) (l0 : Nat) (l1 : Int32) (M : mM) : Option mM :=
  bO (gfR M l0 4 2) fun v1 =>
  bO (gfI M l0 4 3) fun v5 =>
  bO (sI M 0 v1 v5 l1) fun M9 =>
  bO (gfI M9 l0 4 3) fun v12 =>
  bO (pfv M9 l0 4 3 (.int (v12 + (1 : Int32)))) fun M17 =>
  bO (gfI M17 l0 4 4) fun v22 =>
  bO (pfv M17 l0 4 4 (.int (v22 + (1 : Int32)))) fun M27 =>
  bO (gfI M27 l0 4 3) fun v31 =>
  bO (gfI M27 l0 4 1) fun v35 =>
  if v31 < v35 then (some M27)
  else (bO (pfv M27 l0 4 3 (.int (0 : Int32))) fun M43 =>
  bO (gfI M43 l0 4 0) fun v47 =>
  if v47 = 0 then (bO (rcv M43 l0 4) fun _ =>
  bO (P_X4_mix G F l0 M43) fun M61 =>
  some M61)
  else (bO (rcv M43 l0 4) fun _ =>
  bO (P_X4_mixWide G F l0 M43) fun M54 =>
  some M54))
def B_X4_add_3 (G : mG) (F : Nat) : Nat → Nat → Nat → Int32 → Int32 → mM → Option mM
  | 0, _, _, _, _, _ => none
  | n + 1, l0, l1, l3, l4, M =>
  if l3 ≤ l4 then (some M)
  else (bO (rcv M l1 0) fun _ =>
  bP (P_X0_get G F l1 l4 M) fun v13 M13 =>
  bO (rcv M13 l0 4) fun _ =>
  bO (P_X4_addByte G F l0 v13 M13) fun M16 =>
  B_X4_add_3 G F n l0 l1 l3 (l4 + 1) M16)
def P_X4_add (G : mG) (F : Nat) (l0 : Nat) (l1 : Nat) (l2 : Int32) (l3 : Int32) (M : mM) : Option mM :=
  B_X4_add_3 G F F l0 l1 l3 l2 M
def B_X4_finish_109 (G : mG) (F : Nat) : Nat → Nat → Nat → Int32 → mM → Option mM
  | 0, _, _, _, _ => none
  | n + 1, l0, l1, l4, M =>
  if (8 : Int32) ≤ l4 then (some M)
  else (bO (gfI M l0 4 0) fun v117 =>
  if v117 = 0 then (bO (gfR M l0 4 5) fun v155 =>
  bO (aI G M 0 v155 l4) fun v160 =>
  bO (rcv M l1 0) fun _ =>
  bO (P_X0_putWord G F l1 v160 M) fun M161 =>
  B_X4_finish_109 G F n l0 l1 (l4 + 1) M161)
  else (bO (gfR M l0 4 7) fun v125 =>
  bO (aL G M v125 l4) fun v130 =>
  bO (rcv M l1 0) fun _ =>
  bO (P_X0_putWord G F l1 ((ushL v130 (32 : Int32)).toInt32) M) fun M135 =>
  bO (gfR M135 l0 4 7) fun v140 =>
  bO (aL G M135 v140 l4) fun v145 =>
  bO (rcv M135 l1 0) fun _ =>
  bO (P_X0_putWord G F l1 (v145.toInt32) M135) fun M147 =>
  B_X4_finish_109 G F n l0 l1 (l4 + 1) M147))
def B_X4_finish_70 (G : mG) (F : Nat) : Nat → Nat → Nat → Int32 → Int32 → mM → Option mM
  | 0, _, _, _, _, _ => none
  | n + 1, l0, l1, l2, l4, M =>
  if l4 < 0 then (B_X4_finish_109 G F F l0 l1 (0 : Int32) M)
  else (if (4 : Int32) ≤ l4 then (bO (rcv M l0 4) fun _ =>
  bO (P_X4_addByte G F l0 (0 : Int32) M) fun M97 =>
  B_X4_finish_70 G F n l0 l1 l2 (l4 + (-1)) M97)
  else (bO (rcv M l0 4) fun _ =>
  bO (P_X4_addByte G F l0 ((ushI l2 ((8 : Int32) * l4)) &&& (255 : Int32)) M) fun M97 =>
  B_X4_finish_70 G F n l0 l1 l2 (l4 + (-1)) M97))
def B_X4_finish_33 (G : mG) (F : Nat) : Nat → Nat → Nat → Int32 → Int32 → Int32 → mM → Option mM
  | 0, _, _, _, _, _, _ => none
  | n + 1, l0, l1, l2, l3, l4, M =>
  if (128 : Int32) ≤ l4 then (B_X4_finish_70 G F F l0 l1 l2 (l3 - (1 : Int32)) M)
  else (bO (gfI M l0 4 3) fun v42 =>
  bO (gfI M l0 4 1) fun v46 =>
  if v42 = (v46 - l3) then (B_X4_finish_70 G F F l0 l1 l2 (l3 - (1 : Int32)) M)
  else (bO (rcv M l0 4) fun _ =>
  bO (P_X4_addByte G F l0 (0 : Int32) M) fun M56 =>
  B_X4_finish_33 G F n l0 l1 l2 l3 (l4 + 1) M56))
def P_X4_finish (G : mG) (F : Nat) (l0 : Nat) (l1 : Nat) (M : mM) : Option mM :=
  bO (gfI M l0 4 4) fun v3 =>
  bO (gfI M l0 4 0) fun v9 =>
  if v9 = 0 then (bO (rcv M l0 4) fun _ =>
  bO (P_X4_addByte G F l0 (128 : Int32) M) fun M27 =>
  B_X4_finish_33 G F F l0 l1 ((8 : Int32) * v3) (8 : Int32) (0 : Int32) M27)
  else (bO (rcv M l0 4) fun _ =>
  bO (P_X4_addByte G F l0 (128 : Int32) M) fun M27 =>
  B_X4_finish_33 G F F l0 l1 ((8 : Int32) * v3) (16 : Int32) (0 : Int32) M27)
def B_X4_addKeyBlock_2 (G : mG) (F : Nat) : Nat → Nat → Int32 → Int32 → mM → Option mM
  | 0, _, _, _, _ => none
  | n + 1, l0, l1, l2, M =>
  bO (gfI M l0 4 1) fun v4 =>
  if v4 ≤ l2 then (some M)
  else (bO (gfR M l0 4 9) fun v12 =>
  bO (aI G M 0 v12 l2) fun v16 =>
  bO (rcv M l0 4) fun _ =>
  bO (P_X4_addByte G F l0 (v16 ^^^ l1) M) fun M19 =>
  B_X4_addKeyBlock_2 G F n l0 l1 (l2 + 1) M19)
def P_X4_addKeyBlock (G : mG) (F : Nat) (l0 : Nat) (l1 : Int32) (M : mM) : Option mM :=
  B_X4_addKeyBlock_2 G F F l0 l1 (0 : Int32) M
def B_X4_startCode_59 (G : mG) (F : Nat) : Nat → Nat → Nat → Int32 → Int32 → Int32 → Int32 → mM → Option mM
  | 0, _, _, _, _, _, _, _ => none
  | n + 1, l0, l2, l3, l4, l5, l6, M =>
  if (128 : Int32) ≤ l6 then (bO (rcv M l0 4) fun _ =>
  bO (P_X4_addKeyBlock G F l0 (54 : Int32) M) fun M121 =>
  some M121)
  else (bO (gfR M l0 4 9) fun v68 =>
  if l5 = 0 then (if l4 ≤ (l3 + l6) then (bO (sI M 0 v68 l6 (0 : Int32)) fun M111 =>
  B_X4_startCode_59 G F n l0 l2 l3 l4 l5 (l6 + 1) M111)
  else (bO (rcv M l2 0) fun _ =>
  bP (P_X0_get G F l2 (l3 + l6) M) fun v104 M104 =>
  bO (sI M104 0 v68 l6 v104) fun M111 =>
  B_X4_startCode_59 G F n l0 l2 l3 l4 l5 (l6 + 1) M111))
  else (bO (gfR M l0 4 10) fun v79 =>
  bO (rcv M v79 0) fun _ =>
  bP (P_X0_get G F v79 l6 M) fun v84 M84 =>
  bO (sI M84 0 v68 l6 v84) fun M111 =>
  B_X4_startCode_59 G F n l0 l2 l3 l4 l5 (l6 + 1) M111))
def B_X4_startCode_28 (G : mG) (F : Nat) (l0 : Nat) (l1 : Int32) (l2 : Nat) (l3 : Int32) (l4 : Int32) (sk0 : Int32) (M : mM) : Option mM :=
  if sk0 = 0 then (B_X4_startCode_59 G F F l0 l2 l3 l4 sk0 (0 : Int32) M)
  else (bO (rcv M l0 4) fun _ =>
  bO (P_X4_add G F l0 l2 l3 l4 M) fun M40 =>
  bO (gfR M40 l0 4 10) fun v45 =>
  bO (rcv M40 l0 4) fun _ =>
  bO (P_X4_finish G F l0 v45 M40) fun M48 =>
  bO (rcv M48 l0 4) fun _ =>
  bO (P_X4_start G F l0 l1 M48) fun M53 =>
  B_X4_startCode_59 G F F l0 l2 l3 l4 sk0 (0 : Int32) M53)
def P_X4_startCode (G : mG) (F : Nat) (l0 : Nat) (l1 : Int32) (l2 : Nat) (l3 : Int32) (l4 : Int32) (M : mM) : Option mM :=
  bO (rcv M l0 4) fun _ =>
  bO (P_X4_start G F l0 l1 M) fun M2 =>
  bO (gfR M2 l0 4 10) fun v6 =>
  bO (rcv M2 v6 0) fun _ =>
  bO (P_X0_clear G F v6 M2) fun M9 =>
  bO (gfI M9 l0 4 1) fun v17 =>
  if (l4 - l3) ≤ v17 then (B_X4_startCode_28 G F l0 l1 l2 l3 l4 (0 : Int32) M9)
  else (B_X4_startCode_28 G F l0 l1 l2 l3 l4 (1 : Int32) M9)
def P_X4_addWord (G : mG) (F : Nat) (l0 : Nat) (l1 : Int32) (M : mM) : Option mM :=
  bO (rcv M l0 4) fun _ =>
  bO (P_X4_addByte G F l0 (ushI l1 (24 : Int32)) M) fun M5 =>
  bO (rcv M5 l0 4) fun _ =>
  bO (P_X4_addByte G F l0 ((ushI l1 (16 : Int32)) &&& (255 : Int32)) M5) fun M17 =>
  bO (rcv M17 l0 4) fun _ =>
  bO (P_X4_addByte G F l0 ((ushI l1 (8 : Int32)) &&& (255 : Int32)) M17) fun M29 =>
  bO (rcv M29 l0 4) fun _ =>
  bO (P_X4_addByte G F l0 (l1 &&& (255 : Int32)) M29) fun M38 =>
  some M38
def B_X4_finishCode_32 (G : mG) (F : Nat) (l0 : Nat) (l1 : Nat) (sk0 : Nat) (sk1 : Int32) (M : mM) : Option mM :=
  bO (rcv M sk0 4) fun _ =>
  bO (P_X4_start G F sk0 sk1 M) fun M32 =>
  bO (rcv M32 l0 4) fun _ =>
  bO (P_X4_addKeyBlock G F l0 (92 : Int32) M32) fun M38 =>
  bO (gfR M38 l0 4 10) fun v43 =>
  bO (gfR M38 l0 4 10) fun v48 =>
  bO (gfI M38 v48 0 1) fun v51 =>
  bO (rcv M38 l0 4) fun _ =>
  bO (P_X4_add G F l0 v43 (0 : Int32) v51 M38) fun M54 =>
  bO (rcv M54 l0 4) fun _ =>
  bO (P_X4_finish G F l0 l1 M54) fun M59 =>
  some M59
def P_X4_finishCode (G : mG) (F : Nat) (l0 : Nat) (l1 : Nat) (M : mM) : Option mM :=
  bO (gfR M l0 4 10) fun v1 =>
  bO (rcv M v1 0) fun _ =>
  bO (P_X0_clear G F v1 M) fun M4 =>
  bO (gfR M4 l0 4 10) fun v9 =>
  bO (rcv M4 l0 4) fun _ =>
  bO (P_X4_finish G F l0 v9 M4) fun M12 =>
  bO (gfI M12 l0 4 0) fun v17 =>
  if v17 = 0 then (B_X4_finishCode_32 G F l0 l1 l0 (256 : Int32) M12)
  else (B_X4_finishCode_32 G F l0 l1 l0 (512 : Int32) M12)
def B_X2_markByCode_17 (G : mG) (F : Nat) (l0 : Nat) (l1 : Int32) (l2 : Nat) (l3 : Nat) (l4 : Nat) (l5 : Nat) (l6 : Int32) (sk0 : Nat) (sk1 : Int32) (M : mM) : Option mM :=
  bO (gfI M l2 0 1) fun v20 =>
  bO (rcv M sk0 4) fun _ =>
  bO (P_X4_startCode G F sk0 sk1 l2 (0 : Int32) (v20 / (2 : Int32)) M) fun M25 =>
  bO (gfR M25 l0 2 0) fun v29 =>
  bO (gfI M25 l4 0 1) fun v37 =>
  bO (rcv M25 v29 4) fun _ =>
  bO (P_X4_add G F v29 l4 (0 : Int32) v37 M25) fun M40 =>
  bO (gfR M40 l0 2 0) fun v44 =>
  bO (gfI M40 l3 0 1) fun v50 =>
  bO (rcv M40 v44 4) fun _ =>
  bO (P_X4_add G F v44 l3 (0 : Int32) v50 M40) fun M53 =>
  bO (gfR M53 l0 2 0) fun v57 =>
  bO (rcv M53 v57 4) fun _ =>
  bO (P_X4_add G F v57 l5 (0 : Int32) l6 M53) fun M65 =>
  bO (gfR M65 l0 2 0) fun v69 =>
  bO (rcv M65 v69 4) fun _ =>
  bO (P_X4_addWord G F v69 (0 : Int32) M65) fun M73 =>
  bO (gfR M73 l0 2 0) fun v77 =>
  bO (gfI M73 l4 0 1) fun v82 =>
  bO (rcv M73 v77 4) fun _ =>
  bO (P_X4_addWord G F v77 (v82 * (8 : Int32)) M73) fun M88 =>
  bO (gfR M88 l0 2 4) fun v92 =>
  bO (rcv M88 v92 0) fun _ =>
  bO (P_X0_clear G F v92 M88) fun M95 =>
  bO (gfR M95 l0 2 0) fun v99 =>
  bO (gfR M95 l0 2 4) fun v103 =>
  bO (rcv M95 v99 4) fun _ =>
  bO (P_X4_finishCode G F v99 v103 M95) fun M106 =>
  bO (gfR M106 l0 2 4) fun v110 =>
  bO (aI G M106 0 (G.1 1007) l1) fun v117 =>
  bO (rcv M106 v110 0) fun _ =>
  bO (P_X0_cutTo G F v110 v117 M106) fun M118 =>
  some M118
def P_X2_markByCode (G : mG) (F : Nat) (l0 : Nat) (l1 : Int32) (l2 : Nat) (l3 : Nat) (l4 : Nat) (l5 : Nat) (l6 : Int32) (M : mM) : Option mM :=
  bO (gfR M l0 2 0) fun v1 =>
  if l1 = 0 then (B_X2_markByCode_17 G F l0 l1 l2 l3 l4 l5 l6 v1 (256 : Int32) M)
  else (B_X2_markByCode_17 G F l0 l1 l2 l3 l4 l5 l6 v1 (512 : Int32) M)
def B_X2_startCounter_2 (G : mG) (F : Nat) : Nat → Nat → Nat → Int32 → Int32 → mM → Option mM
  | 0, _, _, _, _, _ => none
  | n + 1, l0, l1, l2, l3, M =>
  if (12 : Int32) ≤ l3 then (bO (gfR M l0 2 2) fun v26 =>
  bO (sI M 0 v26 (12 : Int32) (ushI l2 (24 : Int32))) fun M35 =>
  bO (gfR M35 l0 2 2) fun v37 =>
  bO (sI M35 0 v37 (13 : Int32) ((ushI l2 (16 : Int32)) &&& (255 : Int32))) fun M50 =>
  bO (gfR M50 l0 2 2) fun v52 =>
  bO (sI M50 0 v52 (14 : Int32) ((ushI l2 (8 : Int32)) &&& (255 : Int32))) fun M65 =>
  bO (gfR M65 l0 2 2) fun v67 =>
  bO (sI M65 0 v67 (15 : Int32) (l2 &&& (255 : Int32))) fun M77 =>
  some M77)
  else (bO (gfR M l0 2 2) fun v9 =>
  bO (rcv M l1 0) fun _ =>
  bP (P_X0_get G F l1 l3 M) fun v15 M15 =>
  bO (sI M15 0 v9 l3 v15) fun M18 =>
  B_X2_startCounter_2 G F n l0 l1 l2 (l3 + 1) M18)
def P_X2_startCounter (G : mG) (F : Nat) (l0 : Nat) (l1 : Nat) (l2 : Int32) (M : mM) : Option mM :=
  B_X2_startCounter_2 G F F l0 l1 l2 (0 : Int32) M
def B_X2_putCounted_49 (G : mG) (F : Nat) (r16 : Nat → Nat → Nat → Int32 → Nat → Int32 → mM → Option mM) : Nat → Nat → Nat → Nat → Int32 → Nat → Int32 → Int32 → mM → Option mM
  | 0, _, _, _, _, _, _, _, _ => none
  | n + 1, l0, l2, l3, l4, l5, l6, l7, M =>
  if (16 : Int32) ≤ l7 then (r16 l0 l2 l3 l4 l5 (l6 + 16) M)
  else (if l4 ≤ (l6 + l7) then (r16 l0 l2 l3 l4 l5 (l6 + 16) M)
  else (bO (gfR M l0 2 2) fun v69 =>
  bO (aI G M 0 v69 l7) fun v74 =>
  bO (rcv M l3 0) fun _ =>
  bP (P_X0_get G F l3 (l6 + l7) M) fun v81 M81 =>
  bO (rcv M81 l5 0) fun _ =>
  bO (P_X0_put G F l5 (v74 ^^^ v81) M81) fun M85 =>
  B_X2_putCounted_49 G F r16 n l0 l2 l3 l4 l5 l6 (l7 + 1) M85))
def B_X2_putCounted_16 (G : mG) (F : Nat) : Nat → Nat → Nat → Nat → Int32 → Nat → Int32 → mM → Option mM
  | 0, _, _, _, _, _, _, _ => none
  | n + 1, l0, l2, l3, l4, l5, l6, M =>
  if l4 ≤ l6 then (some M)
  else (bO (rcv M l0 2) fun _ =>
  bO (P_X2_startCounter G F l0 l2 ((l6 / (16 : Int32)) + (2 : Int32)) M) fun M32 =>
  bO (gfR M32 l0 2 1) fun v36 =>
  bO (gfR M32 l0 2 2) fun v40 =>
  bO (rcv M32 v36 1) fun _ =>
  bO (P_X1_forward G F v36 v40 M32) fun M43 =>
  B_X2_putCounted_49 G F (B_X2_putCounted_16 G F n) F l0 l2 l3 l4 l5 l6 (0 : Int32) M43)
def P_X2_putCounted (G : mG) (F : Nat) (l0 : Nat) (l1 : Nat) (l2 : Nat) (l3 : Nat) (l4 : Int32) (l5 : Nat) (M : mM) : Option mM :=
  bO (gfR M l0 2 1) fun v1 =>
  bO (gfI M l1 0 1) fun v7 =>
  bO (rcv M v1 1) fun _ =>
  bO (P_X1_become G F v1 l1 (0 : Int32) v7 M) fun M10 =>
  B_X2_putCounted_16 G F F l0 l2 l3 l4 l5 (0 : Int32) M10
def B_X2_half_5 (G : mG) (F : Nat) : Nat → Nat → Int32 → Int64 → Int32 → mM → Option (Int64 × mM)
  | 0, _, _, _, _, _ => none
  | n + 1, l0, l1, l2, l4, M =>
  if (l1 + (8 : Int32)) ≤ l4 then (some (l2, M))
  else (if (16 : Int32) ≤ l4 then (some (l2, M))
  else (bO (gfR M l0 2 2) fun v26 =>
  bO (aI G M 0 v26 l4) fun v31 =>
  B_X2_half_5 G F n l0 l1 ((shlL l2 (8 : Int32)) ||| (v31.toInt64)) (l4 + 1) M))
def P_X2_half (G : mG) (F : Nat) (l0 : Nat) (l1 : Int32) (M : mM) : Option (Int64 × mM) :=
  B_X2_half_5 G F F l0 l1 (0 : Int64) l1 M
def B_X2_timesFactor_110 (G : mG) (F : Nat) (r41 : Nat → Int64 → Int64 → Int64 → Int64 → Int32 → mM → Option mM) (l0 : Nat) (l5 : Int64) (l7 : Int64) (l9 : Int64) (l11 : Int64) (l13 : Int32) (sk0 : Int32) (M : mM) : Option mM :=
  if sk0 = 0 then (r41 l0 l5 l7 ((ushL l9 (1 : Int32)) ^^^ (0 : Int64)) ((ushL l11 (1 : Int32)) ||| (shlL l9 (63 : Int32))) (l13 + 1) M)
  else (r41 l0 l5 l7 ((ushL l9 (1 : Int32)) ^^^ (-2233785415175766016 : Int64)) ((ushL l11 (1 : Int32)) ||| (shlL l9 (63 : Int32))) (l13 + 1) M)
def B_X2_timesFactor_78 (G : mG) (F : Nat) (r41 : Nat → Int64 → Int64 → Int64 → Int64 → Int32 → mM → Option mM) (l0 : Nat) (l5 : Int64) (l7 : Int64) (l9 : Int64) (l11 : Int64) (l13 : Int32) (M : mM) : Option mM :=
  if (lg_cmp (l11 &&& (1 : Int64)) (0 : Int64)) = 0 then (B_X2_timesFactor_110 G F r41 l0 ((shlL l5 (1 : Int32)) ||| (ushL l7 (63 : Int32))) (shlL l7 (1 : Int32)) l9 l11 l13 (0 : Int32) M)
  else (B_X2_timesFactor_110 G F r41 l0 ((shlL l5 (1 : Int32)) ||| (ushL l7 (63 : Int32))) (shlL l7 (1 : Int32)) l9 l11 l13 (1 : Int32) M)
def B_X2_timesFactor_41 (G : mG) (F : Nat) : Nat → Nat → Int64 → Int64 → Int64 → Int64 → Int32 → mM → Option mM
  | 0, _, _, _, _, _, _, _ => none
  | n + 1, l0, l5, l7, l9, l11, l13, M =>
  if (128 : Int32) ≤ l13 then (some M)
  else (if 0 ≤ (lg_cmp l5 (0 : Int64)) then (B_X2_timesFactor_78 G F (B_X2_timesFactor_41 G F n) l0 l5 l7 l9 l11 l13 M)
  else (bO (gfL M l0 2 7) fun v58 =>
  bO (pfv M l0 2 7 (.long (v58 ^^^ l9))) fun M64 =>
  bO (gfL M64 l0 2 8) fun v69 =>
  bO (pfv M64 l0 2 8 (.long (v69 ^^^ l11))) fun M75 =>
  B_X2_timesFactor_78 G F (B_X2_timesFactor_41 G F n) l0 l5 l7 l9 l11 l13 M75))
def P_X2_timesFactor (G : mG) (F : Nat) (l0 : Nat) (l1 : Int64) (l3 : Int64) (M : mM) : Option mM :=
  bO (gfL M l0 2 7) fun v1 =>
  bO (gfL M l0 2 8) fun v9 =>
  bO (gfL M l0 2 5) fun v17 =>
  bO (gfL M l0 2 6) fun v23 =>
  bO (pfv M l0 2 7 (.long (0 : Int64))) fun M30 =>
  bO (pfv M30 l0 2 8 (.long (0 : Int64))) fun M35 =>
  B_X2_timesFactor_41 G F F l0 (v1 ^^^ l1) (v9 ^^^ l3) v17 v23 (0 : Int32) M35
def B_X2_addToSum_10 (G : mG) (F : Nat) (r2 : Nat → Nat → Int32 → Int32 → mM → Option mM) : Nat → Nat → Nat → Int32 → Int32 → Int32 → mM → Option mM
  | 0, _, _, _, _, _, _ => none
  | n + 1, l0, l1, l2, l3, l4, M =>
  if (16 : Int32) ≤ l4 then (bO (rcv M l0 2) fun _ =>
  bP (P_X2_half G F l0 (0 : Int32) M) fun v53 M53 =>
  bO (rcv M53 l0 2) fun _ =>
  bP (P_X2_half G F l0 (8 : Int32) M53) fun v59 M59 =>
  bO (rcv M59 l0 2) fun _ =>
  bO (P_X2_timesFactor G F l0 v53 v59 M59) fun M62 =>
  r2 l0 l1 l2 (l3 + 16) M62)
  else (bO (gfR M l0 2 2) fun v18 =>
  if l2 ≤ (l3 + l4) then (bO (sI M 0 v18 l4 (0 : Int32)) fun M43 =>
  B_X2_addToSum_10 G F r2 n l0 l1 l2 l3 (l4 + 1) M43)
  else (bO (rcv M l1 0) fun _ =>
  bP (P_X0_get G F l1 (l3 + l4) M) fun v36 M36 =>
  bO (sI M36 0 v18 l4 v36) fun M43 =>
  B_X2_addToSum_10 G F r2 n l0 l1 l2 l3 (l4 + 1) M43))
def B_X2_addToSum_2 (G : mG) (F : Nat) : Nat → Nat → Nat → Int32 → Int32 → mM → Option mM
  | 0, _, _, _, _, _ => none
  | n + 1, l0, l1, l2, l3, M =>
  if l2 ≤ l3 then (some M)
  else (B_X2_addToSum_10 G F (B_X2_addToSum_2 G F n) F l0 l1 l2 l3 (0 : Int32) M)
def P_X2_addToSum (G : mG) (F : Nat) (l0 : Nat) (l1 : Nat) (l2 : Int32) (M : mM) : Option mM :=
  B_X2_addToSum_2 G F F l0 l1 l2 (0 : Int32) M
def P_X2_putMarkHalf (G : mG) (F : Nat) (l0 : Nat) (l1 : Int64) (M : mM) : Option mM :=
  bO (gfR M l0 2 4) fun v1 =>
  bO (rcv M v1 0) fun _ =>
  bO (P_X0_putWord G F v1 ((ushL l1 (32 : Int32)).toInt32) M) fun M9 =>
  bO (gfR M9 l0 2 4) fun v13 =>
  bO (rcv M9 v13 0) fun _ =>
  bO (P_X0_putWord G F v13 (l1.toInt32) M9) fun M18 =>
  some M18
def B_X2_markByField_3 (G : mG) (F : Nat) : Nat → Nat → Nat → Nat → Nat → Int32 → Int32 → mM → Option mM
  | 0, _, _, _, _, _, _, _ => none
  | n + 1, l0, l1, l2, l3, l4, l5, M =>
  if (16 : Int32) ≤ l5 then (bO (gfR M l0 2 1) fun v25 =>
  bO (gfR M l0 2 2) fun v29 =>
  bO (rcv M v25 1) fun _ =>
  bO (P_X1_forward G F v25 v29 M) fun M32 =>
  bO (rcv M32 l0 2) fun _ =>
  bP (P_X2_half G F l0 (0 : Int32) M32) fun v38 M38 =>
  bO (pfv M38 l0 2 5 (.long v38)) fun M41 =>
  bO (rcv M41 l0 2) fun _ =>
  bP (P_X2_half G F l0 (8 : Int32) M41) fun v48 M48 =>
  bO (pfv M48 l0 2 6 (.long v48)) fun M51 =>
  bO (pfv M51 l0 2 7 (.long (0 : Int64))) fun M56 =>
  bO (pfv M56 l0 2 8 (.long (0 : Int64))) fun M61 =>
  bO (gfI M61 l2 0 1) fun v67 =>
  bO (rcv M61 l0 2) fun _ =>
  bO (P_X2_addToSum G F l0 l2 v67 M61) fun M70 =>
  bO (rcv M70 l0 2) fun _ =>
  bO (P_X2_addToSum G F l0 l3 l4 M70) fun M77 =>
  bO (gfI M77 l2 0 1) fun v82 =>
  bO (rcv M77 l0 2) fun _ =>
  bO (P_X2_timesFactor G F l0 ((v82.toInt64) * (8 : Int64)) ((l4.toInt64) * (8 : Int64)) M77) fun M97 =>
  bO (rcv M97 l0 2) fun _ =>
  bO (P_X2_startCounter G F l0 l1 (1 : Int32) M97) fun M103 =>
  bO (gfR M103 l0 2 1) fun v107 =>
  bO (gfR M103 l0 2 2) fun v111 =>
  bO (rcv M103 v107 1) fun _ =>
  bO (P_X1_forward G F v107 v111 M103) fun M114 =>
  bO (gfR M114 l0 2 4) fun v118 =>
  bO (rcv M114 v118 0) fun _ =>
  bO (P_X0_clear G F v118 M114) fun M121 =>
  bO (gfL M121 l0 2 7) fun v126 =>
  bO (rcv M121 l0 2) fun _ =>
  bP (P_X2_half G F l0 (0 : Int32) M121) fun v131 M131 =>
  bO (rcv M131 l0 2) fun _ =>
  bO (P_X2_putMarkHalf G F l0 (v126 ^^^ v131) M131) fun M135 =>
  bO (gfL M135 l0 2 8) fun v140 =>
  bO (rcv M135 l0 2) fun _ =>
  bP (P_X2_half G F l0 (8 : Int32) M135) fun v146 M146 =>
  bO (rcv M146 l0 2) fun _ =>
  bO (P_X2_putMarkHalf G F l0 (v140 ^^^ v146) M146) fun M150 =>
  some M150)
  else (bO (gfR M l0 2 2) fun v11 =>
  bO (sI M 0 v11 l5 (0 : Int32)) fun M17 =>
  B_X2_markByField_3 G F n l0 l1 l2 l3 l4 (l5 + 1) M17)
def P_X2_markByField (G : mG) (F : Nat) (l0 : Nat) (l1 : Nat) (l2 : Nat) (l3 : Nat) (l4 : Int32) (M : mM) : Option mM :=
  B_X2_markByField_3 G F F l0 l1 l2 l3 l4 (0 : Int32) M
def P_X2_lock (G : mG) (F : Nat) (l0 : Nat) (l1 : Int32) (l2 : Nat) (l3 : Nat) (l4 : Nat) (l5 : Nat) (l6 : Nat) (M : mM) : Option mM :=
  bO (rcv M l6 0) fun _ =>
  bO (P_X0_clear G F l6 M) fun M2 =>
  if (2 : Int32) ≤ l1 then (bO (gfI M2 l5 0 1) fun v46 =>
  bO (rcv M2 l0 2) fun _ =>
  bO (P_X2_putCounted G F l0 l2 l3 l5 v46 l6 M2) fun M51 =>
  bO (gfI M51 l6 0 1) fun v62 =>
  bO (rcv M51 l0 2) fun _ =>
  bO (P_X2_markByField G F l0 l3 l4 l6 v62 M51) fun M65 =>
  bO (gfR M65 l0 2 4) fun v71 =>
  bO (rcv M65 l6 0) fun _ =>
  bO (P_X0_putAll G F l6 v71 M65) fun M74 =>
  some M74)
  else (bO (rcv M2 l0 2) fun _ =>
  bO (P_X2_putChained G F l0 l2 l3 l5 l6 M2) fun M17 =>
  bO (gfI M17 l6 0 1) fun v30 =>
  bO (rcv M17 l0 2) fun _ =>
  bO (P_X2_markByCode G F l0 l1 l2 l3 l4 l6 v30 M17) fun M33 =>
  bO (gfR M33 l0 2 4) fun v71 =>
  bO (rcv M33 l6 0) fun _ =>
  bO (P_X0_putAll G F l6 v71 M33) fun M74 =>
  some M74)
def P_X2_markStands (G : mG) (F : Nat) (l0 : Nat) (l1 : Nat) (l2 : Int32) (M : mM) : Option (Int32 × mM) :=
  bO (gfR M l0 2 4) fun v1 =>
  bO (gfR M l0 2 4) fun v8 =>
  bO (gfI M v8 0 1) fun v11 =>
  bP (P_X0_compare G F v1 (0 : Int32) l1 l2 v11 M) fun v14 M14 =>
  if v14 = 0 then (retZ (1 : Int32) M14)
  else (retZ (0 : Int32) M14)
def B_X2_putUnchained_181 (G : mG) (F : Nat) : Nat → Int32 → Nat → Int32 → Int32 → mM → Option (Int32 × mM)
  | 0, _, _, _, _, _ => none
  | n + 1, l4, l5, l6, l7, M =>
  if l4 ≤ l7 then (bO (rcv M l5 0) fun _ =>
  bO (P_X0_cutTo G F l5 (l4 - l6) M) fun M215 =>
  retZ (1 : Int32) M215)
  else (bO (rcv M l5 0) fun _ =>
  bP (P_X0_get G F l5 l7 M) fun v192 M192 =>
  if v192 = l6 then (B_X2_putUnchained_181 G F n l4 l5 l6 (l7 + 1) M192)
  else (retZ (0 : Int32) M192))
def B_X2_putUnchained_109 (G : mG) (F : Nat) (r23 : Nat → Nat → Nat → Int32 → Nat → Int32 → mM → Option (Int32 × mM)) : Nat → Nat → Nat → Nat → Int32 → Nat → Int32 → Int32 → mM → Option (Int32 × mM)
  | 0, _, _, _, _, _, _, _, _ => none
  | n + 1, l0, l2, l3, l4, l5, l6, l7, M =>
  if (16 : Int32) ≤ l7 then (r23 l0 l2 l3 l4 l5 (l6 + 16) M)
  else (bO (gfR M l0 2 2) fun v119 =>
  bO (aI G M 0 v119 l7) fun v124 =>
  bO (gfR M l0 2 3) fun v126 =>
  bO (aI G M 0 v126 l7) fun v131 =>
  bO (rcv M l5 0) fun _ =>
  bO (P_X0_put G F l5 (v124 ^^^ v131) M) fun M133 =>
  B_X2_putUnchained_109 G F r23 n l0 l2 l3 l4 l5 l6 (l7 + 1) M133)
def B_X2_putUnchained_33 (G : mG) (F : Nat) (r23 : Nat → Nat → Nat → Int32 → Nat → Int32 → mM → Option (Int32 × mM)) : Nat → Nat → Nat → Nat → Int32 → Nat → Int32 → Int32 → mM → Option (Int32 × mM)
  | 0, _, _, _, _, _, _, _, _ => none
  | n + 1, l0, l2, l3, l4, l5, l6, l7, M =>
  if (16 : Int32) ≤ l7 then (bO (gfR M l0 2 1) fun v96 =>
  bO (gfR M l0 2 2) fun v100 =>
  bO (rcv M v96 1) fun _ =>
  bO (P_X1_backward G F v96 v100 M) fun M103 =>
  B_X2_putUnchained_109 G F r23 F l0 l2 l3 l4 l5 l6 (0 : Int32) M103)
  else (bO (gfR M l0 2 2) fun v41 =>
  bO (rcv M l3 0) fun _ =>
  bP (P_X0_get G F l3 (l6 + l7) M) fun v52 M52 =>
  bO (sI M52 0 v41 l7 v52) fun M55 =>
  bO (gfR M55 l0 2 3) fun v57 =>
  if l6 = 0 then (bO (rcv M55 l2 0) fun _ =>
  bP (P_X0_get G F l2 l7 M55) fun v70 M70 =>
  bO (sI M70 0 v57 l7 v70) fun M88 =>
  B_X2_putUnchained_33 G F r23 n l0 l2 l3 l4 l5 l6 (l7 + 1) M88)
  else (bO (rcv M55 l3 0) fun _ =>
  bP (P_X0_get G F l3 ((l6 - (16 : Int32)) + l7) M55) fun v85 M85 =>
  bO (sI M85 0 v57 l7 v85) fun M88 =>
  B_X2_putUnchained_33 G F r23 n l0 l2 l3 l4 l5 l6 (l7 + 1) M88))
def B_X2_putUnchained_23 (G : mG) (F : Nat) : Nat → Nat → Nat → Nat → Int32 → Nat → Int32 → mM → Option (Int32 × mM)
  | 0, _, _, _, _, _, _, _ => none
  | n + 1, l0, l2, l3, l4, l5, l6, M =>
  if l4 ≤ l6 then (bO (rcv M l5 0) fun _ =>
  bP (P_X0_get G F l5 (l4 - (1 : Int32)) M) fun v154 M154 =>
  if v154 < (1 : Int32) then (retZ (0 : Int32) M154)
  else (if v154 ≤ (16 : Int32) then (B_X2_putUnchained_181 G F F l4 l5 v154 (l4 - v154) M154)
  else (retZ (0 : Int32) M154)))
  else (B_X2_putUnchained_33 G F (B_X2_putUnchained_23 G F n) F l0 l2 l3 l4 l5 l6 (0 : Int32) M)
def P_X2_putUnchained (G : mG) (F : Nat) (l0 : Nat) (l1 : Nat) (l2 : Nat) (l3 : Nat) (l4 : Int32) (l5 : Nat) (M : mM) : Option (Int32 × mM) :=
  bO (gfR M l0 2 1) fun v1 =>
  bO (gfI M l1 0 1) fun v6 =>
  bO (gfI M l1 0 1) fun v12 =>
  bO (rcv M v1 1) fun _ =>
  bO (P_X1_become G F v1 l1 (v6 / (2 : Int32)) (v12 / (2 : Int32)) M) fun M17 =>
  B_X2_putUnchained_23 G F F l0 l2 l3 l4 l5 (0 : Int32) M17
def P_X2_unlock (G : mG) (F : Nat) (l0 : Nat) (l1 : Int32) (l2 : Nat) (l3 : Nat) (l4 : Nat) (l5 : Nat) (l6 : Nat) (M : mM) : Option (Int32 × mM) :=
  bO (gfI M l5 0 1) fun v2 =>
  bO (aI G M 0 (G.1 1007) l1) fun v9 =>
  if (v2 - v9) < 0 then (retZ (0 : Int32) M)
  else (bO (gfI M l2 0 1) fun v19 =>
  bO (aI G M 0 (G.1 1005) l1) fun v26 =>
  if v19 = v26 then (bO (rcv M l6 0) fun _ =>
  bO (P_X0_clear G F l6 M) fun M34 =>
  if (2 : Int32) ≤ l1 then (bO (rcv M34 l0 2) fun _ =>
  bO (P_X2_putCounted G F l0 l2 l3 l5 (v2 - v9) l6 M34) fun M111 =>
  bO (rcv M111 l0 2) fun _ =>
  bO (P_X2_markByField G F l0 l3 l4 l5 (v2 - v9) M111) fun M122 =>
  bO (rcv M122 l0 2) fun _ =>
  bP (P_X2_markStands G F l0 l5 (v2 - v9) M122) fun v130 M130 =>
  retZ v130 M130)
  else (if (v2 - v9) = 0 then (retZ (0 : Int32) M34)
  else (if ((v2 - v9) - (v2 - v9) / (16 : Int32) * (16 : Int32)) = 0 then (bO (rcv M34 l0 2) fun _ =>
  bO (P_X2_markByCode G F l0 l1 l2 l3 l4 l5 (v2 - v9) M34) fun M67 =>
  bO (rcv M67 l0 2) fun _ =>
  bP (P_X2_markStands G F l0 l5 (v2 - v9) M67) fun v75 M75 =>
  if v75 = 0 then (retZ (0 : Int32) M75)
  else (bO (rcv M75 l0 2) fun _ =>
  bP (P_X2_putUnchained G F l0 l2 l3 l5 (v2 - v9) l6 M75) fun v90 M90 =>
  if v90 = 0 then (retZ (0 : Int32) M90)
  else (retZ (1 : Int32) M90)))
  else (retZ (0 : Int32) M34))))
  else (retZ (0 : Int32) M))
def P_X6_init (G : mG) (F : Nat) (l0 : Nat) (M : mM) (sz : Nat) (sl : Nat) : Option (mM × Nat × Nat) :=
  bO (pfv M l0 6 0 (.int (1 : Int32))) fun M6 =>
  bO (nwA M6 sz 2 (32 : Int32)) fun M12 =>
  bO (pfv M12 l0 6 2 (.ref sz)) fun M14 =>
  bO (nwA M14 (sz + 1) 2 (32 : Int32)) fun M20 =>
  bO (pfv M20 l0 6 3 (.ref (sz + 1))) fun M22 =>
  bO (nwA M22 ((sz + 1) + 1) 2 (32 : Int32)) fun M28 =>
  bO (pfv M28 l0 6 4 (.ref ((sz + 1) + 1))) fun M30 =>
  bO (nwA M30 (((sz + 1) + 1) + 1) 2 (32 : Int32)) fun M36 =>
  bO (pfv M36 l0 6 5 (.ref (((sz + 1) + 1) + 1))) fun M38 =>
  bO (nwA M38 ((((sz + 1) + 1) + 1) + 1) 2 (32 : Int32)) fun M44 =>
  bO (pfv M44 l0 6 6 (.ref ((((sz + 1) + 1) + 1) + 1))) fun M46 =>
  bO (nwA M46 (((((sz + 1) + 1) + 1) + 1) + 1) 2 (34 : Int32)) fun M52 =>
  bO (pfv M52 l0 6 7 (.ref (((((sz + 1) + 1) + 1) + 1) + 1))) fun M54 =>
  some (M54, ((((((sz + 1) + 1) + 1) + 1) + 1) + 1), ((((((sl + ((32 : Int32)).toNatClampNeg) + ((32 : Int32)).toNatClampNeg) + ((32 : Int32)).toNatClampNeg) + ((32 : Int32)).toNatClampNeg) + ((32 : Int32)).toNatClampNeg) + ((34 : Int32)).toNatClampNeg))
def B_X7_hexValue_37 (G : mG) (F : Nat) (l0 : Int32) (M : mM) : Option (Int32 × mM) :=
  if l0 < (65 : Int32) then (some ((-1 : Int32), M))
  else (if (70 : Int32) < l0 then (some ((-1 : Int32), M))
  else (some (((l0 - (65 : Int32)) + (10 : Int32)), M)))
def B_X7_hexValue_17 (G : mG) (F : Nat) (l0 : Int32) (M : mM) : Option (Int32 × mM) :=
  if l0 < (97 : Int32) then (B_X7_hexValue_37 G F l0 M)
  else (if (102 : Int32) < l0 then (B_X7_hexValue_37 G F l0 M)
  else (some (((l0 - (97 : Int32)) + (10 : Int32)), M)))
def P_X7_hexValue (G : mG) (F : Nat) (l0 : Int32) (M : mM) : Option (Int32 × mM) :=
  if l0 < (48 : Int32) then (B_X7_hexValue_17 G F l0 M)
  else (if (57 : Int32) < l0 then (B_X7_hexValue_17 G F l0 M)
  else (some ((l0 - (48 : Int32)), M)))
def B_X3_ofDigits_19 (G : mG) (F : Nat) (r12 : Nat → Nat → Int32 → mM → Nat → Nat → Option (Nat × mM × Nat × Nat)) (l0 : Nat) (l1 : Nat) (l2 : Int32) (sk0 : Int32) (sk1 : Int32) (M : mM) (sz : Nat) (sl : Nat) : Option (Nat × mM × Nat × Nat) :=
  if sk1 ≤ sk0 then (some (l1, M, sz, sl))
  else (bO (rcs G l0) fun _ =>
  bP (P_J0_charAt_5068e G F l0 l2 M) fun v25 M25 =>
  bP (P_X7_hexValue G F v25 M25) fun v28 M28 =>
  bO (rcs G l0) fun _ =>
  bP (P_J0_charAt_5068e G F l0 (l2 + (1 : Int32)) M28) fun v37 M37 =>
  bP (P_X7_hexValue G F v37 M37) fun v40 M40 =>
  bO (rcv M40 l1 0) fun _ =>
  bO (P_X0_put G F l1 ((v28 <<< ((4 : Int32) &&& 31)) ||| v40) M40) fun M44 =>
  r12 l0 l1 (l2 + 2) M44 sz sl)
def B_X3_ofDigits_12 (G : mG) (F : Nat) : Nat → Nat → Nat → Int32 → mM → Nat → Nat → Option (Nat × mM × Nat × Nat)
  | 0, _, _, _, _, _, _ => none
  | n + 1, l0, l1, l2, M, sz, sl =>
  bO (rcs G l0) fun _ =>
  bP (P_J0_length_8abf5 G F l0 M) fun v16 M16 =>
  B_X3_ofDigits_19 G F (B_X3_ofDigits_12 G F n) l0 l1 l2 (l2 + (1 : Int32)) v16 M16 sz sl
def P_X3_ofDigits (G : mG) (F : Nat) (l0 : Nat) (M : mM) (sz : Nat) (sl : Nat) : Option (Nat × mM × Nat × Nat) :=
  bO (some (nwO M sz 0 dfX0)) fun Ma =>
  bA (P_X0_init G F sz (32 : Int32) Ma (sz + 1) (sl + 3)) fun M6 z6 k6 =>
  B_X3_ofDigits_12 G F F l0 sz (0 : Int32) M6 z6 k6
def B_X6_loadLimbs_27 (G : mG) (F : Nat) : Nat → Nat → Nat → Int32 → Int32 → Nat → Int32 → mM → Option mM
  | 0, _, _, _, _, _, _, _ => none
  | n + 1, l0, l1, l2, l3, l4, l5, M =>
  if l3 ≤ l5 then (some M)
  else (bO (gfI M l0 6 0) fun v37 =>
  if ((4 : Int32) * v37) ≤ l5 then (some M)
  else (bO (aL G M l4 (l5 / (4 : Int32))) fun v51 =>
  bO (rcv M l1 0) fun _ =>
  bP (P_X0_get G F l1 (((l2 + l3) - (1 : Int32)) - l5) M) fun v61 M61 =>
  bO (sL M61 l4 (l5 / (4 : Int32)) (v51 ||| (shlL (v61.toInt64) ((8 : Int32) * (l5 &&& (3 : Int32)))))) fun M74 =>
  B_X6_loadLimbs_27 G F n l0 l1 l2 l3 l4 (l5 + 1) M74))
def B_X6_loadLimbs_3 (G : mG) (F : Nat) : Nat → Nat → Nat → Int32 → Int32 → Nat → Int32 → mM → Option mM
  | 0, _, _, _, _, _, _, _ => none
  | n + 1, l0, l1, l2, l3, l4, l5, M =>
  bO (gfI M l0 6 0) fun v6 =>
  if v6 ≤ l5 then (B_X6_loadLimbs_27 G F F l0 l1 l2 l3 l4 (0 : Int32) M)
  else (bO (sL M l4 l5 (0 : Int64)) fun M17 =>
  B_X6_loadLimbs_3 G F n l0 l1 l2 l3 l4 (l5 + 1) M17)
def P_X6_loadLimbs (G : mG) (F : Nat) (l0 : Nat) (l1 : Nat) (l2 : Int32) (l3 : Int32) (l4 : Nat) (M : mM) : Option mM :=
  B_X6_loadLimbs_3 G F F l0 l1 l2 l3 l4 (0 : Int32) M
def B_X6_settle_5 (G : mG) (F : Nat) : Nat → Nat → Nat → Int64 → Int32 → mM → Option mM
  | 0, _, _, _, _, _ => none
  | n + 1, l0, l1, l2, l4, M =>
  bO (gfI M l0 6 0) fun v8 =>
  if v8 ≤ l4 then (bO (gfR M l0 6 7) fun v54 =>
  bO (gfI M l0 6 0) fun v58 =>
  bO (aL G M v54 v58) fun v61 =>
  if 0 ≤ (lg_cmp (l2 + v61) (0 : Int64)) then (some M)
  else (bO (gfR M l0 6 7) fun v69 =>
  bO (gfI M l0 6 0) fun v76 =>
  bO (cpL G M v69 (0 : Int32) l1 (0 : Int32) v76) fun M79 =>
  some M79))
  else (bO (gfR M l0 6 7) fun v16 =>
  bO (aL G M v16 l4) fun v21 =>
  bO (gfR M l0 6 2) fun v23 =>
  bO (aL G M v23 l4) fun v28 =>
  bO (sL M l1 l4 ((l2 + (v21 - v28)) &&& (4294967295 : Int64))) fun M40 =>
  B_X6_settle_5 G F n l0 l1 (shrL (l2 + (v21 - v28)) (32 : Int32)) (l4 + 1) M40)
def P_X6_settle (G : mG) (F : Nat) (l0 : Nat) (l1 : Nat) (M : mM) : Option mM :=
  B_X6_settle_5 G F F l0 l1 (0 : Int64) (0 : Int32) M
def B_X6_plus_6 (G : mG) (F : Nat) : Nat → Nat → Nat → Nat → Nat → Int64 → Int32 → mM → Option mM
  | 0, _, _, _, _, _, _, _ => none
  | n + 1, l0, l1, l2, l3, l4, l6, M =>
  bO (gfI M l0 6 0) fun v9 =>
  if v9 ≤ l6 then (bO (gfR M l0 6 7) fun v56 =>
  bO (gfI M l0 6 0) fun v60 =>
  bO (sL M v56 v60 l4) fun M65 =>
  bO (rcv M65 l0 6) fun _ =>
  bO (P_X6_settle G F l0 l3 M65) fun M68 =>
  some M68)
  else (bO (aL G M l1 l6) fun v20 =>
  bO (aL G M l2 l6) fun v24 =>
  bO (gfR M l0 6 7) fun v30 =>
  bO (sL M v30 l6 ((l4 + (v20 + v24)) &&& (4294967295 : Int64))) fun M41 =>
  B_X6_plus_6 G F n l0 l1 l2 l3 (ushL (l4 + (v20 + v24)) (32 : Int32)) (l6 + 1) M41)
def P_X6_plus (G : mG) (F : Nat) (l0 : Nat) (l1 : Nat) (l2 : Nat) (l3 : Nat) (M : mM) : Option mM :=
  B_X6_plus_6 G F F l0 l1 l2 l3 (0 : Int64) (0 : Int32) M
def B_X6_times_160 (G : mG) (F : Nat) (r29 : Nat → Nat → Nat → Nat → Int32 → mM → Option mM) : Nat → Nat → Nat → Nat → Nat → Int32 → Int64 → Int64 → Int64 → Int32 → mM → Option mM
  | 0, _, _, _, _, _, _, _, _, _, _ => none
  | n + 1, l0, l1, l2, l3, l4, l5, l7, l9, l11, M =>
  bO (gfI M l0 6 0) fun v163 =>
  if v163 ≤ l11 then (bO (gfR M l0 6 7) fun v228 =>
  bO (gfI M l0 6 0) fun v232 =>
  bO (sL M v228 (v232 - (1 : Int32)) ((l9 + l7) &&& (4294967295 : Int64))) fun M243 =>
  bO (gfR M243 l0 6 7) fun v245 =>
  bO (gfI M243 l0 6 0) fun v249 =>
  bO (sL M243 v245 v249 (ushL (l9 + l7) (32 : Int32))) fun M257 =>
  r29 l0 l1 l2 l3 (l4 + 1) M257)
  else (bO (gfR M l0 6 2) fun v174 =>
  bO (aL G M v174 l11) fun v179 =>
  bO (gfR M l0 6 7) fun v182 =>
  bO (aL G M v182 l11) fun v187 =>
  bO (gfR M l0 6 7) fun v193 =>
  bO (sL M v193 (l11 - (1 : Int32)) ((l7 + ((l5 * v179) + v187)) &&& (4294967295 : Int64))) fun M206 =>
  B_X6_times_160 G F r29 n l0 l1 l2 l3 l4 l5 (ushL (l7 + ((l5 * v179) + v187)) (32 : Int32)) l9 (l11 + 1) M206)
def B_X6_times_50 (G : mG) (F : Nat) (r29 : Nat → Nat → Nat → Nat → Int32 → mM → Option mM) : Nat → Nat → Nat → Nat → Nat → Int32 → Int64 → Int64 → Int32 → mM → Option mM
  | 0, _, _, _, _, _, _, _, _, _ => none
  | n + 1, l0, l1, l2, l3, l4, l5, l7, l9, M =>
  bO (gfI M l0 6 0) fun v53 =>
  if v53 ≤ l9 then (bO (gfR M l0 6 7) fun v106 =>
  bO (gfI M l0 6 0) fun v110 =>
  bO (aL G M v106 v110) fun v113 =>
  bO (gfR M l0 6 7) fun v120 =>
  bO (aL G M v120 (0 : Int32)) fun v124 =>
  bO (gfL M l0 6 1) fun v126 =>
  bO (gfR M l0 6 2) fun v139 =>
  bO (aL G M v139 (0 : Int32)) fun v143 =>
  bO (gfR M l0 6 7) fun v146 =>
  bO (aL G M v146 (0 : Int32)) fun v150 =>
  B_X6_times_160 G F r29 F l0 l1 l2 l3 l4 ((v124 * v126) &&& (4294967295 : Int64)) (ushL ((((v124 * v126) &&& (4294967295 : Int64)) * v143) + v150) (32 : Int32)) (v113 + l7) (1 : Int32) M)
  else (bO (aL G M l2 l9) fun v66 =>
  bO (gfR M l0 6 7) fun v69 =>
  bO (aL G M v69 l9) fun v74 =>
  bO (gfR M l0 6 7) fun v80 =>
  bO (sL M v80 l9 ((l7 + ((l5 * v66) + v74)) &&& (4294967295 : Int64))) fun M91 =>
  B_X6_times_50 G F r29 n l0 l1 l2 l3 l4 l5 (ushL (l7 + ((l5 * v66) + v74)) (32 : Int32)) (l9 + 1) M91)
def B_X6_times_29 (G : mG) (F : Nat) : Nat → Nat → Nat → Nat → Nat → Int32 → mM → Option mM
  | 0, _, _, _, _, _, _ => none
  | n + 1, l0, l1, l2, l3, l4, M =>
  bO (gfI M l0 6 0) fun v32 =>
  if v32 ≤ l4 then (bO (rcv M l0 6) fun _ =>
  bO (P_X6_settle G F l0 l3 M) fun M266 =>
  some M266)
  else (bO (aL G M l1 l4) fun v41 =>
  B_X6_times_50 G F (B_X6_times_29 G F n) F l0 l1 l2 l3 l4 v41 (0 : Int64) (0 : Int32) M)
def B_X6_times_3 (G : mG) (F : Nat) : Nat → Nat → Nat → Nat → Nat → Int32 → mM → Option mM
  | 0, _, _, _, _, _, _ => none
  | n + 1, l0, l1, l2, l3, l4, M =>
  bO (gfI M l0 6 0) fun v6 =>
  if v6 < l4 then (B_X6_times_29 G F F l0 l1 l2 l3 (0 : Int32) M)
  else (bO (gfR M l0 6 7) fun v13 =>
  bO (sL M v13 l4 (0 : Int64)) fun M19 =>
  B_X6_times_3 G F n l0 l1 l2 l3 (l4 + 1) M19)
def P_X6_times (G : mG) (F : Nat) (l0 : Nat) (l1 : Nat) (l2 : Nat) (l3 : Nat) (M : mM) : Option mM :=
  B_X6_times_3 G F F l0 l1 l2 l3 (0 : Int32) M
def B_X6_become_168 (G : mG) (F : Nat) : Nat → Nat → Int32 → mM → Option mM
  | 0, _, _, _ => none
  | n + 1, l0, l4, M =>
  if (5 : Int32) ≤ l4 then (some M)
  else (bO (gfR M l0 6 4) fun v176 =>
  bO (gfR M l0 6 4) fun v180 =>
  bO (gfR M l0 6 4) fun v184 =>
  bO (rcv M l0 6) fun _ =>
  bO (P_X6_times G F l0 v176 v180 v184 M) fun M187 =>
  B_X6_become_168 G F n l0 (l4 + 1) M187)
def B_X6_become_131 (G : mG) (F : Nat) : Nat → Nat → Int32 → mM → Option mM
  | 0, _, _, _ => none
  | n + 1, l0, l4, M =>
  bO (gfI M l0 6 0) fun v136 =>
  if ((33 : Int32) * v136) ≤ l4 then (B_X6_become_168 G F F l0 (0 : Int32) M)
  else (bO (gfR M l0 6 4) fun v145 =>
  bO (gfR M l0 6 4) fun v149 =>
  bO (gfR M l0 6 4) fun v153 =>
  bO (rcv M l0 6) fun _ =>
  bO (P_X6_plus G F l0 v145 v149 v153 M) fun M156 =>
  B_X6_become_131 G F n l0 (l4 + 1) M156)
def B_X6_become_90 (G : mG) (F : Nat) : Nat → Nat → Int64 → Int32 → mM → Option mM
  | 0, _, _, _, _ => none
  | n + 1, l0, l2, l4, M =>
  if (6 : Int32) ≤ l4 then (bO (pfv M l0 6 1 (.long ((-l2) &&& (4294967295 : Int64)))) fun M125 =>
  B_X6_become_131 G F F l0 (0 : Int32) M125)
  else (bO (gfR M l0 6 2) fun v102 =>
  bO (aL G M v102 (0 : Int32)) fun v106 =>
  B_X6_become_90 G F n l0 (l2 * ((2 : Int64) - (v106 * l2))) (l4 + 1) M)
def B_X6_become_23 (G : mG) (F : Nat) : Nat → Nat → Nat → Int32 → mM → Option mM
  | 0, _, _, _, _ => none
  | n + 1, l0, l1, l2, M =>
  bO (gfI M l0 6 0) fun v25 =>
  if v25 ≤ l2 then (bO (gfI M l1 0 1) fun v75 =>
  bO (gfR M l0 6 2) fun v79 =>
  bO (rcv M l0 6) fun _ =>
  bO (P_X6_loadLimbs G F l0 l1 (0 : Int32) v75 v79 M) fun M82 =>
  B_X6_become_90 G F F l0 (1 : Int64) (0 : Int32) M82)
  else (bO (gfR M l0 6 2) fun v32 =>
  bO (sL M v32 l2 (0 : Int64)) fun M37 =>
  bO (gfR M37 l0 6 3) fun v39 =>
  if l2 = 0 then (bO (sL M37 v39 l2 (1 : Int64)) fun M52 =>
  bO (gfR M52 l0 6 4) fun v54 =>
  bO (gfR M52 l0 6 3) fun v59 =>
  bO (aL G M52 v59 l2) fun v63 =>
  bO (sL M52 v54 l2 v63) fun M64 =>
  B_X6_become_23 G F n l0 l1 (l2 + 1) M64)
  else (bO (sL M37 v39 l2 (0 : Int64)) fun M52 =>
  bO (gfR M52 l0 6 4) fun v54 =>
  bO (gfR M52 l0 6 3) fun v59 =>
  bO (aL G M52 v59 l2) fun v63 =>
  bO (sL M52 v54 l2 v63) fun M64 =>
  B_X6_become_23 G F n l0 l1 (l2 + 1) M64))
def P_X6_become (G : mG) (F : Nat) (l0 : Nat) (l1 : Nat) (M : mM) : Option mM :=
  bO (gfI M l1 0 1) fun v3 =>
  bO (pfv M l0 6 0 (.int (if (1 : Int32) < (if (32 : Int32) < ((v3 + (3 : Int32)) / (4 : Int32)) then (32 : Int32) else ((v3 + (3 : Int32)) / (4 : Int32))) then (if (32 : Int32) < ((v3 + (3 : Int32)) / (4 : Int32)) then (32 : Int32) else ((v3 + (3 : Int32)) / (4 : Int32))) else (1 : Int32)))) fun M18 =>
  B_X6_become_23 G F F l0 l1 (0 : Int32) M18
def B_X6_take_32 (G : mG) (F : Nat) : Nat → Nat → Nat → Int32 → Int32 → Nat → Int32 → Int32 → mM → Option mM
  | 0, _, _, _, _, _, _, _, _ => none
  | n + 1, l0, l1, l2, l3, l4, l5, l7, M =>
  if l7 ≤ 0 then (some M)
  else (bO (gfR M l0 6 6) fun v73 =>
  bO (rcv M l0 6) fun _ =>
  bO (P_X6_loadLimbs G F l0 l1 (l2 + (if (l3 - (l7 * l5)) < (0 : Int32) then (0 : Int32) else (l3 - (l7 * l5)))) ((l3 - ((l7 - (1 : Int32)) * l5)) - (if (l3 - (l7 * l5)) < (0 : Int32) then (0 : Int32) else (l3 - (l7 * l5)))) v73 M) fun M76 =>
  bO (gfR M76 l0 6 6) fun v81 =>
  bO (gfR M76 l0 6 4) fun v85 =>
  bO (gfR M76 l0 6 6) fun v89 =>
  bO (rcv M76 l0 6) fun _ =>
  bO (P_X6_times G F l0 v81 v85 v89 M76) fun M92 =>
  bO (gfR M92 l0 6 6) fun v97 =>
  bO (gfR M92 l0 6 3) fun v101 =>
  bO (gfR M92 l0 6 6) fun v105 =>
  bO (rcv M92 l0 6) fun _ =>
  bO (P_X6_times G F l0 v97 v101 v105 M92) fun M108 =>
  bO (gfR M108 l0 6 4) fun v115 =>
  bO (rcv M108 l0 6) fun _ =>
  bO (P_X6_times G F l0 l4 v115 l4 M108) fun M120 =>
  bO (gfR M120 l0 6 6) fun v127 =>
  bO (rcv M120 l0 6) fun _ =>
  bO (P_X6_plus G F l0 l4 v127 l4 M120) fun M132 =>
  B_X6_take_32 G F n l0 l1 l2 l3 l4 l5 (l7 + (-1)) M132)
def P_X6_take (G : mG) (F : Nat) (l0 : Nat) (l1 : Nat) (l2 : Int32) (l3 : Int32) (l4 : Nat) (M : mM) : Option mM :=
  bO (gfI M l0 6 0) fun v2 =>
  bO (dvI ((l3 + ((4 : Int32) * v2)) - (1 : Int32)) ((4 : Int32) * v2)) fun v16 =>
  bO (rcv M l0 6) fun _ =>
  bO (P_X6_loadLimbs G F l0 l1 l2 (0 : Int32) l4 M) fun M25 =>
  B_X6_take_32 G F F l0 l1 l2 l3 l4 ((4 : Int32) * v2) v16 M25
def P_X6_lead (G : mG) (F : Nat) (l0 : Nat) (l1 : Nat) (M : mM) : Option mM :=
  bO (gfR M l0 6 4) fun v3 =>
  bO (rcv M l0 6) fun _ =>
  bO (P_X6_times G F l0 l1 v3 l1 M) fun M7 =>
  some M7
def P_X3_init (G : mG) (F : Nat) (l0 : Nat) (M : mM) (sz : Nat) (sl : Nat) : Option (mM × Nat × Nat) :=
  bO (nwG M sz (2 : Int32) (8 : Int32)) fun M8 =>
  bO (pfv M8 l0 3 0 (.ref sz)) fun M12 =>
  bO (nwG M12 (sz + (1 + ((2 : Int32)).toNatClampNeg)) (2 : Int32) (8 : Int32)) fun M19 =>
  bO (pfv M19 l0 3 1 (.ref (sz + (1 + ((2 : Int32)).toNatClampNeg)))) fun M23 =>
  bO (some (nwO M23 ((sz + (1 + ((2 : Int32)).toNatClampNeg)) + (1 + ((2 : Int32)).toNatClampNeg)) 6 dfX6)) fun M27 =>
  bA (P_X6_init G F ((sz + (1 + ((2 : Int32)).toNatClampNeg)) + (1 + ((2 : Int32)).toNatClampNeg)) M27 (((sz + (1 + ((2 : Int32)).toNatClampNeg)) + (1 + ((2 : Int32)).toNatClampNeg)) + 1) (((sl + gsl (2 : Int32) (8 : Int32)) + gsl (2 : Int32) (8 : Int32)) + 8)) fun M31 z31 k31 =>
  bO (pfv M31 l0 3 2 (.ref ((sz + (1 + ((2 : Int32)).toNatClampNeg)) + (1 + ((2 : Int32)).toNatClampNeg)))) fun M34 =>
  bO (some (nwO M34 z31 6 dfX6)) fun M38 =>
  bA (P_X6_init G F z31 M38 (z31 + 1) (k31 + 8)) fun M42 z42 k42 =>
  bO (pfv M42 l0 3 3 (.ref z31)) fun M45 =>
  bAP (P_X3_ofDigits G F (G.1 0) M45 z42 k42) fun v51 M51 z51 k51 =>
  bO (pfv M51 l0 3 4 (.ref v51)) fun M54 =>
  bAP (P_X3_ofDigits G F (G.1 1) M54 z51 k51) fun v60 M60 z60 k60 =>
  bO (pfv M60 l0 3 5 (.ref v60)) fun M63 =>
  bAP (P_X3_ofDigits G F (G.1 2) M63 z60 k60) fun v69 M69 z69 k69 =>
  bO (pfv M69 l0 3 6 (.ref v69)) fun M72 =>
  bAP (P_X3_ofDigits G F (G.1 3) M72 z69 k69) fun v78 M78 z78 k78 =>
  bO (pfv M78 l0 3 7 (.ref v78)) fun M81 =>
  bO (nwA M81 z78 2 (8 : Int32)) fun M87 =>
  bO (pfv M87 l0 3 8 (.ref z78)) fun M89 =>
  bO (nwA M89 (z78 + 1) 2 (8 : Int32)) fun M95 =>
  bO (pfv M95 l0 3 9 (.ref (z78 + 1))) fun M97 =>
  bO (nwG M97 ((z78 + 1) + 1) (3 : Int32) (8 : Int32)) fun M104 =>
  bO (pfv M104 l0 3 10 (.ref ((z78 + 1) + 1))) fun M108 =>
  bO (nwG M108 (((z78 + 1) + 1) + (1 + ((3 : Int32)).toNatClampNeg)) (6 : Int32) (8 : Int32)) fun M116 =>
  bO (pfv M116 l0 3 11 (.ref (((z78 + 1) + 1) + (1 + ((3 : Int32)).toNatClampNeg)))) fun M120 =>
  bO (some (nwO M120 ((((z78 + 1) + 1) + (1 + ((3 : Int32)).toNatClampNeg)) + (1 + ((6 : Int32)).toNatClampNeg)) 0 dfX0)) fun M124 =>
  bA (P_X0_init G F ((((z78 + 1) + 1) + (1 + ((3 : Int32)).toNatClampNeg)) + (1 + ((6 : Int32)).toNatClampNeg)) (64 : Int32) M124 (((((z78 + 1) + 1) + (1 + ((3 : Int32)).toNatClampNeg)) + (1 + ((6 : Int32)).toNatClampNeg)) + 1) (((((k78 + ((8 : Int32)).toNatClampNeg) + ((8 : Int32)).toNatClampNeg) + gsl (3 : Int32) (8 : Int32)) + gsl (6 : Int32) (8 : Int32)) + 3)) fun M130 z130 k130 =>
  bO (pfv M130 l0 3 12 (.ref ((((z78 + 1) + 1) + (1 + ((3 : Int32)).toNatClampNeg)) + (1 + ((6 : Int32)).toNatClampNeg)))) fun M133 =>
  bO (some (nwO M133 z130 0 dfX0)) fun M137 =>
  bA (P_X0_init G F z130 (32 : Int32) M137 (z130 + 1) (k130 + 3)) fun M143 z143 k143 =>
  bO (pfv M143 l0 3 13 (.ref z130)) fun M146 =>
  bO (some (nwO M146 z143 0 dfX0)) fun M150 =>
  bA (P_X0_init G F z143 (32 : Int32) M150 (z143 + 1) (k143 + 3)) fun M156 z156 k156 =>
  bO (pfv M156 l0 3 14 (.ref z143)) fun M159 =>
  bO (some (nwO M159 z156 0 dfX0)) fun M163 =>
  bA (P_X0_init G F z156 (0 : Int32) M163 (z156 + 1) (k156 + 3)) fun M168 z168 k168 =>
  bO (pfv M168 l0 3 15 (.ref z156)) fun M171 =>
  bO (gfR M171 l0 3 2) fun v175 =>
  bO (gfR M171 l0 3 4) fun v179 =>
  bO (rcv M171 v175 6) fun _ =>
  bO (P_X6_become G F v175 v179 M171) fun M182 =>
  bO (gfR M182 l0 3 3) fun v186 =>
  bO (gfR M182 l0 3 6) fun v190 =>
  bO (rcv M182 v186 6) fun _ =>
  bO (P_X6_become G F v186 v190 M182) fun M193 =>
  bO (gfR M193 l0 3 2) fun v197 =>
  bAP (P_X3_ofDigits G F (G.1 4) M193 z168 k168) fun v202 M202 z202 k202 =>
  bO (gfR M202 l0 3 8) fun v209 =>
  bO (rcv M202 v197 6) fun _ =>
  bO (P_X6_take G F v197 v202 (0 : Int32) (32 : Int32) v209 M202) fun M212 =>
  bO (gfR M212 l0 3 2) fun v216 =>
  bAP (P_X3_ofDigits G F (G.1 5) M212 z202 k202) fun v221 M221 z221 k221 =>
  bO (gfR M221 l0 3 0) fun v228 =>
  bO (aR M221 6 v228 (0 : Int32)) fun v232 =>
  bO (rcv M221 v216 6) fun _ =>
  bO (P_X6_take G F v216 v221 (0 : Int32) (32 : Int32) v232 M221) fun M233 =>
  bO (gfR M233 l0 3 2) fun v237 =>
  bAP (P_X3_ofDigits G F (G.1 6) M233 z221 k221) fun v242 M242 z242 k242 =>
  bO (gfR M242 l0 3 0) fun v249 =>
  bO (aR M242 6 v249 (1 : Int32)) fun v253 =>
  bO (rcv M242 v237 6) fun _ =>
  bO (P_X6_take G F v237 v242 (0 : Int32) (32 : Int32) v253 M242) fun M254 =>
  bO (gfR M254 l0 3 9) fun v258 =>
  bO (sL M254 v258 (0 : Int32) (1 : Int64)) fun M263 =>
  bO (gfR M263 l0 3 2) fun v265 =>
  bO (gfR M263 l0 3 9) fun v269 =>
  bO (rcv M263 v265 6) fun _ =>
  bO (P_X6_lead G F v265 v269 M263) fun M272 =>
  bO (gfR M272 l0 3 2) fun v276 =>
  bO (gfR M272 l0 3 8) fun v280 =>
  bO (rcv M272 v276 6) fun _ =>
  bO (P_X6_lead G F v276 v280 M272) fun M283 =>
  bO (gfR M283 l0 3 2) fun v287 =>
  bO (gfR M283 l0 3 0) fun v291 =>
  bO (aR M283 6 v291 (0 : Int32)) fun v295 =>
  bO (rcv M283 v287 6) fun _ =>
  bO (P_X6_lead G F v287 v295 M283) fun M296 =>
  bO (gfR M296 l0 3 2) fun v300 =>
  bO (gfR M296 l0 3 0) fun v304 =>
  bO (aR M296 6 v304 (1 : Int32)) fun v308 =>
  bO (rcv M296 v300 6) fun _ =>
  bO (P_X6_lead G F v300 v308 M296) fun M309 =>
  some (M309, z242, k242)
def P_X3_isSecret (G : mG) (F : Nat) (l0 : Nat) (l1 : Nat) (l2 : Int32) (M : mM) : Option (Int32 × mM) :=
  bO (gfR M l0 3 6) fun v3 =>
  bP (P_X0_compare G F l1 l2 v3 (0 : Int32) (32 : Int32) M) fun v9 M9 =>
  if 0 ≤ v9 then (retZ (0 : Int32) M9)
  else (bO (gfR M9 l0 3 15) fun v18 =>
  bP (P_X0_compare G F l1 l2 v18 (0 : Int32) (32 : Int32) M9) fun v24 M24 =>
  if v24 ≤ 0 then (retZ (0 : Int32) M24)
  else (retZ (1 : Int32) M24))
def B_X6_minus_65 (G : mG) (F : Nat) : Nat → Nat → Nat → Int64 → Int32 → mM → Option mM
  | 0, _, _, _, _, _ => none
  | n + 1, l0, l3, l4, l6, M =>
  bO (gfI M l0 6 0) fun v68 =>
  if v68 ≤ l6 then (some M)
  else (bO (aL G M l3 l6) fun v79 =>
  bO (gfR M l0 6 2) fun v81 =>
  bO (aL G M v81 l6) fun v86 =>
  bO (sL M l3 l6 ((l4 + (v79 + v86)) &&& (4294967295 : Int64))) fun M100 =>
  B_X6_minus_65 G F n l0 l3 (ushL (l4 + (v79 + v86)) (32 : Int32)) (l6 + 1) M100)
def B_X6_minus_6 (G : mG) (F : Nat) : Nat → Nat → Nat → Nat → Nat → Int64 → Int32 → mM → Option mM
  | 0, _, _, _, _, _, _, _ => none
  | n + 1, l0, l1, l2, l3, l4, l6, M =>
  bO (gfI M l0 6 0) fun v9 =>
  if v9 ≤ l6 then (if 0 ≤ (lg_cmp l4 (0 : Int64)) then (some M)
  else (B_X6_minus_65 G F F l0 l3 (0 : Int64) (0 : Int32) M))
  else (bO (aL G M l1 l6) fun v20 =>
  bO (aL G M l2 l6) fun v24 =>
  bO (sL M l3 l6 ((l4 + (v20 - v24)) &&& (4294967295 : Int64))) fun M38 =>
  B_X6_minus_6 G F n l0 l1 l2 l3 (shrL (l4 + (v20 - v24)) (32 : Int32)) (l6 + 1) M38)
def P_X6_minus (G : mG) (F : Nat) (l0 : Nat) (l1 : Nat) (l2 : Nat) (l3 : Nat) (M : mM) : Option mM :=
  B_X6_minus_6 G F F l0 l1 l2 l3 (0 : Int64) (0 : Int32) M
def B_X6_areSame_2 (G : mG) (F : Nat) : Nat → Nat → Nat → Nat → Int32 → mM → Option (Int32 × mM)
  | 0, _, _, _, _, _ => none
  | n + 1, l0, l1, l2, l3, M =>
  bO (gfI M l0 6 0) fun v4 =>
  if v4 ≤ l3 then (retZ (1 : Int32) M)
  else (bO (aL G M l1 l3) fun v12 =>
  bO (aL G M l2 l3) fun v15 =>
  if (lg_cmp v12 v15) = 0 then (B_X6_areSame_2 G F n l0 l1 l2 (l3 + 1) M)
  else (retZ (0 : Int32) M))
def P_X6_areSame (G : mG) (F : Nat) (l0 : Nat) (l1 : Nat) (l2 : Nat) (M : mM) : Option (Int32 × mM) :=
  B_X6_areSame_2 G F F l0 l1 l2 (0 : Int32) M
def P_X3_load (G : mG) (F : Nat) (l0 : Nat) (l1 : Nat) (M : mM) : Option (Int32 × mM) :=
  bO (gfR M l0 3 4) fun v3 =>
  bP (P_X0_compare G F l1 (0 : Int32) v3 (0 : Int32) (32 : Int32) M) fun v9 M9 =>
  if 0 ≤ v9 then (retZ (0 : Int32) M9)
  else (bO (gfR M9 l0 3 4) fun v19 =>
  bP (P_X0_compare G F l1 (32 : Int32) v19 (0 : Int32) (32 : Int32) M9) fun v25 M25 =>
  if v25 < 0 then (bO (gfR M25 l0 3 1) fun v34 =>
  bO (aR M25 6 v34 (0 : Int32)) fun v38 =>
  bO (gfR M25 l0 3 1) fun v41 =>
  bO (aR M25 6 v41 (1 : Int32)) fun v45 =>
  bO (gfR M25 l0 3 2) fun v48 =>
  bO (rcv M25 v48 6) fun _ =>
  bO (P_X6_take G F v48 l1 (0 : Int32) (32 : Int32) v38 M25) fun M56 =>
  bO (gfR M56 l0 3 2) fun v60 =>
  bO (rcv M56 v60 6) fun _ =>
  bO (P_X6_take G F v60 l1 (32 : Int32) (32 : Int32) v45 M56) fun M69 =>
  bO (gfR M69 l0 3 2) fun v73 =>
  bO (rcv M69 v73 6) fun _ =>
  bO (P_X6_lead G F v73 v38 M69) fun M77 =>
  bO (gfR M77 l0 3 2) fun v81 =>
  bO (rcv M77 v81 6) fun _ =>
  bO (P_X6_lead G F v81 v45 M77) fun M85 =>
  bO (gfR M85 l0 3 2) fun v89 =>
  bO (gfR M85 l0 3 11) fun v95 =>
  bO (aR M85 6 v95 (0 : Int32)) fun v99 =>
  bO (rcv M85 v89 6) fun _ =>
  bO (P_X6_times G F v89 v38 v38 v99 M85) fun M100 =>
  bO (gfR M100 l0 3 2) fun v104 =>
  bO (gfR M100 l0 3 11) fun v108 =>
  bO (aR M100 6 v108 (0 : Int32)) fun v112 =>
  bO (gfR M100 l0 3 11) fun v115 =>
  bO (aR M100 6 v115 (0 : Int32)) fun v119 =>
  bO (rcv M100 v104 6) fun _ =>
  bO (P_X6_times G F v104 v112 v38 v119 M100) fun M120 =>
  bO (gfR M120 l0 3 2) fun v124 =>
  bO (gfR M120 l0 3 11) fun v128 =>
  bO (aR M120 6 v128 (0 : Int32)) fun v132 =>
  bO (gfR M120 l0 3 11) fun v135 =>
  bO (aR M120 6 v135 (0 : Int32)) fun v139 =>
  bO (rcv M120 v124 6) fun _ =>
  bO (P_X6_minus G F v124 v132 v38 v139 M120) fun M140 =>
  bO (gfR M140 l0 3 2) fun v144 =>
  bO (gfR M140 l0 3 11) fun v148 =>
  bO (aR M140 6 v148 (0 : Int32)) fun v152 =>
  bO (gfR M140 l0 3 11) fun v155 =>
  bO (aR M140 6 v155 (0 : Int32)) fun v159 =>
  bO (rcv M140 v144 6) fun _ =>
  bO (P_X6_minus G F v144 v152 v38 v159 M140) fun M160 =>
  bO (gfR M160 l0 3 2) fun v164 =>
  bO (gfR M160 l0 3 11) fun v168 =>
  bO (aR M160 6 v168 (0 : Int32)) fun v172 =>
  bO (gfR M160 l0 3 11) fun v175 =>
  bO (aR M160 6 v175 (0 : Int32)) fun v179 =>
  bO (rcv M160 v164 6) fun _ =>
  bO (P_X6_minus G F v164 v172 v38 v179 M160) fun M180 =>
  bO (gfR M180 l0 3 2) fun v184 =>
  bO (gfR M180 l0 3 11) fun v188 =>
  bO (aR M180 6 v188 (0 : Int32)) fun v192 =>
  bO (gfR M180 l0 3 8) fun v194 =>
  bO (gfR M180 l0 3 11) fun v198 =>
  bO (aR M180 6 v198 (0 : Int32)) fun v202 =>
  bO (rcv M180 v184 6) fun _ =>
  bO (P_X6_plus G F v184 v192 v194 v202 M180) fun M203 =>
  bO (gfR M203 l0 3 2) fun v207 =>
  bO (gfR M203 l0 3 11) fun v213 =>
  bO (aR M203 6 v213 (1 : Int32)) fun v217 =>
  bO (rcv M203 v207 6) fun _ =>
  bO (P_X6_times G F v207 v45 v45 v217 M203) fun M218 =>
  bO (gfR M218 l0 3 2) fun v222 =>
  bO (gfR M218 l0 3 11) fun v226 =>
  bO (aR M218 6 v226 (0 : Int32)) fun v230 =>
  bO (gfR M218 l0 3 11) fun v232 =>
  bO (aR M218 6 v232 (1 : Int32)) fun v236 =>
  bO (rcv M218 v222 6) fun _ =>
  bP (P_X6_areSame G F v222 v230 v236 M218) fun v237 M237 =>
  retZ v237 M237)
  else (retZ (0 : Int32) M25))
def P_X3_twice (G : mG) (F : Nat) (l0 : Nat) (M : mM) : Option mM :=
  bO (gfR M l0 3 10) fun v1 =>
  bO (aR M 6 v1 (0 : Int32)) fun v5 =>
  bO (gfR M l0 3 10) fun v8 =>
  bO (aR M 6 v8 (1 : Int32)) fun v12 =>
  bO (gfR M l0 3 10) fun v15 =>
  bO (aR M 6 v15 (2 : Int32)) fun v19 =>
  bO (gfR M l0 3 2) fun v22 =>
  bO (gfR M l0 3 11) fun v28 =>
  bO (aR M 6 v28 (0 : Int32)) fun v32 =>
  bO (rcv M v22 6) fun _ =>
  bO (P_X6_times G F v22 v19 v19 v32 M) fun M33 =>
  bO (gfR M33 l0 3 2) fun v37 =>
  bO (gfR M33 l0 3 11) fun v43 =>
  bO (aR M33 6 v43 (1 : Int32)) fun v47 =>
  bO (rcv M33 v37 6) fun _ =>
  bO (P_X6_times G F v37 v12 v12 v47 M33) fun M48 =>
  bO (gfR M48 l0 3 2) fun v52 =>
  bO (gfR M48 l0 3 11) fun v57 =>
  bO (aR M48 6 v57 (1 : Int32)) fun v61 =>
  bO (gfR M48 l0 3 11) fun v63 =>
  bO (aR M48 6 v63 (2 : Int32)) fun v67 =>
  bO (rcv M48 v52 6) fun _ =>
  bO (P_X6_times G F v52 v5 v61 v67 M48) fun M68 =>
  bO (gfR M68 l0 3 2) fun v72 =>
  bO (gfR M68 l0 3 11) fun v77 =>
  bO (aR M68 6 v77 (0 : Int32)) fun v81 =>
  bO (gfR M68 l0 3 11) fun v83 =>
  bO (aR M68 6 v83 (3 : Int32)) fun v87 =>
  bO (rcv M68 v72 6) fun _ =>
  bO (P_X6_minus G F v72 v5 v81 v87 M68) fun M88 =>
  bO (gfR M88 l0 3 2) fun v92 =>
  bO (gfR M88 l0 3 11) fun v97 =>
  bO (aR M88 6 v97 (0 : Int32)) fun v101 =>
  bO (gfR M88 l0 3 11) fun v103 =>
  bO (aR M88 6 v103 (4 : Int32)) fun v107 =>
  bO (rcv M88 v92 6) fun _ =>
  bO (P_X6_plus G F v92 v5 v101 v107 M88) fun M108 =>
  bO (gfR M108 l0 3 2) fun v112 =>
  bO (gfR M108 l0 3 11) fun v116 =>
  bO (aR M108 6 v116 (3 : Int32)) fun v120 =>
  bO (gfR M108 l0 3 11) fun v122 =>
  bO (aR M108 6 v122 (4 : Int32)) fun v126 =>
  bO (gfR M108 l0 3 11) fun v128 =>
  bO (aR M108 6 v128 (3 : Int32)) fun v132 =>
  bO (rcv M108 v112 6) fun _ =>
  bO (P_X6_times G F v112 v120 v126 v132 M108) fun M133 =>
  bO (gfR M133 l0 3 2) fun v137 =>
  bO (gfR M133 l0 3 11) fun v141 =>
  bO (aR M133 6 v141 (3 : Int32)) fun v145 =>
  bO (gfR M133 l0 3 11) fun v147 =>
  bO (aR M133 6 v147 (3 : Int32)) fun v151 =>
  bO (gfR M133 l0 3 11) fun v153 =>
  bO (aR M133 6 v153 (4 : Int32)) fun v157 =>
  bO (rcv M133 v137 6) fun _ =>
  bO (P_X6_plus G F v137 v145 v151 v157 M133) fun M158 =>
  bO (gfR M158 l0 3 2) fun v162 =>
  bO (gfR M158 l0 3 11) fun v166 =>
  bO (aR M158 6 v166 (4 : Int32)) fun v170 =>
  bO (gfR M158 l0 3 11) fun v172 =>
  bO (aR M158 6 v172 (3 : Int32)) fun v176 =>
  bO (gfR M158 l0 3 11) fun v178 =>
  bO (aR M158 6 v178 (3 : Int32)) fun v182 =>
  bO (rcv M158 v162 6) fun _ =>
  bO (P_X6_plus G F v162 v170 v176 v182 M158) fun M183 =>
  bO (gfR M183 l0 3 2) fun v187 =>
  bO (rcv M183 v187 6) fun _ =>
  bO (P_X6_plus G F v187 v12 v19 v19 M183) fun M193 =>
  bO (gfR M193 l0 3 2) fun v197 =>
  bO (rcv M193 v197 6) fun _ =>
  bO (P_X6_times G F v197 v19 v19 v19 M193) fun M203 =>
  bO (gfR M203 l0 3 2) fun v207 =>
  bO (gfR M203 l0 3 11) fun v212 =>
  bO (aR M203 6 v212 (1 : Int32)) fun v216 =>
  bO (rcv M203 v207 6) fun _ =>
  bO (P_X6_minus G F v207 v19 v216 v19 M203) fun M218 =>
  bO (gfR M218 l0 3 2) fun v222 =>
  bO (gfR M218 l0 3 11) fun v227 =>
  bO (aR M218 6 v227 (0 : Int32)) fun v231 =>
  bO (rcv M218 v222 6) fun _ =>
  bO (P_X6_minus G F v222 v19 v231 v19 M218) fun M233 =>
  bO (gfR M233 l0 3 2) fun v237 =>
  bO (gfR M233 l0 3 11) fun v241 =>
  bO (aR M233 6 v241 (2 : Int32)) fun v245 =>
  bO (gfR M233 l0 3 11) fun v247 =>
  bO (aR M233 6 v247 (2 : Int32)) fun v251 =>
  bO (gfR M233 l0 3 11) fun v253 =>
  bO (aR M233 6 v253 (2 : Int32)) fun v257 =>
  bO (rcv M233 v237 6) fun _ =>
  bO (P_X6_plus G F v237 v245 v251 v257 M233) fun M258 =>
  bO (gfR M258 l0 3 2) fun v262 =>
  bO (gfR M258 l0 3 11) fun v266 =>
  bO (aR M258 6 v266 (2 : Int32)) fun v270 =>
  bO (gfR M258 l0 3 11) fun v272 =>
  bO (aR M258 6 v272 (2 : Int32)) fun v276 =>
  bO (gfR M258 l0 3 11) fun v278 =>
  bO (aR M258 6 v278 (2 : Int32)) fun v282 =>
  bO (rcv M258 v262 6) fun _ =>
  bO (P_X6_plus G F v262 v270 v276 v282 M258) fun M283 =>
  bO (gfR M283 l0 3 2) fun v287 =>
  bO (gfR M283 l0 3 11) fun v291 =>
  bO (aR M283 6 v291 (3 : Int32)) fun v295 =>
  bO (gfR M283 l0 3 11) fun v297 =>
  bO (aR M283 6 v297 (3 : Int32)) fun v301 =>
  bO (rcv M283 v287 6) fun _ =>
  bO (P_X6_times G F v287 v295 v301 v5 M283) fun M303 =>
  bO (gfR M303 l0 3 2) fun v307 =>
  bO (gfR M303 l0 3 11) fun v312 =>
  bO (aR M303 6 v312 (2 : Int32)) fun v316 =>
  bO (rcv M303 v307 6) fun _ =>
  bO (P_X6_minus G F v307 v5 v316 v5 M303) fun M318 =>
  bO (gfR M318 l0 3 2) fun v322 =>
  bO (gfR M318 l0 3 11) fun v327 =>
  bO (aR M318 6 v327 (2 : Int32)) fun v331 =>
  bO (rcv M318 v322 6) fun _ =>
  bO (P_X6_minus G F v322 v5 v331 v5 M318) fun M333 =>
  bO (gfR M333 l0 3 2) fun v337 =>
  bO (gfR M333 l0 3 11) fun v341 =>
  bO (aR M333 6 v341 (1 : Int32)) fun v345 =>
  bO (gfR M333 l0 3 11) fun v347 =>
  bO (aR M333 6 v347 (1 : Int32)) fun v351 =>
  bO (gfR M333 l0 3 11) fun v353 =>
  bO (aR M333 6 v353 (1 : Int32)) fun v357 =>
  bO (rcv M333 v337 6) fun _ =>
  bO (P_X6_times G F v337 v345 v351 v357 M333) fun M358 =>
  bO (gfR M358 l0 3 2) fun v362 =>
  bO (gfR M358 l0 3 11) fun v366 =>
  bO (aR M358 6 v366 (1 : Int32)) fun v370 =>
  bO (gfR M358 l0 3 11) fun v372 =>
  bO (aR M358 6 v372 (1 : Int32)) fun v376 =>
  bO (gfR M358 l0 3 11) fun v378 =>
  bO (aR M358 6 v378 (1 : Int32)) fun v382 =>
  bO (rcv M358 v362 6) fun _ =>
  bO (P_X6_plus G F v362 v370 v376 v382 M358) fun M383 =>
  bO (gfR M383 l0 3 2) fun v387 =>
  bO (gfR M383 l0 3 11) fun v391 =>
  bO (aR M383 6 v391 (1 : Int32)) fun v395 =>
  bO (gfR M383 l0 3 11) fun v397 =>
  bO (aR M383 6 v397 (1 : Int32)) fun v401 =>
  bO (gfR M383 l0 3 11) fun v403 =>
  bO (aR M383 6 v403 (1 : Int32)) fun v407 =>
  bO (rcv M383 v387 6) fun _ =>
  bO (P_X6_plus G F v387 v395 v401 v407 M383) fun M408 =>
  bO (gfR M408 l0 3 2) fun v412 =>
  bO (gfR M408 l0 3 11) fun v416 =>
  bO (aR M408 6 v416 (1 : Int32)) fun v420 =>
  bO (gfR M408 l0 3 11) fun v422 =>
  bO (aR M408 6 v422 (1 : Int32)) fun v426 =>
  bO (gfR M408 l0 3 11) fun v428 =>
  bO (aR M408 6 v428 (1 : Int32)) fun v432 =>
  bO (rcv M408 v412 6) fun _ =>
  bO (P_X6_plus G F v412 v420 v426 v432 M408) fun M433 =>
  bO (gfR M433 l0 3 2) fun v437 =>
  bO (gfR M433 l0 3 11) fun v441 =>
  bO (aR M433 6 v441 (2 : Int32)) fun v445 =>
  bO (gfR M433 l0 3 11) fun v448 =>
  bO (aR M433 6 v448 (2 : Int32)) fun v452 =>
  bO (rcv M433 v437 6) fun _ =>
  bO (P_X6_minus G F v437 v445 v5 v452 M433) fun M453 =>
  bO (gfR M453 l0 3 2) fun v457 =>
  bO (gfR M453 l0 3 11) fun v461 =>
  bO (aR M453 6 v461 (3 : Int32)) fun v465 =>
  bO (gfR M453 l0 3 11) fun v467 =>
  bO (aR M453 6 v467 (2 : Int32)) fun v471 =>
  bO (rcv M453 v457 6) fun _ =>
  bO (P_X6_times G F v457 v465 v471 v12 M453) fun M473 =>
  bO (gfR M473 l0 3 2) fun v477 =>
  bO (gfR M473 l0 3 11) fun v482 =>
  bO (aR M473 6 v482 (1 : Int32)) fun v486 =>
  bO (rcv M473 v477 6) fun _ =>
  bO (P_X6_minus G F v477 v12 v486 v12 M473) fun M488 =>
  some M488
def B_X6_isZero_2 (G : mG) (F : Nat) : Nat → Nat → Nat → Int32 → mM → Option (Int32 × mM)
  | 0, _, _, _, _ => none
  | n + 1, l0, l1, l2, M =>
  bO (gfI M l0 6 0) fun v4 =>
  if v4 ≤ l2 then (retZ (1 : Int32) M)
  else (bO (aL G M l1 l2) fun v12 =>
  if (lg_cmp v12 (0 : Int64)) = 0 then (B_X6_isZero_2 G F n l0 l1 (l2 + 1) M)
  else (retZ (0 : Int32) M))
def P_X6_isZero (G : mG) (F : Nat) (l0 : Nat) (l1 : Nat) (M : mM) : Option (Int32 × mM) :=
  B_X6_isZero_2 G F F l0 l1 (0 : Int32) M
def B_X3_add_227 (G : mG) (F : Nat) (l0 : Nat) (l2 : Nat) (l3 : Nat) (l4 : Nat) (M : mM) : Option (Int32 × mM) :=
  bO (gfR M l0 3 2) fun v228 =>
  bO (gfR M l0 3 11) fun v234 =>
  bO (aR M 6 v234 (1 : Int32)) fun v238 =>
  bO (rcv M v228 6) fun _ =>
  bO (P_X6_times G F v228 l4 v238 l4 M) fun M241 =>
  bO (gfR M241 l0 3 2) fun v245 =>
  bO (gfR M241 l0 3 11) fun v249 =>
  bO (aR M241 6 v249 (1 : Int32)) fun v253 =>
  bO (gfR M241 l0 3 11) fun v255 =>
  bO (aR M241 6 v255 (1 : Int32)) fun v259 =>
  bO (gfR M241 l0 3 11) fun v261 =>
  bO (aR M241 6 v261 (3 : Int32)) fun v265 =>
  bO (rcv M241 v245 6) fun _ =>
  bO (P_X6_times G F v245 v253 v259 v265 M241) fun M266 =>
  bO (gfR M266 l0 3 2) fun v270 =>
  bO (gfR M266 l0 3 11) fun v274 =>
  bO (aR M266 6 v274 (1 : Int32)) fun v278 =>
  bO (gfR M266 l0 3 11) fun v280 =>
  bO (aR M266 6 v280 (3 : Int32)) fun v284 =>
  bO (gfR M266 l0 3 11) fun v286 =>
  bO (aR M266 6 v286 (4 : Int32)) fun v290 =>
  bO (rcv M266 v270 6) fun _ =>
  bO (P_X6_times G F v270 v278 v284 v290 M266) fun M291 =>
  bO (gfR M291 l0 3 2) fun v295 =>
  bO (gfR M291 l0 3 11) fun v300 =>
  bO (aR M291 6 v300 (3 : Int32)) fun v304 =>
  bO (gfR M291 l0 3 11) fun v306 =>
  bO (aR M291 6 v306 (3 : Int32)) fun v310 =>
  bO (rcv M291 v295 6) fun _ =>
  bO (P_X6_times G F v295 l2 v304 v310 M291) fun M311 =>
  bO (gfR M311 l0 3 2) fun v315 =>
  bO (gfR M311 l0 3 11) fun v319 =>
  bO (aR M311 6 v319 (2 : Int32)) fun v323 =>
  bO (gfR M311 l0 3 11) fun v325 =>
  bO (aR M311 6 v325 (2 : Int32)) fun v329 =>
  bO (rcv M311 v315 6) fun _ =>
  bO (P_X6_times G F v315 v323 v329 l2 M311) fun M331 =>
  bO (gfR M331 l0 3 2) fun v335 =>
  bO (gfR M331 l0 3 11) fun v340 =>
  bO (aR M331 6 v340 (4 : Int32)) fun v344 =>
  bO (rcv M331 v335 6) fun _ =>
  bO (P_X6_minus G F v335 l2 v344 l2 M331) fun M346 =>
  bO (gfR M346 l0 3 2) fun v350 =>
  bO (gfR M346 l0 3 11) fun v355 =>
  bO (aR M346 6 v355 (3 : Int32)) fun v359 =>
  bO (rcv M346 v350 6) fun _ =>
  bO (P_X6_minus G F v350 l2 v359 l2 M346) fun M361 =>
  bO (gfR M361 l0 3 2) fun v365 =>
  bO (gfR M361 l0 3 11) fun v370 =>
  bO (aR M361 6 v370 (3 : Int32)) fun v374 =>
  bO (rcv M361 v365 6) fun _ =>
  bO (P_X6_minus G F v365 l2 v374 l2 M361) fun M376 =>
  bO (gfR M376 l0 3 2) fun v380 =>
  bO (gfR M376 l0 3 11) fun v384 =>
  bO (aR M376 6 v384 (3 : Int32)) fun v388 =>
  bO (gfR M376 l0 3 11) fun v391 =>
  bO (aR M376 6 v391 (3 : Int32)) fun v395 =>
  bO (rcv M376 v380 6) fun _ =>
  bO (P_X6_minus G F v380 v388 l2 v395 M376) fun M396 =>
  bO (gfR M396 l0 3 2) fun v400 =>
  bO (gfR M396 l0 3 11) fun v404 =>
  bO (aR M396 6 v404 (2 : Int32)) fun v408 =>
  bO (gfR M396 l0 3 11) fun v410 =>
  bO (aR M396 6 v410 (3 : Int32)) fun v414 =>
  bO (gfR M396 l0 3 11) fun v416 =>
  bO (aR M396 6 v416 (3 : Int32)) fun v420 =>
  bO (rcv M396 v400 6) fun _ =>
  bO (P_X6_times G F v400 v408 v414 v420 M396) fun M421 =>
  bO (gfR M421 l0 3 2) fun v425 =>
  bO (gfR M421 l0 3 11) fun v430 =>
  bO (aR M421 6 v430 (4 : Int32)) fun v434 =>
  bO (gfR M421 l0 3 11) fun v436 =>
  bO (aR M421 6 v436 (4 : Int32)) fun v440 =>
  bO (rcv M421 v425 6) fun _ =>
  bO (P_X6_times G F v425 l3 v434 v440 M421) fun M441 =>
  bO (gfR M441 l0 3 2) fun v445 =>
  bO (gfR M441 l0 3 11) fun v449 =>
  bO (aR M441 6 v449 (3 : Int32)) fun v453 =>
  bO (gfR M441 l0 3 11) fun v455 =>
  bO (aR M441 6 v455 (4 : Int32)) fun v459 =>
  bO (rcv M441 v445 6) fun _ =>
  bO (P_X6_minus G F v445 v453 v459 l3 M441) fun M461 =>
  retZ (1 : Int32) M461
def P_X3_add (G : mG) (F : Nat) (l0 : Nat) (l1 : Nat) (M : mM) : Option (Int32 × mM) :=
  bO (gfR M l0 3 10) fun v1 =>
  bO (aR M 6 v1 (0 : Int32)) fun v5 =>
  bO (gfR M l0 3 10) fun v8 =>
  bO (aR M 6 v8 (1 : Int32)) fun v12 =>
  bO (gfR M l0 3 10) fun v15 =>
  bO (aR M 6 v15 (2 : Int32)) fun v19 =>
  bO (gfR M l0 3 2) fun v23 =>
  bO (rcv M v23 6) fun _ =>
  bP (P_X6_isZero G F v23 v19 M) fun v28 M28 =>
  if v28 = 0 then (bO (gfR M28 l0 3 2) fun v72 =>
  bO (gfR M28 l0 3 11) fun v80 =>
  bO (aR M28 6 v80 (0 : Int32)) fun v84 =>
  bO (rcv M28 v72 6) fun _ =>
  bO (P_X6_times G F v72 v19 v19 v84 M28) fun M85 =>
  bO (gfR M85 l0 3 2) fun v89 =>
  bO (aR M85 6 l1 (0 : Int32)) fun v94 =>
  bO (gfR M85 l0 3 11) fun v96 =>
  bO (aR M85 6 v96 (0 : Int32)) fun v100 =>
  bO (gfR M85 l0 3 11) fun v102 =>
  bO (aR M85 6 v102 (1 : Int32)) fun v106 =>
  bO (rcv M85 v89 6) fun _ =>
  bO (P_X6_times G F v89 v94 v100 v106 M85) fun M107 =>
  bO (gfR M107 l0 3 2) fun v111 =>
  bO (gfR M107 l0 3 11) fun v115 =>
  bO (aR M107 6 v115 (1 : Int32)) fun v119 =>
  bO (gfR M107 l0 3 11) fun v122 =>
  bO (aR M107 6 v122 (1 : Int32)) fun v126 =>
  bO (rcv M107 v111 6) fun _ =>
  bO (P_X6_minus G F v111 v119 v5 v126 M107) fun M127 =>
  bO (gfR M127 l0 3 2) fun v131 =>
  bO (gfR M127 l0 3 11) fun v135 =>
  bO (aR M127 6 v135 (0 : Int32)) fun v139 =>
  bO (gfR M127 l0 3 11) fun v143 =>
  bO (aR M127 6 v143 (0 : Int32)) fun v147 =>
  bO (rcv M127 v131 6) fun _ =>
  bO (P_X6_times G F v131 v139 v19 v147 M127) fun M148 =>
  bO (gfR M148 l0 3 2) fun v152 =>
  bO (aR M148 6 l1 (1 : Int32)) fun v157 =>
  bO (gfR M148 l0 3 11) fun v159 =>
  bO (aR M148 6 v159 (0 : Int32)) fun v163 =>
  bO (gfR M148 l0 3 11) fun v165 =>
  bO (aR M148 6 v165 (2 : Int32)) fun v169 =>
  bO (rcv M148 v152 6) fun _ =>
  bO (P_X6_times G F v152 v157 v163 v169 M148) fun M170 =>
  bO (gfR M170 l0 3 2) fun v174 =>
  bO (gfR M170 l0 3 11) fun v178 =>
  bO (aR M170 6 v178 (2 : Int32)) fun v182 =>
  bO (gfR M170 l0 3 11) fun v185 =>
  bO (aR M170 6 v185 (2 : Int32)) fun v189 =>
  bO (rcv M170 v174 6) fun _ =>
  bO (P_X6_minus G F v174 v182 v12 v189 M170) fun M190 =>
  bO (gfR M190 l0 3 2) fun v194 =>
  bO (gfR M190 l0 3 11) fun v198 =>
  bO (aR M190 6 v198 (1 : Int32)) fun v202 =>
  bO (rcv M190 v194 6) fun _ =>
  bP (P_X6_isZero G F v194 v202 M190) fun v203 M203 =>
  if v203 = 0 then (B_X3_add_227 G F l0 v5 v12 v19 M203)
  else (bO (gfR M203 l0 3 2) fun v210 =>
  bO (gfR M203 l0 3 11) fun v214 =>
  bO (aR M203 6 v214 (2 : Int32)) fun v218 =>
  bO (rcv M203 v210 6) fun _ =>
  bP (P_X6_isZero G F v210 v218 M203) fun v219 M219 =>
  if v219 = 0 then (B_X3_add_227 G F l0 v5 v12 v19 M219)
  else (retZ (0 : Int32) M219)))
  else (bO (aR M28 6 l1 (0 : Int32)) fun v36 =>
  bO (cpL G M28 v36 (0 : Int32) v5 (0 : Int32) (8 : Int32)) fun M42 =>
  bO (aR M42 6 l1 (1 : Int32)) fun v47 =>
  bO (cpL G M42 v47 (0 : Int32) v12 (0 : Int32) (8 : Int32)) fun M53 =>
  bO (gfR M53 l0 3 9) fun v57 =>
  bO (cpL G M53 v57 (0 : Int32) v19 (0 : Int32) (8 : Int32)) fun M66 =>
  retZ (1 : Int32) M66)
def B_X3_sumUp_81 (G : mG) (F : Nat) (r29 : Nat → Nat → Nat → Nat → Nat → Int32 → mM → Option mM) (l0 : Nat) (l1 : Nat) (l2 : Nat) (l3 : Nat) (l4 : Nat) (l5 : Int32) (l6 : Int32) (M : mM) : Option mM :=
  bO (rcv M l3 0) fun _ =>
  bP (P_X0_get G F l3 (l5 / (8 : Int32)) M) fun v87 M87 =>
  if ((v87 >>> (l6 &&& 31)) &&& (1 : Int32)) = (1 : Int32) then (bO (rcv M87 l0 3) fun _ =>
  bP (P_X3_add G F l0 l4 M87) fun v102 M102 =>
  if v102 = 0 then (bO (rcv M102 l0 3) fun _ =>
  bO (P_X3_twice G F l0 M102) fun M109 =>
  r29 l0 l1 l2 l3 l4 (l5 + 1) M109)
  else (r29 l0 l1 l2 l3 l4 (l5 + 1) M102))
  else (r29 l0 l1 l2 l3 l4 (l5 + 1) M87)
def B_X3_sumUp_29 (G : mG) (F : Nat) : Nat → Nat → Nat → Nat → Nat → Nat → Int32 → mM → Option mM
  | 0, _, _, _, _, _, _, _ => none
  | n + 1, l0, l1, l2, l3, l4, l5, M =>
  if (256 : Int32) ≤ l5 then (some M)
  else (bO (rcv M l0 3) fun _ =>
  bO (P_X3_twice G F l0 M) fun M38 =>
  bO (rcv M38 l1 0) fun _ =>
  bP (P_X0_get G F l1 (l5 / (8 : Int32)) M38) fun v57 M57 =>
  if ((v57 >>> (((7 : Int32) - (l5 &&& (7 : Int32))) &&& 31)) &&& (1 : Int32)) = (1 : Int32) then (bO (rcv M57 l0 3) fun _ =>
  bP (P_X3_add G F l0 l2 M57) fun v71 M71 =>
  if v71 = 0 then (bO (rcv M71 l0 3) fun _ =>
  bO (P_X3_twice G F l0 M71) fun M78 =>
  B_X3_sumUp_81 G F (B_X3_sumUp_29 G F n) l0 l1 l2 l3 l4 l5 ((7 : Int32) - (l5 &&& (7 : Int32))) M78)
  else (B_X3_sumUp_81 G F (B_X3_sumUp_29 G F n) l0 l1 l2 l3 l4 l5 ((7 : Int32) - (l5 &&& (7 : Int32))) M71))
  else (B_X3_sumUp_81 G F (B_X3_sumUp_29 G F n) l0 l1 l2 l3 l4 l5 ((7 : Int32) - (l5 &&& (7 : Int32))) M57))
def B_X3_sumUp_3 (G : mG) (F : Nat) : Nat → Nat → Nat → Nat → Nat → Nat → Int32 → mM → Option mM
  | 0, _, _, _, _, _, _, _ => none
  | n + 1, l0, l1, l2, l3, l4, l5, M =>
  if (8 : Int32) ≤ l5 then (B_X3_sumUp_29 G F F l0 l1 l2 l3 l4 (0 : Int32) M)
  else (bO (gfR M l0 3 10) fun v11 =>
  bO (aR M 6 v11 (2 : Int32)) fun v15 =>
  bO (sL M v15 l5 (0 : Int64)) fun M19 =>
  B_X3_sumUp_3 G F n l0 l1 l2 l3 l4 (l5 + 1) M19)
def P_X3_sumUp (G : mG) (F : Nat) (l0 : Nat) (l1 : Nat) (l2 : Nat) (l3 : Nat) (l4 : Nat) (M : mM) : Option mM :=
  B_X3_sumUp_3 G F F l0 l1 l2 l3 l4 (0 : Int32) M
def P_X6_leadBack (G : mG) (F : Nat) (l0 : Nat) (l1 : Nat) (M : mM) : Option mM :=
  bO (gfR M l0 6 3) fun v3 =>
  bO (rcv M l0 6) fun _ =>
  bO (P_X6_times G F l0 l1 v3 l1 M) fun M7 =>
  some M7
def B_X6_raise_68 (G : mG) (F : Nat) (r35 : Nat → Nat → Nat → Int32 → Int32 → mM → Option mM) (l0 : Nat) (l2 : Nat) (l3 : Nat) (l4 : Int32) (l5 : Int32) (M : mM) : Option mM :=
  bO (rcv M l2 0) fun _ =>
  bP (P_X0_get G F l2 (l5 / (8 : Int32)) M) fun v74 M74 =>
  if ((v74 >>> (((7 : Int32) - (l5 &&& (7 : Int32))) &&& 31)) &&& (1 : Int32)) = (1 : Int32) then (bO (gfR M74 l0 6 5) fun v94 =>
  bO (gfR M74 l0 6 6) fun v98 =>
  bO (gfR M74 l0 6 5) fun v102 =>
  bO (rcv M74 l0 6) fun _ =>
  bO (P_X6_times G F l0 v94 v98 v102 M74) fun M105 =>
  r35 l0 l2 l3 (1 : Int32) (l5 + 1) M105)
  else (r35 l0 l2 l3 l4 (l5 + 1) M74)
def B_X6_raise_35 (G : mG) (F : Nat) : Nat → Nat → Nat → Nat → Int32 → Int32 → mM → Option mM
  | 0, _, _, _, _, _, _ => none
  | n + 1, l0, l2, l3, l4, l5, M =>
  bO (gfI M l2 0 1) fun v40 =>
  if ((8 : Int32) * v40) ≤ l5 then (bO (gfR M l0 6 5) fun v119 =>
  bO (gfR M l0 6 3) fun v123 =>
  bO (rcv M l0 6) fun _ =>
  bO (P_X6_times G F l0 v119 v123 l3 M) fun M127 =>
  some M127)
  else (if l4 = 0 then (B_X6_raise_68 G F (B_X6_raise_35 G F n) l0 l2 l3 l4 l5 M)
  else (bO (gfR M l0 6 5) fun v54 =>
  bO (gfR M l0 6 5) fun v58 =>
  bO (gfR M l0 6 5) fun v62 =>
  bO (rcv M l0 6) fun _ =>
  bO (P_X6_times G F l0 v54 v58 v62 M) fun M65 =>
  B_X6_raise_68 G F (B_X6_raise_35 G F n) l0 l2 l3 l4 l5 M65))
def P_X6_raise (G : mG) (F : Nat) (l0 : Nat) (l1 : Nat) (l2 : Nat) (l3 : Nat) (M : mM) : Option mM :=
  bO (gfR M l0 6 4) fun v3 =>
  bO (gfR M l0 6 6) fun v7 =>
  bO (rcv M l0 6) fun _ =>
  bO (P_X6_times G F l0 l1 v3 v7 M) fun M10 =>
  bO (gfR M10 l0 6 3) fun v15 =>
  bO (gfR M10 l0 6 4) fun v19 =>
  bO (gfR M10 l0 6 5) fun v23 =>
  bO (rcv M10 l0 6) fun _ =>
  bO (P_X6_times G F l0 v15 v19 v23 M10) fun M26 =>
  B_X6_raise_35 G F F l0 l2 l3 (0 : Int32) (0 : Int32) M26
def B_X6_give_5 (G : mG) (F : Nat) : Nat → Nat → Nat → Nat → Int32 → mM → Option mM
  | 0, _, _, _, _, _ => none
  | n + 1, l0, l1, l3, l4, M =>
  if l4 < 0 then (some M)
  else (bO (gfI M l0 6 0) fun v16 =>
  if v16 ≤ (l4 / (4 : Int32)) then (bO (rcv M l3 0) fun _ =>
  bO (P_X0_put G F l3 (0 : Int32) M) fun M41 =>
  B_X6_give_5 G F n l0 l1 l3 (l4 + (-1)) M41)
  else (bO (aL G M l1 (l4 / (4 : Int32))) fun v27 =>
  bO (rcv M l3 0) fun _ =>
  bO (P_X0_put G F l3 ((ushL v27 ((8 : Int32) * (l4 &&& (3 : Int32)))).toInt32) M) fun M41 =>
  B_X6_give_5 G F n l0 l1 l3 (l4 + (-1)) M41))
def P_X6_give (G : mG) (F : Nat) (l0 : Nat) (l1 : Nat) (l2 : Int32) (l3 : Nat) (M : mM) : Option mM :=
  B_X6_give_5 G F F l0 l1 l3 (l2 - (1 : Int32)) M
def P_X3_putSum (G : mG) (F : Nat) (l0 : Nat) (l1 : Nat) (M : mM) : Option (Int32 × mM) :=
  bO (gfR M l0 3 2) fun v1 =>
  bO (gfR M l0 3 10) fun v5 =>
  bO (aR M 6 v5 (2 : Int32)) fun v9 =>
  bO (rcv M v1 6) fun _ =>
  bP (P_X6_isZero G F v1 v9 M) fun v10 M10 =>
  if v10 = 0 then (bO (gfR M10 l0 3 2) fun v19 =>
  bO (gfR M10 l0 3 10) fun v23 =>
  bO (aR M10 6 v23 (2 : Int32)) fun v27 =>
  bO (rcv M10 v19 6) fun _ =>
  bO (P_X6_leadBack G F v19 v27 M10) fun M28 =>
  bO (gfR M28 l0 3 2) fun v32 =>
  bO (gfR M28 l0 3 10) fun v36 =>
  bO (aR M28 6 v36 (2 : Int32)) fun v40 =>
  bO (gfR M28 l0 3 5) fun v42 =>
  bO (gfR M28 l0 3 11) fun v46 =>
  bO (aR M28 6 v46 (0 : Int32)) fun v50 =>
  bO (rcv M28 v32 6) fun _ =>
  bO (P_X6_raise G F v32 v40 v42 v50 M28) fun M51 =>
  bO (gfR M51 l0 3 2) fun v55 =>
  bO (gfR M51 l0 3 11) fun v59 =>
  bO (aR M51 6 v59 (0 : Int32)) fun v63 =>
  bO (rcv M51 v55 6) fun _ =>
  bO (P_X6_lead G F v55 v63 M51) fun M64 =>
  bO (gfR M64 l0 3 2) fun v68 =>
  bO (gfR M64 l0 3 11) fun v72 =>
  bO (aR M64 6 v72 (0 : Int32)) fun v76 =>
  bO (gfR M64 l0 3 11) fun v78 =>
  bO (aR M64 6 v78 (0 : Int32)) fun v82 =>
  bO (gfR M64 l0 3 11) fun v84 =>
  bO (aR M64 6 v84 (1 : Int32)) fun v88 =>
  bO (rcv M64 v68 6) fun _ =>
  bO (P_X6_times G F v68 v76 v82 v88 M64) fun M89 =>
  bO (gfR M89 l0 3 2) fun v93 =>
  bO (gfR M89 l0 3 11) fun v97 =>
  bO (aR M89 6 v97 (1 : Int32)) fun v101 =>
  bO (gfR M89 l0 3 11) fun v103 =>
  bO (aR M89 6 v103 (0 : Int32)) fun v107 =>
  bO (gfR M89 l0 3 11) fun v109 =>
  bO (aR M89 6 v109 (2 : Int32)) fun v113 =>
  bO (rcv M89 v93 6) fun _ =>
  bO (P_X6_times G F v93 v101 v107 v113 M89) fun M114 =>
  bO (gfR M114 l0 3 2) fun v118 =>
  bO (gfR M114 l0 3 10) fun v122 =>
  bO (aR M114 6 v122 (0 : Int32)) fun v126 =>
  bO (gfR M114 l0 3 11) fun v128 =>
  bO (aR M114 6 v128 (1 : Int32)) fun v132 =>
  bO (gfR M114 l0 3 11) fun v134 =>
  bO (aR M114 6 v134 (1 : Int32)) fun v138 =>
  bO (rcv M114 v118 6) fun _ =>
  bO (P_X6_times G F v118 v126 v132 v138 M114) fun M139 =>
  bO (gfR M139 l0 3 2) fun v143 =>
  bO (gfR M139 l0 3 10) fun v147 =>
  bO (aR M139 6 v147 (1 : Int32)) fun v151 =>
  bO (gfR M139 l0 3 11) fun v153 =>
  bO (aR M139 6 v153 (2 : Int32)) fun v157 =>
  bO (gfR M139 l0 3 11) fun v159 =>
  bO (aR M139 6 v159 (2 : Int32)) fun v163 =>
  bO (rcv M139 v143 6) fun _ =>
  bO (P_X6_times G F v143 v151 v157 v163 M139) fun M164 =>
  bO (gfR M164 l0 3 2) fun v168 =>
  bO (gfR M164 l0 3 11) fun v172 =>
  bO (aR M164 6 v172 (1 : Int32)) fun v176 =>
  bO (rcv M164 v168 6) fun _ =>
  bO (P_X6_leadBack G F v168 v176 M164) fun M177 =>
  bO (gfR M177 l0 3 2) fun v181 =>
  bO (gfR M177 l0 3 11) fun v185 =>
  bO (aR M177 6 v185 (2 : Int32)) fun v189 =>
  bO (rcv M177 v181 6) fun _ =>
  bO (P_X6_leadBack G F v181 v189 M177) fun M190 =>
  bO (rcv M190 l1 0) fun _ =>
  bO (P_X0_clear G F l1 M190) fun M194 =>
  bO (gfR M194 l0 3 2) fun v198 =>
  bO (gfR M194 l0 3 11) fun v202 =>
  bO (aR M194 6 v202 (1 : Int32)) fun v206 =>
  bO (rcv M194 v198 6) fun _ =>
  bO (P_X6_give G F v198 v206 (32 : Int32) l1 M194) fun M210 =>
  bO (gfR M210 l0 3 2) fun v214 =>
  bO (gfR M210 l0 3 11) fun v218 =>
  bO (aR M210 6 v218 (2 : Int32)) fun v222 =>
  bO (rcv M210 v214 6) fun _ =>
  bO (P_X6_give G F v214 v222 (32 : Int32) l1 M210) fun M226 =>
  retZ (1 : Int32) M226)
  else (retZ (0 : Int32) M10)
def P_X3_isPair (G : mG) (F : Nat) (l0 : Nat) (l1 : Nat) (l2 : Nat) (M : mM) : Option (Int32 × mM) :=
  bO (rcv M l0 3) fun _ =>
  bP (P_X3_isSecret G F l0 l1 (0 : Int32) M) fun v3 M3 =>
  if v3 = 0 then (retZ (0 : Int32) M3)
  else (bO (gfR M3 l0 3 0) fun v14 =>
  bO (gfR M3 l0 3 15) fun v18 =>
  bO (gfR M3 l0 3 0) fun v22 =>
  bO (rcv M3 l0 3) fun _ =>
  bO (P_X3_sumUp G F l0 l1 v14 v18 v22 M3) fun M25 =>
  bO (gfR M25 l0 3 12) fun v30 =>
  bO (rcv M25 l0 3) fun _ =>
  bP (P_X3_putSum G F l0 v30 M25) fun v33 M33 =>
  if v33 = 0 then (retZ (0 : Int32) M33)
  else (bO (gfR M33 l0 3 12) fun v40 =>
  bO (rcv M33 v40 0) fun _ =>
  bP (P_X0_same G F v40 l2 M33) fun v44 M44 =>
  if v44 = 0 then (retZ (0 : Int32) M44)
  else (retZ (1 : Int32) M44)))
def P_X3_putSignature (G : mG) (F : Nat) (l0 : Nat) (l1 : Nat) (l2 : Nat) (l3 : Nat) (l4 : Nat) (M : mM) : Option (Int32 × mM) :=
  bO (gfI M l3 0 1) fun v1 =>
  if v1 < (32 : Int32) then (retZ (0 : Int32) M)
  else (bO (rcv M l0 3) fun _ =>
  bP (P_X3_isSecret G F l0 l3 (0 : Int32) M) fun v12 M12 =>
  if v12 = 0 then (retZ (0 : Int32) M12)
  else (bO (gfR M12 l0 3 14) fun v21 =>
  bO (rcv M12 v21 0) fun _ =>
  bO (P_X0_clear G F v21 M12) fun M24 =>
  bO (gfR M24 l0 3 14) fun v28 =>
  bO (rcv M24 v28 0) fun _ =>
  bO (P_X0_putPart G F v28 l3 (0 : Int32) (32 : Int32) M24) fun M35 =>
  bO (gfR M35 l0 3 14) fun v40 =>
  bO (gfR M35 l0 3 0) fun v44 =>
  bO (gfR M35 l0 3 15) fun v48 =>
  bO (gfR M35 l0 3 0) fun v52 =>
  bO (rcv M35 l0 3) fun _ =>
  bO (P_X3_sumUp G F l0 v40 v44 v48 v52 M35) fun M55 =>
  bO (gfR M55 l0 3 12) fun v60 =>
  bO (rcv M55 l0 3) fun _ =>
  bP (P_X3_putSum G F l0 v60 M55) fun v63 M63 =>
  bO (gfR M63 l0 3 11) fun v68 =>
  bO (aR M63 6 v68 (0 : Int32)) fun v72 =>
  bO (gfR M63 l0 3 11) fun v76 =>
  bO (aR M63 6 v76 (1 : Int32)) fun v80 =>
  bO (gfR M63 l0 3 11) fun v84 =>
  bO (aR M63 6 v84 (2 : Int32)) fun v88 =>
  bO (gfR M63 l0 3 3) fun v92 =>
  bO (gfR M63 l0 3 12) fun v96 =>
  bO (rcv M63 v92 6) fun _ =>
  bO (P_X6_take G F v92 v96 (0 : Int32) (32 : Int32) v72 M63) fun M104 =>
  bO (gfR M104 l0 3 3) fun v108 =>
  bO (rcv M104 v108 6) fun _ =>
  bO (P_X6_take G F v108 l2 (0 : Int32) (32 : Int32) v88 M104) fun M117 =>
  bO (gfR M117 l0 3 3) fun v121 =>
  bO (rcv M117 v121 6) fun _ =>
  bO (P_X6_lead G F v121 v88 M117) fun M126 =>
  bO (gfR M126 l0 3 3) fun v130 =>
  bO (rcv M126 v130 6) fun _ =>
  bO (P_X6_times G F v130 v72 v88 v80 M126) fun M139 =>
  bO (gfR M139 l0 3 3) fun v143 =>
  bO (rcv M139 v143 6) fun _ =>
  bO (P_X6_take G F v143 l1 (0 : Int32) (32 : Int32) v88 M139) fun M152 =>
  bO (gfR M152 l0 3 3) fun v156 =>
  bO (rcv M152 v156 6) fun _ =>
  bO (P_X6_plus G F v156 v80 v88 v80 M152) fun M165 =>
  bO (gfR M165 l0 3 3) fun v169 =>
  bO (rcv M165 v169 6) fun _ =>
  bO (P_X6_take G F v169 l3 (0 : Int32) (32 : Int32) v88 M165) fun M178 =>
  bO (gfR M178 l0 3 3) fun v182 =>
  bO (gfR M178 l0 3 7) fun v188 =>
  bO (rcv M178 v182 6) fun _ =>
  bO (P_X6_raise G F v182 v88 v188 v88 M178) fun M193 =>
  bO (gfR M193 l0 3 3) fun v197 =>
  bO (rcv M193 v197 6) fun _ =>
  bO (P_X6_lead G F v197 v88 M193) fun M202 =>
  bO (gfR M202 l0 3 3) fun v206 =>
  bO (rcv M202 v206 6) fun _ =>
  bO (P_X6_times G F v206 v80 v88 v80 M202) fun M215 =>
  bO (gfR M215 l0 3 3) fun v219 =>
  bO (rcv M215 v219 6) fun _ =>
  bP (P_X6_isZero G F v219 v72 M215) fun v224 M224 =>
  if v224 = 0 then (bO (gfR M224 l0 3 3) fun v231 =>
  bO (rcv M224 v231 6) fun _ =>
  bP (P_X6_isZero G F v231 v80 M224) fun v236 M236 =>
  if v236 = 0 then (bO (rcv M236 l4 0) fun _ =>
  bO (P_X0_clear G F l4 M236) fun M246 =>
  bO (gfR M246 l0 3 3) fun v250 =>
  bO (rcv M246 v250 6) fun _ =>
  bO (P_X6_give G F v250 v72 (32 : Int32) l4 M246) fun M259 =>
  bO (gfR M259 l0 3 3) fun v263 =>
  bO (rcv M259 v263 6) fun _ =>
  bO (P_X6_give G F v263 v80 (32 : Int32) l4 M259) fun M272 =>
  retZ (1 : Int32) M272)
  else (retZ (0 : Int32) M236))
  else (retZ (0 : Int32) M224)))
def P_X3_isSignatureRight (G : mG) (F : Nat) (l0 : Nat) (l1 : Nat) (l2 : Nat) (l3 : Nat) (M : mM) : Option (Int32 × mM) :=
  bO (gfI M l2 0 1) fun v1 =>
  if v1 = (64 : Int32) then (bO (rcv M l0 3) fun _ =>
  bP (P_X3_isSecret G F l0 l2 (0 : Int32) M) fun v12 M12 =>
  if v12 = 0 then (retZ (0 : Int32) M12)
  else (bO (rcv M12 l0 3) fun _ =>
  bP (P_X3_isSecret G F l0 l2 (32 : Int32) M12) fun v22 M22 =>
  if v22 = 0 then (retZ (0 : Int32) M22)
  else (bO (rcv M22 l0 3) fun _ =>
  bP (P_X3_load G F l0 l3 M22) fun v30 M30 =>
  if v30 = 0 then (retZ (0 : Int32) M30)
  else (bO (gfR M30 l0 3 11) fun v39 =>
  bO (aR M30 6 v39 (0 : Int32)) fun v43 =>
  bO (gfR M30 l0 3 11) fun v47 =>
  bO (aR M30 6 v47 (1 : Int32)) fun v51 =>
  bO (gfR M30 l0 3 3) fun v55 =>
  bO (rcv M30 v55 6) fun _ =>
  bO (P_X6_take G F v55 l2 (32 : Int32) (32 : Int32) v43 M30) fun M65 =>
  bO (gfR M65 l0 3 3) fun v69 =>
  bO (gfR M65 l0 3 7) fun v75 =>
  bO (rcv M65 v69 6) fun _ =>
  bO (P_X6_raise G F v69 v43 v75 v43 M65) fun M80 =>
  bO (gfR M80 l0 3 3) fun v84 =>
  bO (rcv M80 v84 6) fun _ =>
  bO (P_X6_lead G F v84 v43 M80) fun M89 =>
  bO (gfR M89 l0 3 3) fun v93 =>
  bO (rcv M89 v93 6) fun _ =>
  bO (P_X6_take G F v93 l1 (0 : Int32) (32 : Int32) v51 M89) fun M102 =>
  bO (gfR M102 l0 3 3) fun v106 =>
  bO (rcv M102 v106 6) fun _ =>
  bO (P_X6_times G F v106 v51 v43 v51 M102) fun M115 =>
  bO (gfR M115 l0 3 13) fun v119 =>
  bO (rcv M115 v119 0) fun _ =>
  bO (P_X0_clear G F v119 M115) fun M122 =>
  bO (gfR M122 l0 3 3) fun v126 =>
  bO (gfR M122 l0 3 13) fun v134 =>
  bO (rcv M122 v126 6) fun _ =>
  bO (P_X6_give G F v126 v51 (32 : Int32) v134 M122) fun M137 =>
  bO (gfR M137 l0 3 3) fun v141 =>
  bO (rcv M137 v141 6) fun _ =>
  bO (P_X6_take G F v141 l2 (0 : Int32) (32 : Int32) v51 M137) fun M150 =>
  bO (gfR M150 l0 3 3) fun v154 =>
  bO (rcv M150 v154 6) fun _ =>
  bO (P_X6_times G F v154 v51 v43 v51 M150) fun M163 =>
  bO (gfR M163 l0 3 14) fun v167 =>
  bO (rcv M163 v167 0) fun _ =>
  bO (P_X0_clear G F v167 M163) fun M170 =>
  bO (gfR M170 l0 3 3) fun v174 =>
  bO (gfR M170 l0 3 14) fun v182 =>
  bO (rcv M170 v174 6) fun _ =>
  bO (P_X6_give G F v174 v51 (32 : Int32) v182 M170) fun M185 =>
  bO (gfR M185 l0 3 13) fun v190 =>
  bO (gfR M185 l0 3 0) fun v194 =>
  bO (gfR M185 l0 3 14) fun v198 =>
  bO (gfR M185 l0 3 1) fun v202 =>
  bO (rcv M185 l0 3) fun _ =>
  bO (P_X3_sumUp G F l0 v190 v194 v198 v202 M185) fun M205 =>
  bO (gfR M205 l0 3 12) fun v210 =>
  bO (rcv M205 l0 3) fun _ =>
  bP (P_X3_putSum G F l0 v210 M205) fun v213 M213 =>
  if v213 = 0 then (retZ (0 : Int32) M213)
  else (bO (gfR M213 l0 3 3) fun v222 =>
  bO (gfR M213 l0 3 12) fun v226 =>
  bO (gfR M213 l0 3 11) fun v233 =>
  bO (aR M213 6 v233 (0 : Int32)) fun v237 =>
  bO (rcv M213 v222 6) fun _ =>
  bO (P_X6_take G F v222 v226 (0 : Int32) (32 : Int32) v237 M213) fun M238 =>
  bO (gfR M238 l0 3 3) fun v242 =>
  bO (gfR M238 l0 3 11) fun v250 =>
  bO (aR M238 6 v250 (1 : Int32)) fun v254 =>
  bO (rcv M238 v242 6) fun _ =>
  bO (P_X6_take G F v242 l2 (0 : Int32) (32 : Int32) v254 M238) fun M255 =>
  bO (gfR M255 l0 3 3) fun v259 =>
  bO (gfR M255 l0 3 11) fun v263 =>
  bO (aR M255 6 v263 (0 : Int32)) fun v267 =>
  bO (gfR M255 l0 3 11) fun v269 =>
  bO (aR M255 6 v269 (1 : Int32)) fun v273 =>
  bO (rcv M255 v259 6) fun _ =>
  bP (P_X6_areSame G F v259 v267 v273 M255) fun v274 M274 =>
  retZ v274 M274)))))
  else (retZ (0 : Int32) M)
def P_X4_init (G : mG) (F : Nat) (l0 : Nat) (M : mM) (sz : Nat) (sl : Nat) : Option (mM × Nat × Nat) :=
  bO (pfv M l0 4 1 (.int (64 : Int32))) fun M7 =>
  bO (nwA M7 sz 0 (128 : Int32)) fun M14 =>
  bO (pfv M14 l0 4 2 (.ref sz)) fun M16 =>
  bO (nwA M16 (sz + 1) 0 (8 : Int32)) fun M22 =>
  bO (pfv M22 l0 4 5 (.ref (sz + 1))) fun M24 =>
  bO (nwA M24 ((sz + 1) + 1) 0 (64 : Int32)) fun M30 =>
  bO (pfv M30 l0 4 6 (.ref ((sz + 1) + 1))) fun M32 =>
  bO (nwA M32 (((sz + 1) + 1) + 1) 2 (8 : Int32)) fun M38 =>
  bO (pfv M38 l0 4 7 (.ref (((sz + 1) + 1) + 1))) fun M40 =>
  bO (nwA M40 ((((sz + 1) + 1) + 1) + 1) 2 (80 : Int32)) fun M46 =>
  bO (pfv M46 l0 4 8 (.ref ((((sz + 1) + 1) + 1) + 1))) fun M48 =>
  bO (nwA M48 (((((sz + 1) + 1) + 1) + 1) + 1) 0 (128 : Int32)) fun M55 =>
  bO (pfv M55 l0 4 9 (.ref (((((sz + 1) + 1) + 1) + 1) + 1))) fun M57 =>
  bO (some (nwO M57 ((((((sz + 1) + 1) + 1) + 1) + 1) + 1) 0 dfX0)) fun M61 =>
  bA (P_X0_init G F ((((((sz + 1) + 1) + 1) + 1) + 1) + 1) (64 : Int32) M61 (((((((sz + 1) + 1) + 1) + 1) + 1) + 1) + 1) (((((((sl + ((128 : Int32)).toNatClampNeg) + ((8 : Int32)).toNatClampNeg) + ((64 : Int32)).toNatClampNeg) + ((8 : Int32)).toNatClampNeg) + ((80 : Int32)).toNatClampNeg) + ((128 : Int32)).toNatClampNeg) + 3)) fun M67 z67 k67 =>
  bO (pfv M67 l0 4 10 (.ref ((((((sz + 1) + 1) + 1) + 1) + 1) + 1))) fun M70 =>
  some (M70, z67, k67)
def B_X4_putDerived_10 (G : mG) (F : Nat) : Nat → Nat → Nat → Nat → Nat → Nat → Int32 → Nat → Int32 → mM → Option mM
  | 0, _, _, _, _, _, _, _, _, _ => none
  | n + 1, l0, l1, l2, l3, l4, l5, l6, l7, M =>
  if (2 : Int32) < l7 then (bO (gfR M l0 4 10) fun v132 =>
  bO (rcv M v132 0) fun _ =>
  bO (P_X0_cutTo G F v132 l5 M) fun M137 =>
  bO (gfR M137 l0 4 10) fun v143 =>
  bO (rcv M137 l6 0) fun _ =>
  bO (P_X0_become G F l6 v143 M137) fun M146 =>
  some M146)
  else (bO (gfR M l0 4 10) fun v17 =>
  bO (gfI M v17 0 1) fun v20 =>
  if l5 ≤ v20 then (bO (gfR M l0 4 10) fun v132 =>
  bO (rcv M v132 0) fun _ =>
  bO (P_X0_cutTo G F v132 l5 M) fun M137 =>
  bO (gfR M137 l0 4 10) fun v143 =>
  bO (rcv M137 l6 0) fun _ =>
  bO (P_X0_become G F l6 v143 M137) fun M146 =>
  some M146)
  else (bO (rcv M l0 4) fun _ =>
  bO (P_X4_start G F l0 (256 : Int32) M) fun M32 =>
  bO (rcv M32 l0 4) fun _ =>
  bO (P_X4_addWord G F l0 l7 M32) fun M38 =>
  bO (gfI M38 l1 0 1) fun v45 =>
  bO (rcv M38 l0 4) fun _ =>
  bO (P_X4_add G F l0 l1 (0 : Int32) v45 M38) fun M48 =>
  bO (gfI M48 l2 0 1) fun v53 =>
  bO (rcv M48 l0 4) fun _ =>
  bO (P_X4_addWord G F l0 v53 M48) fun M56 =>
  bO (gfI M56 l2 0 1) fun v63 =>
  bO (rcv M56 l0 4) fun _ =>
  bO (P_X4_add G F l0 l2 (0 : Int32) v63 M56) fun M66 =>
  bO (gfI M66 l3 0 1) fun v71 =>
  bO (rcv M66 l0 4) fun _ =>
  bO (P_X4_addWord G F l0 v71 M66) fun M74 =>
  bO (gfI M74 l3 0 1) fun v81 =>
  bO (rcv M74 l0 4) fun _ =>
  bO (P_X4_add G F l0 l3 (0 : Int32) v81 M74) fun M84 =>
  bO (gfI M84 l4 0 1) fun v90 =>
  bO (rcv M84 l0 4) fun _ =>
  bO (P_X4_addWord G F l0 v90 M84) fun M93 =>
  bO (gfI M93 l4 0 1) fun v102 =>
  bO (rcv M93 l0 4) fun _ =>
  bO (P_X4_add G F l0 l4 (0 : Int32) v102 M93) fun M105 =>
  bO (rcv M105 l0 4) fun _ =>
  bO (P_X4_addWord G F l0 ((8 : Int32) * l5) M105) fun M114 =>
  bO (gfR M114 l0 4 10) fun v119 =>
  bO (rcv M114 l0 4) fun _ =>
  bO (P_X4_finish G F l0 v119 M114) fun M122 =>
  B_X4_putDerived_10 G F n l0 l1 l2 l3 l4 l5 l6 (l7 + 1) M122))
def P_X4_putDerived (G : mG) (F : Nat) (l0 : Nat) (l1 : Nat) (l2 : Nat) (l3 : Nat) (l4 : Nat) (l5 : Int32) (l6 : Nat) (M : mM) : Option mM :=
  bO (gfR M l0 4 10) fun v1 =>
  bO (rcv M v1 0) fun _ =>
  bO (P_X0_clear G F v1 M) fun M4 =>
  B_X4_putDerived_10 G F F l0 l1 l2 l3 l4 l5 l6 (1 : Int32) M4
def P_X5_init (G : mG) (F : Nat) (l0 : Nat) (M : mM) (sz : Nat) (sl : Nat) : Option (mM × Nat × Nat) :=
  bO (pfv M l0 5 3 (.int (-1 : Int32))) fun M6 =>
  bO (some (nwO M6 sz 0 dfX0)) fun M10 =>
  bA (P_X0_init G F sz (128 : Int32) M10 (sz + 1) (sl + 3)) fun M17 z17 k17 =>
  bO (pfv M17 l0 5 6 (.ref sz)) fun M20 =>
  bO (some (nwO M20 z17 0 dfX0)) fun M24 =>
  bA (P_X0_init G F z17 (128 : Int32) M24 (z17 + 1) (k17 + 3)) fun M31 z31 k31 =>
  bO (pfv M31 l0 5 7 (.ref z17)) fun M34 =>
  bO (some (nwO M34 z31 0 dfX0)) fun M38 =>
  bA (P_X0_init G F z31 (128 : Int32) M38 (z31 + 1) (k31 + 3)) fun M45 z45 k45 =>
  bO (pfv M45 l0 5 8 (.ref z31)) fun M48 =>
  bO (some (nwO M48 z45 0 dfX0)) fun M52 =>
  bA (P_X0_init G F z45 (64 : Int32) M52 (z45 + 1) (k45 + 3)) fun M58 z58 k58 =>
  bO (pfv M58 l0 5 9 (.ref z45)) fun M61 =>
  some (M61, z58, k58)
def P_X9_has (G : mG) (F : Nat) (l0 : Nat) (l1 : Int32) (M : mM) : Option (Int32 × mM) :=
  if l1 < 0 then (retZ (0 : Int32) M)
  else (bO (gfI M l0 9 0) fun v6 =>
  if v6 ≤ l1 then (retZ (0 : Int32) M)
  else (retZ (1 : Int32) M))
def P_X9_isKind (G : mG) (F : Nat) (l0 : Nat) (l1 : Int32) (l2 : Int32) (M : mM) : Option (Int32 × mM) :=
  bO (rcv M l0 9) fun _ =>
  bP (P_X9_has G F l0 l1 M) fun v2 M2 =>
  if v2 = 0 then (retZ (0 : Int32) M2)
  else (bO (gfR M2 l0 9 1) fun v9 =>
  bO (aI G M2 0 v9 l1) fun v13 =>
  if v13 = l2 then (retZ (1 : Int32) M2)
  else (retZ (0 : Int32) M2))
def B_X9_poolSpells_13 (G : mG) (F : Nat) : Nat → Nat → Int32 → Int32 → Nat → Int32 → mM → Option (Int32 × mM)
  | 0, _, _, _, _, _, _ => none
  | n + 1, l0, l1, l2, l3, l4, M =>
  if l2 ≤ l4 then (retZ (1 : Int32) M)
  else (bO (gfR M l0 9 10) fun v20 =>
  bO (rcv M v20 0) fun _ =>
  bP (P_X0_get G F v20 (l1 + l4) M) fun v27 M27 =>
  bO (rcs G l3) fun _ =>
  bP (P_J0_charAt_5068e G F l3 l4 M27) fun v33 M33 =>
  if v27 = v33 then (B_X9_poolSpells_13 G F n l0 l1 l2 l3 (l4 + 1) M33)
  else (retZ (0 : Int32) M33))
def P_X9_poolSpells (G : mG) (F : Nat) (l0 : Nat) (l1 : Int32) (l2 : Int32) (l3 : Nat) (M : mM) : Option (Int32 × mM) :=
  bO (rcs G l3) fun _ =>
  bP (P_J0_length_8abf5 G F l3 M) fun v2 M2 =>
  if l2 = v2 then (B_X9_poolSpells_13 G F F l0 l1 l2 l3 (0 : Int32) M2)
  else (retZ (0 : Int32) M2)
def B_X9_find_16 (G : mG) (F : Nat) : Nat → Nat → Int32 → Nat → Int32 → mM → Option (Int32 × mM)
  | 0, _, _, _, _, _ => none
  | n + 1, l0, l1, l2, l3, M =>
  bO (gfI M l0 9 0) fun v18 =>
  if v18 ≤ l3 then (some ((-1 : Int32), M))
  else (bO (gfR M l0 9 2) fun v25 =>
  bO (aI G M 0 v25 l3) fun v29 =>
  if v29 = l1 then (bO (gfR M l0 9 8) fun v36 =>
  bO (aI G M 0 v36 l3) fun v40 =>
  bO (gfR M l0 9 9) fun v42 =>
  bO (aI G M 0 v42 l3) fun v46 =>
  bO (rcv M l0 9) fun _ =>
  bP (P_X9_poolSpells G F l0 v40 v46 l2 M) fun v48 M48 =>
  if v48 = 0 then (B_X9_find_16 G F n l0 l1 l2 (l3 + 1) M48)
  else (some (l3, M48)))
  else (B_X9_find_16 G F n l0 l1 l2 (l3 + 1) M))
def P_X9_find (G : mG) (F : Nat) (l0 : Nat) (l1 : Int32) (l2 : Nat) (M : mM) : Option (Int32 × mM) :=
  bO (rcv M l0 9) fun _ =>
  bP (P_X9_isKind G F l0 l1 (6 : Int32) M) fun v4 M4 =>
  if v4 = 0 then (some ((-1 : Int32), M4))
  else (B_X9_find_16 G F F l0 l1 l2 (l1 + (1 : Int32)) M4)
def P_X9_says (G : mG) (F : Nat) (l0 : Nat) (l1 : Int32) (l2 : Nat) (M : mM) : Option (Int32 × mM) :=
  bO (rcv M l0 9) fun _ =>
  bP (P_X9_isKind G F l0 l1 (4 : Int32) M) fun v3 M3 =>
  if v3 = 0 then (retZ (0 : Int32) M3)
  else (bO (gfR M3 l0 9 6) fun v11 =>
  bO (aI G M3 0 v11 l1) fun v15 =>
  bO (gfR M3 l0 9 7) fun v17 =>
  bO (aI G M3 0 v17 l1) fun v21 =>
  bO (rcv M3 l0 9) fun _ =>
  bP (P_X9_poolSpells G F l0 v15 v21 l2 M3) fun v23 M23 =>
  if v23 = 0 then (retZ (0 : Int32) M23)
  else (retZ (1 : Int32) M23))
def P_X9_isStringOrNone (G : mG) (F : Nat) (l0 : Nat) (l1 : Int32) (M : mM) : Option (Int32 × mM) :=
  if l1 = (-1 : Int32) then (retZ (1 : Int32) M)
  else (bO (rcv M l0 9) fun _ =>
  bP (P_X9_isKind G F l0 l1 (4 : Int32) M) fun v8 M8 =>
  if v8 = 0 then (retZ (0 : Int32) M8)
  else (retZ (1 : Int32) M8))
def P_X9_areLetters (G : mG) (F : Nat) (l0 : Nat) (l1 : Int32) (M : mM) : Option (Int32 × mM) :=
  bO (rcv M l0 9) fun _ =>
  bP (P_X9_isKind G F l0 l1 (4 : Int32) M) fun v3 M3 =>
  if v3 = 0 then (retZ (0 : Int32) M3)
  else (bO (gfR M3 l0 9 10) fun v10 =>
  bO (gfR M3 l0 9 6) fun v14 =>
  bO (aI G M3 0 v14 l1) fun v18 =>
  bO (gfR M3 l0 9 6) fun v20 =>
  bO (aI G M3 0 v20 l1) fun v24 =>
  bO (gfR M3 l0 9 7) fun v26 =>
  bO (aI G M3 0 v26 l1) fun v30 =>
  bP (P_X0_letterFault G F v10 v18 (v24 + v30) M3) fun v32 M32 =>
  if v32 = (-1 : Int32) then (retZ (1 : Int32) M32)
  else (retZ (0 : Int32) M32))
def P_X5_isPointThere (G : mG) (F : Nat) (l0 : Nat) (l1 : Int32) (M : mM) : Option (Int32 × mM) :=
  bO (rcv M l0 9) fun _ =>
  bP (P_X9_find G F l0 l1 (G.1 27) M) fun v5 M5 =>
  bO (rcv M5 l0 9) fun _ =>
  bP (P_X9_says G F l0 v5 (G.1 28) M5) fun v10 M10 =>
  if v10 = 0 then (retZ (0 : Int32) M10)
  else (bO (rcv M10 l0 9) fun _ =>
  bP (P_X9_find G F l0 l1 (G.1 29) M10) fun v21 M21 =>
  bO (rcv M21 l0 9) fun _ =>
  bP (P_X9_areLetters G F l0 v21 M21) fun v24 M24 =>
  if v24 = 0 then (retZ (0 : Int32) M24)
  else (bO (rcv M24 l0 9) fun _ =>
  bP (P_X9_find G F l0 l1 (G.1 30) M24) fun v35 M35 =>
  bO (rcv M35 l0 9) fun _ =>
  bP (P_X9_areLetters G F l0 v35 M35) fun v38 M38 =>
  if v38 = 0 then (retZ (0 : Int32) M38)
  else (retZ (1 : Int32) M38)))
def B_X5_areLettersThere_68 (G : mG) (F : Nat) (l0 : Nat) (l1 : Nat) (sk0 : Int32) (M : mM) : Option (Int32 × mM) :=
  if sk0 = 0 then (retZ (0 : Int32) M)
  else (bO (gfI M l0 5 5) fun v74 =>
  if v74 = 0 then (retZ (1 : Int32) M)
  else (bO (rcv M l1 9) fun _ =>
  bP (P_X9_find G F l1 (0 : Int32) (G.1 23) M) fun v85 M85 =>
  bO (rcv M85 l1 9) fun _ =>
  bP (P_X9_areLetters G F l1 v85 M85) fun v88 M88 =>
  if v88 = 0 then (retZ (0 : Int32) M88)
  else (retZ (1 : Int32) M88)))
def P_X5_areLettersThere (G : mG) (F : Nat) (l0 : Nat) (l1 : Nat) (M : mM) : Option (Int32 × mM) :=
  bO (gfI M l0 5 1) fun v1 =>
  if v1 = 0 then (bO (rcv M l1 9) fun _ =>
  bP (P_X9_find G F l1 (0 : Int32) (G.1 24) M) fun v12 M12 =>
  bO (rcv M12 l1 9) fun _ =>
  bP (P_X9_areLetters G F l1 v12 M12) fun v15 M15 =>
  retZ v15 M15)
  else (bO (gfI M l0 5 1) fun v20 =>
  if v20 = (1 : Int32) then (bO (rcv M l1 9) fun _ =>
  bP (P_X9_find G F l1 (0 : Int32) (G.1 25) M) fun v32 M32 =>
  bO (rcv M32 l1 9) fun _ =>
  bP (P_X9_areLetters G F l1 v32 M32) fun v35 M35 =>
  if v35 = 0 then (B_X5_areLettersThere_68 G F l0 l1 (0 : Int32) M35)
  else (bO (rcv M35 l1 9) fun _ =>
  bP (P_X9_find G F l1 (0 : Int32) (G.1 26) M35) fun v46 M46 =>
  bO (rcv M46 l1 9) fun _ =>
  bP (P_X9_areLetters G F l1 v46 M46) fun v49 M49 =>
  if v49 = 0 then (B_X5_areLettersThere_68 G F l0 l1 (0 : Int32) M49)
  else (B_X5_areLettersThere_68 G F l0 l1 (1 : Int32) M49)))
  else (bP (P_X5_isPointThere G F l1 (0 : Int32) M) fun v65 M65 =>
  B_X5_areLettersThere_68 G F l0 l1 v65 M65))
def P_X9_putLettered (G : mG) (F : Nat) (l0 : Nat) (l1 : Int32) (l2 : Int32) (l3 : Int32) (l4 : Nat) (M : mM) : Option (Int32 × mM) :=
  bO (rcv M l0 9) fun _ =>
  bP (P_X9_has G F l0 l1 M) fun v2 M2 =>
  if v2 = 0 then (retZ (0 : Int32) M2)
  else (bO (gfR M2 l0 9 7) fun v11 =>
  bO (aI G M2 0 v11 l1) fun v15 =>
  bP (P_X0_bytesFor G F v15 M2) fun v16 M16 =>
  if v16 < l2 then (retZ (0 : Int32) M16)
  else (if v16 ≤ l3 then (bO (gfR M16 l0 9 10) fun v38 =>
  bO (gfR M16 l0 9 6) fun v42 =>
  bO (aI G M16 0 v42 l1) fun v46 =>
  bO (gfR M16 l0 9 6) fun v48 =>
  bO (aI G M16 0 v48 l1) fun v52 =>
  bO (gfR M16 l0 9 7) fun v54 =>
  bO (aI G M16 0 v54 l1) fun v58 =>
  bO (rcv M16 l4 0) fun _ =>
  bO (P_X0_putUnlettered G F l4 v38 v46 (v52 + v58) M16) fun M60 =>
  retZ (1 : Int32) M60)
  else (retZ (0 : Int32) M16)))
def P_X6_suits (G : mG) (F : Nat) (l0 : Nat) (M : mM) : Option (Int32 × mM) :=
  bO (gfI M l0 0 1) fun v1 =>
  if v1 < (1 : Int32) then (retZ (0 : Int32) M)
  else (bO (gfI M l0 0 1) fun v9 =>
  if (128 : Int32) < v9 then (retZ (0 : Int32) M)
  else (bO (rcv M l0 0) fun _ =>
  bP (P_X0_get G F l0 (0 : Int32) M) fun v20 M20 =>
  if v20 = 0 then (retZ (0 : Int32) M20)
  else (bO (gfI M20 l0 0 1) fun v28 =>
  bO (rcv M20 l0 0) fun _ =>
  bP (P_X0_get G F l0 (v28 - (1 : Int32)) M20) fun v33 M33 =>
  if (v33 &&& (1 : Int32)) = (1 : Int32) then (bO (gfI M33 l0 0 1) fun v43 =>
  if (1 : Int32) < v43 then (retZ (1 : Int32) M33)
  else (bO (rcv M33 l0 0) fun _ =>
  bP (P_X0_get G F l0 (0 : Int32) M33) fun v52 M52 =>
  if v52 ≤ (1 : Int32) then (retZ (0 : Int32) M52)
  else (retZ (1 : Int32) M52)))
  else (retZ (0 : Int32) M33))))
def P_X5_takeRsa (G : mG) (F : Nat) (l0 : Nat) (l1 : Nat) (M : mM) : Option (Int32 × mM) :=
  bO (rcv M l1 9) fun _ =>
  bP (P_X9_find G F l1 (0 : Int32) (G.1 25) M) fun v5 M5 =>
  bO (gfR M5 l0 5 6) fun v14 =>
  bO (rcv M5 l1 9) fun _ =>
  bP (P_X9_putLettered G F l1 v5 (64 : Int32) (128 : Int32) v14 M5) fun v17 M17 =>
  if v17 = 0 then (retZ (0 : Int32) M17)
  else (bO (gfR M17 l0 5 6) fun v24 =>
  bP (P_X6_suits G F v24 M17) fun v27 M27 =>
  if v27 = 0 then (retZ (0 : Int32) M27)
  else (bO (rcv M27 l1 9) fun _ =>
  bP (P_X9_find G F l1 (0 : Int32) (G.1 26) M27) fun v40 M40 =>
  bO (gfR M40 l0 5 7) fun v48 =>
  bO (rcv M40 l1 9) fun _ =>
  bP (P_X9_putLettered G F l1 v40 (1 : Int32) (128 : Int32) v48 M40) fun v51 M51 =>
  if v51 = 0 then (retZ (0 : Int32) M51)
  else (bO (gfR M51 l0 5 7) fun v58 =>
  bP (P_X6_suits G F v58 M51) fun v61 M61 =>
  if v61 = 0 then (retZ (0 : Int32) M61)
  else (bO (gfR M61 l0 5 7) fun v68 =>
  bO (gfR M61 l0 5 6) fun v72 =>
  bP (P_X0_isBelow G F v68 v72 M61) fun v75 M75 =>
  if v75 = 0 then (retZ (0 : Int32) M75)
  else (bO (gfI M75 l0 5 5) fun v84 =>
  if v84 = 0 then (retZ (1 : Int32) M75)
  else (bO (rcv M75 l1 9) fun _ =>
  bP (P_X9_find G F l1 (0 : Int32) (G.1 23) M75) fun v95 M95 =>
  bO (gfR M95 l0 5 8) fun v103 =>
  bO (rcv M95 l1 9) fun _ =>
  bP (P_X9_putLettered G F l1 v95 (1 : Int32) (128 : Int32) v103 M95) fun v106 M106 =>
  if v106 = 0 then (retZ (0 : Int32) M106)
  else (bO (gfR M106 l0 5 8) fun v113 =>
  bO (rcv M106 v113 0) fun _ =>
  bP (P_X0_get G F v113 (0 : Int32) M106) fun v117 M117 =>
  if v117 = 0 then (retZ (0 : Int32) M117)
  else (bO (gfR M117 l0 5 8) fun v124 =>
  bO (gfR M117 l0 5 6) fun v128 =>
  bP (P_X0_isBelow G F v124 v128 M117) fun v131 M131 =>
  if v131 = 0 then (retZ (0 : Int32) M131)
  else (retZ (1 : Int32) M131)))))))))
def P_X5_takePoint (G : mG) (F : Nat) (l0 : Nat) (l1 : Int32) (l2 : Nat) (M : mM) : Option (Int32 × mM) :=
  bO (rcv M l0 9) fun _ =>
  bP (P_X9_find G F l0 l1 (G.1 29) M) fun v5 M5 =>
  bO (rcv M5 l0 9) fun _ =>
  bP (P_X9_putLettered G F l0 v5 (32 : Int32) (32 : Int32) l2 M5) fun v13 M13 =>
  if v13 = 0 then (retZ (0 : Int32) M13)
  else (bO (rcv M13 l0 9) fun _ =>
  bP (P_X9_find G F l0 l1 (G.1 30) M13) fun v24 M24 =>
  bO (rcv M24 l0 9) fun _ =>
  bP (P_X9_putLettered G F l0 v24 (32 : Int32) (32 : Int32) l2 M24) fun v32 M32 =>
  if v32 = 0 then (retZ (0 : Int32) M32)
  else (retZ (1 : Int32) M32))
def P_X5_takeCurveSecret (G : mG) (F : Nat) (l0 : Nat) (l1 : Nat) (M : mM) : Option (Int32 × mM) :=
  bO (gfI M l0 5 5) fun v1 =>
  if v1 = 0 then (retZ (1 : Int32) M)
  else (bO (rcv M l1 9) fun _ =>
  bP (P_X9_find G F l1 (0 : Int32) (G.1 23) M) fun v12 M12 =>
  bO (gfR M12 l0 5 8) fun v20 =>
  bO (rcv M12 l1 9) fun _ =>
  bP (P_X9_putLettered G F l1 v12 (32 : Int32) (32 : Int32) v20 M12) fun v23 M23 =>
  if v23 = 0 then (retZ (0 : Int32) M23)
  else (retZ (1 : Int32) M23))
def P_X11_algName (G : mG) (F : Nat) (l0 : Int32) (M : mM) : Option (Nat × mM) :=
  if l0 = (0 : Int32) then (some ((G.1 33), M))
  else (if l0 = (1 : Int32) then (some ((G.1 34), M))
  else (if l0 = (2 : Int32) then (some ((G.1 35), M))
  else (if l0 = (3 : Int32) then (some ((G.1 36), M))
  else (if l0 = (4 : Int32) then (some ((G.1 37), M))
  else (if l0 = (5 : Int32) then (some ((G.1 38), M))
  else (if l0 = (6 : Int32) then (some ((G.1 39), M))
  else (if l0 = (7 : Int32) then (some ((G.1 40), M))
  else (if l0 = (8 : Int32) then (some ((G.1 41), M))
  else (if l0 = (9 : Int32) then (some ((G.1 42), M))
  else (some ((G.1 43), M)))))))))))
def B_X5_makeKidRoom_42 (G : mG) (F : Nat) (l0 : Nat) (l2 : Int32) (sk0 : Int32) (sk1 : Int32) (M : mM) (sz : Nat) (sl : Nat) : Option (mM × Nat × Nat) :=
  if sk0 ≤ sk1 then (some (M, sz, sl))
  else (bO (some (nwO M sz 0 dfX0)) fun M46 =>
  bA (P_X0_init G F sz l2 M46 (sz + 1) (sl + 3)) fun M51 z51 k51 =>
  bO (pfv M51 l0 5 9 (.ref sz)) fun M54 =>
  some (M54, z51, k51))
def B_X5_makeKidRoom_23 (G : mG) (F : Nat) (r14 : Nat → Int32 → Int32 → mM → Nat → Nat → Option (mM × Nat × Nat)) (l0 : Nat) (l1 : Int32) (l2 : Int32) (sk0 : Int32) (sk1 : Int32) (M : mM) (sz : Nat) (sl : Nat) : Option (mM × Nat × Nat) :=
  if sk1 ≤ sk0 then (bO (gfR M l0 5 9) fun v35 =>
  bO (gfR M v35 0 0) fun v38 =>
  bO (aln G M v38) fun v41 =>
  B_X5_makeKidRoom_42 G F l0 l2 l2 v41 M sz sl)
  else (r14 l0 l1 (l2 * (2 : Int32)) M sz sl)
def B_X5_makeKidRoom_16 (G : mG) (F : Nat) (r14 : Nat → Int32 → Int32 → mM → Nat → Nat → Option (mM × Nat × Nat)) (l0 : Nat) (l1 : Int32) (l2 : Int32) (sk0 : Int32) (sk1 : Int32) (M : mM) (sz : Nat) (sl : Nat) : Option (mM × Nat × Nat) :=
  if sk1 ≤ sk0 then (bO (gfR M l0 5 9) fun v35 =>
  bO (gfR M v35 0 0) fun v38 =>
  bO (aln G M v38) fun v41 =>
  B_X5_makeKidRoom_42 G F l0 l2 l2 v41 M sz sl)
  else (B_X5_makeKidRoom_23 G F r14 l0 l1 l2 l2 (8192 : Int32) M sz sl)
def B_X5_makeKidRoom_14 (G : mG) (F : Nat) : Nat → Nat → Int32 → Int32 → mM → Nat → Nat → Option (mM × Nat × Nat)
  | 0, _, _, _, _, _, _ => none
  | n + 1, l0, l1, l2, M, sz, sl =>
  B_X5_makeKidRoom_16 G F (B_X5_makeKidRoom_14 G F n) l0 l1 l2 l2 l1 M sz sl
def P_X5_makeKidRoom (G : mG) (F : Nat) (l0 : Nat) (l1 : Int32) (M : mM) (sz : Nat) (sl : Nat) : Option (mM × Nat × Nat) :=
  bO (gfR M l0 5 9) fun v1 =>
  bO (gfR M v1 0 0) fun v4 =>
  bO (aln G M v4) fun v7 =>
  B_X5_makeKidRoom_14 G F F l0 l1 (if v7 < (64 : Int32) then (64 : Int32) else v7) M sz sl
def B_X5_takeUse_143 (G : mG) (F : Nat) (l0 : Nat) (l1 : Nat) (l4 : Int32) (sk0 : Int32) (M : mM) (sz : Nat) (sl : Nat) : Option (mM × Nat × Nat) :=
  if sk0 = 0 then (some (M, sz, sl))
  else (bO (gfR M l1 9 7) fun v148 =>
  bO (aI G M 0 v148 l4) fun v153 =>
  bO (rcv M l0 5) fun _ =>
  bA (P_X5_makeKidRoom G F l0 v153 M sz sl) fun M154 z154 k154 =>
  bO (gfR M154 l0 5 9) fun v158 =>
  bO (gfR M154 l1 9 10) fun v162 =>
  bO (gfR M154 l1 9 6) fun v166 =>
  bO (aI G M154 0 v166 l4) fun v171 =>
  bO (gfR M154 l1 9 7) fun v173 =>
  bO (aI G M154 0 v173 l4) fun v178 =>
  bO (rcv M154 v158 0) fun _ =>
  bO (P_X0_putPart G F v158 v162 v171 v178 M154) fun M179 =>
  some (M179, z154, k154))
def B_X5_takeUse_121 (G : mG) (F : Nat) (l0 : Nat) (l1 : Nat) (l4 : Int32) (sk0 : Nat) (sk1 : Int32) (sk2 : Int32) (M : mM) (sz : Nat) (sl : Nat) : Option (mM × Nat × Nat) :=
  if sk1 = sk2 then (bO (pfZ M sk0 5 4 (0 : Int32)) fun M129 =>
  bO (gfR M129 l0 5 9) fun v133 =>
  bO (rcv M129 v133 0) fun _ =>
  bO (P_X0_clear G F v133 M129) fun M136 =>
  bO (gfI M136 l0 5 4) fun v140 =>
  B_X5_takeUse_143 G F l0 l1 l4 v140 M136 sz sl)
  else (bO (pfZ M sk0 5 4 (1 : Int32)) fun M129 =>
  bO (gfR M129 l0 5 9) fun v133 =>
  bO (rcv M129 v133 0) fun _ =>
  bO (P_X0_clear G F v133 M129) fun M136 =>
  bO (gfI M136 l0 5 4) fun v140 =>
  B_X5_takeUse_143 G F l0 l1 l4 v140 M136 sz sl)
def B_X5_takeUse_93 (G : mG) (F : Nat) (r76 : Nat → Nat → Int32 → Int32 → mM → Nat → Nat → Option (mM × Nat × Nat)) (l0 : Nat) (l1 : Nat) (l3 : Int32) (l4 : Int32) (sk0 : Int32) (M : mM) (sz : Nat) (sl : Nat) : Option (mM × Nat × Nat) :=
  if sk0 = 0 then (r76 l0 l1 l3 (l4 + 1) M sz sl)
  else (bO (pfv M l0 5 3 (.int l4)) fun M99 =>
  r76 l0 l1 l3 (l4 + 1) M99 sz sl)
def B_X5_takeUse_80 (G : mG) (F : Nat) (r76 : Nat → Nat → Int32 → Int32 → mM → Nat → Nat → Option (mM × Nat × Nat)) (l0 : Nat) (l1 : Nat) (l3 : Int32) (l4 : Int32) (sk0 : Int32) (sk1 : Int32) (M : mM) (sz : Nat) (sl : Nat) : Option (mM × Nat × Nat) :=
  if sk1 ≤ sk0 then (bO (rcv M l1 9) fun _ =>
  bP (P_X9_find G F l1 (0 : Int32) (G.1 20) M) fun v112 M112 =>
  B_X5_takeUse_121 G F l0 l1 v112 l0 v112 (-1 : Int32) M112 sz sl)
  else (bP (P_X11_algName G F l4 M) fun v87 M87 =>
  bO (rcv M87 l1 9) fun _ =>
  bP (P_X9_says G F l1 l3 v87 M87) fun v90 M90 =>
  B_X5_takeUse_93 G F r76 l0 l1 l3 l4 v90 M90 sz sl)
def B_X5_takeUse_76 (G : mG) (F : Nat) : Nat → Nat → Nat → Int32 → Int32 → mM → Nat → Nat → Option (mM × Nat × Nat)
  | 0, _, _, _, _, _, _, _ => none
  | n + 1, l0, l1, l3, l4, M, sz, sl =>
  B_X5_takeUse_80 G F (B_X5_takeUse_76 G F n) l0 l1 l3 l4 l4 (11 : Int32) M sz sl
def B_X5_takeUse_61 (G : mG) (F : Nat) (l0 : Nat) (l1 : Nat) (l3 : Int32) (sk0 : Nat) (sk1 : Int32) (sk2 : Int32) (M : mM) (sz : Nat) (sl : Nat) : Option (mM × Nat × Nat) :=
  if sk1 = sk2 then (bO (pfv M sk0 5 3 (.int (-1 : Int32))) fun M70 =>
  B_X5_takeUse_76 G F F l0 l1 l3 (0 : Int32) M70 sz sl)
  else (bO (pfv M sk0 5 3 (.int (11 : Int32))) fun M70 =>
  B_X5_takeUse_76 G F F l0 l1 l3 (0 : Int32) M70 sz sl)
def B_X5_takeUse_39 (G : mG) (F : Nat) (l0 : Nat) (l1 : Nat) (sk0 : Nat) (sk1 : Int32) (M : mM) (sz : Nat) (sl : Nat) : Option (mM × Nat × Nat) :=
  if sk1 = 0 then (bO (pfv M sk0 5 2 (.int (3 : Int32))) fun M47 =>
  bO (rcv M47 l1 9) fun _ =>
  bP (P_X9_find G F l1 (0 : Int32) (G.1 22) M47) fun v54 M54 =>
  B_X5_takeUse_61 G F l0 l1 v54 l0 v54 (-1 : Int32) M54 sz sl)
  else (bO (pfv M sk0 5 2 (.int (2 : Int32))) fun M47 =>
  bO (rcv M47 l1 9) fun _ =>
  bP (P_X9_find G F l1 (0 : Int32) (G.1 22) M47) fun v54 M54 =>
  B_X5_takeUse_61 G F l0 l1 v54 l0 v54 (-1 : Int32) M54 sz sl)
def B_X5_takeUse_25 (G : mG) (F : Nat) (l0 : Nat) (l1 : Nat) (l2 : Int32) (sk0 : Nat) (sk1 : Int32) (M : mM) (sz : Nat) (sl : Nat) : Option (mM × Nat × Nat) :=
  if sk1 = 0 then (bO (rcv M l1 9) fun _ =>
  bP (P_X9_says G F l1 l2 (G.1 32) M) fun v36 M36 =>
  B_X5_takeUse_39 G F l0 l1 sk0 v36 M36 sz sl)
  else (bO (pfv M sk0 5 2 (.int (1 : Int32))) fun M47 =>
  bO (rcv M47 l1 9) fun _ =>
  bP (P_X9_find G F l1 (0 : Int32) (G.1 22) M47) fun v54 M54 =>
  B_X5_takeUse_61 G F l0 l1 v54 l0 v54 (-1 : Int32) M54 sz sl)
def B_X5_takeUse_11 (G : mG) (F : Nat) (l0 : Nat) (l1 : Nat) (l2 : Int32) (sk0 : Nat) (sk1 : Int32) (sk2 : Int32) (M : mM) (sz : Nat) (sl : Nat) : Option (mM × Nat × Nat) :=
  if sk1 = sk2 then (bO (pfv M sk0 5 2 (.int (0 : Int32))) fun M47 =>
  bO (rcv M47 l1 9) fun _ =>
  bP (P_X9_find G F l1 (0 : Int32) (G.1 22) M47) fun v54 M54 =>
  B_X5_takeUse_61 G F l0 l1 v54 l0 v54 (-1 : Int32) M54 sz sl)
  else (bO (rcv M l1 9) fun _ =>
  bP (P_X9_says G F l1 l2 (G.1 31) M) fun v22 M22 =>
  B_X5_takeUse_25 G F l0 l1 l2 sk0 v22 M22 sz sl)
def P_X5_takeUse (G : mG) (F : Nat) (l0 : Nat) (l1 : Nat) (M : mM) (sz : Nat) (sl : Nat) : Option (mM × Nat × Nat) :=
  bO (rcv M l1 9) fun _ =>
  bP (P_X9_find G F l1 (0 : Int32) (G.1 21) M) fun v4 M4 =>
  B_X5_takeUse_11 G F l0 l1 v4 l0 v4 (-1 : Int32) M4 sz sl
def B_X5_reasonAgainst_251 (G : mG) (F : Nat) (l0 : Nat) (l1 : Nat) (sk0 : Int32) (M : mM) (sz : Nat) (sl : Nat) : Option (Int32 × mM × Nat × Nat) :=
  if sk0 = 0 then (some ((6 : Int32), M, sz, sl))
  else (bO (rcv M l0 5) fun _ =>
  bA (P_X5_takeUse G F l0 l1 M sz sl) fun M259 z259 k259 =>
  some ((0 : Int32), M259, z259, k259))
def B_X5_reasonAgainst_241 (G : mG) (F : Nat) (l0 : Nat) (l1 : Nat) (sk0 : Int32) (M : mM) (sz : Nat) (sl : Nat) : Option (Int32 × mM × Nat × Nat) :=
  if sk0 = 0 then (B_X5_reasonAgainst_251 G F l0 l1 (0 : Int32) M sz sl)
  else (B_X5_reasonAgainst_251 G F l0 l1 (1 : Int32) M sz sl)
def B_X5_reasonAgainst_233 (G : mG) (F : Nat) (l0 : Nat) (l1 : Nat) (sk0 : Int32) (M : mM) (sz : Nat) (sl : Nat) : Option (Int32 × mM × Nat × Nat) :=
  if sk0 = 0 then (B_X5_reasonAgainst_251 G F l0 l1 (0 : Int32) M sz sl)
  else (bO (rcv M l0 5) fun _ =>
  bP (P_X5_takeCurveSecret G F l0 l1 M) fun v238 M238 =>
  B_X5_reasonAgainst_241 G F l0 l1 v238 M238 sz sl)
def B_X5_reasonAgainst_213 (G : mG) (F : Nat) (l0 : Nat) (l1 : Nat) (sk0 : Int32) (sk1 : Int32) (M : mM) (sz : Nat) (sl : Nat) : Option (Int32 × mM × Nat × Nat) :=
  if sk0 = sk1 then (bO (rcv M l0 5) fun _ =>
  bP (P_X5_takeRsa G F l0 l1 M) fun v218 M218 =>
  B_X5_reasonAgainst_251 G F l0 l1 v218 M218 sz sl)
  else (bO (gfR M l0 5 6) fun v227 =>
  bP (P_X5_takePoint G F l1 (0 : Int32) v227 M) fun v230 M230 =>
  B_X5_reasonAgainst_233 G F l0 l1 v230 M230 sz sl)
def B_X5_reasonAgainst_183 (G : mG) (F : Nat) (l0 : Nat) (l1 : Nat) (sk0 : Int32) (M : mM) (sz : Nat) (sl : Nat) : Option (Int32 × mM × Nat × Nat) :=
  if sk0 = 0 then (bO (rcv M l1 9) fun _ =>
  bP (P_X9_find G F l1 (0 : Int32) (G.1 24) M) fun v191 M191 =>
  bO (gfR M191 l0 5 6) fun v199 =>
  bO (rcv M191 l1 9) fun _ =>
  bP (P_X9_putLettered G F l1 v191 (1 : Int32) (128 : Int32) v199 M191) fun v202 M202 =>
  B_X5_reasonAgainst_251 G F l0 l1 v202 M202 sz sl)
  else (bO (gfI M l0 5 1) fun v209 =>
  B_X5_reasonAgainst_213 G F l0 l1 v209 (1 : Int32) M sz sl)
def B_X5_reasonAgainst_153 (G : mG) (F : Nat) (l0 : Nat) (l1 : Nat) (sk0 : Int32) (M : mM) (sz : Nat) (sl : Nat) : Option (Int32 × mM × Nat × Nat) :=
  if sk0 = 0 then (some ((5 : Int32), M, sz, sl))
  else (bO (gfR M l0 5 6) fun v159 =>
  bO (rcv M v159 0) fun _ =>
  bO (P_X0_clear G F v159 M) fun M162 =>
  bO (gfR M162 l0 5 7) fun v166 =>
  bO (rcv M162 v166 0) fun _ =>
  bO (P_X0_clear G F v166 M162) fun M169 =>
  bO (gfR M169 l0 5 8) fun v173 =>
  bO (rcv M169 v173 0) fun _ =>
  bO (P_X0_clear G F v173 M169) fun M176 =>
  bO (gfI M176 l0 5 1) fun v180 =>
  B_X5_reasonAgainst_183 G F l0 l1 v180 M176 sz sl)
def B_X5_reasonAgainst_137 (G : mG) (F : Nat) (l0 : Nat) (l1 : Nat) (sk0 : Nat) (sk1 : Int32) (sk2 : Int32) (M : mM) (sz : Nat) (sl : Nat) : Option (Int32 × mM × Nat × Nat) :=
  if sk1 = sk2 then (bO (pfZ M sk0 5 5 (0 : Int32)) fun M145 =>
  bO (rcv M145 l0 5) fun _ =>
  bP (P_X5_areLettersThere G F l0 l1 M145) fun v150 M150 =>
  B_X5_reasonAgainst_153 G F l0 l1 v150 M150 sz sl)
  else (bO (pfZ M sk0 5 5 (1 : Int32)) fun M145 =>
  bO (rcv M145 l0 5) fun _ =>
  bP (P_X5_areLettersThere G F l0 l1 M145) fun v150 M150 =>
  B_X5_reasonAgainst_153 G F l0 l1 v150 M150 sz sl)
def B_X5_reasonAgainst_126 (G : mG) (F : Nat) (l0 : Nat) (l1 : Nat) (sk0 : Nat) (sk1 : Int32) (M : mM) (sz : Nat) (sl : Nat) : Option (Int32 × mM × Nat × Nat) :=
  if sk1 = 0 then (bO (pfZ M sk0 5 5 (0 : Int32)) fun M145 =>
  bO (rcv M145 l0 5) fun _ =>
  bP (P_X5_areLettersThere G F l0 l1 M145) fun v150 M150 =>
  B_X5_reasonAgainst_153 G F l0 l1 v150 M150 sz sl)
  else (bO (rcv M l1 9) fun _ =>
  bP (P_X9_find G F l1 (0 : Int32) (G.1 23) M) fun v133 M133 =>
  B_X5_reasonAgainst_137 G F l0 l1 sk0 v133 (-1 : Int32) M133 sz sl)
def B_X5_reasonAgainst_116 (G : mG) (F : Nat) (l0 : Nat) (l1 : Nat) (sk0 : Int32) (M : mM) (sz : Nat) (sl : Nat) : Option (Int32 × mM × Nat × Nat) :=
  if sk0 = 0 then (some ((4 : Int32), M, sz, sl))
  else (bO (gfI M l0 5 1) fun v123 =>
  B_X5_reasonAgainst_126 G F l0 l1 l0 v123 M sz sl)
def B_X5_reasonAgainst_102 (G : mG) (F : Nat) (l0 : Nat) (l1 : Nat) (sk0 : Int32) (M : mM) (sz : Nat) (sl : Nat) : Option (Int32 × mM × Nat × Nat) :=
  if sk0 = 0 then (some ((4 : Int32), M, sz, sl))
  else (bO (rcv M l1 9) fun _ =>
  bP (P_X9_find G F l1 (0 : Int32) (G.1 22) M) fun v110 M110 =>
  bO (rcv M110 l1 9) fun _ =>
  bP (P_X9_isStringOrNone G F l1 v110 M110) fun v113 M113 =>
  B_X5_reasonAgainst_116 G F l0 l1 v113 M113 sz sl)
def B_X5_reasonAgainst_88 (G : mG) (F : Nat) (l0 : Nat) (l1 : Nat) (sk0 : Int32) (M : mM) (sz : Nat) (sl : Nat) : Option (Int32 × mM × Nat × Nat) :=
  if sk0 = 0 then (some ((4 : Int32), M, sz, sl))
  else (bO (rcv M l1 9) fun _ =>
  bP (P_X9_find G F l1 (0 : Int32) (G.1 21) M) fun v96 M96 =>
  bO (rcv M96 l1 9) fun _ =>
  bP (P_X9_isStringOrNone G F l1 v96 M96) fun v99 M99 =>
  B_X5_reasonAgainst_102 G F l0 l1 v99 M99 sz sl)
def B_X5_reasonAgainst_72 (G : mG) (F : Nat) (l0 : Nat) (l1 : Nat) (sk0 : Int32) (sk1 : Int32) (M : mM) (sz : Nat) (sl : Nat) : Option (Int32 × mM × Nat × Nat) :=
  if sk0 = sk1 then (some ((3 : Int32), M, sz, sl))
  else (bO (rcv M l1 9) fun _ =>
  bP (P_X9_find G F l1 (0 : Int32) (G.1 20) M) fun v82 M82 =>
  bO (rcv M82 l1 9) fun _ =>
  bP (P_X9_isStringOrNone G F l1 v82 M82) fun v85 M85 =>
  B_X5_reasonAgainst_88 G F l0 l1 v85 M85 sz sl)
def B_X5_reasonAgainst_56 (G : mG) (F : Nat) (l0 : Nat) (l1 : Nat) (sk0 : Nat) (sk1 : Int32) (M : mM) (sz : Nat) (sl : Nat) : Option (Int32 × mM × Nat × Nat) :=
  if sk1 = 0 then (bO (pfv M sk0 5 1 (.int (-1 : Int32))) fun M64 =>
  bO (gfI M64 l0 5 1) fun v68 =>
  B_X5_reasonAgainst_72 G F l0 l1 v68 (-1 : Int32) M64 sz sl)
  else (bO (pfv M sk0 5 1 (.int (2 : Int32))) fun M64 =>
  bO (gfI M64 l0 5 1) fun v68 =>
  B_X5_reasonAgainst_72 G F l0 l1 v68 (-1 : Int32) M64 sz sl)
def B_X5_reasonAgainst_42 (G : mG) (F : Nat) (l0 : Nat) (l1 : Nat) (l2 : Int32) (sk0 : Nat) (sk1 : Int32) (M : mM) (sz : Nat) (sl : Nat) : Option (Int32 × mM × Nat × Nat) :=
  if sk1 = 0 then (bO (rcv M l1 9) fun _ =>
  bP (P_X9_says G F l1 l2 (G.1 19) M) fun v53 M53 =>
  B_X5_reasonAgainst_56 G F l0 l1 sk0 v53 M53 sz sl)
  else (bO (pfv M sk0 5 1 (.int (1 : Int32))) fun M64 =>
  bO (gfI M64 l0 5 1) fun v68 =>
  B_X5_reasonAgainst_72 G F l0 l1 v68 (-1 : Int32) M64 sz sl)
def B_X5_reasonAgainst_28 (G : mG) (F : Nat) (l0 : Nat) (l1 : Nat) (l2 : Int32) (sk0 : Nat) (sk1 : Int32) (M : mM) (sz : Nat) (sl : Nat) : Option (Int32 × mM × Nat × Nat) :=
  if sk1 = 0 then (bO (rcv M l1 9) fun _ =>
  bP (P_X9_says G F l1 l2 (G.1 18) M) fun v39 M39 =>
  B_X5_reasonAgainst_42 G F l0 l1 l2 sk0 v39 M39 sz sl)
  else (bO (pfv M sk0 5 1 (.int (0 : Int32))) fun M64 =>
  bO (gfI M64 l0 5 1) fun v68 =>
  B_X5_reasonAgainst_72 G F l0 l1 v68 (-1 : Int32) M64 sz sl)
def B_X5_reasonAgainst_7 (G : mG) (F : Nat) (l0 : Nat) (l1 : Nat) (sk0 : Int32) (M : mM) (sz : Nat) (sl : Nat) : Option (Int32 × mM × Nat × Nat) :=
  if sk0 = 0 then (some ((2 : Int32), M, sz, sl))
  else (bO (rcv M l1 9) fun _ =>
  bP (P_X9_find G F l1 (0 : Int32) (G.1 16) M) fun v16 M16 =>
  bO (rcv M16 l1 9) fun _ =>
  bP (P_X9_says G F l1 v16 (G.1 17) M16) fun v25 M25 =>
  B_X5_reasonAgainst_28 G F l0 l1 v16 l0 v25 M25 sz sl)
def P_X5_reasonAgainst (G : mG) (F : Nat) (l0 : Nat) (l1 : Nat) (M : mM) (sz : Nat) (sl : Nat) : Option (Int32 × mM × Nat × Nat) :=
  bO (rcv M l1 9) fun _ =>
  bP (P_X9_isKind G F l1 (0 : Int32) (6 : Int32) M) fun v4 M4 =>
  B_X5_reasonAgainst_7 G F l0 l1 v4 M4 sz sl
def B_X5_maySign_84 (G : mG) (F : Nat) (l0 : Nat) (l2 : Int32) (sk0 : Int32) (M : mM) : Option (Int32 × mM) :=
  bO (gfR M l0 5 6) fun v87 =>
  bO (gfI M v87 0 1) fun v90 =>
  if v90 < sk0 then (retZ (0 : Int32) M)
  else (if l2 = 0 then (retZ (1 : Int32) M)
  else (bO (gfI M l0 5 1) fun v103 =>
  if v103 = 0 then (retZ (1 : Int32) M)
  else (bO (gfI M l0 5 5) fun v110 =>
  if v110 = 0 then (retZ (0 : Int32) M)
  else (retZ (1 : Int32) M))))
def B_X5_maySign_54 (G : mG) (F : Nat) (l0 : Nat) (l1 : Int32) (l2 : Int32) (M : mM) : Option (Int32 × mM) :=
  if l1 = 0 then (B_X5_maySign_84 G F l0 l2 (32 : Int32) M)
  else (if l1 = (1 : Int32) then (B_X5_maySign_84 G F l0 l2 (64 : Int32) M)
  else (if l1 = (3 : Int32) then (B_X5_maySign_84 G F l0 l2 (67 : Int32) M)
  else (B_X5_maySign_84 G F l0 l2 (0 : Int32) M)))
def B_X5_maySign_19 (G : mG) (F : Nat) (l0 : Nat) (l1 : Int32) (l2 : Int32) (sk0 : Int32) (M : mM) : Option (Int32 × mM) :=
  bO (gfI M l0 5 1) fun v21 =>
  if v21 = sk0 then (bO (gfI M l0 5 2) fun v29 =>
  if (1 : Int32) < v29 then (retZ (0 : Int32) M)
  else (bO (gfI M l0 5 3) fun v37 =>
  if v37 = (-1 : Int32) then (B_X5_maySign_54 G F l0 l1 l2 M)
  else (bO (gfI M l0 5 3) fun v45 =>
  if v45 = l1 then (B_X5_maySign_54 G F l0 l1 l2 M)
  else (retZ (0 : Int32) M))))
  else (retZ (0 : Int32) M)
def P_X5_maySign (G : mG) (F : Nat) (l0 : Nat) (l1 : Int32) (l2 : Int32) (M : mM) : Option (Int32 × mM) :=
  if (1 : Int32) < l1 then (if (3 : Int32) < l1 then (B_X5_maySign_19 G F l0 l1 l2 (2 : Int32) M)
  else (B_X5_maySign_19 G F l0 l1 l2 (1 : Int32) M))
  else (B_X5_maySign_19 G F l0 l1 l2 (0 : Int32) M)
def B_X5_maySeal_66 (G : mG) (F : Nat) (l0 : Nat) (l1 : Int32) (l2 : Int32) (l3 : Int32) (M : mM) : Option (Int32 × mM) :=
  if l1 = (0 : Int32) then (bO (gfR M l0 5 6) fun v97 =>
  bO (gfI M v97 0 1) fun v100 =>
  bO (aI G M 0 (G.1 1005) l2) fun v107 =>
  if v100 = v107 then (retZ (1 : Int32) M)
  else (retZ (0 : Int32) M))
  else (if l1 = (1 : Int32) then (bO (gfR M l0 5 6) fun v118 =>
  bO (gfI M v118 0 1) fun v121 =>
  if v121 = (16 : Int32) then (retZ (1 : Int32) M)
  else (retZ (0 : Int32) M))
  else (if l1 = (2 : Int32) then (bO (gfR M l0 5 6) fun v136 =>
  bO (gfI M v136 0 1) fun v139 =>
  if v139 = (32 : Int32) then (retZ (1 : Int32) M)
  else (retZ (0 : Int32) M))
  else (if l1 = (3 : Int32) then (bO (gfR M l0 5 6) fun v154 =>
  bO (gfI M v154 0 1) fun v157 =>
  bO (aI G M 0 (G.1 1005) l2) fun v166 =>
  if v157 < ((66 : Int32) + v166) then (retZ (0 : Int32) M)
  else (if l3 = 0 then (retZ (1 : Int32) M)
  else (bO (gfI M l0 5 5) fun v176 =>
  if v176 = 0 then (retZ (0 : Int32) M)
  else (retZ (1 : Int32) M))))
  else (if l3 = 0 then (retZ (1 : Int32) M)
  else (bO (gfI M l0 5 5) fun v193 =>
  if v193 = 0 then (retZ (0 : Int32) M)
  else (retZ (1 : Int32) M))))))
def B_X5_maySeal_19 (G : mG) (F : Nat) (l0 : Nat) (l1 : Int32) (l2 : Int32) (l3 : Int32) (sk0 : Int32) (M : mM) : Option (Int32 × mM) :=
  bO (gfI M l0 5 1) fun v22 =>
  if v22 = sk0 then (bO (gfI M l0 5 2) fun v31 =>
  if v31 = (1 : Int32) then (retZ (0 : Int32) M)
  else (bO (gfI M l0 5 2) fun v39 =>
  if v39 = (3 : Int32) then (retZ (0 : Int32) M)
  else (bO (gfI M l0 5 3) fun v47 =>
  if v47 = (-1 : Int32) then (B_X5_maySeal_66 G F l0 l1 l2 l3 M)
  else (bO (gfI M l0 5 3) fun v55 =>
  if v55 = ((5 : Int32) + l1) then (B_X5_maySeal_66 G F l0 l1 l2 l3 M)
  else (retZ (0 : Int32) M)))))
  else (retZ (0 : Int32) M)
def P_X5_maySeal (G : mG) (F : Nat) (l0 : Nat) (l1 : Int32) (l2 : Int32) (l3 : Int32) (M : mM) : Option (Int32 × mM) :=
  if (2 : Int32) < l1 then (if l1 = (3 : Int32) then (B_X5_maySeal_19 G F l0 l1 l2 l3 (1 : Int32) M)
  else (B_X5_maySeal_19 G F l0 l1 l2 l3 (2 : Int32) M))
  else (B_X5_maySeal_19 G F l0 l1 l2 l3 (0 : Int32) M)
def P_X5_putPointMembers (G : mG) (F : Nat) (l0 : Nat) (l1 : Nat) (M : mM) : Option mM :=
  bO (rcv M l1 0) fun _ =>
  bO (P_X0_putText G F l1 (G.1 50) M) fun M3 =>
  bO (rcv M3 l1 0) fun _ =>
  bO (P_X0_putLetters G F l1 l0 (0 : Int32) (32 : Int32) M3) fun M11 =>
  bO (rcv M11 l1 0) fun _ =>
  bO (P_X0_putText G F l1 (G.1 51) M11) fun M17 =>
  bO (rcv M17 l1 0) fun _ =>
  bO (P_X0_putLetters G F l1 l0 (32 : Int32) (64 : Int32) M17) fun M26 =>
  bO (rcv M26 l1 0) fun _ =>
  bO (P_X0_put G F l1 (34 : Int32) M26) fun M32 =>
  some M32
def P_X5_putPrinted (G : mG) (F : Nat) (l0 : Nat) (l1 : Nat) (M : mM) : Option mM :=
  bO (gfI M l0 5 1) fun v1 =>
  if v1 = 0 then (bO (rcv M l1 0) fun _ =>
  bO (P_X0_putText G F l1 (G.1 44) M) fun M10 =>
  bO (gfR M10 l0 5 6) fun v15 =>
  bO (gfR M10 l0 5 6) fun v20 =>
  bO (gfI M10 v20 0 1) fun v23 =>
  bO (rcv M10 l1 0) fun _ =>
  bO (P_X0_putLetters G F l1 v15 (0 : Int32) v23 M10) fun M26 =>
  bO (rcv M26 l1 0) fun _ =>
  bO (P_X0_putText G F l1 (G.1 45) M26) fun M32 =>
  some M32)
  else (bO (gfI M l0 5 1) fun v39 =>
  if v39 = (1 : Int32) then (bO (rcv M l1 0) fun _ =>
  bO (P_X0_putText G F l1 (G.1 46) M) fun M49 =>
  bO (gfR M49 l0 5 7) fun v54 =>
  bO (gfR M49 l0 5 7) fun v59 =>
  bO (gfI M49 v59 0 1) fun v62 =>
  bO (rcv M49 l1 0) fun _ =>
  bO (P_X0_putLetters G F l1 v54 (0 : Int32) v62 M49) fun M65 =>
  bO (rcv M65 l1 0) fun _ =>
  bO (P_X0_putText G F l1 (G.1 47) M65) fun M71 =>
  bO (gfR M71 l0 5 6) fun v76 =>
  bO (gfR M71 l0 5 6) fun v81 =>
  bO (gfI M71 v81 0 1) fun v84 =>
  bO (rcv M71 l1 0) fun _ =>
  bO (P_X0_putLetters G F l1 v76 (0 : Int32) v84 M71) fun M87 =>
  bO (rcv M87 l1 0) fun _ =>
  bO (P_X0_putText G F l1 (G.1 48) M87) fun M93 =>
  some M93)
  else (bO (rcv M l1 0) fun _ =>
  bO (P_X0_putText G F l1 (G.1 49) M) fun M102 =>
  bO (gfR M102 l0 5 6) fun v106 =>
  bO (P_X5_putPointMembers G F v106 l1 M102) fun M110 =>
  bO (rcv M110 l1 0) fun _ =>
  bO (P_X0_put G F l1 (125 : Int32) M110) fun M116 =>
  some M116))
def P_X7_init (G : mG) (F : Nat) (l0 : Nat) (l1 : Nat) (l2 : Nat) (M : mM) (sz : Nat) (sl : Nat) : Option (mM × Nat × Nat) :=
  bO (pfv M l0 7 0 (.ref l1)) fun M6 =>
  bO (pfv M6 l0 7 1 (.ref l2)) fun M11 =>
  some (M11, sz, sl)
def P_X9_clear (G : mG) (F : Nat) (l0 : Nat) (M : mM) : Option mM :=
  bO (pfv M l0 9 0 (.int (0 : Int32))) fun M2 =>
  bO (gfR M2 l0 9 10) fun v6 =>
  bO (rcv M2 v6 0) fun _ =>
  bO (P_X0_clear G F v6 M2) fun M9 =>
  some M9
def P_X7_isBlank (G : mG) (F : Nat) (l0 : Int32) (M : mM) : Option (Int32 × mM) :=
  if l0 = (32 : Int32) then (retZ (1 : Int32) M)
  else (if l0 = (9 : Int32) then (retZ (1 : Int32) M)
  else (if l0 = (10 : Int32) then (retZ (1 : Int32) M)
  else (if l0 = (13 : Int32) then (retZ (1 : Int32) M)
  else (retZ (0 : Int32) M))))
def B_X7_skipBlanks_0 (G : mG) (F : Nat) : Nat → Nat → mM → Option mM
  | 0, _, _ => none
  | n + 1, l0, M =>
  bO (gfI M l0 7 2) fun v1 =>
  bO (gfR M l0 7 0) fun v5 =>
  bO (gfI M v5 0 1) fun v8 =>
  if v8 ≤ v1 then (some M)
  else (bO (gfR M l0 7 0) fun v15 =>
  bO (gfI M l0 7 2) fun v19 =>
  bO (rcv M v15 0) fun _ =>
  bP (P_X0_get G F v15 v19 M) fun v22 M22 =>
  bP (P_X7_isBlank G F v22 M22) fun v25 M25 =>
  if v25 = 0 then (some M25)
  else (bO (gfI M25 l0 7 2) fun v33 =>
  bO (pfv M25 l0 7 2 (.int (v33 + (1 : Int32)))) fun M38 =>
  B_X7_skipBlanks_0 G F n l0 M38))
def P_X7_skipBlanks (G : mG) (F : Nat) (l0 : Nat) (M : mM) : Option mM := B_X7_skipBlanks_0 G F F l0 M
def P_X7_kindBegunBy (G : mG) (F : Nat) (l0 : Int32) (M : mM) : Option (Int32 × mM) :=
  if l0 = (34 : Int32) then (some ((4 : Int32), M))
  else (if l0 = (91 : Int32) then (some ((5 : Int32), M))
  else (if l0 = (102 : Int32) then (some ((1 : Int32), M))
  else (if l0 = (110 : Int32) then (some ((0 : Int32), M))
  else (if l0 = (116 : Int32) then (some ((2 : Int32), M))
  else (if l0 = (123 : Int32) then (some ((6 : Int32), M))
  else (if l0 = (45 : Int32) then (some ((3 : Int32), M))
  else (if l0 < (48 : Int32) then (some ((-1 : Int32), M))
  else (if (57 : Int32) < l0 then (some ((-1 : Int32), M))
  else (some ((3 : Int32), M))))))))))
def P_X7_wrong (G : mG) (F : Nat) (l0 : Nat) (l1 : Int32) (M : mM) : Option (Int32 × mM) :=
  bO (pfv M l0 7 3 (.int l1)) fun M2 =>
  retZ (0 : Int32) M2
def P_X9_begin (G : mG) (F : Nat) (l0 : Nat) (l1 : Int32) (l2 : Int32) (l3 : Int32) (M : mM) : Option (Int32 × mM) :=
  bO (gfI M l0 9 0) fun v1 =>
  bO (gfI M l0 9 0) fun v8 =>
  bO (pfv M l0 9 0 (.int (v8 + (1 : Int32)))) fun M13 =>
  bO (gfR M13 l0 9 1) fun v17 =>
  bO (sI M13 0 v17 v1 l1) fun M23 =>
  bO (gfR M23 l0 9 4) fun v25 =>
  bO (sI M23 0 v25 v1 l2) fun M31 =>
  bO (gfR M31 l0 9 2) fun v33 =>
  bO (sI M31 0 v33 v1 l3) fun M39 =>
  bO (gfR M39 l0 9 5) fun v41 =>
  bO (sI M39 0 v41 v1 (0 : Int32)) fun M47 =>
  bO (gfR M47 l0 9 6) fun v49 =>
  bO (gfR M47 l0 9 10) fun v55 =>
  bO (gfI M47 v55 0 1) fun v58 =>
  bO (sI M47 0 v49 v1 v58) fun M61 =>
  bO (gfR M61 l0 9 7) fun v63 =>
  bO (sI M61 0 v63 v1 (0 : Int32)) fun M69 =>
  bO (gfR M69 l0 9 3) fun v71 =>
  bO (sI M69 0 v71 v1 (0 : Int32)) fun M77 =>
  if l3 < 0 then (some (v1, M77))
  else (bO (gfR M77 l0 9 3) fun v83 =>
  bO (gfR M77 l0 9 5) fun v89 =>
  bO (aI G M77 0 v89 l3) fun v93 =>
  bO (sI M77 0 v83 v1 v93) fun M94 =>
  bO (gfR M94 l0 9 5) fun v96 =>
  bO (aI G M94 0 v96 l3) fun v101 =>
  bO (sI M94 0 v96 l3 (v101 + (1 : Int32))) fun M104 =>
  some (v1, M104))
def P_X7_goOn (G : mG) (F : Nat) (l0 : Nat) (l1 : Int32) (M : mM) : Option (Int32 × mM) :=
  bO (gfI M l0 7 2) fun v2 =>
  bO (pfv M l0 7 2 (.int (v2 + (1 : Int32)))) fun M7 =>
  bO (pfv M7 l0 7 6 (.int l1)) fun M12 =>
  retZ (1 : Int32) M12
def B_X7_word_2 (G : mG) (F : Nat) : Nat → Nat → Nat → Int32 → mM → Option (Int32 × mM)
  | 0, _, _, _, _ => none
  | n + 1, l0, l1, l2, M =>
  bO (rcs G l1) fun _ =>
  bP (P_J0_length_8abf5 G F l1 M) fun v4 M4 =>
  if v4 ≤ l2 then (retZ (1 : Int32) M4)
  else (bO (gfR M4 l0 7 0) fun v11 =>
  bO (gfI M4 l0 7 2) fun v15 =>
  bO (rcv M4 v11 0) fun _ =>
  bP (P_X0_peek G F v11 v15 M4) fun v18 M18 =>
  bO (rcs G l1) fun _ =>
  bP (P_J0_charAt_5068e G F l1 l2 M18) fun v23 M23 =>
  if v18 = v23 then (bO (gfI M23 l0 7 2) fun v40 =>
  bO (pfv M23 l0 7 2 (.int (v40 + (1 : Int32)))) fun M45 =>
  B_X7_word_2 G F n l0 l1 (l2 + 1) M45)
  else (bO (gfI M23 l0 7 2) fun v31 =>
  bO (rcv M23 l0 7) fun _ =>
  bP (P_X7_wrong G F l0 v31 M23) fun v34 M34 =>
  retZ v34 M34))
def P_X7_word (G : mG) (F : Nat) (l0 : Nat) (l1 : Nat) (M : mM) : Option (Int32 × mM) :=
  B_X7_word_2 G F F l0 l1 (0 : Int32) M
def B_X7_digits_64 (G : mG) (F : Nat) (l0 : Nat) (l1 : Int32) (M : mM) : Option (Int32 × mM) :=
  bO (gfI M l0 7 2) fun v65 =>
  if l1 < v65 then (retZ (1 : Int32) M)
  else (bO (gfI M l0 7 2) fun v74 =>
  bO (rcv M l0 7) fun _ =>
  bP (P_X7_wrong G F l0 v74 M) fun v77 M77 =>
  if v77 = 0 then (retZ (0 : Int32) M77)
  else (retZ (1 : Int32) M77))
def B_X7_digits_5 (G : mG) (F : Nat) : Nat → Nat → Int32 → mM → Option (Int32 × mM)
  | 0, _, _, _ => none
  | n + 1, l0, l1, M =>
  bO (gfI M l0 7 2) fun v6 =>
  bO (gfR M l0 7 0) fun v10 =>
  bO (gfI M v10 0 1) fun v13 =>
  if v13 ≤ v6 then (B_X7_digits_64 G F l0 l1 M)
  else (bO (gfR M l0 7 0) fun v20 =>
  bO (gfI M l0 7 2) fun v24 =>
  bO (rcv M v20 0) fun _ =>
  bP (P_X0_get G F v20 v24 M) fun v27 M27 =>
  if v27 < (48 : Int32) then (B_X7_digits_64 G F l0 l1 M27)
  else (bO (gfR M27 l0 7 0) fun v36 =>
  bO (gfI M27 l0 7 2) fun v40 =>
  bO (rcv M27 v36 0) fun _ =>
  bP (P_X0_get G F v36 v40 M27) fun v43 M43 =>
  if (57 : Int32) < v43 then (B_X7_digits_64 G F l0 l1 M43)
  else (bO (gfI M43 l0 7 2) fun v53 =>
  bO (pfv M43 l0 7 2 (.int (v53 + (1 : Int32)))) fun M58 =>
  B_X7_digits_5 G F n l0 l1 M58)))
def P_X7_digits (G : mG) (F : Nat) (l0 : Nat) (M : mM) : Option (Int32 × mM) :=
  bO (gfI M l0 7 2) fun v1 =>
  B_X7_digits_5 G F F l0 v1 M
def B_X7_number_197 (G : mG) (F : Nat) (l0 : Nat) (l1 : Int32) (M : mM) : Option (Int32 × mM) :=
  bO (gfR M l0 7 1) fun v198 =>
  bO (gfR M v198 9 10) fun v201 =>
  bO (gfR M l0 7 0) fun v205 =>
  bO (gfI M l0 7 2) fun v210 =>
  bO (rcv M v201 0) fun _ =>
  bO (P_X0_putPart G F v201 v205 l1 (v210 - l1) M) fun M215 =>
  retZ (1 : Int32) M215
def B_X7_number_136 (G : mG) (F : Nat) (l0 : Nat) (l1 : Int32) (M : mM) : Option (Int32 × mM) :=
  bO (gfI M l0 7 2) fun v138 =>
  bO (pfv M l0 7 2 (.int (v138 + (1 : Int32)))) fun M143 =>
  bO (gfR M143 l0 7 0) fun v147 =>
  bO (gfI M143 l0 7 2) fun v151 =>
  bO (rcv M143 v147 0) fun _ =>
  bP (P_X0_peek G F v147 v151 M143) fun v154 M154 =>
  if v154 = (43 : Int32) then (bO (gfI M154 l0 7 2) fun v180 =>
  bO (pfv M154 l0 7 2 (.int (v180 + (1 : Int32)))) fun M185 =>
  bO (rcv M185 l0 7) fun _ =>
  bP (P_X7_digits G F l0 M185) fun v189 M189 =>
  if v189 = 0 then (retZ (0 : Int32) M189)
  else (B_X7_number_197 G F l0 l1 M189))
  else (bO (gfR M154 l0 7 0) fun v163 =>
  bO (gfI M154 l0 7 2) fun v167 =>
  bO (rcv M154 v163 0) fun _ =>
  bP (P_X0_peek G F v163 v167 M154) fun v170 M170 =>
  if v170 = (45 : Int32) then (bO (gfI M170 l0 7 2) fun v180 =>
  bO (pfv M170 l0 7 2 (.int (v180 + (1 : Int32)))) fun M185 =>
  bO (rcv M185 l0 7) fun _ =>
  bP (P_X7_digits G F l0 M185) fun v189 M189 =>
  if v189 = 0 then (retZ (0 : Int32) M189)
  else (B_X7_number_197 G F l0 l1 M189))
  else (bO (rcv M170 l0 7) fun _ =>
  bP (P_X7_digits G F l0 M170) fun v189 M189 =>
  if v189 = 0 then (retZ (0 : Int32) M189)
  else (B_X7_number_197 G F l0 l1 M189)))
def B_X7_number_104 (G : mG) (F : Nat) (l0 : Nat) (l1 : Int32) (M : mM) : Option (Int32 × mM) :=
  bO (gfR M l0 7 0) fun v105 =>
  bO (gfI M l0 7 2) fun v109 =>
  bO (rcv M v105 0) fun _ =>
  bP (P_X0_peek G F v105 v109 M) fun v112 M112 =>
  if v112 = (101 : Int32) then (B_X7_number_136 G F l0 l1 M112)
  else (bO (gfR M112 l0 7 0) fun v121 =>
  bO (gfI M112 l0 7 2) fun v125 =>
  bO (rcv M112 v121 0) fun _ =>
  bP (P_X0_peek G F v121 v125 M112) fun v128 M128 =>
  if v128 = (69 : Int32) then (B_X7_number_136 G F l0 l1 M128)
  else (B_X7_number_197 G F l0 l1 M128))
def B_X7_number_69 (G : mG) (F : Nat) (l0 : Nat) (l1 : Int32) (M : mM) : Option (Int32 × mM) :=
  bO (gfR M l0 7 0) fun v70 =>
  bO (gfI M l0 7 2) fun v74 =>
  bO (rcv M v70 0) fun _ =>
  bP (P_X0_peek G F v70 v74 M) fun v77 M77 =>
  if v77 = (46 : Int32) then (bO (gfI M77 l0 7 2) fun v87 =>
  bO (pfv M77 l0 7 2 (.int (v87 + (1 : Int32)))) fun M92 =>
  bO (rcv M92 l0 7) fun _ =>
  bP (P_X7_digits G F l0 M92) fun v96 M96 =>
  if v96 = 0 then (retZ (0 : Int32) M96)
  else (B_X7_number_104 G F l0 l1 M96))
  else (B_X7_number_104 G F l0 l1 M77)
def B_X7_number_31 (G : mG) (F : Nat) (l0 : Nat) (l1 : Int32) (M : mM) : Option (Int32 × mM) :=
  bO (gfR M l0 7 0) fun v32 =>
  bO (gfI M l0 7 2) fun v36 =>
  bO (rcv M v32 0) fun _ =>
  bP (P_X0_peek G F v32 v36 M) fun v39 M39 =>
  if v39 = (48 : Int32) then (bO (gfI M39 l0 7 2) fun v49 =>
  bO (pfv M39 l0 7 2 (.int (v49 + (1 : Int32)))) fun M54 =>
  B_X7_number_69 G F l0 l1 M54)
  else (bO (rcv M39 l0 7) fun _ =>
  bP (P_X7_digits G F l0 M39) fun v61 M61 =>
  if v61 = 0 then (retZ (0 : Int32) M61)
  else (B_X7_number_69 G F l0 l1 M61))
def P_X7_number (G : mG) (F : Nat) (l0 : Nat) (M : mM) : Option (Int32 × mM) :=
  bO (gfI M l0 7 2) fun v1 =>
  bO (gfR M l0 7 0) fun v6 =>
  bO (gfI M l0 7 2) fun v10 =>
  bO (rcv M v6 0) fun _ =>
  bP (P_X0_peek G F v6 v10 M) fun v13 M13 =>
  if v13 = (45 : Int32) then (bO (gfI M13 l0 7 2) fun v23 =>
  bO (pfv M13 l0 7 2 (.int (v23 + (1 : Int32)))) fun M28 =>
  B_X7_number_31 G F l0 v1 M28)
  else (B_X7_number_31 G F l0 v1 M13)
def P_X7_shortEscaped (G : mG) (F : Nat) (l0 : Int32) (M : mM) : Option (Int32 × mM) :=
  if l0 = (34 : Int32) then (some ((34 : Int32), M))
  else (if l0 = (47 : Int32) then (some ((47 : Int32), M))
  else (if l0 = (92 : Int32) then (some ((92 : Int32), M))
  else (if l0 = (98 : Int32) then (some ((8 : Int32), M))
  else (if l0 = (102 : Int32) then (some ((12 : Int32), M))
  else (if l0 = (110 : Int32) then (some ((10 : Int32), M))
  else (if l0 = (114 : Int32) then (some ((13 : Int32), M))
  else (if l0 = (116 : Int32) then (some ((9 : Int32), M))
  else (some ((-1 : Int32), M)))))))))
def B_X7_fourDigits_99 (G : mG) (F : Nat) (r4 : Nat → Int32 → Int32 → Int32 → mM → Option (Int32 × mM)) (l0 : Nat) (l1 : Int32) (l2 : Int32) (l3 : Int32) (l4 : Int32) (l5 : Int32) (M : mM) : Option (Int32 × mM) :=
  if l5 = 0 then (bO (gfI M l0 7 2) fun v106 =>
  bO (pfv M l0 7 3 (.int v106)) fun M109 =>
  some ((-1 : Int32), M109))
  else (bO (gfI M l0 7 2) fun v123 =>
  bO (pfv M l0 7 2 (.int (v123 + (1 : Int32)))) fun M128 =>
  r4 l0 l1 ((l2 <<< ((4 : Int32) &&& 31)) ||| l4) (l3 + 1) M128)
def B_X7_fourDigits_60 (G : mG) (F : Nat) (r4 : Nat → Int32 → Int32 → Int32 → mM → Option (Int32 × mM)) (l0 : Nat) (l1 : Int32) (l2 : Int32) (l3 : Int32) (l4 : Int32) (l5 : Int32) (M : mM) : Option (Int32 × mM) :=
  if l3 = (1 : Int32) then (if l2 = (13 : Int32) then (if l5 = 0 then (B_X7_fourDigits_99 G F r4 l0 l1 l2 l3 l4 (0 : Int32) M)
  else (if l4 < (12 : Int32) then (if (0 : Int32) = l1 then (B_X7_fourDigits_99 G F r4 l0 l1 l2 l3 l4 (1 : Int32) M)
  else (B_X7_fourDigits_99 G F r4 l0 l1 l2 l3 l4 (0 : Int32) M))
  else (if (1 : Int32) = l1 then (B_X7_fourDigits_99 G F r4 l0 l1 l2 l3 l4 (1 : Int32) M)
  else (B_X7_fourDigits_99 G F r4 l0 l1 l2 l3 l4 (0 : Int32) M))))
  else (B_X7_fourDigits_99 G F r4 l0 l1 l2 l3 l4 l5 M))
  else (B_X7_fourDigits_99 G F r4 l0 l1 l2 l3 l4 l5 M)
def B_X7_fourDigits_36 (G : mG) (F : Nat) (r4 : Nat → Int32 → Int32 → Int32 → mM → Option (Int32 × mM)) (l0 : Nat) (l1 : Int32) (l2 : Int32) (l3 : Int32) (l4 : Int32) (sk0 : Int32) (M : mM) : Option (Int32 × mM) :=
  if l3 = 0 then (if l1 = 0 then (B_X7_fourDigits_60 G F r4 l0 l1 l2 l3 l4 sk0 M)
  else (if l4 = (13 : Int32) then (B_X7_fourDigits_60 G F r4 l0 l1 l2 l3 l4 (1 : Int32) M)
  else (B_X7_fourDigits_60 G F r4 l0 l1 l2 l3 l4 (0 : Int32) M)))
  else (B_X7_fourDigits_60 G F r4 l0 l1 l2 l3 l4 sk0 M)
def B_X7_fourDigits_4 (G : mG) (F : Nat) : Nat → Nat → Int32 → Int32 → Int32 → mM → Option (Int32 × mM)
  | 0, _, _, _, _, _ => none
  | n + 1, l0, l1, l2, l3, M =>
  if (4 : Int32) ≤ l3 then (some (l2, M))
  else (bO (gfR M l0 7 0) fun v10 =>
  bO (gfI M l0 7 2) fun v14 =>
  bO (rcv M v10 0) fun _ =>
  bP (P_X0_peek G F v10 v14 M) fun v17 M17 =>
  bP (P_X7_hexValue G F v17 M17) fun v20 M20 =>
  if v20 = (-1 : Int32) then (B_X7_fourDigits_36 G F (B_X7_fourDigits_4 G F n) l0 l1 l2 l3 v20 (0 : Int32) M20)
  else (B_X7_fourDigits_36 G F (B_X7_fourDigits_4 G F n) l0 l1 l2 l3 v20 (1 : Int32) M20))
def P_X7_fourDigits (G : mG) (F : Nat) (l0 : Nat) (l1 : Int32) (M : mM) : Option (Int32 × mM) :=
  B_X7_fourDigits_4 G F F l0 l1 (0 : Int32) (0 : Int32) M
def P_X7_escape (G : mG) (F : Nat) (l0 : Nat) (M : mM) : Option (Int32 × mM) :=
  bO (gfI M l0 7 2) fun v2 =>
  bO (pfv M l0 7 2 (.int (v2 + (1 : Int32)))) fun M7 =>
  bO (gfR M7 l0 7 0) fun v11 =>
  bO (gfI M7 l0 7 2) fun v15 =>
  bO (rcv M7 v11 0) fun _ =>
  bP (P_X0_peek G F v11 v15 M7) fun v18 M18 =>
  if v18 = (117 : Int32) then (bO (gfI M18 l0 7 2) fun v60 =>
  bO (pfv M18 l0 7 2 (.int (v60 + (1 : Int32)))) fun M65 =>
  bO (rcv M65 l0 7) fun _ =>
  bP (P_X7_fourDigits G F l0 (0 : Int32) M65) fun v70 M70 =>
  if v70 < (55296 : Int32) then (some (v70, M70))
  else (if v70 ≤ (56319 : Int32) then (bO (rcv M70 l0 7) fun _ =>
  bP (P_X7_word G F l0 (G.1 10) M70) fun v91 M91 =>
  if v91 = 0 then (some ((-1 : Int32), M91))
  else (bO (rcv M91 l0 7) fun _ =>
  bP (P_X7_fourDigits G F l0 (1 : Int32) M91) fun v101 M101 =>
  if v101 = (-1 : Int32) then (some ((-1 : Int32), M101))
  else (some ((((65536 : Int32) + ((v70 - (55296 : Int32)) <<< ((10 : Int32) &&& 31))) + (v101 - (56320 : Int32))), M101))))
  else (some (v70, M70))))
  else (bP (P_X7_shortEscaped G F v18 M18) fun v29 M29 =>
  if v29 = (-1 : Int32) then (bO (gfI M29 l0 7 2) fun v40 =>
  bO (pfv M29 l0 7 3 (.int v40)) fun M43 =>
  bO (gfI M43 l0 7 2) fun v48 =>
  bO (pfv M43 l0 7 2 (.int (v48 + (1 : Int32)))) fun M53 =>
  some (v29, M53))
  else (bO (gfI M29 l0 7 2) fun v48 =>
  bO (pfv M29 l0 7 2 (.int (v48 + (1 : Int32)))) fun M53 =>
  some (v29, M53)))
def P_X7_putPoint (G : mG) (F : Nat) (l0 : Nat) (l1 : Int32) (M : mM) : Option mM :=
  bO (gfR M l0 7 1) fun v1 =>
  bO (gfR M v1 9 10) fun v4 =>
  if (128 : Int32) ≤ l1 then (if (2048 : Int32) ≤ l1 then (if (65536 : Int32) ≤ l1 then (bO (rcv M v4 0) fun _ =>
  bO (P_X0_put G F v4 ((240 : Int32) ||| (l1 >>> ((18 : Int32) &&& 31))) M) fun M114 =>
  bO (rcv M114 v4 0) fun _ =>
  bO (P_X0_put G F v4 ((128 : Int32) ||| ((l1 >>> ((12 : Int32) &&& 31)) &&& (63 : Int32))) M114) fun M129 =>
  bO (rcv M129 v4 0) fun _ =>
  bO (P_X0_put G F v4 ((128 : Int32) ||| ((l1 >>> ((6 : Int32) &&& 31)) &&& (63 : Int32))) M129) fun M144 =>
  bO (rcv M144 v4 0) fun _ =>
  bO (P_X0_put G F v4 ((128 : Int32) ||| (l1 &&& (63 : Int32))) M144) fun M156 =>
  some M156)
  else (bO (rcv M v4 0) fun _ =>
  bO (P_X0_put G F v4 ((224 : Int32) ||| (l1 >>> ((12 : Int32) &&& 31))) M) fun M72 =>
  bO (rcv M72 v4 0) fun _ =>
  bO (P_X0_put G F v4 ((128 : Int32) ||| ((l1 >>> ((6 : Int32) &&& 31)) &&& (63 : Int32))) M72) fun M87 =>
  bO (rcv M87 v4 0) fun _ =>
  bO (P_X0_put G F v4 ((128 : Int32) ||| (l1 &&& (63 : Int32))) M87) fun M99 =>
  some M99))
  else (bO (rcv M v4 0) fun _ =>
  bO (P_X0_put G F v4 ((192 : Int32) ||| (l1 >>> ((6 : Int32) &&& 31))) M) fun M39 =>
  bO (rcv M39 v4 0) fun _ =>
  bO (P_X0_put G F v4 ((128 : Int32) ||| (l1 &&& (63 : Int32))) M39) fun M51 =>
  some M51))
  else (bO (rcv M v4 0) fun _ =>
  bO (P_X0_put G F v4 l1 M) fun M17 =>
  some M17)
def B_X7_longForm_154 (G : mG) (F : Nat) : Nat → Nat → Int32 → Int32 → Int32 → Int32 → mM → Option (Int32 × mM)
  | 0, _, _, _, _, _, _ => none
  | n + 1, l0, l2, l3, l4, l5, M =>
  if l2 ≤ l5 then (retZ (1 : Int32) M)
  else (bO (gfR M l0 7 0) fun v161 =>
  bO (gfI M l0 7 2) fun v165 =>
  bO (rcv M v161 0) fun _ =>
  bP (P_X0_peek G F v161 v165 M) fun v168 M168 =>
  if v168 < l3 then (bO (gfI M168 l0 7 2) fun v188 =>
  bO (rcv M168 l0 7) fun _ =>
  bP (P_X7_wrong G F l0 v188 M168) fun v191 M191 =>
  retZ v191 M191)
  else (if v168 ≤ l4 then (bO (gfR M168 l0 7 1) fun v196 =>
  bO (gfR M168 v196 9 10) fun v199 =>
  bO (rcv M168 v199 0) fun _ =>
  bO (P_X0_put G F v199 v168 M168) fun M204 =>
  bO (gfI M204 l0 7 2) fun v209 =>
  bO (pfv M204 l0 7 2 (.int (v209 + (1 : Int32)))) fun M214 =>
  B_X7_longForm_154 G F n l0 l2 (128 : Int32) (191 : Int32) (l5 + 1) M214)
  else (bO (gfI M168 l0 7 2) fun v188 =>
  bO (rcv M168 l0 7) fun _ =>
  bP (P_X7_wrong G F l0 v188 M168) fun v191 M191 =>
  retZ v191 M191)))
def B_X7_longForm_128 (G : mG) (F : Nat) (l0 : Nat) (l1 : Int32) (l2 : Int32) (l3 : Int32) (sk0 : Int32) (M : mM) : Option (Int32 × mM) :=
  bO (gfR M l0 7 1) fun v131 =>
  bO (gfR M v131 9 10) fun v134 =>
  bO (rcv M v134 0) fun _ =>
  bO (P_X0_put G F v134 l1 M) fun M138 =>
  bO (gfI M138 l0 7 2) fun v143 =>
  bO (pfv M138 l0 7 2 (.int (v143 + (1 : Int32)))) fun M148 =>
  B_X7_longForm_154 G F F l0 l2 l3 sk0 (0 : Int32) M148
def B_X7_longForm_98 (G : mG) (F : Nat) (l0 : Nat) (l1 : Int32) (l2 : Int32) (sk0 : Int32) (M : mM) : Option (Int32 × mM) :=
  if l1 = (237 : Int32) then (B_X7_longForm_128 G F l0 l1 l2 sk0 (159 : Int32) M)
  else (if l1 = (244 : Int32) then (B_X7_longForm_128 G F l0 l1 l2 sk0 (143 : Int32) M)
  else (B_X7_longForm_128 G F l0 l1 l2 sk0 (191 : Int32) M))
def B_X7_longForm_55 (G : mG) (F : Nat) (l0 : Nat) (l1 : Int32) (sk0 : Int32) (M : mM) : Option (Int32 × mM) :=
  if sk0 = 0 then (bO (gfI M l0 7 2) fun v62 =>
  bO (rcv M l0 7) fun _ =>
  bP (P_X7_wrong G F l0 v62 M) fun v65 M65 =>
  retZ v65 M65)
  else (if l1 = (224 : Int32) then (B_X7_longForm_98 G F l0 l1 sk0 (160 : Int32) M)
  else (if l1 = (240 : Int32) then (B_X7_longForm_98 G F l0 l1 sk0 (144 : Int32) M)
  else (B_X7_longForm_98 G F l0 l1 sk0 (128 : Int32) M)))
def B_X7_longForm_36 (G : mG) (F : Nat) (l0 : Nat) (l1 : Int32) (M : mM) : Option (Int32 × mM) :=
  if l1 < (240 : Int32) then (B_X7_longForm_55 G F l0 l1 (0 : Int32) M)
  else (if (244 : Int32) < l1 then (B_X7_longForm_55 G F l0 l1 (0 : Int32) M)
  else (B_X7_longForm_55 G F l0 l1 (3 : Int32) M))
def P_X7_longForm (G : mG) (F : Nat) (l0 : Nat) (l1 : Int32) (M : mM) : Option (Int32 × mM) :=
  if l1 < (194 : Int32) then (if l1 < (224 : Int32) then (B_X7_longForm_36 G F l0 l1 M)
  else (if (239 : Int32) < l1 then (B_X7_longForm_36 G F l0 l1 M)
  else (B_X7_longForm_55 G F l0 l1 (2 : Int32) M)))
  else (if (223 : Int32) < l1 then (if l1 < (224 : Int32) then (B_X7_longForm_36 G F l0 l1 M)
  else (if (239 : Int32) < l1 then (B_X7_longForm_36 G F l0 l1 M)
  else (B_X7_longForm_55 G F l0 l1 (2 : Int32) M)))
  else (B_X7_longForm_55 G F l0 l1 (1 : Int32) M))
def B_X7_string_12 (G : mG) (F : Nat) : Nat → Nat → Int32 → mM → Option (Int32 × mM)
  | 0, _, _, _ => none
  | n + 1, l0, l1, M =>
  bO (gfR M l0 7 0) fun v14 =>
  bO (gfI M v14 0 1) fun v17 =>
  if v17 < l1 then (bO (gfI M l0 7 2) fun v143 =>
  bO (rcv M l0 7) fun _ =>
  bP (P_X7_wrong G F l0 v143 M) fun v146 M146 =>
  retZ v146 M146)
  else (bO (gfR M l0 7 0) fun v24 =>
  bO (gfI M l0 7 2) fun v28 =>
  bO (rcv M v24 0) fun _ =>
  bP (P_X0_peek G F v24 v28 M) fun v31 M31 =>
  if v31 = (34 : Int32) then (bO (gfI M31 l0 7 2) fun v43 =>
  bO (pfv M31 l0 7 2 (.int (v43 + (1 : Int32)))) fun M48 =>
  retZ (1 : Int32) M48)
  else (if (32 : Int32) ≤ v31 then (if v31 = (92 : Int32) then (bO (rcv M31 l0 7) fun _ =>
  bP (P_X7_escape G F l0 M31) fun v75 M75 =>
  if v75 = (-1 : Int32) then (retZ (0 : Int32) M75)
  else (bO (rcv M75 l0 7) fun _ =>
  bO (P_X7_putPoint G F l0 v75 M75) fun M88 =>
  B_X7_string_12 G F n l0 (l1 + 1) M88))
  else (if (128 : Int32) ≤ v31 then (bO (rcv M31 l0 7) fun _ =>
  bP (P_X7_longForm G F l0 v31 M31) fun v127 M127 =>
  if v127 = 0 then (retZ (0 : Int32) M127)
  else (B_X7_string_12 G F n l0 (l1 + 1) M127))
  else (bO (gfR M31 l0 7 1) fun v102 =>
  bO (gfR M31 v102 9 10) fun v105 =>
  bO (rcv M31 v105 0) fun _ =>
  bO (P_X0_put G F v105 v31 M31) fun M109 =>
  bO (gfI M109 l0 7 2) fun v114 =>
  bO (pfv M109 l0 7 2 (.int (v114 + (1 : Int32)))) fun M119 =>
  B_X7_string_12 G F n l0 (l1 + 1) M119)))
  else (bO (gfI M31 l0 7 2) fun v61 =>
  bO (rcv M31 l0 7) fun _ =>
  bP (P_X7_wrong G F l0 v61 M31) fun v64 M64 =>
  retZ v64 M64)))
def P_X7_string (G : mG) (F : Nat) (l0 : Nat) (M : mM) : Option (Int32 × mM) :=
  bO (gfI M l0 7 2) fun v2 =>
  bO (pfv M l0 7 2 (.int (v2 + (1 : Int32)))) fun M7 =>
  B_X7_string_12 G F F l0 (0 : Int32) M7
def B_X7_begin_204 (G : mG) (F : Nat) (l0 : Nat) (l3 : Int32) (l4 : Int32) (M : mM) : Option (Int32 × mM) :=
  bO (gfR M l0 7 1) fun v205 =>
  bO (gfR M v205 9 7) fun v208 =>
  bO (gfR M l0 7 1) fun v213 =>
  bO (gfR M v213 9 10) fun v216 =>
  bO (gfI M v216 0 1) fun v219 =>
  bO (gfR M l0 7 1) fun v223 =>
  bO (gfR M v223 9 6) fun v226 =>
  bO (aI G M 0 v226 l3) fun v230 =>
  bO (sI M 0 v208 l3 (v219 - v230)) fun M232 =>
  bO (pfv M232 l0 7 6 (.int (5 : Int32))) fun M235 =>
  retZ l4 M235
def B_X7_begin_46 (G : mG) (F : Nat) (l0 : Nat) (l2 : Int32) (M : mM) : Option (Int32 × mM) :=
  bO (gfR M l0 7 1) fun v47 =>
  bO (gfI M l0 7 2) fun v52 =>
  bO (gfI M l0 7 4) fun v56 =>
  bO (rcv M v47 9) fun _ =>
  bP (P_X9_begin G F v47 l2 v52 v56 M) fun v59 M59 =>
  bO (gfR M59 l0 7 1) fun v64 =>
  bO (gfR M59 v64 9 8) fun v67 =>
  bO (gfI M59 l0 7 7) fun v72 =>
  bO (sI M59 0 v67 v59 v72) fun M75 =>
  bO (gfR M75 l0 7 1) fun v77 =>
  bO (gfR M75 v77 9 9) fun v80 =>
  bO (gfI M75 l0 7 8) fun v85 =>
  bO (sI M75 0 v80 v59 v85) fun M88 =>
  if l2 < (5 : Int32) then (if l2 = (0 : Int32) then (bO (rcv M88 l0 7) fun _ =>
  bP (P_X7_word G F l0 (G.1 7) M88) fun v159 M159 =>
  B_X7_begin_204 G F l0 v59 v159 M159)
  else (if l2 = (1 : Int32) then (bO (rcv M88 l0 7) fun _ =>
  bP (P_X7_word G F l0 (G.1 8) M88) fun v170 M170 =>
  B_X7_begin_204 G F l0 v59 v170 M170)
  else (if l2 = (2 : Int32) then (bO (rcv M88 l0 7) fun _ =>
  bP (P_X7_word G F l0 (G.1 9) M88) fun v181 M181 =>
  B_X7_begin_204 G F l0 v59 v181 M181)
  else (if l2 = (3 : Int32) then (bO (rcv M88 l0 7) fun _ =>
  bP (P_X7_number G F l0 M88) fun v190 M190 =>
  B_X7_begin_204 G F l0 v59 v190 M190)
  else (bO (rcv M88 l0 7) fun _ =>
  bP (P_X7_string G F l0 M88) fun v199 M199 =>
  B_X7_begin_204 G F l0 v59 v199 M199)))))
  else (bO (pfv M88 l0 7 4 (.int v59)) fun M96 =>
  bO (gfI M96 l0 7 5) fun v101 =>
  bO (pfv M96 l0 7 5 (.int (v101 + (1 : Int32)))) fun M106 =>
  if l2 = (5 : Int32) then (bO (rcv M106 l0 7) fun _ =>
  bP (P_X7_goOn G F l0 (1 : Int32) M106) fun v120 M120 =>
  retZ v120 M120)
  else (bO (rcv M106 l0 7) fun _ =>
  bP (P_X7_goOn G F l0 (3 : Int32) M106) fun v120 M120 =>
  retZ v120 M120))
def P_X7_begin (G : mG) (F : Nat) (l0 : Nat) (l1 : Int32) (M : mM) : Option (Int32 × mM) :=
  bP (P_X7_kindBegunBy G F l1 M) fun v1 M1 =>
  if v1 = (-1 : Int32) then (bO (gfI M1 l0 7 2) fun v39 =>
  bO (rcv M1 l0 7) fun _ =>
  bP (P_X7_wrong G F l0 v39 M1) fun v42 M42 =>
  retZ v42 M42)
  else (bO (gfR M1 l0 7 1) fun v11 =>
  bO (gfI M1 v11 9 0) fun v14 =>
  if (600 : Int32) ≤ v14 then (bO (gfI M1 l0 7 2) fun v39 =>
  bO (rcv M1 l0 7) fun _ =>
  bP (P_X7_wrong G F l0 v39 M1) fun v42 M42 =>
  retZ v42 M42)
  else (if v1 < (5 : Int32) then (B_X7_begin_46 G F l0 v1 M1)
  else (bO (gfI M1 l0 7 5) fun v29 =>
  if v29 < (40 : Int32) then (B_X7_begin_46 G F l0 v1 M1)
  else (bO (gfI M1 l0 7 2) fun v39 =>
  bO (rcv M1 l0 7) fun _ =>
  bP (P_X7_wrong G F l0 v39 M1) fun v42 M42 =>
  retZ v42 M42))))
def P_X7_close (G : mG) (F : Nat) (l0 : Nat) (M : mM) : Option (Int32 × mM) :=
  bO (gfR M l0 7 1) fun v2 =>
  bO (gfI M l0 7 4) fun v6 =>
  bO (rcv M v2 9) fun _ =>
  bP (P_X9_has G F v2 v6 M) fun v9 M9 =>
  if v9 = 0 then (bO (pfv M9 l0 7 4 (.int (-1 : Int32))) fun M31 =>
  bO (gfI M31 l0 7 5) fun v36 =>
  bO (pfv M31 l0 7 5 (.int (v36 - (1 : Int32)))) fun M41 =>
  bO (rcv M41 l0 7) fun _ =>
  bP (P_X7_goOn G F l0 (5 : Int32) M41) fun v46 M46 =>
  retZ v46 M46)
  else (bO (gfR M9 l0 7 1) fun v16 =>
  bO (gfR M9 v16 9 2) fun v19 =>
  bO (gfI M9 l0 7 4) fun v23 =>
  bO (aI G M9 0 v19 v23) fun v26 =>
  bO (pfv M9 l0 7 4 (.int v26)) fun M31 =>
  bO (gfI M31 l0 7 5) fun v36 =>
  bO (pfv M31 l0 7 5 (.int (v36 - (1 : Int32)))) fun M41 =>
  bO (rcv M41 l0 7) fun _ =>
  bP (P_X7_goOn G F l0 (5 : Int32) M41) fun v46 M46 =>
  retZ v46 M46)
def P_X9_poolSays (G : mG) (F : Nat) (l0 : Nat) (l1 : Int32) (l2 : Int32) (l3 : Nat) (l4 : Int32) (l5 : Int32) (M : mM) : Option (Int32 × mM) :=
  if l2 = l5 then (bO (gfR M l0 9 10) fun v7 =>
  bP (P_X0_compare G F v7 l1 l3 l4 l5 M) fun v16 M16 =>
  if v16 = 0 then (retZ (1 : Int32) M16)
  else (retZ (0 : Int32) M16))
  else (retZ (0 : Int32) M)
def B_X9_named_17 (G : mG) (F : Nat) : Nat → Nat → Int32 → Nat → Int32 → Int32 → Int32 → mM → Option (Int32 × mM)
  | 0, _, _, _, _, _, _, _ => none
  | n + 1, l0, l1, l2, l3, l4, l5, M =>
  bO (gfI M l0 9 0) fun v20 =>
  if v20 ≤ l5 then (some ((-1 : Int32), M))
  else (bO (gfR M l0 9 2) fun v27 =>
  bO (aI G M 0 v27 l5) fun v32 =>
  if v32 = l1 then (bO (gfR M l0 9 8) fun v39 =>
  bO (aI G M 0 v39 l5) fun v44 =>
  bO (gfR M l0 9 9) fun v46 =>
  bO (aI G M 0 v46 l5) fun v51 =>
  bO (rcv M l0 9) fun _ =>
  bP (P_X9_poolSays G F l0 v44 v51 l2 l3 l4 M) fun v56 M56 =>
  if v56 = 0 then (B_X9_named_17 G F n l0 l1 l2 l3 l4 (l5 + 1) M56)
  else (some (l5, M56)))
  else (B_X9_named_17 G F n l0 l1 l2 l3 l4 (l5 + 1) M))
def P_X9_named (G : mG) (F : Nat) (l0 : Nat) (l1 : Int32) (l2 : Nat) (l3 : Int32) (l4 : Int32) (M : mM) : Option (Int32 × mM) :=
  bO (rcv M l0 9) fun _ =>
  bP (P_X9_isKind G F l0 l1 (6 : Int32) M) fun v4 M4 =>
  if v4 = 0 then (some ((-1 : Int32), M4))
  else (B_X9_named_17 G F F l0 l1 l2 l3 l4 (l1 + (1 : Int32)) M4)
def P_X7_memberName (G : mG) (F : Nat) (l0 : Nat) (l1 : Int32) (M : mM) : Option (Int32 × mM) :=
  bO (gfI M l0 7 2) fun v1 =>
  if l1 = (34 : Int32) then (bO (gfR M l0 7 1) fun v22 =>
  bO (gfR M v22 9 10) fun v25 =>
  bO (gfI M v25 0 1) fun v28 =>
  bO (pfv M l0 7 7 (.int v28)) fun M31 =>
  bO (rcv M31 l0 7) fun _ =>
  bP (P_X7_string G F l0 M31) fun v35 M35 =>
  if v35 = 0 then (retZ (0 : Int32) M35)
  else (bO (gfR M35 l0 7 1) fun v45 =>
  bO (gfR M35 v45 9 10) fun v48 =>
  bO (gfI M35 v48 0 1) fun v51 =>
  bO (gfI M35 l0 7 7) fun v55 =>
  bO (pfv M35 l0 7 8 (.int (v51 - v55))) fun M59 =>
  bO (gfR M59 l0 7 1) fun v63 =>
  bO (gfI M59 l0 7 4) fun v67 =>
  bO (gfR M59 l0 7 1) fun v71 =>
  bO (gfR M59 v71 9 10) fun v74 =>
  bO (gfI M59 l0 7 7) fun v78 =>
  bO (gfI M59 l0 7 8) fun v82 =>
  bO (rcv M59 v63 9) fun _ =>
  bP (P_X9_named G F v63 v67 v74 v78 v82 M59) fun v85 M85 =>
  if v85 = (-1 : Int32) then (bO (pfv M85 l0 7 6 (.int (4 : Int32))) fun M100 =>
  retZ (1 : Int32) M100)
  else (bO (rcv M85 l0 7) fun _ =>
  bP (P_X7_wrong G F l0 v1 M85) fun v94 M94 =>
  retZ v94 M94)))
  else (bO (gfI M l0 7 2) fun v13 =>
  bO (rcv M l0 7) fun _ =>
  bP (P_X7_wrong G F l0 v13 M) fun v16 M16 =>
  retZ v16 M16)
def B_X7_after_45 (G : mG) (F : Nat) (l0 : Nat) (l1 : Int32) (sk0 : Int32) (M : mM) : Option (Int32 × mM) :=
  if l1 = (44 : Int32) then (if sk0 = 0 then (bO (rcv M l0 7) fun _ =>
  bP (P_X7_goOn G F l0 (0 : Int32) M) fun v62 M62 =>
  retZ v62 M62)
  else (bO (rcv M l0 7) fun _ =>
  bP (P_X7_goOn G F l0 (2 : Int32) M) fun v62 M62 =>
  retZ v62 M62))
  else (if sk0 = 0 then (if l1 = (93 : Int32) then (bO (rcv M l0 7) fun _ =>
  bP (P_X7_close G F l0 M) fun v82 M82 =>
  retZ v82 M82)
  else (bO (gfI M l0 7 2) fun v90 =>
  bO (rcv M l0 7) fun _ =>
  bP (P_X7_wrong G F l0 v90 M) fun v93 M93 =>
  retZ v93 M93))
  else (if l1 = (125 : Int32) then (bO (rcv M l0 7) fun _ =>
  bP (P_X7_close G F l0 M) fun v82 M82 =>
  retZ v82 M82)
  else (bO (gfI M l0 7 2) fun v90 =>
  bO (rcv M l0 7) fun _ =>
  bP (P_X7_wrong G F l0 v90 M) fun v93 M93 =>
  retZ v93 M93)))
def P_X7_after (G : mG) (F : Nat) (l0 : Nat) (l1 : Int32) (M : mM) : Option (Int32 × mM) :=
  bO (gfR M l0 7 1) fun v1 =>
  bO (gfI M l0 7 4) fun v5 =>
  bO (rcv M v1 9) fun _ =>
  bP (P_X9_has G F v1 v5 M) fun v8 M8 =>
  if v8 = 0 then (bO (gfI M8 l0 7 2) fun v16 =>
  bO (rcv M8 l0 7) fun _ =>
  bP (P_X7_wrong G F l0 v16 M8) fun v19 M19 =>
  retZ v19 M19)
  else (bO (gfR M8 l0 7 1) fun v24 =>
  bO (gfR M8 v24 9 1) fun v27 =>
  bO (gfI M8 l0 7 4) fun v31 =>
  bO (aI G M8 0 v27 v31) fun v34 =>
  if v34 = (6 : Int32) then (B_X7_after_45 G F l0 l1 (1 : Int32) M8)
  else (B_X7_after_45 G F l0 l1 (0 : Int32) M8))
def B_X7_read_47 (G : mG) (F : Nat) : Nat → Nat → Int32 → Int32 → mM → Option (Int32 × mM)
  | 0, _, _, _, _ => none
  | n + 1, l0, l3, l4, M =>
  bO (gfR M l0 7 0) fun v50 =>
  bO (gfI M v50 0 1) fun v53 =>
  if v53 < l4 then (bO (gfI M l0 7 3) fun v257 =>
  some (v257, M))
  else (if l3 = 0 then (bO (gfI M l0 7 3) fun v257 =>
  some (v257, M))
  else (bO (rcv M l0 7) fun _ =>
  bO (P_X7_skipBlanks G F l0 M) fun M64 =>
  bO (gfR M64 l0 7 0) fun v68 =>
  bO (gfI M64 l0 7 2) fun v72 =>
  bO (rcv M64 v68 0) fun _ =>
  bP (P_X0_peek G F v68 v72 M64) fun v75 M75 =>
  if v75 = (-1 : Int32) then (bO (gfI M75 l0 7 6) fun v87 =>
  if v87 = (5 : Int32) then (bO (gfI M75 l0 7 4) fun v95 =>
  if v95 = (-1 : Int32) then (some ((-1 : Int32), M75))
  else (bO (gfI M75 l0 7 2) fun v107 =>
  some (v107, M75)))
  else (bO (gfI M75 l0 7 2) fun v107 =>
  some (v107, M75)))
  else (bO (gfI M75 l0 7 6) fun v112 =>
  if v112 = (0 : Int32) then (bO (rcv M75 l0 7) fun _ =>
  bP (P_X7_begin G F l0 v75 M75) fun v151 M151 =>
  B_X7_read_47 G F n l0 v151 (l4 + 1) M151)
  else (if v112 = (1 : Int32) then (if v75 = (93 : Int32) then (bO (rcv M75 l0 7) fun _ =>
  bP (P_X7_close G F l0 M75) fun v166 M166 =>
  B_X7_read_47 G F n l0 v166 (l4 + 1) M166)
  else (bO (rcv M75 l0 7) fun _ =>
  bP (P_X7_begin G F l0 v75 M75) fun v175 M175 =>
  B_X7_read_47 G F n l0 v175 (l4 + 1) M175))
  else (if v112 = (2 : Int32) then (bO (rcv M75 l0 7) fun _ =>
  bP (P_X7_memberName G F l0 v75 M75) fun v185 M185 =>
  B_X7_read_47 G F n l0 v185 (l4 + 1) M185)
  else (if v112 = (3 : Int32) then (if v75 = (125 : Int32) then (bO (rcv M75 l0 7) fun _ =>
  bP (P_X7_close G F l0 M75) fun v200 M200 =>
  B_X7_read_47 G F n l0 v200 (l4 + 1) M200)
  else (bO (rcv M75 l0 7) fun _ =>
  bP (P_X7_memberName G F l0 v75 M75) fun v209 M209 =>
  B_X7_read_47 G F n l0 v209 (l4 + 1) M209))
  else (if v112 = (4 : Int32) then (if v75 = (58 : Int32) then (bO (rcv M75 l0 7) fun _ =>
  bP (P_X7_goOn G F l0 (0 : Int32) M75) fun v225 M225 =>
  B_X7_read_47 G F n l0 v225 (l4 + 1) M225)
  else (bO (gfI M75 l0 7 2) fun v233 =>
  bO (rcv M75 l0 7) fun _ =>
  bP (P_X7_wrong G F l0 v233 M75) fun v236 M236 =>
  B_X7_read_47 G F n l0 v236 (l4 + 1) M236))
  else (bO (rcv M75 l0 7) fun _ =>
  bP (P_X7_after G F l0 v75 M75) fun v246 M246 =>
  B_X7_read_47 G F n l0 v246 (l4 + 1) M246))))))))
def P_X7_read (G : mG) (F : Nat) (l0 : Nat) (l1 : Nat) (l2 : Nat) (M : mM) : Option (Int32 × mM) :=
  bO (pfv M l0 7 0 (.ref l1)) fun M2 =>
  bO (pfv M2 l0 7 1 (.ref l2)) fun M7 =>
  bO (gfR M7 l0 7 1) fun v11 =>
  bO (rcv M7 v11 9) fun _ =>
  bO (P_X9_clear G F v11 M7) fun M14 =>
  bO (pfv M14 l0 7 2 (.int (0 : Int32))) fun M19 =>
  bO (pfv M19 l0 7 3 (.int (-1 : Int32))) fun M24 =>
  bO (pfv M24 l0 7 4 (.int (-1 : Int32))) fun M29 =>
  bO (pfv M29 l0 7 5 (.int (0 : Int32))) fun M34 =>
  bO (pfv M34 l0 7 6 (.int (0 : Int32))) fun M39 =>
  B_X7_read_47 G F F l0 (1 : Int32) (0 : Int32) M39
def P_X8_init (G : mG) (F : Nat) (l0 : Nat) (l1 : Nat) (M : mM) (sz : Nat) (sl : Nat) : Option (mM × Nat × Nat) :=
  bO (some (nwO M sz 6 dfX6)) fun M5 =>
  bA (P_X6_init G F sz M5 (sz + 1) (sl + 8)) fun M9 z9 k9 =>
  bO (pfv M9 l0 8 1 (.ref sz)) fun M12 =>
  bO (nwA M12 z9 2 (32 : Int32)) fun M18 =>
  bO (pfv M18 l0 8 2 (.ref z9)) fun M20 =>
  bO (some (nwO M20 (z9 + 1) 0 dfX0)) fun M24 =>
  bA (P_X0_init G F (z9 + 1) (128 : Int32) M24 ((z9 + 1) + 1) ((k9 + ((32 : Int32)).toNatClampNeg) + 3)) fun M31 z31 k31 =>
  bO (pfv M31 l0 8 3 (.ref (z9 + 1))) fun M34 =>
  bO (some (nwO M34 z31 0 dfX0)) fun M38 =>
  bA (P_X0_init G F z31 (128 : Int32) M38 (z31 + 1) (k31 + 3)) fun M45 z45 k45 =>
  bO (pfv M45 l0 8 4 (.ref z31)) fun M48 =>
  bO (some (nwO M48 z45 0 dfX0)) fun M52 =>
  bA (P_X0_init G F z45 (32 : Int32) M52 (z45 + 1) (k45 + 3)) fun M58 z58 k58 =>
  bO (pfv M58 l0 8 5 (.ref z45)) fun M61 =>
  bO (pfv M61 l0 8 0 (.ref l1)) fun M66 =>
  some (M66, z58, k58)
def P_X8_raise (G : mG) (F : Nat) (l0 : Nat) (l1 : Nat) (l2 : Nat) (l3 : Nat) (l4 : Nat) (M : mM) : Option mM :=
  bO (gfR M l0 8 1) fun v1 =>
  bO (rcv M v1 6) fun _ =>
  bO (P_X6_become G F v1 l3 M) fun M5 =>
  bO (gfR M5 l0 8 1) fun v9 =>
  bO (gfI M5 l1 0 1) fun v15 =>
  bO (gfR M5 l0 8 2) fun v19 =>
  bO (rcv M5 v9 6) fun _ =>
  bO (P_X6_take G F v9 l1 (0 : Int32) v15 v19 M5) fun M22 =>
  bO (gfR M22 l0 8 1) fun v26 =>
  bO (gfR M22 l0 8 2) fun v30 =>
  bO (gfR M22 l0 8 2) fun v35 =>
  bO (rcv M22 v26 6) fun _ =>
  bO (P_X6_raise G F v26 v30 l2 v35 M22) fun M38 =>
  bO (rcv M38 l4 0) fun _ =>
  bO (P_X0_clear G F l4 M38) fun M43 =>
  bO (gfR M43 l0 8 1) fun v47 =>
  bO (gfR M43 l0 8 2) fun v51 =>
  bO (gfI M43 l3 0 1) fun v55 =>
  bO (rcv M43 v47 6) fun _ =>
  bO (P_X6_give G F v47 v51 v55 l4 M43) fun M60 =>
  some M60
def B_X8_isPair_46 (G : mG) (F : Nat) : Nat → Nat → Nat → Int32 → mM → Option (Int32 × mM)
  | 0, _, _, _, _ => none
  | n + 1, l0, l1, l4, M =>
  bO (gfI M l1 0 1) fun v49 =>
  if (v49 - (1 : Int32)) ≤ l4 then (bO (gfR M l0 8 3) fun v78 =>
  bO (gfI M l1 0 1) fun v82 =>
  bO (rcv M v78 0) fun _ =>
  bP (P_X0_get G F v78 (v82 - (1 : Int32)) M) fun v87 M87 =>
  if v87 = (2 : Int32) then (retZ (1 : Int32) M87)
  else (retZ (0 : Int32) M87))
  else (bO (gfR M l0 8 3) fun v58 =>
  bO (rcv M v58 0) fun _ =>
  bP (P_X0_get G F v58 l4 M) fun v63 M63 =>
  if v63 = 0 then (B_X8_isPair_46 G F n l0 l1 (l4 + 1) M63)
  else (retZ (0 : Int32) M63))
def P_X8_isPair (G : mG) (F : Nat) (l0 : Nat) (l1 : Nat) (l2 : Nat) (l3 : Nat) (M : mM) : Option (Int32 × mM) :=
  bO (gfR M l0 8 3) fun v1 =>
  bO (rcv M v1 0) fun _ =>
  bO (P_X0_clear G F v1 M) fun M4 =>
  bO (gfR M4 l0 8 3) fun v8 =>
  bO (rcv M4 v8 0) fun _ =>
  bO (P_X0_put G F v8 (2 : Int32) M4) fun M12 =>
  bO (gfR M12 l0 8 3) fun v17 =>
  bO (gfR M12 l0 8 4) fun v23 =>
  bO (rcv M12 l0 8) fun _ =>
  bO (P_X8_raise G F l0 v17 l2 l1 v23 M12) fun M26 =>
  bO (gfR M26 l0 8 4) fun v31 =>
  bO (gfR M26 l0 8 3) fun v37 =>
  bO (rcv M26 l0 8) fun _ =>
  bO (P_X8_raise G F l0 v31 l3 l1 v37 M26) fun M40 =>
  B_X8_isPair_46 G F F l0 l1 (0 : Int32) M40
def B_X8_framePkcs_54 (G : mG) (F : Nat) : Nat → Nat → Nat → Int32 → mM → Option mM
  | 0, _, _, _, _ => none
  | n + 1, l0, l1, l3, M =>
  bO (aln G M (G.1 1008)) fun v58 =>
  if v58 ≤ l3 then (bO (gfR M l0 8 3) fun v81 =>
  bO (rcv M v81 0) fun _ =>
  bO (P_X0_putAll G F v81 l1 M) fun M85 =>
  some M85)
  else (bO (gfR M l0 8 3) fun v63 =>
  bO (aI G M 0 (G.1 1008) l3) fun v70 =>
  bO (rcv M v63 0) fun _ =>
  bO (P_X0_put G F v63 v70 M) fun M71 =>
  B_X8_framePkcs_54 G F n l0 l1 (l3 + 1) M71)
def P_X8_framePkcs (G : mG) (F : Nat) (l0 : Nat) (l1 : Nat) (l2 : Int32) (M : mM) : Option mM :=
  bO (gfR M l0 8 3) fun v1 =>
  bO (rcv M v1 0) fun _ =>
  bO (P_X0_clear G F v1 M) fun M4 =>
  bO (gfR M4 l0 8 3) fun v8 =>
  bO (rcv M4 v8 0) fun _ =>
  bO (P_X0_put G F v8 (0 : Int32) M4) fun M12 =>
  bO (gfR M12 l0 8 3) fun v16 =>
  bO (rcv M12 v16 0) fun _ =>
  bO (P_X0_put G F v16 (1 : Int32) M12) fun M20 =>
  bO (gfR M20 l0 8 3) fun v24 =>
  bO (aln G M20 (G.1 1008)) fun v36 =>
  bO (rcv M20 v24 0) fun _ =>
  bO (P_X0_putSame G F v24 (255 : Int32) (((l2 - (3 : Int32)) - v36) - (32 : Int32)) M20) fun M41 =>
  bO (gfR M41 l0 8 3) fun v45 =>
  bO (rcv M41 v45 0) fun _ =>
  bO (P_X0_put G F v45 (0 : Int32) M41) fun M49 =>
  B_X8_framePkcs_54 G F F l0 l1 (0 : Int32) M49
def P_X8_signPkcs (G : mG) (F : Nat) (l0 : Nat) (l1 : Nat) (l2 : Nat) (l3 : Nat) (l4 : Nat) (M : mM) : Option mM :=
  bO (gfI M l3 0 1) fun v3 =>
  bO (rcv M l0 8) fun _ =>
  bO (P_X8_framePkcs G F l0 l1 v3 M) fun M6 =>
  bO (gfR M6 l0 8 3) fun v11 =>
  bO (rcv M6 l0 8) fun _ =>
  bO (P_X8_raise G F l0 v11 l2 l3 l4 M6) fun M18 =>
  some M18
def P_X8_isNumberOf (G : mG) (F : Nat) (l0 : Nat) (l1 : Nat) (l2 : Nat) (M : mM) : Option (Int32 × mM) :=
  bO (gfI M l1 0 1) fun v1 =>
  bO (gfI M l2 0 1) fun v5 =>
  if v1 = v5 then (bO (gfI M l2 0 1) fun v16 =>
  bP (P_X0_compare G F l1 (0 : Int32) l2 (0 : Int32) v16 M) fun v19 M19 =>
  if 0 ≤ v19 then (retZ (0 : Int32) M19)
  else (retZ (1 : Int32) M19))
  else (retZ (0 : Int32) M)
def P_X8_isPkcsRight (G : mG) (F : Nat) (l0 : Nat) (l1 : Nat) (l2 : Nat) (l3 : Nat) (l4 : Nat) (M : mM) : Option (Int32 × mM) :=
  bO (rcv M l0 8) fun _ =>
  bP (P_X8_isNumberOf G F l0 l2 l4 M) fun v4 M4 =>
  if v4 = 0 then (retZ (0 : Int32) M4)
  else (bO (gfI M4 l4 0 1) fun v16 =>
  bO (rcv M4 l0 8) fun _ =>
  bO (P_X8_framePkcs G F l0 l1 v16 M4) fun M19 =>
  bO (gfR M19 l0 8 4) fun v28 =>
  bO (rcv M19 l0 8) fun _ =>
  bO (P_X8_raise G F l0 l2 l3 l4 v28 M19) fun M31 =>
  bO (gfR M31 l0 8 3) fun v35 =>
  bO (gfR M31 l0 8 4) fun v39 =>
  bO (rcv M31 v35 0) fun _ =>
  bP (P_X0_same G F v35 v39 M31) fun v42 M42 =>
  retZ v42 M42)
def B_X8_bitsOf_12 (G : mG) (F : Nat) : Nat → Nat → Int32 → Int32 → mM → Option (Int32 × mM)
  | 0, _, _, _, _ => none
  | n + 1, l0, l1, l2, M =>
  if l2 ≤ 0 then (some (l1, M))
  else (bO (rcv M l0 0) fun _ =>
  bP (P_X0_get G F l0 (0 : Int32) M) fun v18 M18 =>
  if (v18 &&& l2) = 0 then (B_X8_bitsOf_12 G F n l0 (l1 + (-1)) (l2 >>> ((1 : Int32) &&& 31)) M18)
  else (some (l1, M18)))
def P_X8_bitsOf (G : mG) (F : Nat) (l0 : Nat) (M : mM) : Option (Int32 × mM) :=
  bO (gfI M l0 0 1) fun v3 =>
  B_X8_bitsOf_12 G F F l0 ((8 : Int32) * v3) (128 : Int32) M
def B_X8_maskFrame_68 (G : mG) (F : Nat) (r3 : Nat → Int32 → Int32 → Int32 → Int32 → Int32 → mM → Option mM) : Nat → Nat → Int32 → Int32 → Int32 → Int32 → Int32 → Int32 → mM → Option mM
  | 0, _, _, _, _, _, _, _, _ => none
  | n + 1, l0, l1, l2, l3, l4, l5, l6, M =>
  if (32 : Int32) ≤ l6 then (r3 l0 l1 l2 l3 l4 (l5 + 32) M)
  else (if l4 ≤ (l5 + l6) then (r3 l0 l1 l2 l3 l4 (l5 + 32) M)
  else (bO (gfR M l0 8 3) fun v86 =>
  bO (gfR M l0 8 3) fun v97 =>
  bO (rcv M v97 0) fun _ =>
  bP (P_X0_get G F v97 ((l3 + l5) + l6) M) fun v107 M107 =>
  bO (gfR M107 l0 8 5) fun v111 =>
  bO (rcv M107 v111 0) fun _ =>
  bP (P_X0_get G F v111 l6 M107) fun v116 M116 =>
  bO (rcv M116 v86 0) fun _ =>
  bO (P_X0_set G F v86 ((l3 + l5) + l6) (v107 ^^^ v116) M116) fun M120 =>
  B_X8_maskFrame_68 G F r3 n l0 l1 l2 l3 l4 l5 (l6 + 1) M120))
def B_X8_maskFrame_3 (G : mG) (F : Nat) : Nat → Nat → Int32 → Int32 → Int32 → Int32 → Int32 → mM → Option mM
  | 0, _, _, _, _, _, _, _ => none
  | n + 1, l0, l1, l2, l3, l4, l5, M =>
  if l4 ≤ l5 then (some M)
  else (bO (gfR M l0 8 0) fun v11 =>
  bO (rcv M v11 4) fun _ =>
  bO (P_X4_start G F v11 (256 : Int32) M) fun M17 =>
  bO (gfR M17 l0 8 0) fun v21 =>
  bO (gfR M17 l0 8 3) fun v25 =>
  bO (rcv M17 v21 4) fun _ =>
  bO (P_X4_add G F v21 v25 l1 (l1 + l2) M17) fun M32 =>
  bO (gfR M32 l0 8 0) fun v36 =>
  bO (rcv M32 v36 4) fun _ =>
  bO (P_X4_addWord G F v36 (l5 / (32 : Int32)) M32) fun M44 =>
  bO (gfR M44 l0 8 5) fun v48 =>
  bO (rcv M44 v48 0) fun _ =>
  bO (P_X0_clear G F v48 M44) fun M51 =>
  bO (gfR M51 l0 8 0) fun v55 =>
  bO (gfR M51 l0 8 5) fun v59 =>
  bO (rcv M51 v55 4) fun _ =>
  bO (P_X4_finish G F v55 v59 M51) fun M62 =>
  B_X8_maskFrame_68 G F (B_X8_maskFrame_3 G F n) F l0 l1 l2 l3 l4 l5 (0 : Int32) M62)
def P_X8_maskFrame (G : mG) (F : Nat) (l0 : Nat) (l1 : Int32) (l2 : Int32) (l3 : Int32) (l4 : Int32) (M : mM) : Option mM :=
  B_X8_maskFrame_3 G F F l0 l1 l2 l3 l4 (0 : Int32) M
def P_X8_hashSalted (G : mG) (F : Nat) (l0 : Nat) (l1 : Nat) (l2 : Nat) (l3 : Int32) (l4 : Nat) (M : mM) : Option mM :=
  bO (gfR M l0 8 0) fun v1 =>
  bO (rcv M v1 4) fun _ =>
  bO (P_X4_start G F v1 (256 : Int32) M) fun M7 =>
  bO (gfR M7 l0 8 0) fun v11 =>
  bO (rcv M7 v11 4) fun _ =>
  bO (P_X4_addWord G F v11 (0 : Int32) M7) fun M15 =>
  bO (gfR M15 l0 8 0) fun v19 =>
  bO (rcv M15 v19 4) fun _ =>
  bO (P_X4_addWord G F v19 (0 : Int32) M15) fun M23 =>
  bO (gfR M23 l0 8 0) fun v27 =>
  bO (gfI M23 l1 0 1) fun v33 =>
  bO (rcv M23 v27 4) fun _ =>
  bO (P_X4_add G F v27 l1 (0 : Int32) v33 M23) fun M36 =>
  bO (gfR M36 l0 8 0) fun v40 =>
  bO (rcv M36 v40 4) fun _ =>
  bO (P_X4_add G F v40 l2 l3 (l3 + (32 : Int32)) M36) fun M49 =>
  bO (gfR M49 l0 8 0) fun v53 =>
  bO (rcv M49 v53 4) fun _ =>
  bO (P_X4_finish G F v53 l4 M49) fun M58 =>
  some M58
def P_X8_signPss (G : mG) (F : Nat) (l0 : Nat) (l1 : Nat) (l2 : Nat) (l3 : Nat) (l4 : Nat) (l5 : Nat) (M : mM) : Option (Int32 × mM) :=
  bO (gfI M l2 0 1) fun v1 =>
  if (32 : Int32) ≤ v1 then (bP (P_X8_bitsOf G F l4 M) fun v13 M13 =>
  bO (gfR M13 l0 8 3) fun v40 =>
  bO (rcv M13 v40 0) fun _ =>
  bO (P_X0_clear G F v40 M13) fun M43 =>
  bO (gfR M43 l0 8 3) fun v47 =>
  bO (rcv M43 v47 0) fun _ =>
  bO (P_X0_putSame G F v47 (0 : Int32) (((((((v13 - (1 : Int32)) + (7 : Int32)) / (8 : Int32)) - (32 : Int32)) - (1 : Int32)) - (32 : Int32)) - (1 : Int32)) M43) fun M58 =>
  bO (gfR M58 l0 8 3) fun v62 =>
  bO (rcv M58 v62 0) fun _ =>
  bO (P_X0_put G F v62 (1 : Int32) M58) fun M66 =>
  bO (gfR M66 l0 8 3) fun v70 =>
  bO (rcv M66 v70 0) fun _ =>
  bO (P_X0_putPart G F v70 l2 (0 : Int32) (32 : Int32) M66) fun M77 =>
  bO (gfR M77 l0 8 3) fun v85 =>
  bO (rcv M77 l0 8) fun _ =>
  bO (P_X8_hashSalted G F l0 l1 l2 (0 : Int32) v85 M77) fun M88 =>
  bO (gfR M88 l0 8 3) fun v92 =>
  bO (rcv M88 v92 0) fun _ =>
  bO (P_X0_put G F v92 (188 : Int32) M88) fun M98 =>
  bO (rcv M98 l0 8) fun _ =>
  bO (P_X8_maskFrame G F l0 (((((v13 - (1 : Int32)) + (7 : Int32)) / (8 : Int32)) - (32 : Int32)) - (1 : Int32)) (32 : Int32) (0 : Int32) (((((v13 - (1 : Int32)) + (7 : Int32)) / (8 : Int32)) - (32 : Int32)) - (1 : Int32)) M98) fun M109 =>
  bO (gfR M109 l0 8 3) fun v113 =>
  bO (gfR M109 l0 8 3) fun v118 =>
  bO (rcv M109 v118 0) fun _ =>
  bP (P_X0_get G F v118 (0 : Int32) M109) fun v122 M122 =>
  bO (rcv M122 v113 0) fun _ =>
  bO (P_X0_set G F v113 (0 : Int32) (v122 &&& ((255 : Int32) >>> ((((8 : Int32) * (((v13 - (1 : Int32)) + (7 : Int32)) / (8 : Int32))) - (v13 - (1 : Int32))) &&& 31))) M122) fun M138 =>
  bO (gfR M138 l0 8 3) fun v143 =>
  bO (rcv M138 l0 8) fun _ =>
  bO (P_X8_raise G F l0 v143 l3 l4 l5 M138) fun M151 =>
  retZ (1 : Int32) M151)
  else (retZ (0 : Int32) M)
def B_X8_isPssRight_195 (G : mG) (F : Nat) : Nat → Nat → Nat → Int32 → Int32 → Int32 → mM → Option (Int32 × mM)
  | 0, _, _, _, _, _, _ => none
  | n + 1, l0, l1, l9, l10, l11, M =>
  if l10 ≤ l11 then (bO (gfR M l0 8 4) fun v223 =>
  bO (rcv M v223 0) fun _ =>
  bO (P_X0_clear G F v223 M) fun M226 =>
  bO (gfR M226 l0 8 3) fun v232 =>
  bO (gfR M226 l0 8 4) fun v240 =>
  bO (rcv M226 l0 8) fun _ =>
  bO (P_X8_hashSalted G F l0 l1 v232 (l10 + (1 : Int32)) v240 M226) fun M243 =>
  bO (gfR M243 l0 8 3) fun v247 =>
  bO (rcv M243 v247 0) fun _ =>
  bP (P_X0_get G F v247 l10 M243) fun v252 M252 =>
  if v252 = (1 : Int32) then (bO (gfR M252 l0 8 4) fun v260 =>
  bO (gfR M252 l0 8 3) fun v265 =>
  bP (P_X0_compare G F v260 (0 : Int32) v265 l9 (32 : Int32) M252) fun v272 M272 =>
  if v272 = 0 then (retZ (1 : Int32) M272)
  else (retZ (0 : Int32) M272))
  else (retZ (0 : Int32) M252))
  else (bO (gfR M l0 8 3) fun v203 =>
  bO (rcv M v203 0) fun _ =>
  bP (P_X0_get G F v203 l11 M) fun v208 M208 =>
  if v208 = 0 then (B_X8_isPssRight_195 G F n l0 l1 l9 l10 (l11 + 1) M208)
  else (retZ (0 : Int32) M208))
def B_X8_isPssRight_73 (G : mG) (F : Nat) (l0 : Nat) (l1 : Nat) (l5 : Int32) (l6 : Int32) (l7 : Int32) (M : mM) : Option (Int32 × mM) :=
  bO (gfR M l0 8 3) fun v74 =>
  bO (rcv M v74 0) fun _ =>
  bO (P_X0_clear G F v74 M) fun M77 =>
  bO (gfR M77 l0 8 3) fun v81 =>
  bO (gfR M77 l0 8 4) fun v85 =>
  bO (rcv M77 v81 0) fun _ =>
  bO (P_X0_putPart G F v81 v85 l7 l6 M77) fun M92 =>
  bO (gfR M92 l0 8 3) fun v110 =>
  bO (rcv M92 v110 0) fun _ =>
  bP (P_X0_get G F v110 (l6 - (1 : Int32)) M92) fun v117 M117 =>
  if v117 = (188 : Int32) then (bO (gfR M117 l0 8 3) fun v127 =>
  bO (rcv M117 v127 0) fun _ =>
  bP (P_X0_get G F v127 (0 : Int32) M117) fun v131 M131 =>
  if (v131 &&& (((255 : Int32) >>> ((((8 : Int32) * l6) - l5) &&& 31)) ^^^ (-1 : Int32))) = 0 then (bO (rcv M131 l0 8) fun _ =>
  bO (P_X8_maskFrame G F l0 ((l6 - (32 : Int32)) - (1 : Int32)) (32 : Int32) (0 : Int32) ((l6 - (32 : Int32)) - (1 : Int32)) M131) fun M161 =>
  bO (gfR M161 l0 8 3) fun v165 =>
  bO (gfR M161 l0 8 3) fun v170 =>
  bO (rcv M161 v170 0) fun _ =>
  bP (P_X0_get G F v170 (0 : Int32) M161) fun v174 M174 =>
  bO (rcv M174 v165 0) fun _ =>
  bO (P_X0_set G F v165 (0 : Int32) (v174 &&& ((255 : Int32) >>> ((((8 : Int32) * l6) - l5) &&& 31))) M174) fun M180 =>
  B_X8_isPssRight_195 G F F l0 l1 ((l6 - (32 : Int32)) - (1 : Int32)) ((((l6 - (32 : Int32)) - (1 : Int32)) - (32 : Int32)) - (1 : Int32)) (0 : Int32) M180)
  else (retZ (0 : Int32) M131))
  else (retZ (0 : Int32) M117)
def P_X8_isPssRight (G : mG) (F : Nat) (l0 : Nat) (l1 : Nat) (l2 : Nat) (l3 : Nat) (l4 : Nat) (M : mM) : Option (Int32 × mM) :=
  bO (rcv M l0 8) fun _ =>
  bP (P_X8_isNumberOf G F l0 l2 l4 M) fun v4 M4 =>
  if v4 = 0 then (retZ (0 : Int32) M4)
  else (bO (gfR M4 l0 8 4) fun v18 =>
  bO (rcv M4 l0 8) fun _ =>
  bO (P_X8_raise G F l0 l2 l3 l4 v18 M4) fun M21 =>
  bP (P_X8_bitsOf G F l4 M21) fun v26 M26 =>
  bO (gfR M26 l0 8 4) fun v44 =>
  bO (gfI M26 v44 0 1) fun v47 =>
  if (v47 - (((v26 - (1 : Int32)) + (7 : Int32)) / (8 : Int32))) ≤ 0 then (B_X8_isPssRight_73 G F l0 l1 (v26 - (1 : Int32)) (((v26 - (1 : Int32)) + (7 : Int32)) / (8 : Int32)) (v47 - (((v26 - (1 : Int32)) + (7 : Int32)) / (8 : Int32))) M26)
  else (bO (gfR M26 l0 8 4) fun v61 =>
  bO (rcv M26 v61 0) fun _ =>
  bP (P_X0_get G F v61 (0 : Int32) M26) fun v65 M65 =>
  if v65 = 0 then (B_X8_isPssRight_73 G F l0 l1 (v26 - (1 : Int32)) (((v26 - (1 : Int32)) + (7 : Int32)) / (8 : Int32)) (v47 - (((v26 - (1 : Int32)) + (7 : Int32)) / (8 : Int32))) M65)
  else (retZ (0 : Int32) M65)))
def P_X8_putEmptyHash (G : mG) (F : Nat) (l0 : Nat) (l1 : Nat) (M : mM) : Option mM :=
  bO (gfR M l0 8 0) fun v1 =>
  bO (rcv M v1 4) fun _ =>
  bO (P_X4_start G F v1 (256 : Int32) M) fun M7 =>
  bO (gfR M7 l0 8 0) fun v11 =>
  bO (rcv M7 v11 4) fun _ =>
  bO (P_X4_finish G F v11 l1 M7) fun M15 =>
  some M15
def P_X8_sealOaep (G : mG) (F : Nat) (l0 : Nat) (l1 : Nat) (l2 : Nat) (l3 : Nat) (l4 : Nat) (l5 : Nat) (M : mM) : Option mM :=
  bO (gfR M l0 8 3) fun v1 =>
  bO (rcv M v1 0) fun _ =>
  bO (P_X0_clear G F v1 M) fun M4 =>
  bO (gfR M4 l0 8 3) fun v8 =>
  bO (rcv M4 v8 0) fun _ =>
  bO (P_X0_put G F v8 (0 : Int32) M4) fun M12 =>
  bO (gfR M12 l0 8 3) fun v16 =>
  bO (rcv M12 v16 0) fun _ =>
  bO (P_X0_putPart G F v16 l2 (0 : Int32) (32 : Int32) M12) fun M23 =>
  bO (gfR M23 l0 8 3) fun v28 =>
  bO (rcv M23 l0 8) fun _ =>
  bO (P_X8_putEmptyHash G F l0 v28 M23) fun M31 =>
  bO (gfR M31 l0 8 3) fun v35 =>
  bO (gfI M31 l4 0 1) fun v41 =>
  bO (gfI M31 l1 0 1) fun v45 =>
  bO (rcv M31 v35 0) fun _ =>
  bO (P_X0_putSame G F v35 (0 : Int32) (((v41 - v45) - (64 : Int32)) - (2 : Int32)) M31) fun M54 =>
  bO (gfR M54 l0 8 3) fun v58 =>
  bO (rcv M54 v58 0) fun _ =>
  bO (P_X0_put G F v58 (1 : Int32) M54) fun M62 =>
  bO (gfR M62 l0 8 3) fun v66 =>
  bO (rcv M62 v66 0) fun _ =>
  bO (P_X0_putAll G F v66 l1 M62) fun M70 =>
  bO (gfI M70 l4 0 1) fun v81 =>
  bO (rcv M70 l0 8) fun _ =>
  bO (P_X8_maskFrame G F l0 (1 : Int32) (32 : Int32) (33 : Int32) ((v81 - (1 : Int32)) - (32 : Int32)) M70) fun M89 =>
  bO (gfI M89 l4 0 1) fun v97 =>
  bO (rcv M89 l0 8) fun _ =>
  bO (P_X8_maskFrame G F l0 (33 : Int32) ((v97 - (1 : Int32)) - (32 : Int32)) (1 : Int32) (32 : Int32) M89) fun M108 =>
  bO (gfR M108 l0 8 3) fun v113 =>
  bO (rcv M108 l0 8) fun _ =>
  bO (P_X8_raise G F l0 v113 l3 l4 l5 M108) fun M121 =>
  some M121
def B_X8_openOaep_143 (G : mG) (F : Nat) (l0 : Nat) (l3 : Nat) (l4 : Nat) (l5 : Int32) (M : mM) : Option (Int32 × mM) :=
  bO (gfR M l0 8 3) fun v144 =>
  bO (rcv M v144 0) fun _ =>
  bP (P_X0_get G F v144 l5 M) fun v149 M149 =>
  if v149 = (1 : Int32) then (bO (rcv M149 l4 0) fun _ =>
  bO (P_X0_clear G F l4 M149) fun M160 =>
  bO (gfR M160 l0 8 3) fun v166 =>
  bO (gfI M160 l3 0 1) fun v174 =>
  bO (rcv M160 l4 0) fun _ =>
  bO (P_X0_putPart G F l4 v166 (l5 + (1 : Int32)) ((v174 - l5) - (1 : Int32)) M160) fun M182 =>
  retZ (1 : Int32) M182)
  else (retZ (0 : Int32) M149)
def B_X8_openOaep_113 (G : mG) (F : Nat) : Nat → Nat → Nat → Nat → Int32 → Int32 → mM → Option (Int32 × mM)
  | 0, _, _, _, _, _, _ => none
  | n + 1, l0, l3, l4, l5, l6, M =>
  bO (gfI M l3 0 1) fun v116 =>
  if v116 ≤ l6 then (B_X8_openOaep_143 G F l0 l3 l4 l5 M)
  else (bO (gfR M l0 8 3) fun v123 =>
  bO (rcv M v123 0) fun _ =>
  bP (P_X0_get G F v123 l6 M) fun v128 M128 =>
  if v128 = 0 then (B_X8_openOaep_113 G F n l0 l3 l4 (l5 + 1) (l6 + 1) M128)
  else (B_X8_openOaep_143 G F l0 l3 l4 l5 M128))
def P_X8_openOaep (G : mG) (F : Nat) (l0 : Nat) (l1 : Nat) (l2 : Nat) (l3 : Nat) (l4 : Nat) (M : mM) : Option (Int32 × mM) :=
  bO (rcv M l0 8) fun _ =>
  bP (P_X8_isNumberOf G F l0 l1 l3 M) fun v3 M3 =>
  if v3 = 0 then (retZ (0 : Int32) M3)
  else (bO (gfR M3 l0 8 3) fun v16 =>
  bO (rcv M3 l0 8) fun _ =>
  bO (P_X8_raise G F l0 l1 l2 l3 v16 M3) fun M19 =>
  bO (gfI M19 l3 0 1) fun v26 =>
  bO (rcv M19 l0 8) fun _ =>
  bO (P_X8_maskFrame G F l0 (33 : Int32) ((v26 - (1 : Int32)) - (32 : Int32)) (1 : Int32) (32 : Int32) M19) fun M37 =>
  bO (gfI M37 l3 0 1) fun v47 =>
  bO (rcv M37 l0 8) fun _ =>
  bO (P_X8_maskFrame G F l0 (1 : Int32) (32 : Int32) (33 : Int32) ((v47 - (1 : Int32)) - (32 : Int32)) M37) fun M55 =>
  bO (gfR M55 l0 8 4) fun v59 =>
  bO (rcv M55 v59 0) fun _ =>
  bO (P_X0_clear G F v59 M55) fun M62 =>
  bO (gfR M62 l0 8 4) fun v67 =>
  bO (rcv M62 l0 8) fun _ =>
  bO (P_X8_putEmptyHash G F l0 v67 M62) fun M70 =>
  bO (gfR M70 l0 8 3) fun v74 =>
  bO (rcv M70 v74 0) fun _ =>
  bP (P_X0_get G F v74 (0 : Int32) M70) fun v78 M78 =>
  if v78 = 0 then (bO (gfR M78 l0 8 4) fun v85 =>
  bO (gfR M78 l0 8 3) fun v90 =>
  bP (P_X0_compare G F v85 (0 : Int32) v90 (33 : Int32) (32 : Int32) M78) fun v97 M97 =>
  if v97 = 0 then (B_X8_openOaep_113 G F F l0 l3 l4 (65 : Int32) (65 : Int32) M97)
  else (retZ (0 : Int32) M97))
  else (retZ (0 : Int32) M78))
def P_X9_init (G : mG) (F : Nat) (l0 : Nat) (M : mM) (sz : Nat) (sl : Nat) : Option (mM × Nat × Nat) :=
  bO (nwA M sz 0 (600 : Int32)) fun M8 =>
  bO (pfv M8 l0 9 1 (.ref sz)) fun M10 =>
  bO (nwA M10 (sz + 1) 0 (600 : Int32)) fun M17 =>
  bO (pfv M17 l0 9 2 (.ref (sz + 1))) fun M19 =>
  bO (nwA M19 ((sz + 1) + 1) 0 (600 : Int32)) fun M26 =>
  bO (pfv M26 l0 9 3 (.ref ((sz + 1) + 1))) fun M28 =>
  bO (nwA M28 (((sz + 1) + 1) + 1) 0 (600 : Int32)) fun M35 =>
  bO (pfv M35 l0 9 4 (.ref (((sz + 1) + 1) + 1))) fun M37 =>
  bO (nwA M37 ((((sz + 1) + 1) + 1) + 1) 0 (600 : Int32)) fun M44 =>
  bO (pfv M44 l0 9 5 (.ref ((((sz + 1) + 1) + 1) + 1))) fun M46 =>
  bO (nwA M46 (((((sz + 1) + 1) + 1) + 1) + 1) 0 (600 : Int32)) fun M53 =>
  bO (pfv M53 l0 9 6 (.ref (((((sz + 1) + 1) + 1) + 1) + 1))) fun M55 =>
  bO (nwA M55 ((((((sz + 1) + 1) + 1) + 1) + 1) + 1) 0 (600 : Int32)) fun M62 =>
  bO (pfv M62 l0 9 7 (.ref ((((((sz + 1) + 1) + 1) + 1) + 1) + 1))) fun M64 =>
  bO (nwA M64 (((((((sz + 1) + 1) + 1) + 1) + 1) + 1) + 1) 0 (600 : Int32)) fun M71 =>
  bO (pfv M71 l0 9 8 (.ref (((((((sz + 1) + 1) + 1) + 1) + 1) + 1) + 1))) fun M73 =>
  bO (nwA M73 ((((((((sz + 1) + 1) + 1) + 1) + 1) + 1) + 1) + 1) 0 (600 : Int32)) fun M80 =>
  bO (pfv M80 l0 9 9 (.ref ((((((((sz + 1) + 1) + 1) + 1) + 1) + 1) + 1) + 1))) fun M82 =>
  bO (some (nwO M82 (((((((((sz + 1) + 1) + 1) + 1) + 1) + 1) + 1) + 1) + 1) 0 dfX0)) fun M86 =>
  bA (P_X0_init G F (((((((((sz + 1) + 1) + 1) + 1) + 1) + 1) + 1) + 1) + 1) (8192 : Int32) M86 ((((((((((sz + 1) + 1) + 1) + 1) + 1) + 1) + 1) + 1) + 1) + 1) ((((((((((sl + ((600 : Int32)).toNatClampNeg) + ((600 : Int32)).toNatClampNeg) + ((600 : Int32)).toNatClampNeg) + ((600 : Int32)).toNatClampNeg) + ((600 : Int32)).toNatClampNeg) + ((600 : Int32)).toNatClampNeg) + ((600 : Int32)).toNatClampNeg) + ((600 : Int32)).toNatClampNeg) + ((600 : Int32)).toNatClampNeg) + 3)) fun M93 z93 k93 =>
  bO (pfv M93 l0 9 10 (.ref (((((((((sz + 1) + 1) + 1) + 1) + 1) + 1) + 1) + 1) + 1))) fun M96 =>
  some (M96, z93, k93)
def P_X9_saysSame (G : mG) (F : Nat) (l0 : Nat) (l1 : Int32) (l2 : Nat) (M : mM) : Option (Int32 × mM) :=
  bO (rcv M l0 9) fun _ =>
  bP (P_X9_isKind G F l0 l1 (4 : Int32) M) fun v3 M3 =>
  if v3 = 0 then (retZ (0 : Int32) M3)
  else (bO (gfR M3 l0 9 6) fun v11 =>
  bO (aI G M3 0 v11 l1) fun v15 =>
  bO (gfR M3 l0 9 7) fun v17 =>
  bO (aI G M3 0 v17 l1) fun v21 =>
  bO (gfI M3 l2 0 1) fun v25 =>
  bO (rcv M3 l0 9) fun _ =>
  bP (P_X9_poolSays G F l0 v15 v21 l2 (0 : Int32) v25 M3) fun v28 M28 =>
  if v28 = 0 then (retZ (0 : Int32) M28)
  else (retZ (1 : Int32) M28))
def B_X9_closeTo_6 (G : mG) (F : Nat) : Nat → Nat → Int32 → Nat → Int32 → Int32 → mM → Option (Int32 × mM)
  | 0, _, _, _, _, _, _ => none
  | n + 1, l0, l1, l3, l4, l5, M =>
  bO (gfI M l0 9 0) fun v9 =>
  if v9 ≤ l5 then (some (l4, M))
  else (if l4 = l1 then (some (l4, M))
  else (if l4 < 0 then (some (l4, M))
  else (bO (gfR M l0 9 1) fun v28 =>
  bO (aI G M 0 v28 l4) fun v33 =>
  if v33 = (6 : Int32) then (bO (rcv M l3 0) fun _ =>
  bO (P_X0_put G F l3 (125 : Int32) M) fun M46 =>
  bO (gfR M46 l0 9 2) fun v50 =>
  bO (aI G M46 0 v50 l4) fun v55 =>
  B_X9_closeTo_6 G F n l0 l1 l3 v55 (l5 + 1) M46)
  else (bO (rcv M l3 0) fun _ =>
  bO (P_X0_put G F l3 (93 : Int32) M) fun M46 =>
  bO (gfR M46 l0 9 2) fun v50 =>
  bO (aI G M46 0 v50 l4) fun v55 =>
  B_X9_closeTo_6 G F n l0 l1 l3 v55 (l5 + 1) M46))))
def P_X9_closeTo (G : mG) (F : Nat) (l0 : Nat) (l1 : Int32) (l2 : Int32) (l3 : Nat) (M : mM) : Option (Int32 × mM) :=
  B_X9_closeTo_6 G F F l0 l1 l3 l2 (0 : Int32) M
def P_X9_shortEscape (G : mG) (F : Nat) (l0 : Int32) (M : mM) : Option (Int32 × mM) :=
  if l0 = (8 : Int32) then (some ((98 : Int32), M))
  else (if l0 = (9 : Int32) then (some ((116 : Int32), M))
  else (if l0 = (10 : Int32) then (some ((110 : Int32), M))
  else (if l0 = (12 : Int32) then (some ((102 : Int32), M))
  else (if l0 = (13 : Int32) then (some ((114 : Int32), M))
  else (if l0 = (34 : Int32) then (some ((34 : Int32), M))
  else (if l0 = (92 : Int32) then (some ((92 : Int32), M))
  else (some ((-1 : Int32), M))))))))
def B_X9_putString_81 (G : mG) (F : Nat) (r9 : Nat → Int32 → Int32 → Nat → Int32 → mM → Option mM) (l0 : Nat) (l1 : Int32) (l2 : Int32) (l3 : Nat) (l4 : Int32) (l5 : Int32) (sk0 : Nat) (sk1 : Int32) (M : mM) : Option mM :=
  bO (rcv M sk0 0) fun _ =>
  bO (P_X0_put G F sk0 sk1 M) fun M81 =>
  if (10 : Int32) ≤ (l5 &&& (15 : Int32)) then (bO (rcv M81 l3 0) fun _ =>
  bO (P_X0_put G F l3 ((87 : Int32) + (l5 &&& (15 : Int32))) M81) fun M114 =>
  r9 l0 l1 l2 l3 (l4 + 1) M114)
  else (bO (rcv M81 l3 0) fun _ =>
  bO (P_X0_put G F l3 ((48 : Int32) + (l5 &&& (15 : Int32))) M81) fun M114 =>
  r9 l0 l1 l2 l3 (l4 + 1) M114)
def B_X9_putString_9 (G : mG) (F : Nat) : Nat → Nat → Int32 → Int32 → Nat → Int32 → mM → Option mM
  | 0, _, _, _, _, _, _ => none
  | n + 1, l0, l1, l2, l3, l4, M =>
  if (l1 + l2) ≤ l4 then (bO (rcv M l3 0) fun _ =>
  bO (P_X0_put G F l3 (34 : Int32) M) fun M135 =>
  some M135)
  else (bO (rcv M l0 0) fun _ =>
  bP (P_X0_get G F l0 l4 M) fun v20 M20 =>
  bP (P_X9_shortEscape G F v20 M20) fun v27 M27 =>
  if v27 = (-1 : Int32) then (if (32 : Int32) ≤ v20 then (bO (rcv M27 l3 0) fun _ =>
  bO (P_X0_put G F l3 v20 M27) fun M123 =>
  B_X9_putString_9 G F n l0 l1 l2 l3 (l4 + 1) M123)
  else (bO (rcv M27 l3 0) fun _ =>
  bO (P_X0_putText G F l3 (G.1 11) M27) fun M63 =>
  if (16 : Int32) ≤ v20 then (B_X9_putString_81 G F (B_X9_putString_9 G F n) l0 l1 l2 l3 l4 v20 l3 (49 : Int32) M63)
  else (B_X9_putString_81 G F (B_X9_putString_9 G F n) l0 l1 l2 l3 l4 v20 l3 (48 : Int32) M63)))
  else (bO (rcv M27 l3 0) fun _ =>
  bO (P_X0_put G F l3 (92 : Int32) M27) fun M41 =>
  bO (rcv M41 l3 0) fun _ =>
  bO (P_X0_put G F l3 v27 M41) fun M47 =>
  B_X9_putString_9 G F n l0 l1 l2 l3 (l4 + 1) M47))
def P_X9_putString (G : mG) (F : Nat) (l0 : Nat) (l1 : Int32) (l2 : Int32) (l3 : Nat) (M : mM) : Option mM :=
  bO (rcv M l3 0) fun _ =>
  bO (P_X0_put G F l3 (34 : Int32) M) fun M3 =>
  B_X9_putString_9 G F F l0 l1 l2 l3 l1 M3
def P_X9_putStart (G : mG) (F : Nat) (l0 : Nat) (l1 : Int32) (l2 : Nat) (M : mM) : Option mM :=
  bO (gfR M l0 9 1) fun v1 =>
  bO (aI G M 0 v1 l1) fun v5 =>
  if v5 = (0 : Int32) then (bO (rcv M l2 0) fun _ =>
  bO (P_X0_putText G F l2 (G.1 12) M) fun M47 =>
  some M47)
  else (if v5 = (1 : Int32) then (bO (rcv M l2 0) fun _ =>
  bO (P_X0_putText G F l2 (G.1 13) M) fun M56 =>
  some M56)
  else (if v5 = (2 : Int32) then (bO (rcv M l2 0) fun _ =>
  bO (P_X0_putText G F l2 (G.1 14) M) fun M65 =>
  some M65)
  else (if v5 = (3 : Int32) then (bO (gfR M l0 9 10) fun v73 =>
  bO (gfR M l0 9 6) fun v77 =>
  bO (aI G M 0 v77 l1) fun v81 =>
  bO (gfR M l0 9 7) fun v83 =>
  bO (aI G M 0 v83 l1) fun v87 =>
  bO (rcv M l2 0) fun _ =>
  bO (P_X0_putPart G F l2 v73 v81 v87 M) fun M88 =>
  some M88)
  else (if v5 = (4 : Int32) then (bO (gfR M l0 9 10) fun v95 =>
  bO (gfR M l0 9 6) fun v99 =>
  bO (aI G M 0 v99 l1) fun v103 =>
  bO (gfR M l0 9 7) fun v105 =>
  bO (aI G M 0 v105 l1) fun v109 =>
  bO (P_X9_putString G F v95 v103 v109 l2 M) fun M111 =>
  some M111)
  else (if v5 = (5 : Int32) then (bO (rcv M l2 0) fun _ =>
  bO (P_X0_put G F l2 (91 : Int32) M) fun M120 =>
  some M120)
  else (bO (rcv M l2 0) fun _ =>
  bO (P_X0_put G F l2 (123 : Int32) M) fun M129 =>
  some M129))))))
def B_X9_putValue_132 (G : mG) (F : Nat) (l0 : Nat) (l1 : Int32) (l2 : Nat) (l3 : Int32) (M : mM) : Option mM :=
  if l3 = (-1 : Int32) then (some M)
  else (bO (gfR M l0 9 2) fun v139 =>
  bO (aI G M 0 v139 l1) fun v143 =>
  bO (rcv M l0 9) fun _ =>
  bP (P_X9_closeTo G F l0 v143 l3 l2 M) fun v146 M146 =>
  some M146)
def B_X9_putValue_105 (G : mG) (F : Nat) (r5 : Nat → Int32 → Nat → Int32 → Int32 → mM → Option mM) (l0 : Nat) (l1 : Int32) (l2 : Nat) (l3 : Int32) (l4 : Int32) (M : mM) : Option mM :=
  bO (rcv M l0 9) fun _ =>
  bO (P_X9_putStart G F l0 l4 l2 M) fun M109 =>
  bO (gfR M109 l0 9 1) fun v113 =>
  bO (aI G M109 0 v113 l4) fun v118 =>
  if v118 < (5 : Int32) then (r5 l0 l1 l2 l3 (l4 + 1) M109)
  else (r5 l0 l1 l2 l4 (l4 + 1) M109)
def B_X9_putValue_67 (G : mG) (F : Nat) (r5 : Nat → Int32 → Nat → Int32 → Int32 → mM → Option mM) (l0 : Nat) (l1 : Int32) (l2 : Nat) (l3 : Int32) (l4 : Int32) (M : mM) : Option mM :=
  bO (rcv M l0 9) fun _ =>
  bP (P_X9_isKind G F l0 l3 (6 : Int32) M) fun v71 M71 =>
  if v71 = 0 then (B_X9_putValue_105 G F r5 l0 l1 l2 l3 l4 M71)
  else (bO (gfR M71 l0 9 10) fun v78 =>
  bO (gfR M71 l0 9 8) fun v82 =>
  bO (aI G M71 0 v82 l4) fun v87 =>
  bO (gfR M71 l0 9 9) fun v89 =>
  bO (aI G M71 0 v89 l4) fun v94 =>
  bO (P_X9_putString G F v78 v87 v94 l2 M71) fun M96 =>
  bO (rcv M96 l2 0) fun _ =>
  bO (P_X0_put G F l2 (58 : Int32) M96) fun M102 =>
  B_X9_putValue_105 G F r5 l0 l1 l2 l3 l4 M102)
def B_X9_putValue_31 (G : mG) (F : Nat) (r5 : Nat → Int32 → Nat → Int32 → Int32 → mM → Option mM) (l0 : Nat) (l1 : Int32) (l2 : Nat) (l3 : Int32) (l4 : Int32) (M : mM) : Option mM :=
  if l4 ≤ l1 then (B_X9_putValue_105 G F r5 l0 l1 l2 l3 l4 M)
  else (bO (gfR M l0 9 2) fun v39 =>
  bO (aI G M 0 v39 l4) fun v44 =>
  bO (rcv M l0 9) fun _ =>
  bP (P_X9_closeTo G F l0 v44 l3 l2 M) fun v47 M47 =>
  bO (gfR M47 l0 9 3) fun v52 =>
  bO (aI G M47 0 v52 l4) fun v57 =>
  if v57 ≤ 0 then (B_X9_putValue_67 G F r5 l0 l1 l2 v47 l4 M47)
  else (bO (rcv M47 l2 0) fun _ =>
  bO (P_X0_put G F l2 (44 : Int32) M47) fun M64 =>
  B_X9_putValue_67 G F r5 l0 l1 l2 v47 l4 M64))
def B_X9_putValue_5 (G : mG) (F : Nat) : Nat → Nat → Int32 → Nat → Int32 → Int32 → mM → Option mM
  | 0, _, _, _, _, _, _ => none
  | n + 1, l0, l1, l2, l3, l4, M =>
  bO (gfI M l0 9 0) fun v8 =>
  if v8 ≤ l4 then (B_X9_putValue_132 G F l0 l1 l2 l3 M)
  else (if l4 = l1 then (B_X9_putValue_31 G F (B_X9_putValue_5 G F n) l0 l1 l2 l3 l4 M)
  else (bO (gfR M l0 9 2) fun v21 =>
  bO (aI G M 0 v21 l4) fun v26 =>
  if v26 < l1 then (B_X9_putValue_132 G F l0 l1 l2 l3 M)
  else (B_X9_putValue_31 G F (B_X9_putValue_5 G F n) l0 l1 l2 l3 l4 M)))
def P_X9_putValue (G : mG) (F : Nat) (l0 : Nat) (l1 : Int32) (l2 : Nat) (M : mM) : Option mM :=
  B_X9_putValue_5 G F F l0 l1 l2 (-1 : Int32) l1 M
def P_X10_init (G : mG) (F : Nat) (l0 : Nat) (M : mM) (sz : Nat) (sl : Nat) : Option (mM × Nat × Nat) :=
  bO (some (nwO M sz 0 dfX0)) fun M5 =>
  bA (P_X0_init G F sz (8192 : Int32) M5 (sz + 1) (sl + 3)) fun M12 z12 k12 =>
  bO (pfv M12 l0 10 0 (.ref sz)) fun M15 =>
  bO (some (nwO M15 z12 0 dfX0)) fun M19 =>
  bA (P_X0_init G F z12 (4608 : Int32) M19 (z12 + 1) (k12 + 3)) fun M26 z26 k26 =>
  bO (pfv M26 l0 10 4 (.ref z12)) fun M29 =>
  bO (some (nwO M29 z26 0 dfX0)) fun M33 =>
  bA (P_X0_init G F z26 (4608 : Int32) M33 (z26 + 1) (k26 + 3)) fun M40 z40 k40 =>
  bO (pfv M40 l0 10 5 (.ref z26)) fun M43 =>
  bO (some (nwO M43 z40 0 dfX0)) fun M47 =>
  bA (P_X0_init G F z40 (64 : Int32) M47 (z40 + 1) (k40 + 3)) fun M53 z53 k53 =>
  bO (pfv M53 l0 10 6 (.ref z40)) fun M56 =>
  bO (some (nwO M56 z53 0 dfX0)) fun M60 =>
  bA (P_X0_init G F z53 (32 : Int32) M60 (z53 + 1) (k53 + 3)) fun M66 z66 k66 =>
  bO (pfv M66 l0 10 7 (.ref z53)) fun M69 =>
  bO (some (nwO M69 z66 0 dfX0)) fun M73 =>
  bA (P_X0_init G F z66 (32 : Int32) M73 (z66 + 1) (k66 + 3)) fun M79 z79 k79 =>
  bO (pfv M79 l0 10 8 (.ref z66)) fun M82 =>
  bO (some (nwO M82 z79 0 dfX0)) fun M86 =>
  bA (P_X0_init G F z79 (64 : Int32) M86 (z79 + 1) (k79 + 3)) fun M92 z92 k92 =>
  bO (pfv M92 l0 10 9 (.ref z79)) fun M95 =>
  bO (some (nwO M95 z92 0 dfX0)) fun M99 =>
  bA (P_X0_init G F z92 (128 : Int32) M99 (z92 + 1) (k92 + 3)) fun M106 z106 k106 =>
  bO (pfv M106 l0 10 10 (.ref z92)) fun M109 =>
  bO (some (nwO M109 z106 0 dfX0)) fun M113 =>
  bA (P_X0_init G F z106 (16 : Int32) M113 (z106 + 1) (k106 + 3)) fun M119 z119 k119 =>
  bO (pfv M119 l0 10 11 (.ref z106)) fun M122 =>
  bO (some (nwO M122 z119 0 dfX0)) fun M126 =>
  bA (P_X0_init G F z119 (64 : Int32) M126 (z119 + 1) (k119 + 3)) fun M132 z132 k132 =>
  bO (pfv M132 l0 10 12 (.ref z119)) fun M135 =>
  bO (some (nwO M135 z132 0 dfX0)) fun M139 =>
  bA (P_X0_init G F z132 (16 : Int32) M139 (z132 + 1) (k132 + 3)) fun M145 z145 k145 =>
  bO (pfv M145 l0 10 13 (.ref z132)) fun M148 =>
  bO (nwA M148 z145 0 (6 : Int32)) fun M154 =>
  bO (pfv M154 l0 10 14 (.ref z145)) fun M156 =>
  some (M156, (z145 + 1), (k145 + ((6 : Int32)).toNatClampNeg))
def B_X10_split_12 (G : mG) (F : Nat) : Nat → Nat → Nat → Int32 → Int32 → Int32 → mM → Option (Int32 × mM)
  | 0, _, _, _, _, _, _ => none
  | n + 1, l0, l1, l2, l3, l4, M =>
  bO (gfI M l1 0 1) fun v15 =>
  if v15 ≤ l4 then (bO (gfR M l0 10 14) fun v57 =>
  bO (gfI M l1 0 1) fun v62 =>
  bO (sI M 0 v57 l2 (v62 + (1 : Int32))) fun M67 =>
  if l3 = l2 then (retZ (1 : Int32) M67)
  else (retZ (0 : Int32) M67))
  else (bO (rcv M l1 0) fun _ =>
  bP (P_X0_get G F l1 l4 M) fun v24 M24 =>
  if v24 = (46 : Int32) then (if l2 ≤ l3 then (B_X10_split_12 G F n l0 l1 l2 (l3 + 1) (l4 + 1) M24)
  else (bO (gfR M24 l0 10 14) fun v38 =>
  bO (sI M24 0 v38 l3 (l4 + (1 : Int32))) fun M46 =>
  B_X10_split_12 G F n l0 l1 l2 (l3 + 1) (l4 + 1) M46))
  else (B_X10_split_12 G F n l0 l1 l2 l3 (l4 + 1) M24))
def P_X10_split (G : mG) (F : Nat) (l0 : Nat) (l1 : Nat) (l2 : Int32) (M : mM) : Option (Int32 × mM) :=
  bO (gfR M l0 10 14) fun v3 =>
  bO (sI M 0 v3 (0 : Int32) (0 : Int32)) fun M8 =>
  B_X10_split_12 G F F l0 l1 l2 (1 : Int32) (0 : Int32) M8
def P_X10_partStart (G : mG) (F : Nat) (l0 : Nat) (l1 : Int32) (M : mM) : Option (Int32 × mM) :=
  bO (gfR M l0 10 14) fun v1 =>
  bO (aI G M 0 v1 l1) fun v5 =>
  some (v5, M)
def P_X10_partEnd (G : mG) (F : Nat) (l0 : Nat) (l1 : Int32) (M : mM) : Option (Int32 × mM) :=
  bO (gfR M l0 10 14) fun v1 =>
  bO (aI G M 0 v1 (l1 + (1 : Int32))) fun v7 =>
  some ((v7 - (1 : Int32)), M)
def P_X10_isFaulty (G : mG) (F : Nat) (l0 : Nat) (l1 : Nat) (l2 : Int32) (M : mM) : Option (Int32 × mM) :=
  bO (rcv M l0 10) fun _ =>
  bP (P_X10_partStart G F l0 l2 M) fun v3 M3 =>
  bO (rcv M3 l0 10) fun _ =>
  bP (P_X10_partEnd G F l0 l2 M3) fun v8 M8 =>
  bP (P_X0_letterFault G F l1 v3 v8 M8) fun v11 M11 =>
  if v11 = (-1 : Int32) then (retZ (0 : Int32) M11)
  else (retZ (1 : Int32) M11)
def P_X10_partBytes (G : mG) (F : Nat) (l0 : Nat) (l1 : Int32) (M : mM) : Option (Int32 × mM) :=
  bO (rcv M l0 10) fun _ =>
  bP (P_X10_partEnd G F l0 l1 M) fun v2 M2 =>
  bO (rcv M2 l0 10) fun _ =>
  bP (P_X10_partStart G F l0 l1 M2) fun v7 M7 =>
  bP (P_X0_bytesFor G F (v2 - v7) M7) fun v11 M11 =>
  some (v11, M11)
def P_X10_readPart (G : mG) (F : Nat) (l0 : Nat) (l1 : Nat) (l2 : Int32) (l3 : Nat) (M : mM) : Option mM :=
  bO (rcv M l3 0) fun _ =>
  bO (P_X0_clear G F l3 M) fun M1 =>
  bO (rcv M1 l0 10) fun _ =>
  bP (P_X10_partStart G F l0 l2 M1) fun v8 M8 =>
  bO (rcv M8 l0 10) fun _ =>
  bP (P_X10_partEnd G F l0 l2 M8) fun v13 M13 =>
  bO (rcv M13 l3 0) fun _ =>
  bO (P_X0_putUnlettered G F l3 l1 v8 v13 M13) fun M16 =>
  some M16
def P_X10_readSealedParts (G : mG) (F : Nat) (l0 : Nat) (l1 : Nat) (l2 : Nat) (M : mM) : Option (Int32 × mM) :=
  bO (rcv M l0 10) fun _ =>
  bP (P_X10_partBytes G F l0 (1 : Int32) M) fun v2 M2 =>
  bO (gfR M2 l0 10 10) fun v6 =>
  bO (gfR M2 v6 0 0) fun v9 =>
  bO (aln G M2 v9) fun v12 =>
  if v12 < v2 then (retZ (0 : Int32) M2)
  else (bO (rcv M2 l0 10) fun _ =>
  bP (P_X10_partBytes G F l0 (2 : Int32) M2) fun v18 M18 =>
  bO (gfI M18 l0 10 2) fun v25 =>
  bO (aI G M18 0 (G.1 1006) v25) fun v28 =>
  if v18 = v28 then (bO (rcv M18 l0 10) fun _ =>
  bP (P_X10_partBytes G F l0 (4 : Int32) M18) fun v34 M34 =>
  bO (gfI M34 l0 10 2) fun v41 =>
  bO (aI G M34 0 (G.1 1007) v41) fun v44 =>
  if v34 = v44 then (bO (gfR M34 l0 10 10) fun v54 =>
  bO (rcv M34 l0 10) fun _ =>
  bO (P_X10_readPart G F l0 l1 (1 : Int32) v54 M34) fun M57 =>
  bO (gfR M57 l0 10 11) fun v64 =>
  bO (rcv M57 l0 10) fun _ =>
  bO (P_X10_readPart G F l0 l1 (2 : Int32) v64 M57) fun M67 =>
  bO (rcv M67 l0 10) fun _ =>
  bO (P_X10_readPart G F l0 l1 (3 : Int32) l2 M67) fun M74 =>
  bO (rcv M74 l0 10) fun _ =>
  bP (P_X10_partStart G F l0 (4 : Int32) M74) fun v81 M81 =>
  bO (rcv M81 l0 10) fun _ =>
  bP (P_X10_partEnd G F l0 (4 : Int32) M81) fun v86 M86 =>
  bO (rcv M86 l2 0) fun _ =>
  bO (P_X0_putUnlettered G F l2 l1 v81 v86 M86) fun M89 =>
  retZ (1 : Int32) M89)
  else (retZ (0 : Int32) M34))
  else (retZ (0 : Int32) M18))
def P_X10_kidSuits (G : mG) (F : Nat) (l0 : Nat) (l1 : Nat) (l2 : Nat) (M : mM) : Option (Int32 × mM) :=
  bO (gfI M l0 10 15) fun v1 =>
  if v1 = (-1 : Int32) then (retZ (1 : Int32) M)
  else (bO (gfI M l2 5 4) fun v9 =>
  if v9 = 0 then (retZ (0 : Int32) M)
  else (bO (gfI M l0 10 15) fun v17 =>
  bO (gfR M l2 5 9) fun v21 =>
  bO (rcv M l1 9) fun _ =>
  bP (P_X9_saysSame G F l1 v17 v21 M) fun v24 M24 =>
  if v24 = 0 then (retZ (0 : Int32) M24)
  else (retZ (1 : Int32) M24)))
def B_X10_isSaidBefore_5 (G : mG) (F : Nat) : Nat → Nat → Int32 → Int32 → Int32 → mM → Option (Int32 × mM)
  | 0, _, _, _, _, _ => none
  | n + 1, l1, l2, l3, l4, M =>
  if l3 ≤ l4 then (retZ (0 : Int32) M)
  else (bO (gfR M l1 9 2) fun v12 =>
  bO (aI G M 0 v12 l4) fun v17 =>
  if v17 = l2 then (bO (gfR M l1 9 7) fun v23 =>
  bO (aI G M 0 v23 l4) fun v28 =>
  bO (gfR M l1 9 7) fun v30 =>
  bO (aI G M 0 v30 l3) fun v34 =>
  if v28 = v34 then (bO (gfR M l1 9 10) fun v39 =>
  bO (gfR M l1 9 6) fun v43 =>
  bO (aI G M 0 v43 l4) fun v48 =>
  bO (gfR M l1 9 10) fun v50 =>
  bO (gfR M l1 9 6) fun v54 =>
  bO (aI G M 0 v54 l3) fun v58 =>
  bO (gfR M l1 9 7) fun v60 =>
  bO (aI G M 0 v60 l3) fun v64 =>
  bP (P_X0_compare G F v39 v48 v50 v58 v64 M) fun v65 M65 =>
  if v65 = 0 then (retZ (1 : Int32) M65)
  else (B_X10_isSaidBefore_5 G F n l1 l2 l3 (l4 + 1) M65))
  else (B_X10_isSaidBefore_5 G F n l1 l2 l3 (l4 + 1) M))
  else (B_X10_isSaidBefore_5 G F n l1 l2 l3 (l4 + 1) M))
def P_X10_isSaidBefore (G : mG) (F : Nat) (l0 : Nat) (l1 : Nat) (l2 : Int32) (l3 : Int32) (M : mM) : Option (Int32 × mM) :=
  B_X10_isSaidBefore_5 G F F l1 l2 l3 (l2 + (1 : Int32)) M
def B_X10_isCritSound_24 (G : mG) (F : Nat) : Nat → Nat → Nat → Int32 → Int32 → mM → Option (Int32 × mM)
  | 0, _, _, _, _, _ => none
  | n + 1, l0, l1, l2, l3, M =>
  bO (gfI M l1 9 0) fun v26 =>
  if v26 ≤ l3 then (retZ (1 : Int32) M)
  else (bO (gfR M l1 9 2) fun v33 =>
  bO (aI G M 0 v33 l3) fun v37 =>
  if v37 = l2 then (bO (gfR M l1 9 1) fun v43 =>
  bO (aI G M 0 v43 l3) fun v47 =>
  if v47 = (4 : Int32) then (bO (rcv M l0 10) fun _ =>
  bP (P_X10_isSaidBefore G F l0 l1 l2 l3 M) fun v56 M56 =>
  if v56 = 0 then (B_X10_isCritSound_24 G F n l0 l1 l2 (l3 + 1) M56)
  else (retZ (0 : Int32) M56))
  else (retZ (0 : Int32) M))
  else (B_X10_isCritSound_24 G F n l0 l1 l2 (l3 + 1) M))
def P_X10_isCritSound (G : mG) (F : Nat) (l0 : Nat) (l1 : Nat) (l2 : Int32) (M : mM) : Option (Int32 × mM) :=
  bO (rcv M l1 9) fun _ =>
  bP (P_X9_isKind G F l1 l2 (5 : Int32) M) fun v3 M3 =>
  if v3 = 0 then (retZ (0 : Int32) M3)
  else (bO (gfR M3 l1 9 5) fun v10 =>
  bO (aI G M3 0 v10 l2) fun v14 =>
  if v14 = 0 then (retZ (0 : Int32) M3)
  else (B_X10_isCritSound_24 G F F l0 l1 l2 (l2 + (1 : Int32)) M3))
def P_X10_isHeadSound (G : mG) (F : Nat) (l0 : Nat) (l1 : Nat) (l2 : Int32) (M : mM) : Option (Int32 × mM) :=
  bO (rcv M l1 9) fun _ =>
  bP (P_X9_find G F l1 (0 : Int32) (G.1 55) M) fun v5 M5 =>
  bO (pfv M5 l0 10 15 (.int v5)) fun M8 =>
  bO (rcv M8 l1 9) fun _ =>
  bP (P_X9_isKind G F l1 (0 : Int32) (6 : Int32) M8) fun v15 M15 =>
  if v15 = 0 then (retZ (0 : Int32) M15)
  else (bO (rcv M15 l1 9) fun _ =>
  bP (P_X9_find G F l1 (0 : Int32) (G.1 56) M15) fun v26 M26 =>
  bO (rcv M26 l1 9) fun _ =>
  bP (P_X9_isKind G F l1 v26 (4 : Int32) M26) fun v30 M30 =>
  if v30 = 0 then (retZ (0 : Int32) M30)
  else (bO (gfI M30 l0 10 15) fun v38 =>
  bO (rcv M30 l1 9) fun _ =>
  bP (P_X9_isStringOrNone G F l1 v38 M30) fun v41 M41 =>
  if v41 = 0 then (retZ (0 : Int32) M41)
  else (if l2 = (-1 : Int32) then (retZ (1 : Int32) M41)
  else (bO (rcv M41 l0 10) fun _ =>
  bP (P_X10_isCritSound G F l0 l1 l2 M41) fun v55 M55 =>
  if v55 = 0 then (retZ (0 : Int32) M55)
  else (retZ (1 : Int32) M55)))))
def B_X10_listed_3 (G : mG) (F : Nat) : Nat → Nat → Int32 → Int32 → Int32 → Int32 → mM → Option (Int32 × mM)
  | 0, _, _, _, _, _, _ => none
  | n + 1, l0, l1, l2, l3, l4, M =>
  if l3 ≤ l4 then (some ((-1 : Int32), M))
  else (bP (P_X11_algName G F (l2 + l4) M) fun v15 M15 =>
  bO (rcv M15 l0 9) fun _ =>
  bP (P_X9_says G F l0 l1 v15 M15) fun v18 M18 =>
  if v18 = 0 then (B_X10_listed_3 G F n l0 l1 l2 l3 (l4 + 1) M18)
  else (some (l4, M18)))
def P_X10_listed (G : mG) (F : Nat) (l0 : Nat) (l1 : Int32) (l2 : Int32) (l3 : Int32) (M : mM) : Option (Int32 × mM) :=
  B_X10_listed_3 G F F l0 l1 l2 l3 (0 : Int32) M
def B_X10_signedHeadReason_111 (G : mG) (F : Nat) (l0 : Nat) (l1 : Nat) (M : mM) : Option (Int32 × mM) :=
  bO (rcv M l1 9) fun _ =>
  bP (P_X9_find G F l1 (0 : Int32) (G.1 56) M) fun v117 M117 =>
  bP (P_X10_listed G F l1 v117 (0 : Int32) (5 : Int32) M117) fun v122 M122 =>
  bO (pfv M122 l0 10 1 (.int v122)) fun M125 =>
  bO (gfI M125 l0 10 1) fun v129 =>
  if v129 = (-1 : Int32) then (some ((-25 : Int32), M125))
  else (some ((0 : Int32), M125))
def B_X10_signedHeadReason_83 (G : mG) (F : Nat) (l0 : Nat) (l1 : Nat) (l3 : Int32) (sk0 : Int32) (M : mM) : Option (Int32 × mM) :=
  if sk0 = 0 then (some ((-24 : Int32), M))
  else (bO (rcv M l1 9) fun _ =>
  bP (P_X9_isKind G F l1 l3 (1 : Int32) M) fun v93 M93 =>
  if v93 = 0 then (bO (rcv M93 l1 9) fun _ =>
  bP (P_X9_isKind G F l1 l3 (2 : Int32) M93) fun v102 M102 =>
  if v102 = 0 then (some ((-24 : Int32), M102))
  else (B_X10_signedHeadReason_111 G F l0 l1 M102))
  else (B_X10_signedHeadReason_111 G F l0 l1 M93))
def B_X10_signedHeadReason_48 (G : mG) (F : Nat) (l0 : Nat) (l1 : Nat) (l2 : Int32) (l3 : Int32) (sk0 : Nat) (sk1 : Int32) (M : mM) : Option (Int32 × mM) :=
  bO (pfZ M sk0 10 3 sk1) fun M48 =>
  if l2 = (-1 : Int32) then (B_X10_signedHeadReason_111 G F l0 l1 M48)
  else (bO (gfR M48 l1 9 5) fun v57 =>
  bO (aI G M48 0 v57 l2) fun v61 =>
  if v61 = (1 : Int32) then (bO (rcv M48 l1 9) fun _ =>
  bP (P_X9_says G F l1 (l2 + (1 : Int32)) (G.1 57) M48) fun v72 M72 =>
  if v72 = 0 then (B_X10_signedHeadReason_83 G F l0 l1 l3 (0 : Int32) M72)
  else (B_X10_signedHeadReason_83 G F l0 l1 l3 (1 : Int32) M72))
  else (B_X10_signedHeadReason_83 G F l0 l1 l3 (0 : Int32) M48))
def P_X10_signedHeadReason (G : mG) (F : Nat) (l0 : Nat) (l1 : Nat) (M : mM) : Option (Int32 × mM) :=
  bO (rcv M l1 9) fun _ =>
  bP (P_X9_find G F l1 (0 : Int32) (G.1 54) M) fun v4 M4 =>
  bO (rcv M4 l0 10) fun _ =>
  bP (P_X10_isHeadSound G F l0 l1 v4 M4) fun v11 M11 =>
  if v11 = 0 then (some ((-23 : Int32), M11))
  else (bO (rcv M11 l1 9) fun _ =>
  bP (P_X9_find G F l1 (0 : Int32) (G.1 57) M11) fun v24 M24 =>
  if v4 = (-1 : Int32) then (B_X10_signedHeadReason_48 G F l0 l1 v4 v24 l0 (0 : Int32) M24)
  else (bO (rcv M24 l1 9) fun _ =>
  bP (P_X9_isKind G F l1 v24 (1 : Int32) M24) fun v37 M37 =>
  if v37 = 0 then (B_X10_signedHeadReason_48 G F l0 l1 v4 v24 l0 (0 : Int32) M37)
  else (B_X10_signedHeadReason_48 G F l0 l1 v4 v24 l0 (1 : Int32) M37)))
def P_X11_wayName (G : mG) (F : Nat) (l0 : Int32) (M : mM) : Option (Nat × mM) :=
  if l0 = (0 : Int32) then (some ((G.1 59), M))
  else (if l0 = (1 : Int32) then (some ((G.1 60), M))
  else (if l0 = (2 : Int32) then (some ((G.1 61), M))
  else (some ((G.1 62), M))))
def B_X10_listedWay_2 (G : mG) (F : Nat) : Nat → Nat → Int32 → Int32 → mM → Option (Int32 × mM)
  | 0, _, _, _, _ => none
  | n + 1, l0, l1, l2, M =>
  if (4 : Int32) ≤ l2 then (some ((-1 : Int32), M))
  else (bP (P_X11_wayName G F l2 M) fun v10 M10 =>
  bO (rcv M10 l0 9) fun _ =>
  bP (P_X9_says G F l0 l1 v10 M10) fun v13 M13 =>
  if v13 = 0 then (B_X10_listedWay_2 G F n l0 l1 (l2 + 1) M13)
  else (some (l2, M13)))
def P_X10_listedWay (G : mG) (F : Nat) (l0 : Nat) (l1 : Int32) (M : mM) : Option (Int32 × mM) :=
  B_X10_listedWay_2 G F F l0 l1 (0 : Int32) M
def P_X10_takeParty (G : mG) (F : Nat) (l0 : Nat) (l1 : Int32) (l2 : Nat) (M : mM) : Option (Int32 × mM) :=
  bO (rcv M l2 0) fun _ =>
  bO (P_X0_clear G F l2 M) fun M1 =>
  if l1 = (-1 : Int32) then (retZ (1 : Int32) M1)
  else (bO (rcv M1 l0 9) fun _ =>
  bP (P_X9_areLetters G F l0 l1 M1) fun v11 M11 =>
  if v11 = 0 then (retZ (0 : Int32) M11)
  else (bO (rcv M11 l0 9) fun _ =>
  bP (P_X9_putLettered G F l0 l1 (0 : Int32) (4608 : Int32) l2 M11) fun v24 M24 =>
  if v24 = 0 then (retZ (0 : Int32) M24)
  else (retZ (1 : Int32) M24)))
def P_X10_takeAgreement (G : mG) (F : Nat) (l0 : Nat) (l1 : Nat) (M : mM) : Option (Int32 × mM) :=
  bO (rcv M l1 9) fun _ =>
  bP (P_X9_find G F l1 (0 : Int32) (G.1 68) M) fun v4 M4 =>
  bO (rcv M4 l1 9) fun _ =>
  bP (P_X9_isKind G F l1 v4 (6 : Int32) M4) fun v12 M12 =>
  if v12 = 0 then (retZ (0 : Int32) M12)
  else (bO (rcv M12 l1 9) fun _ =>
  bP (P_X9_find G F l1 v4 (G.1 69) M12) fun v23 M23 =>
  bO (rcv M23 l1 9) fun _ =>
  bP (P_X9_says G F l1 v23 (G.1 70) M23) fun v28 M28 =>
  if v28 = 0 then (retZ (0 : Int32) M28)
  else (bP (P_X5_isPointThere G F l1 v4 M28) fun v36 M36 =>
  if v36 = 0 then (retZ (0 : Int32) M36)
  else (bO (gfR M36 l0 10 6) fun v45 =>
  bO (rcv M36 v45 0) fun _ =>
  bO (P_X0_clear G F v45 M36) fun M48 =>
  bO (gfR M48 l0 10 6) fun v54 =>
  bP (P_X5_takePoint G F l1 v4 v54 M48) fun v57 M57 =>
  if v57 = 0 then (retZ (0 : Int32) M57)
  else (bO (rcv M57 l1 9) fun _ =>
  bP (P_X9_find G F l1 (0 : Int32) (G.1 71) M57) fun v68 M68 =>
  bO (gfR M68 l0 10 4) fun v72 =>
  bP (P_X10_takeParty G F l1 v68 v72 M68) fun v75 M75 =>
  if v75 = 0 then (retZ (0 : Int32) M75)
  else (bO (rcv M75 l1 9) fun _ =>
  bP (P_X9_find G F l1 (0 : Int32) (G.1 72) M75) fun v86 M86 =>
  bO (gfR M86 l0 10 5) fun v90 =>
  bP (P_X10_takeParty G F l1 v86 v90 M86) fun v93 M93 =>
  if v93 = 0 then (retZ (0 : Int32) M93)
  else (retZ (1 : Int32) M93))))))
def P_X10_sealedHeadReason (G : mG) (F : Nat) (l0 : Nat) (l1 : Nat) (M : mM) : Option (Int32 × mM) :=
  bO (rcv M l1 9) fun _ =>
  bP (P_X9_find G F l1 (0 : Int32) (G.1 54) M) fun v4 M4 =>
  bO (rcv M4 l0 10) fun _ =>
  bP (P_X10_isHeadSound G F l0 l1 v4 M4) fun v11 M11 =>
  if v11 = 0 then (some ((-23 : Int32), M11))
  else (bO (rcv M11 l1 9) fun _ =>
  bP (P_X9_find G F l1 (0 : Int32) (G.1 66) M11) fun v22 M22 =>
  bO (rcv M22 l1 9) fun _ =>
  bP (P_X9_isKind G F l1 v22 (4 : Int32) M22) fun v26 M26 =>
  if v26 = 0 then (some ((-23 : Int32), M26))
  else (bO (rcv M26 l1 9) fun _ =>
  bP (P_X9_find G F l1 (0 : Int32) (G.1 67) M26) fun v36 M36 =>
  if v36 = (-1 : Int32) then (if v4 = (-1 : Int32) then (bO (rcv M36 l1 9) fun _ =>
  bP (P_X9_find G F l1 (0 : Int32) (G.1 56) M36) fun v60 M60 =>
  bP (P_X10_listed G F l1 v60 (5 : Int32) (6 : Int32) M60) fun v66 M66 =>
  bO (pfv M66 l0 10 1 (.int v66)) fun M69 =>
  bO (rcv M69 l1 9) fun _ =>
  bP (P_X9_find G F l1 (0 : Int32) (G.1 66) M69) fun v78 M78 =>
  bP (P_X10_listedWay G F l1 v78 M78) fun v81 M81 =>
  bO (pfv M81 l0 10 2 (.int v81)) fun M84 =>
  bO (gfI M84 l0 10 1) fun v88 =>
  if v88 = (-1 : Int32) then (some ((-25 : Int32), M84))
  else (bO (gfI M84 l0 10 2) fun v96 =>
  if v96 = (-1 : Int32) then (some ((-25 : Int32), M84))
  else (bO (gfI M84 l0 10 1) fun v107 =>
  if v107 < (4 : Int32) then (some ((0 : Int32), M84))
  else (bO (rcv M84 l0 10) fun _ =>
  bP (P_X10_takeAgreement G F l0 l1 M84) fun v116 M116 =>
  if v116 = 0 then (some ((-23 : Int32), M116))
  else (some ((0 : Int32), M116))))))
  else (some ((-24 : Int32), M36)))
  else (some ((-23 : Int32), M36))))
def P_X10_startHead (G : mG) (F : Nat) (l0 : Nat) (l1 : Nat) (M : mM) : Option mM :=
  bO (gfR M l0 10 0) fun v1 =>
  bO (rcv M v1 0) fun _ =>
  bO (P_X0_clear G F v1 M) fun M4 =>
  bO (gfR M4 l0 10 0) fun v8 =>
  bO (rcv M4 v8 0) fun _ =>
  bO (P_X0_putText G F v8 (G.1 52) M4) fun M13 =>
  bO (gfR M13 l0 10 0) fun v17 =>
  bO (rcv M13 v17 0) fun _ =>
  bO (P_X0_putText G F v17 l1 M13) fun M21 =>
  bO (gfR M21 l0 10 0) fun v25 =>
  bO (rcv M21 v25 0) fun _ =>
  bO (P_X0_put G F v25 (34 : Int32) M21) fun M30 =>
  some M30
def P_X10_putKid (G : mG) (F : Nat) (l0 : Nat) (l1 : Nat) (M : mM) : Option mM :=
  bO (gfI M l1 5 4) fun v1 =>
  if v1 = 0 then (some M)
  else (bO (gfR M l0 10 0) fun v8 =>
  bO (rcv M v8 0) fun _ =>
  bO (P_X0_putText G F v8 (G.1 53) M) fun M13 =>
  bO (gfR M13 l1 5 9) fun v17 =>
  bO (gfR M13 l1 5 9) fun v22 =>
  bO (gfI M13 v22 0 1) fun v25 =>
  bO (gfR M13 l0 10 0) fun v29 =>
  bO (P_X9_putString G F v17 (0 : Int32) v25 v29 M13) fun M32 =>
  some M32)
def P_X10_makeSignedHead (G : mG) (F : Nat) (l0 : Nat) (l1 : Int32) (l2 : Nat) (M : mM) : Option mM :=
  bO (pfZ M l0 10 3 (0 : Int32)) fun M2 =>
  bP (P_X11_algName G F l1 M2) fun v7 M7 =>
  bO (rcv M7 l0 10) fun _ =>
  bO (P_X10_startHead G F l0 v7 M7) fun M10 =>
  bO (rcv M10 l0 10) fun _ =>
  bO (P_X10_putKid G F l0 l2 M10) fun M15 =>
  bO (gfR M15 l0 10 0) fun v19 =>
  bO (rcv M15 v19 0) fun _ =>
  bO (P_X0_put G F v19 (125 : Int32) M15) fun M24 =>
  some M24
def P_X10_putParty (G : mG) (F : Nat) (l0 : Nat) (l1 : Nat) (l2 : Nat) (M : mM) : Option mM :=
  bO (gfR M l0 10 0) fun v5 =>
  bO (rcv M v5 0) fun _ =>
  bO (P_X0_putText G F v5 l1 M) fun M9 =>
  bO (gfR M9 l0 10 0) fun v13 =>
  bO (gfI M9 l2 0 1) fun v19 =>
  bO (rcv M9 v13 0) fun _ =>
  bO (P_X0_putLetters G F v13 l2 (0 : Int32) v19 M9) fun M22 =>
  bO (gfR M22 l0 10 0) fun v26 =>
  bO (rcv M22 v26 0) fun _ =>
  bO (P_X0_put G F v26 (34 : Int32) M22) fun M31 =>
  some M31
def P_X10_putParty_n2 (G : mG) (F : Nat) (l0 : Nat) (l1 : Nat) (M : mM) : Option mM :=
  some M
def P_X10_makeSealedHead (G : mG) (F : Nat) (l0 : Nat) (l1 : Nat) (l2 : Nat) (l3 : Nat) (M : mM) : Option mM :=
  bO (gfI M l0 10 1) fun v3 =>
  bP (P_X11_algName G F ((5 : Int32) + v3) M) fun v7 M7 =>
  bO (rcv M7 l0 10) fun _ =>
  bO (P_X10_startHead G F l0 v7 M7) fun M10 =>
  bO (gfR M10 l0 10 0) fun v14 =>
  bO (rcv M10 v14 0) fun _ =>
  bO (P_X0_putText G F v14 (G.1 58) M10) fun M20 =>
  bO (gfR M20 l0 10 0) fun v24 =>
  bO (gfI M20 l0 10 2) fun v28 =>
  bP (P_X11_wayName G F v28 M20) fun v31 M31 =>
  bO (rcv M31 v24 0) fun _ =>
  bO (P_X0_putText G F v24 v31 M31) fun M34 =>
  bO (gfR M34 l0 10 0) fun v38 =>
  bO (rcv M34 v38 0) fun _ =>
  bO (P_X0_put G F v38 (34 : Int32) M34) fun M43 =>
  bO (rcv M43 l0 10) fun _ =>
  bO (P_X10_putKid G F l0 l1 M43) fun M48 =>
  bO (gfI M48 l0 10 1) fun v52 =>
  if v52 < (4 : Int32) then (bO (gfR M48 l0 10 0) fun v106 =>
  bO (rcv M48 v106 0) fun _ =>
  bO (P_X0_put G F v106 (125 : Int32) M48) fun M111 =>
  some M111)
  else (bO (gfR M48 l0 10 0) fun v60 =>
  bO (rcv M48 v60 0) fun _ =>
  bO (P_X0_putText G F v60 (G.1 63) M48) fun M66 =>
  bO (gfR M66 l0 10 6) fun v70 =>
  bO (gfR M66 l0 10 0) fun v74 =>
  bO (P_X5_putPointMembers G F v70 v74 M66) fun M77 =>
  bO (gfR M77 l0 10 0) fun v81 =>
  bO (rcv M77 v81 0) fun _ =>
  bO (P_X0_put G F v81 (125 : Int32) M77) fun M86 =>
  bO (rcv M86 l0 10) fun _ =>
  bO (P_X10_putParty G F l0 (G.1 64) l2 M86) fun M94 =>
  bO (rcv M94 l0 10) fun _ =>
  bO (P_X10_putParty G F l0 (G.1 65) l3 M94) fun M102 =>
  bO (gfR M102 l0 10 0) fun v106 =>
  bO (rcv M102 v106 0) fun _ =>
  bO (P_X0_put G F v106 (125 : Int32) M102) fun M111 =>
  some M111)
def P_X10_makeSealedHead_n2 (G : mG) (F : Nat) (l0 : Nat) (l1 : Nat) (l3 : Nat) (M : mM) : Option mM :=
  bO (gfI M l0 10 1) fun v3 =>
  bP (P_X11_algName G F ((5 : Int32) + v3) M) fun v7 M7 =>
  bO (rcv M7 l0 10) fun _ =>
  bO (P_X10_startHead G F l0 v7 M7) fun M10 =>
  bO (gfR M10 l0 10 0) fun v14 =>
  bO (rcv M10 v14 0) fun _ =>
  bO (P_X0_putText G F v14 (G.1 58) M10) fun M20 =>
  bO (gfR M20 l0 10 0) fun v24 =>
  bO (gfI M20 l0 10 2) fun v28 =>
  bP (P_X11_wayName G F v28 M20) fun v31 M31 =>
  bO (rcv M31 v24 0) fun _ =>
  bO (P_X0_putText G F v24 v31 M31) fun M34 =>
  bO (gfR M34 l0 10 0) fun v38 =>
  bO (rcv M34 v38 0) fun _ =>
  bO (P_X0_put G F v38 (34 : Int32) M34) fun M43 =>
  bO (rcv M43 l0 10) fun _ =>
  bO (P_X10_putKid G F l0 l1 M43) fun M48 =>
  bO (gfI M48 l0 10 1) fun v52 =>
  if v52 < (4 : Int32) then (bO (gfR M48 l0 10 0) fun v106 =>
  bO (rcv M48 v106 0) fun _ =>
  bO (P_X0_put G F v106 (125 : Int32) M48) fun M111 =>
  some M111)
  else (bO (gfR M48 l0 10 0) fun v60 =>
  bO (rcv M48 v60 0) fun _ =>
  bO (P_X0_putText G F v60 (G.1 63) M48) fun M66 =>
  bO (gfR M66 l0 10 6) fun v70 =>
  bO (gfR M66 l0 10 0) fun v74 =>
  bO (P_X5_putPointMembers G F v70 v74 M66) fun M77 =>
  bO (gfR M77 l0 10 0) fun v81 =>
  bO (rcv M77 v81 0) fun _ =>
  bO (P_X0_put G F v81 (125 : Int32) M77) fun M86 =>
  bO (rcv M86 l0 10) fun _ =>
  bO (P_X10_putParty_n2 G F l0 (G.1 64) M86) fun M94 =>
  bO (rcv M94 l0 10) fun _ =>
  bO (P_X10_putParty G F l0 (G.1 65) l3 M94) fun M102 =>
  bO (gfR M102 l0 10 0) fun v106 =>
  bO (rcv M102 v106 0) fun _ =>
  bO (P_X0_put G F v106 (125 : Int32) M102) fun M111 =>
  some M111)
def P_X10_makeSealedHead_n3 (G : mG) (F : Nat) (l0 : Nat) (l1 : Nat) (l2 : Nat) (M : mM) : Option mM :=
  bO (gfI M l0 10 1) fun v3 =>
  bP (P_X11_algName G F ((5 : Int32) + v3) M) fun v7 M7 =>
  bO (rcv M7 l0 10) fun _ =>
  bO (P_X10_startHead G F l0 v7 M7) fun M10 =>
  bO (gfR M10 l0 10 0) fun v14 =>
  bO (rcv M10 v14 0) fun _ =>
  bO (P_X0_putText G F v14 (G.1 58) M10) fun M20 =>
  bO (gfR M20 l0 10 0) fun v24 =>
  bO (gfI M20 l0 10 2) fun v28 =>
  bP (P_X11_wayName G F v28 M20) fun v31 M31 =>
  bO (rcv M31 v24 0) fun _ =>
  bO (P_X0_putText G F v24 v31 M31) fun M34 =>
  bO (gfR M34 l0 10 0) fun v38 =>
  bO (rcv M34 v38 0) fun _ =>
  bO (P_X0_put G F v38 (34 : Int32) M34) fun M43 =>
  bO (rcv M43 l0 10) fun _ =>
  bO (P_X10_putKid G F l0 l1 M43) fun M48 =>
  bO (gfI M48 l0 10 1) fun v52 =>
  if v52 < (4 : Int32) then (bO (gfR M48 l0 10 0) fun v106 =>
  bO (rcv M48 v106 0) fun _ =>
  bO (P_X0_put G F v106 (125 : Int32) M48) fun M111 =>
  some M111)
  else (bO (gfR M48 l0 10 0) fun v60 =>
  bO (rcv M48 v60 0) fun _ =>
  bO (P_X0_putText G F v60 (G.1 63) M48) fun M66 =>
  bO (gfR M66 l0 10 6) fun v70 =>
  bO (gfR M66 l0 10 0) fun v74 =>
  bO (P_X5_putPointMembers G F v70 v74 M66) fun M77 =>
  bO (gfR M77 l0 10 0) fun v81 =>
  bO (rcv M77 v81 0) fun _ =>
  bO (P_X0_put G F v81 (125 : Int32) M77) fun M86 =>
  bO (rcv M86 l0 10) fun _ =>
  bO (P_X10_putParty G F l0 (G.1 64) l2 M86) fun M94 =>
  bO (rcv M94 l0 10) fun _ =>
  bO (P_X10_putParty_n2 G F l0 (G.1 65) M94) fun M102 =>
  bO (gfR M102 l0 10 0) fun v106 =>
  bO (rcv M102 v106 0) fun _ =>
  bO (P_X0_put G F v106 (125 : Int32) M102) fun M111 =>
  some M111)
def P_X10_makeSealedHead_n2_n3 (G : mG) (F : Nat) (l0 : Nat) (l1 : Nat) (M : mM) : Option mM :=
  bO (gfI M l0 10 1) fun v3 =>
  bP (P_X11_algName G F ((5 : Int32) + v3) M) fun v7 M7 =>
  bO (rcv M7 l0 10) fun _ =>
  bO (P_X10_startHead G F l0 v7 M7) fun M10 =>
  bO (gfR M10 l0 10 0) fun v14 =>
  bO (rcv M10 v14 0) fun _ =>
  bO (P_X0_putText G F v14 (G.1 58) M10) fun M20 =>
  bO (gfR M20 l0 10 0) fun v24 =>
  bO (gfI M20 l0 10 2) fun v28 =>
  bP (P_X11_wayName G F v28 M20) fun v31 M31 =>
  bO (rcv M31 v24 0) fun _ =>
  bO (P_X0_putText G F v24 v31 M31) fun M34 =>
  bO (gfR M34 l0 10 0) fun v38 =>
  bO (rcv M34 v38 0) fun _ =>
  bO (P_X0_put G F v38 (34 : Int32) M34) fun M43 =>
  bO (rcv M43 l0 10) fun _ =>
  bO (P_X10_putKid G F l0 l1 M43) fun M48 =>
  bO (gfI M48 l0 10 1) fun v52 =>
  if v52 < (4 : Int32) then (bO (gfR M48 l0 10 0) fun v106 =>
  bO (rcv M48 v106 0) fun _ =>
  bO (P_X0_put G F v106 (125 : Int32) M48) fun M111 =>
  some M111)
  else (bO (gfR M48 l0 10 0) fun v60 =>
  bO (rcv M48 v60 0) fun _ =>
  bO (P_X0_putText G F v60 (G.1 63) M48) fun M66 =>
  bO (gfR M66 l0 10 6) fun v70 =>
  bO (gfR M66 l0 10 0) fun v74 =>
  bO (P_X5_putPointMembers G F v70 v74 M66) fun M77 =>
  bO (gfR M77 l0 10 0) fun v81 =>
  bO (rcv M77 v81 0) fun _ =>
  bO (P_X0_put G F v81 (125 : Int32) M77) fun M86 =>
  bO (rcv M86 l0 10) fun _ =>
  bO (P_X10_putParty_n2 G F l0 (G.1 64) M86) fun M94 =>
  bO (rcv M94 l0 10) fun _ =>
  bO (P_X10_putParty_n2 G F l0 (G.1 65) M94) fun M102 =>
  bO (gfR M102 l0 10 0) fun v106 =>
  bO (rcv M102 v106 0) fun _ =>
  bO (P_X0_put G F v106 (125 : Int32) M102) fun M111 =>
  some M111)
def B_X10_draw_69 (G : mG) (F : Nat) (l0 : Nat) (l3 : Nat) (l4 : Int32) (l5 : Int32) (sk0 : Int32) (M : mM) : Option (Int32 × mM) :=
  bO (gfI M l3 0 1) fun v72 =>
  bO (gfI M l0 10 2) fun v87 =>
  bO (aI G M 0 (G.1 1006) v87) fun v90 =>
  if (((l4 + l5) + sk0) + v90) ≤ v72 then (bO (gfR M l0 10 7) fun v98 =>
  bO (rcv M v98 0) fun _ =>
  bO (P_X0_clear G F v98 M) fun M101 =>
  bO (gfR M101 l0 10 7) fun v105 =>
  bO (rcv M101 v105 0) fun _ =>
  bO (P_X0_putPart G F v105 l3 (0 : Int32) l4 M101) fun M112 =>
  bO (gfR M112 l0 10 9) fun v116 =>
  bO (rcv M112 v116 0) fun _ =>
  bO (P_X0_clear G F v116 M112) fun M119 =>
  bO (gfR M119 l0 10 9) fun v123 =>
  bO (rcv M119 v123 0) fun _ =>
  bO (P_X0_putPart G F v123 l3 l4 l5 M119) fun M131 =>
  bO (gfR M131 l0 10 8) fun v135 =>
  bO (rcv M131 v135 0) fun _ =>
  bO (P_X0_clear G F v135 M131) fun M138 =>
  bO (gfR M138 l0 10 8) fun v142 =>
  bO (rcv M138 v142 0) fun _ =>
  bO (P_X0_putPart G F v142 l3 (l4 + l5) sk0 M138) fun M153 =>
  bO (gfR M153 l0 10 11) fun v157 =>
  bO (rcv M153 v157 0) fun _ =>
  bO (P_X0_clear G F v157 M153) fun M160 =>
  bO (gfR M160 l0 10 11) fun v164 =>
  bO (gfI M160 l0 10 2) fun v180 =>
  bO (aI G M160 0 (G.1 1006) v180) fun v183 =>
  bO (rcv M160 v164 0) fun _ =>
  bO (P_X0_putPart G F v164 l3 ((l4 + l5) + sk0) v183 M160) fun M184 =>
  retZ (1 : Int32) M184)
  else (retZ (0 : Int32) M)
def B_X10_draw_24 (G : mG) (F : Nat) (l0 : Nat) (l3 : Nat) (sk0 : Int32) (M : mM) : Option (Int32 × mM) :=
  bO (gfI M l0 10 1) fun v27 =>
  if v27 = 0 then (bO (gfI M l0 10 1) fun v56 =>
  if v56 = (3 : Int32) then (B_X10_draw_69 G F l0 l3 sk0 (0 : Int32) (32 : Int32) M)
  else (B_X10_draw_69 G F l0 l3 sk0 (0 : Int32) (0 : Int32) M))
  else (bO (gfI M l0 10 1) fun v34 =>
  if v34 = (4 : Int32) then (bO (gfI M l0 10 1) fun v56 =>
  if v56 = (3 : Int32) then (B_X10_draw_69 G F l0 l3 sk0 (0 : Int32) (32 : Int32) M)
  else (B_X10_draw_69 G F l0 l3 sk0 (0 : Int32) (0 : Int32) M))
  else (bO (gfI M l0 10 2) fun v49 =>
  bO (aI G M 0 (G.1 1005) v49) fun v52 =>
  bO (gfI M l0 10 1) fun v56 =>
  if v56 = (3 : Int32) then (B_X10_draw_69 G F l0 l3 sk0 v52 (32 : Int32) M)
  else (B_X10_draw_69 G F l0 l3 sk0 v52 (0 : Int32) M)))
def P_X10_draw (G : mG) (F : Nat) (l0 : Nat) (l1 : Int32) (l2 : Int32) (l3 : Nat) (M : mM) : Option (Int32 × mM) :=
  bO (pfv M l0 10 1 (.int l1)) fun M2 =>
  bO (pfv M2 l0 10 2 (.int l2)) fun M7 =>
  bO (gfI M7 l0 10 1) fun v11 =>
  if v11 < (4 : Int32) then (B_X10_draw_24 G F l0 l3 (0 : Int32) M7)
  else (B_X10_draw_24 G F l0 l3 (32 : Int32) M7)
