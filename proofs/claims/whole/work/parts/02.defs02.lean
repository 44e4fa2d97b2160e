def P_X10_sealedLetters (G : mG) (F : Nat) (l0 : Nat) (l1 : Int32) (M : mM) : Option (Int32 × mM) :=
  bO (gfR M l0 10 0) fun v1 =>
  bO (gfI M v1 0 1) fun v4 =>
  bP (P_X0_lettersFor G F v4 M) fun v7 M7 =>
  bO (gfR M7 l0 10 10) fun v11 =>
  bO (gfI M7 v11 0 1) fun v14 =>
  bP (P_X0_lettersFor G F v14 M7) fun v17 M17 =>
  bO (gfR M17 l0 10 11) fun v22 =>
  bO (gfI M17 v22 0 1) fun v25 =>
  bP (P_X0_lettersFor G F v25 M17) fun v28 M28 =>
  bO (gfI M28 l0 10 2) fun v33 =>
  bP (P_X2_sealedBytes G F v33 l1 M28) fun v37 M37 =>
  bP (P_X0_lettersFor G F v37 M37) fun v40 M40 =>
  bO (gfI M40 l0 10 2) fun v48 =>
  bO (aI G M40 0 (G.1 1007) v48) fun v51 =>
  bP (P_X0_lettersFor G F v51 M40) fun v52 M52 =>
  some ((((((v7 + v17) + v28) + v40) + v52) + (4 : Int32)), M52)
def B_X11_init_269 (G : mG) (F : Nat) (r266 : Nat → Int32 → mM → Nat → Nat → Option (mM × Nat × Nat)) (l0 : Nat) (l1 : Int32) (sk0 : Int32) (sk1 : Int32) (M : mM) (sz : Nat) (sl : Nat) : Option (mM × Nat × Nat) :=
  if sk1 ≤ sk0 then (some (M, sz, sl))
  else (bO (gfR M l0 11 10) fun v273 =>
  bO (some (nwO M sz 5 dfX5)) fun M277 =>
  bA (P_X5_init G F sz M277 (sz + 1) (sl + 10)) fun M281 z281 k281 =>
  bO (sR M281 5 v273 l1 sz 5) fun M284 =>
  r266 l0 (l1 + 1) M284 z281 k281)
def B_X11_init_266 (G : mG) (F : Nat) : Nat → Nat → Int32 → mM → Nat → Nat → Option (mM × Nat × Nat)
  | 0, _, _, _, _, _ => none
  | n + 1, l0, l1, M, sz, sl =>
  B_X11_init_269 G F (B_X11_init_266 G F n) l0 l1 l1 (16 : Int32) M sz sl
def B_X11_init_239 (G : mG) (F : Nat) (r236 : Nat → Int32 → mM → Nat → Nat → Option (mM × Nat × Nat)) (l0 : Nat) (l1 : Int32) (sk0 : Int32) (sk1 : Int32) (M : mM) (sz : Nat) (sl : Nat) : Option (mM × Nat × Nat) :=
  if sk1 ≤ sk0 then (B_X11_init_266 G F F l0 (0 : Int32) M sz sl)
  else (bO (gfR M l0 11 0) fun v243 =>
  bO (some (nwO M sz 0 dfX0)) fun M247 =>
  bA (P_X0_init G F sz (8192 : Int32) M247 (sz + 1) (sl + 3)) fun M254 z254 k254 =>
  bO (sR M254 4 v243 l1 sz 0) fun M257 =>
  r236 l0 (l1 + 1) M257 z254 k254)
def B_X11_init_236 (G : mG) (F : Nat) : Nat → Nat → Int32 → mM → Nat → Nat → Option (mM × Nat × Nat)
  | 0, _, _, _, _, _ => none
  | n + 1, l0, l1, M, sz, sl =>
  B_X11_init_239 G F (B_X11_init_236 G F n) l0 l1 l1 (8 : Int32) M sz sl
def P_X11_init (G : mG) (F : Nat) (l0 : Nat) (M : mM) (sz : Nat) (sl : Nat) : Option (mM × Nat × Nat) :=
  bO (nwA M sz 4 (8 : Int32)) fun M7 =>
  bO (pfv M7 l0 11 0 (.ref sz)) fun M10 =>
  bO (some (nwO M10 (sz + 1) 0 dfX0)) fun M14 =>
  bA (P_X0_init G F (sz + 1) (8192 : Int32) M14 ((sz + 1) + 1) ((sl + ((8 : Int32)).toNatClampNeg) + 3)) fun M21 z21 k21 =>
  bO (pfv M21 l0 11 1 (.ref (sz + 1))) fun M24 =>
  bO (some (nwO M24 z21 0 dfX0)) fun M28 =>
  bA (P_X0_init G F z21 (8192 : Int32) M28 (z21 + 1) (k21 + 3)) fun M35 z35 k35 =>
  bO (pfv M35 l0 11 2 (.ref z21)) fun M38 =>
  bO (some (nwO M38 z35 0 dfX0)) fun M42 =>
  bA (P_X0_init G F z35 (0 : Int32) M42 (z35 + 1) (k35 + 3)) fun M47 z47 k47 =>
  bO (pfv M47 l0 11 3 (.ref z35)) fun M50 =>
  bO (some (nwO M50 z47 0 dfX0)) fun M54 =>
  bA (P_X0_init G F z47 (22528 : Int32) M54 (z47 + 1) (k47 + 3)) fun M61 z61 k61 =>
  bO (pfv M61 l0 11 4 (.ref z47)) fun M64 =>
  bO (some (nwO M64 z61 0 dfX0)) fun M68 =>
  bA (P_X0_init G F z61 (8192 : Int32) M68 (z61 + 1) (k61 + 3)) fun M75 z75 k75 =>
  bO (pfv M75 l0 11 5 (.ref z61)) fun M78 =>
  bO (some (nwO M78 z75 0 dfX0)) fun M82 =>
  bA (P_X0_init G F z75 (8192 : Int32) M82 (z75 + 1) (k75 + 3)) fun M89 z89 k89 =>
  bO (pfv M89 l0 11 6 (.ref z75)) fun M92 =>
  bO (some (nwO M92 z89 9 dfX9)) fun M96 =>
  bA (P_X9_init G F z89 M96 (z89 + 1) (k89 + 11)) fun M100 z100 k100 =>
  bO (pfv M100 l0 11 7 (.ref z89)) fun M103 =>
  bO (some (nwO M103 z100 9 dfX9)) fun M107 =>
  bA (P_X9_init G F z100 M107 (z100 + 1) (k100 + 11)) fun M111 z111 k111 =>
  bO (pfv M111 l0 11 8 (.ref z100)) fun M114 =>
  bO (some (nwO M114 z111 7 dfX7)) fun M118 =>
  bO (gfR M118 l0 11 3) fun v123 =>
  bO (gfR M118 l0 11 8) fun v127 =>
  bA (P_X7_init G F z111 v123 v127 M118 (z111 + 1) (k111 + 9)) fun M130 z130 k130 =>
  bO (pfv M130 l0 11 9 (.ref z111)) fun M133 =>
  bO (nwA M133 z130 5 (16 : Int32)) fun M139 =>
  bO (pfv M139 l0 11 10 (.ref z130)) fun M142 =>
  bO (some (nwO M142 (z130 + 1) 5 dfX5)) fun M146 =>
  bA (P_X5_init G F (z130 + 1) M146 ((z130 + 1) + 1) ((k130 + ((16 : Int32)).toNatClampNeg) + 10)) fun M150 z150 k150 =>
  bO (pfv M150 l0 11 11 (.ref (z130 + 1))) fun M153 =>
  bO (some (nwO M153 z150 4 dfX4)) fun M157 =>
  bA (P_X4_init G F z150 M157 (z150 + 1) (k150 + 11)) fun M161 z161 k161 =>
  bO (pfv M161 l0 11 12 (.ref z150)) fun M164 =>
  bO (some (nwO M164 z161 1 dfX1)) fun M168 =>
  bA (P_X1_init G F z161 M168 (z161 + 1) (k161 + 6)) fun M172 z172 k172 =>
  bO (pfv M172 l0 11 13 (.ref z161)) fun M175 =>
  bO (some (nwO M175 z172 2 dfX2)) fun M179 =>
  bO (gfR M179 l0 11 12) fun v184 =>
  bO (gfR M179 l0 11 13) fun v188 =>
  bA (P_X2_init G F z172 v184 v188 M179 (z172 + 1) (k172 + 9)) fun M191 z191 k191 =>
  bO (pfv M191 l0 11 14 (.ref z172)) fun M194 =>
  bO (some (nwO M194 z191 8 dfX8)) fun M198 =>
  bO (gfR M198 l0 11 12) fun v203 =>
  bA (P_X8_init G F z191 v203 M198 (z191 + 1) (k191 + 6)) fun M206 z206 k206 =>
  bO (pfv M206 l0 11 15 (.ref z191)) fun M209 =>
  bO (some (nwO M209 z206 3 dfX3)) fun M213 =>
  bA (P_X3_init G F z206 M213 (z206 + 1) (k206 + 16)) fun M217 z217 k217 =>
  bO (pfv M217 l0 11 16 (.ref z206)) fun M220 =>
  bO (some (nwO M220 z217 10 dfX10)) fun M224 =>
  bA (P_X10_init G F z217 M224 (z217 + 1) (k217 + 16)) fun M228 z228 k228 =>
  bO (pfv M228 l0 11 17 (.ref z217)) fun M231 =>
  B_X11_init_236 G F F l0 (0 : Int32) M231 z228 k228
def P_X11_feed (G : mG) (F : Nat) (l0 : Nat) (l1 : Int32) (l2 : Int32) (l3 : Int32) (l4 : Int32) (l5 : Int32) (M : mM) : Option (Int32 × mM) :=
  bO (gfR M l0 11 1) fun v1 =>
  bO (gfI M v1 0 1) fun v4 =>
  if (v4 + (20 : Int32)) ≤ (8192 : Int32) then (bO (gfR M l0 11 1) fun v20 =>
  bO (rcv M v20 0) fun _ =>
  bO (P_X0_putWord G F v20 l1 M) fun M24 =>
  bO (gfR M24 l0 11 1) fun v28 =>
  bO (rcv M24 v28 0) fun _ =>
  bO (P_X0_putWord G F v28 l2 M24) fun M32 =>
  bO (gfR M32 l0 11 1) fun v36 =>
  bO (rcv M32 v36 0) fun _ =>
  bO (P_X0_putWord G F v36 l3 M32) fun M40 =>
  bO (gfR M40 l0 11 1) fun v44 =>
  bO (rcv M40 v44 0) fun _ =>
  bO (P_X0_putWord G F v44 l4 M40) fun M49 =>
  bO (gfR M49 l0 11 1) fun v53 =>
  bO (rcv M49 v53 0) fun _ =>
  bO (P_X0_putWord G F v53 l5 M49) fun M58 =>
  bO (gfR M58 l0 11 1) fun v62 =>
  bO (gfI M58 v62 0 1) fun v65 =>
  some (v65, M58))
  else (some ((-2 : Int32), M))
def P_X11_end (G : mG) (F : Nat) (l0 : Nat) (l1 : Int32) (M : mM) : Option (Int32 × mM) :=
  if l1 < 0 then (some ((-2 : Int32), M))
  else (bO (gfR M l0 11 1) fun v6 =>
  bO (gfI M v6 0 1) fun v9 =>
  if l1 ≤ v9 then (bO (gfR M l0 11 1) fun v19 =>
  bO (rcv M v19 0) fun _ =>
  bO (P_X0_cutTo G F v19 l1 M) fun M23 =>
  some (l1, M23))
  else (some ((-2 : Int32), M)))
def P_X11_isRow (G : mG) (F : Nat) (l0 : Nat) (l1 : Int32) (M : mM) : Option (Int32 × mM) :=
  if l1 < 0 then (retZ (0 : Int32) M)
  else (if (8 : Int32) ≤ l1 then (retZ (0 : Int32) M)
  else (retZ (1 : Int32) M))
def P_X11_row (G : mG) (F : Nat) (l0 : Nat) (l1 : Int32) (M : mM) : Option (Int32 × mM) :=
  bO (rcv M l0 11) fun _ =>
  bP (P_X11_isRow G F l0 l1 M) fun v2 M2 =>
  if v2 = 0 then (some ((-2 : Int32), M2))
  else (bO (gfR M2 l0 11 0) fun v12 =>
  bO (aR M2 4 v12 l1) fun v16 =>
  bO (gfR M2 l0 11 1) fun v18 =>
  bO (rcv M2 v16 0) fun _ =>
  bO (P_X0_become G F v16 v18 M2) fun M21 =>
  bO (gfR M21 l0 11 1) fun v25 =>
  bO (rcv M21 v25 0) fun _ =>
  bO (P_X0_clear G F v25 M21) fun M28 =>
  bO (gfR M28 l0 11 0) fun v32 =>
  bO (aR M28 4 v32 l1) fun v36 =>
  bO (gfI M28 v36 0 1) fun v37 =>
  some (v37, M28))
def P_X11_keep (G : mG) (F : Nat) (l0 : Nat) (l1 : Int32) (M : mM) : Option (Int32 × mM) :=
  bO (rcv M l0 11) fun _ =>
  bP (P_X11_isRow G F l0 l1 M) fun v2 M2 =>
  if v2 = 0 then (some ((-2 : Int32), M2))
  else (bO (gfR M2 l0 11 0) fun v12 =>
  bO (aR M2 4 v12 l1) fun v16 =>
  bO (gfR M2 l0 11 2) fun v18 =>
  bO (rcv M2 v16 0) fun _ =>
  bO (P_X0_become G F v16 v18 M2) fun M21 =>
  bO (gfR M21 l0 11 0) fun v25 =>
  bO (aR M21 4 v25 l1) fun v29 =>
  bO (gfI M21 v29 0 1) fun v30 =>
  some (v30, M21))
def P_X11_poke (G : mG) (F : Nat) (l0 : Nat) (l1 : Int32) (l2 : Int32) (l3 : Int32) (M : mM) : Option (Int32 × mM) :=
  bO (rcv M l0 11) fun _ =>
  bP (P_X11_isRow G F l0 l1 M) fun v2 M2 =>
  if v2 = 0 then (some ((-2 : Int32), M2))
  else (if l3 < 0 then (some ((-2 : Int32), M2))
  else (if (255 : Int32) < l3 then (some ((-2 : Int32), M2))
  else (if l2 < 0 then (some ((-2 : Int32), M2))
  else (bO (gfR M2 l0 11 0) fun v25 =>
  bO (aR M2 4 v25 l1) fun v29 =>
  bO (gfI M2 v29 0 1) fun v30 =>
  if l2 < v30 then (bO (gfR M2 l0 11 0) fun v40 =>
  bO (aR M2 4 v40 l1) fun v44 =>
  bO (gfR M2 v44 0 0) fun v45 =>
  bO (aI G M2 0 v45 l2) fun v50 =>
  bO (sI M2 0 v45 l2 (v50 ^^^ l3)) fun M53 =>
  bO (gfR M53 l0 11 0) fun v55 =>
  bO (aR M53 4 v55 l1) fun v59 =>
  bO (gfR M53 v59 0 0) fun v60 =>
  bO (aI G M53 0 v60 l2) fun v64 =>
  some (v64, M53))
  else (some ((-2 : Int32), M2))))))
def P_X11_size (G : mG) (F : Nat) (l0 : Nat) (l1 : Int32) (M : mM) : Option (Int32 × mM) :=
  if l1 = (-1 : Int32) then (bO (gfR M l0 11 2) fun v6 =>
  bO (gfI M v6 0 1) fun v9 =>
  some (v9, M))
  else (bO (rcv M l0 11) fun _ =>
  bP (P_X11_isRow G F l0 l1 M) fun v15 M15 =>
  if v15 = 0 then (some ((-2 : Int32), M15))
  else (bO (gfR M15 l0 11 0) fun v22 =>
  bO (aR M15 4 v22 l1) fun v26 =>
  bO (gfI M15 v26 0 1) fun v27 =>
  some (v27, M15)))
def P_X11_out (G : mG) (F : Nat) (l0 : Nat) (l1 : Int32) (M : mM) : Option (Int32 × mM) :=
  bO (gfR M l0 11 2) fun v1 =>
  bO (rcv M v1 0) fun _ =>
  bP (P_X0_peek G F v1 l1 M) fun v5 M5 =>
  some (v5, M5)
def P_X11_json (G : mG) (F : Nat) (l0 : Nat) (l1 : Int32) (M : mM) : Option (Int32 × mM) :=
  bO (rcv M l0 11) fun _ =>
  bP (P_X11_isRow G F l0 l1 M) fun v2 M2 =>
  if v2 = 0 then (some ((-2 : Int32), M2))
  else (bO (gfR M2 l0 11 9) fun v12 =>
  bO (gfR M2 l0 11 0) fun v16 =>
  bO (aR M2 4 v16 l1) fun v20 =>
  bO (gfR M2 l0 11 8) fun v22 =>
  bO (rcv M2 v12 7) fun _ =>
  bP (P_X7_read G F v12 v20 v22 M2) fun v25 M25 =>
  if v25 = (-1 : Int32) then (bO (gfR M25 l0 11 8) fun v40 =>
  bO (gfR M25 l0 11 7) fun v46 =>
  bO (pfv M25 l0 11 8 (.ref v46)) fun M49 =>
  bO (pfv M49 l0 11 7 (.ref v40)) fun M54 =>
  bO (gfR M54 l0 11 7) fun v58 =>
  bO (gfI M54 v58 9 0) fun v61 =>
  some (v61, M54))
  else (some (((-100 : Int32) - v25), M25)))
def P_X11_value (G : mG) (F : Nat) (l0 : Nat) (l1 : Int32) (l2 : Int32) (M : mM) : Option (Int32 × mM) :=
  bO (gfR M l0 11 7) fun v1 =>
  bO (rcv M v1 9) fun _ =>
  bP (P_X9_has G F v1 l1 M) fun v5 M5 =>
  if v5 = 0 then (some ((-2 : Int32), M5))
  else (if l2 = (0 : Int32) then (bO (gfR M5 l0 11 7) fun v49 =>
  bO (gfR M5 v49 9 1) fun v52 =>
  bO (aI G M5 0 v52 l1) fun v56 =>
  some (v56, M5))
  else (if l2 = (1 : Int32) then (bO (gfR M5 l0 11 7) fun v59 =>
  bO (gfR M5 v59 9 1) fun v62 =>
  bO (aI G M5 0 v62 l1) fun v66 =>
  if v66 < (5 : Int32) then (bO (gfR M5 l0 11 7) fun v84 =>
  bO (gfR M5 v84 9 7) fun v87 =>
  bO (aI G M5 0 v87 l1) fun v91 =>
  some (v91, M5))
  else (bO (gfR M5 l0 11 7) fun v72 =>
  bO (gfR M5 v72 9 5) fun v75 =>
  bO (aI G M5 0 v75 l1) fun v79 =>
  some (v79, M5)))
  else (if l2 = (2 : Int32) then (bO (gfR M5 l0 11 7) fun v94 =>
  bO (gfR M5 v94 9 2) fun v97 =>
  bO (aI G M5 0 v97 l1) fun v101 =>
  some (v101, M5))
  else (if l2 = (3 : Int32) then (bO (gfR M5 l0 11 7) fun v104 =>
  bO (gfR M5 v104 9 3) fun v107 =>
  bO (aI G M5 0 v107 l1) fun v111 =>
  some (v111, M5))
  else (if l2 = (4 : Int32) then (bO (gfR M5 l0 11 7) fun v114 =>
  bO (gfR M5 v114 9 4) fun v117 =>
  bO (aI G M5 0 v117 l1) fun v121 =>
  some (v121, M5))
  else (some ((-2 : Int32), M5)))))))
def P_X11_show (G : mG) (F : Nat) (l0 : Nat) (l1 : Nat) (l2 : Int32) (l3 : Int32) (M : mM) : Option (Int32 × mM) :=
  bO (gfR M l0 11 2) fun v1 =>
  bO (rcv M v1 0) fun _ =>
  bO (P_X0_clear G F v1 M) fun M4 =>
  bO (gfR M4 l0 11 2) fun v8 =>
  bO (rcv M4 v8 0) fun _ =>
  bO (P_X0_putPart G F v8 l1 l2 l3 M4) fun M14 =>
  bO (gfR M14 l0 11 2) fun v18 =>
  bO (gfI M14 v18 0 1) fun v21 =>
  some (v21, M14)
def B_X11_text_40 (G : mG) (F : Nat) (l0 : Nat) (l1 : Int32) (M : mM) : Option (Int32 × mM) :=
  bO (gfR M l0 11 7) fun v42 =>
  bO (gfR M v42 9 10) fun v45 =>
  bO (gfR M l0 11 7) fun v49 =>
  bO (gfR M v49 9 6) fun v52 =>
  bO (aI G M 0 v52 l1) fun v56 =>
  bO (gfR M l0 11 7) fun v58 =>
  bO (gfR M v58 9 7) fun v61 =>
  bO (aI G M 0 v61 l1) fun v65 =>
  bO (rcv M l0 11) fun _ =>
  bP (P_X11_show G F l0 v45 v56 v65 M) fun v66 M66 =>
  some (v66, M66)
def P_X11_text (G : mG) (F : Nat) (l0 : Nat) (l1 : Int32) (M : mM) : Option (Int32 × mM) :=
  bO (gfR M l0 11 7) fun v1 =>
  bO (rcv M v1 9) fun _ =>
  bP (P_X9_has G F v1 l1 M) fun v5 M5 =>
  if v5 = 0 then (some ((-2 : Int32), M5))
  else (bO (gfR M5 l0 11 7) fun v12 =>
  bO (gfR M5 v12 9 1) fun v15 =>
  bO (aI G M5 0 v15 l1) fun v19 =>
  if v19 = (4 : Int32) then (B_X11_text_40 G F l0 l1 M5)
  else (bO (gfR M5 l0 11 7) fun v25 =>
  bO (gfR M5 v25 9 1) fun v28 =>
  bO (aI G M5 0 v28 l1) fun v32 =>
  if v32 = (3 : Int32) then (B_X11_text_40 G F l0 l1 M5)
  else (some ((-2 : Int32), M5))))
def P_X11_name (G : mG) (F : Nat) (l0 : Nat) (l1 : Int32) (M : mM) : Option (Int32 × mM) :=
  bO (gfR M l0 11 7) fun v1 =>
  bO (rcv M v1 9) fun _ =>
  bP (P_X9_has G F v1 l1 M) fun v5 M5 =>
  if v5 = 0 then (some ((-2 : Int32), M5))
  else (bO (gfR M5 l0 11 7) fun v12 =>
  bO (gfR M5 l0 11 7) fun v16 =>
  bO (gfR M5 v16 9 2) fun v19 =>
  bO (aI G M5 0 v19 l1) fun v23 =>
  bO (rcv M5 v12 9) fun _ =>
  bP (P_X9_isKind G F v12 v23 (6 : Int32) M5) fun v26 M26 =>
  if v26 = 0 then (some ((-2 : Int32), M26))
  else (bO (gfR M26 l0 11 7) fun v37 =>
  bO (gfR M26 v37 9 10) fun v40 =>
  bO (gfR M26 l0 11 7) fun v44 =>
  bO (gfR M26 v44 9 8) fun v47 =>
  bO (aI G M26 0 v47 l1) fun v51 =>
  bO (gfR M26 l0 11 7) fun v53 =>
  bO (gfR M26 v53 9 9) fun v56 =>
  bO (aI G M26 0 v56 l1) fun v60 =>
  bO (rcv M26 l0 11) fun _ =>
  bP (P_X11_show G F l0 v40 v51 v60 M26) fun v61 M61 =>
  some (v61, M61)))
def P_X11_member (G : mG) (F : Nat) (l0 : Nat) (l1 : Int32) (l2 : Int32) (M : mM) : Option (Int32 × mM) :=
  bO (gfR M l0 11 7) fun v1 =>
  bO (rcv M v1 9) fun _ =>
  bP (P_X9_isKind G F v1 l1 (6 : Int32) M) fun v7 M7 =>
  if v7 = 0 then (some ((-2 : Int32), M7))
  else (bO (rcv M7 l0 11) fun _ =>
  bP (P_X11_isRow G F l0 l2 M7) fun v15 M15 =>
  if v15 = 0 then (some ((-2 : Int32), M15))
  else (bO (gfR M15 l0 11 7) fun v25 =>
  bO (gfR M15 l0 11 0) fun v30 =>
  bO (aR M15 4 v30 l2) fun v34 =>
  bO (gfR M15 l0 11 0) fun v37 =>
  bO (aR M15 4 v37 l2) fun v41 =>
  bO (gfI M15 v41 0 1) fun v42 =>
  bO (rcv M15 v25 9) fun _ =>
  bP (P_X9_named G F v25 l1 v34 (0 : Int32) v42 M15) fun v45 M45 =>
  some (v45, M45)))
def P_X11_write (G : mG) (F : Nat) (l0 : Nat) (l1 : Int32) (M : mM) : Option (Int32 × mM) :=
  bO (gfR M l0 11 7) fun v1 =>
  bO (rcv M v1 9) fun _ =>
  bP (P_X9_has G F v1 l1 M) fun v5 M5 =>
  if v5 = 0 then (some ((-2 : Int32), M5))
  else (bO (gfR M5 l0 11 6) fun v15 =>
  bO (rcv M5 v15 0) fun _ =>
  bO (P_X0_clear G F v15 M5) fun M18 =>
  bO (gfR M18 l0 11 7) fun v22 =>
  bO (gfR M18 l0 11 6) fun v27 =>
  bO (rcv M18 v22 9) fun _ =>
  bO (P_X9_putValue G F v22 l1 v27 M18) fun M30 =>
  bO (gfR M30 l0 11 6) fun v34 =>
  bO (gfI M30 v34 0 2) fun v37 =>
  if v37 = 0 then (bO (gfR M30 l0 11 6) fun v50 =>
  bO (gfR M30 l0 11 6) fun v55 =>
  bO (gfI M30 v55 0 1) fun v58 =>
  bO (rcv M30 l0 11) fun _ =>
  bP (P_X11_show G F l0 v50 (0 : Int32) v58 M30) fun v61 M61 =>
  some (v61, M61))
  else (some ((-3 : Int32), M30)))
def P_X11_encode (G : mG) (F : Nat) (l0 : Nat) (l1 : Int32) (M : mM) : Option (Int32 × mM) :=
  bO (rcv M l0 11) fun _ =>
  bP (P_X11_isRow G F l0 l1 M) fun v2 M2 =>
  if v2 = 0 then (some ((-2 : Int32), M2))
  else (bO (gfR M2 l0 11 0) fun v12 =>
  bO (aR M2 4 v12 l1) fun v16 =>
  bO (gfI M2 v16 0 1) fun v17 =>
  bP (P_X0_lettersFor G F v17 M2) fun v20 M20 =>
  if v20 ≤ (8192 : Int32) then (bO (gfR M20 l0 11 2) fun v33 =>
  bO (rcv M20 v33 0) fun _ =>
  bO (P_X0_clear G F v33 M20) fun M36 =>
  bO (gfR M36 l0 11 2) fun v40 =>
  bO (gfR M36 l0 11 0) fun v44 =>
  bO (aR M36 4 v44 l1) fun v48 =>
  bO (gfR M36 l0 11 0) fun v51 =>
  bO (aR M36 4 v51 l1) fun v55 =>
  bO (gfI M36 v55 0 1) fun v56 =>
  bO (rcv M36 v40 0) fun _ =>
  bO (P_X0_putLetters G F v40 v48 (0 : Int32) v56 M36) fun M59 =>
  bO (gfR M59 l0 11 2) fun v63 =>
  bO (gfI M59 v63 0 1) fun v66 =>
  some (v66, M59))
  else (some ((-3 : Int32), M20)))
def P_X11_decode (G : mG) (F : Nat) (l0 : Nat) (l1 : Int32) (M : mM) : Option (Int32 × mM) :=
  bO (rcv M l0 11) fun _ =>
  bP (P_X11_isRow G F l0 l1 M) fun v2 M2 =>
  if v2 = 0 then (some ((-2 : Int32), M2))
  else (bO (gfR M2 l0 11 0) fun v12 =>
  bO (aR M2 4 v12 l1) fun v16 =>
  bO (gfR M2 l0 11 0) fun v19 =>
  bO (aR M2 4 v19 l1) fun v23 =>
  bO (gfI M2 v23 0 1) fun v24 =>
  bP (P_X0_letterFault G F v16 (0 : Int32) v24 M2) fun v27 M27 =>
  if v27 = (-1 : Int32) then (bO (gfR M27 l0 11 2) fun v42 =>
  bO (rcv M27 v42 0) fun _ =>
  bO (P_X0_clear G F v42 M27) fun M45 =>
  bO (gfR M45 l0 11 2) fun v49 =>
  bO (gfR M45 l0 11 0) fun v53 =>
  bO (aR M45 4 v53 l1) fun v57 =>
  bO (gfR M45 l0 11 0) fun v60 =>
  bO (aR M45 4 v60 l1) fun v64 =>
  bO (gfI M45 v64 0 1) fun v65 =>
  bO (rcv M45 v49 0) fun _ =>
  bO (P_X0_putUnlettered G F v49 v57 (0 : Int32) v65 M45) fun M68 =>
  bO (gfR M68 l0 11 2) fun v72 =>
  bO (gfI M68 v72 0 1) fun v75 =>
  some (v75, M68))
  else (some (((-100 : Int32) - v27), M27)))
def B_X11_hash_14 (G : mG) (F : Nat) (l0 : Nat) (l1 : Int32) (l2 : Int32) (M : mM) : Option (Int32 × mM) :=
  bO (rcv M l0 11) fun _ =>
  bP (P_X11_isRow G F l0 l2 M) fun v16 M16 =>
  if v16 = 0 then (some ((-2 : Int32), M16))
  else (bO (gfR M16 l0 11 12) fun v26 =>
  bO (rcv M16 v26 4) fun _ =>
  bO (P_X4_start G F v26 l1 M16) fun M30 =>
  bO (gfR M30 l0 11 12) fun v34 =>
  bO (gfR M30 l0 11 0) fun v38 =>
  bO (aR M30 4 v38 l2) fun v42 =>
  bO (gfR M30 l0 11 0) fun v45 =>
  bO (aR M30 4 v45 l2) fun v49 =>
  bO (gfI M30 v49 0 1) fun v50 =>
  bO (rcv M30 v34 4) fun _ =>
  bO (P_X4_add G F v34 v42 (0 : Int32) v50 M30) fun M53 =>
  bO (gfR M53 l0 11 2) fun v57 =>
  bO (rcv M53 v57 0) fun _ =>
  bO (P_X0_clear G F v57 M53) fun M60 =>
  bO (gfR M60 l0 11 12) fun v64 =>
  bO (gfR M60 l0 11 2) fun v68 =>
  bO (rcv M60 v64 4) fun _ =>
  bO (P_X4_finish G F v64 v68 M60) fun M71 =>
  bO (gfR M71 l0 11 2) fun v75 =>
  bO (gfI M71 v75 0 1) fun v78 =>
  some (v78, M71))
def P_X11_hash (G : mG) (F : Nat) (l0 : Nat) (l1 : Int32) (l2 : Int32) (M : mM) : Option (Int32 × mM) :=
  if l1 = (256 : Int32) then (B_X11_hash_14 G F l0 l1 l2 M)
  else (if l1 = (512 : Int32) then (B_X11_hash_14 G F l0 l1 l2 M)
  else (some ((-2 : Int32), M)))
def B_X11_code_14 (G : mG) (F : Nat) (l0 : Nat) (l1 : Int32) (l2 : Int32) (l3 : Int32) (M : mM) : Option (Int32 × mM) :=
  bO (rcv M l0 11) fun _ =>
  bP (P_X11_isRow G F l0 l2 M) fun v16 M16 =>
  if v16 = 0 then (some ((-2 : Int32), M16))
  else (bO (rcv M16 l0 11) fun _ =>
  bP (P_X11_isRow G F l0 l3 M16) fun v24 M24 =>
  if v24 = 0 then (some ((-2 : Int32), M24))
  else (bO (gfR M24 l0 11 12) fun v34 =>
  bO (gfR M24 l0 11 0) fun v39 =>
  bO (aR M24 4 v39 l2) fun v43 =>
  bO (gfR M24 l0 11 0) fun v46 =>
  bO (aR M24 4 v46 l2) fun v50 =>
  bO (gfI M24 v50 0 1) fun v51 =>
  bO (rcv M24 v34 4) fun _ =>
  bO (P_X4_startCode G F v34 l1 v43 (0 : Int32) v51 M24) fun M54 =>
  bO (gfR M54 l0 11 12) fun v58 =>
  bO (gfR M54 l0 11 0) fun v62 =>
  bO (aR M54 4 v62 l3) fun v66 =>
  bO (gfR M54 l0 11 0) fun v69 =>
  bO (aR M54 4 v69 l3) fun v73 =>
  bO (gfI M54 v73 0 1) fun v74 =>
  bO (rcv M54 v58 4) fun _ =>
  bO (P_X4_add G F v58 v66 (0 : Int32) v74 M54) fun M77 =>
  bO (gfR M77 l0 11 2) fun v81 =>
  bO (rcv M77 v81 0) fun _ =>
  bO (P_X0_clear G F v81 M77) fun M84 =>
  bO (gfR M84 l0 11 12) fun v88 =>
  bO (gfR M84 l0 11 2) fun v92 =>
  bO (rcv M84 v88 4) fun _ =>
  bO (P_X4_finishCode G F v88 v92 M84) fun M95 =>
  bO (gfR M95 l0 11 2) fun v99 =>
  bO (gfI M95 v99 0 1) fun v102 =>
  some (v102, M95)))
def P_X11_code (G : mG) (F : Nat) (l0 : Nat) (l1 : Int32) (l2 : Int32) (l3 : Int32) (M : mM) : Option (Int32 × mM) :=
  if l1 = (256 : Int32) then (B_X11_code_14 G F l0 l1 l2 l3 M)
  else (if l1 = (512 : Int32) then (B_X11_code_14 G F l0 l1 l2 l3 M)
  else (some ((-2 : Int32), M)))
def P_X11_isCipherKey (G : mG) (F : Nat) (l0 : Nat) (l1 : Int32) (M : mM) : Option (Int32 × mM) :=
  bO (rcv M l0 11) fun _ =>
  bP (P_X11_isRow G F l0 l1 M) fun v2 M2 =>
  if v2 = 0 then (retZ (0 : Int32) M2)
  else (bO (gfR M2 l0 11 0) fun v9 =>
  bO (aR M2 4 v9 l1) fun v13 =>
  bO (gfI M2 v13 0 1) fun v14 =>
  if v14 = (16 : Int32) then (retZ (1 : Int32) M2)
  else (bO (gfR M2 l0 11 0) fun v23 =>
  bO (aR M2 4 v23 l1) fun v27 =>
  bO (gfI M2 v27 0 1) fun v28 =>
  if v28 = (32 : Int32) then (retZ (1 : Int32) M2)
  else (retZ (0 : Int32) M2)))
def P_X11_block (G : mG) (F : Nat) (l0 : Nat) (l1 : Int32) (l2 : Int32) (l3 : Int32) (M : mM) : Option (Int32 × mM) :=
  bO (rcv M l0 11) fun _ =>
  bP (P_X11_isCipherKey G F l0 l1 M) fun v2 M2 =>
  if v2 = 0 then (some ((-2 : Int32), M2))
  else (bO (rcv M2 l0 11) fun _ =>
  bP (P_X11_isRow G F l0 l2 M2) fun v10 M10 =>
  if v10 = 0 then (some ((-2 : Int32), M10))
  else (bO (gfR M10 l0 11 0) fun v17 =>
  bO (aR M10 4 v17 l2) fun v21 =>
  bO (gfI M10 v21 0 1) fun v22 =>
  if v22 = (16 : Int32) then (bO (gfR M10 l0 11 13) fun v34 =>
  bO (gfR M10 l0 11 0) fun v38 =>
  bO (aR M10 4 v38 l1) fun v42 =>
  bO (gfR M10 l0 11 0) fun v45 =>
  bO (aR M10 4 v45 l1) fun v49 =>
  bO (gfI M10 v49 0 1) fun v50 =>
  bO (rcv M10 v34 1) fun _ =>
  bO (P_X1_become G F v34 v42 (0 : Int32) v50 M10) fun M53 =>
  bO (gfR M53 l0 11 2) fun v57 =>
  bO (rcv M53 v57 0) fun _ =>
  bO (P_X0_clear G F v57 M53) fun M60 =>
  bO (gfR M60 l0 11 13) fun v64 =>
  bO (gfR M60 l0 11 0) fun v68 =>
  bO (aR M60 4 v68 l2) fun v72 =>
  bO (gfR M60 l0 11 2) fun v75 =>
  bO (rcv M60 v64 1) fun _ =>
  bO (P_X1_putBlock G F v64 v72 l3 v75 M60) fun M78 =>
  bO (gfR M78 l0 11 2) fun v82 =>
  bO (gfI M78 v82 0 1) fun v85 =>
  some (v85, M78))
  else (some ((-2 : Int32), M10))))
def P_X11_wrap (G : mG) (F : Nat) (l0 : Nat) (l1 : Int32) (l2 : Int32) (M : mM) : Option (Int32 × mM) :=
  bO (rcv M l0 11) fun _ =>
  bP (P_X11_isCipherKey G F l0 l1 M) fun v2 M2 =>
  if v2 = 0 then (some ((-2 : Int32), M2))
  else (bO (rcv M2 l0 11) fun _ =>
  bP (P_X11_isRow G F l0 l2 M2) fun v10 M10 =>
  if v10 = 0 then (some ((-2 : Int32), M10))
  else (bO (gfR M10 l0 11 0) fun v17 =>
  bO (aR M10 4 v17 l2) fun v21 =>
  bO (gfI M10 v21 0 1) fun v22 =>
  bP (P_X1_mayWrap G F v22 M10) fun v25 M25 =>
  if v25 = 0 then (some ((-2 : Int32), M25))
  else (bO (gfR M25 l0 11 13) fun v35 =>
  bO (gfR M25 l0 11 0) fun v39 =>
  bO (aR M25 4 v39 l1) fun v43 =>
  bO (gfR M25 l0 11 0) fun v45 =>
  bO (aR M25 4 v45 l2) fun v49 =>
  bO (gfR M25 l0 11 2) fun v51 =>
  bO (rcv M25 v35 1) fun _ =>
  bO (P_X1_putWrapped G F v35 v43 v49 v51 M25) fun M54 =>
  bO (gfR M54 l0 11 2) fun v58 =>
  bO (gfI M54 v58 0 1) fun v61 =>
  some (v61, M54))))
def P_X11_unwrap (G : mG) (F : Nat) (l0 : Nat) (l1 : Int32) (l2 : Int32) (M : mM) : Option (Int32 × mM) :=
  bO (rcv M l0 11) fun _ =>
  bP (P_X11_isCipherKey G F l0 l1 M) fun v2 M2 =>
  if v2 = 0 then (some ((-2 : Int32), M2))
  else (bO (rcv M2 l0 11) fun _ =>
  bP (P_X11_isRow G F l0 l2 M2) fun v10 M10 =>
  if v10 = 0 then (some ((-2 : Int32), M10))
  else (bO (gfR M10 l0 11 0) fun v17 =>
  bO (aR M10 4 v17 l2) fun v21 =>
  bO (gfI M10 v21 0 1) fun v22 =>
  bP (P_X1_mayWrap G F (v22 - (8 : Int32)) M10) fun v28 M28 =>
  if v28 = 0 then (some ((-2 : Int32), M28))
  else (bO (gfR M28 l0 11 13) fun v38 =>
  bO (gfR M28 l0 11 0) fun v42 =>
  bO (aR M28 4 v42 l1) fun v46 =>
  bO (gfR M28 l0 11 0) fun v48 =>
  bO (aR M28 4 v48 l2) fun v52 =>
  bO (gfR M28 l0 11 2) fun v54 =>
  bO (rcv M28 v38 1) fun _ =>
  bP (P_X1_putUnwrapped G F v38 v46 v52 v54 M28) fun v57 M57 =>
  if v57 = 0 then (some ((-1 : Int32), M57))
  else (bO (gfR M57 l0 11 2) fun v64 =>
  bO (gfI M57 v64 0 1) fun v67 =>
  some (v67, M57)))))
def P_X11_waySuits (G : mG) (F : Nat) (l0 : Nat) (l1 : Int32) (l2 : Int32) (l3 : Int32) (M : mM) : Option (Int32 × mM) :=
  if l1 < 0 then (retZ (0 : Int32) M)
  else (if (4 : Int32) ≤ l1 then (retZ (0 : Int32) M)
  else (bO (rcv M l0 11) fun _ =>
  bP (P_X11_isRow G F l0 l2 M) fun v11 M11 =>
  if v11 = 0 then (retZ (0 : Int32) M11)
  else (bO (rcv M11 l0 11) fun _ =>
  bP (P_X11_isRow G F l0 l3 M11) fun v19 M19 =>
  if v19 = 0 then (retZ (0 : Int32) M19)
  else (bO (gfR M19 l0 11 0) fun v26 =>
  bO (aR M19 4 v26 l2) fun v30 =>
  bO (gfI M19 v30 0 1) fun v31 =>
  bO (aI G M19 0 (G.1 1005) l1) fun v38 =>
  if v31 = v38 then (bO (gfR M19 l0 11 0) fun v43 =>
  bO (aR M19 4 v43 l3) fun v47 =>
  bO (gfI M19 v47 0 1) fun v48 =>
  bO (aI G M19 0 (G.1 1006) l1) fun v55 =>
  if v48 = v55 then (retZ (1 : Int32) M19)
  else (retZ (0 : Int32) M19))
  else (retZ (0 : Int32) M19)))))
def P_X11_seal (G : mG) (F : Nat) (l0 : Nat) (l1 : Int32) (l2 : Int32) (l3 : Int32) (l4 : Int32) (l5 : Int32) (M : mM) : Option (Int32 × mM) :=
  bO (rcv M l0 11) fun _ =>
  bP (P_X11_waySuits G F l0 l1 l2 l3 M) fun v4 M4 =>
  if v4 = 0 then (some ((-2 : Int32), M4))
  else (bO (rcv M4 l0 11) fun _ =>
  bP (P_X11_isRow G F l0 l4 M4) fun v13 M13 =>
  if v13 = 0 then (some ((-2 : Int32), M13))
  else (bO (rcv M13 l0 11) fun _ =>
  bP (P_X11_isRow G F l0 l5 M13) fun v22 M22 =>
  if v22 = 0 then (some ((-2 : Int32), M22))
  else (bO (gfR M22 l0 11 0) fun v33 =>
  bO (aR M22 4 v33 l5) fun v38 =>
  bO (gfI M22 v38 0 1) fun v39 =>
  bP (P_X2_sealedBytes G F l1 v39 M22) fun v42 M42 =>
  bO (aI G M42 0 (G.1 1007) l1) fun v49 =>
  if (v42 + v49) ≤ (8192 : Int32) then (bO (gfR M42 l0 11 14) fun v61 =>
  bO (gfR M42 l0 11 0) fun v66 =>
  bO (aR M42 4 v66 l2) fun v70 =>
  bO (gfR M42 l0 11 0) fun v72 =>
  bO (aR M42 4 v72 l3) fun v76 =>
  bO (gfR M42 l0 11 0) fun v78 =>
  bO (aR M42 4 v78 l4) fun v83 =>
  bO (gfR M42 l0 11 0) fun v85 =>
  bO (aR M42 4 v85 l5) fun v90 =>
  bO (gfR M42 l0 11 2) fun v92 =>
  bO (rcv M42 v61 2) fun _ =>
  bO (P_X2_lock G F v61 l1 v70 v76 v83 v90 v92 M42) fun M95 =>
  bO (gfR M95 l0 11 2) fun v99 =>
  bO (gfI M95 v99 0 1) fun v102 =>
  some (v102, M95))
  else (some ((-3 : Int32), M42)))))
def P_X11_open (G : mG) (F : Nat) (l0 : Nat) (l1 : Int32) (l2 : Int32) (l3 : Int32) (l4 : Int32) (l5 : Int32) (M : mM) : Option (Int32 × mM) :=
  bO (rcv M l0 11) fun _ =>
  bP (P_X11_waySuits G F l0 l1 l2 l3 M) fun v4 M4 =>
  if v4 = 0 then (some ((-2 : Int32), M4))
  else (bO (rcv M4 l0 11) fun _ =>
  bP (P_X11_isRow G F l0 l4 M4) fun v13 M13 =>
  if v13 = 0 then (some ((-2 : Int32), M13))
  else (bO (rcv M13 l0 11) fun _ =>
  bP (P_X11_isRow G F l0 l5 M13) fun v22 M22 =>
  if v22 = 0 then (some ((-2 : Int32), M22))
  else (bO (gfR M22 l0 11 14) fun v32 =>
  bO (gfR M22 l0 11 0) fun v37 =>
  bO (aR M22 4 v37 l2) fun v41 =>
  bO (gfR M22 l0 11 0) fun v43 =>
  bO (aR M22 4 v43 l3) fun v47 =>
  bO (gfR M22 l0 11 0) fun v49 =>
  bO (aR M22 4 v49 l4) fun v54 =>
  bO (gfR M22 l0 11 0) fun v56 =>
  bO (aR M22 4 v56 l5) fun v61 =>
  bO (gfR M22 l0 11 6) fun v63 =>
  bO (rcv M22 v32 2) fun _ =>
  bP (P_X2_unlock G F v32 l1 v41 v47 v54 v61 v63 M22) fun v66 M66 =>
  if v66 = 0 then (some ((-1 : Int32), M66))
  else (bO (gfR M66 l0 11 6) fun v76 =>
  bO (gfR M66 l0 11 6) fun v81 =>
  bO (gfI M66 v81 0 1) fun v84 =>
  bO (rcv M66 l0 11) fun _ =>
  bP (P_X11_show G F l0 v76 (0 : Int32) v84 M66) fun v87 M87 =>
  some (v87, M87)))))
def P_X11_power (G : mG) (F : Nat) (l0 : Nat) (l1 : Int32) (l2 : Int32) (l3 : Int32) (M : mM) : Option (Int32 × mM) :=
  bO (rcv M l0 11) fun _ =>
  bP (P_X11_isRow G F l0 l1 M) fun v2 M2 =>
  if v2 = 0 then (some ((-2 : Int32), M2))
  else (bO (rcv M2 l0 11) fun _ =>
  bP (P_X11_isRow G F l0 l2 M2) fun v10 M10 =>
  if v10 = 0 then (some ((-2 : Int32), M10))
  else (bO (rcv M10 l0 11) fun _ =>
  bP (P_X11_isRow G F l0 l3 M10) fun v18 M18 =>
  if v18 = 0 then (some ((-2 : Int32), M18))
  else (bO (gfR M18 l0 11 0) fun v28 =>
  bO (aR M18 4 v28 l1) fun v32 =>
  bO (gfI M18 v32 0 1) fun v33 =>
  if (128 : Int32) < v33 then (some ((-2 : Int32), M18))
  else (bO (gfR M18 l0 11 0) fun v43 =>
  bO (aR M18 4 v43 l2) fun v47 =>
  bO (gfI M18 v47 0 1) fun v48 =>
  if (128 : Int32) < v48 then (some ((-2 : Int32), M18))
  else (bO (gfR M18 l0 11 0) fun v58 =>
  bO (aR M18 4 v58 l3) fun v62 =>
  bP (P_X6_suits G F v62 M18) fun v63 M63 =>
  if v63 = 0 then (some ((-2 : Int32), M63))
  else (bO (gfR M63 l0 11 15) fun v73 =>
  bO (gfR M63 l0 11 0) fun v77 =>
  bO (aR M63 4 v77 l1) fun v81 =>
  bO (gfR M63 l0 11 0) fun v83 =>
  bO (aR M63 4 v83 l2) fun v87 =>
  bO (gfR M63 l0 11 0) fun v89 =>
  bO (aR M63 4 v89 l3) fun v93 =>
  bO (gfR M63 l0 11 2) fun v95 =>
  bO (rcv M63 v73 8) fun _ =>
  bO (P_X8_raise G F v73 v81 v87 v93 v95 M63) fun M98 =>
  bO (gfR M98 l0 11 2) fun v102 =>
  bO (gfI M98 v102 0 1) fun v105 =>
  some (v105, M98)))))))
def B_X11_multiply_108 (G : mG) (F : Nat) (l0 : Nat) (sk0 : Nat) (sk1 : Nat) (sk2 : Nat) (M : mM) : Option (Int32 × mM) :=
  bO (gfR M l0 11 3) fun v109 =>
  bO (gfR M l0 11 16) fun v113 =>
  bO (gfR M v113 3 0) fun v116 =>
  bO (rcv M sk0 3) fun _ =>
  bO (P_X3_sumUp G F sk0 sk1 sk2 v109 v116 M) fun M119 =>
  bO (gfR M119 l0 11 16) fun v123 =>
  bO (gfR M119 l0 11 2) fun v127 =>
  bO (rcv M119 v123 3) fun _ =>
  bP (P_X3_putSum G F v123 v127 M119) fun v130 M130 =>
  if v130 = 0 then (some ((-1 : Int32), M130))
  else (bO (gfR M130 l0 11 2) fun v137 =>
  bO (gfI M130 v137 0 1) fun v140 =>
  some (v140, M130))
def B_X11_multiply_76 (G : mG) (F : Nat) (l0 : Nat) (l1 : Int32) (l2 : Int32) (M : mM) : Option (Int32 × mM) :=
  bO (gfR M l0 11 16) fun v77 =>
  bO (gfR M l0 11 0) fun v81 =>
  bO (aR M 4 v81 l1) fun v85 =>
  if l2 = (-1 : Int32) then (bO (gfR M l0 11 16) fun v92 =>
  bO (gfR M v92 3 0) fun v95 =>
  B_X11_multiply_108 G F l0 v77 v85 v95 M)
  else (bO (gfR M l0 11 16) fun v102 =>
  bO (gfR M v102 3 1) fun v105 =>
  B_X11_multiply_108 G F l0 v77 v85 v105 M)
def B_X11_multiply_38 (G : mG) (F : Nat) (l0 : Nat) (l1 : Int32) (l2 : Int32) (M : mM) : Option (Int32 × mM) :=
  if l2 = (-1 : Int32) then (B_X11_multiply_76 G F l0 l1 l2 M)
  else (bO (gfR M l0 11 0) fun v44 =>
  bO (aR M 4 v44 l2) fun v48 =>
  bO (gfI M v48 0 1) fun v49 =>
  if v49 = (64 : Int32) then (bO (gfR M l0 11 16) fun v58 =>
  bO (gfR M l0 11 0) fun v62 =>
  bO (aR M 4 v62 l2) fun v66 =>
  bO (rcv M v58 3) fun _ =>
  bP (P_X3_load G F v58 v66 M) fun v67 M67 =>
  if v67 = 0 then (some ((-2 : Int32), M67))
  else (B_X11_multiply_76 G F l0 l1 l2 M67))
  else (some ((-2 : Int32), M)))
def P_X11_multiply (G : mG) (F : Nat) (l0 : Nat) (l1 : Int32) (l2 : Int32) (M : mM) : Option (Int32 × mM) :=
  bO (rcv M l0 11) fun _ =>
  bP (P_X11_isRow G F l0 l1 M) fun v2 M2 =>
  if v2 = 0 then (some ((-2 : Int32), M2))
  else (bO (gfR M2 l0 11 0) fun v9 =>
  bO (aR M2 4 v9 l1) fun v13 =>
  bO (gfI M2 v13 0 1) fun v14 =>
  if v14 = (32 : Int32) then (if l2 = (-1 : Int32) then (B_X11_multiply_38 G F l0 l1 l2 M2)
  else (bO (rcv M2 l0 11) fun _ =>
  bP (P_X11_isRow G F l0 l2 M2) fun v29 M29 =>
  if v29 = 0 then (some ((-2 : Int32), M29))
  else (B_X11_multiply_38 G F l0 l1 l2 M29)))
  else (some ((-2 : Int32), M2)))
def B_X11_derive_57 (G : mG) (F : Nat) (l0 : Nat) (l1 : Int32) (l2 : Int32) (l3 : Int32) (l4 : Int32) (l5 : Int32) (M : mM) : Option (Int32 × mM) :=
  bO (gfR M l0 11 12) fun v58 =>
  bO (gfR M l0 11 0) fun v62 =>
  bO (aR M 4 v62 l1) fun v66 =>
  bO (gfR M l0 11 0) fun v68 =>
  bO (aR M 4 v68 l2) fun v72 =>
  bO (gfR M l0 11 0) fun v74 =>
  bO (aR M 4 v74 l3) fun v78 =>
  bO (gfR M l0 11 0) fun v80 =>
  bO (aR M 4 v80 l4) fun v85 =>
  bO (gfR M l0 11 2) fun v89 =>
  bO (rcv M v58 4) fun _ =>
  bO (P_X4_putDerived G F v58 v66 v72 v78 v85 l5 v89 M) fun M92 =>
  bO (gfR M92 l0 11 2) fun v96 =>
  bO (gfI M92 v96 0 1) fun v99 =>
  some (v99, M92)
def P_X11_derive (G : mG) (F : Nat) (l0 : Nat) (l1 : Int32) (l2 : Int32) (l3 : Int32) (l4 : Int32) (l5 : Int32) (M : mM) : Option (Int32 × mM) :=
  bO (rcv M l0 11) fun _ =>
  bP (P_X11_isRow G F l0 l1 M) fun v2 M2 =>
  if v2 = 0 then (some ((-2 : Int32), M2))
  else (bO (rcv M2 l0 11) fun _ =>
  bP (P_X11_isRow G F l0 l2 M2) fun v10 M10 =>
  if v10 = 0 then (some ((-2 : Int32), M10))
  else (bO (rcv M10 l0 11) fun _ =>
  bP (P_X11_isRow G F l0 l3 M10) fun v18 M18 =>
  if v18 = 0 then (some ((-2 : Int32), M18))
  else (bO (rcv M18 l0 11) fun _ =>
  bP (P_X11_isRow G F l0 l4 M18) fun v27 M27 =>
  if v27 = 0 then (some ((-2 : Int32), M27))
  else (if l5 = (16 : Int32) then (B_X11_derive_57 G F l0 l1 l2 l3 l4 l5 M27)
  else (if l5 = (32 : Int32) then (B_X11_derive_57 G F l0 l1 l2 l3 l4 l5 M27)
  else (if l5 = (64 : Int32) then (B_X11_derive_57 G F l0 l1 l2 l3 l4 l5 M27)
  else (some ((-2 : Int32), M27))))))))
def P_X11_numbersBelong (G : mG) (F : Nat) (l0 : Nat) (l1 : Nat) (M : mM) : Option (Int32 × mM) :=
  bO (gfI M l1 5 1) fun v1 =>
  if v1 = (1 : Int32) then (bO (gfI M l1 5 5) fun v33 =>
  if v33 = 0 then (retZ (1 : Int32) M)
  else (bO (gfR M l0 11 15) fun v40 =>
  bO (gfR M l1 5 6) fun v44 =>
  bO (gfR M l1 5 7) fun v48 =>
  bO (gfR M l1 5 8) fun v52 =>
  bO (rcv M v40 8) fun _ =>
  bP (P_X8_isPair G F v40 v44 v48 v52 M) fun v55 M55 =>
  if v55 = 0 then (retZ (0 : Int32) M55)
  else (retZ (1 : Int32) M55)))
  else (if v1 = (2 : Int32) then (bO (gfR M l0 11 16) fun v68 =>
  bO (gfR M l1 5 6) fun v72 =>
  bO (rcv M v68 3) fun _ =>
  bP (P_X3_load G F v68 v72 M) fun v75 M75 =>
  if v75 = 0 then (retZ (0 : Int32) M75)
  else (bO (gfI M75 l1 5 5) fun v82 =>
  if v82 = 0 then (retZ (1 : Int32) M75)
  else (bO (gfR M75 l0 11 16) fun v89 =>
  bO (gfR M75 l1 5 8) fun v93 =>
  bO (gfR M75 l1 5 6) fun v97 =>
  bO (rcv M75 v89 3) fun _ =>
  bP (P_X3_isPair G F v89 v93 v97 M75) fun v100 M100 =>
  if v100 = 0 then (retZ (0 : Int32) M100)
  else (retZ (1 : Int32) M100))))
  else (retZ (1 : Int32) M))
def B_X11_key_87 (G : mG) (F : Nat) (r72 : Nat → Int32 → mM → Nat → Nat → Option (Int32 × mM × Nat × Nat)) (l0 : Nat) (l3 : Int32) (sk0 : Int32) (M : mM) (sz : Nat) (sl : Nat) : Option (Int32 × mM × Nat × Nat) :=
  if sk0 = 0 then (bO (gfR M l0 11 10) fun v91 =>
  bO (aR M 5 v91 l3) fun v95 =>
  bO (gfR M l0 11 10) fun v99 =>
  bO (gfR M l0 11 11) fun v104 =>
  bO (sR M 5 v99 l3 v104 5) fun M107 =>
  bO (gfR M107 l0 11 10) fun v109 =>
  bO (aR M107 5 v109 l3) fun v113 =>
  bO (pfZ M107 v113 5 0 (1 : Int32)) fun M115 =>
  bO (pfv M115 l0 11 11 (.ref v95)) fun M121 =>
  some (l3, M121, sz, sl))
  else (r72 l0 (l3 + 1) M sz sl)
def B_X11_key_75 (G : mG) (F : Nat) (r72 : Nat → Int32 → mM → Nat → Nat → Option (Int32 × mM × Nat × Nat)) (l0 : Nat) (l3 : Int32) (sk0 : Int32) (sk1 : Int32) (M : mM) (sz : Nat) (sl : Nat) : Option (Int32 × mM × Nat × Nat) :=
  if sk1 ≤ sk0 then (some ((-17 : Int32), M, sz, sl))
  else (bO (gfR M l0 11 10) fun v79 =>
  bO (aR M 5 v79 l3) fun v83 =>
  bO (gfI M v83 5 0) fun v84 =>
  B_X11_key_87 G F r72 l0 l3 v84 M sz sl)
def B_X11_key_72 (G : mG) (F : Nat) : Nat → Nat → Int32 → mM → Nat → Nat → Option (Int32 × mM × Nat × Nat)
  | 0, _, _, _, _, _ => none
  | n + 1, l0, l3, M, sz, sl =>
  B_X11_key_75 G F (B_X11_key_72 G F n) l0 l3 l3 (16 : Int32) M sz sl
def B_X11_key_64 (G : mG) (F : Nat) (l0 : Nat) (sk0 : Int32) (M : mM) (sz : Nat) (sl : Nat) : Option (Int32 × mM × Nat × Nat) :=
  if sk0 = 0 then (some ((-16 : Int32), M, sz, sl))
  else (B_X11_key_72 G F F l0 (0 : Int32) M sz sl)
def B_X11_key_48 (G : mG) (F : Nat) (l0 : Nat) (l2 : Int32) (sk0 : Int32) (M : mM) (sz : Nat) (sl : Nat) : Option (Int32 × mM × Nat × Nat) :=
  if sk0 = 0 then (bO (gfR M l0 11 11) fun v58 =>
  bO (rcv M l0 11) fun _ =>
  bP (P_X11_numbersBelong G F l0 v58 M) fun v61 M61 =>
  B_X11_key_64 G F l0 v61 M61 sz sl)
  else (some (((-10 : Int32) - l2), M, sz, sl))
def B_X11_key_29 (G : mG) (F : Nat) (l0 : Nat) (sk0 : Int32) (sk1 : Int32) (M : mM) (sz : Nat) (sl : Nat) : Option (Int32 × mM × Nat × Nat) :=
  if sk0 = sk1 then (bO (gfR M l0 11 11) fun v36 =>
  bO (gfR M l0 11 8) fun v40 =>
  bO (rcv M v36 5) fun _ =>
  bAP (P_X5_reasonAgainst G F v36 v40 M sz sl) fun v43 M43 z43 k43 =>
  B_X11_key_48 G F l0 v43 v43 M43 z43 k43)
  else (some ((-11 : Int32), M, sz, sl))
def B_X11_key_5 (G : mG) (F : Nat) (l0 : Nat) (l1 : Int32) (sk0 : Int32) (M : mM) (sz : Nat) (sl : Nat) : Option (Int32 × mM × Nat × Nat) :=
  if sk0 = 0 then (some ((-2 : Int32), M, sz, sl))
  else (bO (gfR M l0 11 9) fun v12 =>
  bO (gfR M l0 11 0) fun v16 =>
  bO (aR M 4 v16 l1) fun v20 =>
  bO (gfR M l0 11 8) fun v22 =>
  bO (rcv M v12 7) fun _ =>
  bP (P_X7_read G F v12 v20 v22 M) fun v25 M25 =>
  B_X11_key_29 G F l0 v25 (-1 : Int32) M25 sz sl)
def P_X11_key (G : mG) (F : Nat) (l0 : Nat) (l1 : Int32) (M : mM) (sz : Nat) (sl : Nat) : Option (Int32 × mM × Nat × Nat) :=
  bO (rcv M l0 11) fun _ =>
  bP (P_X11_isRow G F l0 l1 M) fun v2 M2 =>
  B_X11_key_5 G F l0 l1 v2 M2 sz sl
def P_X11_isKey (G : mG) (F : Nat) (l0 : Nat) (l1 : Int32) (M : mM) : Option (Int32 × mM) :=
  if l1 < 0 then (retZ (0 : Int32) M)
  else (if (16 : Int32) ≤ l1 then (retZ (0 : Int32) M)
  else (bO (gfR M l0 11 10) fun v11 =>
  bO (aR M 5 v11 l1) fun v15 =>
  bO (gfI M v15 5 0) fun v16 =>
  if v16 = 0 then (retZ (0 : Int32) M)
  else (retZ (1 : Int32) M)))
def P_X11_drop (G : mG) (F : Nat) (l0 : Nat) (l1 : Int32) (M : mM) : Option (Int32 × mM) :=
  bO (rcv M l0 11) fun _ =>
  bP (P_X11_isKey G F l0 l1 M) fun v2 M2 =>
  if v2 = 0 then (some ((-2 : Int32), M2))
  else (bO (gfR M2 l0 11 10) fun v12 =>
  bO (aR M2 5 v12 l1) fun v16 =>
  bO (pfZ M2 v16 5 0 (0 : Int32)) fun M18 =>
  some ((1 : Int32), M18))
def P_X11_told (G : mG) (F : Nat) (l0 : Nat) (l1 : Int32) (l2 : Int32) (M : mM) : Option (Int32 × mM) :=
  bO (rcv M l0 11) fun _ =>
  bP (P_X11_isKey G F l0 l1 M) fun v2 M2 =>
  if v2 = 0 then (some ((-2 : Int32), M2))
  else (bO (gfR M2 l0 11 10) fun v12 =>
  bO (aR M2 5 v12 l1) fun v16 =>
  if l2 = (0 : Int32) then (bO (gfI M2 v16 5 1) fun v57 =>
  some (v57, M2))
  else (if l2 = (1 : Int32) then (bO (gfI M2 v16 5 1) fun v62 =>
  if v62 = (2 : Int32) then (some ((32 : Int32), M2))
  else (bO (gfR M2 v16 5 6) fun v75 =>
  bO (gfI M2 v75 0 1) fun v78 =>
  some (v78, M2)))
  else (if l2 = (2 : Int32) then (bO (gfI M2 v16 5 5) fun v83 =>
  if v83 = 0 then (some ((0 : Int32), M2))
  else (some ((1 : Int32), M2)))
  else (if l2 = (3 : Int32) then (bO (gfI M2 v16 5 2) fun v96 =>
  some (v96, M2))
  else (if l2 = (4 : Int32) then (bO (gfI M2 v16 5 4) fun v101 =>
  if v101 = 0 then (some ((-1 : Int32), M2))
  else (bO (gfR M2 v16 5 9) fun v108 =>
  bO (gfI M2 v108 0 1) fun v111 =>
  some (v111, M2)))
  else (if l2 = (5 : Int32) then (bO (gfI M2 v16 5 3) fun v120 =>
  if v120 = (-1 : Int32) then (some ((0 : Int32), M2))
  else (some ((1 : Int32), M2)))
  else (some ((-2 : Int32), M2))))))))
def P_X11_print (G : mG) (F : Nat) (l0 : Nat) (l1 : Int32) (M : mM) : Option (Int32 × mM) :=
  bO (rcv M l0 11) fun _ =>
  bP (P_X11_isKey G F l0 l1 M) fun v2 M2 =>
  if v2 = 0 then (some ((-2 : Int32), M2))
  else (bO (gfR M2 l0 11 4) fun v12 =>
  bO (rcv M2 v12 0) fun _ =>
  bO (P_X0_clear G F v12 M2) fun M15 =>
  bO (gfR M15 l0 11 10) fun v19 =>
  bO (aR M15 5 v19 l1) fun v23 =>
  bO (gfR M15 l0 11 4) fun v25 =>
  bO (rcv M15 v23 5) fun _ =>
  bO (P_X5_putPrinted G F v23 v25 M15) fun M28 =>
  bO (gfR M28 l0 11 12) fun v32 =>
  bO (rcv M28 v32 4) fun _ =>
  bO (P_X4_start G F v32 (256 : Int32) M28) fun M38 =>
  bO (gfR M38 l0 11 12) fun v42 =>
  bO (gfR M38 l0 11 4) fun v46 =>
  bO (gfR M38 l0 11 4) fun v51 =>
  bO (gfI M38 v51 0 1) fun v54 =>
  bO (rcv M38 v42 4) fun _ =>
  bO (P_X4_add G F v42 v46 (0 : Int32) v54 M38) fun M57 =>
  bO (gfR M57 l0 11 2) fun v61 =>
  bO (rcv M57 v61 0) fun _ =>
  bO (P_X0_clear G F v61 M57) fun M64 =>
  bO (gfR M64 l0 11 12) fun v68 =>
  bO (gfR M64 l0 11 2) fun v72 =>
  bO (rcv M64 v68 4) fun _ =>
  bO (P_X4_finish G F v68 v72 M64) fun M75 =>
  bO (gfR M75 l0 11 2) fun v79 =>
  bO (gfI M75 v79 0 1) fun v82 =>
  some (v82, M75))
def P_X11_isRowOrNone (G : mG) (F : Nat) (l0 : Nat) (l1 : Int32) (M : mM) : Option (Int32 × mM) :=
  if l1 = (-1 : Int32) then (retZ (1 : Int32) M)
  else (bO (rcv M l0 11) fun _ =>
  bP (P_X11_isRow G F l0 l1 M) fun v7 M7 =>
  if v7 = 0 then (retZ (0 : Int32) M7)
  else (retZ (1 : Int32) M7))
def B_X11_codeWork_17 (G : mG) (F : Nat) (l0 : Nat) (l1 : Nat) (l3 : Nat) (sk0 : Nat) (sk1 : Int32) (M : mM) : Option mM :=
  bO (gfR M l1 5 6) fun v18 =>
  bO (gfR M l1 5 6) fun v23 =>
  bO (gfI M v23 0 1) fun v26 =>
  bO (rcv M sk0 4) fun _ =>
  bO (P_X4_startCode G F sk0 sk1 v18 (0 : Int32) v26 M) fun M29 =>
  bO (gfR M29 l0 11 12) fun v33 =>
  bO (gfR M29 l0 11 4) fun v37 =>
  bO (gfR M29 l0 11 4) fun v42 =>
  bO (gfI M29 v42 0 1) fun v45 =>
  bO (rcv M29 v33 4) fun _ =>
  bO (P_X4_add G F v33 v37 (0 : Int32) v45 M29) fun M48 =>
  bO (gfR M48 l0 11 12) fun v52 =>
  bO (rcv M48 v52 4) fun _ =>
  bO (P_X4_finishCode G F v52 l3 M48) fun M56 =>
  some M56
def P_X11_codeWork (G : mG) (F : Nat) (l0 : Nat) (l1 : Nat) (l2 : Int32) (l3 : Nat) (M : mM) : Option mM :=
  bO (gfR M l0 11 12) fun v1 =>
  if l2 = 0 then (B_X11_codeWork_17 G F l0 l1 l3 v1 (256 : Int32) M)
  else (B_X11_codeWork_17 G F l0 l1 l3 v1 (512 : Int32) M)
def P_X11_hashWork (G : mG) (F : Nat) (l0 : Nat) (l1 : Nat) (M : mM) : Option mM :=
  bO (rcv M l1 0) fun _ =>
  bO (P_X0_clear G F l1 M) fun M1 =>
  bO (gfR M1 l0 11 12) fun v5 =>
  bO (rcv M1 v5 4) fun _ =>
  bO (P_X4_start G F v5 (256 : Int32) M1) fun M11 =>
  bO (gfR M11 l0 11 12) fun v15 =>
  bO (gfR M11 l0 11 4) fun v19 =>
  bO (gfR M11 l0 11 4) fun v24 =>
  bO (gfI M11 v24 0 1) fun v27 =>
  bO (rcv M11 v15 4) fun _ =>
  bO (P_X4_add G F v15 v19 (0 : Int32) v27 M11) fun M30 =>
  bO (gfR M30 l0 11 12) fun v34 =>
  bO (rcv M30 v34 4) fun _ =>
  bO (P_X4_finish G F v34 l1 M30) fun M38 =>
  some M38
def P_X11_makeSignature (G : mG) (F : Nat) (l0 : Nat) (l1 : Nat) (l2 : Int32) (l3 : Nat) (M : mM) : Option (Int32 × mM) :=
  bO (gfR M l0 11 5) fun v1 =>
  bO (rcv M v1 0) fun _ =>
  bO (P_X0_clear G F v1 M) fun M4 =>
  if l2 = 0 then (bO (gfR M4 l0 11 5) fun v20 =>
  bO (rcv M4 l0 11) fun _ =>
  bO (P_X11_codeWork G F l0 l1 l2 v20 M4) fun M23 =>
  retZ (1 : Int32) M23)
  else (if l2 = (1 : Int32) then (bO (gfR M4 l0 11 5) fun v20 =>
  bO (rcv M4 l0 11) fun _ =>
  bO (P_X11_codeWork G F l0 l1 l2 v20 M4) fun M23 =>
  retZ (1 : Int32) M23)
  else (bO (gfR M4 l0 11 6) fun v30 =>
  bO (rcv M4 l0 11) fun _ =>
  bO (P_X11_hashWork G F l0 v30 M4) fun M33 =>
  if l2 = (2 : Int32) then (bO (gfR M33 l0 11 15) fun v65 =>
  bO (gfR M33 l0 11 6) fun v69 =>
  bO (gfR M33 l1 5 8) fun v73 =>
  bO (gfR M33 l1 5 6) fun v77 =>
  bO (gfR M33 l0 11 5) fun v81 =>
  bO (rcv M33 v65 8) fun _ =>
  bO (P_X8_signPkcs G F v65 v69 v73 v77 v81 M33) fun M84 =>
  retZ (1 : Int32) M84)
  else (if l2 = (3 : Int32) then (bO (gfR M33 l0 11 15) fun v90 =>
  bO (gfR M33 l0 11 6) fun v94 =>
  bO (gfR M33 l1 5 8) fun v99 =>
  bO (gfR M33 l1 5 6) fun v103 =>
  bO (gfR M33 l0 11 5) fun v107 =>
  bO (rcv M33 v90 8) fun _ =>
  bP (P_X8_signPss G F v90 v94 l3 v99 v103 v107 M33) fun v110 M110 =>
  retZ v110 M110)
  else (bO (gfR M33 l0 11 16) fun v115 =>
  bO (gfR M33 l0 11 6) fun v119 =>
  bO (gfR M33 l1 5 8) fun v123 =>
  bO (gfR M33 l0 11 5) fun v128 =>
  bO (rcv M33 v115 3) fun _ =>
  bP (P_X3_putSignature G F v115 v119 v123 l3 v128 M33) fun v131 M131 =>
  retZ v131 M131))))
def B_X11_sign_326 (G : mG) (F : Nat) (l0 : Nat) (sk0 : Nat) (sk1 : Nat) (sk2 : Int32) (sk3 : Nat) (M : mM) : Option (Int32 × mM) :=
  bO (rcv M sk0 11) fun _ =>
  bP (P_X11_makeSignature G F sk0 sk1 sk2 sk3 M) fun v326 M326 =>
  if v326 = 0 then (some ((-4 : Int32), M326))
  else (bO (gfR M326 l0 11 4) fun v336 =>
  bO (gfI M326 v336 0 1) fun v339 =>
  bO (gfR M326 l0 11 5) fun v345 =>
  bO (gfI M326 v345 0 1) fun v348 =>
  bP (P_X0_lettersFor G F v348 M326) fun v351 M351 =>
  if ((v339 + (1 : Int32)) + v351) ≤ (8192 : Int32) then (bO (gfR M351 l0 11 4) fun v365 =>
  bO (rcv M351 v365 0) fun _ =>
  bO (P_X0_put G F v365 (46 : Int32) M351) fun M370 =>
  bO (gfR M370 l0 11 4) fun v374 =>
  bO (gfR M370 l0 11 5) fun v378 =>
  bO (gfR M370 l0 11 5) fun v383 =>
  bO (gfI M370 v383 0 1) fun v386 =>
  bO (rcv M370 v374 0) fun _ =>
  bO (P_X0_putLetters G F v374 v378 (0 : Int32) v386 M370) fun M389 =>
  bO (gfR M389 l0 11 4) fun v394 =>
  bO (gfR M389 l0 11 4) fun v399 =>
  bO (gfI M389 v399 0 1) fun v402 =>
  bO (rcv M389 l0 11) fun _ =>
  bP (P_X11_show G F l0 v394 (0 : Int32) v402 M389) fun v405 M405 =>
  some (v405, M405))
  else (some ((-3 : Int32), M351)))
def B_X11_sign_303 (G : mG) (F : Nat) (l0 : Nat) (l2 : Int32) (l5 : Int32) (l6 : Int32) (l7 : Nat) (M : mM) : Option (Int32 × mM) :=
  if l6 = 0 then (bO (gfR M l0 11 3) fun v323 =>
  B_X11_sign_326 G F l0 l0 l7 l2 v323 M)
  else (bO (gfR M l0 11 0) fun v313 =>
  bO (aR M 4 v313 l5) fun v318 =>
  B_X11_sign_326 G F l0 l0 l7 l2 v318 M)
def B_X11_sign_210 (G : mG) (F : Nat) (l0 : Nat) (l2 : Int32) (l4 : Int32) (l5 : Int32) (l6 : Int32) (l7 : Nat) (M : mM) : Option (Int32 × mM) :=
  bO (gfR M l0 11 4) fun v211 =>
  bO (rcv M v211 0) fun _ =>
  bO (P_X0_clear G F v211 M) fun M214 =>
  bO (gfR M214 l0 11 4) fun v218 =>
  bO (gfR M214 l0 11 17) fun v222 =>
  bO (gfR M214 v222 10 0) fun v225 =>
  bO (gfR M214 l0 11 17) fun v230 =>
  bO (gfR M214 v230 10 0) fun v233 =>
  bO (gfI M214 v233 0 1) fun v236 =>
  bO (rcv M214 v218 0) fun _ =>
  bO (P_X0_putLetters G F v218 v225 (0 : Int32) v236 M214) fun M239 =>
  bO (gfR M239 l0 11 4) fun v243 =>
  bO (rcv M239 v243 0) fun _ =>
  bO (P_X0_put G F v243 (46 : Int32) M239) fun M248 =>
  bO (gfR M248 l0 11 17) fun v252 =>
  bO (gfI M248 v252 10 3) fun v255 =>
  if v255 = 0 then (bO (gfR M248 l0 11 4) fun v279 =>
  bO (gfR M248 l0 11 0) fun v283 =>
  bO (aR M248 4 v283 l4) fun v288 =>
  bO (gfR M248 l0 11 0) fun v291 =>
  bO (aR M248 4 v291 l4) fun v296 =>
  bO (gfI M248 v296 0 1) fun v297 =>
  bO (rcv M248 v279 0) fun _ =>
  bO (P_X0_putLetters G F v279 v288 (0 : Int32) v297 M248) fun M300 =>
  B_X11_sign_303 G F l0 l2 l5 l6 l7 M300)
  else (bO (gfR M248 l0 11 4) fun v262 =>
  bO (gfR M248 l0 11 0) fun v266 =>
  bO (aR M248 4 v266 l4) fun v271 =>
  bO (rcv M248 v262 0) fun _ =>
  bO (P_X0_putAll G F v262 v271 M248) fun M272 =>
  B_X11_sign_303 G F l0 l2 l5 l6 l7 M272)
def B_X11_sign_182 (G : mG) (F : Nat) (l0 : Nat) (l2 : Int32) (l4 : Int32) (l5 : Int32) (l6 : Int32) (l7 : Nat) (M : mM) : Option (Int32 × mM) :=
  bO (gfR M l0 11 17) fun v183 =>
  bO (gfI M v183 10 3) fun v186 =>
  if v186 = 0 then (B_X11_sign_210 G F l0 l2 l4 l5 l6 l7 M)
  else (bO (gfR M l0 11 0) fun v193 =>
  bO (aR M 4 v193 l4) fun v198 =>
  bO (rcv M v198 0) fun _ =>
  bP (P_X0_holds G F v198 (46 : Int32) M) fun v201 M201 =>
  if v201 = 0 then (B_X11_sign_210 G F l0 l2 l4 l5 l6 l7 M201)
  else (some ((-5 : Int32), M201)))
def B_X11_sign_68 (G : mG) (F : Nat) (l0 : Nat) (l1 : Int32) (l2 : Int32) (l3 : Int32) (l4 : Int32) (l5 : Int32) (l6 : Int32) (M : mM) : Option (Int32 × mM) :=
  bO (gfR M l0 11 10) fun v69 =>
  bO (aR M 5 v69 l1) fun v73 =>
  bO (rcv M v73 5) fun _ =>
  bP (P_X5_maySign G F v73 l2 (1 : Int32) M) fun v80 M80 =>
  if v80 = 0 then (some ((-26 : Int32), M80))
  else (if l3 = (-1 : Int32) then (bO (gfR M80 l0 11 17) fun v95 =>
  bO (rcv M80 v95 10) fun _ =>
  bO (P_X10_makeSignedHead G F v95 l2 v73 M80) fun M101 =>
  B_X11_sign_182 G F l0 l2 l4 l5 l6 v73 M101)
  else (bO (gfR M80 l0 11 9) fun v108 =>
  bO (gfR M80 l0 11 0) fun v112 =>
  bO (aR M80 4 v112 l3) fun v116 =>
  bO (gfR M80 l0 11 8) fun v118 =>
  bO (rcv M80 v108 7) fun _ =>
  bP (P_X7_read G F v108 v116 v118 M80) fun v121 M121 =>
  if v121 = (-1 : Int32) then (bO (gfR M121 l0 11 17) fun v132 =>
  bO (gfR M121 l0 11 8) fun v136 =>
  bO (rcv M121 v132 10) fun _ =>
  bP (P_X10_signedHeadReason G F v132 v136 M121) fun v139 M139 =>
  if v139 = 0 then (bO (gfR M139 l0 11 17) fun v153 =>
  bO (gfI M139 v153 10 1) fun v156 =>
  if v156 = l2 then (bO (gfR M139 l0 11 17) fun v167 =>
  bO (gfR M139 v167 10 0) fun v170 =>
  bO (gfR M139 l0 11 0) fun v174 =>
  bO (aR M139 4 v174 l3) fun v178 =>
  bO (rcv M139 v170 0) fun _ =>
  bO (P_X0_become G F v170 v178 M139) fun M179 =>
  B_X11_sign_182 G F l0 l2 l4 l5 l6 v73 M179)
  else (some ((-27 : Int32), M139)))
  else (some (v139, M139)))
  else (some ((-22 : Int32), M121))))
def B_X11_sign_15 (G : mG) (F : Nat) (l0 : Nat) (l1 : Int32) (l2 : Int32) (l3 : Int32) (l4 : Int32) (l5 : Int32) (sk0 : Int32) (M : mM) : Option (Int32 × mM) :=
  bO (rcv M l0 11) fun _ =>
  bP (P_X11_isKey G F l0 l1 M) fun v19 M19 =>
  if v19 = 0 then (some ((-2 : Int32), M19))
  else (if l2 < 0 then (some ((-2 : Int32), M19))
  else (if (5 : Int32) ≤ l2 then (some ((-2 : Int32), M19))
  else (bO (rcv M19 l0 11) fun _ =>
  bP (P_X11_isRowOrNone G F l0 l3 M19) fun v36 M36 =>
  if v36 = 0 then (some ((-2 : Int32), M36))
  else (bO (rcv M36 l0 11) fun _ =>
  bP (P_X11_isRow G F l0 l4 M36) fun v45 M45 =>
  if v45 = 0 then (some ((-2 : Int32), M45))
  else (if sk0 = 0 then (B_X11_sign_68 G F l0 l1 l2 l3 l4 l5 sk0 M45)
  else (bO (rcv M45 l0 11) fun _ =>
  bP (P_X11_isRow G F l0 l5 M45) fun v59 M59 =>
  if v59 = 0 then (some ((-2 : Int32), M59))
  else (B_X11_sign_68 G F l0 l1 l2 l3 l4 l5 sk0 M59)))))))
def P_X11_sign (G : mG) (F : Nat) (l0 : Nat) (l1 : Int32) (l2 : Int32) (l3 : Int32) (l4 : Int32) (l5 : Int32) (M : mM) : Option (Int32 × mM) :=
  if l2 = (3 : Int32) then (B_X11_sign_15 G F l0 l1 l2 l3 l4 l5 (1 : Int32) M)
  else (if l2 = (4 : Int32) then (B_X11_sign_15 G F l0 l1 l2 l3 l4 l5 (1 : Int32) M)
  else (B_X11_sign_15 G F l0 l1 l2 l3 l4 l5 (0 : Int32) M))
def B_X11_signatureIsRight_28 (G : mG) (F : Nat) (l0 : Nat) (l1 : Nat) (M : mM) : Option (Int32 × mM) :=
  bO (gfR M l0 11 17) fun v31 =>
  bO (gfI M v31 10 1) fun v34 =>
  bO (gfR M l0 11 6) fun v38 =>
  bO (rcv M l0 11) fun _ =>
  bO (P_X11_codeWork G F l0 l1 v34 v38 M) fun M41 =>
  bO (gfR M41 l0 11 6) fun v45 =>
  bO (gfR M41 l0 11 5) fun v49 =>
  bO (rcv M41 v45 0) fun _ =>
  bP (P_X0_same G F v45 v49 M41) fun v52 M52 =>
  retZ v52 M52
def P_X11_signatureIsRight (G : mG) (F : Nat) (l0 : Nat) (l1 : Nat) (M : mM) : Option (Int32 × mM) :=
  bO (gfR M l0 11 6) fun v1 =>
  bO (rcv M v1 0) fun _ =>
  bO (P_X0_clear G F v1 M) fun M4 =>
  bO (gfR M4 l0 11 17) fun v8 =>
  bO (gfI M4 v8 10 1) fun v11 =>
  if v11 = 0 then (B_X11_signatureIsRight_28 G F l0 l1 M4)
  else (bO (gfR M4 l0 11 17) fun v18 =>
  bO (gfI M4 v18 10 1) fun v21 =>
  if v21 = (1 : Int32) then (B_X11_signatureIsRight_28 G F l0 l1 M4)
  else (bO (gfR M4 l0 11 6) fun v58 =>
  bO (rcv M4 l0 11) fun _ =>
  bO (P_X11_hashWork G F l0 v58 M4) fun M61 =>
  bO (gfR M61 l0 11 17) fun v65 =>
  bO (gfI M61 v65 10 1) fun v68 =>
  if v68 = (2 : Int32) then (bO (gfR M61 l0 11 15) fun v97 =>
  bO (gfR M61 l0 11 6) fun v101 =>
  bO (gfR M61 l0 11 5) fun v105 =>
  bO (gfR M61 l1 5 7) fun v109 =>
  bO (gfR M61 l1 5 6) fun v113 =>
  bO (rcv M61 v97 8) fun _ =>
  bP (P_X8_isPkcsRight G F v97 v101 v105 v109 v113 M61) fun v116 M116 =>
  retZ v116 M116)
  else (if v68 = (3 : Int32) then (bO (gfR M61 l0 11 15) fun v121 =>
  bO (gfR M61 l0 11 6) fun v125 =>
  bO (gfR M61 l0 11 5) fun v129 =>
  bO (gfR M61 l1 5 7) fun v133 =>
  bO (gfR M61 l1 5 6) fun v137 =>
  bO (rcv M61 v121 8) fun _ =>
  bP (P_X8_isPssRight G F v121 v125 v129 v133 v137 M61) fun v140 M140 =>
  retZ v140 M140)
  else (bO (gfR M61 l0 11 16) fun v145 =>
  bO (gfR M61 l0 11 6) fun v149 =>
  bO (gfR M61 l0 11 5) fun v153 =>
  bO (gfR M61 l1 5 6) fun v157 =>
  bO (rcv M61 v145 3) fun _ =>
  bP (P_X3_isSignatureRight G F v145 v149 v153 v157 M61) fun v160 M160 =>
  retZ v160 M160))))
def P_X11_showPayload (G : mG) (F : Nat) (l0 : Nat) (l1 : Nat) (M : mM) : Option mM :=
  bO (gfR M l0 11 17) fun v1 =>
  bO (gfI M v1 10 3) fun v4 =>
  if v4 = 0 then (bO (gfR M l0 11 17) fun v45 =>
  bO (gfR M l0 11 2) fun v51 =>
  bO (rcv M v45 10) fun _ =>
  bO (P_X10_readPart G F v45 l1 (1 : Int32) v51 M) fun M54 =>
  some M54)
  else (bO (gfR M l0 11 17) fun v13 =>
  bO (rcv M v13 10) fun _ =>
  bP (P_X10_partStart G F v13 (1 : Int32) M) fun v17 M17 =>
  bO (gfR M17 l0 11 17) fun v21 =>
  bO (rcv M17 v21 10) fun _ =>
  bP (P_X10_partEnd G F v21 (1 : Int32) M17) fun v25 M25 =>
  bO (gfR M25 l0 11 17) fun v29 =>
  bO (rcv M25 v29 10) fun _ =>
  bP (P_X10_partStart G F v29 (1 : Int32) M25) fun v33 M33 =>
  bO (rcv M33 l0 11) fun _ =>
  bP (P_X11_show G F l0 l1 v17 (v25 - v33) M33) fun v37 M37 =>
  some M37)
def B_X11_verify_187 (G : mG) (F : Nat) : Nat → Nat → Nat → Int32 → Int32 → mM → Option (Int32 × mM)
  | 0, _, _, _, _, _ => none
  | n + 1, l0, l2, l4, l5, M =>
  if (16 : Int32) ≤ l5 then (if l4 = 0 then (some ((-26 : Int32), M))
  else (some ((-27 : Int32), M)))
  else (bO (gfR M l0 11 10) fun v195 =>
  bO (aR M 5 v195 l5) fun v200 =>
  bO (gfI M v200 5 0) fun v201 =>
  if v201 = 0 then (B_X11_verify_187 G F n l0 l2 l4 (l5 + 1) M)
  else (bO (gfR M l0 11 17) fun v208 =>
  bO (gfR M l0 11 8) fun v212 =>
  bO (gfR M l0 11 10) fun v216 =>
  bO (aR M 5 v216 l5) fun v221 =>
  bO (rcv M v208 10) fun _ =>
  bP (P_X10_kidSuits G F v208 v212 v221 M) fun v222 M222 =>
  if v222 = 0 then (B_X11_verify_187 G F n l0 l2 l4 (l5 + 1) M222)
  else (bO (gfR M222 l0 11 10) fun v229 =>
  bO (aR M222 5 v229 l5) fun v234 =>
  bO (gfR M222 l0 11 17) fun v236 =>
  bO (gfI M222 v236 10 1) fun v239 =>
  bO (rcv M222 v234 5) fun _ =>
  bP (P_X5_maySign G F v234 v239 (0 : Int32) M222) fun v243 M243 =>
  if v243 = 0 then (B_X11_verify_187 G F n l0 l2 l4 (l5 + 1) M243)
  else (bO (gfR M243 l0 11 10) fun v254 =>
  bO (aR M243 5 v254 l5) fun v259 =>
  bO (rcv M243 l0 11) fun _ =>
  bP (P_X11_signatureIsRight G F l0 v259 M243) fun v260 M260 =>
  if v260 = 0 then (B_X11_verify_187 G F n l0 l2 (1 : Int32) (l5 + 1) M260)
  else (bO (rcv M260 l0 11) fun _ =>
  bO (P_X11_showPayload G F l0 l2 M260) fun M268 =>
  some (l5, M268))))))
def B_X11_verify_129 (G : mG) (F : Nat) (l0 : Nat) (l2 : Nat) (M : mM) : Option (Int32 × mM) :=
  bO (gfR M l0 11 17) fun v130 =>
  bO (rcv M v130 10) fun _ =>
  bP (P_X10_isFaulty G F v130 l2 (2 : Int32) M) fun v135 M135 =>
  if v135 = 0 then (bO (gfR M135 l0 11 4) fun v145 =>
  bO (rcv M135 v145 0) fun _ =>
  bO (P_X0_clear G F v145 M135) fun M148 =>
  bO (gfR M148 l0 11 4) fun v152 =>
  bO (gfR M148 l0 11 17) fun v158 =>
  bO (rcv M148 v158 10) fun _ =>
  bP (P_X10_partEnd G F v158 (1 : Int32) M148) fun v162 M162 =>
  bO (rcv M162 v152 0) fun _ =>
  bO (P_X0_putPart G F v152 l2 (0 : Int32) v162 M162) fun M165 =>
  bO (gfR M165 l0 11 17) fun v169 =>
  bO (gfR M165 l0 11 5) fun v175 =>
  bO (rcv M165 v169 10) fun _ =>
  bO (P_X10_readPart G F v169 l2 (2 : Int32) v175 M165) fun M178 =>
  B_X11_verify_187 G F F l0 l2 (0 : Int32) (0 : Int32) M178)
  else (some ((-21 : Int32), M135))
def P_X11_verify (G : mG) (F : Nat) (l0 : Nat) (l1 : Int32) (M : mM) : Option (Int32 × mM) :=
  bO (rcv M l0 11) fun _ =>
  bP (P_X11_isRow G F l0 l1 M) fun v2 M2 =>
  if v2 = 0 then (some ((-2 : Int32), M2))
  else (bO (gfR M2 l0 11 0) fun v12 =>
  bO (aR M2 4 v12 l1) fun v16 =>
  bO (gfR M2 l0 11 17) fun v19 =>
  bO (rcv M2 v19 10) fun _ =>
  bP (P_X10_split G F v19 v16 (3 : Int32) M2) fun v24 M24 =>
  if v24 = 0 then (some ((-20 : Int32), M24))
  else (bO (gfR M24 l0 11 17) fun v34 =>
  bO (rcv M24 v34 10) fun _ =>
  bP (P_X10_isFaulty G F v34 v16 (0 : Int32) M24) fun v39 M39 =>
  if v39 = 0 then (bO (gfR M39 l0 11 17) fun v49 =>
  bO (gfR M39 l0 11 17) fun v55 =>
  bO (gfR M39 v55 10 0) fun v58 =>
  bO (rcv M39 v49 10) fun _ =>
  bO (P_X10_readPart G F v49 v16 (0 : Int32) v58 M39) fun M61 =>
  bO (gfR M61 l0 11 9) fun v65 =>
  bO (gfR M61 l0 11 17) fun v69 =>
  bO (gfR M61 v69 10 0) fun v72 =>
  bO (gfR M61 l0 11 8) fun v76 =>
  bO (rcv M61 v65 7) fun _ =>
  bP (P_X7_read G F v65 v72 v76 M61) fun v79 M79 =>
  if v79 = (-1 : Int32) then (bO (gfR M79 l0 11 17) fun v90 =>
  bO (gfR M79 l0 11 8) fun v94 =>
  bO (rcv M79 v90 10) fun _ =>
  bP (P_X10_signedHeadReason G F v90 v94 M79) fun v97 M97 =>
  if v97 = 0 then (bO (gfR M97 l0 11 17) fun v108 =>
  bO (gfI M97 v108 10 3) fun v111 =>
  if v111 = 0 then (bO (gfR M97 l0 11 17) fun v118 =>
  bO (rcv M97 v118 10) fun _ =>
  bP (P_X10_isFaulty G F v118 v16 (1 : Int32) M97) fun v123 M123 =>
  if v123 = 0 then (B_X11_verify_129 G F l0 v16 M123)
  else (some ((-21 : Int32), M123)))
  else (B_X11_verify_129 G F l0 v16 M97))
  else (some (v97, M97)))
  else (some ((-22 : Int32), M79)))
  else (some ((-21 : Int32), M39))))
def B_X11_agree_115 (G : mG) (F : Nat) (l0 : Nat) (l3 : Nat) (l4 : Nat) (sk0 : Nat) (sk1 : Nat) (M : mM) : Option mM :=
  bO (rcv M sk0 0) fun _ =>
  bO (P_X0_putText G F sk0 sk1 M) fun M115 =>
  bO (gfR M115 l0 11 12) fun v119 =>
  bO (gfR M115 l0 11 17) fun v123 =>
  bO (gfR M115 v123 10 12) fun v126 =>
  bO (gfR M115 l0 11 17) fun v130 =>
  bO (gfR M115 v130 10 13) fun v133 =>
  bO (gfR M115 l0 11 17) fun v140 =>
  bO (gfI M115 v140 10 1) fun v143 =>
  if v143 = (4 : Int32) then (bO (gfR M115 l0 11 17) fun v154 =>
  bO (gfI M115 v154 10 2) fun v157 =>
  bO (aI G M115 0 (G.1 1005) v157) fun v160 =>
  bO (gfR M115 l0 11 17) fun v167 =>
  bO (gfR M115 v167 10 12) fun v170 =>
  bO (rcv M115 v119 4) fun _ =>
  bO (P_X4_putDerived G F v119 v126 v133 l3 l4 v160 v170 M115) fun M173 =>
  some M173)
  else (bO (gfR M115 l0 11 17) fun v167 =>
  bO (gfR M115 v167 10 12) fun v170 =>
  bO (rcv M115 v119 4) fun _ =>
  bO (P_X4_putDerived G F v119 v126 v133 l3 l4 (16 : Int32) v170 M115) fun M173 =>
  some M173)
def P_X11_agree (G : mG) (F : Nat) (l0 : Nat) (l1 : Nat) (l2 : Nat) (l3 : Nat) (l4 : Nat) (M : mM) : Option mM :=
  bO (gfR M l0 11 16) fun v1 =>
  bO (rcv M v1 3) fun _ =>
  bP (P_X3_load G F v1 l2 M) fun v5 M5 =>
  bO (gfR M5 l0 11 16) fun v10 =>
  bO (gfR M5 l0 11 16) fun v15 =>
  bO (gfR M5 v15 3 1) fun v18 =>
  bO (gfR M5 l0 11 3) fun v22 =>
  bO (gfR M5 l0 11 16) fun v26 =>
  bO (gfR M5 v26 3 0) fun v29 =>
  bO (rcv M5 v10 3) fun _ =>
  bO (P_X3_sumUp G F v10 l1 v18 v22 v29 M5) fun M32 =>
  bO (gfR M32 l0 11 16) fun v36 =>
  bO (gfR M32 l0 11 17) fun v40 =>
  bO (gfR M32 v40 10 12) fun v43 =>
  bO (rcv M32 v36 3) fun _ =>
  bP (P_X3_putSum G F v36 v43 M32) fun v46 M46 =>
  bO (gfR M46 l0 11 17) fun v51 =>
  bO (gfR M46 v51 10 12) fun v54 =>
  bO (rcv M46 v54 0) fun _ =>
  bO (P_X0_cutTo G F v54 (32 : Int32) M46) fun M59 =>
  bO (gfR M59 l0 11 17) fun v63 =>
  bO (gfR M59 v63 10 13) fun v66 =>
  bO (rcv M59 v66 0) fun _ =>
  bO (P_X0_clear G F v66 M59) fun M69 =>
  bO (gfR M69 l0 11 17) fun v73 =>
  bO (gfR M69 v73 10 13) fun v76 =>
  bO (gfR M69 l0 11 17) fun v80 =>
  bO (gfI M69 v80 10 1) fun v83 =>
  if v83 = (4 : Int32) then (bO (gfR M69 l0 11 17) fun v91 =>
  bO (gfI M69 v91 10 2) fun v94 =>
  bP (P_X11_wayName G F v94 M69) fun v97 M97 =>
  B_X11_agree_115 G F l0 l3 l4 v76 v97 M97)
  else (bO (gfR M69 l0 11 17) fun v105 =>
  bO (gfI M69 v105 10 1) fun v108 =>
  bP (P_X11_algName G F ((5 : Int32) + v108) M69) fun v112 M112 =>
  B_X11_agree_115 G F l0 l3 l4 v76 v112 M112)
def B_X11_makeSealedKey_38 (G : mG) (F : Nat) (l0 : Nat) (l1 : Nat) (M : mM) : Option mM :=
  bO (gfR M l0 11 17) fun v39 =>
  bO (gfI M v39 10 1) fun v42 =>
  if v42 = (0 : Int32) then (bO (gfR M l0 11 17) fun v85 =>
  bO (gfR M v85 10 9) fun v88 =>
  bO (gfR M l1 5 6) fun v92 =>
  bO (rcv M v88 0) fun _ =>
  bO (P_X0_become G F v88 v92 M) fun M95 =>
  some M95)
  else (if v42 = (1 : Int32) then (bO (gfR M l0 11 13) fun v192 =>
  bO (gfR M l1 5 6) fun v196 =>
  bO (gfR M l0 11 17) fun v200 =>
  bO (gfR M v200 10 9) fun v203 =>
  bO (gfR M l0 11 17) fun v207 =>
  bO (gfR M v207 10 10) fun v210 =>
  bO (rcv M v192 1) fun _ =>
  bO (P_X1_putWrapped G F v192 v196 v203 v210 M) fun M213 =>
  some M213)
  else (if v42 = (2 : Int32) then (bO (gfR M l0 11 13) fun v192 =>
  bO (gfR M l1 5 6) fun v196 =>
  bO (gfR M l0 11 17) fun v200 =>
  bO (gfR M v200 10 9) fun v203 =>
  bO (gfR M l0 11 17) fun v207 =>
  bO (gfR M v207 10 10) fun v210 =>
  bO (rcv M v192 1) fun _ =>
  bO (P_X1_putWrapped G F v192 v196 v203 v210 M) fun M213 =>
  some M213)
  else (if v42 = (3 : Int32) then (bO (gfR M l0 11 15) fun v102 =>
  bO (gfR M l0 11 17) fun v106 =>
  bO (gfR M v106 10 9) fun v109 =>
  bO (gfR M l0 11 17) fun v113 =>
  bO (gfR M v113 10 8) fun v116 =>
  bO (gfR M l1 5 7) fun v120 =>
  bO (gfR M l1 5 6) fun v124 =>
  bO (gfR M l0 11 17) fun v128 =>
  bO (gfR M v128 10 10) fun v131 =>
  bO (rcv M v102 8) fun _ =>
  bO (P_X8_sealOaep G F v102 v109 v116 v120 v124 v131 M) fun M134 =>
  some M134)
  else (if v42 = (4 : Int32) then (bO (gfR M l0 11 17) fun v141 =>
  bO (gfR M v141 10 9) fun v144 =>
  bO (gfR M l0 11 17) fun v148 =>
  bO (gfR M v148 10 12) fun v151 =>
  bO (rcv M v144 0) fun _ =>
  bO (P_X0_become G F v144 v151 M) fun M154 =>
  some M154)
  else (if v42 = (5 : Int32) then (bO (gfR M l0 11 13) fun v161 =>
  bO (gfR M l0 11 17) fun v165 =>
  bO (gfR M v165 10 12) fun v168 =>
  bO (gfR M l0 11 17) fun v172 =>
  bO (gfR M v172 10 9) fun v175 =>
  bO (gfR M l0 11 17) fun v179 =>
  bO (gfR M v179 10 10) fun v182 =>
  bO (rcv M v161 1) fun _ =>
  bO (P_X1_putWrapped G F v161 v168 v175 v182 M) fun M185 =>
  some M185)
  else (bO (gfR M l0 11 13) fun v192 =>
  bO (gfR M l1 5 6) fun v196 =>
  bO (gfR M l0 11 17) fun v200 =>
  bO (gfR M v200 10 9) fun v203 =>
  bO (gfR M l0 11 17) fun v207 =>
  bO (gfR M v207 10 10) fun v210 =>
  bO (rcv M v192 1) fun _ =>
  bO (P_X1_putWrapped G F v192 v196 v203 v210 M) fun M213 =>
  some M213))))))
def P_X11_makeSealedKey (G : mG) (F : Nat) (l0 : Nat) (l1 : Nat) (l2 : Nat) (l3 : Nat) (M : mM) : Option mM :=
  bO (gfR M l0 11 17) fun v1 =>
  bO (gfR M v1 10 10) fun v4 =>
  bO (rcv M v4 0) fun _ =>
  bO (P_X0_clear G F v4 M) fun M7 =>
  bO (gfR M7 l0 11 17) fun v11 =>
  bO (gfI M7 v11 10 1) fun v14 =>
  if v14 < (4 : Int32) then (B_X11_makeSealedKey_38 G F l0 l1 M7)
  else (bO (gfR M7 l0 11 17) fun v23 =>
  bO (gfR M7 v23 10 7) fun v26 =>
  bO (gfR M7 l1 5 6) fun v30 =>
  bO (rcv M7 l0 11) fun _ =>
  bO (P_X11_agree G F l0 v26 v30 l2 l3 M7) fun M35 =>
  B_X11_makeSealedKey_38 G F l0 l1 M35)
def B_X11_encrypt_291 (G : mG) (F : Nat) (l0 : Nat) (l3 : Int32) (l4 : Int32) (sk0 : Nat) (sk1 : Nat) (sk2 : Nat) (sk3 : Nat) (M : mM) : Option (Int32 × mM) :=
  bO (rcv M sk0 11) fun _ =>
  bO (P_X11_makeSealedKey G F sk0 sk1 sk2 sk3 M) fun M291 =>
  bO (gfR M291 l0 11 17) fun v295 =>
  bO (gfR M291 v295 10 0) fun v298 =>
  bO (gfI M291 v298 0 2) fun v301 =>
  if v301 = 0 then (bO (gfR M291 l0 11 17) fun v308 =>
  bO (gfR M291 l0 11 0) fun v312 =>
  bO (aR M291 4 v312 l4) fun v317 =>
  bO (gfI M291 v317 0 1) fun v318 =>
  bO (rcv M291 v308 10) fun _ =>
  bP (P_X10_sealedLetters G F v308 v318 M291) fun v321 M321 =>
  if v321 ≤ (8192 : Int32) then (bO (gfR M321 l0 11 4) fun v334 =>
  bO (rcv M321 v334 0) fun _ =>
  bO (P_X0_clear G F v334 M321) fun M337 =>
  bO (gfR M337 l0 11 4) fun v341 =>
  bO (gfR M337 l0 11 17) fun v345 =>
  bO (gfR M337 v345 10 0) fun v348 =>
  bO (gfR M337 l0 11 17) fun v353 =>
  bO (gfR M337 v353 10 0) fun v356 =>
  bO (gfI M337 v356 0 1) fun v359 =>
  bO (rcv M337 v341 0) fun _ =>
  bO (P_X0_putLetters G F v341 v348 (0 : Int32) v359 M337) fun M362 =>
  bO (gfR M362 l0 11 14) fun v366 =>
  bO (gfR M362 l0 11 17) fun v371 =>
  bO (gfR M362 v371 10 9) fun v374 =>
  bO (gfR M362 l0 11 17) fun v378 =>
  bO (gfR M362 v378 10 11) fun v381 =>
  bO (gfR M362 l0 11 4) fun v385 =>
  bO (gfR M362 l0 11 0) fun v389 =>
  bO (aR M362 4 v389 l4) fun v394 =>
  bO (gfR M362 l0 11 5) fun v396 =>
  bO (rcv M362 v366 2) fun _ =>
  bO (P_X2_lock G F v366 l3 v374 v381 v385 v394 v396 M362) fun M399 =>
  bO (gfR M399 l0 11 4) fun v403 =>
  bO (gfR M399 l0 11 17) fun v407 =>
  bO (gfR M399 v407 10 10) fun v410 =>
  bO (gfR M399 l0 11 17) fun v415 =>
  bO (gfR M399 v415 10 10) fun v418 =>
  bO (gfI M399 v418 0 1) fun v421 =>
  bO (rcv M399 v403 0) fun _ =>
  bO (P_X0_putLetterPart G F v403 v410 (0 : Int32) v421 M399) fun M424 =>
  bO (gfR M424 l0 11 4) fun v428 =>
  bO (gfR M424 l0 11 17) fun v432 =>
  bO (gfR M424 v432 10 11) fun v435 =>
  bO (gfR M424 l0 11 17) fun v440 =>
  bO (gfR M424 v440 10 11) fun v443 =>
  bO (gfI M424 v443 0 1) fun v446 =>
  bO (rcv M424 v428 0) fun _ =>
  bO (P_X0_putLetterPart G F v428 v435 (0 : Int32) v446 M424) fun M449 =>
  bO (gfR M449 l0 11 4) fun v453 =>
  bO (gfR M449 l0 11 5) fun v457 =>
  bO (gfR M449 l0 11 5) fun v462 =>
  bO (gfI M449 v462 0 1) fun v465 =>
  bO (aI G M449 0 (G.1 1007) l3) fun v472 =>
  bO (rcv M449 v453 0) fun _ =>
  bO (P_X0_putLetterPart G F v453 v457 (0 : Int32) (v465 - v472) M449) fun M474 =>
  bO (gfR M474 l0 11 4) fun v478 =>
  bO (gfR M474 l0 11 5) fun v482 =>
  bO (gfR M474 l0 11 5) fun v486 =>
  bO (gfI M474 v486 0 1) fun v489 =>
  bO (aI G M474 0 (G.1 1007) l3) fun v496 =>
  bO (gfR M474 l0 11 5) fun v499 =>
  bO (gfI M474 v499 0 1) fun v502 =>
  bO (rcv M474 v478 0) fun _ =>
  bO (P_X0_putLetterPart G F v478 v482 (v489 - v496) v502 M474) fun M505 =>
  bO (gfR M505 l0 11 4) fun v510 =>
  bO (gfR M505 l0 11 4) fun v515 =>
  bO (gfI M505 v515 0 1) fun v518 =>
  bO (rcv M505 l0 11) fun _ =>
  bP (P_X11_show G F l0 v510 (0 : Int32) v518 M505) fun v521 M521 =>
  some (v521, M521))
  else (some ((-3 : Int32), M321)))
  else (some ((-3 : Int32), M291))
def B_X11_encrypt_268 (G : mG) (F : Nat) (l0 : Nat) (l3 : Int32) (l4 : Int32) (l7 : Int32) (sk0 : Nat) (sk1 : Nat) (sk2 : Nat) (M : mM) : Option (Int32 × mM) :=
  bO (rcv M l0 11) fun _ =>
  bP (P_X11_isRow G F l0 l7 M) fun v271 M271 =>
  if v271 = 0 then (bO (gfR M271 l0 11 3) fun v288 =>
  B_X11_encrypt_291 G F l0 l3 l4 sk0 sk1 sk2 v288 M271)
  else (bO (gfR M271 l0 11 0) fun v278 =>
  bO (aR M271 4 v278 l7) fun v283 =>
  B_X11_encrypt_291 G F l0 l3 l4 sk0 sk1 sk2 v283 M271)
def B_X11_encrypt_239_s3 (G : mG) (F : Nat) (l0 : Nat) (l3 : Int32) (l4 : Int32) (l6 : Int32) (l7 : Int32) (l8 : Nat) (sk0 : Nat) (sk1 : Nat) (sk2 : Nat) (M : mM) : Option (Int32 × mM) :=
  bO (rcv M sk0 10) fun _ =>
  bO (P_X10_makeSealedHead_n3 G F sk0 sk1 sk2 M) fun M239 =>
  bO (rcv M239 l0 11) fun _ =>
  bP (P_X11_isRow G F l0 l6 M239) fun v248 M248 =>
  if v248 = 0 then (bO (gfR M248 l0 11 3) fun v265 =>
  B_X11_encrypt_268 G F l0 l3 l4 l7 l0 l8 v265 M248)
  else (bO (gfR M248 l0 11 0) fun v255 =>
  bO (aR M248 4 v255 l6) fun v260 =>
  B_X11_encrypt_268 G F l0 l3 l4 l7 l0 l8 v260 M248)
def B_X11_encrypt_239_s2_s3 (G : mG) (F : Nat) (l0 : Nat) (l3 : Int32) (l4 : Int32) (l6 : Int32) (l7 : Int32) (l8 : Nat) (sk0 : Nat) (sk1 : Nat) (M : mM) : Option (Int32 × mM) :=
  bO (rcv M sk0 10) fun _ =>
  bO (P_X10_makeSealedHead_n2_n3 G F sk0 sk1 M) fun M239 =>
  bO (rcv M239 l0 11) fun _ =>
  bP (P_X11_isRow G F l0 l6 M239) fun v248 M248 =>
  if v248 = 0 then (bO (gfR M248 l0 11 3) fun v265 =>
  B_X11_encrypt_268 G F l0 l3 l4 l7 l0 l8 v265 M248)
  else (bO (gfR M248 l0 11 0) fun v255 =>
  bO (aR M248 4 v255 l6) fun v260 =>
  B_X11_encrypt_268 G F l0 l3 l4 l7 l0 l8 v260 M248)
def B_X11_encrypt_239_s2 (G : mG) (F : Nat) (l0 : Nat) (l3 : Int32) (l4 : Int32) (l6 : Int32) (l7 : Int32) (l8 : Nat) (sk0 : Nat) (sk1 : Nat) (sk3 : Nat) (M : mM) : Option (Int32 × mM) :=
  bO (rcv M sk0 10) fun _ =>
  bO (P_X10_makeSealedHead_n2 G F sk0 sk1 sk3 M) fun M239 =>
  bO (rcv M239 l0 11) fun _ =>
  bP (P_X11_isRow G F l0 l6 M239) fun v248 M248 =>
  if v248 = 0 then (bO (gfR M248 l0 11 3) fun v265 =>
  B_X11_encrypt_268 G F l0 l3 l4 l7 l0 l8 v265 M248)
  else (bO (gfR M248 l0 11 0) fun v255 =>
  bO (aR M248 4 v255 l6) fun v260 =>
  B_X11_encrypt_268 G F l0 l3 l4 l7 l0 l8 v260 M248)
def B_X11_encrypt_239 (G : mG) (F : Nat) (l0 : Nat) (l3 : Int32) (l4 : Int32) (l6 : Int32) (l7 : Int32) (l8 : Nat) (sk0 : Nat) (sk1 : Nat) (sk2 : Nat) (sk3 : Nat) (M : mM) : Option (Int32 × mM) :=
  bO (rcv M sk0 10) fun _ =>
  bO (P_X10_makeSealedHead G F sk0 sk1 sk2 sk3 M) fun M239 =>
  bO (rcv M239 l0 11) fun _ =>
  bP (P_X11_isRow G F l0 l6 M239) fun v248 M248 =>
  if v248 = 0 then (bO (gfR M248 l0 11 3) fun v265 =>
  B_X11_encrypt_268 G F l0 l3 l4 l7 l0 l8 v265 M248)
  else (bO (gfR M248 l0 11 0) fun v255 =>
  bO (aR M248 4 v255 l6) fun v260 =>
  B_X11_encrypt_268 G F l0 l3 l4 l7 l0 l8 v260 M248)
def B_X11_encrypt_193 (G : mG) (F : Nat) (l0 : Nat) (l3 : Int32) (l4 : Int32) (l6 : Int32) (l7 : Int32) (l8 : Nat) (M : mM) : Option (Int32 × mM) :=
  bO (gfR M l0 11 17) fun v194 =>
  bO (rcv M l0 11) fun _ =>
  bP (P_X11_isRow G F l0 l6 M) fun v202 M202 =>
  if v202 = 0 then (bO (rcv M202 l0 11) fun _ =>
  bP (P_X11_isRow G F l0 l7 M202) fun v222 M222 =>
  if v222 = 0 then (B_X11_encrypt_239_s2_s3 G F l0 l3 l4 l6 l7 l8 v194 l8 M222)
  else (bO (gfR M222 l0 11 0) fun v229 =>
  bO (aR M222 4 v229 l7) fun v234 =>
  B_X11_encrypt_239_s2 G F l0 l3 l4 l6 l7 l8 v194 l8 v234 M222))
  else (bO (gfR M202 l0 11 0) fun v209 =>
  bO (aR M202 4 v209 l6) fun v214 =>
  bO (rcv M202 l0 11) fun _ =>
  bP (P_X11_isRow G F l0 l7 M202) fun v222 M222 =>
  if v222 = 0 then (B_X11_encrypt_239_s3 G F l0 l3 l4 l6 l7 l8 v194 l8 v214 M222)
  else (bO (gfR M222 l0 11 0) fun v229 =>
  bO (aR M222 4 v229 l7) fun v234 =>
  B_X11_encrypt_239 G F l0 l3 l4 l6 l7 l8 v194 l8 v214 v234 M222))
def B_X11_encrypt_141 (G : mG) (F : Nat) (l0 : Nat) (l2 : Int32) (l3 : Int32) (l4 : Int32) (l6 : Int32) (l7 : Int32) (l8 : Nat) (M : mM) : Option (Int32 × mM) :=
  if l2 < (4 : Int32) then (B_X11_encrypt_193 G F l0 l3 l4 l6 l7 l8 M)
  else (bO (gfR M l0 11 16) fun v147 =>
  bO (gfR M l0 11 17) fun v151 =>
  bO (gfR M v151 10 7) fun v154 =>
  bO (gfR M l0 11 16) fun v158 =>
  bO (gfR M v158 3 0) fun v161 =>
  bO (gfR M l0 11 3) fun v165 =>
  bO (gfR M l0 11 16) fun v169 =>
  bO (gfR M v169 3 0) fun v172 =>
  bO (rcv M v147 3) fun _ =>
  bO (P_X3_sumUp G F v147 v154 v161 v165 v172 M) fun M175 =>
  bO (gfR M175 l0 11 16) fun v179 =>
  bO (gfR M175 l0 11 17) fun v183 =>
  bO (gfR M175 v183 10 6) fun v186 =>
  bO (rcv M175 v179 3) fun _ =>
  bP (P_X3_putSum G F v179 v186 M175) fun v189 M189 =>
  B_X11_encrypt_193 G F l0 l3 l4 l6 l7 l8 M189)
def B_X11_encrypt_74 (G : mG) (F : Nat) (l0 : Nat) (l1 : Int32) (l2 : Int32) (l3 : Int32) (l4 : Int32) (l5 : Int32) (l6 : Int32) (l7 : Int32) (M : mM) : Option (Int32 × mM) :=
  bO (gfR M l0 11 10) fun v75 =>
  bO (aR M 5 v75 l1) fun v79 =>
  bO (rcv M v79 5) fun _ =>
  bP (P_X5_maySeal G F v79 l2 l3 (0 : Int32) M) fun v87 M87 =>
  if v87 = 0 then (some ((-26 : Int32), M87))
  else (bO (gfR M87 l0 11 17) fun v97 =>
  bO (gfR M87 l0 11 0) fun v103 =>
  bO (aR M87 4 v103 l5) fun v108 =>
  bO (rcv M87 v97 10) fun _ =>
  bP (P_X10_draw G F v97 l2 l3 v108 M87) fun v109 M109 =>
  if v109 = 0 then (some ((-4 : Int32), M109))
  else (if l2 < (4 : Int32) then (B_X11_encrypt_141 G F l0 l2 l3 l4 l6 l7 v79 M109)
  else (bO (gfR M109 l0 11 16) fun v121 =>
  bO (gfR M109 l0 11 17) fun v125 =>
  bO (gfR M109 v125 10 7) fun v128 =>
  bO (rcv M109 v121 3) fun _ =>
  bP (P_X3_isSecret G F v121 v128 (0 : Int32) M109) fun v132 M132 =>
  if v132 = 0 then (some ((-4 : Int32), M132))
  else (B_X11_encrypt_141 G F l0 l2 l3 l4 l6 l7 v79 M132))))
def P_X11_encrypt (G : mG) (F : Nat) (l0 : Nat) (l1 : Int32) (l2 : Int32) (l3 : Int32) (l4 : Int32) (l5 : Int32) (l6 : Int32) (l7 : Int32) (M : mM) : Option (Int32 × mM) :=
  bO (rcv M l0 11) fun _ =>
  bP (P_X11_isKey G F l0 l1 M) fun v2 M2 =>
  if v2 = 0 then (some ((-2 : Int32), M2))
  else (if l2 < 0 then (some ((-2 : Int32), M2))
  else (if (6 : Int32) ≤ l2 then (some ((-2 : Int32), M2))
  else (if l3 < 0 then (some ((-2 : Int32), M2))
  else (if (4 : Int32) ≤ l3 then (some ((-2 : Int32), M2))
  else (bO (rcv M2 l0 11) fun _ =>
  bP (P_X11_isRow G F l0 l4 M2) fun v30 M30 =>
  if v30 = 0 then (some ((-2 : Int32), M30))
  else (bO (rcv M30 l0 11) fun _ =>
  bP (P_X11_isRow G F l0 l5 M30) fun v39 M39 =>
  if v39 = 0 then (some ((-2 : Int32), M39))
  else (if l2 < (4 : Int32) then (B_X11_encrypt_74 G F l0 l1 l2 l3 l4 l5 l6 l7 M39)
  else (bO (rcv M39 l0 11) fun _ =>
  bP (P_X11_isRowOrNone G F l0 l6 M39) fun v56 M56 =>
  if v56 = 0 then (some ((-2 : Int32), M56))
  else (bO (rcv M56 l0 11) fun _ =>
  bP (P_X11_isRowOrNone G F l0 l7 M56) fun v65 M65 =>
  if v65 = 0 then (some ((-2 : Int32), M65))
  else (B_X11_encrypt_74 G F l0 l1 l2 l3 l4 l5 l6 l7 M65))))))))))
def B_X11_contentKeyComes_40 (G : mG) (F : Nat) (l0 : Nat) (l1 : Nat) (M : mM) : Option (Int32 × mM) :=
  bO (gfR M l0 11 17) fun v41 =>
  bO (gfI M v41 10 1) fun v44 =>
  if v44 = (0 : Int32) then (bO (gfR M l0 11 17) fun v85 =>
  bO (gfR M v85 10 9) fun v88 =>
  bO (gfR M l1 5 6) fun v92 =>
  bO (rcv M v88 0) fun _ =>
  bO (P_X0_become G F v88 v92 M) fun M95 =>
  bO (gfR M95 l0 11 17) fun v99 =>
  bO (gfR M95 v99 10 10) fun v102 =>
  bO (gfI M95 v102 0 1) fun v105 =>
  if v105 = 0 then (retZ (1 : Int32) M95)
  else (retZ (0 : Int32) M95))
  else (if v44 = (1 : Int32) then (bO (gfR M l0 11 13) fun v213 =>
  bO (gfR M l1 5 6) fun v217 =>
  bO (gfR M l0 11 17) fun v221 =>
  bO (gfR M v221 10 10) fun v224 =>
  bO (gfR M l0 11 17) fun v228 =>
  bO (gfR M v228 10 9) fun v231 =>
  bO (rcv M v213 1) fun _ =>
  bP (P_X1_putUnwrapped G F v213 v217 v224 v231 M) fun v234 M234 =>
  retZ v234 M234)
  else (if v44 = (2 : Int32) then (bO (gfR M l0 11 13) fun v213 =>
  bO (gfR M l1 5 6) fun v217 =>
  bO (gfR M l0 11 17) fun v221 =>
  bO (gfR M v221 10 10) fun v224 =>
  bO (gfR M l0 11 17) fun v228 =>
  bO (gfR M v228 10 9) fun v231 =>
  bO (rcv M v213 1) fun _ =>
  bP (P_X1_putUnwrapped G F v213 v217 v224 v231 M) fun v234 M234 =>
  retZ v234 M234)
  else (if v44 = (3 : Int32) then (bO (gfR M l0 11 15) fun v118 =>
  bO (gfR M l0 11 17) fun v122 =>
  bO (gfR M v122 10 10) fun v125 =>
  bO (gfR M l1 5 8) fun v129 =>
  bO (gfR M l1 5 6) fun v133 =>
  bO (gfR M l0 11 17) fun v137 =>
  bO (gfR M v137 10 9) fun v140 =>
  bO (rcv M v118 8) fun _ =>
  bP (P_X8_openOaep G F v118 v125 v129 v133 v140 M) fun v143 M143 =>
  retZ v143 M143)
  else (if v44 = (4 : Int32) then (bO (gfR M l0 11 17) fun v148 =>
  bO (gfR M v148 10 9) fun v151 =>
  bO (gfR M l0 11 17) fun v155 =>
  bO (gfR M v155 10 12) fun v158 =>
  bO (rcv M v151 0) fun _ =>
  bO (P_X0_become G F v151 v158 M) fun M161 =>
  bO (gfR M161 l0 11 17) fun v165 =>
  bO (gfR M161 v165 10 10) fun v168 =>
  bO (gfI M161 v168 0 1) fun v171 =>
  if v171 = 0 then (retZ (1 : Int32) M161)
  else (retZ (0 : Int32) M161))
  else (if v44 = (5 : Int32) then (bO (gfR M l0 11 13) fun v184 =>
  bO (gfR M l0 11 17) fun v188 =>
  bO (gfR M v188 10 12) fun v191 =>
  bO (gfR M l0 11 17) fun v195 =>
  bO (gfR M v195 10 10) fun v198 =>
  bO (gfR M l0 11 17) fun v202 =>
  bO (gfR M v202 10 9) fun v205 =>
  bO (rcv M v184 1) fun _ =>
  bP (P_X1_putUnwrapped G F v184 v191 v198 v205 M) fun v208 M208 =>
  retZ v208 M208)
  else (bO (gfR M l0 11 13) fun v213 =>
  bO (gfR M l1 5 6) fun v217 =>
  bO (gfR M l0 11 17) fun v221 =>
  bO (gfR M v221 10 10) fun v224 =>
  bO (gfR M l0 11 17) fun v228 =>
  bO (gfR M v228 10 9) fun v231 =>
  bO (rcv M v213 1) fun _ =>
  bP (P_X1_putUnwrapped G F v213 v217 v224 v231 M) fun v234 M234 =>
  retZ v234 M234))))))
def P_X11_contentKeyComes (G : mG) (F : Nat) (l0 : Nat) (l1 : Nat) (M : mM) : Option (Int32 × mM) :=
  bO (gfR M l0 11 17) fun v1 =>
  bO (gfI M v1 10 1) fun v4 =>
  if v4 < (4 : Int32) then (B_X11_contentKeyComes_40 G F l0 l1 M)
  else (bO (gfR M l1 5 8) fun v13 =>
  bO (gfR M l0 11 17) fun v17 =>
  bO (gfR M v17 10 6) fun v20 =>
  bO (gfR M l0 11 17) fun v24 =>
  bO (gfR M v24 10 4) fun v27 =>
  bO (gfR M l0 11 17) fun v31 =>
  bO (gfR M v31 10 5) fun v34 =>
  bO (rcv M l0 11) fun _ =>
  bO (P_X11_agree G F l0 v13 v20 v27 v34 M) fun M37 =>
  B_X11_contentKeyComes_40 G F l0 l1 M37)
def B_X11_decrypt_195 (G : mG) (F : Nat) : Nat → Nat → Int32 → Int32 → Int32 → mM → Option (Int32 × mM)
  | 0, _, _, _, _, _ => none
  | n + 1, l0, l4, l5, l6, M =>
  if (16 : Int32) ≤ l6 then (if l5 = 0 then (some ((-26 : Int32), M))
  else (some ((-27 : Int32), M)))
  else (bO (gfR M l0 11 10) fun v203 =>
  bO (aR M 5 v203 l6) fun v208 =>
  bO (gfI M v208 5 0) fun v209 =>
  if v209 = 0 then (B_X11_decrypt_195 G F n l0 l4 l5 (l6 + 1) M)
  else (bO (gfR M l0 11 17) fun v216 =>
  bO (gfR M l0 11 8) fun v220 =>
  bO (gfR M l0 11 10) fun v224 =>
  bO (aR M 5 v224 l6) fun v229 =>
  bO (rcv M v216 10) fun _ =>
  bP (P_X10_kidSuits G F v216 v220 v229 M) fun v230 M230 =>
  if v230 = 0 then (B_X11_decrypt_195 G F n l0 l4 l5 (l6 + 1) M230)
  else (bO (gfR M230 l0 11 10) fun v237 =>
  bO (aR M230 5 v237 l6) fun v242 =>
  bO (gfR M230 l0 11 17) fun v244 =>
  bO (gfI M230 v244 10 1) fun v247 =>
  bO (gfR M230 l0 11 17) fun v251 =>
  bO (gfI M230 v251 10 2) fun v254 =>
  bO (rcv M230 v242 5) fun _ =>
  bP (P_X5_maySeal G F v242 v247 v254 (1 : Int32) M230) fun v258 M258 =>
  if v258 = 0 then (B_X11_decrypt_195 G F n l0 l4 l5 (l6 + 1) M258)
  else (if l4 = 0 then (B_X11_decrypt_195 G F n l0 l4 (1 : Int32) (l6 + 1) M258)
  else (bO (gfR M258 l0 11 10) fun v274 =>
  bO (aR M258 5 v274 l6) fun v279 =>
  bO (rcv M258 l0 11) fun _ =>
  bP (P_X11_contentKeyComes G F l0 v279 M258) fun v280 M280 =>
  if v280 = 0 then (B_X11_decrypt_195 G F n l0 l4 (1 : Int32) (l6 + 1) M280)
  else (bO (gfR M280 l0 11 14) fun v287 =>
  bO (gfR M280 l0 11 17) fun v291 =>
  bO (gfI M280 v291 10 2) fun v294 =>
  bO (gfR M280 l0 11 17) fun v298 =>
  bO (gfR M280 v298 10 9) fun v301 =>
  bO (gfR M280 l0 11 17) fun v305 =>
  bO (gfR M280 v305 10 11) fun v308 =>
  bO (gfR M280 l0 11 4) fun v312 =>
  bO (gfR M280 l0 11 5) fun v316 =>
  bO (gfR M280 l0 11 6) fun v320 =>
  bO (rcv M280 v287 2) fun _ =>
  bP (P_X2_unlock G F v287 v294 v301 v308 v312 v316 v320 M280) fun v323 M323 =>
  if v323 = 0 then (B_X11_decrypt_195 G F n l0 l4 (1 : Int32) (l6 + 1) M323)
  else (bO (gfR M323 l0 11 6) fun v331 =>
  bO (gfR M323 l0 11 6) fun v336 =>
  bO (gfI M323 v336 0 1) fun v339 =>
  bO (rcv M323 l0 11) fun _ =>
  bP (P_X11_show G F l0 v331 (0 : Int32) v339 M323) fun v342 M342 =>
  some (l6, M342))))))))
def B_X11_decrypt_151 (G : mG) (F : Nat) (l0 : Nat) (l2 : Nat) (M : mM) : Option (Int32 × mM) :=
  bO (gfR M l0 11 4) fun v152 =>
  bO (rcv M v152 0) fun _ =>
  bO (P_X0_clear G F v152 M) fun M155 =>
  bO (gfR M155 l0 11 4) fun v159 =>
  bO (gfR M155 l0 11 17) fun v165 =>
  bO (rcv M155 v165 10) fun _ =>
  bP (P_X10_partEnd G F v165 (0 : Int32) M155) fun v169 M169 =>
  bO (rcv M169 v159 0) fun _ =>
  bO (P_X0_putPart G F v159 l2 (0 : Int32) v169 M169) fun M172 =>
  bO (gfR M172 l0 11 17) fun v176 =>
  bO (gfR M172 l0 11 5) fun v181 =>
  bO (rcv M172 v176 10) fun _ =>
  bP (P_X10_readSealedParts G F v176 l2 v181 M172) fun v184 M184 =>
  B_X11_decrypt_195 G F F l0 v184 (0 : Int32) (0 : Int32) M184
def B_X11_decrypt_35 (G : mG) (F : Nat) : Nat → Nat → Nat → Int32 → mM → Option (Int32 × mM)
  | 0, _, _, _, _ => none
  | n + 1, l0, l2, l3, M =>
  if (5 : Int32) ≤ l3 then (bO (gfR M l0 11 17) fun v62 =>
  bO (gfR M l0 11 17) fun v68 =>
  bO (gfR M v68 10 0) fun v71 =>
  bO (rcv M v62 10) fun _ =>
  bO (P_X10_readPart G F v62 l2 (0 : Int32) v71 M) fun M74 =>
  bO (gfR M74 l0 11 9) fun v78 =>
  bO (gfR M74 l0 11 17) fun v82 =>
  bO (gfR M74 v82 10 0) fun v85 =>
  bO (gfR M74 l0 11 8) fun v89 =>
  bO (rcv M74 v78 7) fun _ =>
  bP (P_X7_read G F v78 v85 v89 M74) fun v92 M92 =>
  if v92 = (-1 : Int32) then (bO (gfR M92 l0 11 17) fun v103 =>
  bO (gfR M92 l0 11 8) fun v107 =>
  bO (rcv M92 v103 10) fun _ =>
  bP (P_X10_sealedHeadReason G F v103 v107 M92) fun v110 M110 =>
  if v110 = 0 then (bO (gfR M110 l0 11 17) fun v121 =>
  bO (gfI M110 v121 10 1) fun v124 =>
  if v124 < (4 : Int32) then (B_X11_decrypt_151 G F l0 l2 M110)
  else (bO (gfR M110 l0 11 16) fun v132 =>
  bO (gfR M110 l0 11 17) fun v136 =>
  bO (gfR M110 v136 10 6) fun v139 =>
  bO (rcv M110 v132 3) fun _ =>
  bP (P_X3_load G F v132 v139 M110) fun v142 M142 =>
  if v142 = 0 then (some ((-23 : Int32), M142))
  else (B_X11_decrypt_151 G F l0 l2 M142)))
  else (some (v110, M110)))
  else (some ((-22 : Int32), M92)))
  else (bO (gfR M l0 11 17) fun v41 =>
  bO (rcv M v41 10) fun _ =>
  bP (P_X10_isFaulty G F v41 l2 l3 M) fun v46 M46 =>
  if v46 = 0 then (B_X11_decrypt_35 G F n l0 l2 (l3 + 1) M46)
  else (some ((-21 : Int32), M46)))
def P_X11_decrypt (G : mG) (F : Nat) (l0 : Nat) (l1 : Int32) (M : mM) : Option (Int32 × mM) :=
  bO (rcv M l0 11) fun _ =>
  bP (P_X11_isRow G F l0 l1 M) fun v2 M2 =>
  if v2 = 0 then (some ((-2 : Int32), M2))
  else (bO (gfR M2 l0 11 0) fun v12 =>
  bO (aR M2 4 v12 l1) fun v16 =>
  bO (gfR M2 l0 11 17) fun v19 =>
  bO (rcv M2 v19 10) fun _ =>
  bP (P_X10_split G F v19 v16 (5 : Int32) M2) fun v24 M24 =>
  if v24 = 0 then (some ((-20 : Int32), M24))
  else (B_X11_decrypt_35 G F F l0 v16 (0 : Int32) M24))
def P_X12_init (G : mG) (F : Nat) (l0 : Nat) (M : mM) (sz : Nat) (sl : Nat) : Option (mM × Nat × Nat) :=
  bO (nwA M sz 0 (34 : Int32)) fun M7 =>
  bO (pfv M7 l0 12 0 (.ref sz)) fun M9 =>
  bO (nwA M9 (sz + 1) 0 (34 : Int32)) fun M15 =>
  bO (pfv M15 l0 12 3 (.ref (sz + 1))) fun M17 =>
  bO (nwA M17 ((sz + 1) + 1) 0 (34 : Int32)) fun M23 =>
  bO (pfv M23 l0 12 4 (.ref ((sz + 1) + 1))) fun M25 =>
  bO (nwA M25 (((sz + 1) + 1) + 1) 0 (70 : Int32)) fun M31 =>
  bO (pfv M31 l0 12 5 (.ref (((sz + 1) + 1) + 1))) fun M33 =>
  bO (nwA M33 ((((sz + 1) + 1) + 1) + 1) 0 (34 : Int32)) fun M39 =>
  bO (pfv M39 l0 12 6 (.ref ((((sz + 1) + 1) + 1) + 1))) fun M41 =>
  bO (nwA M41 (((((sz + 1) + 1) + 1) + 1) + 1) 0 (34 : Int32)) fun M47 =>
  bO (pfv M47 l0 12 7 (.ref (((((sz + 1) + 1) + 1) + 1) + 1))) fun M49 =>
  bO (nwA M49 ((((((sz + 1) + 1) + 1) + 1) + 1) + 1) 0 (34 : Int32)) fun M55 =>
  bO (pfv M55 l0 12 8 (.ref ((((((sz + 1) + 1) + 1) + 1) + 1) + 1))) fun M57 =>
  some (M57, (((((((sz + 1) + 1) + 1) + 1) + 1) + 1) + 1), (((((((sl + ((34 : Int32)).toNatClampNeg) + ((34 : Int32)).toNatClampNeg) + ((34 : Int32)).toNatClampNeg) + ((70 : Int32)).toNatClampNeg) + ((34 : Int32)).toNatClampNeg) + ((34 : Int32)).toNatClampNeg) + ((34 : Int32)).toNatClampNeg))
def B_X12_load_27 (G : mG) (F : Nat) : Nat → Nat → Int32 → Int32 → Nat → Int32 → mM → Option mM
  | 0, _, _, _, _, _, _ => none
  | n + 1, l1, l2, l3, l4, l5, M =>
  if l3 ≤ l5 then (some M)
  else (bO (aI G M 0 l4 (l5 / (4 : Int32))) fun v40 =>
  bO (aI G M 1 l1 (((l2 + l3) - (1 : Int32)) - l5)) fun v50 =>
  bO (sI M 0 l4 (l5 / (4 : Int32)) (v40 ||| ((v50 &&& (255 : Int32)) <<< (((8 : Int32) * (l5 - l5 / (4 : Int32) * (4 : Int32))) &&& 31)))) fun M64 =>
  B_X12_load_27 G F n l1 l2 l3 l4 (l5 + 1) M64)
def B_X12_load_3 (G : mG) (F : Nat) : Nat → Nat → Nat → Int32 → Int32 → Nat → Int32 → mM → Option mM
  | 0, _, _, _, _, _, _, _ => none
  | n + 1, l0, l1, l2, l3, l4, l5, M =>
  bO (gfI M l0 12 1) fun v6 =>
  if v6 ≤ l5 then (B_X12_load_27 G F F l1 l2 l3 l4 (0 : Int32) M)
  else (bO (sI M 0 l4 l5 (0 : Int32)) fun M17 =>
  B_X12_load_3 G F n l0 l1 l2 l3 l4 (l5 + 1) M17)
def P_X12_load (G : mG) (F : Nat) (l0 : Nat) (l1 : Nat) (l2 : Int32) (l3 : Int32) (l4 : Nat) (M : mM) : Option mM :=
  B_X12_load_3 G F F l0 l1 l2 l3 l4 (0 : Int32) M
def B_X12_order_7 (G : mG) (F : Nat) : Nat → Nat → Nat → Int32 → mM → Option (Int32 × mM)
  | 0, _, _, _, _ => none
  | n + 1, l1, l2, l3, M =>
  if l3 < 0 then (some ((0 : Int32), M))
  else (bO (aI G M 0 l1 l3) fun v13 =>
  bO (aI G M 0 l2 l3) fun v16 =>
  if v13 = v16 then (B_X12_order_7 G F n l1 l2 (l3 + (-1)) M)
  else (bO (aI G M 0 l1 l3) fun v22 =>
  bO (aI G M 0 l2 l3) fun v28 =>
  if (v28 ^^^ (-2147483648 : Int32)) ≤ (v22 ^^^ (-2147483648 : Int32)) then (some ((1 : Int32), M))
  else (some ((-1 : Int32), M))))
def P_X12_order (G : mG) (F : Nat) (l0 : Nat) (l1 : Nat) (l2 : Nat) (M : mM) : Option (Int32 × mM) :=
  bO (gfI M l0 12 1) fun v1 =>
  B_X12_order_7 G F F l1 l2 (v1 - (1 : Int32)) M
def B_X12_less_5 (G : mG) (F : Nat) : Nat → Nat → Nat → Int64 → Int32 → mM → Option mM
  | 0, _, _, _, _, _ => none
  | n + 1, l0, l1, l2, l4, M =>
  bO (gfI M l0 12 1) fun v8 =>
  if v8 ≤ l4 then (some M)
  else (bO (aI G M 0 l1 l4) fun v17 =>
  bO (gfR M l0 12 0) fun v24 =>
  bO (aI G M 0 v24 l4) fun v29 =>
  bO (sI M 0 l1 l4 (((((v17.toInt64) &&& (4294967295 : Int64)) - ((v29.toInt64) &&& (4294967295 : Int64))) - l2).toInt32)) fun M46 =>
  if 0 ≤ (lg_cmp ((((v17.toInt64) &&& (4294967295 : Int64)) - ((v29.toInt64) &&& (4294967295 : Int64))) - l2) (0 : Int64)) then (B_X12_less_5 G F n l0 l1 (0 : Int64) (l4 + 1) M46)
  else (B_X12_less_5 G F n l0 l1 (1 : Int64) (l4 + 1) M46))
def P_X12_less (G : mG) (F : Nat) (l0 : Nat) (l1 : Nat) (M : mM) : Option mM :=
  B_X12_less_5 G F F l0 l1 (0 : Int64) (0 : Int32) M
def B_X12_twice_4 (G : mG) (F : Nat) : Nat → Nat → Nat → Int32 → Int32 → mM → Option mM
  | 0, _, _, _, _, _ => none
  | n + 1, l0, l1, l2, l3, M =>
  bO (gfI M l0 12 1) fun v6 =>
  if v6 ≤ l3 then (if l2 = (1 : Int32) then (bO (rcv M l0 12) fun _ =>
  bO (P_X12_less G F l0 l1 M) fun M58 =>
  some M58)
  else (bO (gfR M l0 12 0) fun v47 =>
  bO (rcv M l0 12) fun _ =>
  bP (P_X12_order G F l0 l1 v47 M) fun v50 M50 =>
  if v50 < 0 then (some M50)
  else (bO (rcv M50 l0 12) fun _ =>
  bO (P_X12_less G F l0 l1 M50) fun M58 =>
  some M58)))
  else (bO (aI G M 0 l1 l3) fun v14 =>
  bO (aI G M 0 l1 l3) fun v24 =>
  bO (sI M 0 l1 l3 ((v24 <<< ((1 : Int32) &&& 31)) ||| l2)) fun M29 =>
  B_X12_twice_4 G F n l0 l1 (ushI v14 (31 : Int32)) (l3 + 1) M29)
def P_X12_twice (G : mG) (F : Nat) (l0 : Nat) (l1 : Nat) (M : mM) : Option mM :=
  B_X12_twice_4 G F F l0 l1 (0 : Int32) (0 : Int32) M
def B_X12_set_158 (G : mG) (F : Nat) : Nat → Nat → Int32 → mM → Option mM
  | 0, _, _, _ => none
  | n + 1, l0, l5, M =>
  bO (gfI M l0 12 1) fun v163 =>
  if ((32 : Int32) * v163) ≤ l5 then (some M)
  else (bO (gfR M l0 12 4) fun v172 =>
  bO (rcv M l0 12) fun _ =>
  bO (P_X12_twice G F l0 v172 M) fun M175 =>
  B_X12_set_158 G F n l0 (l5 + 1) M175)
def B_X12_set_126 (G : mG) (F : Nat) : Nat → Nat → Int32 → mM → Option mM
  | 0, _, _, _ => none
  | n + 1, l0, l5, M =>
  bO (gfI M l0 12 1) fun v129 =>
  if v129 ≤ l5 then (B_X12_set_158 G F F l0 (0 : Int32) M)
  else (bO (gfR M l0 12 4) fun v136 =>
  bO (gfR M l0 12 3) fun v142 =>
  bO (aI G M 0 v142 l5) fun v147 =>
  bO (sI M 0 v136 l5 v147) fun M148 =>
  B_X12_set_126 G F n l0 (l5 + 1) M148)
def B_X12_set_97 (G : mG) (F : Nat) : Nat → Nat → Int32 → mM → Option mM
  | 0, _, _, _ => none
  | n + 1, l0, l5, M =>
  bO (gfI M l0 12 1) fun v102 =>
  if ((32 : Int32) * v102) ≤ l5 then (B_X12_set_126 G F F l0 (0 : Int32) M)
  else (bO (gfR M l0 12 3) fun v111 =>
  bO (rcv M l0 12) fun _ =>
  bO (P_X12_twice G F l0 v111 M) fun M114 =>
  B_X12_set_97 G F n l0 (l5 + 1) M114)
def B_X12_set_64 (G : mG) (F : Nat) : Nat → Nat → Int32 → mM → Option mM
  | 0, _, _, _ => none
  | n + 1, l0, l5, M =>
  bO (gfI M l0 12 1) fun v67 =>
  if v67 ≤ l5 then (bO (gfR M l0 12 3) fun v88 =>
  bO (sI M 0 v88 (0 : Int32) (1 : Int32)) fun M93 =>
  B_X12_set_97 G F F l0 (0 : Int32) M93)
  else (bO (gfR M l0 12 3) fun v74 =>
  bO (sI M 0 v74 l5 (0 : Int32)) fun M80 =>
  B_X12_set_64 G F n l0 (l5 + 1) M80)
def B_X12_set_26 (G : mG) (F : Nat) : Nat → Nat → Int32 → Int32 → mM → Option mM
  | 0, _, _, _, _ => none
  | n + 1, l0, l4, l5, M =>
  if (5 : Int32) ≤ l5 then (bO (pfv M l0 12 2 (.int (-l4))) fun M58 =>
  B_X12_set_64 G F F l0 (0 : Int32) M58)
  else (bO (gfR M l0 12 0) fun v36 =>
  bO (aI G M 0 v36 (0 : Int32)) fun v40 =>
  B_X12_set_26 G F n l0 (l4 * ((2 : Int32) - (v40 * l4))) (l5 + 1) M)
def P_X12_set (G : mG) (F : Nat) (l0 : Nat) (l1 : Nat) (l2 : Int32) (l3 : Int32) (M : mM) : Option mM :=
  bO (pfv M l0 12 1 (.int ((l3 + (3 : Int32)) / (4 : Int32)))) fun M6 =>
  bO (gfR M6 l0 12 0) fun v14 =>
  bO (rcv M6 l0 12) fun _ =>
  bO (P_X12_load G F l0 l1 l2 l3 v14 M6) fun M17 =>
  B_X12_set_26 G F F l0 (1 : Int32) (0 : Int32) M17
def B_X12_store_3 (G : mG) (F : Nat) : Nat → Nat → Nat → Int32 → Int32 → Int32 → mM → Option mM
  | 0, _, _, _, _, _, _ => none
  | n + 1, l1, l2, l3, l4, l5, M =>
  if l4 ≤ l5 then (some M)
  else (bO (aI G M 0 l1 (l5 / (4 : Int32))) fun v25 =>
  bO (sI M 1 l2 (((l3 + l4) - (1 : Int32)) - l5) (((ushI v25 ((8 : Int32) * (l5 - l5 / (4 : Int32) * (4 : Int32)))).toInt8.toInt32).toInt8.toInt32)) fun M35 =>
  B_X12_store_3 G F n l1 l2 l3 l4 (l5 + 1) M35)
def P_X12_store (G : mG) (F : Nat) (l0 : Nat) (l1 : Nat) (l2 : Nat) (l3 : Int32) (l4 : Int32) (M : mM) : Option mM :=
  B_X12_store_3 G F F l1 l2 l3 l4 (0 : Int32) M
def B_X12_isZero_4 (G : mG) (F : Nat) : Nat → Nat → Nat → Int32 → Int32 → mM → Option (Int32 × mM)
  | 0, _, _, _, _, _ => none
  | n + 1, l0, l1, l2, l3, M =>
  bO (gfI M l0 12 1) fun v6 =>
  if v6 ≤ l3 then (retZ l2 M)
  else (if l2 = 0 then (B_X12_isZero_4 G F n l0 l1 (0 : Int32) (l3 + 1) M)
  else (bO (aI G M 0 l1 l3) fun v18 =>
  if v18 = 0 then (B_X12_isZero_4 G F n l0 l1 (1 : Int32) (l3 + 1) M)
  else (B_X12_isZero_4 G F n l0 l1 (0 : Int32) (l3 + 1) M)))
def P_X12_isZero (G : mG) (F : Nat) (l0 : Nat) (l1 : Nat) (M : mM) : Option (Int32 × mM) :=
  B_X12_isZero_4 G F F l0 l1 (1 : Int32) (0 : Int32) M
def B_X12_addOne_4 (G : mG) (F : Nat) : Nat → Nat → Nat → Int32 → Int32 → mM → Option mM
  | 0, _, _, _, _, _ => none
  | n + 1, l0, l1, l2, l3, M =>
  if l3 = 0 then (bO (gfR M l0 12 0) fun v44 =>
  bO (rcv M l0 12) fun _ =>
  bP (P_X12_order G F l0 l1 v44 M) fun v47 M47 =>
  if v47 < 0 then (some M47)
  else (bO (rcv M47 l0 12) fun _ =>
  bO (P_X12_less G F l0 l1 M47) fun M55 =>
  some M55))
  else (bO (gfI M l0 12 1) fun v10 =>
  if v10 ≤ l2 then (bO (gfR M l0 12 0) fun v44 =>
  bO (rcv M l0 12) fun _ =>
  bP (P_X12_order G F l0 l1 v44 M) fun v47 M47 =>
  if v47 < 0 then (some M47)
  else (bO (rcv M47 l0 12) fun _ =>
  bO (P_X12_less G F l0 l1 M47) fun M55 =>
  some M55))
  else (bO (aI G M 0 l1 l2) fun v19 =>
  bO (sI M 0 l1 l2 (v19 + (1 : Int32))) fun M22 =>
  bO (aI G M22 0 l1 l2) fun v25 =>
  if v25 = 0 then (B_X12_addOne_4 G F n l0 l1 (l2 + 1) (1 : Int32) M22)
  else (B_X12_addOne_4 G F n l0 l1 (l2 + 1) (0 : Int32) M22)))
def P_X12_addOne (G : mG) (F : Nat) (l0 : Nat) (l1 : Nat) (M : mM) : Option mM :=
  B_X12_addOne_4 G F F l0 l1 (0 : Int32) (1 : Int32) M
def B_X12_reduce_27 (G : mG) (F : Nat) : Nat → Nat → Nat → Int32 → Int32 → Nat → Int32 → mM → Option mM
  | 0, _, _, _, _, _, _, _ => none
  | n + 1, l0, l1, l2, l3, l4, l5, M =>
  if ((8 : Int32) * l3) ≤ l5 then (some M)
  else (bO (rcv M l0 12) fun _ =>
  bO (P_X12_twice G F l0 l4 M) fun M39 =>
  bO (aI G M39 1 l1 (l2 + (l5 / (8 : Int32)))) fun v50 =>
  if ((v50 >>> (((7 : Int32) - (l5 - l5 / (8 : Int32) * (8 : Int32))) &&& 31)) &&& (1 : Int32)) = (1 : Int32) then (bO (rcv M39 l0 12) fun _ =>
  bO (P_X12_addOne G F l0 l4 M39) fun M69 =>
  B_X12_reduce_27 G F n l0 l1 l2 l3 l4 (l5 + 1) M69)
  else (B_X12_reduce_27 G F n l0 l1 l2 l3 l4 (l5 + 1) M39))
def B_X12_reduce_3 (G : mG) (F : Nat) : Nat → Nat → Nat → Int32 → Int32 → Nat → Int32 → mM → Option mM
  | 0, _, _, _, _, _, _, _ => none
  | n + 1, l0, l1, l2, l3, l4, l5, M =>
  bO (gfI M l0 12 1) fun v6 =>
  if v6 ≤ l5 then (B_X12_reduce_27 G F F l0 l1 l2 l3 l4 (0 : Int32) M)
  else (bO (sI M 0 l4 l5 (0 : Int32)) fun M17 =>
  B_X12_reduce_3 G F n l0 l1 l2 l3 l4 (l5 + 1) M17)
def P_X12_reduce (G : mG) (F : Nat) (l0 : Nat) (l1 : Nat) (l2 : Int32) (l3 : Int32) (l4 : Nat) (M : mM) : Option mM :=
  B_X12_reduce_3 G F F l0 l1 l2 l3 l4 (0 : Int32) M
def B_X12_add_6 (G : mG) (F : Nat) : Nat → Nat → Nat → Nat → Nat → Int64 → Int32 → mM → Option mM
  | 0, _, _, _, _, _, _, _ => none
  | n + 1, l0, l1, l2, l3, l4, l6, M =>
  bO (gfI M l0 12 1) fun v9 =>
  if v9 ≤ l6 then (if (lg_cmp l4 (1 : Int64)) = 0 then (bO (rcv M l0 12) fun _ =>
  bO (P_X12_less G F l0 l3 M) fun M80 =>
  some M80)
  else (bO (gfR M l0 12 0) fun v69 =>
  bO (rcv M l0 12) fun _ =>
  bP (P_X12_order G F l0 l3 v69 M) fun v72 M72 =>
  if v72 < 0 then (some M72)
  else (bO (rcv M72 l0 12) fun _ =>
  bO (P_X12_less G F l0 l3 M72) fun M80 =>
  some M80)))
  else (bO (aI G M 0 l1 l6) fun v18 =>
  bO (aI G M 0 l2 l6) fun v27 =>
  bO (sI M 0 l3 l6 (((((v18.toInt64) &&& (4294967295 : Int64)) + ((v27.toInt64) &&& (4294967295 : Int64))) + l4).toInt32)) fun M45 =>
  B_X12_add_6 G F n l0 l1 l2 l3 (ushL ((((v18.toInt64) &&& (4294967295 : Int64)) + ((v27.toInt64) &&& (4294967295 : Int64))) + l4) (32 : Int32)) (l6 + 1) M45)
def P_X12_add (G : mG) (F : Nat) (l0 : Nat) (l1 : Nat) (l2 : Nat) (l3 : Nat) (M : mM) : Option mM :=
  B_X12_add_6 G F F l0 l1 l2 l3 (0 : Int64) (0 : Int32) M
def B_X12_subtract_72 (G : mG) (F : Nat) : Nat → Nat → Nat → Int64 → Int64 → Int32 → mM → Option mM
  | 0, _, _, _, _, _, _ => none
  | n + 1, l0, l3, l4, l6, l8, M =>
  bO (gfI M l0 12 1) fun v75 =>
  if v75 ≤ l8 then (some M)
  else (if (lg_cmp l4 (1 : Int64)) = 0 then (bO (aI G M 0 l3 l8) fun v91 =>
  bO (gfR M l0 12 0) fun v98 =>
  bO (aI G M 0 v98 l8) fun v103 =>
  bO (sI M 0 l3 l8 (((((v91.toInt64) &&& (4294967295 : Int64)) + ((v103.toInt64) &&& (4294967295 : Int64))) + l6).toInt32)) fun M121 =>
  B_X12_subtract_72 G F n l0 l3 l4 (ushL ((((v91.toInt64) &&& (4294967295 : Int64)) + ((v103.toInt64) &&& (4294967295 : Int64))) + l6) (32 : Int32)) (l8 + 1) M121)
  else (some M))
def B_X12_subtract_6 (G : mG) (F : Nat) : Nat → Nat → Nat → Nat → Nat → Int64 → Int32 → mM → Option mM
  | 0, _, _, _, _, _, _, _ => none
  | n + 1, l0, l1, l2, l3, l4, l6, M =>
  bO (gfI M l0 12 1) fun v9 =>
  if v9 ≤ l6 then (B_X12_subtract_72 G F F l0 l3 l4 (0 : Int64) (0 : Int32) M)
  else (bO (aI G M 0 l1 l6) fun v18 =>
  bO (aI G M 0 l2 l6) fun v27 =>
  bO (sI M 0 l3 l6 (((((v18.toInt64) &&& (4294967295 : Int64)) - ((v27.toInt64) &&& (4294967295 : Int64))) - l4).toInt32)) fun M45 =>
  if 0 ≤ (lg_cmp ((((v18.toInt64) &&& (4294967295 : Int64)) - ((v27.toInt64) &&& (4294967295 : Int64))) - l4) (0 : Int64)) then (B_X12_subtract_6 G F n l0 l1 l2 l3 (0 : Int64) (l6 + 1) M45)
  else (B_X12_subtract_6 G F n l0 l1 l2 l3 (1 : Int64) (l6 + 1) M45))
def P_X12_subtract (G : mG) (F : Nat) (l0 : Nat) (l1 : Nat) (l2 : Nat) (l3 : Nat) (M : mM) : Option mM :=
  B_X12_subtract_6 G F F l0 l1 l2 l3 (0 : Int64) (0 : Int32) M
def B_X12_product_374 (G : mG) (F : Nat) : Nat → Nat → Nat → Int32 → Int32 → mM → Option mM
  | 0, _, _, _, _, _ => none
  | n + 1, l0, l3, l4, l5, M =>
  bO (gfI M l0 12 1) fun v377 =>
  if v377 ≤ l5 then (if l4 = 0 then (bO (gfR M l0 12 0) fun v408 =>
  bO (rcv M l0 12) fun _ =>
  bP (P_X12_order G F l0 l3 v408 M) fun v411 M411 =>
  if v411 < 0 then (some M411)
  else (bO (rcv M411 l0 12) fun _ =>
  bO (P_X12_less G F l0 l3 M411) fun M419 =>
  some M419))
  else (bO (rcv M l0 12) fun _ =>
  bO (P_X12_less G F l0 l3 M) fun M419 =>
  some M419))
  else (bO (gfR M l0 12 5) fun v387 =>
  bO (aI G M 0 v387 l5) fun v392 =>
  bO (sI M 0 l3 l5 v392) fun M393 =>
  B_X12_product_374 G F n l0 l3 l4 (l5 + 1) M393)
def B_X12_product_219 (G : mG) (F : Nat) (r31 : Nat → Nat → Nat → Nat → Int32 → mM → Option mM) : Nat → Nat → Nat → Nat → Nat → Int32 → Int64 → Int64 → Int32 → mM → Option mM
  | 0, _, _, _, _, _, _, _, _, _ => none
  | n + 1, l0, l1, l2, l3, l4, l5, l11, l13, M =>
  bO (gfI M l0 12 1) fun v222 =>
  if v222 ≤ l13 then (bO (gfR M l0 12 5) fun v287 =>
  bO (gfI M l0 12 1) fun v291 =>
  bO (aI G M 0 v287 v291) fun v294 =>
  bO (gfR M l0 12 5) fun v306 =>
  bO (gfI M l0 12 1) fun v310 =>
  bO (sI M 0 v306 (v310 - (1 : Int32)) ((((v294.toInt64) &&& (4294967295 : Int64)) + l5).toInt32)) fun M318 =>
  bO (gfR M318 l0 12 5) fun v320 =>
  bO (gfI M318 l0 12 1) fun v324 =>
  bO (gfR M318 l0 12 5) fun v328 =>
  bO (gfI M318 l0 12 1) fun v332 =>
  bO (aI G M318 0 v328 (v332 + (1 : Int32))) fun v337 =>
  bO (sI M318 0 v320 v324 (v337 + ((ushL (((v294.toInt64) &&& (4294967295 : Int64)) + l5) (32 : Int32)).toInt32))) fun M345 =>
  r31 l0 l1 l2 l3 (l4 + 1) M345)
  else (bO (gfR M l0 12 5) fun v229 =>
  bO (aI G M 0 v229 l13) fun v234 =>
  bO (gfR M l0 12 0) fun v243 =>
  bO (aI G M 0 v243 l13) fun v248 =>
  bO (gfR M l0 12 5) fun v262 =>
  bO (sI M 0 v262 (l13 - (1 : Int32)) (((((v234.toInt64) &&& (4294967295 : Int64)) + (l11 * ((v248.toInt64) &&& (4294967295 : Int64)))) + l5).toInt32)) fun M272 =>
  B_X12_product_219 G F r31 n l0 l1 l2 l3 l4 (ushL ((((v234.toInt64) &&& (4294967295 : Int64)) + (l11 * ((v248.toInt64) &&& (4294967295 : Int64)))) + l5) (32 : Int32)) l11 (l13 + 1) M272)
def B_X12_product_57 (G : mG) (F : Nat) (r31 : Nat → Nat → Nat → Nat → Int32 → mM → Option mM) : Nat → Nat → Nat → Nat → Nat → Int32 → Int64 → Int64 → Int32 → mM → Option mM
  | 0, _, _, _, _, _, _, _, _, _ => none
  | n + 1, l0, l1, l2, l3, l4, l5, l7, l9, M =>
  bO (gfI M l0 12 1) fun v60 =>
  if v60 ≤ l9 then (bO (gfR M l0 12 5) fun v120 =>
  bO (gfI M l0 12 1) fun v124 =>
  bO (aI G M 0 v120 v124) fun v127 =>
  bO (gfR M l0 12 5) fun v139 =>
  bO (gfI M l0 12 1) fun v143 =>
  bO (sI M 0 v139 v143 ((((v127.toInt64) &&& (4294967295 : Int64)) + l5).toInt32)) fun M149 =>
  bO (gfR M149 l0 12 5) fun v151 =>
  bO (gfI M149 l0 12 1) fun v155 =>
  bO (sI M149 0 v151 (v155 + (1 : Int32)) ((ushL (((v127.toInt64) &&& (4294967295 : Int64)) + l5) (32 : Int32)).toInt32)) fun M166 =>
  bO (gfR M166 l0 12 5) fun v168 =>
  bO (aI G M166 0 v168 (0 : Int32)) fun v172 =>
  bO (gfI M166 l0 12 2) fun v174 =>
  bO (gfR M166 l0 12 5) fun v186 =>
  bO (aI G M166 0 v186 (0 : Int32)) fun v190 =>
  bO (gfR M166 l0 12 0) fun v199 =>
  bO (aI G M166 0 v199 (0 : Int32)) fun v203 =>
  B_X12_product_219 G F r31 F l0 l1 l2 l3 l4 (ushL (((v190.toInt64) &&& (4294967295 : Int64)) + ((((v172 * v174).toInt64) &&& (4294967295 : Int64)) * ((v203.toInt64) &&& (4294967295 : Int64)))) (32 : Int32)) (((v172 * v174).toInt64) &&& (4294967295 : Int64)) (1 : Int32) M166)
  else (bO (gfR M l0 12 5) fun v67 =>
  bO (aI G M 0 v67 l9) fun v72 =>
  bO (aI G M 0 l2 l9) fun v83 =>
  bO (gfR M l0 12 5) fun v97 =>
  bO (sI M 0 v97 l9 (((((v72.toInt64) &&& (4294967295 : Int64)) + (l7 * ((v83.toInt64) &&& (4294967295 : Int64)))) + l5).toInt32)) fun M105 =>
  B_X12_product_57 G F r31 n l0 l1 l2 l3 l4 (ushL ((((v72.toInt64) &&& (4294967295 : Int64)) + (l7 * ((v83.toInt64) &&& (4294967295 : Int64)))) + l5) (32 : Int32)) l7 (l9 + 1) M105)
def B_X12_product_31 (G : mG) (F : Nat) : Nat → Nat → Nat → Nat → Nat → Int32 → mM → Option mM
  | 0, _, _, _, _, _, _ => none
  | n + 1, l0, l1, l2, l3, l4, M =>
  bO (gfI M l0 12 1) fun v34 =>
  if v34 ≤ l4 then (bO (gfR M l0 12 5) fun v353 =>
  bO (gfI M l0 12 1) fun v357 =>
  bO (aI G M 0 v353 v357) fun v360 =>
  if v360 = 0 then (B_X12_product_374 G F F l0 l3 (0 : Int32) (0 : Int32) M)
  else (B_X12_product_374 G F F l0 l3 (1 : Int32) (0 : Int32) M))
  else (bO (aI G M 0 l1 l4) fun v46 =>
  B_X12_product_57 G F (B_X12_product_31 G F n) F l0 l1 l2 l3 l4 (0 : Int64) ((v46.toInt64) &&& (4294967295 : Int64)) (0 : Int32) M)
def B_X12_product_3 (G : mG) (F : Nat) : Nat → Nat → Nat → Nat → Nat → Int32 → mM → Option mM
  | 0, _, _, _, _, _, _ => none
  | n + 1, l0, l1, l2, l3, l4, M =>
  bO (gfI M l0 12 1) fun v6 =>
  if (v6 + (1 : Int32)) < l4 then (B_X12_product_31 G F F l0 l1 l2 l3 (0 : Int32) M)
  else (bO (gfR M l0 12 5) fun v15 =>
  bO (sI M 0 v15 l4 (0 : Int32)) fun M21 =>
  B_X12_product_3 G F n l0 l1 l2 l3 (l4 + 1) M21)
def P_X12_product (G : mG) (F : Nat) (l0 : Nat) (l1 : Nat) (l2 : Nat) (l3 : Nat) (M : mM) : Option mM :=
  B_X12_product_3 G F F l0 l1 l2 l3 (0 : Int32) M
def P_X12_into (G : mG) (F : Nat) (l0 : Nat) (l1 : Nat) (l2 : Nat) (M : mM) : Option mM :=
  bO (gfR M l0 12 4) fun v3 =>
  bO (rcv M l0 12) fun _ =>
  bO (P_X12_product G F l0 l1 v3 l2 M) fun M7 =>
  some M7
def B_X12_outOf_2 (G : mG) (F : Nat) : Nat → Nat → Nat → Nat → Int32 → mM → Option mM
  | 0, _, _, _, _, _ => none
  | n + 1, l0, l1, l2, l3, M =>
  bO (gfI M l0 12 1) fun v4 =>
  if v4 ≤ l3 then (bO (gfR M l0 12 8) fun v24 =>
  bO (sI M 0 v24 (0 : Int32) (1 : Int32)) fun M29 =>
  bO (gfR M29 l0 12 8) fun v33 =>
  bO (rcv M29 l0 12) fun _ =>
  bO (P_X12_product G F l0 l1 v33 l2 M29) fun M37 =>
  some M37)
  else (bO (gfR M l0 12 8) fun v11 =>
  bO (sI M 0 v11 l3 (0 : Int32)) fun M16 =>
  B_X12_outOf_2 G F n l0 l1 l2 (l3 + 1) M16)
def P_X12_outOf (G : mG) (F : Nat) (l0 : Nat) (l1 : Nat) (l2 : Nat) (M : mM) : Option mM :=
  B_X12_outOf_2 G F F l0 l1 l2 (0 : Int32) M
def B_X12_power_121 (G : mG) (F : Nat) : Nat → Nat → Nat → Int32 → mM → Option mM
  | 0, _, _, _, _ => none
  | n + 1, l0, l5, l6, M =>
  bO (gfI M l0 12 1) fun v124 =>
  if v124 ≤ l6 then (some M)
  else (bO (gfR M l0 12 7) fun v135 =>
  bO (aI G M 0 v135 l6) fun v140 =>
  bO (sI M 0 l5 l6 v140) fun M141 =>
  B_X12_power_121 G F n l0 l5 (l6 + 1) M141)
def B_X12_power_46 (G : mG) (F : Nat) : Nat → Nat → Nat → Int32 → Int32 → Nat → Int32 → mM → Option mM
  | 0, _, _, _, _, _, _, _ => none
  | n + 1, l0, l2, l3, l4, l5, l6, M =>
  if ((8 : Int32) * l4) ≤ l6 then (B_X12_power_121 G F F l0 l5 (0 : Int32) M)
  else (bO (gfR M l0 12 7) fun v58 =>
  bO (gfR M l0 12 7) fun v62 =>
  bO (gfR M l0 12 7) fun v66 =>
  bO (rcv M l0 12) fun _ =>
  bO (P_X12_product G F l0 v58 v62 v66 M) fun M69 =>
  bO (aI G M69 1 l2 (l3 + (l6 / (8 : Int32)))) fun v80 =>
  if ((v80 >>> (((7 : Int32) - (l6 - l6 / (8 : Int32) * (8 : Int32))) &&& 31)) &&& (1 : Int32)) = (1 : Int32) then (bO (gfR M69 l0 12 7) fun v98 =>
  bO (gfR M69 l0 12 6) fun v102 =>
  bO (gfR M69 l0 12 7) fun v106 =>
  bO (rcv M69 l0 12) fun _ =>
  bO (P_X12_product G F l0 v98 v102 v106 M69) fun M109 =>
  B_X12_power_46 G F n l0 l2 l3 l4 l5 (l6 + 1) M109)
  else (B_X12_power_46 G F n l0 l2 l3 l4 l5 (l6 + 1) M69))
def B_X12_power_3 (G : mG) (F : Nat) : Nat → Nat → Nat → Nat → Int32 → Int32 → Nat → Int32 → mM → Option mM
  | 0, _, _, _, _, _, _, _, _ => none
  | n + 1, l0, l1, l2, l3, l4, l5, l6, M =>
  bO (gfI M l0 12 1) fun v6 =>
  if v6 ≤ l6 then (B_X12_power_46 G F F l0 l2 l3 l4 l5 (0 : Int32) M)
  else (bO (gfR M l0 12 6) fun v13 =>
  bO (aI G M 0 l1 l6) fun v21 =>
  bO (sI M 0 v13 l6 v21) fun M22 =>
  bO (gfR M22 l0 12 7) fun v24 =>
  bO (gfR M22 l0 12 3) fun v30 =>
  bO (aI G M22 0 v30 l6) fun v35 =>
  bO (sI M22 0 v24 l6 v35) fun M36 =>
  B_X12_power_3 G F n l0 l1 l2 l3 l4 l5 (l6 + 1) M36)
def P_X12_power (G : mG) (F : Nat) (l0 : Nat) (l1 : Nat) (l2 : Nat) (l3 : Int32) (l4 : Int32) (l5 : Nat) (M : mM) : Option mM :=
  B_X12_power_3 G F F l0 l1 l2 l3 l4 l5 (0 : Int32) M
def P_X13_twice (G : mG) (F : Nat) (l0 : Int32) (M : mM) : Option (Int32 × mM) :=
  if l0 ≤ (127 : Int32) then (some ((((l0 <<< ((1 : Int32) &&& 31)) &&& (255 : Int32)) ^^^ (0 : Int32)), M))
  else (some ((((l0 <<< ((1 : Int32) &&& 31)) &&& (255 : Int32)) ^^^ (27 : Int32)), M))
def B_X13_times_7 (G : mG) (F : Nat) : Nat → Int32 → Int32 → Int32 → Int32 → mM → Option (Int32 × mM)
  | 0, _, _, _, _, _ => none
  | n + 1, l1, l2, l3, l4, M =>
  if (8 : Int32) ≤ l4 then (some (l3, M))
  else (if ((l1 >>> (l4 &&& 31)) &&& (1 : Int32)) = (1 : Int32) then (bP (P_X13_twice G F l2 M) fun v33 M33 =>
  B_X13_times_7 G F n l1 v33 (l3 ^^^ l2) (l4 + 1) M33)
  else (bP (P_X13_twice G F l2 M) fun v33 M33 =>
  B_X13_times_7 G F n l1 v33 l3 (l4 + 1) M33))
def P_X13_times (G : mG) (F : Nat) (l0 : Int32) (l1 : Int32) (M : mM) : Option (Int32 × mM) :=
  B_X13_times_7 G F F l1 l0 (0 : Int32) (0 : Int32) M
def B_X13_layCipher_54 (G : mG) (F : Nat) (r2 : Nat → Int32 → mM → Option mM) : Nat → Nat → Int32 → Int32 → Int32 → Int32 → mM → Option mM
  | 0, _, _, _, _, _, _ => none
  | n + 1, l0, l1, l2, l3, l4, M =>
  if (5 : Int32) ≤ l4 then (bO (gfR M l0 13 41) fun v86 =>
  bO (sI M 0 v86 l1 (l3 ^^^ (99 : Int32))) fun M94 =>
  bO (gfR M94 l0 13 42) fun v96 =>
  bO (gfR M94 l0 13 41) fun v100 =>
  bO (aI G M94 0 v100 l1) fun v104 =>
  bO (sI M94 0 v96 v104 l1) fun M106 =>
  r2 l0 (l1 + 1) M106)
  else (B_X13_layCipher_54 G F r2 n l0 l1 l2 (l3 ^^^ (((l2 <<< (l4 &&& 31)) ||| (l2 >>> (((8 : Int32) - l4) &&& 31))) &&& (255 : Int32))) (l4 + 1) M)
def B_X13_layCipher_13 (G : mG) (F : Nat) (r2 : Nat → Int32 → mM → Option mM) : Nat → Nat → Int32 → Int32 → Int32 → mM → Option mM
  | 0, _, _, _, _, _ => none
  | n + 1, l0, l1, l2, l3, M =>
  if (256 : Int32) ≤ l3 then (B_X13_layCipher_54 G F r2 F l0 l1 l2 l2 (1 : Int32) M)
  else (if l1 ≤ 0 then (B_X13_layCipher_54 G F r2 F l0 l1 l2 l2 (1 : Int32) M)
  else (if l2 = 0 then (bP (P_X13_times G F l1 l3 M) fun v30 M30 =>
  if v30 = (1 : Int32) then (B_X13_layCipher_13 G F r2 n l0 l1 l3 (l3 + 1) M30)
  else (B_X13_layCipher_13 G F r2 n l0 l1 (0 : Int32) (l3 + 1) M30))
  else (B_X13_layCipher_54 G F r2 F l0 l1 l2 l2 (1 : Int32) M)))
def B_X13_layCipher_2 (G : mG) (F : Nat) : Nat → Nat → Int32 → mM → Option mM
  | 0, _, _, _ => none
  | n + 1, l0, l1, M =>
  if (256 : Int32) ≤ l1 then (some M)
  else (B_X13_layCipher_13 G F (B_X13_layCipher_2 G F n) F l0 l1 (0 : Int32) (1 : Int32) M)
def P_X13_layCipher (G : mG) (F : Nat) (l0 : Nat) (M : mM) : Option mM :=
  B_X13_layCipher_2 G F F l0 (0 : Int32) M
def P_X13_isDigit (G : mG) (F : Nat) (l0 : Int32) (M : mM) : Option (Int32 × mM) :=
  if l0 < (48 : Int32) then (retZ (0 : Int32) M)
  else (if (57 : Int32) < l0 then (retZ (0 : Int32) M)
  else (retZ (1 : Int32) M))
def B_X13_hexOf_33 (G : mG) (F : Nat) (l0 : Int32) (M : mM) : Option (Int32 × mM) :=
  if l0 < (65 : Int32) then (some ((-1 : Int32), M))
  else (if (70 : Int32) < l0 then (some ((-1 : Int32), M))
  else (some ((l0 - (55 : Int32)), M)))
def P_X13_hexOf (G : mG) (F : Nat) (l0 : Int32) (M : mM) : Option (Int32 × mM) :=
  bP (P_X13_isDigit G F l0 M) fun v1 M1 =>
  if v1 = 0 then (if l0 < (97 : Int32) then (B_X13_hexOf_33 G F l0 M1)
  else (if (102 : Int32) < l0 then (B_X13_hexOf_33 G F l0 M1)
  else (some ((l0 - (87 : Int32)), M1))))
  else (some ((l0 - (48 : Int32)), M1))
def B_X13_digits__2 (G : mG) (F : Nat) : Nat → Nat → Nat → Int32 → Int32 → mM → Option mM
  | 0, _, _, _, _, _ => none
  | n + 1, l0, l1, l2, l3, M =>
  if (32 : Int32) ≤ l3 then (some M)
  else (bO (rcs G l0) fun _ =>
  bP (P_J0_charAt_5068e G F l0 ((2 : Int32) * l3) M) fun v18 M18 =>
  bP (P_X13_hexOf G F v18 M18) fun v21 M21 =>
  bO (rcs G l0) fun _ =>
  bP (P_J0_charAt_5068e G F l0 (((2 : Int32) * l3) + (1 : Int32)) M21) fun v31 M31 =>
  bP (P_X13_hexOf G F v31 M31) fun v34 M34 =>
  bO (sI M34 1 l1 (l2 + l3) (((((16 : Int32) * v21) + v34).toInt8.toInt32).toInt8.toInt32)) fun M39 =>
  B_X13_digits__2 G F n l0 l1 l2 (l3 + 1) M39)
def P_X13_digits_ (G : mG) (F : Nat) (l0 : Nat) (l1 : Nat) (l2 : Int32) (M : mM) : Option mM :=
  B_X13_digits__2 G F F l0 l1 l2 (0 : Int32) M
def P_X13_layCurve (G : mG) (F : Nat) (l0 : Nat) (M : mM) : Option mM :=
  bO (gfR M l0 13 63) fun v4 =>
  bO (P_X13_digits_ G F (G.1 73) v4 (0 : Int32) M) fun M8 =>
  bO (gfR M8 l0 13 64) fun v15 =>
  bO (P_X13_digits_ G F (G.1 74) v15 (0 : Int32) M8) fun M19 =>
  bO (gfR M19 l0 13 65) fun v26 =>
  bO (P_X13_digits_ G F (G.1 75) v26 (0 : Int32) M19) fun M30 =>
  bO (gfR M30 l0 13 65) fun v37 =>
  bO (P_X13_digits_ G F (G.1 76) v37 (32 : Int32) M30) fun M42 =>
  bO (gfR M42 l0 13 58) fun v46 =>
  bO (gfR M42 l0 13 63) fun v50 =>
  bO (rcv M42 v46 12) fun _ =>
  bO (P_X12_set G F v46 v50 (0 : Int32) (32 : Int32) M42) fun M56 =>
  bO (gfR M56 l0 13 59) fun v60 =>
  bO (gfR M56 l0 13 64) fun v64 =>
  bO (rcv M56 v60 12) fun _ =>
  bO (P_X12_set G F v60 v64 (0 : Int32) (32 : Int32) M56) fun M70 =>
  bO (gfR M70 l0 13 62) fun v77 =>
  bO (P_X13_digits_ G F (G.1 77) v77 (0 : Int32) M70) fun M81 =>
  bO (gfR M81 l0 13 58) fun v85 =>
  bO (gfR M81 l0 13 62) fun v89 =>
  bO (gfR M81 l0 13 66) fun v96 =>
  bO (rcv M81 v85 12) fun _ =>
  bO (P_X12_load G F v85 v89 (0 : Int32) (32 : Int32) v96 M81) fun M99 =>
  bO (gfR M99 l0 13 58) fun v103 =>
  bO (gfR M99 l0 13 66) fun v107 =>
  bO (gfR M99 l0 13 66) fun v111 =>
  bO (rcv M99 v103 12) fun _ =>
  bO (P_X12_into G F v103 v107 v111 M99) fun M114 =>
  some M114
def P_X13_init (G : mG) (F : Nat) (l0 : Nat) (M : mM) (sz : Nat) (sl : Nat) : Option (mM × Nat × Nat) :=
  bO (nwA M sz 1 (8192 : Int32)) fun M8 =>
  bO (pfv M8 l0 13 0 (.ref sz)) fun M10 =>
  bO (nwA M10 (sz + 1) 1 (65536 : Int32)) fun M16 =>
  bO (pfv M16 l0 13 2 (.ref (sz + 1))) fun M18 =>
  bO (nwA M18 ((sz + 1) + 1) 0 (8 : Int32)) fun M24 =>
  bO (pfv M24 l0 13 3 (.ref ((sz + 1) + 1))) fun M26 =>
  bO (nwA M26 (((sz + 1) + 1) + 1) 1 (8192 : Int32)) fun M33 =>
  bO (pfv M33 l0 13 4 (.ref (((sz + 1) + 1) + 1))) fun M35 =>
  bO (nwA M35 ((((sz + 1) + 1) + 1) + 1) 0 (1200 : Int32)) fun M42 =>
  bO (pfv M42 l0 13 6 (.ref ((((sz + 1) + 1) + 1) + 1))) fun M44 =>
  bO (nwA M44 (((((sz + 1) + 1) + 1) + 1) + 1) 0 (1200 : Int32)) fun M51 =>
  bO (pfv M51 l0 13 7 (.ref (((((sz + 1) + 1) + 1) + 1) + 1))) fun M53 =>
  bO (nwA M53 ((((((sz + 1) + 1) + 1) + 1) + 1) + 1) 0 (1200 : Int32)) fun M60 =>
  bO (pfv M60 l0 13 8 (.ref ((((((sz + 1) + 1) + 1) + 1) + 1) + 1))) fun M62 =>
  bO (nwA M62 (((((((sz + 1) + 1) + 1) + 1) + 1) + 1) + 1) 0 (1200 : Int32)) fun M69 =>
  bO (pfv M69 l0 13 9 (.ref (((((((sz + 1) + 1) + 1) + 1) + 1) + 1) + 1))) fun M71 =>
  bO (nwA M71 ((((((((sz + 1) + 1) + 1) + 1) + 1) + 1) + 1) + 1) 0 (1200 : Int32)) fun M78 =>
  bO (pfv M78 l0 13 10 (.ref ((((((((sz + 1) + 1) + 1) + 1) + 1) + 1) + 1) + 1))) fun M80 =>
  bO (nwA M80 (((((((((sz + 1) + 1) + 1) + 1) + 1) + 1) + 1) + 1) + 1) 0 (1200 : Int32)) fun M87 =>
  bO (pfv M87 l0 13 11 (.ref (((((((((sz + 1) + 1) + 1) + 1) + 1) + 1) + 1) + 1) + 1))) fun M89 =>
  bO (nwA M89 ((((((((((sz + 1) + 1) + 1) + 1) + 1) + 1) + 1) + 1) + 1) + 1) 0 (1200 : Int32)) fun M96 =>
  bO (pfv M96 l0 13 12 (.ref ((((((((((sz + 1) + 1) + 1) + 1) + 1) + 1) + 1) + 1) + 1) + 1))) fun M98 =>
  bO (nwA M98 (((((((((((sz + 1) + 1) + 1) + 1) + 1) + 1) + 1) + 1) + 1) + 1) + 1) 0 (1200 : Int32)) fun M105 =>
  bO (pfv M105 l0 13 13 (.ref (((((((((((sz + 1) + 1) + 1) + 1) + 1) + 1) + 1) + 1) + 1) + 1) + 1))) fun M107 =>
  bO (nwA M107 ((((((((((((sz + 1) + 1) + 1) + 1) + 1) + 1) + 1) + 1) + 1) + 1) + 1) + 1) 0 (1200 : Int32)) fun M114 =>
  bO (pfv M114 l0 13 14 (.ref ((((((((((((sz + 1) + 1) + 1) + 1) + 1) + 1) + 1) + 1) + 1) + 1) + 1) + 1))) fun M116 =>
  bO (nwA M116 (((((((((((((sz + 1) + 1) + 1) + 1) + 1) + 1) + 1) + 1) + 1) + 1) + 1) + 1) + 1) 1 (16400 : Int32)) fun M123 =>
  bO (pfv M123 l0 13 15 (.ref (((((((((((((sz + 1) + 1) + 1) + 1) + 1) + 1) + 1) + 1) + 1) + 1) + 1) + 1) + 1))) fun M125 =>
  bO (nwA M125 ((((((((((((((sz + 1) + 1) + 1) + 1) + 1) + 1) + 1) + 1) + 1) + 1) + 1) + 1) + 1) + 1) 0 (2 : Int32)) fun M130 =>
  bO (pfv M130 l0 13 16 (.ref ((((((((((((((sz + 1) + 1) + 1) + 1) + 1) + 1) + 1) + 1) + 1) + 1) + 1) + 1) + 1) + 1))) fun M132 =>
  bO (nwA M132 (((((((((((((((sz + 1) + 1) + 1) + 1) + 1) + 1) + 1) + 1) + 1) + 1) + 1) + 1) + 1) + 1) + 1) 1 (8300 : Int32)) fun M139 =>
  bO (pfv M139 l0 13 27 (.ref (((((((((((((((sz + 1) + 1) + 1) + 1) + 1) + 1) + 1) + 1) + 1) + 1) + 1) + 1) + 1) + 1) + 1))) fun M141 =>
  bO (nwA M141 ((((((((((((((((sz + 1) + 1) + 1) + 1) + 1) + 1) + 1) + 1) + 1) + 1) + 1) + 1) + 1) + 1) + 1) + 1) 1 (8200 : Int32)) fun M148 =>
  bO (pfv M148 l0 13 30 (.ref ((((((((((((((((sz + 1) + 1) + 1) + 1) + 1) + 1) + 1) + 1) + 1) + 1) + 1) + 1) + 1) + 1) + 1) + 1))) fun M150 =>
  bO (nwA M150 (((((((((((((((((sz + 1) + 1) + 1) + 1) + 1) + 1) + 1) + 1) + 1) + 1) + 1) + 1) + 1) + 1) + 1) + 1) + 1) 0 (64 : Int32)) fun M156 =>
  bO (pfv M156 l0 13 31 (.ref (((((((((((((((((sz + 1) + 1) + 1) + 1) + 1) + 1) + 1) + 1) + 1) + 1) + 1) + 1) + 1) + 1) + 1) + 1) + 1))) fun M158 =>
  bO (nwA M158 ((((((((((((((((((sz + 1) + 1) + 1) + 1) + 1) + 1) + 1) + 1) + 1) + 1) + 1) + 1) + 1) + 1) + 1) + 1) + 1) + 1) 0 (8 : Int32)) fun M164 =>
  bO (pfv M164 l0 13 32 (.ref ((((((((((((((((((sz + 1) + 1) + 1) + 1) + 1) + 1) + 1) + 1) + 1) + 1) + 1) + 1) + 1) + 1) + 1) + 1) + 1) + 1))) fun M166 =>
  bO (nwA M166 (((((((((((((((((((sz + 1) + 1) + 1) + 1) + 1) + 1) + 1) + 1) + 1) + 1) + 1) + 1) + 1) + 1) + 1) + 1) + 1) + 1) + 1) 2 (80 : Int32)) fun M172 =>
  bO (pfv M172 l0 13 33 (.ref (((((((((((((((((((sz + 1) + 1) + 1) + 1) + 1) + 1) + 1) + 1) + 1) + 1) + 1) + 1) + 1) + 1) + 1) + 1) + 1) + 1) + 1))) fun M174 =>
  bO (nwA M174 ((((((((((((((((((((sz + 1) + 1) + 1) + 1) + 1) + 1) + 1) + 1) + 1) + 1) + 1) + 1) + 1) + 1) + 1) + 1) + 1) + 1) + 1) + 1) 2 (8 : Int32)) fun M180 =>
  bO (pfv M180 l0 13 34 (.ref ((((((((((((((((((((sz + 1) + 1) + 1) + 1) + 1) + 1) + 1) + 1) + 1) + 1) + 1) + 1) + 1) + 1) + 1) + 1) + 1) + 1) + 1) + 1))) fun M182 =>
  bO (nwA M182 (((((((((((((((((((((sz + 1) + 1) + 1) + 1) + 1) + 1) + 1) + 1) + 1) + 1) + 1) + 1) + 1) + 1) + 1) + 1) + 1) + 1) + 1) + 1) + 1) 1 (64 : Int32)) fun M188 =>
  bO (pfv M188 l0 13 35 (.ref (((((((((((((((((((((sz + 1) + 1) + 1) + 1) + 1) + 1) + 1) + 1) + 1) + 1) + 1) + 1) + 1) + 1) + 1) + 1) + 1) + 1) + 1) + 1) + 1))) fun M190 =>
  bO (nwA M190 ((((((((((((((((((((((sz + 1) + 1) + 1) + 1) + 1) + 1) + 1) + 1) + 1) + 1) + 1) + 1) + 1) + 1) + 1) + 1) + 1) + 1) + 1) + 1) + 1) + 1) 1 (33100 : Int32)) fun M196 =>
  bO (pfv M196 l0 13 36 (.ref ((((((((((((((((((((((sz + 1) + 1) + 1) + 1) + 1) + 1) + 1) + 1) + 1) + 1) + 1) + 1) + 1) + 1) + 1) + 1) + 1) + 1) + 1) + 1) + 1) + 1))) fun M198 =>
  bO (nwA M198 (((((((((((((((((((((((sz + 1) + 1) + 1) + 1) + 1) + 1) + 1) + 1) + 1) + 1) + 1) + 1) + 1) + 1) + 1) + 1) + 1) + 1) + 1) + 1) + 1) + 1) + 1) 1 (25000 : Int32)) fun M205 =>
  bO (pfv M205 l0 13 38 (.ref (((((((((((((((((((((((sz + 1) + 1) + 1) + 1) + 1) + 1) + 1) + 1) + 1) + 1) + 1) + 1) + 1) + 1) + 1) + 1) + 1) + 1) + 1) + 1) + 1) + 1) + 1))) fun M207 =>
  bO (nwA M207 ((((((((((((((((((((((((sz + 1) + 1) + 1) + 1) + 1) + 1) + 1) + 1) + 1) + 1) + 1) + 1) + 1) + 1) + 1) + 1) + 1) + 1) + 1) + 1) + 1) + 1) + 1) + 1) 1 (128 : Int32)) fun M214 =>
  bO (pfv M214 l0 13 40 (.ref ((((((((((((((((((((((((sz + 1) + 1) + 1) + 1) + 1) + 1) + 1) + 1) + 1) + 1) + 1) + 1) + 1) + 1) + 1) + 1) + 1) + 1) + 1) + 1) + 1) + 1) + 1) + 1))) fun M216 =>
  bO (nwA M216 (((((((((((((((((((((((((sz + 1) + 1) + 1) + 1) + 1) + 1) + 1) + 1) + 1) + 1) + 1) + 1) + 1) + 1) + 1) + 1) + 1) + 1) + 1) + 1) + 1) + 1) + 1) + 1) + 1) 0 (256 : Int32)) fun M223 =>
  bO (pfv M223 l0 13 41 (.ref (((((((((((((((((((((((((sz + 1) + 1) + 1) + 1) + 1) + 1) + 1) + 1) + 1) + 1) + 1) + 1) + 1) + 1) + 1) + 1) + 1) + 1) + 1) + 1) + 1) + 1) + 1) + 1) + 1))) fun M225 =>
  bO (nwA M225 ((((((((((((((((((((((((((sz + 1) + 1) + 1) + 1) + 1) + 1) + 1) + 1) + 1) + 1) + 1) + 1) + 1) + 1) + 1) + 1) + 1) + 1) + 1) + 1) + 1) + 1) + 1) + 1) + 1) + 1) 0 (256 : Int32)) fun M232 =>
  bO (pfv M232 l0 13 42 (.ref ((((((((((((((((((((((((((sz + 1) + 1) + 1) + 1) + 1) + 1) + 1) + 1) + 1) + 1) + 1) + 1) + 1) + 1) + 1) + 1) + 1) + 1) + 1) + 1) + 1) + 1) + 1) + 1) + 1) + 1))) fun M234 =>
  bO (nwA M234 (((((((((((((((((((((((((((sz + 1) + 1) + 1) + 1) + 1) + 1) + 1) + 1) + 1) + 1) + 1) + 1) + 1) + 1) + 1) + 1) + 1) + 1) + 1) + 1) + 1) + 1) + 1) + 1) + 1) + 1) + 1) 0 (240 : Int32)) fun M241 =>
  bO (pfv M241 l0 13 43 (.ref (((((((((((((((((((((((((((sz + 1) + 1) + 1) + 1) + 1) + 1) + 1) + 1) + 1) + 1) + 1) + 1) + 1) + 1) + 1) + 1) + 1) + 1) + 1) + 1) + 1) + 1) + 1) + 1) + 1) + 1) + 1))) fun M243 =>
  bO (nwA M243 ((((((((((((((((((((((((((((sz + 1) + 1) + 1) + 1) + 1) + 1) + 1) + 1) + 1) + 1) + 1) + 1) + 1) + 1) + 1) + 1) + 1) + 1) + 1) + 1) + 1) + 1) + 1) + 1) + 1) + 1) + 1) + 1) 0 (16 : Int32)) fun M249 =>
  bO (pfv M249 l0 13 45 (.ref ((((((((((((((((((((((((((((sz + 1) + 1) + 1) + 1) + 1) + 1) + 1) + 1) + 1) + 1) + 1) + 1) + 1) + 1) + 1) + 1) + 1) + 1) + 1) + 1) + 1) + 1) + 1) + 1) + 1) + 1) + 1) + 1))) fun M251 =>
  bO (nwA M251 (((((((((((((((((((((((((((((sz + 1) + 1) + 1) + 1) + 1) + 1) + 1) + 1) + 1) + 1) + 1) + 1) + 1) + 1) + 1) + 1) + 1) + 1) + 1) + 1) + 1) + 1) + 1) + 1) + 1) + 1) + 1) + 1) + 1) 0 (16 : Int32)) fun M257 =>
  bO (pfv M257 l0 13 46 (.ref (((((((((((((((((((((((((((((sz + 1) + 1) + 1) + 1) + 1) + 1) + 1) + 1) + 1) + 1) + 1) + 1) + 1) + 1) + 1) + 1) + 1) + 1) + 1) + 1) + 1) + 1) + 1) + 1) + 1) + 1) + 1) + 1) + 1))) fun M259 =>
  bO (nwA M259 ((((((((((((((((((((((((((((((sz + 1) + 1) + 1) + 1) + 1) + 1) + 1) + 1) + 1) + 1) + 1) + 1) + 1) + 1) + 1) + 1) + 1) + 1) + 1) + 1) + 1) + 1) + 1) + 1) + 1) + 1) + 1) + 1) + 1) + 1) 1 (16 : Int32)) fun M265 =>
  bO (pfv M265 l0 13 47 (.ref ((((((((((((((((((((((((((((((sz + 1) + 1) + 1) + 1) + 1) + 1) + 1) + 1) + 1) + 1) + 1) + 1) + 1) + 1) + 1) + 1) + 1) + 1) + 1) + 1) + 1) + 1) + 1) + 1) + 1) + 1) + 1) + 1) + 1) + 1))) fun M267 =>
  bO (nwA M267 (((((((((((((((((((((((((((((((sz + 1) + 1) + 1) + 1) + 1) + 1) + 1) + 1) + 1) + 1) + 1) + 1) + 1) + 1) + 1) + 1) + 1) + 1) + 1) + 1) + 1) + 1) + 1) + 1) + 1) + 1) + 1) + 1) + 1) + 1) + 1) 1 (80 : Int32)) fun M273 =>
  bO (pfv M273 l0 13 48 (.ref (((((((((((((((((((((((((((((((sz + 1) + 1) + 1) + 1) + 1) + 1) + 1) + 1) + 1) + 1) + 1) + 1) + 1) + 1) + 1) + 1) + 1) + 1) + 1) + 1) + 1) + 1) + 1) + 1) + 1) + 1) + 1) + 1) + 1) + 1) + 1))) fun M275 =>
  bO (nwA M275 ((((((((((((((((((((((((((((((((sz + 1) + 1) + 1) + 1) + 1) + 1) + 1) + 1) + 1) + 1) + 1) + 1) + 1) + 1) + 1) + 1) + 1) + 1) + 1) + 1) + 1) + 1) + 1) + 1) + 1) + 1) + 1) + 1) + 1) + 1) + 1) + 1) 1 (8300 : Int32)) fun M282 =>
  bO (pfv M282 l0 13 49 (.ref ((((((((((((((((((((((((((((((((sz + 1) + 1) + 1) + 1) + 1) + 1) + 1) + 1) + 1) + 1) + 1) + 1) + 1) + 1) + 1) + 1) + 1) + 1) + 1) + 1) + 1) + 1) + 1) + 1) + 1) + 1) + 1) + 1) + 1) + 1) + 1) + 1))) fun M284 =>
  bO (nwA M284 (((((((((((((((((((((((((((((((((sz + 1) + 1) + 1) + 1) + 1) + 1) + 1) + 1) + 1) + 1) + 1) + 1) + 1) + 1) + 1) + 1) + 1) + 1) + 1) + 1) + 1) + 1) + 1) + 1) + 1) + 1) + 1) + 1) + 1) + 1) + 1) + 1) + 1) 1 (64 : Int32)) fun M290 =>
  bO (pfv M290 l0 13 51 (.ref (((((((((((((((((((((((((((((((((sz + 1) + 1) + 1) + 1) + 1) + 1) + 1) + 1) + 1) + 1) + 1) + 1) + 1) + 1) + 1) + 1) + 1) + 1) + 1) + 1) + 1) + 1) + 1) + 1) + 1) + 1) + 1) + 1) + 1) + 1) + 1) + 1) + 1))) fun M292 =>
  bO (nwA M292 ((((((((((((((((((((((((((((((((((sz + 1) + 1) + 1) + 1) + 1) + 1) + 1) + 1) + 1) + 1) + 1) + 1) + 1) + 1) + 1) + 1) + 1) + 1) + 1) + 1) + 1) + 1) + 1) + 1) + 1) + 1) + 1) + 1) + 1) + 1) + 1) + 1) + 1) + 1) 1 (16 : Int32)) fun M298 =>
  bO (pfv M298 l0 13 52 (.ref ((((((((((((((((((((((((((((((((((sz + 1) + 1) + 1) + 1) + 1) + 1) + 1) + 1) + 1) + 1) + 1) + 1) + 1) + 1) + 1) + 1) + 1) + 1) + 1) + 1) + 1) + 1) + 1) + 1) + 1) + 1) + 1) + 1) + 1) + 1) + 1) + 1) + 1) + 1))) fun M300 =>
  bO (some (nwO M300 (((((((((((((((((((((((((((((((((((sz + 1) + 1) + 1) + 1) + 1) + 1) + 1) + 1) + 1) + 1) + 1) + 1) + 1) + 1) + 1) + 1) + 1) + 1) + 1) + 1) + 1) + 1) + 1) + 1) + 1) + 1) + 1) + 1) + 1) + 1) + 1) + 1) + 1) + 1) + 1) 12 dfX12)) fun M304 =>
  bA (P_X12_init G F (((((((((((((((((((((((((((((((((((sz + 1) + 1) + 1) + 1) + 1) + 1) + 1) + 1) + 1) + 1) + 1) + 1) + 1) + 1) + 1) + 1) + 1) + 1) + 1) + 1) + 1) + 1) + 1) + 1) + 1) + 1) + 1) + 1) + 1) + 1) + 1) + 1) + 1) + 1) + 1) M304 ((((((((((((((((((((((((((((((((((((sz + 1) + 1) + 1) + 1) + 1) + 1) + 1) + 1) + 1) + 1) + 1) + 1) + 1) + 1) + 1) + 1) + 1) + 1) + 1) + 1) + 1) + 1) + 1) + 1) + 1) + 1) + 1) + 1) + 1) + 1) + 1) + 1) + 1) + 1) + 1) + 1) ((((((((((((((((((((((((((((((((((((sl + ((8192 : Int32)).toNatClampNeg) + ((65536 : Int32)).toNatClampNeg) + ((8 : Int32)).toNatClampNeg) + ((8192 : Int32)).toNatClampNeg) + ((1200 : Int32)).toNatClampNeg) + ((1200 : Int32)).toNatClampNeg) + ((1200 : Int32)).toNatClampNeg) + ((1200 : Int32)).toNatClampNeg) + ((1200 : Int32)).toNatClampNeg) + ((1200 : Int32)).toNatClampNeg) + ((1200 : Int32)).toNatClampNeg) + ((1200 : Int32)).toNatClampNeg) + ((1200 : Int32)).toNatClampNeg) + ((16400 : Int32)).toNatClampNeg) + ((2 : Int32)).toNatClampNeg) + ((8300 : Int32)).toNatClampNeg) + ((8200 : Int32)).toNatClampNeg) + ((64 : Int32)).toNatClampNeg) + ((8 : Int32)).toNatClampNeg) + ((80 : Int32)).toNatClampNeg) + ((8 : Int32)).toNatClampNeg) + ((64 : Int32)).toNatClampNeg) + ((33100 : Int32)).toNatClampNeg) + ((25000 : Int32)).toNatClampNeg) + ((128 : Int32)).toNatClampNeg) + ((256 : Int32)).toNatClampNeg) + ((256 : Int32)).toNatClampNeg) + ((240 : Int32)).toNatClampNeg) + ((16 : Int32)).toNatClampNeg) + ((16 : Int32)).toNatClampNeg) + ((16 : Int32)).toNatClampNeg) + ((80 : Int32)).toNatClampNeg) + ((8300 : Int32)).toNatClampNeg) + ((64 : Int32)).toNatClampNeg) + ((16 : Int32)).toNatClampNeg) + 9)) fun M308 z308 k308 =>
  bO (pfv M308 l0 13 57 (.ref (((((((((((((((((((((((((((((((((((sz + 1) + 1) + 1) + 1) + 1) + 1) + 1) + 1) + 1) + 1) + 1) + 1) + 1) + 1) + 1) + 1) + 1) + 1) + 1) + 1) + 1) + 1) + 1) + 1) + 1) + 1) + 1) + 1) + 1) + 1) + 1) + 1) + 1) + 1) + 1))) fun M311 =>
  bO (some (nwO M311 z308 12 dfX12)) fun M315 =>
  bA (P_X12_init G F z308 M315 (z308 + 1) (k308 + 9)) fun M319 z319 k319 =>
  bO (pfv M319 l0 13 58 (.ref z308)) fun M322 =>
  bO (some (nwO M322 z319 12 dfX12)) fun M326 =>
  bA (P_X12_init G F z319 M326 (z319 + 1) (k319 + 9)) fun M330 z330 k330 =>
  bO (pfv M330 l0 13 59 (.ref z319)) fun M333 =>
  bO (nwA M333 z330 0 (34 : Int32)) fun M339 =>
  bO (pfv M339 l0 13 60 (.ref z330)) fun M341 =>
  bO (nwA M341 (z330 + 1) 0 (34 : Int32)) fun M347 =>
  bO (pfv M347 l0 13 61 (.ref (z330 + 1))) fun M349 =>
  bO (nwA M349 ((z330 + 1) + 1) 1 (128 : Int32)) fun M356 =>
  bO (pfv M356 l0 13 62 (.ref ((z330 + 1) + 1))) fun M358 =>
  bO (nwA M358 (((z330 + 1) + 1) + 1) 1 (32 : Int32)) fun M364 =>
  bO (pfv M364 l0 13 63 (.ref (((z330 + 1) + 1) + 1))) fun M366 =>
  bO (nwA M366 ((((z330 + 1) + 1) + 1) + 1) 1 (32 : Int32)) fun M372 =>
  bO (pfv M372 l0 13 64 (.ref ((((z330 + 1) + 1) + 1) + 1))) fun M374 =>
  bO (nwA M374 (((((z330 + 1) + 1) + 1) + 1) + 1) 1 (64 : Int32)) fun M380 =>
  bO (pfv M380 l0 13 65 (.ref (((((z330 + 1) + 1) + 1) + 1) + 1))) fun M382 =>
  bO (nwA M382 ((((((z330 + 1) + 1) + 1) + 1) + 1) + 1) 0 (34 : Int32)) fun M388 =>
  bO (pfv M388 l0 13 66 (.ref ((((((z330 + 1) + 1) + 1) + 1) + 1) + 1))) fun M390 =>
  bO (nwA M390 (((((((z330 + 1) + 1) + 1) + 1) + 1) + 1) + 1) 1 (32 : Int32)) fun M396 =>
  bO (pfv M396 l0 13 67 (.ref (((((((z330 + 1) + 1) + 1) + 1) + 1) + 1) + 1))) fun M398 =>
  bO (nwA M398 ((((((((z330 + 1) + 1) + 1) + 1) + 1) + 1) + 1) + 1) 0 (34 : Int32)) fun M404 =>
  bO (pfv M404 l0 13 68 (.ref ((((((((z330 + 1) + 1) + 1) + 1) + 1) + 1) + 1) + 1))) fun M406 =>
  bO (nwA M406 (((((((((z330 + 1) + 1) + 1) + 1) + 1) + 1) + 1) + 1) + 1) 0 (34 : Int32)) fun M412 =>
  bO (pfv M412 l0 13 69 (.ref (((((((((z330 + 1) + 1) + 1) + 1) + 1) + 1) + 1) + 1) + 1))) fun M414 =>
  bO (nwA M414 ((((((((((z330 + 1) + 1) + 1) + 1) + 1) + 1) + 1) + 1) + 1) + 1) 0 (34 : Int32)) fun M420 =>
  bO (pfv M420 l0 13 70 (.ref ((((((((((z330 + 1) + 1) + 1) + 1) + 1) + 1) + 1) + 1) + 1) + 1))) fun M422 =>
  bO (nwA M422 (((((((((((z330 + 1) + 1) + 1) + 1) + 1) + 1) + 1) + 1) + 1) + 1) + 1) 0 (34 : Int32)) fun M428 =>
  bO (pfv M428 l0 13 71 (.ref (((((((((((z330 + 1) + 1) + 1) + 1) + 1) + 1) + 1) + 1) + 1) + 1) + 1))) fun M430 =>
  bO (nwA M430 ((((((((((((z330 + 1) + 1) + 1) + 1) + 1) + 1) + 1) + 1) + 1) + 1) + 1) + 1) 0 (34 : Int32)) fun M436 =>
  bO (pfv M436 l0 13 72 (.ref ((((((((((((z330 + 1) + 1) + 1) + 1) + 1) + 1) + 1) + 1) + 1) + 1) + 1) + 1))) fun M438 =>
  bO (nwA M438 (((((((((((((z330 + 1) + 1) + 1) + 1) + 1) + 1) + 1) + 1) + 1) + 1) + 1) + 1) + 1) 0 (34 : Int32)) fun M444 =>
  bO (pfv M444 l0 13 74 (.ref (((((((((((((z330 + 1) + 1) + 1) + 1) + 1) + 1) + 1) + 1) + 1) + 1) + 1) + 1) + 1))) fun M446 =>
  bO (nwA M446 ((((((((((((((z330 + 1) + 1) + 1) + 1) + 1) + 1) + 1) + 1) + 1) + 1) + 1) + 1) + 1) + 1) 0 (34 : Int32)) fun M452 =>
  bO (pfv M452 l0 13 75 (.ref ((((((((((((((z330 + 1) + 1) + 1) + 1) + 1) + 1) + 1) + 1) + 1) + 1) + 1) + 1) + 1) + 1))) fun M454 =>
  bO (nwA M454 (((((((((((((((z330 + 1) + 1) + 1) + 1) + 1) + 1) + 1) + 1) + 1) + 1) + 1) + 1) + 1) + 1) + 1) 0 (34 : Int32)) fun M460 =>
  bO (pfv M460 l0 13 76 (.ref (((((((((((((((z330 + 1) + 1) + 1) + 1) + 1) + 1) + 1) + 1) + 1) + 1) + 1) + 1) + 1) + 1) + 1))) fun M462 =>
  bO (nwA M462 ((((((((((((((((z330 + 1) + 1) + 1) + 1) + 1) + 1) + 1) + 1) + 1) + 1) + 1) + 1) + 1) + 1) + 1) + 1) 0 (34 : Int32)) fun M468 =>
  bO (pfv M468 l0 13 77 (.ref ((((((((((((((((z330 + 1) + 1) + 1) + 1) + 1) + 1) + 1) + 1) + 1) + 1) + 1) + 1) + 1) + 1) + 1) + 1))) fun M470 =>
  bO (nwA M470 (((((((((((((((((z330 + 1) + 1) + 1) + 1) + 1) + 1) + 1) + 1) + 1) + 1) + 1) + 1) + 1) + 1) + 1) + 1) + 1) 0 (34 : Int32)) fun M476 =>
  bO (pfv M476 l0 13 78 (.ref (((((((((((((((((z330 + 1) + 1) + 1) + 1) + 1) + 1) + 1) + 1) + 1) + 1) + 1) + 1) + 1) + 1) + 1) + 1) + 1))) fun M478 =>
  bO (nwA M478 ((((((((((((((((((z330 + 1) + 1) + 1) + 1) + 1) + 1) + 1) + 1) + 1) + 1) + 1) + 1) + 1) + 1) + 1) + 1) + 1) + 1) 1 (64 : Int32)) fun M484 =>
  bO (pfv M484 l0 13 79 (.ref ((((((((((((((((((z330 + 1) + 1) + 1) + 1) + 1) + 1) + 1) + 1) + 1) + 1) + 1) + 1) + 1) + 1) + 1) + 1) + 1) + 1))) fun M486 =>
  bO (nwA M486 (((((((((((((((((((z330 + 1) + 1) + 1) + 1) + 1) + 1) + 1) + 1) + 1) + 1) + 1) + 1) + 1) + 1) + 1) + 1) + 1) + 1) + 1) 1 (64 : Int32)) fun M492 =>
  bO (pfv M492 l0 13 80 (.ref (((((((((((((((((((z330 + 1) + 1) + 1) + 1) + 1) + 1) + 1) + 1) + 1) + 1) + 1) + 1) + 1) + 1) + 1) + 1) + 1) + 1) + 1))) fun M494 =>
  bO (nwA M494 ((((((((((((((((((((z330 + 1) + 1) + 1) + 1) + 1) + 1) + 1) + 1) + 1) + 1) + 1) + 1) + 1) + 1) + 1) + 1) + 1) + 1) + 1) + 1) 1 (128 : Int32)) fun M501 =>
  bO (pfv M501 l0 13 81 (.ref ((((((((((((((((((((z330 + 1) + 1) + 1) + 1) + 1) + 1) + 1) + 1) + 1) + 1) + 1) + 1) + 1) + 1) + 1) + 1) + 1) + 1) + 1) + 1))) fun M503 =>
  bO (nwA M503 (((((((((((((((((((((z330 + 1) + 1) + 1) + 1) + 1) + 1) + 1) + 1) + 1) + 1) + 1) + 1) + 1) + 1) + 1) + 1) + 1) + 1) + 1) + 1) + 1) 1 (128 : Int32)) fun M510 =>
  bO (pfv M510 l0 13 82 (.ref (((((((((((((((((((((z330 + 1) + 1) + 1) + 1) + 1) + 1) + 1) + 1) + 1) + 1) + 1) + 1) + 1) + 1) + 1) + 1) + 1) + 1) + 1) + 1) + 1))) fun M512 =>
  bO (nwA M512 ((((((((((((((((((((((z330 + 1) + 1) + 1) + 1) + 1) + 1) + 1) + 1) + 1) + 1) + 1) + 1) + 1) + 1) + 1) + 1) + 1) + 1) + 1) + 1) + 1) + 1) 3 (16 : Int32)) fun M518 =>
  bO (pfv M518 l0 13 83 (.ref ((((((((((((((((((((((z330 + 1) + 1) + 1) + 1) + 1) + 1) + 1) + 1) + 1) + 1) + 1) + 1) + 1) + 1) + 1) + 1) + 1) + 1) + 1) + 1) + 1) + 1))) fun M520 =>
  bO (nwA M520 (((((((((((((((((((((((z330 + 1) + 1) + 1) + 1) + 1) + 1) + 1) + 1) + 1) + 1) + 1) + 1) + 1) + 1) + 1) + 1) + 1) + 1) + 1) + 1) + 1) + 1) + 1) 0 (16 : Int32)) fun M526 =>
  bO (pfv M526 l0 13 84 (.ref (((((((((((((((((((((((z330 + 1) + 1) + 1) + 1) + 1) + 1) + 1) + 1) + 1) + 1) + 1) + 1) + 1) + 1) + 1) + 1) + 1) + 1) + 1) + 1) + 1) + 1) + 1))) fun M528 =>
  bO (nwA M528 ((((((((((((((((((((((((z330 + 1) + 1) + 1) + 1) + 1) + 1) + 1) + 1) + 1) + 1) + 1) + 1) + 1) + 1) + 1) + 1) + 1) + 1) + 1) + 1) + 1) + 1) + 1) + 1) 1 (2048 : Int32)) fun M535 =>
  bO (pfv M535 l0 13 85 (.ref ((((((((((((((((((((((((z330 + 1) + 1) + 1) + 1) + 1) + 1) + 1) + 1) + 1) + 1) + 1) + 1) + 1) + 1) + 1) + 1) + 1) + 1) + 1) + 1) + 1) + 1) + 1) + 1))) fun M537 =>
  bO (nwA M537 (((((((((((((((((((((((((z330 + 1) + 1) + 1) + 1) + 1) + 1) + 1) + 1) + 1) + 1) + 1) + 1) + 1) + 1) + 1) + 1) + 1) + 1) + 1) + 1) + 1) + 1) + 1) + 1) + 1) 0 (16 : Int32)) fun M543 =>
  bO (pfv M543 l0 13 86 (.ref (((((((((((((((((((((((((z330 + 1) + 1) + 1) + 1) + 1) + 1) + 1) + 1) + 1) + 1) + 1) + 1) + 1) + 1) + 1) + 1) + 1) + 1) + 1) + 1) + 1) + 1) + 1) + 1) + 1))) fun M545 =>
  bO (nwA M545 ((((((((((((((((((((((((((z330 + 1) + 1) + 1) + 1) + 1) + 1) + 1) + 1) + 1) + 1) + 1) + 1) + 1) + 1) + 1) + 1) + 1) + 1) + 1) + 1) + 1) + 1) + 1) + 1) + 1) + 1) 1 (2048 : Int32)) fun M552 =>
  bO (pfv M552 l0 13 87 (.ref ((((((((((((((((((((((((((z330 + 1) + 1) + 1) + 1) + 1) + 1) + 1) + 1) + 1) + 1) + 1) + 1) + 1) + 1) + 1) + 1) + 1) + 1) + 1) + 1) + 1) + 1) + 1) + 1) + 1) + 1))) fun M554 =>
  bO (nwA M554 (((((((((((((((((((((((((((z330 + 1) + 1) + 1) + 1) + 1) + 1) + 1) + 1) + 1) + 1) + 1) + 1) + 1) + 1) + 1) + 1) + 1) + 1) + 1) + 1) + 1) + 1) + 1) + 1) + 1) + 1) + 1) 0 (16 : Int32)) fun M560 =>
  bO (pfv M560 l0 13 88 (.ref (((((((((((((((((((((((((((z330 + 1) + 1) + 1) + 1) + 1) + 1) + 1) + 1) + 1) + 1) + 1) + 1) + 1) + 1) + 1) + 1) + 1) + 1) + 1) + 1) + 1) + 1) + 1) + 1) + 1) + 1) + 1))) fun M562 =>
  bO (nwA M562 ((((((((((((((((((((((((((((z330 + 1) + 1) + 1) + 1) + 1) + 1) + 1) + 1) + 1) + 1) + 1) + 1) + 1) + 1) + 1) + 1) + 1) + 1) + 1) + 1) + 1) + 1) + 1) + 1) + 1) + 1) + 1) + 1) 1 (2048 : Int32)) fun M569 =>
  bO (pfv M569 l0 13 89 (.ref ((((((((((((((((((((((((((((z330 + 1) + 1) + 1) + 1) + 1) + 1) + 1) + 1) + 1) + 1) + 1) + 1) + 1) + 1) + 1) + 1) + 1) + 1) + 1) + 1) + 1) + 1) + 1) + 1) + 1) + 1) + 1) + 1))) fun M571 =>
  bO (nwA M571 (((((((((((((((((((((((((((((z330 + 1) + 1) + 1) + 1) + 1) + 1) + 1) + 1) + 1) + 1) + 1) + 1) + 1) + 1) + 1) + 1) + 1) + 1) + 1) + 1) + 1) + 1) + 1) + 1) + 1) + 1) + 1) + 1) + 1) 0 (16 : Int32)) fun M577 =>
  bO (pfv M577 l0 13 90 (.ref (((((((((((((((((((((((((((((z330 + 1) + 1) + 1) + 1) + 1) + 1) + 1) + 1) + 1) + 1) + 1) + 1) + 1) + 1) + 1) + 1) + 1) + 1) + 1) + 1) + 1) + 1) + 1) + 1) + 1) + 1) + 1) + 1) + 1))) fun M579 =>
  bO (nwA M579 ((((((((((((((((((((((((((((((z330 + 1) + 1) + 1) + 1) + 1) + 1) + 1) + 1) + 1) + 1) + 1) + 1) + 1) + 1) + 1) + 1) + 1) + 1) + 1) + 1) + 1) + 1) + 1) + 1) + 1) + 1) + 1) + 1) + 1) + 1) 0 (16 : Int32)) fun M585 =>
  bO (pfv M585 l0 13 91 (.ref ((((((((((((((((((((((((((((((z330 + 1) + 1) + 1) + 1) + 1) + 1) + 1) + 1) + 1) + 1) + 1) + 1) + 1) + 1) + 1) + 1) + 1) + 1) + 1) + 1) + 1) + 1) + 1) + 1) + 1) + 1) + 1) + 1) + 1) + 1))) fun M587 =>
  bO (nwA M587 (((((((((((((((((((((((((((((((z330 + 1) + 1) + 1) + 1) + 1) + 1) + 1) + 1) + 1) + 1) + 1) + 1) + 1) + 1) + 1) + 1) + 1) + 1) + 1) + 1) + 1) + 1) + 1) + 1) + 1) + 1) + 1) + 1) + 1) + 1) + 1) 1 (131200 : Int32)) fun M593 =>
  bO (pfv M593 l0 13 92 (.ref (((((((((((((((((((((((((((((((z330 + 1) + 1) + 1) + 1) + 1) + 1) + 1) + 1) + 1) + 1) + 1) + 1) + 1) + 1) + 1) + 1) + 1) + 1) + 1) + 1) + 1) + 1) + 1) + 1) + 1) + 1) + 1) + 1) + 1) + 1) + 1))) fun M595 =>
  bO (nwA M595 ((((((((((((((((((((((((((((((((z330 + 1) + 1) + 1) + 1) + 1) + 1) + 1) + 1) + 1) + 1) + 1) + 1) + 1) + 1) + 1) + 1) + 1) + 1) + 1) + 1) + 1) + 1) + 1) + 1) + 1) + 1) + 1) + 1) + 1) + 1) + 1) + 1) 0 (16 : Int32)) fun M601 =>
  bO (pfv M601 l0 13 93 (.ref ((((((((((((((((((((((((((((((((z330 + 1) + 1) + 1) + 1) + 1) + 1) + 1) + 1) + 1) + 1) + 1) + 1) + 1) + 1) + 1) + 1) + 1) + 1) + 1) + 1) + 1) + 1) + 1) + 1) + 1) + 1) + 1) + 1) + 1) + 1) + 1) + 1))) fun M603 =>
  bO (nwA M603 (((((((((((((((((((((((((((((((((z330 + 1) + 1) + 1) + 1) + 1) + 1) + 1) + 1) + 1) + 1) + 1) + 1) + 1) + 1) + 1) + 1) + 1) + 1) + 1) + 1) + 1) + 1) + 1) + 1) + 1) + 1) + 1) + 1) + 1) + 1) + 1) + 1) + 1) 1 (131200 : Int32)) fun M609 =>
  bO (pfv M609 l0 13 94 (.ref (((((((((((((((((((((((((((((((((z330 + 1) + 1) + 1) + 1) + 1) + 1) + 1) + 1) + 1) + 1) + 1) + 1) + 1) + 1) + 1) + 1) + 1) + 1) + 1) + 1) + 1) + 1) + 1) + 1) + 1) + 1) + 1) + 1) + 1) + 1) + 1) + 1) + 1))) fun M611 =>
  bO (nwA M611 ((((((((((((((((((((((((((((((((((z330 + 1) + 1) + 1) + 1) + 1) + 1) + 1) + 1) + 1) + 1) + 1) + 1) + 1) + 1) + 1) + 1) + 1) + 1) + 1) + 1) + 1) + 1) + 1) + 1) + 1) + 1) + 1) + 1) + 1) + 1) + 1) + 1) + 1) + 1) 0 (16 : Int32)) fun M617 =>
  bO (pfv M617 l0 13 95 (.ref ((((((((((((((((((((((((((((((((((z330 + 1) + 1) + 1) + 1) + 1) + 1) + 1) + 1) + 1) + 1) + 1) + 1) + 1) + 1) + 1) + 1) + 1) + 1) + 1) + 1) + 1) + 1) + 1) + 1) + 1) + 1) + 1) + 1) + 1) + 1) + 1) + 1) + 1) + 1))) fun M619 =>
  bO (nwA M619 (((((((((((((((((((((((((((((((((((z330 + 1) + 1) + 1) + 1) + 1) + 1) + 1) + 1) + 1) + 1) + 1) + 1) + 1) + 1) + 1) + 1) + 1) + 1) + 1) + 1) + 1) + 1) + 1) + 1) + 1) + 1) + 1) + 1) + 1) + 1) + 1) + 1) + 1) + 1) + 1) 1 (8200 : Int32)) fun M626 =>
  bO (pfv M626 l0 13 96 (.ref (((((((((((((((((((((((((((((((((((z330 + 1) + 1) + 1) + 1) + 1) + 1) + 1) + 1) + 1) + 1) + 1) + 1) + 1) + 1) + 1) + 1) + 1) + 1) + 1) + 1) + 1) + 1) + 1) + 1) + 1) + 1) + 1) + 1) + 1) + 1) + 1) + 1) + 1) + 1) + 1))) fun M628 =>
  bO (nwA M628 ((((((((((((((((((((((((((((((((((((z330 + 1) + 1) + 1) + 1) + 1) + 1) + 1) + 1) + 1) + 1) + 1) + 1) + 1) + 1) + 1) + 1) + 1) + 1) + 1) + 1) + 1) + 1) + 1) + 1) + 1) + 1) + 1) + 1) + 1) + 1) + 1) + 1) + 1) + 1) + 1) + 1) 1 (8200 : Int32)) fun M635 =>
  bO (pfv M635 l0 13 97 (.ref ((((((((((((((((((((((((((((((((((((z330 + 1) + 1) + 1) + 1) + 1) + 1) + 1) + 1) + 1) + 1) + 1) + 1) + 1) + 1) + 1) + 1) + 1) + 1) + 1) + 1) + 1) + 1) + 1) + 1) + 1) + 1) + 1) + 1) + 1) + 1) + 1) + 1) + 1) + 1) + 1) + 1))) fun M637 =>
  bO (nwA M637 (((((((((((((((((((((((((((((((((((((z330 + 1) + 1) + 1) + 1) + 1) + 1) + 1) + 1) + 1) + 1) + 1) + 1) + 1) + 1) + 1) + 1) + 1) + 1) + 1) + 1) + 1) + 1) + 1) + 1) + 1) + 1) + 1) + 1) + 1) + 1) + 1) + 1) + 1) + 1) + 1) + 1) + 1) 1 (8200 : Int32)) fun M644 =>
  bO (pfv M644 l0 13 98 (.ref (((((((((((((((((((((((((((((((((((((z330 + 1) + 1) + 1) + 1) + 1) + 1) + 1) + 1) + 1) + 1) + 1) + 1) + 1) + 1) + 1) + 1) + 1) + 1) + 1) + 1) + 1) + 1) + 1) + 1) + 1) + 1) + 1) + 1) + 1) + 1) + 1) + 1) + 1) + 1) + 1) + 1) + 1))) fun M646 =>
  bO (nwA M646 ((((((((((((((((((((((((((((((((((((((z330 + 1) + 1) + 1) + 1) + 1) + 1) + 1) + 1) + 1) + 1) + 1) + 1) + 1) + 1) + 1) + 1) + 1) + 1) + 1) + 1) + 1) + 1) + 1) + 1) + 1) + 1) + 1) + 1) + 1) + 1) + 1) + 1) + 1) + 1) + 1) + 1) + 1) + 1) 1 (64 : Int32)) fun M652 =>
  bO (pfv M652 l0 13 107 (.ref ((((((((((((((((((((((((((((((((((((((z330 + 1) + 1) + 1) + 1) + 1) + 1) + 1) + 1) + 1) + 1) + 1) + 1) + 1) + 1) + 1) + 1) + 1) + 1) + 1) + 1) + 1) + 1) + 1) + 1) + 1) + 1) + 1) + 1) + 1) + 1) + 1) + 1) + 1) + 1) + 1) + 1) + 1) + 1))) fun M654 =>
  bO (nwA M654 (((((((((((((((((((((((((((((((((((((((z330 + 1) + 1) + 1) + 1) + 1) + 1) + 1) + 1) + 1) + 1) + 1) + 1) + 1) + 1) + 1) + 1) + 1) + 1) + 1) + 1) + 1) + 1) + 1) + 1) + 1) + 1) + 1) + 1) + 1) + 1) + 1) + 1) + 1) + 1) + 1) + 1) + 1) + 1) + 1) 1 (8200 : Int32)) fun M661 =>
  bO (pfv M661 l0 13 108 (.ref (((((((((((((((((((((((((((((((((((((((z330 + 1) + 1) + 1) + 1) + 1) + 1) + 1) + 1) + 1) + 1) + 1) + 1) + 1) + 1) + 1) + 1) + 1) + 1) + 1) + 1) + 1) + 1) + 1) + 1) + 1) + 1) + 1) + 1) + 1) + 1) + 1) + 1) + 1) + 1) + 1) + 1) + 1) + 1) + 1))) fun M663 =>
  bO (nwA M663 ((((((((((((((((((((((((((((((((((((((((z330 + 1) + 1) + 1) + 1) + 1) + 1) + 1) + 1) + 1) + 1) + 1) + 1) + 1) + 1) + 1) + 1) + 1) + 1) + 1) + 1) + 1) + 1) + 1) + 1) + 1) + 1) + 1) + 1) + 1) + 1) + 1) + 1) + 1) + 1) + 1) + 1) + 1) + 1) + 1) + 1) 1 (8200 : Int32)) fun M670 =>
  bO (pfv M670 l0 13 109 (.ref ((((((((((((((((((((((((((((((((((((((((z330 + 1) + 1) + 1) + 1) + 1) + 1) + 1) + 1) + 1) + 1) + 1) + 1) + 1) + 1) + 1) + 1) + 1) + 1) + 1) + 1) + 1) + 1) + 1) + 1) + 1) + 1) + 1) + 1) + 1) + 1) + 1) + 1) + 1) + 1) + 1) + 1) + 1) + 1) + 1) + 1))) fun M672 =>
  bO (nwA M672 (((((((((((((((((((((((((((((((((((((((((z330 + 1) + 1) + 1) + 1) + 1) + 1) + 1) + 1) + 1) + 1) + 1) + 1) + 1) + 1) + 1) + 1) + 1) + 1) + 1) + 1) + 1) + 1) + 1) + 1) + 1) + 1) + 1) + 1) + 1) + 1) + 1) + 1) + 1) + 1) + 1) + 1) + 1) + 1) + 1) + 1) + 1) 1 (8200 : Int32)) fun M679 =>
  bO (pfv M679 l0 13 112 (.ref (((((((((((((((((((((((((((((((((((((((((z330 + 1) + 1) + 1) + 1) + 1) + 1) + 1) + 1) + 1) + 1) + 1) + 1) + 1) + 1) + 1) + 1) + 1) + 1) + 1) + 1) + 1) + 1) + 1) + 1) + 1) + 1) + 1) + 1) + 1) + 1) + 1) + 1) + 1) + 1) + 1) + 1) + 1) + 1) + 1) + 1) + 1))) fun M681 =>
  bO (nwA M681 ((((((((((((((((((((((((((((((((((((((((((z330 + 1) + 1) + 1) + 1) + 1) + 1) + 1) + 1) + 1) + 1) + 1) + 1) + 1) + 1) + 1) + 1) + 1) + 1) + 1) + 1) + 1) + 1) + 1) + 1) + 1) + 1) + 1) + 1) + 1) + 1) + 1) + 1) + 1) + 1) + 1) + 1) + 1) + 1) + 1) + 1) + 1) + 1) 1 (32 : Int32)) fun M687 =>
  bO (pfv M687 l0 13 114 (.ref ((((((((((((((((((((((((((((((((((((((((((z330 + 1) + 1) + 1) + 1) + 1) + 1) + 1) + 1) + 1) + 1) + 1) + 1) + 1) + 1) + 1) + 1) + 1) + 1) + 1) + 1) + 1) + 1) + 1) + 1) + 1) + 1) + 1) + 1) + 1) + 1) + 1) + 1) + 1) + 1) + 1) + 1) + 1) + 1) + 1) + 1) + 1) + 1))) fun M689 =>
  bO (nwA M689 (((((((((((((((((((((((((((((((((((((((((((z330 + 1) + 1) + 1) + 1) + 1) + 1) + 1) + 1) + 1) + 1) + 1) + 1) + 1) + 1) + 1) + 1) + 1) + 1) + 1) + 1) + 1) + 1) + 1) + 1) + 1) + 1) + 1) + 1) + 1) + 1) + 1) + 1) + 1) + 1) + 1) + 1) + 1) + 1) + 1) + 1) + 1) + 1) + 1) 1 (64 : Int32)) fun M695 =>
  bO (pfv M695 l0 13 115 (.ref (((((((((((((((((((((((((((((((((((((((((((z330 + 1) + 1) + 1) + 1) + 1) + 1) + 1) + 1) + 1) + 1) + 1) + 1) + 1) + 1) + 1) + 1) + 1) + 1) + 1) + 1) + 1) + 1) + 1) + 1) + 1) + 1) + 1) + 1) + 1) + 1) + 1) + 1) + 1) + 1) + 1) + 1) + 1) + 1) + 1) + 1) + 1) + 1) + 1))) fun M697 =>
  bO (nwA M697 ((((((((((((((((((((((((((((((((((((((((((((z330 + 1) + 1) + 1) + 1) + 1) + 1) + 1) + 1) + 1) + 1) + 1) + 1) + 1) + 1) + 1) + 1) + 1) + 1) + 1) + 1) + 1) + 1) + 1) + 1) + 1) + 1) + 1) + 1) + 1) + 1) + 1) + 1) + 1) + 1) + 1) + 1) + 1) + 1) + 1) + 1) + 1) + 1) + 1) + 1) 0 (34 : Int32)) fun M703 =>
  bO (pfv M703 l0 13 116 (.ref ((((((((((((((((((((((((((((((((((((((((((((z330 + 1) + 1) + 1) + 1) + 1) + 1) + 1) + 1) + 1) + 1) + 1) + 1) + 1) + 1) + 1) + 1) + 1) + 1) + 1) + 1) + 1) + 1) + 1) + 1) + 1) + 1) + 1) + 1) + 1) + 1) + 1) + 1) + 1) + 1) + 1) + 1) + 1) + 1) + 1) + 1) + 1) + 1) + 1) + 1))) fun M705 =>
  bO (nwA M705 (((((((((((((((((((((((((((((((((((((((((((((z330 + 1) + 1) + 1) + 1) + 1) + 1) + 1) + 1) + 1) + 1) + 1) + 1) + 1) + 1) + 1) + 1) + 1) + 1) + 1) + 1) + 1) + 1) + 1) + 1) + 1) + 1) + 1) + 1) + 1) + 1) + 1) + 1) + 1) + 1) + 1) + 1) + 1) + 1) + 1) + 1) + 1) + 1) + 1) + 1) + 1) 0 (34 : Int32)) fun M711 =>
  bO (pfv M711 l0 13 117 (.ref (((((((((((((((((((((((((((((((((((((((((((((z330 + 1) + 1) + 1) + 1) + 1) + 1) + 1) + 1) + 1) + 1) + 1) + 1) + 1) + 1) + 1) + 1) + 1) + 1) + 1) + 1) + 1) + 1) + 1) + 1) + 1) + 1) + 1) + 1) + 1) + 1) + 1) + 1) + 1) + 1) + 1) + 1) + 1) + 1) + 1) + 1) + 1) + 1) + 1) + 1) + 1))) fun M713 =>
  bO (nwA M713 ((((((((((((((((((((((((((((((((((((((((((((((z330 + 1) + 1) + 1) + 1) + 1) + 1) + 1) + 1) + 1) + 1) + 1) + 1) + 1) + 1) + 1) + 1) + 1) + 1) + 1) + 1) + 1) + 1) + 1) + 1) + 1) + 1) + 1) + 1) + 1) + 1) + 1) + 1) + 1) + 1) + 1) + 1) + 1) + 1) + 1) + 1) + 1) + 1) + 1) + 1) + 1) + 1) 0 (34 : Int32)) fun M719 =>
  bO (pfv M719 l0 13 118 (.ref ((((((((((((((((((((((((((((((((((((((((((((((z330 + 1) + 1) + 1) + 1) + 1) + 1) + 1) + 1) + 1) + 1) + 1) + 1) + 1) + 1) + 1) + 1) + 1) + 1) + 1) + 1) + 1) + 1) + 1) + 1) + 1) + 1) + 1) + 1) + 1) + 1) + 1) + 1) + 1) + 1) + 1) + 1) + 1) + 1) + 1) + 1) + 1) + 1) + 1) + 1) + 1) + 1))) fun M721 =>
  bO (nwA M721 (((((((((((((((((((((((((((((((((((((((((((((((z330 + 1) + 1) + 1) + 1) + 1) + 1) + 1) + 1) + 1) + 1) + 1) + 1) + 1) + 1) + 1) + 1) + 1) + 1) + 1) + 1) + 1) + 1) + 1) + 1) + 1) + 1) + 1) + 1) + 1) + 1) + 1) + 1) + 1) + 1) + 1) + 1) + 1) + 1) + 1) + 1) + 1) + 1) + 1) + 1) + 1) + 1) + 1) 1 (8300 : Int32)) fun M728 =>
  bO (pfv M728 l0 13 119 (.ref (((((((((((((((((((((((((((((((((((((((((((((((z330 + 1) + 1) + 1) + 1) + 1) + 1) + 1) + 1) + 1) + 1) + 1) + 1) + 1) + 1) + 1) + 1) + 1) + 1) + 1) + 1) + 1) + 1) + 1) + 1) + 1) + 1) + 1) + 1) + 1) + 1) + 1) + 1) + 1) + 1) + 1) + 1) + 1) + 1) + 1) + 1) + 1) + 1) + 1) + 1) + 1) + 1) + 1))) fun M730 =>
  bO (nwA M730 ((((((((((((((((((((((((((((((((((((((((((((((((z330 + 1) + 1) + 1) + 1) + 1) + 1) + 1) + 1) + 1) + 1) + 1) + 1) + 1) + 1) + 1) + 1) + 1) + 1) + 1) + 1) + 1) + 1) + 1) + 1) + 1) + 1) + 1) + 1) + 1) + 1) + 1) + 1) + 1) + 1) + 1) + 1) + 1) + 1) + 1) + 1) + 1) + 1) + 1) + 1) + 1) + 1) + 1) + 1) 1 (60000 : Int32)) fun M737 =>
  bO (pfv M737 l0 13 121 (.ref ((((((((((((((((((((((((((((((((((((((((((((((((z330 + 1) + 1) + 1) + 1) + 1) + 1) + 1) + 1) + 1) + 1) + 1) + 1) + 1) + 1) + 1) + 1) + 1) + 1) + 1) + 1) + 1) + 1) + 1) + 1) + 1) + 1) + 1) + 1) + 1) + 1) + 1) + 1) + 1) + 1) + 1) + 1) + 1) + 1) + 1) + 1) + 1) + 1) + 1) + 1) + 1) + 1) + 1) + 1))) fun M739 =>
  bO (nwA M739 (((((((((((((((((((((((((((((((((((((((((((((((((z330 + 1) + 1) + 1) + 1) + 1) + 1) + 1) + 1) + 1) + 1) + 1) + 1) + 1) + 1) + 1) + 1) + 1) + 1) + 1) + 1) + 1) + 1) + 1) + 1) + 1) + 1) + 1) + 1) + 1) + 1) + 1) + 1) + 1) + 1) + 1) + 1) + 1) + 1) + 1) + 1) + 1) + 1) + 1) + 1) + 1) + 1) + 1) + 1) + 1) 0 (6 : Int32)) fun M745 =>
  bO (pfv M745 l0 13 123 (.ref (((((((((((((((((((((((((((((((((((((((((((((((((z330 + 1) + 1) + 1) + 1) + 1) + 1) + 1) + 1) + 1) + 1) + 1) + 1) + 1) + 1) + 1) + 1) + 1) + 1) + 1) + 1) + 1) + 1) + 1) + 1) + 1) + 1) + 1) + 1) + 1) + 1) + 1) + 1) + 1) + 1) + 1) + 1) + 1) + 1) + 1) + 1) + 1) + 1) + 1) + 1) + 1) + 1) + 1) + 1) + 1))) fun M747 =>
  bO (nwA M747 ((((((((((((((((((((((((((((((((((((((((((((((((((z330 + 1) + 1) + 1) + 1) + 1) + 1) + 1) + 1) + 1) + 1) + 1) + 1) + 1) + 1) + 1) + 1) + 1) + 1) + 1) + 1) + 1) + 1) + 1) + 1) + 1) + 1) + 1) + 1) + 1) + 1) + 1) + 1) + 1) + 1) + 1) + 1) + 1) + 1) + 1) + 1) + 1) + 1) + 1) + 1) + 1) + 1) + 1) + 1) + 1) + 1) 1 (8200 : Int32)) fun M754 =>
  bO (pfv M754 l0 13 124 (.ref ((((((((((((((((((((((((((((((((((((((((((((((((((z330 + 1) + 1) + 1) + 1) + 1) + 1) + 1) + 1) + 1) + 1) + 1) + 1) + 1) + 1) + 1) + 1) + 1) + 1) + 1) + 1) + 1) + 1) + 1) + 1) + 1) + 1) + 1) + 1) + 1) + 1) + 1) + 1) + 1) + 1) + 1) + 1) + 1) + 1) + 1) + 1) + 1) + 1) + 1) + 1) + 1) + 1) + 1) + 1) + 1) + 1))) fun M756 =>
  bO (nwA M756 (((((((((((((((((((((((((((((((((((((((((((((((((((z330 + 1) + 1) + 1) + 1) + 1) + 1) + 1) + 1) + 1) + 1) + 1) + 1) + 1) + 1) + 1) + 1) + 1) + 1) + 1) + 1) + 1) + 1) + 1) + 1) + 1) + 1) + 1) + 1) + 1) + 1) + 1) + 1) + 1) + 1) + 1) + 1) + 1) + 1) + 1) + 1) + 1) + 1) + 1) + 1) + 1) + 1) + 1) + 1) + 1) + 1) + 1) 1 (64 : Int32)) fun M762 =>
  bO (pfv M762 l0 13 125 (.ref (((((((((((((((((((((((((((((((((((((((((((((((((((z330 + 1) + 1) + 1) + 1) + 1) + 1) + 1) + 1) + 1) + 1) + 1) + 1) + 1) + 1) + 1) + 1) + 1) + 1) + 1) + 1) + 1) + 1) + 1) + 1) + 1) + 1) + 1) + 1) + 1) + 1) + 1) + 1) + 1) + 1) + 1) + 1) + 1) + 1) + 1) + 1) + 1) + 1) + 1) + 1) + 1) + 1) + 1) + 1) + 1) + 1) + 1))) fun M764 =>
  bO (nwA M764 ((((((((((((((((((((((((((((((((((((((((((((((((((((z330 + 1) + 1) + 1) + 1) + 1) + 1) + 1) + 1) + 1) + 1) + 1) + 1) + 1) + 1) + 1) + 1) + 1) + 1) + 1) + 1) + 1) + 1) + 1) + 1) + 1) + 1) + 1) + 1) + 1) + 1) + 1) + 1) + 1) + 1) + 1) + 1) + 1) + 1) + 1) + 1) + 1) + 1) + 1) + 1) + 1) + 1) + 1) + 1) + 1) + 1) + 1) + 1) 1 (8200 : Int32)) fun M771 =>
  bO (pfv M771 l0 13 126 (.ref ((((((((((((((((((((((((((((((((((((((((((((((((((((z330 + 1) + 1) + 1) + 1) + 1) + 1) + 1) + 1) + 1) + 1) + 1) + 1) + 1) + 1) + 1) + 1) + 1) + 1) + 1) + 1) + 1) + 1) + 1) + 1) + 1) + 1) + 1) + 1) + 1) + 1) + 1) + 1) + 1) + 1) + 1) + 1) + 1) + 1) + 1) + 1) + 1) + 1) + 1) + 1) + 1) + 1) + 1) + 1) + 1) + 1) + 1) + 1))) fun M773 =>
  bO (nwA M773 (((((((((((((((((((((((((((((((((((((((((((((((((((((z330 + 1) + 1) + 1) + 1) + 1) + 1) + 1) + 1) + 1) + 1) + 1) + 1) + 1) + 1) + 1) + 1) + 1) + 1) + 1) + 1) + 1) + 1) + 1) + 1) + 1) + 1) + 1) + 1) + 1) + 1) + 1) + 1) + 1) + 1) + 1) + 1) + 1) + 1) + 1) + 1) + 1) + 1) + 1) + 1) + 1) + 1) + 1) + 1) + 1) + 1) + 1) + 1) + 1) 1 (8200 : Int32)) fun M780 =>
  bO (pfv M780 l0 13 128 (.ref (((((((((((((((((((((((((((((((((((((((((((((((((((((z330 + 1) + 1) + 1) + 1) + 1) + 1) + 1) + 1) + 1) + 1) + 1) + 1) + 1) + 1) + 1) + 1) + 1) + 1) + 1) + 1) + 1) + 1) + 1) + 1) + 1) + 1) + 1) + 1) + 1) + 1) + 1) + 1) + 1) + 1) + 1) + 1) + 1) + 1) + 1) + 1) + 1) + 1) + 1) + 1) + 1) + 1) + 1) + 1) + 1) + 1) + 1) + 1) + 1))) fun M782 =>
  bO (nwA M782 ((((((((((((((((((((((((((((((((((((((((((((((((((((((z330 + 1) + 1) + 1) + 1) + 1) + 1) + 1) + 1) + 1) + 1) + 1) + 1) + 1) + 1) + 1) + 1) + 1) + 1) + 1) + 1) + 1) + 1) + 1) + 1) + 1) + 1) + 1) + 1) + 1) + 1) + 1) + 1) + 1) + 1) + 1) + 1) + 1) + 1) + 1) + 1) + 1) + 1) + 1) + 1) + 1) + 1) + 1) + 1) + 1) + 1) + 1) + 1) + 1) + 1) 1 (64 : Int32)) fun M788 =>
  bO (pfv M788 l0 13 130 (.ref ((((((((((((((((((((((((((((((((((((((((((((((((((((((z330 + 1) + 1) + 1) + 1) + 1) + 1) + 1) + 1) + 1) + 1) + 1) + 1) + 1) + 1) + 1) + 1) + 1) + 1) + 1) + 1) + 1) + 1) + 1) + 1) + 1) + 1) + 1) + 1) + 1) + 1) + 1) + 1) + 1) + 1) + 1) + 1) + 1) + 1) + 1) + 1) + 1) + 1) + 1) + 1) + 1) + 1) + 1) + 1) + 1) + 1) + 1) + 1) + 1) + 1))) fun M790 =>
  bO (nwA M790 (((((((((((((((((((((((((((((((((((((((((((((((((((((((z330 + 1) + 1) + 1) + 1) + 1) + 1) + 1) + 1) + 1) + 1) + 1) + 1) + 1) + 1) + 1) + 1) + 1) + 1) + 1) + 1) + 1) + 1) + 1) + 1) + 1) + 1) + 1) + 1) + 1) + 1) + 1) + 1) + 1) + 1) + 1) + 1) + 1) + 1) + 1) + 1) + 1) + 1) + 1) + 1) + 1) + 1) + 1) + 1) + 1) + 1) + 1) + 1) + 1) + 1) + 1) 1 (32 : Int32)) fun M796 =>
  bO (pfv M796 l0 13 131 (.ref (((((((((((((((((((((((((((((((((((((((((((((((((((((((z330 + 1) + 1) + 1) + 1) + 1) + 1) + 1) + 1) + 1) + 1) + 1) + 1) + 1) + 1) + 1) + 1) + 1) + 1) + 1) + 1) + 1) + 1) + 1) + 1) + 1) + 1) + 1) + 1) + 1) + 1) + 1) + 1) + 1) + 1) + 1) + 1) + 1) + 1) + 1) + 1) + 1) + 1) + 1) + 1) + 1) + 1) + 1) + 1) + 1) + 1) + 1) + 1) + 1) + 1) + 1))) fun M798 =>
  bO (nwA M798 ((((((((((((((((((((((((((((((((((((((((((((((((((((((((z330 + 1) + 1) + 1) + 1) + 1) + 1) + 1) + 1) + 1) + 1) + 1) + 1) + 1) + 1) + 1) + 1) + 1) + 1) + 1) + 1) + 1) + 1) + 1) + 1) + 1) + 1) + 1) + 1) + 1) + 1) + 1) + 1) + 1) + 1) + 1) + 1) + 1) + 1) + 1) + 1) + 1) + 1) + 1) + 1) + 1) + 1) + 1) + 1) + 1) + 1) + 1) + 1) + 1) + 1) + 1) + 1) 1 (8200 : Int32)) fun M805 =>
  bO (pfv M805 l0 13 132 (.ref ((((((((((((((((((((((((((((((((((((((((((((((((((((((((z330 + 1) + 1) + 1) + 1) + 1) + 1) + 1) + 1) + 1) + 1) + 1) + 1) + 1) + 1) + 1) + 1) + 1) + 1) + 1) + 1) + 1) + 1) + 1) + 1) + 1) + 1) + 1) + 1) + 1) + 1) + 1) + 1) + 1) + 1) + 1) + 1) + 1) + 1) + 1) + 1) + 1) + 1) + 1) + 1) + 1) + 1) + 1) + 1) + 1) + 1) + 1) + 1) + 1) + 1) + 1) + 1))) fun M807 =>
  bO (nwA M807 (((((((((((((((((((((((((((((((((((((((((((((((((((((((((z330 + 1) + 1) + 1) + 1) + 1) + 1) + 1) + 1) + 1) + 1) + 1) + 1) + 1) + 1) + 1) + 1) + 1) + 1) + 1) + 1) + 1) + 1) + 1) + 1) + 1) + 1) + 1) + 1) + 1) + 1) + 1) + 1) + 1) + 1) + 1) + 1) + 1) + 1) + 1) + 1) + 1) + 1) + 1) + 1) + 1) + 1) + 1) + 1) + 1) + 1) + 1) + 1) + 1) + 1) + 1) + 1) + 1) 1 (8200 : Int32)) fun M814 =>
  bO (pfv M814 l0 13 133 (.ref (((((((((((((((((((((((((((((((((((((((((((((((((((((((((z330 + 1) + 1) + 1) + 1) + 1) + 1) + 1) + 1) + 1) + 1) + 1) + 1) + 1) + 1) + 1) + 1) + 1) + 1) + 1) + 1) + 1) + 1) + 1) + 1) + 1) + 1) + 1) + 1) + 1) + 1) + 1) + 1) + 1) + 1) + 1) + 1) + 1) + 1) + 1) + 1) + 1) + 1) + 1) + 1) + 1) + 1) + 1) + 1) + 1) + 1) + 1) + 1) + 1) + 1) + 1) + 1) + 1))) fun M816 =>
  bO (rcv M816 l0 13) fun _ =>
  bO (P_X13_layCipher G F l0 M816) fun M820 =>
  bO (rcv M820 l0 13) fun _ =>
  bO (P_X13_layCurve G F l0 M820) fun M824 =>
  some (M824, ((((((((((((((((((((((((((((((((((((((((((((((((((((((((((z330 + 1) + 1) + 1) + 1) + 1) + 1) + 1) + 1) + 1) + 1) + 1) + 1) + 1) + 1) + 1) + 1) + 1) + 1) + 1) + 1) + 1) + 1) + 1) + 1) + 1) + 1) + 1) + 1) + 1) + 1) + 1) + 1) + 1) + 1) + 1) + 1) + 1) + 1) + 1) + 1) + 1) + 1) + 1) + 1) + 1) + 1) + 1) + 1) + 1) + 1) + 1) + 1) + 1) + 1) + 1) + 1) + 1) + 1), ((((((((((((((((((((((((((((((((((((((((((((((((((((((((((k330 + ((34 : Int32)).toNatClampNeg) + ((34 : Int32)).toNatClampNeg) + ((128 : Int32)).toNatClampNeg) + ((32 : Int32)).toNatClampNeg) + ((32 : Int32)).toNatClampNeg) + ((64 : Int32)).toNatClampNeg) + ((34 : Int32)).toNatClampNeg) + ((32 : Int32)).toNatClampNeg) + ((34 : Int32)).toNatClampNeg) + ((34 : Int32)).toNatClampNeg) + ((34 : Int32)).toNatClampNeg) + ((34 : Int32)).toNatClampNeg) + ((34 : Int32)).toNatClampNeg) + ((34 : Int32)).toNatClampNeg) + ((34 : Int32)).toNatClampNeg) + ((34 : Int32)).toNatClampNeg) + ((34 : Int32)).toNatClampNeg) + ((34 : Int32)).toNatClampNeg) + ((64 : Int32)).toNatClampNeg) + ((64 : Int32)).toNatClampNeg) + ((128 : Int32)).toNatClampNeg) + ((128 : Int32)).toNatClampNeg) + ((16 : Int32)).toNatClampNeg) + ((16 : Int32)).toNatClampNeg) + ((2048 : Int32)).toNatClampNeg) + ((16 : Int32)).toNatClampNeg) + ((2048 : Int32)).toNatClampNeg) + ((16 : Int32)).toNatClampNeg) + ((2048 : Int32)).toNatClampNeg) + ((16 : Int32)).toNatClampNeg) + ((16 : Int32)).toNatClampNeg) + ((131200 : Int32)).toNatClampNeg) + ((16 : Int32)).toNatClampNeg) + ((131200 : Int32)).toNatClampNeg) + ((16 : Int32)).toNatClampNeg) + ((8200 : Int32)).toNatClampNeg) + ((8200 : Int32)).toNatClampNeg) + ((8200 : Int32)).toNatClampNeg) + ((64 : Int32)).toNatClampNeg) + ((8200 : Int32)).toNatClampNeg) + ((8200 : Int32)).toNatClampNeg) + ((8200 : Int32)).toNatClampNeg) + ((32 : Int32)).toNatClampNeg) + ((64 : Int32)).toNatClampNeg) + ((34 : Int32)).toNatClampNeg) + ((34 : Int32)).toNatClampNeg) + ((34 : Int32)).toNatClampNeg) + ((8300 : Int32)).toNatClampNeg) + ((60000 : Int32)).toNatClampNeg) + ((6 : Int32)).toNatClampNeg) + ((8200 : Int32)).toNatClampNeg) + ((64 : Int32)).toNatClampNeg) + ((8200 : Int32)).toNatClampNeg) + ((8200 : Int32)).toNatClampNeg) + ((64 : Int32)).toNatClampNeg) + ((32 : Int32)).toNatClampNeg) + ((8200 : Int32)).toNatClampNeg) + ((8200 : Int32)).toNatClampNeg))
def P_X13_isRow (G : mG) (F : Nat) (l0 : Int32) (M : mM) : Option (Int32 × mM) :=
  if l0 < 0 then (retZ (0 : Int32) M)
  else (if (8 : Int32) ≤ l0 then (retZ (0 : Int32) M)
  else (retZ (1 : Int32) M))
def B_X13_put_3 (G : mG) (F : Nat) : Nat → Nat → Int32 → Int32 → Int64 → Int32 → mM → Option mM
  | 0, _, _, _, _, _, _ => none
  | n + 1, l0, l1, l2, l3, l5, M =>
  if l2 ≤ l5 then (some M)
  else (bO (sI M 1 l0 (l1 + l5) ((((shrL l3 ((8 : Int32) * ((l2 - (1 : Int32)) - l5))).toInt32).toInt8.toInt32).toInt8.toInt32)) fun M27 =>
  B_X13_put_3 G F n l0 l1 l2 l3 (l5 + 1) M27)
def P_X13_put (G : mG) (F : Nat) (l0 : Nat) (l1 : Int32) (l2 : Int32) (l3 : Int64) (M : mM) : Option mM :=
  B_X13_put_3 G F F l0 l1 l2 l3 (0 : Int32) M
def B_X13_longAt_5 (G : mG) (F : Nat) : Nat → Nat → Int32 → Int32 → Int64 → Int32 → mM → Option (Int64 × mM)
  | 0, _, _, _, _, _, _ => none
  | n + 1, l0, l1, l2, l3, l5, M =>
  if l2 ≤ l5 then (some (l3, M))
  else (bO (aI G M 1 l0 (l1 + l5)) fun v20 =>
  B_X13_longAt_5 G F n l0 l1 l2 ((shlL l3 (8 : Int32)) ||| ((v20.toInt64) &&& (255 : Int64))) (l5 + 1) M)
def P_X13_longAt (G : mG) (F : Nat) (l0 : Nat) (l1 : Int32) (l2 : Int32) (M : mM) : Option (Int64 × mM) :=
  B_X13_longAt_5 G F F l0 l1 l2 (0 : Int64) (0 : Int32) M
def B_X13_move_3 (G : mG) (F : Nat) : Nat → Nat → Int32 → Nat → Int32 → Int32 → Int32 → mM → Option mM
  | 0, _, _, _, _, _, _, _ => none
  | n + 1, l0, l1, l2, l3, l4, l5, M =>
  if l4 ≤ l5 then (some M)
  else (bO (aI G M 1 l0 (l1 + l5)) fun v20 =>
  bO (sI M 1 l2 (l3 + l5) (v20.toInt8.toInt32)) fun M21 =>
  B_X13_move_3 G F n l0 l1 l2 l3 l4 (l5 + 1) M21)
def P_X13_move (G : mG) (F : Nat) (l0 : Nat) (l1 : Int32) (l2 : Nat) (l3 : Int32) (l4 : Int32) (M : mM) : Option mM :=
  B_X13_move_3 G F F l0 l1 l2 l3 l4 (0 : Int32) M
def B_X13_same_6 (G : mG) (F : Nat) : Nat → Nat → Int32 → Nat → Int32 → Int32 → Int32 → Int32 → mM → Option (Int32 × mM)
  | 0, _, _, _, _, _, _, _, _ => none
  | n + 1, l0, l1, l2, l3, l4, l5, l6, M =>
  if l4 ≤ l6 then (retZ l5 M)
  else (if l5 = 0 then (B_X13_same_6 G F n l0 l1 l2 l3 l4 (0 : Int32) (l6 + 1) M)
  else (bO (aI G M 1 l0 (l1 + l6)) fun v23 =>
  bO (aI G M 1 l2 (l3 + l6)) fun v29 =>
  if v23 = v29 then (B_X13_same_6 G F n l0 l1 l2 l3 l4 (1 : Int32) (l6 + 1) M)
  else (B_X13_same_6 G F n l0 l1 l2 l3 l4 (0 : Int32) (l6 + 1) M)))
def P_X13_same (G : mG) (F : Nat) (l0 : Nat) (l1 : Int32) (l2 : Nat) (l3 : Int32) (l4 : Int32) (M : mM) : Option (Int32 × mM) :=
  B_X13_same_6 G F F l0 l1 l2 l3 l4 (1 : Int32) (0 : Int32) M
def P_X13_tell (G : mG) (F : Nat) (l0 : Nat) (l1 : Nat) (l2 : Int32) (l3 : Int32) (M : mM) : Option (Int32 × mM) :=
  bO (gfR M l0 13 4) fun v3 =>
  bO (P_X13_move G F l1 l2 v3 (0 : Int32) l3 M) fun M8 =>
  bO (pfv M8 l0 13 5 (.int l3)) fun M13 =>
  some (l3, M13)
def P_X13_feed (G : mG) (F : Nat) (l0 : Nat) (l1 : Int32) (l2 : Int32) (l3 : Int32) (l4 : Int32) (l5 : Int32) (M : mM) : Option (Int32 × mM) :=
  bO (gfI M l0 13 1) fun v1 =>
  if (v1 + (20 : Int32)) ≤ (8192 : Int32) then (bO (gfR M l0 13 0) fun v17 =>
  bO (gfI M l0 13 1) fun v21 =>
  bO (P_X13_put G F v17 v21 (4 : Int32) (l1.toInt64) M) fun M27 =>
  bO (gfR M27 l0 13 0) fun v31 =>
  bO (gfI M27 l0 13 1) fun v35 =>
  bO (P_X13_put G F v31 (v35 + (4 : Int32)) (4 : Int32) (l2.toInt64) M27) fun M43 =>
  bO (gfR M43 l0 13 0) fun v47 =>
  bO (gfI M43 l0 13 1) fun v51 =>
  bO (P_X13_put G F v47 (v51 + (8 : Int32)) (4 : Int32) (l3.toInt64) M43) fun M60 =>
  bO (gfR M60 l0 13 0) fun v64 =>
  bO (gfI M60 l0 13 1) fun v68 =>
  bO (P_X13_put G F v64 (v68 + (12 : Int32)) (4 : Int32) (l4.toInt64) M60) fun M78 =>
  bO (gfR M78 l0 13 0) fun v82 =>
  bO (gfI M78 l0 13 1) fun v86 =>
  bO (P_X13_put G F v82 (v86 + (16 : Int32)) (4 : Int32) (l5.toInt64) M78) fun M96 =>
  bO (gfI M96 l0 13 1) fun v101 =>
  bO (pfv M96 l0 13 1 (.int (v101 + (20 : Int32)))) fun M107 =>
  bO (gfI M107 l0 13 1) fun v111 =>
  some (v111, M107))
  else (some ((-2 : Int32), M))
def P_X13_end (G : mG) (F : Nat) (l0 : Nat) (l1 : Int32) (M : mM) : Option (Int32 × mM) :=
  if l1 < 0 then (some ((-2 : Int32), M))
  else (bO (gfI M l0 13 1) fun v6 =>
  if l1 ≤ v6 then (bO (pfv M l0 13 1 (.int l1)) fun M17 =>
  some (l1, M17))
  else (some ((-2 : Int32), M)))
def P_X13_row (G : mG) (F : Nat) (l0 : Nat) (l1 : Int32) (M : mM) : Option (Int32 × mM) :=
  bP (P_X13_isRow G F l1 M) fun v1 M1 =>
  if v1 = 0 then (some ((-2 : Int32), M1))
  else (bO (gfR M1 l0 13 0) fun v11 =>
  bO (gfR M1 l0 13 2) fun v16 =>
  bO (gfI M1 l0 13 1) fun v25 =>
  bO (P_X13_move G F v11 (0 : Int32) v16 ((8192 : Int32) * l1) v25 M1) fun M28 =>
  bO (gfR M28 l0 13 3) fun v32 =>
  bO (gfI M28 l0 13 1) fun v37 =>
  bO (sI M28 0 v32 l1 v37) fun M40 =>
  bO (pfv M40 l0 13 1 (.int (0 : Int32))) fun M43 =>
  bO (gfR M43 l0 13 3) fun v47 =>
  bO (aI G M43 0 v47 l1) fun v51 =>
  some (v51, M43))
def P_X13_keep (G : mG) (F : Nat) (l0 : Nat) (l1 : Int32) (M : mM) : Option (Int32 × mM) :=
  bP (P_X13_isRow G F l1 M) fun v1 M1 =>
  if v1 = 0 then (some ((-2 : Int32), M1))
  else (bO (gfR M1 l0 13 4) fun v11 =>
  bO (gfR M1 l0 13 2) fun v16 =>
  bO (gfI M1 l0 13 5) fun v25 =>
  bO (P_X13_move G F v11 (0 : Int32) v16 ((8192 : Int32) * l1) v25 M1) fun M28 =>
  bO (gfR M28 l0 13 3) fun v32 =>
  bO (gfI M28 l0 13 5) fun v37 =>
  bO (sI M28 0 v32 l1 v37) fun M40 =>
  bO (gfI M40 l0 13 5) fun v42 =>
  some (v42, M40))
def P_X13_poke (G : mG) (F : Nat) (l0 : Nat) (l1 : Int32) (l2 : Int32) (l3 : Int32) (M : mM) : Option (Int32 × mM) :=
  bP (P_X13_isRow G F l1 M) fun v1 M1 =>
  if v1 = 0 then (some ((-2 : Int32), M1))
  else (if l2 < 0 then (some ((-2 : Int32), M1))
  else (bO (gfR M1 l0 13 3) fun v13 =>
  bO (aI G M1 0 v13 l1) fun v17 =>
  if v17 ≤ l2 then (some ((-2 : Int32), M1))
  else (if l3 < 0 then (some ((-2 : Int32), M1))
  else (if l3 ≤ (255 : Int32) then (bO (gfR M1 l0 13 2) fun v36 =>
  bO (aI G M1 1 v36 (((8192 : Int32) * l1) + l2)) fun v47 =>
  bO (sI M1 1 v36 (((8192 : Int32) * l1) + l2) (((v47 ^^^ (l3.toInt8.toInt32)).toInt8.toInt32).toInt8.toInt32)) fun M52 =>
  bO (gfR M52 l0 13 2) fun v54 =>
  bO (aI G M52 1 v54 (((8192 : Int32) * l1) + l2)) fun v64 =>
  some ((v64 &&& (255 : Int32)), M52))
  else (some ((-2 : Int32), M1))))))
def P_X13_size (G : mG) (F : Nat) (l0 : Nat) (l1 : Int32) (M : mM) : Option (Int32 × mM) :=
  if l1 = (-1 : Int32) then (bO (gfI M l0 13 5) fun v6 =>
  some (v6, M))
  else (bP (P_X13_isRow G F l1 M) fun v13 M13 =>
  if v13 = 0 then (some ((-2 : Int32), M13))
  else (bO (gfR M13 l0 13 3) fun v20 =>
  bO (aI G M13 0 v20 l1) fun v24 =>
  some (v24, M13)))
def P_X13_out (G : mG) (F : Nat) (l0 : Nat) (l1 : Int32) (M : mM) : Option (Int32 × mM) :=
  if l1 < 0 then (some ((-1 : Int32), M))
  else (bO (gfI M l0 13 5) fun v6 =>
  if l1 < v6 then (bO (gfR M l0 13 4) fun v17 =>
  bO (aI G M 1 v17 l1) fun v21 =>
  some ((v21 &&& (255 : Int32)), M))
  else (some ((-1 : Int32), M)))
def P_X13_at (G : mG) (F : Nat) (l0 : Nat) (M : mM) : Option (Int32 × mM) :=
  bO (gfI M l0 13 22) fun v1 =>
  bO (gfI M l0 13 21) fun v5 =>
  if v5 ≤ v1 then (some ((-1 : Int32), M))
  else (bO (gfR M l0 13 19) fun v12 =>
  bO (gfI M l0 13 20) fun v16 =>
  bO (gfI M l0 13 22) fun v20 =>
  bO (aI G M 1 v12 (v16 + v20)) fun v24 =>
  some ((v24 &&& (255 : Int32)), M))
def P_X13_fail (G : mG) (F : Nat) (l0 : Nat) (l1 : Int32) (M : mM) : Option mM :=
  bO (gfI M l0 13 23) fun v2 =>
  if 0 ≤ v2 then (bO (gfI M l0 13 23) fun v13 =>
  bO (pfv M l0 13 23 (.int v13)) fun M16 =>
  some M16)
  else (bO (pfv M l0 13 23 (.int l1)) fun M16 =>
  some M16)
def P_X13_good (G : mG) (F : Nat) (l0 : Nat) (M : mM) : Option (Int32 × mM) :=
  bO (gfI M l0 13 23) fun v1 =>
  if 0 ≤ v1 then (retZ (0 : Int32) M)
  else (retZ (1 : Int32) M)
def B_X13_blanks_0 (G : mG) (F : Nat) : Nat → Nat → mM → Option mM
  | 0, _, _ => none
  | n + 1, l0, M =>
  bO (rcv M l0 13) fun _ =>
  bP (P_X13_at G F l0 M) fun v1 M1 =>
  if v1 = (32 : Int32) then (bO (gfI M1 l0 13 22) fun v38 =>
  bO (pfv M1 l0 13 22 (.int (v38 + (1 : Int32)))) fun M43 =>
  B_X13_blanks_0 G F n l0 M43)
  else (bO (rcv M1 l0 13) fun _ =>
  bP (P_X13_at G F l0 M1) fun v10 M10 =>
  if v10 = (9 : Int32) then (bO (gfI M10 l0 13 22) fun v38 =>
  bO (pfv M10 l0 13 22 (.int (v38 + (1 : Int32)))) fun M43 =>
  B_X13_blanks_0 G F n l0 M43)
  else (bO (rcv M10 l0 13) fun _ =>
  bP (P_X13_at G F l0 M10) fun v19 M19 =>
  if v19 = (10 : Int32) then (bO (gfI M19 l0 13 22) fun v38 =>
  bO (pfv M19 l0 13 22 (.int (v38 + (1 : Int32)))) fun M43 =>
  B_X13_blanks_0 G F n l0 M43)
  else (bO (rcv M19 l0 13) fun _ =>
  bP (P_X13_at G F l0 M19) fun v28 M28 =>
  if v28 = (13 : Int32) then (bO (gfI M28 l0 13 22) fun v38 =>
  bO (pfv M28 l0 13 22 (.int (v38 + (1 : Int32)))) fun M43 =>
  B_X13_blanks_0 G F n l0 M43)
  else (some M28))))
def P_X13_blanks (G : mG) (F : Nat) (l0 : Nat) (M : mM) : Option mM := B_X13_blanks_0 G F F l0 M
def P_X13_keep8 (G : mG) (F : Nat) (l0 : Nat) (l1 : Int32) (M : mM) : Option mM :=
  bO (gfR M l0 13 15) fun v1 =>
  bO (gfI M l0 13 25) fun v5 =>
  bO (sI M 1 v1 v5 ((l1.toInt8.toInt32).toInt8.toInt32)) fun M10 =>
  bO (gfI M10 l0 13 25) fun v13 =>
  bO (pfv M10 l0 13 25 (.int (v13 + (1 : Int32)))) fun M18 =>
  some M18
def B_X13_four_84 (G : mG) (F : Nat) (r4 : Nat → Int32 → Int32 → Int32 → mM → Option (Int32 × mM)) (l0 : Nat) (l1 : Int32) (l2 : Int32) (l3 : Int32) (l4 : Int32) (sk0 : Int32) (M : mM) : Option (Int32 × mM) :=
  if sk0 = 0 then (bO (gfI M l0 13 22) fun v112 =>
  bO (pfv M l0 13 22 (.int (v112 + (1 : Int32)))) fun M117 =>
  r4 l0 l1 (((16 : Int32) * l2) + l4) (l3 + 1) M117)
  else (bO (gfI M l0 13 22) fun v93 =>
  bO (rcv M l0 13) fun _ =>
  bO (P_X13_fail G F l0 v93 M) fun M96 =>
  r4 l0 l1 l2 (l3 + 1) M96)
def B_X13_four_57 (G : mG) (F : Nat) (r4 : Nat → Int32 → Int32 → Int32 → mM → Option (Int32 × mM)) (l0 : Nat) (l1 : Int32) (l2 : Int32) (l3 : Int32) (l4 : Int32) (M : mM) : Option (Int32 × mM) :=
  if l1 = 0 then (if l3 = (1 : Int32) then (if l2 = (13 : Int32) then (if l4 < (12 : Int32) then (B_X13_four_84 G F r4 l0 l1 l2 l3 l4 (0 : Int32) M)
  else (B_X13_four_84 G F r4 l0 l1 l2 l3 l4 (1 : Int32) M))
  else (B_X13_four_84 G F r4 l0 l1 l2 l3 l4 (0 : Int32) M))
  else (B_X13_four_84 G F r4 l0 l1 l2 l3 l4 (0 : Int32) M))
  else (B_X13_four_84 G F r4 l0 l1 l2 l3 l4 (0 : Int32) M)
def B_X13_four_4 (G : mG) (F : Nat) : Nat → Nat → Int32 → Int32 → Int32 → mM → Option (Int32 × mM)
  | 0, _, _, _, _, _ => none
  | n + 1, l0, l1, l2, l3, M =>
  if (4 : Int32) ≤ l3 then (some (l2, M))
  else (bO (rcv M l0 13) fun _ =>
  bP (P_X13_good G F l0 M) fun v10 M10 =>
  if v10 = 0 then (some (l2, M10))
  else (bO (rcv M10 l0 13) fun _ =>
  bP (P_X13_at G F l0 M10) fun v17 M17 =>
  bP (P_X13_hexOf G F v17 M17) fun v20 M20 =>
  if v20 < 0 then (B_X13_four_84 G F (B_X13_four_4 G F n) l0 l1 l2 l3 v20 (1 : Int32) M20)
  else (if l1 = 0 then (B_X13_four_57 G F (B_X13_four_4 G F n) l0 l1 l2 l3 v20 M20)
  else (if l3 = 0 then (if v20 = (13 : Int32) then (if l3 = (1 : Int32) then (if v20 < (12 : Int32) then (B_X13_four_84 G F (B_X13_four_4 G F n) l0 l1 l2 l3 v20 (1 : Int32) M20)
  else (B_X13_four_57 G F (B_X13_four_4 G F n) l0 l1 l2 l3 v20 M20))
  else (B_X13_four_57 G F (B_X13_four_4 G F n) l0 l1 l2 l3 v20 M20))
  else (B_X13_four_84 G F (B_X13_four_4 G F n) l0 l1 l2 l3 v20 (1 : Int32) M20))
  else (if l3 = (1 : Int32) then (if v20 < (12 : Int32) then (B_X13_four_84 G F (B_X13_four_4 G F n) l0 l1 l2 l3 v20 (1 : Int32) M20)
  else (B_X13_four_57 G F (B_X13_four_4 G F n) l0 l1 l2 l3 v20 M20))
  else (B_X13_four_57 G F (B_X13_four_4 G F n) l0 l1 l2 l3 v20 M20))))))
def P_X13_four (G : mG) (F : Nat) (l0 : Nat) (l1 : Int32) (M : mM) : Option (Int32 × mM) :=
  B_X13_four_4 G F F l0 l1 (0 : Int32) (0 : Int32) M
def P_X13_sign8 (G : mG) (F : Nat) (l0 : Nat) (l1 : Int32) (M : mM) : Option mM :=
  if (128 : Int32) ≤ l1 then (if (2048 : Int32) ≤ l1 then (if (65536 : Int32) ≤ l1 then (bO (rcv M l0 13) fun _ =>
  bO (P_X13_keep8 G F l0 ((240 : Int32) ||| (l1 >>> ((18 : Int32) &&& 31))) M) fun M106 =>
  bO (rcv M106 l0 13) fun _ =>
  bO (P_X13_keep8 G F l0 ((128 : Int32) ||| ((l1 >>> ((12 : Int32) &&& 31)) &&& (63 : Int32))) M106) fun M121 =>
  bO (rcv M121 l0 13) fun _ =>
  bO (P_X13_keep8 G F l0 ((128 : Int32) ||| ((l1 >>> ((6 : Int32) &&& 31)) &&& (63 : Int32))) M121) fun M136 =>
  bO (rcv M136 l0 13) fun _ =>
  bO (P_X13_keep8 G F l0 ((128 : Int32) ||| (l1 &&& (63 : Int32))) M136) fun M148 =>
  some M148)
  else (bO (rcv M l0 13) fun _ =>
  bO (P_X13_keep8 G F l0 ((224 : Int32) ||| (l1 >>> ((12 : Int32) &&& 31))) M) fun M64 =>
  bO (rcv M64 l0 13) fun _ =>
  bO (P_X13_keep8 G F l0 ((128 : Int32) ||| ((l1 >>> ((6 : Int32) &&& 31)) &&& (63 : Int32))) M64) fun M79 =>
  bO (rcv M79 l0 13) fun _ =>
  bO (P_X13_keep8 G F l0 ((128 : Int32) ||| (l1 &&& (63 : Int32))) M79) fun M91 =>
  some M91))
  else (bO (rcv M l0 13) fun _ =>
  bO (P_X13_keep8 G F l0 ((192 : Int32) ||| (l1 >>> ((6 : Int32) &&& 31))) M) fun M31 =>
  bO (rcv M31 l0 13) fun _ =>
  bO (P_X13_keep8 G F l0 ((128 : Int32) ||| (l1 &&& (63 : Int32))) M31) fun M43 =>
  some M43))
  else (bO (rcv M l0 13) fun _ =>
  bO (P_X13_keep8 G F l0 l1 M) fun M9 =>
  some M9)
def B_X13_escape_20 (G : mG) (F : Nat) (l0 : Nat) (l1 : Int32) (sk0 : Int32) (M : mM) : Option mM :=
  if 0 ≤ sk0 then (bO (gfI M l0 13 22) fun v36 =>
  bO (pfv M l0 13 22 (.int (v36 + (1 : Int32)))) fun M41 =>
  if l1 = (117 : Int32) then (bO (rcv M41 l0 13) fun _ =>
  bP (P_X13_four G F l0 (0 : Int32) M41) fun v109 M109 =>
  bO (rcv M109 l0 13) fun _ =>
  bP (P_X13_good G F l0 M109) fun v114 M114 =>
  if v114 = 0 then (bO (rcv M114 l0 13) fun _ =>
  bP (P_X13_good G F l0 M114) fun v221 M221 =>
  if v221 = 0 then (some M221)
  else (bO (rcv M221 l0 13) fun _ =>
  bO (P_X13_sign8 G F l0 v109 M221) fun M229 =>
  some M229))
  else (if v109 < (55296 : Int32) then (bO (rcv M114 l0 13) fun _ =>
  bP (P_X13_good G F l0 M114) fun v221 M221 =>
  if v221 = 0 then (some M221)
  else (bO (rcv M221 l0 13) fun _ =>
  bO (P_X13_sign8 G F l0 v109 M221) fun M229 =>
  some M229))
  else (if (56319 : Int32) < v109 then (bO (rcv M114 l0 13) fun _ =>
  bP (P_X13_good G F l0 M114) fun v221 M221 =>
  if v221 = 0 then (some M221)
  else (bO (rcv M221 l0 13) fun _ =>
  bO (P_X13_sign8 G F l0 v109 M221) fun M229 =>
  some M229))
  else (bO (rcv M114 l0 13) fun _ =>
  bP (P_X13_at G F l0 M114) fun v135 M135 =>
  if v135 = (92 : Int32) then (bO (gfI M135 l0 13 22) fun v145 =>
  bO (pfv M135 l0 13 22 (.int (v145 + (1 : Int32)))) fun M150 =>
  bO (rcv M150 l0 13) fun _ =>
  bP (P_X13_at G F l0 M150) fun v154 M154 =>
  if v154 = (117 : Int32) then (bO (gfI M154 l0 13 22) fun v164 =>
  bO (pfv M154 l0 13 22 (.int (v164 + (1 : Int32)))) fun M169 =>
  bO (rcv M169 l0 13) fun _ =>
  bP (P_X13_four G F l0 (1 : Int32) M169) fun v174 M174 =>
  bO (rcv M174 l0 13) fun _ =>
  bP (P_X13_good G F l0 M174) fun v221 M221 =>
  if v221 = 0 then (some M221)
  else (bO (rcv M221 l0 13) fun _ =>
  bO (P_X13_sign8 G F l0 ((((65536 : Int32) + ((v109 - (55296 : Int32)) <<< ((10 : Int32) &&& 31))) + v174) - (56320 : Int32)) M221) fun M229 =>
  some M229))
  else (bO (gfI M154 l0 13 22) fun v203 =>
  bO (rcv M154 l0 13) fun _ =>
  bO (P_X13_fail G F l0 v203 M154) fun M206 =>
  bO (rcv M206 l0 13) fun _ =>
  bP (P_X13_good G F l0 M206) fun v221 M221 =>
  if v221 = 0 then (some M221)
  else (bO (rcv M221 l0 13) fun _ =>
  bO (P_X13_sign8 G F l0 v109 M221) fun M229 =>
  some M229)))
  else (bO (gfI M135 l0 13 22) fun v214 =>
  bO (rcv M135 l0 13) fun _ =>
  bO (P_X13_fail G F l0 v214 M135) fun M217 =>
  bO (rcv M217 l0 13) fun _ =>
  bP (P_X13_good G F l0 M217) fun v221 M221 =>
  if v221 = 0 then (some M221)
  else (bO (rcv M221 l0 13) fun _ =>
  bO (P_X13_sign8 G F l0 v109 M221) fun M229 =>
  some M229))))))
  else (if (3 : Int32) ≤ sk0 then (if sk0 = (3 : Int32) then (bO (rcv M41 l0 13) fun _ =>
  bO (P_X13_keep8 G F l0 (8 : Int32) M41) fun M103 =>
  some M103)
  else (if sk0 = (4 : Int32) then (bO (rcv M41 l0 13) fun _ =>
  bO (P_X13_keep8 G F l0 (12 : Int32) M41) fun M103 =>
  some M103)
  else (if sk0 = (5 : Int32) then (bO (rcv M41 l0 13) fun _ =>
  bO (P_X13_keep8 G F l0 (10 : Int32) M41) fun M103 =>
  some M103)
  else (if sk0 = (6 : Int32) then (bO (rcv M41 l0 13) fun _ =>
  bO (P_X13_keep8 G F l0 (13 : Int32) M41) fun M103 =>
  some M103)
  else (bO (rcv M41 l0 13) fun _ =>
  bO (P_X13_keep8 G F l0 (9 : Int32) M41) fun M103 =>
  some M103)))))
  else (bO (rcv M41 l0 13) fun _ =>
  bO (P_X13_keep8 G F l0 l1 M41) fun M103 =>
  some M103)))
  else (bO (gfI M l0 13 22) fun v27 =>
  bO (rcv M l0 13) fun _ =>
  bO (P_X13_fail G F l0 v27 M) fun M30 =>
  some M30)
def P_X13_escape (G : mG) (F : Nat) (l0 : Nat) (M : mM) : Option mM :=
  bO (rcv M l0 13) fun _ =>
  bP (P_X13_at G F l0 M) fun v1 M1 =>
  if 0 ≤ v1 then (bO (rcs G (G.1 78)) fun _ =>
  bP (P_J0_indexOf_0f7a4 G F (G.1 78) v1 M1) fun v17 M17 =>
  B_X13_escape_20 G F l0 v1 v17 M17)
  else (B_X13_escape_20 G F l0 v1 (-1 : Int32) M1)
def B_X13_wide_148 (G : mG) (F : Nat) : Nat → Nat → Int32 → Int32 → Int32 → Int32 → mM → Option mM
  | 0, _, _, _, _, _, _ => none
  | n + 1, l0, l2, l3, l4, l5, M =>
  if l2 ≤ l5 then (some M)
  else (bO (rcv M l0 13) fun _ =>
  bP (P_X13_good G F l0 M) fun v155 M155 =>
  if v155 = 0 then (some M155)
  else (bO (rcv M155 l0 13) fun _ =>
  bP (P_X13_at G F l0 M155) fun v162 M162 =>
  if v162 < l3 then (bO (gfI M162 l0 13 22) fun v182 =>
  bO (rcv M162 l0 13) fun _ =>
  bO (P_X13_fail G F l0 v182 M162) fun M185 =>
  B_X13_wide_148 G F n l0 l2 (128 : Int32) (191 : Int32) (l5 + 1) M185)
  else (if v162 ≤ l4 then (bO (rcv M162 l0 13) fun _ =>
  bO (P_X13_keep8 G F l0 v162 M162) fun M194 =>
  bO (gfI M194 l0 13 22) fun v199 =>
  bO (pfv M194 l0 13 22 (.int (v199 + (1 : Int32)))) fun M204 =>
  B_X13_wide_148 G F n l0 l2 (128 : Int32) (191 : Int32) (l5 + 1) M204)
  else (bO (gfI M162 l0 13 22) fun v182 =>
  bO (rcv M162 l0 13) fun _ =>
  bO (P_X13_fail G F l0 v182 M162) fun M185 =>
  B_X13_wide_148 G F n l0 l2 (128 : Int32) (191 : Int32) (l5 + 1) M185))))
def B_X13_wide_113 (G : mG) (F : Nat) (l0 : Nat) (l1 : Int32) (l2 : Int32) (sk0 : Int32) (M : mM) : Option mM :=
  if l1 = (237 : Int32) then (B_X13_wide_148 G F F l0 l2 sk0 (159 : Int32) (0 : Int32) M)
  else (if l1 = (244 : Int32) then (B_X13_wide_148 G F F l0 l2 sk0 (143 : Int32) (0 : Int32) M)
  else (B_X13_wide_148 G F F l0 l2 sk0 (191 : Int32) (0 : Int32) M))
def B_X13_wide_55 (G : mG) (F : Nat) (l0 : Nat) (l1 : Int32) (sk0 : Int32) (M : mM) : Option mM :=
  if sk0 = 0 then (bO (gfI M l0 13 22) fun v62 =>
  bO (rcv M l0 13) fun _ =>
  bO (P_X13_fail G F l0 v62 M) fun M65 =>
  some M65)
  else (bO (rcv M l0 13) fun _ =>
  bO (P_X13_keep8 G F l0 l1 M) fun M71 =>
  bO (gfI M71 l0 13 22) fun v76 =>
  bO (pfv M71 l0 13 22 (.int (v76 + (1 : Int32)))) fun M81 =>
  if l1 = (224 : Int32) then (B_X13_wide_113 G F l0 l1 sk0 (160 : Int32) M81)
  else (if l1 = (240 : Int32) then (B_X13_wide_113 G F l0 l1 sk0 (144 : Int32) M81)
  else (B_X13_wide_113 G F l0 l1 sk0 (128 : Int32) M81)))
def B_X13_wide_36 (G : mG) (F : Nat) (l0 : Nat) (l1 : Int32) (M : mM) : Option mM :=
  if l1 < (240 : Int32) then (B_X13_wide_55 G F l0 l1 (0 : Int32) M)
  else (if (244 : Int32) < l1 then (B_X13_wide_55 G F l0 l1 (0 : Int32) M)
  else (B_X13_wide_55 G F l0 l1 (3 : Int32) M))
def P_X13_wide (G : mG) (F : Nat) (l0 : Nat) (l1 : Int32) (M : mM) : Option mM :=
  if l1 < (194 : Int32) then (if l1 < (224 : Int32) then (B_X13_wide_36 G F l0 l1 M)
  else (if (239 : Int32) < l1 then (B_X13_wide_36 G F l0 l1 M)
  else (B_X13_wide_55 G F l0 l1 (2 : Int32) M)))
  else (if (223 : Int32) < l1 then (if l1 < (224 : Int32) then (B_X13_wide_36 G F l0 l1 M)
  else (if (239 : Int32) < l1 then (B_X13_wide_36 G F l0 l1 M)
  else (B_X13_wide_55 G F l0 l1 (2 : Int32) M)))
  else (B_X13_wide_55 G F l0 l1 (1 : Int32) M))
def B_X13_readString_10 (G : mG) (F : Nat) : Nat → Nat → mM → Option mM
  | 0, _, _ => none
  | n + 1, l0, M =>
  bO (rcv M l0 13) fun _ =>
  bP (P_X13_good G F l0 M) fun v11 M11 =>
  if v11 = 0 then (bO (gfI M11 l0 13 22) fun v106 =>
  bO (pfv M11 l0 13 22 (.int (v106 + (1 : Int32)))) fun M111 =>
  some M111)
  else (bO (rcv M11 l0 13) fun _ =>
  bP (P_X13_at G F l0 M11) fun v18 M18 =>
  if v18 = (34 : Int32) then (bO (gfI M18 l0 13 22) fun v106 =>
  bO (pfv M18 l0 13 22 (.int (v106 + (1 : Int32)))) fun M111 =>
  some M111)
  else (bO (rcv M18 l0 13) fun _ =>
  bP (P_X13_at G F l0 M18) fun v27 M27 =>
  if (32 : Int32) ≤ v27 then (if v27 = (92 : Int32) then (bO (gfI M27 l0 13 22) fun v56 =>
  bO (pfv M27 l0 13 22 (.int (v56 + (1 : Int32)))) fun M61 =>
  bO (rcv M61 l0 13) fun _ =>
  bO (P_X13_escape G F l0 M61) fun M65 =>
  B_X13_readString_10 G F n l0 M65)
  else (if (128 : Int32) ≤ v27 then (bO (rcv M27 l0 13) fun _ =>
  bO (P_X13_wide G F l0 v27 M27) fun M98 =>
  B_X13_readString_10 G F n l0 M98)
  else (bO (rcv M27 l0 13) fun _ =>
  bO (P_X13_keep8 G F l0 v27 M27) fun M80 =>
  bO (gfI M80 l0 13 22) fun v85 =>
  bO (pfv M80 l0 13 22 (.int (v85 + (1 : Int32)))) fun M90 =>
  B_X13_readString_10 G F n l0 M90)))
  else (bO (gfI M27 l0 13 22) fun v39 =>
  bO (rcv M27 l0 13) fun _ =>
  bO (P_X13_fail G F l0 v39 M27) fun M42 =>
  B_X13_readString_10 G F n l0 M42)))
def P_X13_readString (G : mG) (F : Nat) (l0 : Nat) (M : mM) : Option mM :=
  bO (gfI M l0 13 22) fun v2 =>
  bO (pfv M l0 13 22 (.int (v2 + (1 : Int32)))) fun M7 =>
  B_X13_readString_10 G F F l0 M7
def B_X13_readName_142 (G : mG) (F : Nat) (l0 : Nat) (M : mM) : Option mM :=
  bO (rcv M l0 13) fun _ =>
  bP (P_X13_good G F l0 M) fun v143 M143 =>
  if v143 = 0 then (some M143)
  else (bO (rcv M143 l0 13) fun _ =>
  bO (P_X13_blanks G F l0 M143) fun M150 =>
  bO (rcv M150 l0 13) fun _ =>
  bP (P_X13_at G F l0 M150) fun v154 M154 =>
  if v154 = (58 : Int32) then (bO (gfI M154 l0 13 22) fun v164 =>
  bO (pfv M154 l0 13 22 (.int (v164 + (1 : Int32)))) fun M169 =>
  bO (rcv M169 l0 13) fun _ =>
  bO (P_X13_blanks G F l0 M169) fun M173 =>
  some M173)
  else (bO (gfI M154 l0 13 22) fun v181 =>
  bO (rcv M154 l0 13) fun _ =>
  bO (P_X13_fail G F l0 v181 M154) fun M184 =>
  some M184))
def B_X13_readName_37 (G : mG) (F : Nat) : Nat → Nat → Int32 → Int32 → Int32 → Int32 → mM → Option mM
  | 0, _, _, _, _, _, _ => none
  | n + 1, l0, l1, l2, l3, l4, M =>
  bO (gfI M l0 13 24) fun v43 =>
  bO (gfR M l0 13 16) fun v48 =>
  bO (gfI M l0 13 24) fun v52 =>
  bO (aI G M 0 v48 v52) fun v55 =>
  if (((600 : Int32) * v43) + v55) ≤ l4 then (B_X13_readName_142 G F l0 M)
  else (bO (rcv M l0 13) fun _ =>
  bP (P_X13_good G F l0 M) fun v61 M61 =>
  if v61 = 0 then (B_X13_readName_142 G F l0 M61)
  else (bO (gfR M61 l0 13 7) fun v68 =>
  bO (aI G M61 0 v68 l4) fun v73 =>
  bO (gfI M61 l0 13 24) fun v79 =>
  if v73 = (l1 - ((600 : Int32) * v79)) then (bO (gfR M61 l0 13 14) fun v88 =>
  bO (aI G M61 0 v88 l4) fun v93 =>
  bO (gfI M61 l0 13 25) fun v95 =>
  if v93 = (v95 - l3) then (bO (gfR M61 l0 13 15) fun v104 =>
  bO (gfR M61 l0 13 13) fun v108 =>
  bO (aI G M61 0 v108 l4) fun v113 =>
  bO (gfR M61 l0 13 15) fun v115 =>
  bO (gfI M61 l0 13 25) fun v120 =>
  bP (P_X13_same G F v104 v113 v115 l3 (v120 - l3) M61) fun v125 M125 =>
  if v125 = 0 then (B_X13_readName_37 G F n l0 l1 l2 l3 (l4 + 1) M125)
  else (bO (rcv M125 l0 13) fun _ =>
  bO (P_X13_fail G F l0 l2 M125) fun M133 =>
  B_X13_readName_37 G F n l0 l1 l2 l3 (l4 + 1) M133))
  else (B_X13_readName_37 G F n l0 l1 l2 l3 (l4 + 1) M61))
  else (B_X13_readName_37 G F n l0 l1 l2 l3 (l4 + 1) M61)))
def P_X13_readName (G : mG) (F : Nat) (l0 : Nat) (l1 : Int32) (M : mM) : Option mM :=
  bO (gfI M l0 13 22) fun v1 =>
  bO (gfI M l0 13 25) fun v6 =>
  bO (rcv M l0 13) fun _ =>
  bP (P_X13_at G F l0 M) fun v11 M11 =>
  if v11 = (34 : Int32) then (bO (rcv M11 l0 13) fun _ =>
  bO (P_X13_readString G F l0 M11) fun M29 =>
  B_X13_readName_37 G F F l0 l1 v1 v6 (l1 + (1 : Int32)) M29)
  else (bO (gfI M11 l0 13 22) fun v21 =>
  bO (rcv M11 l0 13) fun _ =>
  bO (P_X13_fail G F l0 v21 M11) fun M24 =>
  some M24)
def B_X13_word_2 (G : mG) (F : Nat) : Nat → Nat → Nat → Int32 → mM → Option mM
  | 0, _, _, _, _ => none
  | n + 1, l0, l1, l2, M =>
  bO (rcs G l1) fun _ =>
  bP (P_J0_length_8abf5 G F l1 M) fun v4 M4 =>
  if v4 ≤ l2 then (some M4)
  else (bO (rcv M4 l0 13) fun _ =>
  bP (P_X13_good G F l0 M4) fun v11 M11 =>
  if v11 = 0 then (some M11)
  else (bO (rcv M11 l0 13) fun _ =>
  bP (P_X13_at G F l0 M11) fun v18 M18 =>
  bO (rcs G l1) fun _ =>
  bP (P_J0_charAt_5068e G F l1 l2 M18) fun v23 M23 =>
  if v18 = v23 then (bO (gfI M23 l0 13 22) fun v31 =>
  bO (pfv M23 l0 13 22 (.int (v31 + (1 : Int32)))) fun M36 =>
  B_X13_word_2 G F n l0 l1 (l2 + 1) M36)
  else (bO (gfI M23 l0 13 22) fun v44 =>
  bO (rcv M23 l0 13) fun _ =>
  bO (P_X13_fail G F l0 v44 M23) fun M47 =>
  B_X13_word_2 G F n l0 l1 (l2 + 1) M47)))
def P_X13_word (G : mG) (F : Nat) (l0 : Nat) (l1 : Nat) (M : mM) : Option mM :=
  B_X13_word_2 G F F l0 l1 (0 : Int32) M
def B_X13_digits_18 (G : mG) (F : Nat) : Nat → Nat → mM → Option mM
  | 0, _, _ => none
  | n + 1, l0, M =>
  bO (rcv M l0 13) fun _ =>
  bP (P_X13_at G F l0 M) fun v19 M19 =>
  bP (P_X13_isDigit G F v19 M19) fun v22 M22 =>
  if v22 = 0 then (some M22)
  else (bO (gfI M22 l0 13 22) fun v30 =>
  bO (pfv M22 l0 13 22 (.int (v30 + (1 : Int32)))) fun M35 =>
  B_X13_digits_18 G F n l0 M35)
def P_X13_digits (G : mG) (F : Nat) (l0 : Nat) (M : mM) : Option mM :=
  bO (rcv M l0 13) fun _ =>
  bP (P_X13_at G F l0 M) fun v1 M1 =>
  bP (P_X13_isDigit G F v1 M1) fun v4 M4 =>
  if v4 = 0 then (bO (gfI M4 l0 13 22) fun v12 =>
  bO (rcv M4 l0 13) fun _ =>
  bO (P_X13_fail G F l0 v12 M4) fun M15 =>
  B_X13_digits_18 G F F l0 M15)
  else (B_X13_digits_18 G F F l0 M4)
def B_X13_number_104 (G : mG) (F : Nat) (l0 : Nat) (M : mM) : Option mM :=
  bO (gfI M l0 13 22) fun v106 =>
  bO (pfv M l0 13 22 (.int (v106 + (1 : Int32)))) fun M111 =>
  bO (gfI M111 l0 13 22) fun v116 =>
  bO (rcv M111 l0 13) fun _ =>
  bP (P_X13_at G F l0 M111) fun v120 M120 =>
  if v120 = (43 : Int32) then (bO (pfv M120 l0 13 22 (.int (v116 + (1 : Int32)))) fun M143 =>
  bO (rcv M143 l0 13) fun _ =>
  bO (P_X13_digits G F l0 M143) fun M147 =>
  some M147)
  else (bO (rcv M120 l0 13) fun _ =>
  bP (P_X13_at G F l0 M120) fun v129 M129 =>
  if v129 = (45 : Int32) then (bO (pfv M129 l0 13 22 (.int (v116 + (1 : Int32)))) fun M143 =>
  bO (rcv M143 l0 13) fun _ =>
  bO (P_X13_digits G F l0 M143) fun M147 =>
  some M147)
  else (bO (pfv M129 l0 13 22 (.int (v116 + (0 : Int32)))) fun M143 =>
  bO (rcv M143 l0 13) fun _ =>
  bO (P_X13_digits G F l0 M143) fun M147 =>
  some M147))
def B_X13_number_79 (G : mG) (F : Nat) (l0 : Nat) (M : mM) : Option mM :=
  bO (rcv M l0 13) fun _ =>
  bP (P_X13_good G F l0 M) fun v80 M80 =>
  if v80 = 0 then (some M80)
  else (bO (rcv M80 l0 13) fun _ =>
  bP (P_X13_at G F l0 M80) fun v87 M87 =>
  if v87 = (101 : Int32) then (B_X13_number_104 G F l0 M87)
  else (bO (rcv M87 l0 13) fun _ =>
  bP (P_X13_at G F l0 M87) fun v96 M96 =>
  if v96 = (69 : Int32) then (B_X13_number_104 G F l0 M96)
  else (some M96)))
def B_X13_number_49 (G : mG) (F : Nat) (l0 : Nat) (M : mM) : Option mM :=
  bO (rcv M l0 13) fun _ =>
  bP (P_X13_good G F l0 M) fun v50 M50 =>
  if v50 = 0 then (B_X13_number_79 G F l0 M50)
  else (bO (rcv M50 l0 13) fun _ =>
  bP (P_X13_at G F l0 M50) fun v57 M57 =>
  if v57 = (46 : Int32) then (bO (gfI M57 l0 13 22) fun v67 =>
  bO (pfv M57 l0 13 22 (.int (v67 + (1 : Int32)))) fun M72 =>
  bO (rcv M72 l0 13) fun _ =>
  bO (P_X13_digits G F l0 M72) fun M76 =>
  B_X13_number_79 G F l0 M76)
  else (B_X13_number_79 G F l0 M57))
def B_X13_number_19 (G : mG) (F : Nat) (l0 : Nat) (sk0 : Nat) (sk1 : Int32) (sk2 : Int32) (M : mM) : Option mM :=
  bO (pfv M sk0 13 22 (.int (sk1 + sk2))) fun M20 =>
  bO (rcv M20 l0 13) fun _ =>
  bP (P_X13_at G F l0 M20) fun v24 M24 =>
  if v24 = (48 : Int32) then (bO (gfI M24 l0 13 22) fun v34 =>
  bO (pfv M24 l0 13 22 (.int (v34 + (1 : Int32)))) fun M39 =>
  B_X13_number_49 G F l0 M39)
  else (bO (rcv M24 l0 13) fun _ =>
  bO (P_X13_digits G F l0 M24) fun M46 =>
  B_X13_number_49 G F l0 M46)
def P_X13_number (G : mG) (F : Nat) (l0 : Nat) (M : mM) : Option mM :=
  bO (gfI M l0 13 22) fun v2 =>
  bO (rcv M l0 13) fun _ =>
  bP (P_X13_at G F l0 M) fun v6 M6 =>
  if v6 = (45 : Int32) then (B_X13_number_19 G F l0 l0 v2 (1 : Int32) M6)
  else (B_X13_number_19 G F l0 l0 v2 (0 : Int32) M6)
def B_X13_readMany_201 (G : mG) (F : Nat) (rv : Nat → Int32 → Int32 → mM → Option mM) (r41 : Nat → Int32 → Int32 → Int32 → Int32 → Int32 → mM → Option mM) (l0 : Nat) (l1 : Int32) (l2 : Int32) (l3 : Int32) (l4 : Int32) (sk0 : Int32) (M : mM) : Option mM :=
  if sk0 = 0 then (bO (rcv M l0 13) fun _ =>
  bP (P_X13_at G F l0 M) fun v226 M226 =>
  if v226 = l3 then (bO (gfI M226 l0 13 22) fun v235 =>
  bO (pfv M226 l0 13 22 (.int (v235 + (1 : Int32)))) fun M240 =>
  r41 l0 l1 l2 l3 l4 sk0 M240)
  else (bO (gfI M226 l0 13 22) fun v248 =>
  bO (rcv M226 l0 13) fun _ =>
  bO (P_X13_fail G F l0 v248 M226) fun M251 =>
  r41 l0 l1 l2 l3 l4 sk0 M251))
  else (bO (gfI M l0 13 22) fun v210 =>
  bO (pfv M l0 13 22 (.int (v210 + (1 : Int32)))) fun M215 =>
  bO (rcv M215 l0 13) fun _ =>
  bO (P_X13_blanks G F l0 M215) fun M219 =>
  r41 l0 l1 l2 l3 l4 sk0 M219)
def B_X13_readMany_165 (G : mG) (F : Nat) (rv : Nat → Int32 → Int32 → mM → Option mM) (r41 : Nat → Int32 → Int32 → Int32 → Int32 → Int32 → mM → Option mM) (l0 : Nat) (l1 : Int32) (l2 : Int32) (l3 : Int32) (l4 : Int32) (l5 : Int32) (M : mM) : Option mM :=
  bO (rcv M l0 13) fun _ =>
  bP (P_X13_good G F l0 M) fun v166 M166 =>
  if v166 = 0 then (r41 l0 l1 l2 l3 l4 l5 M166)
  else (bO (gfR M166 l0 13 10) fun v176 =>
  bO (sI M166 0 v176 l1 (l4 + 1)) fun M182 =>
  bO (rcv M182 l0 13) fun _ =>
  bO (P_X13_blanks G F l0 M182) fun M184 =>
  bO (rcv M184 l0 13) fun _ =>
  bP (P_X13_at G F l0 M184) fun v188 M188 =>
  if v188 = (44 : Int32) then (B_X13_readMany_201 G F rv r41 l0 l1 l2 l3 (l4 + 1) (1 : Int32) M188)
  else (B_X13_readMany_201 G F rv r41 l0 l1 l2 l3 (l4 + 1) (0 : Int32) M188))
def B_X13_readMany_88 (G : mG) (F : Nat) (rv : Nat → Int32 → Int32 → mM → Option mM) (r41 : Nat → Int32 → Int32 → Int32 → Int32 → Int32 → mM → Option mM) (l0 : Nat) (l1 : Int32) (l2 : Int32) (l3 : Int32) (l4 : Int32) (l5 : Int32) (l6 : Int32) (l7 : Int32) (M : mM) : Option mM :=
  bO (gfI M l0 13 25) fun v89 =>
  bO (rcv M l0 13) fun _ =>
  bP (P_X13_good G F l0 M) fun v98 M98 =>
  if v98 = 0 then (B_X13_readMany_165 G F rv r41 l0 l1 l2 l3 l4 l5 M98)
  else (bO (gfR M98 l0 13 16) fun v105 =>
  bO (gfI M98 l0 13 24) fun v109 =>
  bO (aI G M98 0 v105 v109) fun v112 =>
  if (600 : Int32) ≤ v112 then (bO (gfI M98 l0 13 24) fun v155 =>
  bO (rcv M98 l0 13) fun _ =>
  bO (rv l0 (l1 - ((600 : Int32) * v155)) l4 M98) fun M162 =>
  B_X13_readMany_165 G F rv r41 l0 l1 l2 l3 l4 l5 M162)
  else (bO (gfR M98 l0 13 13) fun v124 =>
  bO (sI M98 0 v124 l6 l7) fun M131 =>
  bO (gfR M131 l0 13 14) fun v133 =>
  if l2 = 0 then (bO (sI M131 0 v133 l6 (-1 : Int32)) fun M148 =>
  bO (gfI M148 l0 13 24) fun v155 =>
  bO (rcv M148 l0 13) fun _ =>
  bO (rv l0 (l1 - ((600 : Int32) * v155)) l4 M148) fun M162 =>
  B_X13_readMany_165 G F rv r41 l0 l1 l2 l3 l4 l5 M162)
  else (bO (sI M131 0 v133 l6 (v89 - l7)) fun M148 =>
  bO (gfI M148 l0 13 24) fun v155 =>
  bO (rcv M148 l0 13) fun _ =>
  bO (rv l0 (l1 - ((600 : Int32) * v155)) l4 M148) fun M162 =>
  B_X13_readMany_165 G F rv r41 l0 l1 l2 l3 l4 l5 M162)))
def B_X13_readMany_41 (G : mG) (F : Nat) (rv : Nat → Int32 → Int32 → mM → Option mM) : Nat → Nat → Int32 → Int32 → Int32 → Int32 → Int32 → mM → Option mM
  | 0, _, _, _, _, _, _, _ => none
  | n + 1, l0, l1, l2, l3, l4, l5, M =>
  if l5 = 0 then (some M)
  else (bO (rcv M l0 13) fun _ =>
  bP (P_X13_good G F l0 M) fun v47 M47 =>
  if v47 = 0 then (some M47)
  else (bO (gfI M47 l0 13 24) fun v57 =>
  bO (gfR M47 l0 13 16) fun v62 =>
  bO (gfI M47 l0 13 24) fun v66 =>
  bO (aI G M47 0 v62 v66) fun v69 =>
  bO (gfI M47 l0 13 25) fun v74 =>
  if l2 = 0 then (B_X13_readMany_88 G F rv (B_X13_readMany_41 G F rv n) l0 l1 l2 l3 l4 l5 (((600 : Int32) * v57) + v69) v74 M47)
  else (bO (rcv M47 l0 13) fun _ =>
  bO (P_X13_readName G F l0 l1 M47) fun M85 =>
  B_X13_readMany_88 G F rv (B_X13_readMany_41 G F rv n) l0 l1 l2 l3 l4 l5 (((600 : Int32) * v57) + v69) v74 M85)))
def B_X13_readMany_11 (G : mG) (F : Nat) (rv : Nat → Int32 → Int32 → mM → Option mM) (l0 : Nat) (l1 : Int32) (l2 : Int32) (sk0 : Int32) (M : mM) : Option mM :=
  bO (rcv M l0 13) fun _ =>
  bO (P_X13_blanks G F l0 M) fun M13 =>
  bO (rcv M13 l0 13) fun _ =>
  bP (P_X13_at G F l0 M13) fun v17 M17 =>
  if v17 = sk0 then (bO (gfI M17 l0 13 22) fun v26 =>
  bO (pfv M17 l0 13 22 (.int (v26 + (1 : Int32)))) fun M31 =>
  some M31)
  else (B_X13_readMany_41 G F rv F l0 l1 l2 sk0 (0 : Int32) (1 : Int32) M17)
def P_X13_readMany (G : mG) (F : Nat) (rv : Nat → Int32 → Int32 → mM → Option mM) (l0 : Nat) (l1 : Int32) (l2 : Int32) (M : mM) : Option mM :=
  if l2 = 0 then (B_X13_readMany_11 G F rv l0 l1 l2 (93 : Int32) M)
  else (B_X13_readMany_11 G F rv l0 l1 l2 (125 : Int32) M)
def B_X13_readValue_o_433 (G : mG) (F : Nat) (rv : Nat → Int32 → Int32 → mM → Option mM) : Nat → Nat → Int32 → Int32 → mM → Option mM
  | 0, _, _, _, _ => none
  | n + 1, l0, l5, l7, M =>
  bO (gfI M l0 13 22) fun v436 =>
  if v436 ≤ l7 then (bO (gfR M l0 13 12) fun v472 =>
  bO (gfI M l0 13 25) fun v478 =>
  bO (gfR M l0 13 11) fun v482 =>
  bO (aI G M 0 v482 l5) fun v487 =>
  bO (sI M 0 v472 l5 (v478 - v487)) fun M489 =>
  some M489)
  else (bO (rcv M l0 13) fun _ =>
  bP (P_X13_good G F l0 M) fun v443 M443 =>
  if v443 = 0 then (bO (gfR M443 l0 13 12) fun v472 =>
  bO (gfI M443 l0 13 25) fun v478 =>
  bO (gfR M443 l0 13 11) fun v482 =>
  bO (aI G M443 0 v482 l5) fun v487 =>
  bO (sI M443 0 v472 l5 (v478 - v487)) fun M489 =>
  some M489)
  else (bO (gfR M443 l0 13 19) fun v451 =>
  bO (gfI M443 l0 13 20) fun v455 =>
  bO (aI G M443 1 v451 (v455 + l7)) fun v461 =>
  bO (rcv M443 l0 13) fun _ =>
  bO (P_X13_keep8 G F l0 v461 M443) fun M462 =>
  B_X13_readValue_o_433 G F rv n l0 l5 (l7 + 1) M462))
def B_X13_readValue_o_376 (G : mG) (F : Nat) (rv : Nat → Int32 → Int32 → mM → Option mM) (l0 : Nat) (l3 : Int32) (sk0 : Nat) (sk1 : Int32) (sk2 : Int32) (M : mM) : Option mM :=
  bO (sI M 0 sk0 sk1 sk2) fun M376 =>
  if l3 = (116 : Int32) then (bO (rcv M376 l0 13) fun _ =>
  bO (P_X13_word G F l0 (G.1 79) M376) fun M405 =>
  some M405)
  else (if l3 = (102 : Int32) then (bO (rcv M376 l0 13) fun _ =>
  bO (P_X13_word G F l0 (G.1 80) M376) fun M405 =>
  some M405)
  else (bO (rcv M376 l0 13) fun _ =>
  bO (P_X13_word G F l0 (G.1 81) M376) fun M405 =>
  some M405))
def B_X13_readValue_o_349 (G : mG) (F : Nat) (rv : Nat → Int32 → Int32 → mM → Option mM) (l0 : Nat) (l3 : Int32) (l5 : Int32) (M : mM) : Option mM :=
  bO (gfR M l0 13 6) fun v350 =>
  if l3 = (116 : Int32) then (B_X13_readValue_o_376 G F rv l0 l3 v350 l5 (2 : Int32) M)
  else (if l3 = (102 : Int32) then (B_X13_readValue_o_376 G F rv l0 l3 v350 l5 (1 : Int32) M)
  else (B_X13_readValue_o_376 G F rv l0 l3 v350 l5 (0 : Int32) M))
def B_X13_readValue_o_240 (G : mG) (F : Nat) (rv : Nat → Int32 → Int32 → mM → Option mM) (l0 : Nat) (l3 : Int32) (l5 : Int32) (sk0 : Nat) (sk1 : Int32) (sk2 : Int32) (M : mM) : Option mM :=
  bO (sI M 0 sk0 sk1 sk2) fun M240 =>
  bO (gfI M240 l0 13 26) fun v243 =>
  bO (pfv M240 l0 13 26 (.int (v243 + (1 : Int32)))) fun M248 =>
  bO (gfI M248 l0 13 22) fun v253 =>
  bO (pfv M248 l0 13 22 (.int (v253 + (1 : Int32)))) fun M258 =>
  if l3 = (123 : Int32) then (bO (rcv M258 l0 13) fun _ =>
  bO (P_X13_readMany G F rv l0 l5 (1 : Int32) M258) fun M275 =>
  bO (gfI M275 l0 13 26) fun v280 =>
  bO (pfv M275 l0 13 26 (.int (v280 - (1 : Int32)))) fun M285 =>
  some M285)
  else (bO (rcv M258 l0 13) fun _ =>
  bO (P_X13_readMany G F rv l0 l5 (0 : Int32) M258) fun M275 =>
  bO (gfI M275 l0 13 26) fun v280 =>
  bO (pfv M275 l0 13 26 (.int (v280 - (1 : Int32)))) fun M285 =>
  some M285)
def B_X13_readValue_o_210 (G : mG) (F : Nat) (rv : Nat → Int32 → Int32 → mM → Option mM) (l0 : Nat) (l3 : Int32) (l5 : Int32) (M : mM) : Option mM :=
  if l3 = (123 : Int32) then (bO (gfR M l0 13 6) fun v223 =>
  if l3 = (123 : Int32) then (B_X13_readValue_o_240 G F rv l0 l3 l5 v223 l5 (6 : Int32) M)
  else (B_X13_readValue_o_240 G F rv l0 l3 l5 v223 l5 (5 : Int32) M))
  else (if l3 = (91 : Int32) then (bO (gfR M l0 13 6) fun v223 =>
  if l3 = (123 : Int32) then (B_X13_readValue_o_240 G F rv l0 l3 l5 v223 l5 (6 : Int32) M)
  else (B_X13_readValue_o_240 G F rv l0 l3 l5 v223 l5 (5 : Int32) M))
  else (if l3 = (34 : Int32) then (bO (gfR M l0 13 6) fun v298 =>
  bO (sI M 0 v298 l5 (4 : Int32)) fun M304 =>
  bO (rcv M304 l0 13) fun _ =>
  bO (P_X13_readString G F l0 M304) fun M306 =>
  bO (gfR M306 l0 13 12) fun v310 =>
  bO (gfI M306 l0 13 25) fun v316 =>
  bO (gfR M306 l0 13 11) fun v320 =>
  bO (aI G M306 0 v320 l5) fun v325 =>
  bO (sI M306 0 v310 l5 (v316 - v325)) fun M327 =>
  some M327)
  else (if l3 = (116 : Int32) then (B_X13_readValue_o_349 G F rv l0 l3 l5 M)
  else (if l3 = (102 : Int32) then (B_X13_readValue_o_349 G F rv l0 l3 l5 M)
  else (if l3 = (110 : Int32) then (B_X13_readValue_o_349 G F rv l0 l3 l5 M)
  else (bO (gfR M l0 13 6) fun v412 =>
  bO (sI M 0 v412 l5 (3 : Int32)) fun M418 =>
  bO (gfI M418 l0 13 22) fun v420 =>
  bO (rcv M418 l0 13) fun _ =>
  bO (P_X13_number G F l0 M418) fun M426 =>
  B_X13_readValue_o_433 G F rv F l0 l5 v420 M426))))))
def B_X13_readValue_o_111 (G : mG) (F : Nat) (rv : Nat → Int32 → Int32 → mM → Option mM) (l0 : Nat) (l1 : Int32) (l2 : Int32) (l3 : Int32) (M : mM) : Option mM :=
  bO (gfI M l0 13 24) fun v115 =>
  bO (gfR M l0 13 16) fun v120 =>
  bO (gfI M l0 13 24) fun v124 =>
  bO (aI G M 0 v120 v124) fun v127 =>
  bO (gfR M l0 13 16) fun v132 =>
  bO (gfI M l0 13 24) fun v136 =>
  bO (aI G M 0 v132 v136) fun v140 =>
  bO (sI M 0 v132 v136 (v140 + (1 : Int32))) fun M143 =>
  bO (gfR M143 l0 13 7) fun v145 =>
  bO (sI M143 0 v145 (((600 : Int32) * v115) + v127) l1) fun M151 =>
  bO (gfR M151 l0 13 8) fun v153 =>
  bO (sI M151 0 v153 (((600 : Int32) * v115) + v127) l2) fun M159 =>
  bO (gfR M159 l0 13 9) fun v161 =>
  bO (gfI M159 l0 13 22) fun v167 =>
  bO (sI M159 0 v161 (((600 : Int32) * v115) + v127) v167) fun M170 =>
  bO (gfR M170 l0 13 10) fun v172 =>
  bO (sI M170 0 v172 (((600 : Int32) * v115) + v127) (0 : Int32)) fun M178 =>
  bO (gfR M178 l0 13 11) fun v180 =>
  bO (gfI M178 l0 13 25) fun v186 =>
  bO (sI M178 0 v180 (((600 : Int32) * v115) + v127) v186) fun M189 =>
  bO (gfR M189 l0 13 12) fun v191 =>
  bO (sI M189 0 v191 (((600 : Int32) * v115) + v127) (0 : Int32)) fun M197 =>
  if 0 ≤ l1 then (B_X13_readValue_o_210 G F rv l0 l3 (((600 : Int32) * v115) + v127) M197)
  else (bO (gfR M197 l0 13 14) fun v203 =>
  bO (sI M197 0 v203 (((600 : Int32) * v115) + v127) (-1 : Int32)) fun M209 =>
  B_X13_readValue_o_210 G F rv l0 l3 (((600 : Int32) * v115) + v127) M209)
def B_X13_readValue_o_59 (G : mG) (F : Nat) (rv : Nat → Int32 → Int32 → mM → Option mM) (l0 : Nat) (l1 : Int32) (l2 : Int32) (l3 : Int32) (sk0 : Int32) (M : mM) : Option mM :=
  if sk0 = 0 then (bO (gfI M l0 13 22) fun v104 =>
  bO (rcv M l0 13) fun _ =>
  bO (P_X13_fail G F l0 v104 M) fun M107 =>
  some M107)
  else (bO (gfR M l0 13 16) fun v67 =>
  bO (gfI M l0 13 24) fun v71 =>
  bO (aI G M 0 v67 v71) fun v74 =>
  if v74 = (600 : Int32) then (bO (gfI M l0 13 22) fun v104 =>
  bO (rcv M l0 13) fun _ =>
  bO (P_X13_fail G F l0 v104 M) fun M107 =>
  some M107)
  else (if l3 = (123 : Int32) then (bO (gfI M l0 13 26) fun v94 =>
  if v94 = (40 : Int32) then (bO (gfI M l0 13 22) fun v104 =>
  bO (rcv M l0 13) fun _ =>
  bO (P_X13_fail G F l0 v104 M) fun M107 =>
  some M107)
  else (B_X13_readValue_o_111 G F rv l0 l1 l2 l3 M))
  else (if l3 = (91 : Int32) then (bO (gfI M l0 13 26) fun v94 =>
  if v94 = (40 : Int32) then (bO (gfI M l0 13 22) fun v104 =>
  bO (rcv M l0 13) fun _ =>
  bO (P_X13_fail G F l0 v104 M) fun M107 =>
  some M107)
  else (B_X13_readValue_o_111 G F rv l0 l1 l2 l3 M))
  else (B_X13_readValue_o_111 G F rv l0 l1 l2 l3 M))))
def P_X13_readValue_o (G : mG) (F : Nat) (rv : Nat → Int32 → Int32 → mM → Option mM) (l0 : Nat) (l1 : Int32) (l2 : Int32) (M : mM) : Option mM :=
  bO (rcv M l0 13) fun _ =>
  bP (P_X13_at G F l0 M) fun v1 M1 =>
  if v1 = (123 : Int32) then (B_X13_readValue_o_59 G F rv l0 l1 l2 v1 (1 : Int32) M1)
  else (if v1 = (91 : Int32) then (B_X13_readValue_o_59 G F rv l0 l1 l2 v1 (1 : Int32) M1)
  else (if v1 = (34 : Int32) then (B_X13_readValue_o_59 G F rv l0 l1 l2 v1 (1 : Int32) M1)
  else (if v1 = (45 : Int32) then (B_X13_readValue_o_59 G F rv l0 l1 l2 v1 (1 : Int32) M1)
  else (bP (P_X13_isDigit G F v1 M1) fun v30 M30 =>
  if v30 = 0 then (if v1 = (116 : Int32) then (B_X13_readValue_o_59 G F rv l0 l1 l2 v1 (1 : Int32) M30)
  else (if v1 = (102 : Int32) then (B_X13_readValue_o_59 G F rv l0 l1 l2 v1 (1 : Int32) M30)
  else (if v1 = (110 : Int32) then (B_X13_readValue_o_59 G F rv l0 l1 l2 v1 (1 : Int32) M30)
  else (B_X13_readValue_o_59 G F rv l0 l1 l2 v1 (0 : Int32) M30))))
  else (B_X13_readValue_o_59 G F rv l0 l1 l2 v1 (1 : Int32) M30)))))
def PD_X13_readValue (G : mG) (F : Nat) : Nat → Nat → Int32 → Int32 → mM → Option mM
  | 0, _, _, _, _ => none
  | d + 1, l0, l1, l2, M => P_X13_readValue_o G F (PD_X13_readValue G F d) l0 l1 l2 M
def P_X13_readValue (G : mG) (F : Nat) (l0 : Nat) (l1 : Int32) (l2 : Int32) (M : mM) : Option mM := PD_X13_readValue G F 45 l0 l1 l2 M
def P_X13_read (G : mG) (F : Nat) (l0 : Nat) (l1 : Nat) (l2 : Int32) (l3 : Int32) (l4 : Int32) (M : mM) : Option (Int32 × mM) :=
  bO (pfv M l0 13 19 (.ref l1)) fun M2 =>
  bO (pfv M2 l0 13 20 (.int l2)) fun M7 =>
  bO (pfv M7 l0 13 21 (.int l3)) fun M12 =>
  bO (pfv M12 l0 13 22 (.int (0 : Int32))) fun M17 =>
  bO (pfv M17 l0 13 23 (.int (-1 : Int32))) fun M22 =>
  bO (pfv M22 l0 13 24 (.int l4)) fun M28 =>
  bO (gfR M28 l0 13 16) fun v32 =>
  bO (sI M28 0 v32 l4 (0 : Int32)) fun M38 =>
  bO (pfv M38 l0 13 25 (.int ((8200 : Int32) * l4))) fun M46 =>
  bO (pfv M46 l0 13 26 (.int (0 : Int32))) fun M51 =>
  bO (rcv M51 l0 13) fun _ =>
  bO (P_X13_blanks G F l0 M51) fun M55 =>
  bO (rcv M55 l0 13) fun _ =>
  bO (P_X13_readValue G F l0 (-1 : Int32) (0 : Int32) M55) fun M61 =>
  bO (rcv M61 l0 13) fun _ =>
  bP (P_X13_good G F l0 M61) fun v65 M65 =>
  if v65 = 0 then (bO (rcv M65 l0 13) fun _ =>
  bP (P_X13_good G F l0 M65) fun v95 M95 =>
  retZ v95 M95)
  else (bO (rcv M65 l0 13) fun _ =>
  bO (P_X13_blanks G F l0 M65) fun M72 =>
  bO (gfI M72 l0 13 22) fun v76 =>
  bO (gfI M72 l0 13 21) fun v80 =>
  if v80 ≤ v76 then (bO (rcv M72 l0 13) fun _ =>
  bP (P_X13_good G F l0 M72) fun v95 M95 =>
  retZ v95 M95)
  else (bO (gfI M72 l0 13 22) fun v88 =>
  bO (rcv M72 l0 13) fun _ =>
  bO (P_X13_fail G F l0 v88 M72) fun M91 =>
  bO (rcv M91 l0 13) fun _ =>
  bP (P_X13_good G F l0 M91) fun v95 M95 =>
  retZ v95 M95))
def P_X13_json (G : mG) (F : Nat) (l0 : Nat) (l1 : Int32) (M : mM) : Option (Int32 × mM) :=
  bP (P_X13_isRow G F l1 M) fun v1 M1 =>
  if v1 = 0 then (some ((-2 : Int32), M1))
  else (bO (gfR M1 l0 13 2) fun v12 =>
  bO (gfR M1 l0 13 3) fun v21 =>
  bO (aI G M1 0 v21 l1) fun v25 =>
  bO (gfI M1 l0 13 17) fun v28 =>
  bO (rcv M1 l0 13) fun _ =>
  bP (P_X13_read G F l0 v12 ((8192 : Int32) * l1) v25 ((1 : Int32) - v28) M1) fun v32 M32 =>
  if v32 = 0 then (bO (gfI M32 l0 13 23) fun v41 =>
  some (((-100 : Int32) - v41), M32))
  else (bO (gfI M32 l0 13 17) fun v49 =>
  bO (pfv M32 l0 13 17 (.int ((1 : Int32) - v49))) fun M53 =>
  bO (pfZ M53 l0 13 18 (1 : Int32)) fun M58 =>
  bO (gfR M58 l0 13 16) fun v62 =>
  bO (gfI M58 l0 13 17) fun v66 =>
  bO (aI G M58 0 v62 v66) fun v69 =>
  some (v69, M58)))
def P_X13_isValue (G : mG) (F : Nat) (l0 : Nat) (l1 : Int32) (M : mM) : Option (Int32 × mM) :=
  bO (gfI M l0 13 18) fun v1 =>
  if v1 = 0 then (retZ (0 : Int32) M)
  else (if l1 < 0 then (retZ (0 : Int32) M)
  else (bO (gfR M l0 13 16) fun v13 =>
  bO (gfI M l0 13 17) fun v17 =>
  bO (aI G M 0 v13 v17) fun v20 =>
  if v20 ≤ l1 then (retZ (0 : Int32) M)
  else (retZ (1 : Int32) M)))
def P_X13_value (G : mG) (F : Nat) (l0 : Nat) (l1 : Int32) (l2 : Int32) (M : mM) : Option (Int32 × mM) :=
  bO (rcv M l0 13) fun _ =>
  bP (P_X13_isValue G F l0 l1 M) fun v2 M2 =>
  if v2 = 0 then (some ((-2 : Int32), M2))
  else (if l2 < 0 then (some ((-2 : Int32), M2))
  else (if l2 ≤ (4 : Int32) then (bO (gfI M2 l0 13 17) fun v24 =>
  if l2 = (0 : Int32) then (bO (gfR M2 l0 13 6) fun v65 =>
  bO (aI G M2 0 v65 (((600 : Int32) * v24) + l1)) fun v69 =>
  some (v69, M2))
  else (if l2 = (1 : Int32) then (bO (gfR M2 l0 13 6) fun v72 =>
  bO (aI G M2 0 v72 (((600 : Int32) * v24) + l1)) fun v76 =>
  if (5 : Int32) ≤ v76 then (bO (gfR M2 l0 13 10) fun v91 =>
  bO (aI G M2 0 v91 (((600 : Int32) * v24) + l1)) fun v95 =>
  some (v95, M2))
  else (bO (gfR M2 l0 13 12) fun v82 =>
  bO (aI G M2 0 v82 (((600 : Int32) * v24) + l1)) fun v86 =>
  some (v86, M2)))
  else (if l2 = (2 : Int32) then (bO (gfR M2 l0 13 7) fun v98 =>
  bO (aI G M2 0 v98 (((600 : Int32) * v24) + l1)) fun v102 =>
  some (v102, M2))
  else (if l2 = (3 : Int32) then (bO (gfR M2 l0 13 7) fun v105 =>
  bO (aI G M2 0 v105 (((600 : Int32) * v24) + l1)) fun v109 =>
  if 0 ≤ v109 then (bO (gfR M2 l0 13 8) fun v118 =>
  bO (aI G M2 0 v118 (((600 : Int32) * v24) + l1)) fun v122 =>
  some (v122, M2))
  else (some ((0 : Int32), M2)))
  else (bO (gfR M2 l0 13 9) fun v125 =>
  bO (aI G M2 0 v125 (((600 : Int32) * v24) + l1)) fun v129 =>
  some (v129, M2))))))
  else (some ((-2 : Int32), M2))))
def B_X13_text_39 (G : mG) (F : Nat) (l0 : Nat) (l2 : Int32) (M : mM) : Option (Int32 × mM) :=
  bO (gfR M l0 13 15) fun v41 =>
  bO (gfR M l0 13 11) fun v45 =>
  bO (aI G M 0 v45 l2) fun v49 =>
  bO (gfR M l0 13 12) fun v51 =>
  bO (aI G M 0 v51 l2) fun v55 =>
  bO (rcv M l0 13) fun _ =>
  bP (P_X13_tell G F l0 v41 v49 v55 M) fun v56 M56 =>
  some (v56, M56)
def P_X13_text (G : mG) (F : Nat) (l0 : Nat) (l1 : Int32) (M : mM) : Option (Int32 × mM) :=
  bO (gfI M l0 13 17) fun v4 =>
  bO (rcv M l0 13) fun _ =>
  bP (P_X13_isValue G F l0 l1 M) fun v13 M13 =>
  if v13 = 0 then (some ((-2 : Int32), M13))
  else (bO (gfR M13 l0 13 6) fun v20 =>
  bO (aI G M13 0 v20 (((600 : Int32) * v4) + l1)) fun v24 =>
  if v24 = (3 : Int32) then (B_X13_text_39 G F l0 (((600 : Int32) * v4) + l1) M13)
  else (bO (gfR M13 l0 13 6) fun v30 =>
  bO (aI G M13 0 v30 (((600 : Int32) * v4) + l1)) fun v34 =>
  if v34 = (4 : Int32) then (B_X13_text_39 G F l0 (((600 : Int32) * v4) + l1) M13)
  else (some ((-2 : Int32), M13))))
def P_X13_name (G : mG) (F : Nat) (l0 : Nat) (l1 : Int32) (M : mM) : Option (Int32 × mM) :=
  bO (gfI M l0 13 17) fun v4 =>
  bO (rcv M l0 13) fun _ =>
  bP (P_X13_isValue G F l0 l1 M) fun v13 M13 =>
  if v13 = 0 then (some ((-2 : Int32), M13))
  else (bO (gfR M13 l0 13 14) fun v20 =>
  bO (aI G M13 0 v20 (((600 : Int32) * v4) + l1)) fun v24 =>
  if v24 < 0 then (some ((-2 : Int32), M13))
  else (bO (gfR M13 l0 13 15) fun v30 =>
  bO (gfR M13 l0 13 13) fun v34 =>
  bO (aI G M13 0 v34 (((600 : Int32) * v4) + l1)) fun v38 =>
  bO (gfR M13 l0 13 14) fun v40 =>
  bO (aI G M13 0 v40 (((600 : Int32) * v4) + l1)) fun v44 =>
  bO (rcv M13 l0 13) fun _ =>
  bP (P_X13_tell G F l0 v30 v38 v44 M13) fun v45 M45 =>
  some (v45, M45)))
def B_X13_member_42 (G : mG) (F : Nat) : Nat → Nat → Int32 → Int32 → Int32 → mM → Option (Int32 × mM)
  | 0, _, _, _, _, _ => none
  | n + 1, l0, l1, l2, l3, M =>
  bO (gfR M l0 13 16) fun v44 =>
  bO (gfI M l0 13 17) fun v48 =>
  bO (aI G M 0 v44 v48) fun v51 =>
  if v51 ≤ l3 then (some ((-1 : Int32), M))
  else (bO (gfI M l0 13 17) fun v59 =>
  bO (gfR M l0 13 7) fun v68 =>
  bO (aI G M 0 v68 (((600 : Int32) * v59) + l3)) fun v73 =>
  if v73 = l1 then (bO (gfR M l0 13 14) fun v79 =>
  bO (aI G M 0 v79 (((600 : Int32) * v59) + l3)) fun v84 =>
  bO (gfR M l0 13 3) fun v86 =>
  bO (aI G M 0 v86 l2) fun v90 =>
  if v84 = v90 then (bO (gfR M l0 13 15) fun v95 =>
  bO (gfR M l0 13 13) fun v99 =>
  bO (aI G M 0 v99 (((600 : Int32) * v59) + l3)) fun v104 =>
  bO (gfR M l0 13 2) fun v106 =>
  bO (gfR M l0 13 3) fun v115 =>
  bO (aI G M 0 v115 l2) fun v119 =>
  bP (P_X13_same G F v95 v104 v106 ((8192 : Int32) * l2) v119 M) fun v120 M120 =>
  if v120 = 0 then (B_X13_member_42 G F n l0 l1 l2 (l3 + 1) M120)
  else (some (l3, M120)))
  else (B_X13_member_42 G F n l0 l1 l2 (l3 + 1) M))
  else (B_X13_member_42 G F n l0 l1 l2 (l3 + 1) M))
def P_X13_member (G : mG) (F : Nat) (l0 : Nat) (l1 : Int32) (l2 : Int32) (M : mM) : Option (Int32 × mM) :=
  bO (rcv M l0 13) fun _ =>
  bP (P_X13_isValue G F l0 l1 M) fun v2 M2 =>
  if v2 = 0 then (some ((-2 : Int32), M2))
  else (bO (gfR M2 l0 13 6) fun v9 =>
  bO (gfI M2 l0 13 17) fun v16 =>
  bO (aI G M2 0 v9 (((600 : Int32) * v16) + l1)) fun v22 =>
  if v22 = (6 : Int32) then (bP (P_X13_isRow G F l2 M2) fun v29 M29 =>
  if v29 = 0 then (some ((-2 : Int32), M29))
  else (B_X13_member_42 G F F l0 l1 l2 (l1 + (1 : Int32)) M29))
  else (some ((-2 : Int32), M2)))
def P_X13_say (G : mG) (F : Nat) (l0 : Nat) (l1 : Int32) (M : mM) : Option mM :=
  bO (gfI M l0 13 28) fun v1 =>
  if (8192 : Int32) ≤ v1 then (bO (gfI M l0 13 28) fun v23 =>
  bO (pfv M l0 13 28 (.int (v23 + (1 : Int32)))) fun M28 =>
  some M28)
  else (bO (gfR M l0 13 27) fun v11 =>
  bO (gfI M l0 13 28) fun v15 =>
  bO (sI M 1 v11 v15 ((l1.toInt8.toInt32).toInt8.toInt32)) fun M20 =>
  bO (gfI M20 l0 13 28) fun v23 =>
  bO (pfv M20 l0 13 28 (.int (v23 + (1 : Int32)))) fun M28 =>
  some M28)
def B_X13_sayAll_2 (G : mG) (F : Nat) : Nat → Nat → Nat → Int32 → mM → Option mM
  | 0, _, _, _, _ => none
  | n + 1, l0, l1, l2, M =>
  bO (rcs G l1) fun _ =>
  bP (P_J0_length_8abf5 G F l1 M) fun v4 M4 =>
  if v4 ≤ l2 then (some M4)
  else (bO (rcs G l1) fun _ =>
  bP (P_J0_charAt_5068e G F l1 l2 M4) fun v13 M13 =>
  bO (rcv M13 l0 13) fun _ =>
  bO (P_X13_say G F l0 v13 M13) fun M16 =>
  B_X13_sayAll_2 G F n l0 l1 (l2 + 1) M16)
def P_X13_sayAll (G : mG) (F : Nat) (l0 : Nat) (l1 : Nat) (M : mM) : Option mM :=
  B_X13_sayAll_2 G F F l0 l1 (0 : Int32) M
def B_X13_sayString_106 (G : mG) (F : Nat) (r9 : Nat → Nat → Int32 → Int32 → Int32 → mM → Option mM) (l0 : Nat) (l1 : Nat) (l2 : Int32) (l3 : Int32) (l4 : Int32) (l5 : Int32) (sk0 : Int32) (M : mM) : Option mM :=
  if sk0 < 0 then (if (32 : Int32) ≤ l5 then (bO (rcv M l0 13) fun _ =>
  bO (P_X13_say G F l0 l5 M) fun M199 =>
  r9 l0 l1 l2 l3 (l4 + 1) M199)
  else (bO (rcv M l0 13) fun _ =>
  bO (P_X13_sayAll G F l0 (G.1 83) M) fun M145 =>
  bO (rcv M145 l0 13) fun _ =>
  bO (P_X13_say G F l0 ((48 : Int32) + (l5 / (16 : Int32))) M145) fun M157 =>
  if (10 : Int32) ≤ (l5 - l5 / (16 : Int32) * (16 : Int32)) then (bO (rcv M157 l0 13) fun _ =>
  bO (P_X13_say G F l0 ((87 : Int32) + (l5 - l5 / (16 : Int32) * (16 : Int32))) M157) fun M190 =>
  r9 l0 l1 l2 l3 (l4 + 1) M190)
  else (bO (rcv M157 l0 13) fun _ =>
  bO (P_X13_say G F l0 ((48 : Int32) + (l5 - l5 / (16 : Int32) * (16 : Int32))) M157) fun M190 =>
  r9 l0 l1 l2 l3 (l4 + 1) M190)))
  else (bO (rcv M l0 13) fun _ =>
  bO (P_X13_say G F l0 (92 : Int32) M) fun M116 =>
  bO (rcs G (G.1 82)) fun _ =>
  bP (P_J0_charAt_5068e G F (G.1 82) sk0 M116) fun v125 M125 =>
  bO (rcv M125 l0 13) fun _ =>
  bO (P_X13_say G F l0 v125 M125) fun M128 =>
  r9 l0 l1 l2 l3 (l4 + 1) M128)
def B_X13_sayString_9 (G : mG) (F : Nat) : Nat → Nat → Nat → Int32 → Int32 → Int32 → mM → Option mM
  | 0, _, _, _, _, _, _ => none
  | n + 1, l0, l1, l2, l3, l4, M =>
  if l3 ≤ l4 then (bO (rcv M l0 13) fun _ =>
  bO (P_X13_say G F l0 (34 : Int32) M) fun M211 =>
  some M211)
  else (bO (aI G M 1 l1 (l2 + l4)) fun v20 =>
  if (v20 &&& (255 : Int32)) = (34 : Int32) then (B_X13_sayString_106 G F (B_X13_sayString_9 G F n) l0 l1 l2 l3 l4 (v20 &&& (255 : Int32)) (0 : Int32) M)
  else (if (v20 &&& (255 : Int32)) = (92 : Int32) then (B_X13_sayString_106 G F (B_X13_sayString_9 G F n) l0 l1 l2 l3 l4 (v20 &&& (255 : Int32)) (1 : Int32) M)
  else (if (v20 &&& (255 : Int32)) = (8 : Int32) then (B_X13_sayString_106 G F (B_X13_sayString_9 G F n) l0 l1 l2 l3 l4 (v20 &&& (255 : Int32)) (2 : Int32) M)
  else (if (v20 &&& (255 : Int32)) = (12 : Int32) then (B_X13_sayString_106 G F (B_X13_sayString_9 G F n) l0 l1 l2 l3 l4 (v20 &&& (255 : Int32)) (3 : Int32) M)
  else (if (v20 &&& (255 : Int32)) = (10 : Int32) then (B_X13_sayString_106 G F (B_X13_sayString_9 G F n) l0 l1 l2 l3 l4 (v20 &&& (255 : Int32)) (4 : Int32) M)
  else (if (v20 &&& (255 : Int32)) = (13 : Int32) then (B_X13_sayString_106 G F (B_X13_sayString_9 G F n) l0 l1 l2 l3 l4 (v20 &&& (255 : Int32)) (5 : Int32) M)
  else (if (v20 &&& (255 : Int32)) = (9 : Int32) then (B_X13_sayString_106 G F (B_X13_sayString_9 G F n) l0 l1 l2 l3 l4 (v20 &&& (255 : Int32)) (6 : Int32) M)
  else (B_X13_sayString_106 G F (B_X13_sayString_9 G F n) l0 l1 l2 l3 l4 (v20 &&& (255 : Int32)) (-1 : Int32) M))))))))
def P_X13_sayString (G : mG) (F : Nat) (l0 : Nat) (l1 : Nat) (l2 : Int32) (l3 : Int32) (M : mM) : Option mM :=
  bO (rcv M l0 13) fun _ =>
  bO (P_X13_say G F l0 (34 : Int32) M) fun M3 =>
  B_X13_sayString_9 G F F l0 l1 l2 l3 (0 : Int32) M3
def P_X13_saved (G : mG) (F : Nat) (l0 : Nat) (M : mM) : Option (Int32 × mM) :=
  bO (gfI M l0 13 28) fun v1 =>
  if v1 ≤ (8192 : Int32) then (bO (gfR M l0 13 27) fun v17 =>
  bO (gfI M l0 13 28) fun v22 =>
  bO (rcv M l0 13) fun _ =>
  bP (P_X13_tell G F l0 v17 (0 : Int32) v22 M) fun v25 M25 =>
  some (v25, M25))
  else (some ((-3 : Int32), M))
def B_X13_sayValue_o_198 (G : mG) (F : Nat) (rv : Nat → Int32 → mM → Option mM) (r153 : Nat → Int32 → Int32 → Int32 → Int32 → Int32 → mM → Option mM) (l0 : Nat) (l1 : Int32) (l2 : Int32) (l3 : Int32) (l4 : Int32) (l5 : Int32) (M : mM) : Option mM :=
  if l2 = (6 : Int32) then (bO (gfR M l0 13 15) fun v209 =>
  bO (gfR M l0 13 13) fun v213 =>
  bO (aI G M 0 v213 l5) fun v218 =>
  bO (gfR M l0 13 14) fun v220 =>
  bO (aI G M 0 v220 l5) fun v225 =>
  bO (rcv M l0 13) fun _ =>
  bO (P_X13_sayString G F l0 v209 v218 v225 M) fun M226 =>
  bO (rcv M226 l0 13) fun _ =>
  bO (P_X13_say G F l0 (58 : Int32) M226) fun M232 =>
  bO (rcv M232 l0 13) fun _ =>
  bO (rv l0 l5 M232) fun M238 =>
  r153 l0 l1 l2 l3 (l4 + 1) (l5 + 1) M238)
  else (bO (rcv M l0 13) fun _ =>
  bO (rv l0 l5 M) fun M238 =>
  r153 l0 l1 l2 l3 (l4 + 1) (l5 + 1) M238)
def B_X13_sayValue_o_153 (G : mG) (F : Nat) (rv : Nat → Int32 → mM → Option mM) : Nat → Nat → Int32 → Int32 → Int32 → Int32 → Int32 → mM → Option mM
  | 0, _, _, _, _, _, _, _ => none
  | n + 1, l0, l1, l2, l3, l4, l5, M =>
  if (l3 + (600 : Int32)) ≤ l5 then (if l2 = (5 : Int32) then (bO (rcv M l0 13) fun _ =>
  bO (P_X13_say G F l0 (93 : Int32) M) fun M260 =>
  some M260)
  else (bO (rcv M l0 13) fun _ =>
  bO (P_X13_say G F l0 (125 : Int32) M) fun M260 =>
  some M260))
  else (bO (gfR M l0 13 10) fun v166 =>
  bO (aI G M 0 v166 l1) fun v170 =>
  if v170 ≤ l4 then (if l2 = (5 : Int32) then (bO (rcv M l0 13) fun _ =>
  bO (P_X13_say G F l0 (93 : Int32) M) fun M260 =>
  some M260)
  else (bO (rcv M l0 13) fun _ =>
  bO (P_X13_say G F l0 (125 : Int32) M) fun M260 =>
  some M260))
  else (bO (gfR M l0 13 7) fun v175 =>
  bO (aI G M 0 v175 l5) fun v180 =>
  if v180 = (l1 - l3) then (if l4 ≤ 0 then (B_X13_sayValue_o_198 G F rv (B_X13_sayValue_o_153 G F rv n) l0 l1 l2 l3 l4 l5 M)
  else (bO (rcv M l0 13) fun _ =>
  bO (P_X13_say G F l0 (44 : Int32) M) fun M195 =>
  B_X13_sayValue_o_198 G F rv (B_X13_sayValue_o_153 G F rv n) l0 l1 l2 l3 l4 l5 M195))
  else (B_X13_sayValue_o_153 G F rv n l0 l1 l2 l3 l4 (l5 + 1) M)))
def B_X13_sayValue_o_127 (G : mG) (F : Nat) (rv : Nat → Int32 → mM → Option mM) (l0 : Nat) (l1 : Int32) (l2 : Int32) (sk0 : Nat) (sk1 : Int32) (M : mM) : Option mM :=
  bO (rcv M sk0 13) fun _ =>
  bO (P_X13_say G F sk0 sk1 M) fun M127 =>
  if l1 < (600 : Int32) then (B_X13_sayValue_o_153 G F rv F l0 l1 l2 (0 : Int32) (0 : Int32) (l1 + (1 : Int32)) M127)
  else (B_X13_sayValue_o_153 G F rv F l0 l1 l2 (600 : Int32) (0 : Int32) (l1 + (1 : Int32)) M127)
def B_X13_sayValue_o_50 (G : mG) (F : Nat) (rv : Nat → Int32 → mM → Option mM) : Nat → Nat → Int32 → Int32 → mM → Option mM
  | 0, _, _, _, _ => none
  | n + 1, l0, l1, l3, M =>
  bO (gfR M l0 13 12) fun v52 =>
  bO (aI G M 0 v52 l1) fun v56 =>
  if v56 ≤ l3 then (some M)
  else (bO (gfR M l0 13 15) fun v62 =>
  bO (gfR M l0 13 11) fun v66 =>
  bO (aI G M 0 v66 l1) fun v70 =>
  bO (aI G M 1 v62 (v70 + l3)) fun v73 =>
  bO (rcv M l0 13) fun _ =>
  bO (P_X13_say G F l0 v73 M) fun M74 =>
  B_X13_sayValue_o_50 G F rv n l0 l1 (l3 + 1) M74)
def P_X13_sayValue_o (G : mG) (F : Nat) (rv : Nat → Int32 → mM → Option mM) (l0 : Nat) (l1 : Int32) (M : mM) : Option mM :=
  bO (gfR M l0 13 6) fun v1 =>
  bO (aI G M 0 v1 l1) fun v5 =>
  if (3 : Int32) ≤ v5 then (if v5 = (3 : Int32) then (B_X13_sayValue_o_50 G F rv F l0 l1 (0 : Int32) M)
  else (if v5 = (4 : Int32) then (bO (gfR M l0 13 15) fun v93 =>
  bO (gfR M l0 13 11) fun v97 =>
  bO (aI G M 0 v97 l1) fun v101 =>
  bO (gfR M l0 13 12) fun v103 =>
  bO (aI G M 0 v103 l1) fun v107 =>
  bO (rcv M l0 13) fun _ =>
  bO (P_X13_sayString G F l0 v93 v101 v107 M) fun M108 =>
  some M108)
  else (if v5 = (5 : Int32) then (B_X13_sayValue_o_127 G F rv l0 l1 v5 l0 (91 : Int32) M)
  else (B_X13_sayValue_o_127 G F rv l0 l1 v5 l0 (123 : Int32) M))))
  else (if v5 = 0 then (bO (rcv M l0 13) fun _ =>
  bO (P_X13_sayAll G F l0 (G.1 81) M) fun M37 =>
  some M37)
  else (if v5 = (1 : Int32) then (bO (rcv M l0 13) fun _ =>
  bO (P_X13_sayAll G F l0 (G.1 80) M) fun M37 =>
  some M37)
  else (bO (rcv M l0 13) fun _ =>
  bO (P_X13_sayAll G F l0 (G.1 79) M) fun M37 =>
  some M37)))
def PD_X13_sayValue (G : mG) (F : Nat) : Nat → Nat → Int32 → mM → Option mM
  | 0, _, _, _ => none
  | d + 1, l0, l1, M => P_X13_sayValue_o G F (PD_X13_sayValue G F d) l0 l1 M
def P_X13_sayValue (G : mG) (F : Nat) (l0 : Nat) (l1 : Int32) (M : mM) : Option mM := PD_X13_sayValue G F 45 l0 l1 M
def P_X13_write (G : mG) (F : Nat) (l0 : Nat) (l1 : Int32) (M : mM) : Option (Int32 × mM) :=
  bO (rcv M l0 13) fun _ =>
  bP (P_X13_isValue G F l0 l1 M) fun v2 M2 =>
  if v2 = 0 then (some ((-2 : Int32), M2))
  else (bO (pfv M2 l0 13 28 (.int (0 : Int32))) fun M13 =>
  bO (gfI M13 l0 13 17) fun v21 =>
  bO (rcv M13 l0 13) fun _ =>
  bO (P_X13_sayValue G F l0 (((600 : Int32) * v21) + l1) M13) fun M27 =>
  bO (rcv M27 l0 13) fun _ =>
  bP (P_X13_saved G F l0 M27) fun v31 M31 =>
  some (v31, M31))
def P_X13_letterOf (G : mG) (F : Nat) (l0 : Int32) (M : mM) : Option (Int32 × mM) :=
  if (26 : Int32) ≤ l0 then (if (52 : Int32) ≤ l0 then (if (62 : Int32) ≤ l0 then (if l0 = (62 : Int32) then (some ((45 : Int32), M))
  else (some ((95 : Int32), M)))
  else (some ((((48 : Int32) + l0) - (52 : Int32)), M)))
  else (some ((((97 : Int32) + l0) - (26 : Int32)), M)))
  else (some (((65 : Int32) + l0), M))
def B_X13_sixOf_41 (G : mG) (F : Nat) (l0 : Int32) (M : mM) : Option (Int32 × mM) :=
  bP (P_X13_isDigit G F l0 M) fun v42 M42 =>
  if v42 = 0 then (if l0 = (45 : Int32) then (some ((62 : Int32), M42))
  else (if l0 = (95 : Int32) then (some ((63 : Int32), M42))
  else (some ((-1 : Int32), M42))))
  else (some (((l0 - (48 : Int32)) + (52 : Int32)), M42))
def B_X13_sixOf_19 (G : mG) (F : Nat) (l0 : Int32) (M : mM) : Option (Int32 × mM) :=
  if l0 < (97 : Int32) then (B_X13_sixOf_41 G F l0 M)
  else (if (122 : Int32) < l0 then (B_X13_sixOf_41 G F l0 M)
  else (some (((l0 - (97 : Int32)) + (26 : Int32)), M)))
def P_X13_sixOf (G : mG) (F : Nat) (l0 : Int32) (M : mM) : Option (Int32 × mM) :=
  if l0 < (65 : Int32) then (B_X13_sixOf_19 G F l0 M)
  else (if (90 : Int32) < l0 then (B_X13_sixOf_19 G F l0 M)
  else (some ((l0 - (65 : Int32)), M)))
def B_X13_sayLetters_36 (G : mG) (F : Nat) (r9 : Nat → Nat → Int32 → Int32 → Int32 → Int32 → Int32 → mM → Option mM) : Nat → Nat → Nat → Int32 → Int32 → Int32 → Int32 → Int32 → mM → Option mM
  | 0, _, _, _, _, _, _, _, _ => none
  | n + 1, l0, l1, l2, l3, l4, l5, l6, M =>
  if l5 < (6 : Int32) then (r9 l0 l1 l2 l3 l4 l5 (l6 + 1) M)
  else (bP (P_X13_letterOf G F ((l4 >>> ((l5 + (-6)) &&& 31)) &&& (63 : Int32)) M) fun v55 M55 =>
  bO (rcv M55 l0 13) fun _ =>
  bO (P_X13_say G F l0 v55 M55) fun M58 =>
  B_X13_sayLetters_36 G F r9 n l0 l1 l2 l3 l4 (l5 + (-6)) l6 M58)
def B_X13_sayLetters_9 (G : mG) (F : Nat) : Nat → Nat → Nat → Int32 → Int32 → Int32 → Int32 → Int32 → mM → Option mM
  | 0, _, _, _, _, _, _, _, _ => none
  | n + 1, l0, l1, l2, l3, l4, l5, l6, M =>
  if l3 ≤ l6 then (if l5 ≤ 0 then (some M)
  else (bP (P_X13_letterOf G F ((l4 <<< (((6 : Int32) - l5) &&& 31)) &&& (63 : Int32)) M) fun v87 M87 =>
  bO (rcv M87 l0 13) fun _ =>
  bO (P_X13_say G F l0 v87 M87) fun M90 =>
  some M90))
  else (bO (aI G M 1 l1 (l2 + l6)) fun v25 =>
  B_X13_sayLetters_36 G F (B_X13_sayLetters_9 G F n) F l0 l1 l2 l3 ((l4 <<< ((8 : Int32) &&& 31)) ||| (v25 &&& (255 : Int32))) (l5 + 8) l6 M)
def P_X13_sayLetters (G : mG) (F : Nat) (l0 : Nat) (l1 : Nat) (l2 : Int32) (l3 : Int32) (M : mM) : Option mM :=
  B_X13_sayLetters_9 G F F l0 l1 l2 l3 (0 : Int32) (0 : Int32) (0 : Int32) M
def B_X13_unletter_12 (G : mG) (F : Nat) : Nat → Nat → Nat → Int32 → Int32 → Nat → Int32 → Int32 → Int32 → Int32 → Int32 → mM → Option (Int32 × mM)
  | 0, _, _, _, _, _, _, _, _, _, _, _ => none
  | n + 1, l0, l1, l2, l3, l4, l5, l6, l7, l8, l9, M =>
  if l3 ≤ l9 then (if (l3 - l3 / (4 : Int32) * (4 : Int32)) = (1 : Int32) then (bO (pfv M l0 13 29 (.int l3)) fun M101 =>
  some ((-1 : Int32), M101))
  else (if (l6 &&& (((1 : Int32) <<< (l7 &&& 31)) - (1 : Int32))) = 0 then (some (l8, M))
  else (bO (pfv M l0 13 29 (.int (l3 - (1 : Int32)))) fun M122 =>
  some ((-1 : Int32), M122))))
  else (bO (aI G M 1 l1 (l2 + l9)) fun v23 =>
  bP (P_X13_sixOf G F v23 M) fun v24 M24 =>
  if 0 ≤ v24 then (if (l7 + 6) < (8 : Int32) then (B_X13_unletter_12 G F n l0 l1 l2 l3 l4 l5 (((l6 <<< ((6 : Int32) &&& 31)) ||| v24) &&& (65535 : Int32)) (l7 + 6) l8 (l9 + 1) M24)
  else (bO (sI M24 1 l4 (l5 + l8) ((((((l6 <<< ((6 : Int32) &&& 31)) ||| v24) &&& (65535 : Int32)) >>> (((l7 + 6) + (-8)) &&& 31)).toInt8.toInt32).toInt8.toInt32)) fun M82 =>
  B_X13_unletter_12 G F n l0 l1 l2 l3 l4 l5 (((l6 <<< ((6 : Int32) &&& 31)) ||| v24) &&& (65535 : Int32)) ((l7 + 6) + (-8)) (l8 + 1) (l9 + 1) M82))
  else (bO (pfv M24 l0 13 29 (.int l9)) fun M37 =>
  some ((-1 : Int32), M37)))
def P_X13_unletter (G : mG) (F : Nat) (l0 : Nat) (l1 : Nat) (l2 : Int32) (l3 : Int32) (l4 : Nat) (l5 : Int32) (M : mM) : Option (Int32 × mM) :=
  B_X13_unletter_12 G F F l0 l1 l2 l3 l4 l5 (0 : Int32) (0 : Int32) (0 : Int32) (0 : Int32) M
def P_X13_encode (G : mG) (F : Nat) (l0 : Nat) (l1 : Int32) (M : mM) : Option (Int32 × mM) :=
  bP (P_X13_isRow G F l1 M) fun v1 M1 =>
  if v1 = 0 then (some ((-2 : Int32), M1))
  else (bO (pfv M1 l0 13 28 (.int (0 : Int32))) fun M12 =>
  bO (gfR M12 l0 13 2) fun v17 =>
  bO (gfR M12 l0 13 3) fun v26 =>
  bO (aI G M12 0 v26 l1) fun v30 =>
  bO (rcv M12 l0 13) fun _ =>
  bO (P_X13_sayLetters G F l0 v17 ((8192 : Int32) * l1) v30 M12) fun M31 =>
  bO (rcv M31 l0 13) fun _ =>
  bP (P_X13_saved G F l0 M31) fun v35 M35 =>
  some (v35, M35))
def P_X13_decode (G : mG) (F : Nat) (l0 : Nat) (l1 : Int32) (M : mM) : Option (Int32 × mM) :=
  bP (P_X13_isRow G F l1 M) fun v1 M1 =>
  if v1 = 0 then (some ((-2 : Int32), M1))
  else (bO (gfR M1 l0 13 2) fun v12 =>
  bO (gfR M1 l0 13 3) fun v21 =>
  bO (aI G M1 0 v21 l1) fun v25 =>
  bO (gfR M1 l0 13 30) fun v27 =>
  bO (rcv M1 l0 13) fun _ =>
  bP (P_X13_unletter G F l0 v12 ((8192 : Int32) * l1) v25 v27 (0 : Int32) M1) fun v31 M31 =>
  if 0 ≤ v31 then (bO (gfR M31 l0 13 30) fun v51 =>
  bO (rcv M31 l0 13) fun _ =>
  bP (P_X13_tell G F l0 v51 (0 : Int32) v31 M31) fun v56 M56 =>
  some (v56, M56))
  else (bO (gfI M31 l0 13 29) fun v42 =>
  some (((-100 : Int32) - v42), M31)))
def P_X13_right (G : mG) (F : Nat) (l0 : Int32) (l1 : Int32) (M : mM) : Option (Int32 × mM) :=
  some (((ushI l0 l1) ||| (l0 <<< (((32 : Int32) - l1) &&& 31))), M)
def P_X13_right64 (G : mG) (F : Nat) (l0 : Int64) (l2 : Int32) (M : mM) : Option (Int64 × mM) :=
  some (((ushL l0 l2) ||| (shlL l0 ((64 : Int32) - l2))), M)
def P_X13_empty (G : mG) (F : Nat) (l0 : Nat) (M : mM) : Option mM :=
  bO (pfv M l0 13 37 (.int (0 : Int32))) fun M2 =>
  some M2
def P_X13_lay (G : mG) (F : Nat) (l0 : Nat) (l1 : Nat) (l2 : Int32) (l3 : Int32) (M : mM) : Option mM :=
  bO (gfR M l0 13 36) fun v3 =>
  bO (gfI M l0 13 37) fun v7 =>
  bO (P_X13_move G F l1 l2 v3 v7 l3 M) fun M11 =>
  bO (gfI M11 l0 13 37) fun v16 =>
  bO (pfv M11 l0 13 37 (.int (v16 + l3))) fun M21 =>
  some M21
def P_X13_layNumber (G : mG) (F : Nat) (l0 : Nat) (l1 : Int64) (l3 : Int32) (M : mM) : Option mM :=
  bO (gfR M l0 13 36) fun v1 =>
  bO (gfI M l0 13 37) fun v5 =>
  bO (P_X13_put G F v1 v5 l3 l1 M) fun M10 =>
  bO (gfI M10 l0 13 37) fun v15 =>
  bO (pfv M10 l0 13 37 (.int (v15 + l3))) fun M20 =>
  some M20
def B_X13_fill_18 (G : mG) (F : Nat) : Nat → Nat → Int32 → Int64 → mM → Option mM
  | 0, _, _, _, _ => none
  | n + 1, l0, l1, l2, M =>
  bO (gfI M l0 13 37) fun v19 =>
  bO (rmI v19 l1) fun v23 =>
  if v23 = (l1 - (l1 / (8 : Int32))) then (bO (rcv M l0 13) fun _ =>
  bO (P_X13_layNumber G F l0 (0 : Int64) ((l1 / (8 : Int32)) - (8 : Int32)) M) fun M51 =>
  bO (rcv M51 l0 13) fun _ =>
  bO (P_X13_layNumber G F l0 l2 (8 : Int32) M51) fun M58 =>
  some M58)
  else (bO (rcv M l0 13) fun _ =>
  bO (P_X13_layNumber G F l0 (0 : Int64) (1 : Int32) M) fun M36 =>
  B_X13_fill_18 G F n l0 l1 l2 M36)
def P_X13_fill (G : mG) (F : Nat) (l0 : Nat) (l1 : Int32) (M : mM) : Option mM :=
  bO (gfI M l0 13 37) fun v4 =>
  bO (rcv M l0 13) fun _ =>
  bO (P_X13_layNumber G F l0 (128 : Int64) (1 : Int32) M) fun M15 =>
  B_X13_fill_18 G F F l0 l1 ((8 : Int64) * (v4.toInt64)) M15
def P_X13_firstOf (G : mG) (F : Nat) (l0 : Int32) (M : mM) : Option (Int64 × mM) :=
  if l0 = (0 : Int32) then (some ((7640891576956012808 : Int64), M))
  else (if l0 = (1 : Int32) then (some ((-4942790177534073029 : Int64), M))
  else (if l0 = (2 : Int32) then (some ((4354685564936845355 : Int64), M))
  else (if l0 = (3 : Int32) then (some ((-6534734903238641935 : Int64), M))
  else (if l0 = (4 : Int32) then (some ((5840696475078001361 : Int64), M))
  else (if l0 = (5 : Int32) then (some ((-7276294671716946913 : Int64), M))
  else (if l0 = (6 : Int32) then (some ((2270897969802886507 : Int64), M))
  else (some ((6620516959819538809 : Int64), M))))))))
def B_X13_turn64_167 (G : mG) (F : Nat) : Nat → Nat → Int64 → Int64 → Int64 → Int64 → Int64 → Int64 → Int64 → Int64 → Int32 → mM → Option mM
  | 0, _, _, _, _, _, _, _, _, _, _, _ => none
  | n + 1, l0, l1, l3, l5, l7, l9, l11, l13, l15, l17, M =>
  if (80 : Int32) ≤ l17 then (bO (gfR M l0 13 34) fun v310 =>
  bO (aL G M v310 (0 : Int32)) fun v315 =>
  bO (sL M v310 (0 : Int32) (v315 + l1)) fun M318 =>
  bO (gfR M318 l0 13 34) fun v320 =>
  bO (aL G M318 v320 (1 : Int32)) fun v325 =>
  bO (sL M318 v320 (1 : Int32) (v325 + l3)) fun M328 =>
  bO (gfR M328 l0 13 34) fun v330 =>
  bO (aL G M328 v330 (2 : Int32)) fun v335 =>
  bO (sL M328 v330 (2 : Int32) (v335 + l5)) fun M339 =>
  bO (gfR M339 l0 13 34) fun v341 =>
  bO (aL G M339 v341 (3 : Int32)) fun v346 =>
  bO (sL M339 v341 (3 : Int32) (v346 + l7)) fun M350 =>
  bO (gfR M350 l0 13 34) fun v352 =>
  bO (aL G M350 v352 (4 : Int32)) fun v357 =>
  bO (sL M350 v352 (4 : Int32) (v357 + l9)) fun M361 =>
  bO (gfR M361 l0 13 34) fun v363 =>
  bO (aL G M361 v363 (5 : Int32)) fun v368 =>
  bO (sL M361 v363 (5 : Int32) (v368 + l11)) fun M372 =>
  bO (gfR M372 l0 13 34) fun v374 =>
  bO (aL G M372 v374 (6 : Int32)) fun v380 =>
  bO (sL M372 v374 (6 : Int32) (v380 + l13)) fun M384 =>
  bO (gfR M384 l0 13 34) fun v386 =>
  bO (aL G M384 v386 (7 : Int32)) fun v392 =>
  bO (sL M384 v386 (7 : Int32) (v392 + l15)) fun M396 =>
  some M396)
  else (bP (P_X13_right64 G F l9 (14 : Int32) M) fun v180 M180 =>
  bP (P_X13_right64 G F l9 (18 : Int32) M180) fun v187 M187 =>
  bP (P_X13_right64 G F l9 (41 : Int32) M187) fun v195 M195 =>
  bO (aL G M195 (G.1 1009) l17) fun v221 =>
  bO (gfR M195 l0 13 33) fun v224 =>
  bO (aL G M195 v224 l17) fun v229 =>
  bP (P_X13_right64 G F l1 (28 : Int32) M195) fun v236 M236 =>
  bP (P_X13_right64 G F l1 (34 : Int32) M236) fun v242 M242 =>
  bP (P_X13_right64 G F l1 (39 : Int32) M242) fun v249 M249 =>
  B_X13_turn64_167 G F n l0 (((((l15 + ((v180 ^^^ v187) ^^^ v195)) + ((l9 &&& l11) ^^^ ((l9 ^^^ (-1 : Int64)) &&& l13))) + v221) + v229) + (((v236 ^^^ v242) ^^^ v249) + (((l1 &&& l3) ^^^ (l1 &&& l5)) ^^^ (l3 &&& l5)))) l1 l3 l5 (l7 + ((((l15 + ((v180 ^^^ v187) ^^^ v195)) + ((l9 &&& l11) ^^^ ((l9 ^^^ (-1 : Int64)) &&& l13))) + v221) + v229)) l9 l11 l13 (l17 + 1) M249)
def B_X13_turn64_3 (G : mG) (F : Nat) : Nat → Nat → Int32 → mM → Option mM
  | 0, _, _, _ => none
  | n + 1, l0, l1, M =>
  if (80 : Int32) ≤ l1 then (bO (gfR M l0 13 34) fun v101 =>
  bO (aL G M v101 (0 : Int32)) fun v105 =>
  bO (gfR M l0 13 34) fun v108 =>
  bO (aL G M v108 (1 : Int32)) fun v112 =>
  bO (gfR M l0 13 34) fun v115 =>
  bO (aL G M v115 (2 : Int32)) fun v119 =>
  bO (gfR M l0 13 34) fun v123 =>
  bO (aL G M v123 (3 : Int32)) fun v127 =>
  bO (gfR M l0 13 34) fun v131 =>
  bO (aL G M v131 (4 : Int32)) fun v135 =>
  bO (gfR M l0 13 34) fun v139 =>
  bO (aL G M v139 (5 : Int32)) fun v143 =>
  bO (gfR M l0 13 34) fun v147 =>
  bO (aL G M v147 (6 : Int32)) fun v152 =>
  bO (gfR M l0 13 34) fun v156 =>
  bO (aL G M v156 (7 : Int32)) fun v161 =>
  B_X13_turn64_167 G F F l0 v105 v112 v119 v127 v135 v143 v152 v161 (0 : Int32) M)
  else (bO (gfR M l0 13 33) fun v10 =>
  bO (aL G M v10 (l1 - (15 : Int32))) fun v17 =>
  bO (gfR M l0 13 33) fun v20 =>
  bO (aL G M v20 (l1 - (2 : Int32))) fun v26 =>
  bO (gfR M l0 13 33) fun v30 =>
  bO (gfR M l0 13 33) fun v35 =>
  bO (aL G M v35 (l1 - (16 : Int32))) fun v42 =>
  bP (P_X13_right64 G F v17 (1 : Int32) M) fun v45 M45 =>
  bP (P_X13_right64 G F v17 (8 : Int32) M45) fun v51 M51 =>
  bO (gfR M51 l0 13 33) fun v62 =>
  bO (aL G M51 v62 (l1 - (7 : Int32))) fun v69 =>
  bP (P_X13_right64 G F v26 (19 : Int32) M51) fun v75 M75 =>
  bP (P_X13_right64 G F v26 (61 : Int32) M75) fun v82 M82 =>
  bO (sL M82 v30 l1 (((v42 + ((v45 ^^^ v51) ^^^ (ushL v17 (7 : Int32)))) + v69) + ((v75 ^^^ v82) ^^^ (ushL v26 (6 : Int32))))) fun M93 =>
  B_X13_turn64_3 G F n l0 (l1 + 1) M93)
def P_X13_turn64 (G : mG) (F : Nat) (l0 : Nat) (M : mM) : Option mM :=
  B_X13_turn64_3 G F F l0 (16 : Int32) M
def B_X13_digest64_91 (G : mG) (F : Nat) : Nat → Nat → Int32 → mM → Option mM
  | 0, _, _, _ => none
  | n + 1, l0, l1, M =>
  if (8 : Int32) ≤ l1 then (some M)
  else (bO (gfR M l0 13 35) fun v98 =>
  bO (gfR M l0 13 34) fun v108 =>
  bO (aL G M v108 l1) fun v112 =>
  bO (P_X13_put G F v98 ((8 : Int32) * l1) (8 : Int32) v112 M) fun M113 =>
  B_X13_digest64_91 G F n l0 (l1 + 1) M113)
def B_X13_digest64_43 (G : mG) (F : Nat) (r33 : Nat → Int32 → mM → Option mM) : Nat → Nat → Int32 → Int32 → mM → Option mM
  | 0, _, _, _, _ => none
  | n + 1, l0, l1, l2, M =>
  if (16 : Int32) ≤ l2 then (bO (rcv M l0 13) fun _ =>
  bO (P_X13_turn64 G F l0 M) fun M77 =>
  r33 l0 (l1 + 128) M77)
  else (bO (gfR M l0 13 33) fun v50 =>
  bO (gfR M l0 13 36) fun v55 =>
  bP (P_X13_longAt G F v55 (l1 + ((8 : Int32) * l2)) (8 : Int32) M) fun v66 M66 =>
  bO (sL M66 v50 l2 v66) fun M69 =>
  B_X13_digest64_43 G F r33 n l0 l1 (l2 + 1) M69)
def B_X13_digest64_33 (G : mG) (F : Nat) : Nat → Nat → Int32 → mM → Option mM
  | 0, _, _, _ => none
  | n + 1, l0, l1, M =>
  bO (gfI M l0 13 37) fun v35 =>
  if v35 ≤ l1 then (B_X13_digest64_91 G F F l0 (0 : Int32) M)
  else (B_X13_digest64_43 G F (B_X13_digest64_33 G F n) F l0 l1 (0 : Int32) M)
def B_X13_digest64_9 (G : mG) (F : Nat) : Nat → Nat → Int32 → mM → Option mM
  | 0, _, _, _ => none
  | n + 1, l0, l1, M =>
  if (8 : Int32) ≤ l1 then (B_X13_digest64_33 G F F l0 (0 : Int32) M)
  else (bO (gfR M l0 13 34) fun v16 =>
  bP (P_X13_firstOf G F l1 M) fun v21 M21 =>
  bO (sL M21 v16 l1 v21) fun M24 =>
  B_X13_digest64_9 G F n l0 (l1 + 1) M24)
def P_X13_digest64 (G : mG) (F : Nat) (l0 : Nat) (M : mM) : Option mM :=
  bO (rcv M l0 13) fun _ =>
  bO (P_X13_fill G F l0 (128 : Int32) M) fun M4 =>
  B_X13_digest64_9 G F F l0 (0 : Int32) M4
def B_X13_turn32_162 (G : mG) (F : Nat) : Nat → Nat → Int32 → Int32 → Int32 → Int32 → Int32 → Int32 → Int32 → Int32 → Int32 → mM → Option mM
  | 0, _, _, _, _, _, _, _, _, _, _, _ => none
  | n + 1, l0, l1, l2, l3, l4, l5, l6, l7, l8, l9, M =>
  if (64 : Int32) ≤ l9 then (bO (gfR M l0 13 32) fun v298 =>
  bO (aI G M 0 v298 (0 : Int32)) fun v303 =>
  bO (sI M 0 v298 (0 : Int32) (v303 + l1)) fun M306 =>
  bO (gfR M306 l0 13 32) fun v308 =>
  bO (aI G M306 0 v308 (1 : Int32)) fun v313 =>
  bO (sI M306 0 v308 (1 : Int32) (v313 + l2)) fun M316 =>
  bO (gfR M316 l0 13 32) fun v318 =>
  bO (aI G M316 0 v318 (2 : Int32)) fun v323 =>
  bO (sI M316 0 v318 (2 : Int32) (v323 + l3)) fun M326 =>
  bO (gfR M326 l0 13 32) fun v328 =>
  bO (aI G M326 0 v328 (3 : Int32)) fun v333 =>
  bO (sI M326 0 v328 (3 : Int32) (v333 + l4)) fun M337 =>
  bO (gfR M337 l0 13 32) fun v339 =>
  bO (aI G M337 0 v339 (4 : Int32)) fun v344 =>
  bO (sI M337 0 v339 (4 : Int32) (v344 + l5)) fun M348 =>
  bO (gfR M348 l0 13 32) fun v350 =>
  bO (aI G M348 0 v350 (5 : Int32)) fun v355 =>
  bO (sI M348 0 v350 (5 : Int32) (v355 + l6)) fun M359 =>
  bO (gfR M359 l0 13 32) fun v361 =>
  bO (aI G M359 0 v361 (6 : Int32)) fun v367 =>
  bO (sI M359 0 v361 (6 : Int32) (v367 + l7)) fun M371 =>
  bO (gfR M371 l0 13 32) fun v373 =>
  bO (aI G M371 0 v373 (7 : Int32)) fun v379 =>
  bO (sI M371 0 v373 (7 : Int32) (v379 + l8)) fun M383 =>
  some M383)
  else (bP (P_X13_right G F l5 (6 : Int32) M) fun v175 M175 =>
  bP (P_X13_right G F l5 (11 : Int32) M175) fun v182 M182 =>
  bP (P_X13_right G F l5 (25 : Int32) M182) fun v190 M190 =>
  bO (aI G M190 0 (G.1 1010) l9) fun v214 =>
  bO (gfR M190 l0 13 31) fun v217 =>
  bO (aI G M190 0 v217 l9) fun v222 =>
  bP (P_X13_right G F l1 (2 : Int32) M190) fun v228 M228 =>
  bP (P_X13_right G F l1 (13 : Int32) M228) fun v234 M234 =>
  bP (P_X13_right G F l1 (22 : Int32) M234) fun v241 M241 =>
  B_X13_turn32_162 G F n l0 (((((l8 + ((v175 ^^^ v182) ^^^ v190)) + ((l5 &&& l6) ^^^ ((l5 ^^^ (-1 : Int32)) &&& l7))) + v214) + v222) + (((v228 ^^^ v234) ^^^ v241) + (((l1 &&& l2) ^^^ (l1 &&& l3)) ^^^ (l2 &&& l3)))) l1 l2 l3 (l4 + ((((l8 + ((v175 ^^^ v182) ^^^ v190)) + ((l5 &&& l6) ^^^ ((l5 ^^^ (-1 : Int32)) &&& l7))) + v214) + v222)) l5 l6 l7 (l9 + 1) M241)
def B_X13_turn32_3 (G : mG) (F : Nat) : Nat → Nat → Int32 → mM → Option mM
  | 0, _, _, _ => none
  | n + 1, l0, l1, M =>
  if (64 : Int32) ≤ l1 then (bO (gfR M l0 13 32) fun v97 =>
  bO (aI G M 0 v97 (0 : Int32)) fun v101 =>
  bO (gfR M l0 13 32) fun v104 =>
  bO (aI G M 0 v104 (1 : Int32)) fun v108 =>
  bO (gfR M l0 13 32) fun v111 =>
  bO (aI G M 0 v111 (2 : Int32)) fun v115 =>
  bO (gfR M l0 13 32) fun v118 =>
  bO (aI G M 0 v118 (3 : Int32)) fun v122 =>
  bO (gfR M l0 13 32) fun v126 =>
  bO (aI G M 0 v126 (4 : Int32)) fun v130 =>
  bO (gfR M l0 13 32) fun v134 =>
  bO (aI G M 0 v134 (5 : Int32)) fun v138 =>
  bO (gfR M l0 13 32) fun v142 =>
  bO (aI G M 0 v142 (6 : Int32)) fun v147 =>
  bO (gfR M l0 13 32) fun v151 =>
  bO (aI G M 0 v151 (7 : Int32)) fun v156 =>
  B_X13_turn32_162 G F F l0 v101 v108 v115 v122 v130 v138 v147 v156 (0 : Int32) M)
  else (bO (gfR M l0 13 31) fun v10 =>
  bO (aI G M 0 v10 (l1 - (15 : Int32))) fun v17 =>
  bO (gfR M l0 13 31) fun v20 =>
  bO (aI G M 0 v20 (l1 - (2 : Int32))) fun v26 =>
  bO (gfR M l0 13 31) fun v29 =>
  bO (gfR M l0 13 31) fun v34 =>
  bO (aI G M 0 v34 (l1 - (16 : Int32))) fun v41 =>
  bP (P_X13_right G F v17 (7 : Int32) M) fun v45 M45 =>
  bP (P_X13_right G F v17 (18 : Int32) M45) fun v51 M51 =>
  bO (gfR M51 l0 13 31) fun v61 =>
  bO (aI G M51 0 v61 (l1 - (7 : Int32))) fun v68 =>
  bP (P_X13_right G F v26 (17 : Int32) M51) fun v73 M73 =>
  bP (P_X13_right G F v26 (19 : Int32) M73) fun v79 M79 =>
  bO (sI M79 0 v29 l1 (((v41 + ((v45 ^^^ v51) ^^^ (ushI v17 (3 : Int32)))) + v68) + ((v73 ^^^ v79) ^^^ (ushI v26 (10 : Int32))))) fun M89 =>
  B_X13_turn32_3 G F n l0 (l1 + 1) M89)
def P_X13_turn32 (G : mG) (F : Nat) (l0 : Nat) (M : mM) : Option mM :=
  B_X13_turn32_3 G F F l0 (16 : Int32) M
def B_X13_digestOf_104 (G : mG) (F : Nat) : Nat → Nat → Int32 → mM → Option (Int32 × mM)
  | 0, _, _, _ => none
  | n + 1, l0, l2, M =>
  if (8 : Int32) ≤ l2 then (some ((32 : Int32), M))
  else (bO (gfR M l0 13 35) fun v111 =>
  bO (gfR M l0 13 32) fun v119 =>
  bO (aI G M 0 v119 l2) fun v123 =>
  bO (P_X13_put G F v111 ((4 : Int32) * l2) (4 : Int32) (v123.toInt64) M) fun M125 =>
  B_X13_digestOf_104 G F n l0 (l2 + 1) M125)
def B_X13_digestOf_60 (G : mG) (F : Nat) (r50 : Nat → Int32 → mM → Option (Int32 × mM)) : Nat → Nat → Int32 → Int32 → mM → Option (Int32 × mM)
  | 0, _, _, _, _ => none
  | n + 1, l0, l2, l3, M =>
  if (16 : Int32) ≤ l3 then (bO (rcv M l0 13) fun _ =>
  bO (P_X13_turn32 G F l0 M) fun M93 =>
  r50 l0 (l2 + 64) M93)
  else (bO (gfR M l0 13 31) fun v67 =>
  bO (gfR M l0 13 36) fun v72 =>
  bP (P_X13_longAt G F v72 (l2 + ((4 : Int32) * l3)) (4 : Int32) M) fun v81 M81 =>
  bO (sI M81 0 v67 l3 (v81.toInt32)) fun M85 =>
  B_X13_digestOf_60 G F r50 n l0 l2 (l3 + 1) M85)
def B_X13_digestOf_50 (G : mG) (F : Nat) : Nat → Nat → Int32 → mM → Option (Int32 × mM)
  | 0, _, _, _ => none
  | n + 1, l0, l2, M =>
  bO (gfI M l0 13 37) fun v52 =>
  if v52 ≤ l2 then (B_X13_digestOf_104 G F F l0 (0 : Int32) M)
  else (B_X13_digestOf_60 G F (B_X13_digestOf_50 G F n) F l0 l2 (0 : Int32) M)
def B_X13_digestOf_22 (G : mG) (F : Nat) : Nat → Nat → Int32 → mM → Option (Int32 × mM)
  | 0, _, _, _ => none
  | n + 1, l0, l2, M =>
  if (8 : Int32) ≤ l2 then (B_X13_digestOf_50 G F F l0 (0 : Int32) M)
  else (bO (gfR M l0 13 32) fun v29 =>
  bP (P_X13_firstOf G F l2 M) fun v34 M34 =>
  bO (sI M34 0 v29 l2 ((ushL v34 (32 : Int32)).toInt32)) fun M41 =>
  B_X13_digestOf_22 G F n l0 (l2 + 1) M41)
def P_X13_digestOf (G : mG) (F : Nat) (l0 : Nat) (l1 : Int32) (M : mM) : Option (Int32 × mM) :=
  if l1 = (512 : Int32) then (bO (rcv M l0 13) fun _ =>
  bO (P_X13_digest64 G F l0 M) fun M8 =>
  some ((64 : Int32), M8))
  else (bO (rcv M l0 13) fun _ =>
  bO (P_X13_fill G F l0 (64 : Int32) M) fun M17 =>
  B_X13_digestOf_22 G F F l0 (0 : Int32) M17)
def B_X13_hash_14 (G : mG) (F : Nat) (l0 : Nat) (l1 : Int32) (l2 : Int32) (M : mM) : Option (Int32 × mM) :=
  bP (P_X13_isRow G F l2 M) fun v15 M15 =>
  if v15 = 0 then (some ((-2 : Int32), M15))
  else (bO (rcv M15 l0 13) fun _ =>
  bO (P_X13_empty G F l0 M15) fun M25 =>
  bO (gfR M25 l0 13 2) fun v30 =>
  bO (gfR M25 l0 13 3) fun v39 =>
  bO (aI G M25 0 v39 l2) fun v43 =>
  bO (rcv M25 l0 13) fun _ =>
  bO (P_X13_lay G F l0 v30 ((8192 : Int32) * l2) v43 M25) fun M44 =>
  bO (gfR M44 l0 13 35) fun v49 =>
  bO (rcv M44 l0 13) fun _ =>
  bP (P_X13_digestOf G F l0 l1 M44) fun v55 M55 =>
  bO (rcv M55 l0 13) fun _ =>
  bP (P_X13_tell G F l0 v49 (0 : Int32) v55 M55) fun v58 M58 =>
  some (v58, M58))
def P_X13_hash (G : mG) (F : Nat) (l0 : Nat) (l1 : Int32) (l2 : Int32) (M : mM) : Option (Int32 × mM) :=
  if l1 = (256 : Int32) then (B_X13_hash_14 G F l0 l1 l2 M)
  else (if l1 = (512 : Int32) then (B_X13_hash_14 G F l0 l1 l2 M)
  else (some ((-2 : Int32), M)))
def B_X13_codeOf_161 (G : mG) (F : Nat) : Nat → Nat → Int32 → Int32 → Int32 → Int32 → mM → Option (Int32 × mM)
  | 0, _, _, _, _, _, _ => none
  | n + 1, l0, l1, l5, l6, l7, M =>
  if l5 ≤ l7 then (bO (gfR M l0 13 35) fun v192 =>
  bO (rcv M l0 13) fun _ =>
  bO (P_X13_lay G F l0 v192 (0 : Int32) l6 M) fun M198 =>
  bO (rcv M198 l0 13) fun _ =>
  bP (P_X13_digestOf G F l0 l1 M198) fun v203 M203 =>
  some (v203, M203))
  else (bO (gfR M l0 13 40) fun v170 =>
  bO (aI G M 1 v170 l7) fun v175 =>
  bO (rcv M l0 13) fun _ =>
  bO (P_X13_layNumber G F l0 ((v175 ^^^ (92 : Int32)).toInt64) (1 : Int32) M) fun M181 =>
  B_X13_codeOf_161 G F n l0 l1 l5 l6 (l7 + 1) M181)
def B_X13_codeOf_105 (G : mG) (F : Nat) : Nat → Nat → Int32 → Int32 → Int32 → mM → Option (Int32 × mM)
  | 0, _, _, _, _, _ => none
  | n + 1, l0, l1, l5, l6, M =>
  if l5 ≤ l6 then (bO (gfR M l0 13 38) fun v136 =>
  bO (gfI M l0 13 39) fun v141 =>
  bO (rcv M l0 13) fun _ =>
  bO (P_X13_lay G F l0 v136 (0 : Int32) v141 M) fun M144 =>
  bO (rcv M144 l0 13) fun _ =>
  bP (P_X13_digestOf G F l0 l1 M144) fun v149 M149 =>
  bO (rcv M149 l0 13) fun _ =>
  bO (P_X13_empty G F l0 M149) fun M155 =>
  B_X13_codeOf_161 G F F l0 l1 l5 v149 (0 : Int32) M155)
  else (bO (gfR M l0 13 40) fun v114 =>
  bO (aI G M 1 v114 l6) fun v119 =>
  bO (rcv M l0 13) fun _ =>
  bO (P_X13_layNumber G F l0 ((v119 ^^^ (54 : Int32)).toInt64) (1 : Int32) M) fun M125 =>
  B_X13_codeOf_105 G F n l0 l1 l5 (l6 + 1) M125)
def B_X13_codeOf_8 (G : mG) (F : Nat) : Nat → Nat → Int32 → Nat → Int32 → Int32 → Int32 → Int32 → mM → Option (Int32 × mM)
  | 0, _, _, _, _, _, _, _, _ => none
  | n + 1, l0, l1, l2, l3, l4, l5, l6, M =>
  if l5 ≤ l6 then (if l4 ≤ l5 then (bO (gfR M l0 13 40) fun v89 =>
  bO (P_X13_move G F l2 l3 v89 (0 : Int32) l4 M) fun M95 =>
  bO (rcv M95 l0 13) fun _ =>
  bO (P_X13_empty G F l0 M95) fun M99 =>
  B_X13_codeOf_105 G F F l0 l1 l5 (0 : Int32) M99)
  else (bO (rcv M l0 13) fun _ =>
  bO (P_X13_empty G F l0 M) fun M37 =>
  bO (rcv M37 l0 13) fun _ =>
  bO (P_X13_lay G F l0 l2 l3 l4 M37) fun M45 =>
  bO (gfR M45 l0 13 35) fun v49 =>
  bO (gfR M45 l0 13 40) fun v54 =>
  bO (rcv M45 l0 13) fun _ =>
  bP (P_X13_digestOf G F l0 l1 M45) fun v60 M60 =>
  bO (P_X13_move G F v49 (0 : Int32) v54 (0 : Int32) v60 M60) fun M63 =>
  bO (gfR M63 l0 13 35) fun v67 =>
  bO (gfR M63 l0 13 40) fun v72 =>
  bO (P_X13_move G F v67 (0 : Int32) v72 (0 : Int32) (l1 / (8 : Int32)) M63) fun M80 =>
  bO (rcv M80 l0 13) fun _ =>
  bO (P_X13_empty G F l0 M80) fun M99 =>
  B_X13_codeOf_105 G F F l0 l1 l5 (0 : Int32) M99))
  else (bO (gfR M l0 13 40) fun v16 =>
  bO (sI M 1 v16 l6 ((0 : Int32).toInt8.toInt32)) fun M22 =>
  B_X13_codeOf_8 G F n l0 l1 l2 l3 l4 l5 (l6 + 1) M22)
def P_X13_codeOf (G : mG) (F : Nat) (l0 : Nat) (l1 : Int32) (l2 : Nat) (l3 : Int32) (l4 : Int32) (M : mM) : Option (Int32 × mM) :=
  B_X13_codeOf_8 G F F l0 l1 l2 l3 l4 (l1 / (4 : Int32)) (0 : Int32) M
def P_X13_tellMessage (G : mG) (F : Nat) (l0 : Nat) (l1 : Nat) (l2 : Int32) (l3 : Int32) (M : mM) : Option mM :=
  bO (gfR M l0 13 38) fun v3 =>
  bO (gfI M l0 13 39) fun v7 =>
  bO (P_X13_move G F l1 l2 v3 v7 l3 M) fun M11 =>
  bO (gfI M11 l0 13 39) fun v16 =>
  bO (pfv M11 l0 13 39 (.int (v16 + l3))) fun M21 =>
  some M21
def B_X13_code_14 (G : mG) (F : Nat) (l0 : Nat) (l1 : Int32) (l2 : Int32) (l3 : Int32) (M : mM) : Option (Int32 × mM) :=
  bP (P_X13_isRow G F l2 M) fun v15 M15 =>
  if v15 = 0 then (some ((-2 : Int32), M15))
  else (bP (P_X13_isRow G F l3 M15) fun v22 M22 =>
  if v22 = 0 then (some ((-2 : Int32), M22))
  else (bO (pfv M22 l0 13 39 (.int (0 : Int32))) fun M33 =>
  bO (gfR M33 l0 13 2) fun v38 =>
  bO (gfR M33 l0 13 3) fun v47 =>
  bO (aI G M33 0 v47 l3) fun v51 =>
  bO (rcv M33 l0 13) fun _ =>
  bO (P_X13_tellMessage G F l0 v38 ((8192 : Int32) * l3) v51 M33) fun M52 =>
  bO (gfR M52 l0 13 35) fun v57 =>
  bO (gfR M52 l0 13 2) fun v64 =>
  bO (gfR M52 l0 13 3) fun v73 =>
  bO (aI G M52 0 v73 l2) fun v77 =>
  bO (rcv M52 l0 13) fun _ =>
  bP (P_X13_codeOf G F l0 l1 v64 ((8192 : Int32) * l2) v77 M52) fun v78 M78 =>
  bO (rcv M78 l0 13) fun _ =>
  bP (P_X13_tell G F l0 v57 (0 : Int32) v78 M78) fun v81 M81 =>
  some (v81, M81)))
def P_X13_code (G : mG) (F : Nat) (l0 : Nat) (l1 : Int32) (l2 : Int32) (l3 : Int32) (M : mM) : Option (Int32 × mM) :=
  if l1 = (256 : Int32) then (B_X13_code_14 G F l0 l1 l2 l3 M)
  else (if l1 = (512 : Int32) then (B_X13_code_14 G F l0 l1 l2 l3 M)
  else (some ((-2 : Int32), M)))
def B_X13_setKey_157 (G : mG) (F : Nat) (r48 : Nat → Int32 → Int32 → Int32 → mM → Option mM) (r101 : Nat → Int32 → Int32 → Int32 → Int32 → Int32 → Int32 → mM → Option mM) (l0 : Nat) (l3 : Int32) (l4 : Int32) (l5 : Int32) (l6 : Int32) (l7 : Int32) (l8 : Int32) (sk0 : Int32) (M : mM) : Option mM :=
  bO (gfR M l0 13 43) fun v160 =>
  bO (gfR M l0 13 43) fun v169 =>
  bO (aI G M 0 v169 ((l5 - l3) + l8)) fun v179 =>
  if l6 = 0 then (bO (sI M 0 v160 (l5 + l8) ((v179 ^^^ sk0) ^^^ (0 : Int32))) fun M200 =>
  r101 l0 l3 l4 l5 l6 l7 (l8 + 1) M200)
  else (if l8 = 0 then (bO (sI M 0 v160 (l5 + l8) ((v179 ^^^ sk0) ^^^ l4)) fun M200 =>
  r101 l0 l3 l4 l5 l6 l7 (l8 + 1) M200)
  else (bO (sI M 0 v160 (l5 + l8) ((v179 ^^^ sk0) ^^^ (0 : Int32))) fun M200 =>
  r101 l0 l3 l4 l5 l6 l7 (l8 + 1) M200))
def B_X13_setKey_131 (G : mG) (F : Nat) (r48 : Nat → Int32 → Int32 → Int32 → mM → Option mM) (r101 : Nat → Int32 → Int32 → Int32 → Int32 → Int32 → Int32 → mM → Option mM) (l0 : Nat) (l3 : Int32) (l4 : Int32) (l5 : Int32) (l6 : Int32) (l7 : Int32) (l8 : Int32) (sk0 : Nat) (sk1 : Int32) (sk2 : Int32) (M : mM) : Option mM :=
  bO (aI G M 0 sk0 (sk1 + sk2)) fun v132 =>
  if l6 = 0 then (if l7 = 0 then (B_X13_setKey_157 G F r48 r101 l0 l3 l4 l5 l6 l7 l8 v132 M)
  else (bO (gfR M l0 13 41) fun v146 =>
  bO (aI G M 0 v146 v132) fun v151 =>
  B_X13_setKey_157 G F r48 r101 l0 l3 l4 l5 l6 l7 l8 v151 M))
  else (bO (gfR M l0 13 41) fun v146 =>
  bO (aI G M 0 v146 v132) fun v151 =>
  B_X13_setKey_157 G F r48 r101 l0 l3 l4 l5 l6 l7 l8 v151 M)
def B_X13_setKey_101 (G : mG) (F : Nat) (r48 : Nat → Int32 → Int32 → Int32 → mM → Option mM) : Nat → Nat → Int32 → Int32 → Int32 → Int32 → Int32 → Int32 → mM → Option mM
  | 0, _, _, _, _, _, _, _, _ => none
  | n + 1, l0, l3, l4, l5, l6, l7, l8, M =>
  if (4 : Int32) ≤ l8 then (if l6 = 0 then (r48 l0 l3 l4 (l5 + 4) M)
  else (bP (P_X13_twice G F l4 M) fun v214 M214 =>
  r48 l0 l3 v214 (l5 + 4) M214))
  else (bO (gfR M l0 13 43) fun v108 =>
  if l6 = 0 then (B_X13_setKey_131 G F r48 (B_X13_setKey_101 G F r48 n) l0 l3 l4 l5 l6 l7 l8 v108 (l5 - (4 : Int32)) l8 M)
  else (B_X13_setKey_131 G F r48 (B_X13_setKey_101 G F r48 n) l0 l3 l4 l5 l6 l7 l8 v108 (l5 - (4 : Int32)) ((l8 + (1 : Int32)) - (l8 + (1 : Int32)) / (4 : Int32) * (4 : Int32)) M))
def B_X13_setKey_74 (G : mG) (F : Nat) (r48 : Nat → Int32 → Int32 → Int32 → mM → Option mM) (l0 : Nat) (l3 : Int32) (l4 : Int32) (l5 : Int32) (sk0 : Int32) (M : mM) : Option mM :=
  if l3 = (32 : Int32) then (bO (rmI l5 l3) fun v85 =>
  if v85 = (16 : Int32) then (B_X13_setKey_101 G F r48 F l0 l3 l4 l5 sk0 (1 : Int32) (0 : Int32) M)
  else (B_X13_setKey_101 G F r48 F l0 l3 l4 l5 sk0 (0 : Int32) (0 : Int32) M))
  else (B_X13_setKey_101 G F r48 F l0 l3 l4 l5 sk0 (0 : Int32) (0 : Int32) M)
def B_X13_setKey_48 (G : mG) (F : Nat) : Nat → Nat → Int32 → Int32 → Int32 → mM → Option mM
  | 0, _, _, _, _, _ => none
  | n + 1, l0, l3, l4, l5, M =>
  bO (gfI M l0 13 44) fun v53 =>
  if ((16 : Int32) * (v53 + (1 : Int32))) ≤ l5 then (some M)
  else (bO (rmI l5 l3) fun v65 =>
  if v65 = 0 then (B_X13_setKey_74 G F (B_X13_setKey_48 G F n) l0 l3 l4 l5 (1 : Int32) M)
  else (B_X13_setKey_74 G F (B_X13_setKey_48 G F n) l0 l3 l4 l5 (0 : Int32) M))
def B_X13_setKey_13 (G : mG) (F : Nat) : Nat → Nat → Nat → Int32 → Int32 → Int32 → mM → Option mM
  | 0, _, _, _, _, _, _ => none
  | n + 1, l0, l1, l2, l3, l4, M =>
  if l3 ≤ l4 then (B_X13_setKey_48 G F F l0 l3 (1 : Int32) l3 M)
  else (bO (gfR M l0 13 43) fun v20 =>
  bO (aI G M 1 l1 (l2 + l4)) fun v30 =>
  bO (sI M 0 v20 l4 (v30 &&& (255 : Int32))) fun M35 =>
  B_X13_setKey_13 G F n l0 l1 l2 l3 (l4 + 1) M35)
def P_X13_setKey (G : mG) (F : Nat) (l0 : Nat) (l1 : Nat) (l2 : Int32) (l3 : Int32) (M : mM) : Option mM :=
  bO (pfv M l0 13 44 (.int ((l3 / (4 : Int32)) + (6 : Int32)))) fun M7 =>
  B_X13_setKey_13 G F F l0 l1 l2 l3 (0 : Int32) M7
def B_X13_withKey_2 (G : mG) (F : Nat) : Nat → Nat → Int32 → Int32 → mM → Option mM
  | 0, _, _, _, _ => none
  | n + 1, l0, l1, l2, M =>
  if (16 : Int32) ≤ l2 then (some M)
  else (bO (gfR M l0 13 45) fun v9 =>
  bO (aI G M 0 v9 l2) fun v14 =>
  bO (gfR M l0 13 43) fun v16 =>
  bO (aI G M 0 v16 (((16 : Int32) * l1) + l2)) fun v25 =>
  bO (sI M 0 v9 l2 (v14 ^^^ v25)) fun M27 =>
  B_X13_withKey_2 G F n l0 l1 (l2 + 1) M27)
def P_X13_withKey (G : mG) (F : Nat) (l0 : Nat) (l1 : Int32) (M : mM) : Option mM :=
  B_X13_withKey_2 G F F l0 l1 (0 : Int32) M
def B_X13_forth_57 (G : mG) (F : Nat) (r7 : Nat → Int32 → mM → Option mM) : Nat → Nat → Int32 → Int32 → mM → Option mM
  | 0, _, _, _, _ => none
  | n + 1, l0, l1, l2, M =>
  if (16 : Int32) ≤ l2 then (bO (rcv M l0 13) fun _ =>
  bO (P_X13_withKey G F l0 l1 M) fun M162 =>
  r7 l0 (l1 + 1) M162)
  else (bO (gfR M l0 13 46) fun v70 =>
  bO (aI G M 0 v70 l2) fun v74 =>
  bO (gfR M l0 13 46) fun v78 =>
  bO (aI G M 0 v78 (((l2 / (4 : Int32)) * (4 : Int32)) + ((l2 + (1 : Int32)) - (l2 + (1 : Int32)) / (4 : Int32) * (4 : Int32)))) fun v88 =>
  bP (P_X13_twice G F v74 M) fun v93 M93 =>
  bP (P_X13_twice G F v88 M93) fun v98 M98 =>
  bO (gfR M98 l0 13 46) fun v106 =>
  bO (aI G M98 0 v106 (((l2 / (4 : Int32)) * (4 : Int32)) + ((l2 + (2 : Int32)) - (l2 + (2 : Int32)) / (4 : Int32) * (4 : Int32)))) fun v116 =>
  bO (gfR M98 l0 13 46) fun v119 =>
  bO (aI G M98 0 v119 (((l2 / (4 : Int32)) * (4 : Int32)) + ((l2 + (3 : Int32)) - (l2 + (3 : Int32)) / (4 : Int32) * (4 : Int32)))) fun v129 =>
  bO (gfR M98 l0 13 45) fun v134 =>
  bO (gfI M98 l0 13 44) fun v140 =>
  if v140 ≤ l1 then (bO (sI M98 0 v134 l2 v74) fun M153 =>
  B_X13_forth_57 G F r7 n l0 l1 (l2 + 1) M153)
  else (bO (sI M98 0 v134 l2 ((((v93 ^^^ v98) ^^^ v88) ^^^ v116) ^^^ v129)) fun M153 =>
  B_X13_forth_57 G F r7 n l0 l1 (l2 + 1) M153))
def B_X13_forth_17 (G : mG) (F : Nat) (r7 : Nat → Int32 → mM → Option mM) : Nat → Nat → Int32 → Int32 → mM → Option mM
  | 0, _, _, _, _ => none
  | n + 1, l0, l1, l2, M =>
  if (16 : Int32) ≤ l2 then (B_X13_forth_57 G F r7 F l0 l1 (0 : Int32) M)
  else (bO (gfR M l0 13 46) fun v24 =>
  bO (gfR M l0 13 41) fun v29 =>
  bO (gfR M l0 13 45) fun v33 =>
  bO (aI G M 0 v33 ((l2 + ((4 : Int32) * (l2 - l2 / (4 : Int32) * (4 : Int32)))) - (l2 + ((4 : Int32) * (l2 - l2 / (4 : Int32) * (4 : Int32)))) / (16 : Int32) * (16 : Int32))) fun v46 =>
  bO (aI G M 0 v29 v46) fun v47 =>
  bO (sI M 0 v24 l2 v47) fun M48 =>
  B_X13_forth_17 G F r7 n l0 l1 (l2 + 1) M48)
def B_X13_forth_7 (G : mG) (F : Nat) : Nat → Nat → Int32 → mM → Option mM
  | 0, _, _, _ => none
  | n + 1, l0, l1, M =>
  bO (gfI M l0 13 44) fun v9 =>
  if v9 < l1 then (some M)
  else (B_X13_forth_17 G F (B_X13_forth_7 G F n) F l0 l1 (0 : Int32) M)
def P_X13_forth (G : mG) (F : Nat) (l0 : Nat) (M : mM) : Option mM :=
  bO (rcv M l0 13) fun _ =>
  bO (P_X13_withKey G F l0 (0 : Int32) M) fun M2 =>
  B_X13_forth_7 G F F l0 (1 : Int32) M2
def B_X13_back_122 (G : mG) (F : Nat) (r15 : Nat → Int32 → mM → Option mM) : Nat → Nat → Int32 → Int32 → mM → Option mM
  | 0, _, _, _, _ => none
  | n + 1, l0, l1, l2, M =>
  if (16 : Int32) ≤ l2 then (r15 l0 (l1 + (-1)) M)
  else (if l1 ≤ 0 then (r15 l0 (l1 + (-1)) M)
  else (bO (gfR M l0 13 45) fun v139 =>
  bO (gfR M l0 13 46) fun v144 =>
  bO (aI G M 0 v144 l2) fun v148 =>
  bP (P_X13_times G F v148 (14 : Int32) M) fun v151 M151 =>
  bO (gfR M151 l0 13 46) fun v155 =>
  bO (aI G M151 0 v155 (((l2 / (4 : Int32)) * (4 : Int32)) + ((l2 + (1 : Int32)) - (l2 + (1 : Int32)) / (4 : Int32) * (4 : Int32)))) fun v165 =>
  bP (P_X13_times G F v165 (11 : Int32) M151) fun v168 M168 =>
  bO (gfR M168 l0 13 46) fun v173 =>
  bO (aI G M168 0 v173 (((l2 / (4 : Int32)) * (4 : Int32)) + ((l2 + (2 : Int32)) - (l2 + (2 : Int32)) / (4 : Int32) * (4 : Int32)))) fun v183 =>
  bP (P_X13_times G F v183 (13 : Int32) M168) fun v186 M186 =>
  bO (gfR M186 l0 13 46) fun v191 =>
  bO (aI G M186 0 v191 (((l2 / (4 : Int32)) * (4 : Int32)) + ((l2 + (3 : Int32)) - (l2 + (3 : Int32)) / (4 : Int32) * (4 : Int32)))) fun v201 =>
  bP (P_X13_times G F v201 (9 : Int32) M186) fun v204 M204 =>
  bO (sI M204 0 v139 l2 (((v151 ^^^ v168) ^^^ v186) ^^^ v204)) fun M208 =>
  B_X13_back_122 G F r15 n l0 l1 (l2 + 1) M208))
def B_X13_back_92 (G : mG) (F : Nat) (r15 : Nat → Int32 → mM → Option mM) : Nat → Nat → Int32 → Int32 → mM → Option mM
  | 0, _, _, _, _ => none
  | n + 1, l0, l1, l2, M =>
  if (16 : Int32) ≤ l2 then (B_X13_back_122 G F r15 F l0 l1 (0 : Int32) M)
  else (if l1 ≤ 0 then (B_X13_back_122 G F r15 F l0 l1 (0 : Int32) M)
  else (bO (gfR M l0 13 46) fun v103 =>
  bO (gfR M l0 13 45) fun v108 =>
  bO (aI G M 0 v108 l2) fun v112 =>
  bO (sI M 0 v103 l2 v112) fun M113 =>
  B_X13_back_92 G F r15 n l0 l1 (l2 + 1) M113))
def B_X13_back_61 (G : mG) (F : Nat) (r15 : Nat → Int32 → mM → Option mM) : Nat → Nat → Int32 → Int32 → mM → Option mM
  | 0, _, _, _, _ => none
  | n + 1, l0, l1, l2, M =>
  if (16 : Int32) ≤ l2 then (bO (rcv M l0 13) fun _ =>
  bO (P_X13_withKey G F l0 l1 M) fun M87 =>
  B_X13_back_92 G F r15 F l0 l1 (0 : Int32) M87)
  else (bO (gfR M l0 13 45) fun v68 =>
  bO (gfR M l0 13 46) fun v73 =>
  bO (aI G M 0 v73 l2) fun v77 =>
  bO (sI M 0 v68 l2 v77) fun M78 =>
  B_X13_back_61 G F r15 n l0 l1 (l2 + 1) M78)
def B_X13_back_21 (G : mG) (F : Nat) (r15 : Nat → Int32 → mM → Option mM) : Nat → Nat → Int32 → Int32 → mM → Option mM
  | 0, _, _, _, _ => none
  | n + 1, l0, l1, l2, M =>
  if (16 : Int32) ≤ l2 then (B_X13_back_61 G F r15 F l0 l1 (0 : Int32) M)
  else (bO (gfR M l0 13 46) fun v28 =>
  bO (gfR M l0 13 42) fun v42 =>
  bO (gfR M l0 13 45) fun v46 =>
  bO (aI G M 0 v46 l2) fun v50 =>
  bO (aI G M 0 v42 v50) fun v51 =>
  bO (sI M 0 v28 ((l2 + ((4 : Int32) * (l2 - l2 / (4 : Int32) * (4 : Int32)))) - (l2 + ((4 : Int32) * (l2 - l2 / (4 : Int32) * (4 : Int32)))) / (16 : Int32) * (16 : Int32)) v51) fun M52 =>
  B_X13_back_21 G F r15 n l0 l1 (l2 + 1) M52)
def B_X13_back_15 (G : mG) (F : Nat) : Nat → Nat → Int32 → mM → Option mM
  | 0, _, _, _ => none
  | n + 1, l0, l1, M =>
  if l1 < 0 then (some M)
  else (B_X13_back_21 G F (B_X13_back_15 G F n) F l0 l1 (0 : Int32) M)
def P_X13_back (G : mG) (F : Nat) (l0 : Nat) (M : mM) : Option mM :=
  bO (gfI M l0 13 44) fun v2 =>
  bO (rcv M l0 13) fun _ =>
  bO (P_X13_withKey G F l0 v2 M) fun M5 =>
  bO (gfI M5 l0 13 44) fun v9 =>
  B_X13_back_15 G F F l0 (v9 - (1 : Int32)) M5
def B_X13_setCells_2 (G : mG) (F : Nat) : Nat → Nat → Nat → Int32 → Int32 → mM → Option mM
  | 0, _, _, _, _, _ => none
  | n + 1, l0, l1, l2, l3, M =>
  if (16 : Int32) ≤ l3 then (some M)
  else (bO (gfR M l0 13 45) fun v9 =>
  bO (aI G M 1 l1 (l2 + l3)) fun v17 =>
  bO (sI M 0 v9 l3 (v17 &&& (255 : Int32))) fun M22 =>
  B_X13_setCells_2 G F n l0 l1 l2 (l3 + 1) M22)
def P_X13_setCells (G : mG) (F : Nat) (l0 : Nat) (l1 : Nat) (l2 : Int32) (M : mM) : Option mM :=
  B_X13_setCells_2 G F F l0 l1 l2 (0 : Int32) M
def B_X13_getCells_2 (G : mG) (F : Nat) : Nat → Nat → Nat → Int32 → Int32 → mM → Option mM
  | 0, _, _, _, _, _ => none
  | n + 1, l0, l1, l2, l3, M =>
  if (16 : Int32) ≤ l3 then (some M)
  else (bO (gfR M l0 13 45) fun v13 =>
  bO (aI G M 0 v13 l3) fun v17 =>
  bO (sI M 1 l1 (l2 + l3) ((v17.toInt8.toInt32).toInt8.toInt32)) fun M19 =>
  B_X13_getCells_2 G F n l0 l1 l2 (l3 + 1) M19)
def P_X13_getCells (G : mG) (F : Nat) (l0 : Nat) (l1 : Nat) (l2 : Int32) (M : mM) : Option mM :=
  B_X13_getCells_2 G F F l0 l1 l2 (0 : Int32) M
def B_X13_block_36 (G : mG) (F : Nat) (l0 : Nat) (l1 : Int32) (l2 : Int32) (l3 : Int32) (M : mM) : Option (Int32 × mM) :=
  bO (gfR M l0 13 3) fun v37 =>
  bO (aI G M 0 v37 l2) fun v41 =>
  if v41 = (16 : Int32) then (bO (gfR M l0 13 2) fun v52 =>
  bO (gfR M l0 13 3) fun v61 =>
  bO (aI G M 0 v61 l1) fun v65 =>
  bO (rcv M l0 13) fun _ =>
  bO (P_X13_setKey G F l0 v52 ((8192 : Int32) * l1) v65 M) fun M66 =>
  bO (gfR M66 l0 13 2) fun v71 =>
  bO (rcv M66 l0 13) fun _ =>
  bO (P_X13_setCells G F l0 v71 ((8192 : Int32) * l2) M66) fun M79 =>
  if l3 = 0 then (bO (rcv M79 l0 13) fun _ =>
  bO (P_X13_forth G F l0 M79) fun M94 =>
  bO (gfR M94 l0 13 47) fun v99 =>
  bO (rcv M94 l0 13) fun _ =>
  bO (P_X13_getCells G F l0 v99 (0 : Int32) M94) fun M103 =>
  bO (gfR M103 l0 13 47) fun v108 =>
  bO (rcv M103 l0 13) fun _ =>
  bP (P_X13_tell G F l0 v108 (0 : Int32) (16 : Int32) M103) fun v114 M114 =>
  some (v114, M114))
  else (bO (rcv M79 l0 13) fun _ =>
  bO (P_X13_back G F l0 M79) fun M87 =>
  bO (gfR M87 l0 13 47) fun v99 =>
  bO (rcv M87 l0 13) fun _ =>
  bO (P_X13_getCells G F l0 v99 (0 : Int32) M87) fun M103 =>
  bO (gfR M103 l0 13 47) fun v108 =>
  bO (rcv M103 l0 13) fun _ =>
  bP (P_X13_tell G F l0 v108 (0 : Int32) (16 : Int32) M103) fun v114 M114 =>
  some (v114, M114)))
  else (some ((-2 : Int32), M))
def P_X13_block (G : mG) (F : Nat) (l0 : Nat) (l1 : Int32) (l2 : Int32) (l3 : Int32) (M : mM) : Option (Int32 × mM) :=
  bP (P_X13_isRow G F l1 M) fun v1 M1 =>
  if v1 = 0 then (some ((-2 : Int32), M1))
  else (bP (P_X13_isRow G F l2 M1) fun v8 M8 =>
  if v8 = 0 then (some ((-2 : Int32), M8))
  else (bO (gfR M8 l0 13 3) fun v15 =>
  bO (aI G M8 0 v15 l1) fun v19 =>
  if v19 = (16 : Int32) then (B_X13_block_36 G F l0 l1 l2 l3 M8)
  else (bO (gfR M8 l0 13 3) fun v26 =>
  bO (aI G M8 0 v26 l1) fun v30 =>
  if v30 = (32 : Int32) then (B_X13_block_36 G F l0 l1 l2 l3 M8)
  else (some ((-2 : Int32), M8)))))
def B_X13_wrapUp_54 (G : mG) (F : Nat) (r43 : Nat → Int32 → Int32 → Int32 → mM → Option (Int32 × mM)) : Nat → Nat → Int32 → Int32 → Int32 → Int32 → mM → Option (Int32 × mM)
  | 0, _, _, _, _, _, _ => none
  | n + 1, l0, l3, l4, l5, l6, M =>
  if l3 < l6 then (r43 l0 l3 l4 (l5 + 1) M)
  else (bO (gfR M l0 13 48) fun v64 =>
  bO (gfR M l0 13 47) fun v69 =>
  bO (P_X13_move G F v64 (0 : Int32) v69 (0 : Int32) (8 : Int32) M) fun M75 =>
  bO (gfR M75 l0 13 48) fun v79 =>
  bO (gfR M75 l0 13 47) fun v85 =>
  bO (P_X13_move G F v79 l6 v85 (8 : Int32) (8 : Int32) M75) fun M92 =>
  bO (gfR M92 l0 13 47) fun v97 =>
  bO (rcv M92 l0 13) fun _ =>
  bO (P_X13_setCells G F l0 v97 (0 : Int32) M92) fun M101 =>
  bO (rcv M101 l0 13) fun _ =>
  bO (P_X13_forth G F l0 M101) fun M105 =>
  bO (gfR M105 l0 13 47) fun v110 =>
  bO (rcv M105 l0 13) fun _ =>
  bO (P_X13_getCells G F l0 v110 (0 : Int32) M105) fun M114 =>
  bO (gfR M114 l0 13 48) fun v118 =>
  bO (gfR M114 l0 13 47) fun v125 =>
  bP (P_X13_longAt G F v125 (0 : Int32) (8 : Int32) M114) fun v131 M131 =>
  bO (P_X13_put G F v118 (0 : Int32) (8 : Int32) (v131 ^^^ ((l4 + 1).toInt64)) M131) fun M138 =>
  bO (gfR M138 l0 13 47) fun v142 =>
  bO (gfR M138 l0 13 48) fun v148 =>
  bO (P_X13_move G F v142 (8 : Int32) v148 l6 (8 : Int32) M138) fun M155 =>
  B_X13_wrapUp_54 G F r43 n l0 l3 (l4 + 1) l5 (l6 + 8) M155)
def B_X13_wrapUp_43 (G : mG) (F : Nat) : Nat → Nat → Int32 → Int32 → Int32 → mM → Option (Int32 × mM)
  | 0, _, _, _, _, _ => none
  | n + 1, l0, l3, l4, l5, M =>
  if (6 : Int32) ≤ l5 then (some ((l3 + (8 : Int32)), M))
  else (B_X13_wrapUp_54 G F (B_X13_wrapUp_43 G F n) F l0 l3 l4 l5 (8 : Int32) M)
def B_X13_wrapUp_3 (G : mG) (F : Nat) : Nat → Nat → Nat → Int32 → Int32 → Int32 → mM → Option (Int32 × mM)
  | 0, _, _, _, _, _, _ => none
  | n + 1, l0, l1, l2, l3, l4, M =>
  if (8 : Int32) ≤ l4 then (bO (gfR M l0 13 48) fun v28 =>
  bO (P_X13_move G F l1 l2 v28 (8 : Int32) l3 M) fun M34 =>
  B_X13_wrapUp_43 G F F l0 l3 (0 : Int32) (0 : Int32) M34)
  else (bO (gfR M l0 13 48) fun v11 =>
  bO (sI M 1 v11 l4 ((-90 : Int32).toInt8.toInt32)) fun M18 =>
  B_X13_wrapUp_3 G F n l0 l1 l2 l3 (l4 + 1) M18)
def P_X13_wrapUp (G : mG) (F : Nat) (l0 : Nat) (l1 : Nat) (l2 : Int32) (l3 : Int32) (M : mM) : Option (Int32 × mM) :=
  B_X13_wrapUp_3 G F F l0 l1 l2 l3 (0 : Int32) M
def B_X13_unwrapIt_38 (G : mG) (F : Nat) (r25 : Nat → Int32 → Int32 → Int32 → mM → Option (Int32 × mM)) : Nat → Nat → Int32 → Int32 → Int32 → Int32 → mM → Option (Int32 × mM)
  | 0, _, _, _, _, _, _ => none
  | n + 1, l0, l3, l4, l5, l6, M =>
  if l6 < (8 : Int32) then (r25 l0 l3 l4 (l5 + 1) M)
  else (bO (gfR M l0 13 47) fun v46 =>
  bO (gfR M l0 13 48) fun v53 =>
  bP (P_X13_longAt G F v53 (0 : Int32) (8 : Int32) M) fun v59 M59 =>
  bO (P_X13_put G F v46 (0 : Int32) (8 : Int32) (v59 ^^^ (l4.toInt64)) M59) fun M66 =>
  bO (gfR M66 l0 13 48) fun v70 =>
  bO (gfR M66 l0 13 47) fun v76 =>
  bO (P_X13_move G F v70 l6 v76 (8 : Int32) (8 : Int32) M66) fun M83 =>
  bO (gfR M83 l0 13 47) fun v88 =>
  bO (rcv M83 l0 13) fun _ =>
  bO (P_X13_setCells G F l0 v88 (0 : Int32) M83) fun M92 =>
  bO (rcv M92 l0 13) fun _ =>
  bO (P_X13_back G F l0 M92) fun M96 =>
  bO (gfR M96 l0 13 47) fun v101 =>
  bO (rcv M96 l0 13) fun _ =>
  bO (P_X13_getCells G F l0 v101 (0 : Int32) M96) fun M105 =>
  bO (gfR M105 l0 13 47) fun v109 =>
  bO (gfR M105 l0 13 48) fun v114 =>
  bO (P_X13_move G F v109 (0 : Int32) v114 (0 : Int32) (8 : Int32) M105) fun M120 =>
  bO (gfR M120 l0 13 47) fun v124 =>
  bO (gfR M120 l0 13 48) fun v130 =>
  bO (P_X13_move G F v124 (8 : Int32) v130 l6 (8 : Int32) M120) fun M137 =>
  B_X13_unwrapIt_38 G F r25 n l0 l3 (l4 + (-1)) l5 (l6 + (-8)) M137)
def B_X13_unwrapIt_25 (G : mG) (F : Nat) : Nat → Nat → Int32 → Int32 → Int32 → mM → Option (Int32 × mM)
  | 0, _, _, _, _, _ => none
  | n + 1, l0, l3, l4, l5, M =>
  if (6 : Int32) ≤ l5 then (bO (gfR M l0 13 48) fun v156 =>
  bP (P_X13_longAt G F v156 (0 : Int32) (8 : Int32) M) fun v162 M162 =>
  if (lg_cmp v162 (-6438275382588823898 : Int64)) = 0 then (retZ (1 : Int32) M162)
  else (retZ (0 : Int32) M162))
  else (B_X13_unwrapIt_38 G F (B_X13_unwrapIt_25 G F n) F l0 l3 l4 l5 (l3 - (8 : Int32)) M)
def P_X13_unwrapIt (G : mG) (F : Nat) (l0 : Nat) (l1 : Nat) (l2 : Int32) (l3 : Int32) (M : mM) : Option (Int32 × mM) :=
  bO (gfR M l0 13 48) fun v3 =>
  bO (P_X13_move G F l1 l2 v3 (0 : Int32) l3 M) fun M8 =>
  B_X13_unwrapIt_25 G F F l0 l3 ((6 : Int32) * ((l3 / (8 : Int32)) - (1 : Int32))) (0 : Int32) M8
def P_X13_isCipherKey (G : mG) (F : Nat) (l0 : Nat) (l1 : Int32) (M : mM) : Option (Int32 × mM) :=
  bP (P_X13_isRow G F l1 M) fun v1 M1 =>
  if v1 = 0 then (retZ (0 : Int32) M1)
  else (bO (gfR M1 l0 13 3) fun v8 =>
  bO (aI G M1 0 v8 l1) fun v12 =>
  if v12 = (16 : Int32) then (retZ (1 : Int32) M1)
  else (bO (gfR M1 l0 13 3) fun v19 =>
  bO (aI G M1 0 v19 l1) fun v23 =>
  if v23 = (32 : Int32) then (retZ (1 : Int32) M1)
  else (retZ (0 : Int32) M1)))
