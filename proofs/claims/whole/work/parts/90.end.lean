set_option maxRecDepth 100000 in
theorem all_sref : ∀ j, j < 124 → Cond.stringRef (mstrs.getD j ("", 0, "")).1 (mstrs.getD j ("", 0, "")).2.1 (mstrs.getD j ("", 0, "")).2.2 ∈ lw_tbl :=
  (lt_s (lt_s (lt_s (lt_s (lt_s (lt_s (lt_s (lt_s (lt_s (lt_s (lt_s (lt_s (lt_s (lt_s (lt_s (lt_s (lt_s (lt_s (lt_s (lt_s (lt_s (lt_s (lt_s (lt_s (lt_s (lt_s (lt_s (lt_s (lt_s (lt_s (lt_s (lt_s (lt_s (lt_s (lt_s (lt_s (lt_s (lt_s (lt_s (lt_s (lt_s (lt_s (lt_s (lt_s (lt_s (lt_s (lt_s (lt_s (lt_s (lt_s (lt_s (lt_s (lt_s (lt_s (lt_s (lt_s (lt_s (lt_s (lt_s (lt_s (lt_s (lt_s (lt_s (lt_s (lt_s (lt_s (lt_s (lt_s (lt_s (lt_s (lt_s (lt_s (lt_s (lt_s (lt_s (lt_s (lt_s (lt_s (lt_s (lt_s (lt_s (lt_s (lt_s (lt_s (lt_s (lt_s (lt_s (lt_s (lt_s (lt_s (lt_s (lt_s (lt_s (lt_s (lt_s (lt_s (lt_s (lt_s (lt_s (lt_s (lt_s (lt_s (lt_s (lt_s (lt_s (lt_s (lt_s (lt_s (lt_s (lt_s (lt_s (lt_s (lt_s (lt_s (lt_s (lt_s (lt_s (lt_s (lt_s (lt_s (lt_s (lt_s (lt_s (lt_s lt_0 (List.mem_of_getElem? (i := 580) (by decide +kernel))) (List.mem_of_getElem? (i := 641) (by decide +kernel))) (List.mem_of_getElem? (i := 642) (by decide +kernel))) (List.mem_of_getElem? (i := 643) (by decide +kernel))) (List.mem_of_getElem? (i := 677) (by decide +kernel))) (List.mem_of_getElem? (i := 682) (by decide +kernel))) (List.mem_of_getElem? (i := 683) (by decide +kernel))) (List.mem_of_getElem? (i := 967) (by decide +kernel))) (List.mem_of_getElem? (i := 974) (by decide +kernel))) (List.mem_of_getElem? (i := 975) (by decide +kernel))) (List.mem_of_getElem? (i := 1003) (by decide +kernel))) (List.mem_of_getElem? (i := 1092) (by decide +kernel))) (List.mem_of_getElem? (i := 1103) (by decide +kernel))) (List.mem_of_getElem? (i := 1104) (by decide +kernel))) (List.mem_of_getElem? (i := 1105) (by decide +kernel))) (List.mem_of_getElem? (i := 1119) (by decide +kernel))) (List.mem_of_getElem? (i := 1446) (by decide +kernel))) (List.mem_of_getElem? (i := 1457) (by decide +kernel))) (List.mem_of_getElem? (i := 1462) (by decide +kernel))) (List.mem_of_getElem? (i := 1463) (by decide +kernel))) (List.mem_of_getElem? (i := 1464) (by decide +kernel))) (List.mem_of_getElem? (i := 1469) (by decide +kernel))) (List.mem_of_getElem? (i := 1470) (by decide +kernel))) (List.mem_of_getElem? (i := 1471) (by decide +kernel))) (List.mem_of_getElem? (i := 1476) (by decide +kernel))) (List.mem_of_getElem? (i := 1482) (by decide +kernel))) (List.mem_of_getElem? (i := 1483) (by decide +kernel))) (List.mem_of_getElem? (i := 1487) (by decide +kernel))) (List.mem_of_getElem? (i := 1488) (by decide +kernel))) (List.mem_of_getElem? (i := 1489) (by decide +kernel))) (List.mem_of_getElem? (i := 1490) (by decide +kernel))) (List.mem_of_getElem? (i := 1521) (by decide +kernel))) (List.mem_of_getElem? (i := 1522) (by decide +kernel))) (List.mem_of_getElem? (i := 1526) (by decide +kernel))) (List.mem_of_getElem? (i := 1527) (by decide +kernel))) (List.mem_of_getElem? (i := 1528) (by decide +kernel))) (List.mem_of_getElem? (i := 1529) (by decide +kernel))) (List.mem_of_getElem? (i := 1530) (by decide +kernel))) (List.mem_of_getElem? (i := 1531) (by decide +kernel))) (List.mem_of_getElem? (i := 1532) (by decide +kernel))) (List.mem_of_getElem? (i := 1533) (by decide +kernel))) (List.mem_of_getElem? (i := 1534) (by decide +kernel))) (List.mem_of_getElem? (i := 1535) (by decide +kernel))) (List.mem_of_getElem? (i := 1536) (by decide +kernel))) (List.mem_of_getElem? (i := 1588) (by decide +kernel))) (List.mem_of_getElem? (i := 1591) (by decide +kernel))) (List.mem_of_getElem? (i := 1592) (by decide +kernel))) (List.mem_of_getElem? (i := 1593) (by decide +kernel))) (List.mem_of_getElem? (i := 1594) (by decide +kernel))) (List.mem_of_getElem? (i := 1595) (by decide +kernel))) (List.mem_of_getElem? (i := 1599) (by decide +kernel))) (List.mem_of_getElem? (i := 1600) (by decide +kernel))) (List.mem_of_getElem? (i := 1624) (by decide +kernel))) (List.mem_of_getElem? (i := 1631) (by decide +kernel))) (List.mem_of_getElem? (i := 1637) (by decide +kernel))) (List.mem_of_getElem? (i := 1643) (by decide +kernel))) (List.mem_of_getElem? (i := 1645) (by decide +kernel))) (List.mem_of_getElem? (i := 1656) (by decide +kernel))) (List.mem_of_getElem? (i := 1809) (by decide +kernel))) (List.mem_of_getElem? (i := 1813) (by decide +kernel))) (List.mem_of_getElem? (i := 1814) (by decide +kernel))) (List.mem_of_getElem? (i := 1815) (by decide +kernel))) (List.mem_of_getElem? (i := 1816) (by decide +kernel))) (List.mem_of_getElem? (i := 1817) (by decide +kernel))) (List.mem_of_getElem? (i := 1819) (by decide +kernel))) (List.mem_of_getElem? (i := 1825) (by decide +kernel))) (List.mem_of_getElem? (i := 1865) (by decide +kernel))) (List.mem_of_getElem? (i := 1866) (by decide +kernel))) (List.mem_of_getElem? (i := 1874) (by decide +kernel))) (List.mem_of_getElem? (i := 1875) (by decide +kernel))) (List.mem_of_getElem? (i := 1876) (by decide +kernel))) (List.mem_of_getElem? (i := 1879) (by decide +kernel))) (List.mem_of_getElem? (i := 1885) (by decide +kernel))) (List.mem_of_getElem? (i := 1964) (by decide +kernel))) (List.mem_of_getElem? (i := 1975) (by decide +kernel))) (List.mem_of_getElem? (i := 1976) (by decide +kernel))) (List.mem_of_getElem? (i := 1977) (by decide +kernel))) (List.mem_of_getElem? (i := 2000) (by decide +kernel))) (List.mem_of_getElem? (i := 2495) (by decide +kernel))) (List.mem_of_getElem? (i := 2573) (by decide +kernel))) (List.mem_of_getElem? (i := 2574) (by decide +kernel))) (List.mem_of_getElem? (i := 2575) (by decide +kernel))) (List.mem_of_getElem? (i := 2633) (by decide +kernel))) (List.mem_of_getElem? (i := 2634) (by decide +kernel))) (List.mem_of_getElem? (i := 2923) (by decide +kernel))) (List.mem_of_getElem? (i := 2932) (by decide +kernel))) (List.mem_of_getElem? (i := 2941) (by decide +kernel))) (List.mem_of_getElem? (i := 2942) (by decide +kernel))) (List.mem_of_getElem? (i := 2943) (by decide +kernel))) (List.mem_of_getElem? (i := 2948) (by decide +kernel))) (List.mem_of_getElem? (i := 2949) (by decide +kernel))) (List.mem_of_getElem? (i := 2950) (by decide +kernel))) (List.mem_of_getElem? (i := 2951) (by decide +kernel))) (List.mem_of_getElem? (i := 2952) (by decide +kernel))) (List.mem_of_getElem? (i := 2953) (by decide +kernel))) (List.mem_of_getElem? (i := 2954) (by decide +kernel))) (List.mem_of_getElem? (i := 2959) (by decide +kernel))) (List.mem_of_getElem? (i := 2960) (by decide +kernel))) (List.mem_of_getElem? (i := 2961) (by decide +kernel))) (List.mem_of_getElem? (i := 2982) (by decide +kernel))) (List.mem_of_getElem? (i := 2983) (by decide +kernel))) (List.mem_of_getElem? (i := 3004) (by decide +kernel))) (List.mem_of_getElem? (i := 3009) (by decide +kernel))) (List.mem_of_getElem? (i := 3010) (by decide +kernel))) (List.mem_of_getElem? (i := 3011) (by decide +kernel))) (List.mem_of_getElem? (i := 3012) (by decide +kernel))) (List.mem_of_getElem? (i := 3013) (by decide +kernel))) (List.mem_of_getElem? (i := 3014) (by decide +kernel))) (List.mem_of_getElem? (i := 3023) (by decide +kernel))) (List.mem_of_getElem? (i := 3035) (by decide +kernel))) (List.mem_of_getElem? (i := 3043) (by decide +kernel))) (List.mem_of_getElem? (i := 3044) (by decide +kernel))) (List.mem_of_getElem? (i := 3045) (by decide +kernel))) (List.mem_of_getElem? (i := 3081) (by decide +kernel))) (List.mem_of_getElem? (i := 3086) (by decide +kernel))) (List.mem_of_getElem? (i := 3091) (by decide +kernel))) (List.mem_of_getElem? (i := 3096) (by decide +kernel))) (List.mem_of_getElem? (i := 3097) (by decide +kernel))) (List.mem_of_getElem? (i := 3106) (by decide +kernel))) (List.mem_of_getElem? (i := 3107) (by decide +kernel))) (List.mem_of_getElem? (i := 3108) (by decide +kernel))) (List.mem_of_getElem? (i := 3177) (by decide +kernel))) (List.mem_of_getElem? (i := 3178) (by decide +kernel))) (List.mem_of_getElem? (i := 3179) (by decide +kernel)))
theorem all_nM : ∀ q ∈ mnM, Cond.methodLinkNest q.1 q.2.1 q.2.2.1 q.2.2.2 ∈ lw_tbl := by
  simp only [mnM, List.forall_mem_cons]
  exact ⟨List.mem_of_getElem? (i := 252) (by decide +kernel), List.mem_of_getElem? (i := 358) (by decide +kernel), List.mem_of_getElem? (i := 408) (by decide +kernel), List.mem_of_getElem? (i := 742) (by decide +kernel), List.mem_of_getElem? (i := 579) (by decide +kernel), List.mem_of_getElem? (i := 634) (by decide +kernel), List.mem_of_getElem? (i := 1523) (by decide +kernel), List.mem_of_getElem? (i := 520) (by decide +kernel), List.mem_of_getElem? (i := 1618) (by decide +kernel), List.mem_of_getElem? (i := 1810) (by decide +kernel), List.mem_of_getElem? (i := 1914) (by decide +kernel), fun _ h => absurd h List.not_mem_nil⟩
theorem all_nF : ∀ q ∈ mnF, Cond.fieldLinkNest q.1 q.2.1 q.2.2.1 q.2.2.2.1 q.2.2.2.2.1 q.2.2.2.2.2 ∈ lw_tbl := by
  simp only [mnF, List.forall_mem_cons]
  exact ⟨List.mem_of_getElem? (i := 1299) (by decide +kernel), List.mem_of_getElem? (i := 1344) (by decide +kernel), List.mem_of_getElem? (i := 1796) (by decide +kernel), List.mem_of_getElem? (i := 1802) (by decide +kernel), List.mem_of_getElem? (i := 1851) (by decide +kernel), List.mem_of_getElem? (i := 1801) (by decide +kernel), List.mem_of_getElem? (i := 1919) (by decide +kernel), List.mem_of_getElem? (i := 1923) (by decide +kernel), fun _ h => absurd h List.not_mem_nil⟩
theorem mcl_at {k : Nat} {r : vw_C} (h : mcl[k]? = some r) : k < 14 := (List.getElem?_eq_some_iff.mp h).1
theorem all_cls {args : Array Value} {s : State} (hts : ∀ w ∈ mtbl, w.before args s = true) : ∀ k : Nat, ∃ q : ClassId × (Nat → Nat), ∀ r, mcl[k]? = some r → u_Kn s r.1 r.2.1 r.2.2 q.1 q.2 := by
  intro k
  by_cases hk : k < 14
  · have hx : ∀ k, k < 14 → ∃ q : ClassId × (Nat → Nat), ∀ r, mcl[k]? = some r → u_Kn s r.1 r.2.1 r.2.2 q.1 q.2 := by
      have k0 : ∃ q : ClassId × (Nat → Nat), ∀ r, mcl[0]? = some r → u_Kn s r.1 r.2.1 r.2.2 q.1 q.2 := by
        obtain ⟨c, iS, h⟩ := u_known (C := RX0) (T := TX0) (N := 3) (n := 3) hts inX0 (hts _ (mem_c1 (i := 32) (by decide +kernel) rfl))
        exact ⟨(c, iS), fun r hr => by cases hr; exact h⟩
      have k1 : ∃ q : ClassId × (Nat → Nat), ∀ r, mcl[1]? = some r → u_Kn s r.1 r.2.1 r.2.2 q.1 q.2 := by
        obtain ⟨c, iS, h⟩ := u_known (C := RX1) (T := TX1) (N := 6) (n := 6) hts inX1 (hts _ (mem_c2 (i := 26) (by decide +kernel) rfl))
        exact ⟨(c, iS), fun r hr => by cases hr; exact h⟩
      have k2 : ∃ q : ClassId × (Nat → Nat), ∀ r, mcl[2]? = some r → u_Kn s r.1 r.2.1 r.2.2 q.1 q.2 := by
        obtain ⟨c, iS, h⟩ := u_known (C := RX2) (T := TX2) (N := 9) (n := 9) hts inX2 (hts _ (mem_c2 (i := 53) (by decide +kernel) rfl))
        exact ⟨(c, iS), fun r hr => by cases hr; exact h⟩
      have k3 : ∃ q : ClassId × (Nat → Nat), ∀ r, mcl[3]? = some r → u_Kn s r.1 r.2.1 r.2.2 q.1 q.2 := by
        obtain ⟨c, iS, h⟩ := u_known (C := RX3) (T := TX3) (N := 16) (n := 16) hts inX3 (hts _ (mem_c2 (i := 147) (by decide +kernel) rfl))
        exact ⟨(c, iS), fun r hr => by cases hr; exact h⟩
      have k4 : ∃ q : ClassId × (Nat → Nat), ∀ r, mcl[4]? = some r → u_Kn s r.1 r.2.1 r.2.2 q.1 q.2 := by
        obtain ⟨c, iS, h⟩ := u_known (C := RX4) (T := TX4) (N := 11) (n := 11) hts inX4 (hts _ (mem_c1 (i := 223) (by decide +kernel) rfl))
        exact ⟨(c, iS), fun r hr => by cases hr; exact h⟩
      have k5 : ∃ q : ClassId × (Nat → Nat), ∀ r, mcl[5]? = some r → u_Kn s r.1 r.2.1 r.2.2 q.1 q.2 := by
        obtain ⟨c, iS, h⟩ := u_known (C := RX5) (T := TX5) (N := 10) (n := 10) hts inX5 (hts _ (mem_c1 (i := 173) (by decide +kernel) rfl))
        exact ⟨(c, iS), fun r hr => by cases hr; exact h⟩
      have k6 : ∃ q : ClassId × (Nat → Nat), ∀ r, mcl[6]? = some r → u_Kn s r.1 r.2.1 r.2.2 q.1 q.2 := by
        obtain ⟨c, iS, h⟩ := u_known (C := RX6) (T := TX6) (N := 8) (n := 8) hts inX6 (hts _ (mem_c2 (i := 95) (by decide +kernel) rfl))
        exact ⟨(c, iS), fun r hr => by cases hr; exact h⟩
      have k7 : ∃ q : ClassId × (Nat → Nat), ∀ r, mcl[7]? = some r → u_Kn s r.1 r.2.1 r.2.2 q.1 q.2 := by
        obtain ⟨c, iS, h⟩ := u_known (C := RX7) (T := TX7) (N := 9) (n := 9) hts inX7 (hts _ (mem_c1 (i := 138) (by decide +kernel) rfl))
        exact ⟨(c, iS), fun r hr => by cases hr; exact h⟩
      have k8 : ∃ q : ClassId × (Nat → Nat), ∀ r, mcl[8]? = some r → u_Kn s r.1 r.2.1 r.2.2 q.1 q.2 := by
        obtain ⟨c, iS, h⟩ := u_known (C := RX8) (T := TX8) (N := 6) (n := 6) hts inX8 (hts _ (mem_c2 (i := 89) (by decide +kernel) rfl))
        exact ⟨(c, iS), fun r hr => by cases hr; exact h⟩
      have k9 : ∃ q : ClassId × (Nat → Nat), ∀ r, mcl[9]? = some r → u_Kn s r.1 r.2.1 r.2.2 q.1 q.2 := by
        obtain ⟨c, iS, h⟩ := u_known (C := RX9) (T := TX9) (N := 11) (n := 11) hts inX9 (hts _ (mem_c1 (i := 67) (by decide +kernel) rfl))
        exact ⟨(c, iS), fun r hr => by cases hr; exact h⟩
      have k10 : ∃ q : ClassId × (Nat → Nat), ∀ r, mcl[10]? = some r → u_Kn s r.1 r.2.1 r.2.2 q.1 q.2 := by
        obtain ⟨c, iS, h⟩ := u_known (C := RX10) (T := TX10) (N := 16) (n := 16) hts inX10 (hts _ (mem_c3 (i := 77) (by decide +kernel) rfl))
        exact ⟨(c, iS), fun r hr => by cases hr; exact h⟩
      have k11 : ∃ q : ClassId × (Nat → Nat), ∀ r, mcl[11]? = some r → u_Kn s r.1 r.2.1 r.2.2 q.1 q.2 := by
        obtain ⟨c, iS, h⟩ := u_known (C := RX11) (T := TX11) (N := 18) (n := 18) hts inX11 (hts _ (mem_c1 (i := 23) (by decide +kernel) rfl))
        exact ⟨(c, iS), fun r hr => by cases hr; exact h⟩
      have k12 : ∃ q : ClassId × (Nat → Nat), ∀ r, mcl[12]? = some r → u_Kn s r.1 r.2.1 r.2.2 q.1 q.2 := by
        obtain ⟨c, iS, h⟩ := u_known (C := RX12) (T := TX12) (N := 9) (n := 9) hts inX12 (hts _ (mem_c8 (i := 49) (by decide +kernel) rfl))
        exact ⟨(c, iS), fun r hr => by cases hr; exact h⟩
      have k13 : ∃ q : ClassId × (Nat → Nat), ∀ r, mcl[13]? = some r → u_Kn s r.1 r.2.1 r.2.2 q.1 q.2 := by
        obtain ⟨c, iS, h⟩ := u_known (C := RX13) (T := TX13) (N := 134) (n := 134) hts inX13 (hts _ (mem_c8 (i := 41) (by decide +kernel) rfl))
        exact ⟨(c, iS), fun r hr => by cases hr; exact h⟩
      exact (lt_s (lt_s (lt_s (lt_s (lt_s (lt_s (lt_s (lt_s (lt_s (lt_s (lt_s (lt_s (lt_s (lt_s lt_0 k0) k1) k2) k3) k4) k5) k6) k7) k8) k9) k10) k11) k12) k13)
    exact hx k hk
  · exact ⟨(0, fun _ => 0), fun r hr => absurd (mcl_at hr) hk⟩
theorem arr_prim {args : Array Value} {s : State} {ty : FieldType} (h : (Cond.arrayClass ty).before args s = true) : ∃ cA, ArrOfT s cA ty ∧ s.vm.findClass ("[" ++ ty.toString) = some cA := by
  obtain ⟨c, k, comp, h1, h2, h3⟩ := Cond.arrayClass_spec h
  exact ⟨c, fun n z => ⟨fun k h => (by cases h), k, h2, comp, h3⟩, h1⟩
theorem arr_obj {args : Array Value} {s : State} {C : String} (h : (Cond.arrayOver (.object C)).before args s = true) : ∃ cA, ArrOfT s cA (.object C) ∧ va_RA s cA (.object C) := by
  obtain ⟨comp, c, k, h1, h2, h3, h4, h5⟩ := Cond.arrayOver_spec h
  exact ⟨c, fun n z => ⟨fun k h => (by cases h), k, h3, comp, h4⟩, k, comp, h3, h4, h1, h5⟩
theorem arr_arr {s : State} (h : mAO (.array .long) s) : ∃ cA, ArrOfT s cA (.array .long) ∧ va_RA s cA (.array .long) := by
  obtain ⟨comp, c, k, h1, h2, h3, h4, h5⟩ := mAO_spec h
  exact ⟨c, fun n z => ⟨fun k h => (by cases h), k, h3, comp, h4⟩, h5⟩
theorem all_arr {args : Array Value} {s : State} (hts : ∀ w ∈ lw_tbl, w.before args s = true) (hao : mAO (.array .long) s) : ∀ k : Nat, ∃ cA : ClassId, k < 7 → ArrOfT s cA (mty k) ∧ va_RA s cA (mty k) := by
  intro k
  by_cases hk : k < 7
  · have hx : ∀ k, k < 7 → ∃ cA : ClassId, k < 7 → ArrOfT s cA (mty k) ∧ va_RA s cA (mty k) := by
      have k0 : ∃ cA : ClassId, 0 < 7 → ArrOfT s cA (mty 0) ∧ va_RA s cA (mty 0) := by
        obtain ⟨c, h1, h2⟩ := arr_prim (ty := mty 0) (hts _ (List.mem_of_getElem? (i := 249) (by decide +kernel)))
        exact ⟨c, fun _ => ⟨h1, h2⟩⟩
      have k1 : ∃ cA : ClassId, 1 < 7 → ArrOfT s cA (mty 1) ∧ va_RA s cA (mty 1) := by
        obtain ⟨c, h1, h2⟩ := arr_prim (ty := mty 1) (hts _ (List.mem_of_getElem? (i := 739) (by decide +kernel)))
        exact ⟨c, fun _ => ⟨h1, h2⟩⟩
      have k2 : ∃ cA : ClassId, 2 < 7 → ArrOfT s cA (mty 2) ∧ va_RA s cA (mty 2) := by
        obtain ⟨c, h1, h2⟩ := arr_prim (ty := mty 2) (hts _ (List.mem_of_getElem? (i := 448) (by decide +kernel)))
        exact ⟨c, fun _ => ⟨h1, h2⟩⟩
      have k3 : ∃ cA : ClassId, 3 < 7 → ArrOfT s cA (mty 3) ∧ va_RA s cA (mty 3) := by
        obtain ⟨c, h1, h2⟩ := arr_prim (ty := mty 3) (hts _ (List.mem_of_getElem? (i := 2413) (by decide +kernel)))
        exact ⟨c, fun _ => ⟨h1, h2⟩⟩
      have k4 : ∃ cA : ClassId, 4 < 7 → ArrOfT s cA (mty 4) ∧ va_RA s cA (mty 4) := by
        obtain ⟨c, h⟩ := arr_obj (C := "SealedTokens$Bytes") (hts _ (List.mem_of_getElem? (i := 215) (by decide +kernel)))
        exact ⟨c, fun _ => h⟩
      have k5 : ∃ cA : ClassId, 5 < 7 → ArrOfT s cA (mty 5) ∧ va_RA s cA (mty 5) := by
        obtain ⟨c, h⟩ := arr_obj (C := "SealedTokens$Key") (hts _ (List.mem_of_getElem? (i := 356) (by decide +kernel)))
        exact ⟨c, fun _ => h⟩
      have k6 : ∃ cA : ClassId, 6 < 7 → ArrOfT s cA (mty 6) ∧ va_RA s cA (mty 6) := by
        obtain ⟨c, h⟩ := arr_arr hao
        exact ⟨c, fun _ => h⟩
      exact (lt_s (lt_s (lt_s (lt_s (lt_s (lt_s (lt_s lt_0 k0) k1) k2) k3) k4) k5) k6)
    exact hx k hk
  · exact ⟨0, fun h => absurd h hk⟩
theorem find_some {l : List Nat} {p : Nat → Bool} {j : Nat} (h : l.find? p = some j) : j ∈ l ∧ p j = true := ⟨List.mem_of_find?_eq_some h, List.find?_some h⟩
theorem find_in {n j : Nat} {p : Nat → Bool} (hj : j < n) (hp : p j = true) : ∃ i, (List.range n).find? p = some i ∧ i < n ∧ p i = true := by
  cases h : (List.range n).find? p with
  | none => exact absurd hp (by simpa using List.find?_eq_none.mp h j (List.mem_range.mpr hj))
  | some i => exact ⟨i, rfl, List.mem_range.mp (find_some h).1, (find_some h).2⟩
set_option maxHeartbeats 4000000 in
set_option maxRecDepth 100000 in
/-- from the entry, for every script of at most 4096 ints, the law comes to its end with true -/
theorem whole_start {p : Program} {e : Env} {s : State} {m : MethodId} {below : List Frame} {meth : Method} {c : Code} (l : Launch) {b L : Nat} {xs : Nat → Int32} (hL : L ≤ 4096) (C0 : lw_At p s m meth c b L xs) : W p l e room_1 s m #[Value.ref b] below meth c s.heap [] 0 0 (lw_Z below #[Value.ref b] s) (entryFrame m ([Value.ref b] : List Value).toArray 4) := by
  obtain ⟨hx, hb, hr, hml, hown, hts, hX, hbl, hlocks, hgv, hmn⟩ := id C0
  have htm : ∀ w ∈ mtbl, w.before #[Value.ref b] s = true := fun w hw => hts w (List.mem_filter.mp hw).1
  have hA0 : ∀ a : Nat, a < s.heap.size → ¬ (fun q : Nat => s.heap.size ≤ q) a := fun a h => Nat.not_le.mpr h
  have hao : mAO (.array .long) s := (show (Cond.arrayOver (.array .long)).before #[.ref b] s = true from hts _ (List.mem_of_getElem? (i := 577) (by decide +kernel)))
  obtain ⟨dq, hdq⟩ := Classical.axiomOfChoice (all_cls htm)
  obtain ⟨dA, hdA⟩ := Classical.axiomOfChoice (all_arr hts hao)
  have h0 : ∀ j : Nat, ∃ q : Nat × Nat, j < 124 → (Term.string (mstrs.getD j ("", 0, "")).1 (mstrs.getD j ("", 0, "")).2.1).eval #[Value.ref b] s none [] s = some (.ref q.1) ∧ mStr (fun q => s.heap.size ≤ q) q.1 [.ref q.2, .int 0] s s.heap ∧ va_T .byte q.2 (mbyt.getD j []).length (fun i => .int ((mbyt.getD j []).getD i 0)) (fun q => s.heap.size ≤ q) s s.heap := by
    intro j
    by_cases hj : j < 124
    · obtain ⟨q, hq⟩ := all_strs hgv hA0 j hj
      exact ⟨q, fun _ => hq⟩
    · exact ⟨(0, 0), fun h => absurd h hj⟩
  obtain ⟨ad, had⟩ := Classical.axiomOfChoice h0
  obtain ⟨t0, z0, T0⟩ := tab_0 hgv hts hA0
  obtain ⟨t1, z1, T1⟩ := tab_1 hgv hts hA0
  obtain ⟨t2, z2, T2⟩ := tab_2 hgv hts hA0
  obtain ⟨t3, z3, T3⟩ := tab_3 hgv hts hA0
  obtain ⟨t4, z4, T4⟩ := tab_4 hgv hts hA0
  obtain ⟨t5, z5, T5⟩ := tab_5 hgv hts hA0
  obtain ⟨t6, z6, T6⟩ := tab_6 hgv hts hA0
  obtain ⟨t7, z7, T7⟩ := tab_7 hgv hts hA0
  obtain ⟨t8, z8, T8⟩ := tab_8 hgv hts hA0
  obtain ⟨t9, z9, T9⟩ := tab_9 hgv hts hA0
  obtain ⟨t10, z10, T10⟩ := tab_10 hgv hts hA0
  obtain ⟨td, htd⟩ : ∃ td : Nat → Nat, td 0 = t0 ∧ td 1 = t1 ∧ td 2 = t2 ∧ td 3 = t3 ∧ td 4 = t4 ∧ td 5 = t5 ∧ td 6 = t6 ∧ td 7 = t7 ∧ td 8 = t8 ∧ td 9 = t9 ∧ td 10 = t10 := ⟨fun j => match j with
    | 0 => t0
    | 1 => t1
    | 2 => t2
    | 3 => t3
    | 4 => t4
    | 5 => t5
    | 6 => t6
    | 7 => t7
    | 8 => t8
    | 9 => t9
    | 10 => t10
    | _ => 0, rfl, rfl, rfl, rfl, rfl, rfl, rfl, rfl, rfl, rfl, rfl⟩
  obtain ⟨rfl, rfl, rfl, rfl, rfl, rfl, rfl, rfl, rfl, rfl, rfl⟩ := htd
  have hTI : ∀ j, isI j = true → va_T .int (td j) (mtI j).length (fun i => .int ((mtI j).getD i 0)) (fun q => s.heap.size ≤ q) s s.heap := by
    intro j hj
    match j, hj with
    | 0, _ => exact T0
    | 1, _ => exact T1
    | 4, _ => exact T4
    | 5, _ => exact T5
    | 6, _ => exact T6
    | 7, _ => exact T7
    | 8, _ => exact T8
    | 10, _ => exact T10
  have hTL : ∀ j, isL j = true → va_T .long (td j) (mtL j).length (fun i => .long ((mtL j).getD i 0)) (fun q => s.heap.size ≤ q) s s.heap := by
    intro j hj
    match j, hj with
    | 2, _ => exact T2
    | 3, _ => exact T3
    | 9, _ => exact T9
  have hXT : va_T .int b L (fun j => .int (xs j)) (fun q => s.heap.size ≤ q) s s.heap := by
    obtain ⟨scr, q1, q2, q3, q4, q5⟩ := hX
    exact ⟨scr, q1, q2, q3, by rw [q4]; exact Nat.le_refl _, by rw [q4], q5, hA0 b hbl⟩
  have lenS : ∀ j, j < 124 → (mbyt.getD j []).length < 2 ^ 31 := by decide +kernel
  have lenI : ∀ j, j < 11 → (mtI j).length < 2 ^ 31 := by decide +kernel
  have lenL : ∀ j, j < 11 → (mtL j).length < 2 ^ 31 := by decide +kernel
  have isI_lt : ∀ j, isI j = true → j < 11 := by
    intro j hj
    match j, hj with
    | 0, _ => exact (by decide)
    | 1, _ => exact (by decide)
    | 4, _ => exact (by decide)
    | 5, _ => exact (by decide)
    | 6, _ => exact (by decide)
    | 7, _ => exact (by decide)
    | 8, _ => exact (by decide)
    | 10, _ => exact (by decide)
  have isL_lt : ∀ j, isL j = true → j < 11 := by
    intro j hj
    match j, hj with
    | 2, _ => exact (by decide)
    | 3, _ => exact (by decide)
    | 9, _ => exact (by decide)
  let G : mG := (fun j => if j < 1000 then (ad j).1 else td (j - 1000),
    fun a => ((List.range 124).find? (fun j => decide ((ad j).1 = a))).map (fun j => [.ref (ad j).2, .int 0]),
    fun a => match (List.range 11).find? (fun j => isI j && decide (td j = a)) with
      | some j => some ((mtI j).length, fun i => (mtI j).getD i 0)
      | none => if a = b then some (L, xs) else none,
    fun a => ((List.range 124).find? (fun j => decide ((ad j).2 = a))).map (fun j => ((mbyt.getD j []).length, fun i => (mbyt.getD j []).getD i 0)),
    fun a => ((List.range 11).find? (fun j => isL j && decide (td j = a))).map (fun j => ((mtL j).length, fun i => (mtL j).getD i 0)))
  have hRO : mRO G (fun q => s.heap.size ≤ q) s s.heap := by
    refine ⟨fun a fs q => ?_, fun a n f q => ?_, fun a n f q => ?_, fun a n f q => ?_⟩
    · obtain ⟨j, hj, rfl⟩ := Option.map_eq_some_iff.mp q
      obtain ⟨h1, h2⟩ := find_some hj
      have h3 : (ad j).1 = a := of_decide_eq_true h2
      rw [← h3]
      exact (had j (List.mem_range.mp h1)).2.1
    · have q : (match (List.range 11).find? (fun j => isI j && decide (td j = a)) with
        | some j => some ((mtI j).length, fun i => (mtI j).getD i 0)
        | none => if a = b then some (L, xs) else none) = some (n, f) := q
      cases hj : (List.range 11).find? (fun j => isI j && decide (td j = a)) with
      | none =>
        rw [hj] at q
        have q : (if a = b then some (L, xs) else none) = some (n, f) := q
        by_cases hab : a = b
        · rw [if_pos hab] at q
          cases q
          rw [hab]
          exact hXT
        · rw [if_neg hab] at q
          cases q
      | some j =>
        rw [hj] at q
        have q : some ((mtI j).length, fun i => (mtI j).getD i 0) = some (n, f) := q
        cases q
        obtain ⟨h1, h2⟩ := find_some hj
        simp only [Bool.and_eq_true, decide_eq_true_eq] at h2
        rw [← h2.2]
        exact hTI j h2.1
    · obtain ⟨j, hj, e1⟩ := Option.map_eq_some_iff.mp q
      cases e1
      obtain ⟨h1, h2⟩ := find_some hj
      have h3 : (ad j).2 = a := of_decide_eq_true h2
      rw [← h3]
      exact (had j (List.mem_range.mp h1)).2.2
    · obtain ⟨j, hj, e1⟩ := Option.map_eq_some_iff.mp q
      cases e1
      obtain ⟨h1, h2⟩ := find_some hj
      simp only [Bool.and_eq_true, decide_eq_true_eq] at h2
      rw [← h2.2]
      exact hTL j h2.1
  have T_lt : ∀ {ty : FieldType} {t n : Nat} {f : Nat → Value}, va_T ty t n f (fun q => s.heap.size ≤ q) s s.heap → t < s.heap.size := fun h => by
    obtain ⟨cell, h1, -⟩ := h
    exact (Array.getElem?_eq_some_iff.mp h1).1
  have hOK : RoOK G s.heap.size := by
    refine ⟨fun j hj => ?_, fun j hj => ?_, fun j hj => ?_⟩
    · obtain ⟨k1, k2, k3⟩ := had j hj
      have g1 : G.1 j = (ad j).1 := if_pos (by omega)
      rw [g1]
      refine ⟨(Array.getElem?_eq_some_iff.mp k2.1.choose_spec.1).1, (ad j).2, T_lt k3, ?_, ?_⟩
      · obtain ⟨i, e1, e2, e3⟩ := find_in (p := fun i => decide ((ad i).1 = (ad j).1)) hj (decide_eq_true rfl)
        have h3 : (ad i).1 = (ad j).1 := of_decide_eq_true e3
        have h4 := (had i e2).2.1
        rw [h3] at h4
        have h5 := mStr_v h4 k2
        show ((List.range 124).find? _).map _ = _
        rw [e1]
        show some [Value.ref (ad i).2, .int 0] = _
        rw [h5]
      · obtain ⟨i, e1, e2, e3⟩ := find_in (p := fun i => decide ((ad i).2 = (ad j).2)) hj (decide_eq_true rfl)
        have h3 : (ad i).2 = (ad j).2 := of_decide_eq_true e3
        have h4 := (had i e2).2.2
        rw [h3] at h4
        obtain ⟨n1, n2⟩ := va_T_n h4 k3 (lenS i e2) (lenS j hj)
        have h5 : mbyt.getD i [] = mbyt.getD j [] := list_eq (d := 0) n1 (fun q hq => Value.int.inj (n2 q hq))
        show ((List.range 124).find? _).map _ = _
        rw [e1]
        show some ((mbyt.getD i []).length, fun q => (mbyt.getD i []).getD q 0) = _
        rw [h5]
    · have g1 : G.1 (1000 + j) = td j := by
        show (if 1000 + j < 1000 then _ else td (1000 + j - 1000)) = td j
        rw [if_neg (by omega), Nat.add_sub_cancel_left]
      rw [g1]
      refine ⟨T_lt (hTI j hj), ?_⟩
      obtain ⟨i, e1, e2, e3⟩ := find_in (n := 11) (p := fun i => isI i && decide (td i = td j)) (isI_lt j hj) (by simp [hj])
      simp only [Bool.and_eq_true, decide_eq_true_eq] at e3
      have h4 := hTI i e3.1
      rw [e3.2] at h4
      obtain ⟨n1, n2⟩ := va_T_n h4 (hTI j hj) (lenI i e2) (lenI j (isI_lt j hj))
      have h5 : mtI i = mtI j := list_eq (d := 0) n1 (fun q hq => Value.int.inj (n2 q hq))
      show (match (List.range 11).find? (fun j' => isI j' && decide (td j' = td j)) with
        | some j => some ((mtI j).length, fun i => (mtI j).getD i 0)
        | none => if td j = b then some (L, xs) else none) = _
      rw [e1]
      show some ((mtI i).length, fun q => (mtI i).getD q 0) = _
      rw [h5]
    · have g1 : G.1 (1000 + j) = td j := by
        show (if 1000 + j < 1000 then _ else td (1000 + j - 1000)) = td j
        rw [if_neg (by omega), Nat.add_sub_cancel_left]
      rw [g1]
      refine ⟨T_lt (hTL j hj), ?_⟩
      obtain ⟨i, e1, e2, e3⟩ := find_in (n := 11) (p := fun i => isL i && decide (td i = td j)) (isL_lt j hj) (by simp [hj])
      simp only [Bool.and_eq_true, decide_eq_true_eq] at e3
      have h4 := hTL i e3.1
      rw [e3.2] at h4
      obtain ⟨n1, n2⟩ := va_T_n h4 (hTL j hj) (lenL i e2) (lenL j (isL_lt j hj))
      have h5 : mtL i = mtL j := list_eq (d := 0) n1 (fun q hq => Value.long.inj (n2 q hq))
      show ((List.range 11).find? _).map _ = _
      rw [e1]
      show some ((mtL i).length, fun q => (mtL i).getD q 0) = _
      rw [h5]
  have lenI4 : ∀ j, j < 11 → (mtI j).length ≤ 4096 := by decide +kernel
  have hbG : ∃ L' xs', G.2.2.1 b = some (L', xs') ∧ L' ≤ 4096 := by
    show ∃ L' xs', (match (List.range 11).find? (fun j => isI j && decide (td j = b)) with
        | some j => some ((mtI j).length, fun i => (mtI j).getD i 0)
        | none => if b = b then some (L, xs) else none) = some (L', xs') ∧ L' ≤ 4096
    cases hj : (List.range 11).find? (fun j => isI j && decide (td j = b)) with
    | none => exact ⟨L, xs, if_pos rfl, hL⟩
    | some j => exact ⟨_, _, rfl, lenI4 j (List.mem_range.mp (find_some hj).1)⟩
  obtain ⟨L', xs', hbG1, hbG2⟩ := hbG
  have hOK2 : RoQ G s.heap.size := by
    refine ⟨hOK, fun j v hj hv => ?_⟩
    obtain ⟨k1, k2, k3⟩ := had j hj
    have g1 : G.1 j = (ad j).1 := if_pos (by omega)
    have hv2 : mStr (fun q => s.heap.size ≤ q) (ad j).1 [.ref v, .int 0] s s.heap := by
      have h := hRO.1 (G.1 j) _ hv
      rw [g1] at h
      exact h
    have hv3 : v = (ad j).2 := mStr_v hv2 k2
    subst hv3
    unfold roN
    cases e1 : G.2.2.1 (ad j).2 with
    | some q =>
      have h := hRO.2.1 (ad j).2 q.1 q.2 e1
      have hq : q.1 ≤ 4096 := by
        have e2 : (match (List.range 11).find? (fun j' => isI j' && decide (td j' = (ad j).2)) with
          | some j => some ((mtI j).length, fun i => (mtI j).getD i 0)
          | none => if (ad j).2 = b then some (L, xs) else none) = some q := e1
        cases hj2 : (List.range 11).find? (fun j' => isI j' && decide (td j' = (ad j).2)) with
        | some i =>
          rw [hj2] at e2
          cases e2
          exact lenI4 i (List.mem_range.mp (find_some hj2).1)
        | none =>
          rw [hj2] at e2
          have e2 : (if (ad j).2 = b then some (L, xs) else none) = some q := e2
          split at e2
          · cases e2
            exact hL
          · cases e2
      exact congrArg some (va_T_n h k3 (by omega) (lenS j hj)).1
    | none =>
      have e2 := hOK.1 j hj
      obtain ⟨-, w, -, e3, e4⟩ := e2
      have e5 : w = (ad j).2 := by
        have h := hRO.1 (G.1 j) _ e3
        rw [g1] at h
        exact mStr_v h k2
      rw [e5] at e4
      show (match G.2.2.2.1 (ad j).2 with
        | some (n, _) => some n
        | none => _) = _
      rw [e4]
  obtain ⟨F, M1, Z, S, hP, hZ, hSS⟩ := pure_goal G b L' xs' s.heap.size hOK2 hbl hbG1 hbG2
  have hE : mEnv G (fun q => s.heap.size ≤ q) s := by
    refine ⟨fun j q hq => ?_, fun j q hq => ?_, fun q hq => va_Nw.of rfl (hts _ (all_nM q hq)), fun q hq => va_Nw.of rfl (hts _ (all_nF q hq)), va_AO.of (hts _ (List.mem_of_getElem? (i := 215) (by decide +kernel))), va_AO.of (hts _ (List.mem_of_getElem? (i := 356) (by decide +kernel))), va_Zof (hts _ (List.mem_of_getElem? (i := 595) (by decide +kernel))) (hts _ (List.mem_of_getElem? (i := 197) (by decide +kernel))) (va_eqi (seg_before hgv (i := 3) rfl _ List.mem_cons_self)) hA0, va_Zqof (hts _ (List.mem_of_getElem? (i := 611) (by decide +kernel))) (hts _ (List.mem_of_getElem? (i := 199) (by decide +kernel))) (seg_before hgv (i := 4) rfl _ List.mem_cons_self) hA0, hao, hRO⟩
    · have hj : j < 124 := by
        have := (List.getElem?_eq_some_iff.mp hq).1
        rw [mstrs_len] at this
        exact this
      have hg : mstrs.getD j ("", 0, "") = q := by rw [List.getD_eq_getElem?_getD, hq]; rfl
      have h1 := (had j hj).1
      have h2 := hts _ (all_sref j hj)
      rw [hg] at h1 h2
      have g1 : G.1 j = (ad j).1 := if_pos (by omega)
      rw [g1]
      exact vk_R.of h2 h1
    · have g1 : G.1 (1000 + j) = td j := by
        show (if 1000 + j < 1000 then _ else td (1000 + j - 1000)) = td j
        rw [if_neg (by omega), Nat.add_sub_cancel_left]
      rw [g1]
      have hj : j < 11 := (List.getElem?_eq_some_iff.mp hq).1
      match j, hj, hq with
      | 0, _, hq => cases hq; exact z0
      | 1, _, hq => cases hq; exact z1
      | 2, _, hq => cases hq; exact z2
      | 3, _, hq => cases hq; exact z3
      | 4, _, hq => cases hq; exact z4
      | 5, _, hq => cases hq; exact z5
      | 6, _, hq => cases hq; exact z6
      | 7, _, hq => cases hq; exact z7
      | 8, _, hq => cases hq; exact z8
      | 9, _, hq => cases hq; exact z9
      | 10, _, hq => cases hq; exact z10
  have hK : va_K (fun k => (dq k).1, fun k => (dq k).2) mcl (mtys ((fun k => (dq k).1, fun k => (dq k).2), dA)) s := by
    refine ⟨fun k q hq => hdq k q hq, fun k q hq => ?_⟩
    have hk : k < 7 := (List.getElem?_eq_some_iff.mp hq).1
    rw [mtys_at _ hk] at hq
    cases hq
    exact hdA k hk
  have K := wP_L_law (G := G) (F := F) (x := (((fun k => (dq k).1, fun k => (dq k).2), dA), G, (fun q => s.heap.size ≤ q), p, l, e, room_1, s, m, #[Value.ref b], below, meth, c, lw_Z below #[Value.ref b] s)) (z0 := s.heap.size) (s0 := 0) (M0 := M1) (Z0 := Z) (S0 := S) ⟨rfl, rfl, hx, hb, hml, hr, hlocks, hmn, hown, htm, hK, fun q h => h, hE⟩ ⟨b, rfl, rfl, rfl⟩ hZ (by omega) (l0 := b) (M := fun _ => none) (sz := s.heap.size) (sl := 0) (Nat.le_refl _) (Nat.le_refl _) hP
  rw [Nat.sub_self, Nat.sub_self] at K
  have hl := lv_entry ([.ref b]) (n := 4) (Nat.le_of_ble_eq_true rfl)
  rw [lg_entry_eq]
  exact K s.heap [] _ rfl (by show lv_has _ c.maxLocals _; rw [hml]; exact hl) (fun a e h => by cases h) va_S.rf
set_option maxHeartbeats 4000000 in
theorem lw_walk (l : Launch) (b : Addr) (xs : List Int32) : MetFree l x (headSpec (Jvm.Cond.code x code maxLocals ret :: tables_1) room_1) (lw_P b xs) (fun _ _ _ _ _ => True) lw_Q := by
  refine MetFree.of_bodyS (code := code) (maxLocals := maxLocals) (ret := ret) (by decide) ?_ ?_
  · intro args s m h hn
    obtain ⟨meth, c, h1, h2, h3, h4, h5, h6, -, -⟩ := Cond.code_spec hn (atoms_spec (ws := Jvm.Cond.code x code maxLocals ret :: tables_1) h _ List.mem_cons_self)
    exact ⟨meth, c, h1, h2, h3, h4, h5, h6⟩
  · intro p e s m args below meth c s₁ B hml0 hP _
    obtain ⟨rfl, hx, hbd, hgv⟩ := hP
    obtain ⟨scr, harrAt, hlist, hof, hsmall⟩ := hx
    obtain ⟨hcb, hkn, -, -⟩ := State.arrayAt?_spec harrAt
    have hown : s.vm.findClass R_law = some m.cls := findClass_of_methodNamed B.named
    have hts0 : ∀ c ∈ (Jvm.Cond.code x code maxLocals ret :: tables_1), c.before #[Value.ref b] s = true := atoms_spec (ws := Jvm.Cond.code x code maxLocals ret :: tables_1) B.pre
    have hts : ∀ w ∈ lw_tbl, w.before #[Value.ref b] s = true := k2_hts_sels lw_privs (fun w hw => hts0 w (List.mem_cons_of_mem _ hw)) lw_privs_ok
    have hml : c.maxLocals = 4 := B.maxLocals_eq (hts0 _ List.mem_cons_self)
    have X₀ : Stand p l e room_1 s m #[Value.ref b] below meth c s₁ [] 0 0 := Stand.of_body B
    have hh0 : s₁.heap = s.heap := by rw [B.state]; rfl
    have hsz : scr.slots.size = xs.length := by rw [← Array.length_toList, hlist, List.length_map]
    have hval : ∀ j : Nat, j < xs.length → scr.slots[j]? = some (.int (xs.getD j 0)) := fun j hj => by
      rw [← Array.getElem?_toList, hlist]
      simp [hj]
    have hbl : b < s.heap.size := (Array.getElem?_eq_some_iff.mp hcb).1
    have hX : va_X b xs.length (fun j => xs.getD j 0) s s.heap := ⟨scr, hcb, hof, hkn, hsz, hval⟩
    have K : W p l e room_1 s m #[Value.ref b] below meth c s₁.heap [] 0 0 (lw_Z below #[Value.ref b] s) (entryFrame m ([Value.ref b] : List Value).toArray 4) := by
      rw [hh0]
      exact whole_start l hbd ⟨B.exec, B.bytes, B.returns, hml, hown, hts, hX, hbl, B.notSynchronized, hgv, (name_of_methodNamed B.named B.method).1⟩
    obtain ⟨t, a1, o, b1, b2, b3⟩ := K s₁ rfl X₀
    exact ⟨t, o, a1, b1, b2, b3⟩
theorem lw_pre_spec {args : Array Value} {s : State} (h : (Jvm.Cond.and given_1 narrow_1).before args s = true) (hr : rest_1_c.before args s = true) : ∃ (b : Addr) (xs : List Int32), lw_P b xs args s := by
  have hs := flat_of_before _ h
  have hq := flat_of_before _ hr
  have hc : (Cond.count 1).before args s = true := hs _ (by decide +kernel)
  have harr : (Cond.arrayOf (.arg 0) .int).before args s = true := hs _ (by decide +kernel)
  have hle : (Cond.le (.length (.arg 0)) (.int 4096)).before args s = true := hs _ (by decide +kernel)
  have hlen : (Cond.isInt (.length (.arg 0))).before args s = true := hq _ (by decide +kernel)
  have hall : (Cond.all (.arg 0) (.isInt (.elem (.arg 0) (.index 0)))).before args s = true := hq _ (by decide +kernel)
  obtain ⟨b, xs, hb, hx⟩ := State.ints_of_pre rfl harr hlen hall
  have hsm : xs.length < 2 ^ 31 := hx.choose_spec.2.2.2
  have hev : (Term.length (.arg 0)).eval args s none [] s = some (.int xs.length.toInt32) := hx.length_eval hb
  have hv := Cond.le_ints hev (show (Term.int 4096).eval args s none [] s = some (.int 4096) from rfl)
  have hd : xs.length.toInt32 ≤ 4096 := by
    simpa [Cond.before, Cond.holds, hv] using hle
  have hN : xs.length ≤ 4096 := (Int32.ofNat_le_ofNat hsm (by decide)).mp (show Int32.ofNat xs.length ≤ Int32.ofNat 4096 from hd)
  exact ⟨b, xs, Cond.one_arg hc (show args[0]? = some (.ref b) from hb), hx, hN, h⟩
theorem lw_comes (l : Launch) : Comes l x (Jvm.Cond.code x code maxLocals ret :: tables_1) room_1 (fun tb e args s => Calls_1 tb e args s ∧ rest_1 tb e args s ∧ Pre_1 tb e args s)
    (fun _ _ args s o t => lw_Q args s o t) := by
  intro p e ha hc hk s m args below hf hfit hheap happ hpre
  obtain ⟨b, xs, hP⟩ := lw_pre_spec hpre.2.2 hpre.2.1
  obtain ⟨k, o, h1, h2, h3, hQ⟩ := lw_walk l b xs p e ha hc hk s m args below hf ((Spec.applies_iff_loose hf).mp happ).1 hP trivial
  exact ⟨k, o, h1, h2, h3, hQ⟩
theorem lw_frame {s t : State} {o : Outcome} {args : Array Value} (h : Framed s o t [] 600000 7302250) :
    Framed s o t (fieldLocs frame_1_writes args s ++ arrayLocs frame_1_arrays args s ++ staticLocs frame_1_statics s) 600000 7302250 := h
theorem lw_limb (L : Cond) (hL : ∀ (args : Array Value) (s t : State), L.after args s (.returned (some (.int 1))) t = true) :
    ArmFor flags0 classFile x code maxLocals ret World_1 tables_1 room_1 Calls_1 rest_1 Pre_1
      (fun tb e a s o t => postC L tb e a s o t ∧ Framed s o t (fieldLocs frame_1_writes a s ++ arrayLocs frame_1_arrays a s ++ staticLocs frame_1_statics s) 600000 7302250) := by
  intro l _ _ _ p e ha hc hk s m args below hf hfit hheap happ hpre
  obtain ⟨k, o, h1, h2, h3, rfl, hF⟩ := lw_comes l p e ha hc hk s m args below hf hfit hheap happ hpre
  exact ⟨k, _, h1, h2, h3, hL args s _, lw_frame hF⟩
theorem i_vc : Claimed_1_1 ∧ Claimed_1_2 := ⟨lw_limb limb_1_1 (fun args s t => by simp [limb_1_1, Cond.after, Cond.holds, Cond.value]), lw_limb limb_1_2 (fun args s t => Cond.after_iff.mpr (by
  first | (rw [show limb_1_2 = Cond.eq .result (.int 1) from rfl, Cond.eq_ints (x := 1) (y := 1) rfl rfl]; simp; done) | (simp [limb_1_2, Cond.value, Term.eval]; done)))⟩
