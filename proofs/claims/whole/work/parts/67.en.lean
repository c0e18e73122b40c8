set_option maxRecDepth 20000 in
theorem NL_in : ∀ w ∈ NL, w ∈ lw_tbl := mem_r [76, 78, 79, 96, 97, 99, 100, 113, 115, 116, 130, 132, 134, 136, 164, 165, 167, 168, 170, 171, 173, 175, 176, 178, 179, 181, 184, 185, 218, 245, 268, 270, 275, 304, 306, 308, 311, 601, 71, 91, 108, 159, 207, 236, 299, 491, 526, 603, 648, 716, 737] (by decide +kernel)
section EN0
variable {s : State}
theorem en_arr {args : Array Value} {ty : FieldType} (h : (Cond.arrayClass ty).before args s = true) : ∃ cA : ClassId, ArrOfT s cA ty ∧ s.vm.findClass ("[" ++ ty.toString) = some cA := by
  obtain ⟨cA, kA, comp, h1, h2, h3⟩ := Cond.arrayClass_spec h
  exact ⟨cA, fun n z => ⟨fun k h => (by cases h), kA, h2, comp, h3⟩, h1⟩
set_option maxHeartbeats 4000000 in
set_option maxRecDepth 20000 in
theorem en_K {args : Array Value} (hts : ∀ w ∈ lw_tbl, w.before args s = true) : ∃ (dC : Nat → ClassId) (dI : Nat → Nat → Nat) (cI cL : ClassId), va_K (dC, dI) vwCl [(cI, .int), (cL, .long)] s := by
  obtain ⟨c0, i0, k0⟩ := u_known (C := RX0) (T := TX0) (N := 3) (n := 3) hts inX0 (hts (.instantiable RX0 3) (List.mem_of_getElem? (i := 70) (by decide +kernel)))
  obtain ⟨c1, i1, k1⟩ := u_known (C := RX1) (T := TX1) (N := 5) (n := 5) hts inX1 (hts (.instantiable RX1 5) (List.mem_of_getElem? (i := 235) (by decide +kernel)))
  obtain ⟨c2, i2, k2⟩ := u_known (C := RX2) (T := TX2) (N := 9) (n := 9) hts inX2 (hts (.instantiable RX2 9) (List.mem_of_getElem? (i := 158) (by decide +kernel)))
  obtain ⟨c3, i3, k3⟩ := u_known (C := RX3) (T := TX3) (N := 5) (n := 5) hts inX3 (hts (.instantiable RX3 5) (List.mem_of_getElem? (i := 298) (by decide +kernel)))
  obtain ⟨c4, i4, k4⟩ := u_known (C := RX4) (T := TX4) (N := 2) (n := 2) hts inX4 (hts (.instantiable RX4 2) (List.mem_of_getElem? (i := 90) (by decide +kernel)))
  obtain ⟨c5, i5, k5⟩ := u_known (C := RX5) (T := TX5) (N := 8) (n := 8) hts inX5 (hts (.instantiable RX5 8) (List.mem_of_getElem? (i := 123) (by decide +kernel)))
  obtain ⟨c6, i6, k6⟩ := u_known (C := RX6) (T := TX6) (N := 10) (n := 10) hts inX6 (hts (.instantiable RX6 10) (List.mem_of_getElem? (i := 258) (by decide +kernel)))
  obtain ⟨c7, i7, k7⟩ := u_known (C := RX7) (T := TX7) (N := 2) (n := 2) hts inX7 (hts (.instantiable RX7 2) (List.mem_of_getElem? (i := 107) (by decide +kernel)))
  obtain ⟨c8, i8, k8⟩ := u_known (C := RX8) (T := TX8) (N := 7) (n := 7) hts inX8 (hts (.instantiable RX8 7) (List.mem_of_getElem? (i := 206) (by decide +kernel)))
  obtain ⟨c9, i9, k9⟩ := u_known (C := RX9) (T := TX9) (N := 10) (n := 10) hts inX9 (hts (.instantiable RX9 10) (List.mem_of_getElem? (i := 62) (by decide +kernel)))
  obtain ⟨c10, i10, k10⟩ := u_known (C := RX10) (T := TX10) (N := 41) (n := 41) hts inX10 (hts (.instantiable RX10 41) (List.mem_of_getElem? (i := 757) (by decide +kernel)))
  obtain ⟨cI, aI, rI⟩ := en_arr (hts (.arrayClass .int) (List.mem_of_getElem? (i := 88) (by decide +kernel)))
  obtain ⟨cL, aL, rL⟩ := en_arr (hts (.arrayClass .long) (List.mem_of_getElem? (i := 323) (by decide +kernel)))
  refine ⟨fun k => match k with | 0 => c0 | 1 => c1 | 2 => c2 | 3 => c3 | 4 => c4 | 5 => c5 | 6 => c6 | 7 => c7 | 8 => c8 | 9 => c9 | _ => c10, fun k => match k with | 0 => i0 | 1 => i1 | 2 => i2 | 3 => i3 | 4 => i4 | 5 => i5 | 6 => i6 | 7 => i7 | 8 => i8 | 9 => i9 | _ => i10, cI, cL, ?_, ?_⟩
  · intro k q hq
    match k, hq with
    | 0, hq => cases hq; exact k0
    | 1, hq => cases hq; exact k1
    | 2, hq => cases hq; exact k2
    | 3, hq => cases hq; exact k3
    | 4, hq => cases hq; exact k4
    | 5, hq => cases hq; exact k5
    | 6, hq => cases hq; exact k6
    | 7, hq => cases hq; exact k7
    | 8, hq => cases hq; exact k8
    | 9, hq => cases hq; exact k9
    | 10, hq => cases hq; exact k10
    | k + 11, hq => simp [vwCl] at hq
  · intro k q hq
    match k, hq with
    | 0, hq => cases hq; exact ⟨aI, rI⟩
    | 1, hq => cases hq; exact ⟨aL, rL⟩
    | k + 2, hq => simp at hq
set_option maxHeartbeats 4000000 in
set_option maxRecDepth 20000 in
theorem en_EN {b : Nat} (hts : ∀ w ∈ lw_tbl, w.before #[Value.ref b] s = true) (hgv : (Jvm.Cond.and given_1 narrow_1).before #[Value.ref b] s = true) (dC : Nat → ClassId) (dI : Nat → Nat → Nat) (cI cL : ClassId) : ∃ (aV aM : Nat) (adK adV : Nat → Nat), ∀ xa0 : Nat → Nat, EN (dC, dI, cI, cL, aV, aM, adK, adV, xa0) (fun q : Nat => s.heap.size ≤ q) s s.heap := by
  have hA : ∀ a : Nat, a < s.heap.size → ¬ (fun q : Nat => s.heap.size ≤ q) a := fun a h => Nat.not_le.mpr h
  have hs := flat_of_before _ hgv
  obtain ⟨aV, eV, tV⟩ := va_Tof (args := #[Value.ref b]) (s := s) (tm := .static "DeclarationHall" "VALUE_AT_FIRST" "[I") (ty := .int) (N := 6) (f := fun j => .int (tbV j)) (A := (fun q : Nat => s.heap.size ≤ q)) (by decide) (hs _ (by decide +kernel)) (va_eqt (hs _ (by decide +kernel))) (fun j hj => by
    rcases (show j = 0 ∨ j = 1 ∨ j = 2 ∨ j = 3 ∨ j = 4 ∨ j = 5 by omega) with rfl | rfl | rfl | rfl | rfl | rfl <;> exact va_eqt (hs _ (by decide +kernel))) hA
  have zV := va_Zref (A := (fun q : Nat => s.heap.size ≤ q)) (hts (.laysStatic "DeclarationHall" "VALUE_AT_FIRST" "[I") (List.mem_of_getElem? (i := 602) (by decide +kernel))) (hts (.initialized "DeclarationHall") (List.mem_of_getElem? (i := 43) (by decide +kernel))) eV hA
  obtain ⟨aM, eM, tM⟩ := va_Tof (args := #[Value.ref b]) (s := s) (tm := .static "DeclarationHall" "MOST_VALUE" "[I") (ty := .int) (N := 6) (f := fun j => .int (tbM j)) (A := (fun q : Nat => s.heap.size ≤ q)) (by decide) (hs _ (by decide +kernel)) (va_eqt (hs _ (by decide +kernel))) (fun j hj => by
    rcases (show j = 0 ∨ j = 1 ∨ j = 2 ∨ j = 3 ∨ j = 4 ∨ j = 5 by omega) with rfl | rfl | rfl | rfl | rfl | rfl <;> exact va_eqt (hs _ (by decide +kernel))) hA
  have zM := va_Zref (A := (fun q : Nat => s.heap.size ≤ q)) (hts (.laysStatic "DeclarationHall" "MOST_VALUE" "[I") (List.mem_of_getElem? (i := 588) (by decide +kernel))) (hts (.initialized "DeclarationHall") (List.mem_of_getElem? (i := 43) (by decide +kernel))) eM hA
  have zC := va_Zof (A := (fun q : Nat => s.heap.size ≤ q)) (hts (.laysStatic "java/lang/String" "COMPACT_STRINGS" "Z") (List.mem_of_getElem? (i := 439) (by decide +kernel))) (hts (.initialized "java/lang/String") (List.mem_of_getElem? (i := 54) (by decide +kernel))) (va_eqi (z := 1) (hs _ (by decide +kernel))) hA
  have zQ := va_Zqof (A := (fun q : Nat => s.heap.size ≤ q)) (hts (.laysStatic "jdk/internal/util/Preconditions" "SIOOBE_FORMATTER" "Ljava/util/function/BiFunction;") (List.mem_of_getElem? (i := 455) (by decide +kernel))) (hts (.initialized "jdk/internal/util/Preconditions") (List.mem_of_getElem? (i := 56) (by decide +kernel))) (hs _ (by decide +kernel)) hA
  obtain ⟨adK, adV, h5, ev⟩ := vk_Sof (args := #[Value.ref b]) (s := s) (N := 5) (tm := fun i => .string "DeclarationHall$Reader" (jsN i)) (len := jsL) (byt := jsB) (A := (fun q : Nat => s.heap.size ≤ q))
    (fun i hi => Nat.lt_of_lt_of_le (jsL_lt i hi) (by decide))
    (fun i hi => by rcases (show i = 0 ∨ i = 1 ∨ i = 2 ∨ i = 3 ∨ i = 4 by omega) with rfl | rfl | rfl | rfl | rfl <;> exact hs _ (by decide +kernel))
    (fun i hi => by rcases (show i = 0 ∨ i = 1 ∨ i = 2 ∨ i = 3 ∨ i = 4 by omega) with rfl | rfl | rfl | rfl | rfl <;> exact hs _ (by decide +kernel))
    (fun i hi => by rcases (show i = 0 ∨ i = 1 ∨ i = 2 ∨ i = 3 ∨ i = 4 by omega) with rfl | rfl | rfl | rfl | rfl <;> exact hs _ (by decide +kernel))
    (fun i hi => by rcases (show i = 0 ∨ i = 1 ∨ i = 2 ∨ i = 3 ∨ i = 4 by omega) with rfl | rfl | rfl | rfl | rfl <;> exact hs _ (by decide +kernel))
    (fun i hi j hj => by
    rcases (show i = 0 ∨ i = 1 ∨ i = 2 ∨ i = 3 ∨ i = 4 by omega) with rfl | rfl | rfl | rfl | rfl
    · have hj : j < 4 := hj
      rcases (show j = 0 ∨ j = 1 ∨ j = 2 ∨ j = 3 by omega) with rfl | rfl | rfl | rfl <;> exact hs _ (by decide +kernel)
    · have hj : j < 5 := hj
      rcases (show j = 0 ∨ j = 1 ∨ j = 2 ∨ j = 3 ∨ j = 4 by omega) with rfl | rfl | rfl | rfl | rfl <;> exact hs _ (by decide +kernel)
    · have hj : j < 5 := hj
      rcases (show j = 0 ∨ j = 1 ∨ j = 2 ∨ j = 3 ∨ j = 4 by omega) with rfl | rfl | rfl | rfl | rfl <;> exact hs _ (by decide +kernel)
    · have hj : j < 4 := hj
      rcases (show j = 0 ∨ j = 1 ∨ j = 2 ∨ j = 3 by omega) with rfl | rfl | rfl | rfl <;> exact hs _ (by decide +kernel)
    · have hj : j < 4 := hj
      rcases (show j = 0 ∨ j = 1 ∨ j = 2 ∨ j = 3 by omega) with rfl | rfl | rfl | rfl <;> exact hs _ (by decide +kernel)
    )
    (fun i j hi hj hij => by
      rcases (show i = 0 ∨ i = 1 ∨ i = 2 ∨ i = 3 ∨ i = 4 by omega) with rfl | rfl | rfl | rfl | rfl <;> rcases (show j = 0 ∨ j = 1 ∨ j = 2 ∨ j = 3 ∨ j = 4 by omega) with rfl | rfl | rfl | rfl | rfl <;> first | exact absurd rfl hij | exact Or.inl (hs _ (by decide +kernel)) | exact Or.inr (hs _ (by decide +kernel))) hA
  have hR : ∀ i, i < 5 → vk_R "DeclarationHall$Reader" (jsN i) (jsT i) (adK i) s := by
    intro i hi
    rcases (show i = 0 ∨ i = 1 ∨ i = 2 ∨ i = 3 ∨ i = 4 by omega) with rfl | rfl | rfl | rfl | rfl
    · exact vk_R.of (hts (.stringRef "DeclarationHall$Reader" 106 "land") (List.mem_of_getElem? (i := 421) (by decide +kernel))) (ev 0 hi)
    · exact vk_R.of (hts (.stringRef "DeclarationHall$Reader" 108 "goods") (List.mem_of_getElem? (i := 422) (by decide +kernel))) (ev 1 hi)
    · exact vk_R.of (hts (.stringRef "DeclarationHall$Reader" 110 "heads") (List.mem_of_getElem? (i := 423) (by decide +kernel))) (ev 2 hi)
    · exact vk_R.of (hts (.stringRef "DeclarationHall$Reader" 112 "owes") (List.mem_of_getElem? (i := 424) (by decide +kernel))) (ev 3 hi)
    · exact vk_R.of (hts (.stringRef "DeclarationHall$Reader" 114 "lent") (List.mem_of_getElem? (i := 425) (by decide +kernel))) (ev 4 hi)
  exact ⟨aV, aM, adK, adV, fun xa0 => ⟨fun w hw => va_Nw.of (NL_field w hw) (hts w (NL_in w hw)), hR, ⟨zV, tV⟩, ⟨zM, tM⟩, h5, zC, zQ⟩⟩
end EN0
