section LOOP
variable {p : Program} {l : Launch} {e : Env} {s : State} {m : MethodId} {below : List Frame} {meth : Method} {c : Code} {X : gX} {A : Nat → Prop} {Q : State → Prop} {b L : Nat} {xs : Nat → Int32}
theorem len_ge {L k : Nat} (hL : L ≤ 2560) (hk : 5 * k ≤ L) (h : ¬ nI L - 5 < nI (5 * k)) : 5 * k + 5 ≤ L := by
  rw [Int32.lt_iff_toInt_lt, Int32.toInt_sub, nI_toInt (by omega), nI_toInt (by omega), show (5 : Int32).toInt = 5 from by decide +kernel, Int.bmod_eq_of_le (by omega) (by omega)] at h
  omega
set_option maxHeartbeats 8000000 in
set_option maxRecDepth 20000 in
theorem law_next (C : gC p s m #[Value.ref b] meth c X A 4 cL_law RL wsL_law) (σ : RunS) (k : Nat) (kk : gG p l e room_1 s m #[Value.ref b] below meth c X A 4 78 6766 Q [(0, .ref b), (1, .ref (xa X 0)), (2, .ref (xa X 46)), (3, .int (nI (5 * (k + 1))))] (wL X σ) 18 []) : gG p l e room_1 s m #[Value.ref b] below meth c X A 4 78 6766 Q [(0, .ref b), (1, .ref (xa X 0)), (2, .ref (xa X 46)), (3, .int (nI (5 * k)))] (wL X σ) 1100 [] := by
  refine g_iinc (pc' := 1103) (v := nI (5 * (k + 1))) C dL_law_1100 3 rfl (nI_add (5 * k) 5) (by decide) rfl rfl ?_
  refine g_goto (tgt := 18) C dL_law_1103 (by decide) ?_
  exact g_lv [1, 2, 3, 0] rfl kk
set_option maxHeartbeats 8000000 in
set_option maxRecDepth 20000 in
theorem law_pick (C : gC p s m #[Value.ref b] meth c X A 4 cL_law RL wsL_law) (hX : va_X b L xs s s.heap) (hbl : b < s.heap.size) (hbA : ¬ A b) (σ : RunS) (k : Nat) (hI : Inv σ k) (hk : 5 * k + 5 ≤ L) (hL : L ≤ 2560) (cont : ∀ σ2, Inv σ2 (k + 1) → gG p l e room_1 s m #[Value.ref b] below meth c X A 4 78 6766 Q [(0, .ref b), (1, .ref (xa X 0)), (2, .ref (xa X 46)), (3, .int (nI (5 * k)))] (wL X σ2) 1100 []) (j : Nat) (hj : j < 32) : gG p l e room_1 s m #[Value.ref b] below meth c X A 4 78 6766 Q [(0, .ref b), (1, .ref (xa X 0)), (2, .ref (xa X 46)), (3, .int (nI (5 * k)))] (wL X σ) 32 [.int (nI j)] := by
  by_cases h26 : j < 26
  · rcases (show j = 0 ∨ j = 1 ∨ j = 2 ∨ j = 3 ∨ j = 4 ∨ j = 5 ∨ j = 6 ∨ j = 7 ∨ j = 8 ∨ j = 9 ∨ j = 10 ∨ j = 11 ∨ j = 12 ∨ j = 13 ∨ j = 14 ∨ j = 15 ∨ j = 16 ∨ j = 17 ∨ j = 18 ∨ j = 19 ∨ j = 20 ∨ j = 21 ∨ j = 22 ∨ j = 23 ∨ j = 24 ∨ j = 25 by omega) with rfl | rfl | rfl | rfl | rfl | rfl | rfl | rfl | rfl | rfl | rfl | rfl | rfl | rfl | rfl | rfl | rfl | rfl | rfl | rfl | rfl | rfl | rfl | rfl | rfl | rfl
    · refine g_tableIn (tgt := 152) (off := 120) C dL_law_32 (by decide +kernel) (by decide +kernel) (by decide +kernel) (by decide) ?_
      exact lo_days C hX hbl hbA σ k hI hk hL cont
    · refine g_tableIn (tgt := 175) (off := 143) C dL_law_32 (by decide +kernel) (by decide +kernel) (by decide +kernel) (by decide) ?_
      exact lo_measure C hX hbl hbA σ k hI hk hL cont
    · refine g_tableIn (tgt := 218) (off := 186) C dL_law_32 (by decide +kernel) (by decide +kernel) (by decide +kernel) (by decide) ?_
      exact lo_feed C hX hbl hbA σ k hI hk hL cont
    · refine g_tableIn (tgt := 261) (off := 229) C dL_law_32 (by decide +kernel) (by decide +kernel) (by decide +kernel) (by decide) ?_
      exact lo_trim C hX hbl hbA σ k hI hk hL cont
    · refine g_tableIn (tgt := 284) (off := 252) C dL_law_32 (by decide +kernel) (by decide +kernel) (by decide +kernel) (by decide) ?_
      exact lo_declare C hX hbl hbA σ k hI hk hL cont
    · refine g_tableIn (tgt := 317) (off := 285) C dL_law_32 (by decide +kernel) (by decide +kernel) (by decide +kernel) (by decide) ?_
      exact lo_line C hX hbl hbA σ k hI hk hL cont
    · refine g_tableIn (tgt := 350) (off := 318) C dL_law_32 (by decide +kernel) (by decide +kernel) (by decide +kernel) (by decide) ?_
      exact lo_isOf C hX hbl hbA σ k hI hk hL cont
    · refine g_tableIn (tgt := 383) (off := 351) C dL_law_32 (by decide +kernel) (by decide +kernel) (by decide +kernel) (by decide) ?_
      exact lo_appeal C hX hbl hbA σ k hI hk hL cont
    · refine g_tableIn (tgt := 416) (off := 384) C dL_law_32 (by decide +kernel) (by decide +kernel) (by decide +kernel) (by decide) ?_
      exact lo_stands C hX hbl hbA σ k hI hk hL cont
    · refine g_tableIn (tgt := 449) (off := 417) C dL_law_32 (by decide +kernel) (by decide +kernel) (by decide +kernel) (by decide) ?_
      exact lo_says C hX hbl hbA σ k hI hk hL cont
    · refine g_tableIn (tgt := 492) (off := 460) C dL_law_32 (by decide +kernel) (by decide +kernel) (by decide +kernel) (by decide) ?_
      exact lo_toldOf C hX hbl hbA σ k hI hk hL cont
    · refine g_tableIn (tgt := 525) (off := 493) C dL_law_32 (by decide +kernel) (by decide +kernel) (by decide +kernel) (by decide) ?_
      exact lo_decree C hX hbl hbA σ k hI hk hL cont
    · refine g_tableIn (tgt := 568) (off := 536) C dL_law_32 (by decide +kernel) (by decide +kernel) (by decide +kernel) (by decide) ?_
      exact lo_holds C hX hbl hbA σ k hI hk hL cont
    · refine g_tableIn (tgt := 611) (off := 579) C dL_law_32 (by decide +kernel) (by decide +kernel) (by decide +kernel) (by decide) ?_
      exact lo_match C hX hbl hbA σ k hI hk hL cont
    · refine g_tableIn (tgt := 644) (off := 612) C dL_law_32 (by decide +kernel) (by decide +kernel) (by decide +kernel) (by decide) ?_
      exact lo_quarrel C hX hbl hbA σ k hI hk hL cont
    · refine g_tableIn (tgt := 677) (off := 645) C dL_law_32 (by decide +kernel) (by decide +kernel) (by decide +kernel) (by decide) ?_
      exact lo_quarrels C hX hbl hbA σ k hI hk hL cont
    · refine g_tableIn (tgt := 710) (off := 678) C dL_law_32 (by decide +kernel) (by decide +kernel) (by decide +kernel) (by decide) ?_
      exact lo_worth C hX hbl hbA σ k hI hk hL cont
    · refine g_tableIn (tgt := 753) (off := 721) C dL_law_32 (by decide +kernel) (by decide +kernel) (by decide +kernel) (by decide) ?_
      exact lo_tax C hX hbl hbA σ k hI hk hL cont
    · refine g_tableIn (tgt := 796) (off := 764) C dL_law_32 (by decide +kernel) (by decide +kernel) (by decide +kernel) (by decide) ?_
      exact lo_taxes C hX hbl hbA σ k hI hk hL cont
    · refine g_tableIn (tgt := 829) (off := 797) C dL_law_32 (by decide +kernel) (by decide +kernel) (by decide +kernel) (by decide) ?_
      exact lo_since C hX hbl hbA σ k hI hk hL cont
    · refine g_tableIn (tgt := 862) (off := 830) C dL_law_32 (by decide +kernel) (by decide +kernel) (by decide +kernel) (by decide) ?_
      exact lo_differs C hX hbl hbA σ k hI hk hL cont
    · refine g_tableIn (tgt := 905) (off := 873) C dL_law_32 (by decide +kernel) (by decide +kernel) (by decide +kernel) (by decide) ?_
      exact lo_levy C hX hbl hbA σ k hI hk hL cont
    · refine g_tableIn (tgt := 938) (off := 906) C dL_law_32 (by decide +kernel) (by decide +kernel) (by decide +kernel) (by decide) ?_
      exact lo_loan C hX hbl hbA σ k hI hk hL cont
    · refine g_tableIn (tgt := 981) (off := 949) C dL_law_32 (by decide +kernel) (by decide +kernel) (by decide +kernel) (by decide) ?_
      exact lo_pay C hX hbl hbA σ k hI hk hL cont
    · refine g_tableIn (tgt := 1024) (off := 992) C dL_law_32 (by decide +kernel) (by decide +kernel) (by decide +kernel) (by decide) ?_
      exact lo_sell C hX hbl hbA σ k hI hk hL cont
    · refine g_tableIn (tgt := 1077) (off := 1045) C dL_law_32 (by decide +kernel) (by decide +kernel) (by decide +kernel) (by decide) ?_
      exact lo_count C hX hbl hbA σ k hI hk hL cont
  · refine g_tableOut (tgt := 1100) C dL_law_32 (Or.inr (by rw [nI_toInt (by omega)]; omega)) (by decide) ?_
    exact cont σ hI.mono
set_option maxHeartbeats 8000000 in
set_option maxRecDepth 20000 in
theorem law_loop (C : gC p s m #[Value.ref b] meth c X A 4 cL_law RL wsL_law) (hX : va_X b L xs s s.heap) (hbl : b < s.heap.size) (hbA : ¬ A b) (hL : L ≤ 2560) (fin : ∀ lv ws, gG p l e room_1 s m #[Value.ref b] below meth c X A 4 78 6766 Q lv ws 1106 []) : ∀ (n : Nat) (σ : RunS) (k : Nat), Inv σ k → 5 * k ≤ L → L < 5 * k + n → gG p l e room_1 s m #[Value.ref b] below meth c X A 4 78 6766 Q [(0, .ref b), (1, .ref (xa X 0)), (2, .ref (xa X 46)), (3, .int (nI (5 * k)))] (wL X σ) 18 [] := by
  intro n
  induction n with
  | zero => intro σ k hI hk hn; exact absurd hn (by omega)
  | succ n ih =>
    intro σ k hI hk hn
    refine g_iload_n (pc' := 19) C dL_law_18 3 rfl rfl rfl ?_
    refine g_aload_n (pc' := 20) C dL_law_19 0 rfl rfl rfl ?_
    refine g_slen (pc' := 21) C hX hbl hbA dL_law_20 rfl ?_
    refine g_iconst (pc' := 22) (v := 5) C dL_law_21 rfl rfl ?_
    refine g_isub (pc' := 23) C dL_law_22 rfl ?_
    refine g_icmp_gt (tgt := 1106) (pc' := 26) C dL_law_23 (by decide) rfl (fun _ => fin _ _) (fun h => ?_)
    have hk5 : 5 * k + 5 ≤ L := len_ge hL hk h
    refine g_aload_n (pc' := 27) C dL_law_26 0 rfl rfl rfl ?_
    refine g_iload_n (pc' := 28) C dL_law_27 3 rfl rfl rfl ?_
    refine g_sld (pc' := 29) C hX hbl hbA (5 * k) rfl (by omega) (by omega) dL_law_28 rfl ?_
    refine g_bipush (pc' := 31) (v := 31) C dL_law_29 rfl rfl ?_
    refine g_iand (pc' := 32) C dL_law_31 rfl ?_
    obtain ⟨j, hj, ej⟩ := pk_andE (xs (5 * k)) (m := 31) 5 (by decide +kernel)
    refine g_top ej ?_
    exact law_pick C hX hbl hbA σ k hI hk5 hL (fun σ2 hI2 => law_next C σ2 k (ih σ2 (k + 1) hI2 (by omega) (by omega))) j hj
end LOOP
