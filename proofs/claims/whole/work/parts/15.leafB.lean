set_option maxHeartbeats 1000000 in
set_option maxRecDepth 20000 in
theorem c_X8_findLatest (l : Launch) (X : gX) (wn : Nat) (f39 : Nat → Int32) (f40 : Nat → Int32) (f41 : Nat → Int32) (f42 : Nat → Int32) (f43 : Nat → Int32) (pl : Int32) (d : Int32) (hn : wn ≤ 40) (hW : ∀ i, i < wn → okN (f39 i) 10) : KC l yX8_findLatest wsX8_findLatest ⟨1, 0, 0, 23⟩ [.ref (xa X 6), .int pl, .int d] X [oWds X (nI wn), kA X 39 40 f39, kA X 40 40 f40, kA X 41 40 f41, kA X 42 40 f42, kA X 43 10 f43] none [oWds X (nI wn), kA X 39 40 f39, kA X 40 40 f40, kA X 41 40 f41, kA X 42 40 f42, kA X 43 10 (fun b_ => lastF f39 f40 f41 f42 b_ pl d wn)] := by
  have hi_X8 : ∀ w ∈ u_ws RX8 TX8 7, w ∈ wsX8_findLatest := fun w h => List.mem_cons_of_mem _ (List.mem_append_right _ h)
  refine KC.of cX8_findLatest 4 none RX8 rfl (by decide) rfl (lv := [(0, .ref (xa X 6)), (1, .int pl), (2, .int d)]) rfl (Nat.le_of_ble_eq_true rfl) ?_
  intro p e s m args below meth c A C hr
  refine g_aload_n (pc' := 1) C dX8_findLatest_0 0 rfl rfl rfl ?_
  refine g_get (pc' := 4) C hi_X8 0 4 rfl rfl (by decide) (List.mem_of_getElem? (i := 1) rfl) rfl dX8_findLatest_1 rfl ?_
  refine g_ldc (pc' := 6) (v := (-1000000005)) C (List.mem_of_getElem? (i := 2) rfl) dX8_findLatest_4 rfl ?_
  refine g_callS (pc' := 9) (st := []) (ws2 := [oWds X (nI wn), kA X 39 40 f39, kA X 40 40 f40, kA X 41 40 f41, kA X 42 40 f42, kA X 43 10 (fun _ => (-1000000005))]) C [.ref (xa X 43), .int (-1000000005)] 2 rfl (c_J7_fill_53178 l X (xa X 43) 10 f43 (-1000000005) (by decide)) [5] [0, 1, 2, 3, 4] [0, 1, 2, 3, 4, 5] gX8_findLatest_J7_fill_53178 rfl ⟨rfl, rfl⟩ (by decide +kernel) ⟨by decide, by decide⟩ ⟨by decide, by decide⟩ rfl (wr := [oWds X (nI wn), kA X 39 40 f39, kA X 40 40 f40, kA X 41 40 f41, kA X 42 40 f42]) rfl ⟨by decide, by decide, by decide, by decide⟩ rfl (Nat.le_of_ble_eq_true rfl) dX8_findLatest_6 rfl rfl ?_
  refine g_iconst (pc' := 10) (v := 0) C dX8_findLatest_9 rfl rfl ?_
  refine g_istore_n (pc' := 11) (lv' := [(3, .int 0), (0, .ref (xa X 6)), (1, .int pl), (2, .int d)]) C dX8_findLatest_10 rfl (by decide) rfl rfl ?_
  have lp_11 : ∀ (n_11 : Nat) (k : Nat) (g : Nat → Int32) (hk : k ≤ wn) (hg : ∀ h, h < 10 → g h = lastF f39 f40 f41 f42 h pl d k) (hm_11 : wn - k < n_11), gG p l e ⟨1, 0, 0, 23⟩ s m args below meth c X A 4 0 0 (MQ below (QA X A none [oWds X (nI wn), kA X 39 40 f39, kA X 40 40 f40, kA X 41 40 f41, kA X 42 40 f42, kA X 43 10 (fun b_ => lastF f39 f40 f41 f42 b_ pl d wn)]) args s 0 0 A) [(0, .ref (xa X 6)), (1, .int pl), (2, .int d), (3, .int (nI k))] [oWds X (nI wn), kA X 39 40 f39, kA X 40 40 f40, kA X 41 40 f41, kA X 42 40 f42, kA X 43 10 g] 11 [] := by
    intro n_11
    induction n_11 with
    | zero => intro k g hk hg hm_11; exact absurd hm_11 (Nat.not_lt_zero _)
    | succ n_11 ih_11 =>
      intro k g hk hg hm_11
      refine g_iload_n (pc' := 12) C dX8_findLatest_11 3 rfl rfl rfl ?_
      refine g_aload_n (pc' := 13) C dX8_findLatest_12 0 rfl rfl rfl ?_
      refine g_get (pc' := 16) C hi_X8 0 6 rfl rfl (by decide) (List.mem_of_getElem? (i := 3) rfl) rfl dX8_findLatest_13 rfl ?_
      refine g_icmp_geN (pc' := 19) (tgt := 62) C k wn rfl rfl (by omega) (by omega) dX8_findLatest_16 (by decide) rfl (fun c_16 => ?_) (fun c_16 => ?_)
      · refine g_ext (ws2 := [oWds X (nI wn), kA X 39 40 f39, kA X 40 40 f40, kA X 41 40 f41, kA X 42 40 f42, kA X 43 10 (fun b_ => lastF f39 f40 f41 f42 b_ pl d wn)]) (fun b_ => lastF f39 f40 f41 f42 b_ pl d wn) 5 rfl (fun h hh => by rw [hg h hh, show k = wn by omega]) rfl ?_
        exact g_vret C hr dX8_findLatest_62 rfl
      · refine g_aload_n (pc' := 20) C dX8_findLatest_19 0 rfl rfl rfl ?_
        refine g_get (pc' := 23) C hi_X8 0 1 rfl rfl (by decide) (List.mem_of_getElem? (i := 4) rfl) rfl dX8_findLatest_20 rfl ?_
        refine g_iload_n (pc' := 24) C dX8_findLatest_23 3 rfl rfl rfl ?_
        refine g_iald (pc' := 25) C 2 k rfl rfl (by omega) (by decide) dX8_findLatest_24 rfl ?_
        refine g_iload_n (pc' := 26) C dX8_findLatest_25 1 rfl rfl rfl ?_
        refine g_icmp_ne (pc' := 29) (tgt := 56) C dX8_findLatest_26 (by decide) rfl (fun c_26 => ?_) (fun c_26 => ?_)
        · refine g_iinc (pc' := 59) (v := nI (k + 1)) (lv' := [(3, .int (nI (k + 1))), (0, .ref (xa X 6)), (1, .int pl), (2, .int d)]) C dX8_findLatest_56 3 rfl (nI_1 _) (by decide) rfl rfl ?_
          refine g_goto (tgt := 11) C dX8_findLatest_59 (by decide) ?_
          refine g_lv (lv2 := [(0, .ref (xa X 6)), (1, .int pl), (2, .int d), (3, .int (nI (k + 1)))]) [1, 2, 3, 0] rfl ?_
          exact ih_11 (k + 1) g (by omega) (lastF_no hg (fun z => c_26 z.1)) (by omega)
        · refine g_aload_n (pc' := 30) C dX8_findLatest_29 0 rfl rfl rfl ?_
          refine g_get (pc' := 33) C hi_X8 0 3 rfl rfl (by decide) (List.mem_of_getElem? (i := 5) rfl) rfl dX8_findLatest_30 rfl ?_
          refine g_iload_n (pc' := 34) C dX8_findLatest_33 3 rfl rfl rfl ?_
          refine g_iald (pc' := 35) C 4 k rfl rfl (by omega) (by decide) dX8_findLatest_34 rfl ?_
          refine g_iload_n (pc' := 36) C dX8_findLatest_35 2 rfl rfl rfl ?_
          refine g_icmp_gt (pc' := 39) (tgt := 56) C dX8_findLatest_36 (by decide) rfl (fun c_36 => ?_) (fun c_36 => ?_)
          · refine g_iinc (pc' := 59) (v := nI (k + 1)) (lv' := [(3, .int (nI (k + 1))), (0, .ref (xa X 6)), (1, .int pl), (2, .int d)]) C dX8_findLatest_56 3 rfl (nI_1 _) (by decide) rfl rfl ?_
            refine g_goto (tgt := 11) C dX8_findLatest_59 (by decide) ?_
            refine g_lv (lv2 := [(0, .ref (xa X 6)), (1, .int pl), (2, .int d), (3, .int (nI (k + 1)))]) [1, 2, 3, 0] rfl ?_
            exact ih_11 (k + 1) g (by omega) (lastF_no hg (fun z => z.2 c_36)) (by omega)
          · refine g_aload_n (pc' := 40) C dX8_findLatest_39 0 rfl rfl rfl ?_
            refine g_get (pc' := 43) C hi_X8 0 4 rfl rfl (by decide) (List.mem_of_getElem? (i := 1) rfl) rfl dX8_findLatest_40 rfl ?_
            refine g_aload_n (pc' := 44) C dX8_findLatest_43 0 rfl rfl rfl ?_
            refine g_get (pc' := 47) C hi_X8 0 0 rfl rfl (by decide) (List.mem_of_getElem? (i := 6) rfl) rfl dX8_findLatest_44 rfl ?_
            refine g_iload_n (pc' := 48) C dX8_findLatest_47 3 rfl rfl rfl ?_
            have okk := hW k (by omega)
            have okk2 := okk.2
            refine g_iald (pc' := 49) C 1 k rfl rfl (by omega) (by decide) dX8_findLatest_48 rfl ?_
            refine g_top (y := nI (cN (f39 k))) okk.1 ?_
            refine g_aload_n (pc' := 50) C dX8_findLatest_49 0 rfl rfl rfl ?_
            refine g_get (pc' := 53) C hi_X8 0 2 rfl rfl (by decide) (List.mem_of_getElem? (i := 7) rfl) rfl dX8_findLatest_50 rfl ?_
            refine g_iload_n (pc' := 54) C dX8_findLatest_53 3 rfl rfl rfl ?_
            refine g_iald (pc' := 55) C 3 k rfl rfl (by omega) (by decide) dX8_findLatest_54 rfl ?_
            refine g_iast (pc' := 56) (ws2 := [oWds X (nI wn), kA X 39 40 f39, kA X 40 40 f40, kA X 41 40 f41, kA X 42 40 f42, kA X 43 10 (upd g (cN (f39 k)) (f41 k))]) C 5 (cN (f39 k)) rfl rfl (by omega) (by decide) dX8_findLatest_55 rfl rfl ?_
            refine g_iinc (pc' := 59) (v := nI (k + 1)) (lv' := [(3, .int (nI (k + 1))), (0, .ref (xa X 6)), (1, .int pl), (2, .int d)]) C dX8_findLatest_56 3 rfl (nI_1 _) (by decide) rfl rfl ?_
            refine g_goto (tgt := 11) C dX8_findLatest_59 (by decide) ?_
            refine g_lv (lv2 := [(0, .ref (xa X 6)), (1, .int pl), (2, .int d), (3, .int (nI (k + 1)))]) [1, 2, 3, 0] rfl ?_
            refine g_eq (lv2 := [(0, .ref (xa X 6)), (1, .int pl), (2, .int d), (3, .int (nI (k + 1)))]) (ws2 := [oWds X (nI wn), kA X 39 40 f39, kA X 40 40 f40, kA X 41 40 f41, kA X 42 40 f42, kA X 43 10 (upd g (cN (f39 k)) (f41 k))]) (st2 := []) rfl (congrArg (fun zq_ : Nat → Int32 => ([oWds X (nI wn), kA X 39 40 f39, kA X 40 40 f40, kA X 41 40 f41, kA X 42 40 f42, kA X 43 10 zq_] : va_W)) (show (upd g (cN (f39 k)) (f41 k) : Nat → Int32) = (upd g (cN (f39 k)) (f41 k)) from (by first | rfl | omega | (simp [c_16, c_26, c_36]; done) | (simp [c_16, c_26, c_36]; omega) | (simp [c_16, c_26, c_36]; intros; exfalso; omega) | grind []))) rfl ?_
            exact ih_11 (k + 1) (upd g (cN (f39 k)) (f41 k)) (by omega) (lastF_put hg okk c_26 c_36) (by omega)
  refine g_lv (lv2 := [(0, .ref (xa X 6)), (1, .int pl), (2, .int d), (3, .int 0)]) [1, 2, 3, 0] rfl ?_
  refine g_eq (lv2 := [(0, .ref (xa X 6)), (1, .int pl), (2, .int d), (3, .int 0)]) (ws2 := [oWds X (nI wn), kA X 39 40 f39, kA X 40 40 f40, kA X 41 40 f41, kA X 42 40 f42, kA X 43 10 (fun _ => (-1000000005))]) (st2 := []) rfl (congrArg (fun zq_ : Nat → Int32 => ([oWds X (nI wn), kA X 39 40 f39, kA X 40 40 f40, kA X 41 40 f41, kA X 42 40 f42, kA X 43 10 zq_] : va_W)) (show (fun _ => (-1000000005) : Nat → Int32) = (fun _ => (-1000000005)) from (by first | rfl | omega | (simp []; done) | (simp []; omega) | (simp []; intros; exfalso; omega) | grind []))) rfl ?_
  exact lp_11 (wn - 0 + 1) 0 (fun _ => (-1000000005)) (Nat.zero_le _) (fun _ _ => rfl) (by omega)

set_option maxHeartbeats 1000000 in
set_option maxRecDepth 20000 in
theorem c_X8_countVotes (l : Launch) (X : gX) (wn : Nat) (f43 : Nat → Int32) (f44 : Nat → Int32) (hL : ∀ h, h < 10 → f43 h = (-1000000005) ∨ okN (f43 h) 10) : KC l yX8_countVotes wsX8_countVotes ⟨1, 0, 0, 23⟩ [.ref (xa X 6)] X [oWds X (nI wn), kA X 43 10 f43, kA X 44 10 f44] (some (.int (nI (tall (effF f43) 10)))) [oWds X (nI wn), kA X 43 10 f43, kA X 44 10 (fun b_ => nI (tcnt (effF f43) b_ 10))] := by
  have hi_X8 : ∀ w ∈ u_ws RX8 TX8 7, w ∈ wsX8_countVotes := fun w h => List.mem_cons_of_mem _ (List.mem_append_right _ h)
  refine KC.of cX8_countVotes 4 (some .int) RX8 rfl (by decide) rfl (lv := [(0, .ref (xa X 6))]) rfl (Nat.le_of_ble_eq_true rfl) ?_
  intro p e s m args below meth c A C hr
  refine g_aload_n (pc' := 1) C dX8_countVotes_0 0 rfl rfl rfl ?_
  refine g_get (pc' := 4) C hi_X8 0 5 rfl rfl (by decide) (List.mem_of_getElem? (i := 1) rfl) rfl dX8_countVotes_1 rfl ?_
  refine g_iconst (pc' := 5) (v := 0) C dX8_countVotes_4 rfl rfl ?_
  refine g_callS (pc' := 8) (st := []) (ws2 := [oWds X (nI wn), kA X 43 10 f43, kA X 44 10 (fun _ => 0)]) C [.ref (xa X 44), .int 0] 2 rfl (c_J7_fill_53178 l X (xa X 44) 10 f44 0 (by decide)) [2] [0, 1] [0, 1, 2] gX8_countVotes_J7_fill_53178 rfl ⟨rfl, rfl⟩ (by decide +kernel) ⟨by decide, by decide⟩ ⟨by decide, by decide⟩ rfl (wr := [oWds X (nI wn), kA X 43 10 f43]) rfl ⟨by decide, by decide, by decide, by decide⟩ rfl (Nat.le_of_ble_eq_true rfl) dX8_countVotes_5 rfl rfl ?_
  refine g_iconst (pc' := 9) (v := 0) C dX8_countVotes_8 rfl rfl ?_
  refine g_istore_n (pc' := 10) (lv' := [(1, .int 0), (0, .ref (xa X 6))]) C dX8_countVotes_9 rfl (by decide) rfl rfl ?_
  refine g_iconst (pc' := 11) (v := 0) C dX8_countVotes_10 rfl rfl ?_
  refine g_istore_n (pc' := 12) (lv' := [(2, .int 0), (1, .int 0), (0, .ref (xa X 6))]) C dX8_countVotes_11 rfl (by decide) rfl rfl ?_
  have lp_12 : ∀ (n_12 : Nat) (k : Nat) (g : Nat → Int32) (hk : k ≤ 10) (hg : ∀ o, o < 10 → g o = nI (tcnt (effF f43) o k)) (hm_12 : 10 - k < n_12), gG p l e ⟨1, 0, 0, 23⟩ s m args below meth c X A 4 0 0 (MQ below (QA X A (some (.int (nI (tall (effF f43) 10)))) [oWds X (nI wn), kA X 43 10 f43, kA X 44 10 (fun b_ => nI (tcnt (effF f43) b_ 10))]) args s 0 0 A) [(0, .ref (xa X 6)), (1, .int (nI (tall (effF f43) k))), (2, .int (nI k))] [oWds X (nI wn), kA X 43 10 f43, kA X 44 10 g] 12 [] := by
    intro n_12
    induction n_12 with
    | zero => intro k g hk hg hm_12; exact absurd hm_12 (Nat.not_lt_zero _)
    | succ n_12 ih_12 =>
      intro k g hk hg hm_12
      refine g_iload_n (pc' := 13) C dX8_countVotes_12 2 rfl rfl rfl ?_
      refine g_bipush (pc' := 15) (v := 10) C dX8_countVotes_13 (by decide) rfl ?_
      refine g_icmp_geN (pc' := 18) (tgt := 55) C k 10 rfl rfl (by omega) (by omega) dX8_countVotes_15 (by decide) rfl (fun c_15 => ?_) (fun c_15 => ?_)
      · refine g_iload_n (pc' := 56) C dX8_countVotes_55 1 rfl rfl rfl ?_
        refine g_ext (ws2 := [oWds X (nI wn), kA X 43 10 f43, kA X 44 10 (fun b_ => nI (tcnt (effF f43) b_ 10))]) (fun b_ => nI (tcnt (effF f43) b_ 10)) 2 rfl (fun o hh => by rw [hg o hh, show k = 10 by omega]) rfl ?_
        exact g_iret C hr dX8_countVotes_56 (by rw [show k = 10 by omega]) rfl
      · refine g_aload_n (pc' := 19) C dX8_countVotes_18 0 rfl rfl rfl ?_
        refine g_get (pc' := 22) C hi_X8 0 4 rfl rfl (by decide) (List.mem_of_getElem? (i := 2) rfl) rfl dX8_countVotes_19 rfl ?_
        refine g_iload_n (pc' := 23) C dX8_countVotes_22 2 rfl rfl rfl ?_
        refine g_iald (pc' := 24) C 1 k rfl rfl (by omega) (by decide) dX8_countVotes_23 rfl ?_
        refine g_istore_n (pc' := 25) (lv' := [(3, .int (f43 k)), (0, .ref (xa X 6)), (1, .int (nI (tall (effF f43) k))), (2, .int (nI k))]) C dX8_countVotes_24 rfl (by decide) rfl rfl ?_
        refine g_iload_n (pc' := 26) C dX8_countVotes_25 0 rfl rfl rfl ?_
        refine g_ldc (pc' := 28) (v := (-1000000005)) C (List.mem_of_getElem? (i := 3) rfl) dX8_countVotes_26 rfl ?_
        refine g_icmp_eq (pc' := 31) (tgt := 49) C dX8_countVotes_28 (by decide) rfl (fun c_28 => ?_) (fun c_28 => ?_)
        · refine g_iinc (pc' := 52) (v := nI (k + 1)) (lv' := [(2, .int (nI (k + 1))), (3, .int (f43 k)), (0, .ref (xa X 6)), (1, .int (nI (tall (effF f43) k)))]) C dX8_countVotes_49 3 rfl (nI_1 _) (by decide) rfl rfl ?_
          refine g_goto (tgt := 12) C dX8_countVotes_52 (by decide) ?_
          refine g_lv (lv2 := [(0, .ref (xa X 6)), (1, .int (nI (tall (effF f43) k))), (2, .int (nI (k + 1)))]) [2, 3, 0] rfl ?_
          refine g_eq (lv2 := [(0, .ref (xa X 6)), (1, .int (nI (tall (effF f43) (k + 1)))), (2, .int (nI (k + 1)))]) (ws2 := [oWds X (nI wn), kA X 43 10 f43, kA X 44 10 g]) (st2 := []) (congrArg (fun zq_ : Int32 => ([(0, .ref (xa X 6)), (1, .int zq_), (2, .int (nI (k + 1)))] : List (Nat × Value))) (show (nI (tall (effF f43) k) : Int32) = nI (tall (effF f43) (k + 1)) from (by rw [tall, if_pos (by rw [effF]; split; rfl; exact c_28)]))) rfl rfl ?_
          exact ih_12 (k + 1) g (by omega) (tcnt_no hg (by rw [effF]; split; rfl; exact c_28)) (by omega)
        · refine g_iload_n (pc' := 32) C dX8_countVotes_31 0 rfl rfl rfl ?_
          refine g_iload_n (pc' := 33) C dX8_countVotes_32 3 rfl rfl rfl ?_
          refine g_icmp_eq (pc' := 36) (tgt := 49) C dX8_countVotes_33 (by decide) rfl (fun c_33 => ?_) (fun c_33 => ?_)
          · refine g_iinc (pc' := 52) (v := nI (k + 1)) (lv' := [(2, .int (nI (k + 1))), (3, .int (f43 k)), (0, .ref (xa X 6)), (1, .int (nI (tall (effF f43) k)))]) C dX8_countVotes_49 3 rfl (nI_1 _) (by decide) rfl rfl ?_
            refine g_goto (tgt := 12) C dX8_countVotes_52 (by decide) ?_
            refine g_lv (lv2 := [(0, .ref (xa X 6)), (1, .int (nI (tall (effF f43) k))), (2, .int (nI (k + 1)))]) [2, 3, 0] rfl ?_
            refine g_eq (lv2 := [(0, .ref (xa X 6)), (1, .int (nI (tall (effF f43) (k + 1)))), (2, .int (nI (k + 1)))]) (ws2 := [oWds X (nI wn), kA X 43 10 f43, kA X 44 10 g]) (st2 := []) (congrArg (fun zq_ : Int32 => ([(0, .ref (xa X 6)), (1, .int zq_), (2, .int (nI (k + 1)))] : List (Nat × Value))) (show (nI (tall (effF f43) k) : Int32) = nI (tall (effF f43) (k + 1)) from (by rw [tall, if_pos (by rw [effF, if_pos c_33])]))) rfl rfl ?_
            exact ih_12 (k + 1) g (by omega) (tcnt_no hg (by rw [effF, if_pos c_33])) (by omega)
          · refine g_aload_n (pc' := 37) C dX8_countVotes_36 1 rfl rfl rfl ?_
            refine g_get (pc' := 40) C hi_X8 0 5 rfl rfl (by decide) (List.mem_of_getElem? (i := 1) rfl) rfl dX8_countVotes_37 rfl ?_
            refine g_iload_n (pc' := 41) C dX8_countVotes_40 0 rfl rfl rfl ?_
            refine g_dup2 (pc' := 42) C dX8_countVotes_41 rfl rfl rfl ?_
            refine g_iald (pc' := 43) C 2 (cN (f43 k)) rfl ((hL k (by omega)).resolve_left c_28).1 ((hL k (by omega)).resolve_left c_28).2 (by decide) dX8_countVotes_42 rfl ?_
            refine g_iconst (pc' := 44) (v := 1) C dX8_countVotes_43 rfl rfl ?_
            refine g_iadd (pc' := 45) C dX8_countVotes_44 rfl ?_
            refine g_iast (pc' := 46) (ws2 := [oWds X (nI wn), kA X 43 10 f43, kA X 44 10 (upd g (cN (f43 k)) ((g (cN (f43 k))) + 1))]) C 2 (cN (f43 k)) rfl ((hL k (by omega)).resolve_left c_28).1 ((hL k (by omega)).resolve_left c_28).2 (by decide) dX8_countVotes_45 rfl rfl ?_
            refine g_iinc (pc' := 49) (v := nI ((tall (effF f43) k) + 1)) (lv' := [(1, .int (nI ((tall (effF f43) k) + 1))), (3, .int (f43 k)), (0, .ref (xa X 6)), (2, .int (nI k))]) C dX8_countVotes_46 2 rfl (nI_1 _) (by decide) rfl rfl ?_
            refine g_iinc (pc' := 52) (v := nI (k + 1)) (lv' := [(2, .int (nI (k + 1))), (1, .int (nI ((tall (effF f43) k) + 1))), (3, .int (f43 k)), (0, .ref (xa X 6))]) C dX8_countVotes_49 3 rfl (nI_1 _) (by decide) rfl rfl ?_
            refine g_goto (tgt := 12) C dX8_countVotes_52 (by decide) ?_
            refine g_lv (lv2 := [(0, .ref (xa X 6)), (1, .int (nI ((tall (effF f43) k) + 1))), (2, .int (nI (k + 1)))]) [3, 1, 0] rfl ?_
            refine g_eq (lv2 := [(0, .ref (xa X 6)), (1, .int (nI (tall (effF f43) (k + 1)))), (2, .int (nI (k + 1)))]) (ws2 := [oWds X (nI wn), kA X 43 10 f43, kA X 44 10 (upd g (cN (f43 k)) ((g (cN (f43 k))) + 1))]) (st2 := []) (congrArg (fun zq_ : Int32 => ([(0, .ref (xa X 6)), (1, .int zq_), (2, .int (nI (k + 1)))] : List (Nat × Value))) (show (nI ((tall (effF f43) k) + 1) : Int32) = nI (tall (effF f43) (k + 1)) from (by rw [tall, if_neg (by rw [effF, if_neg c_33]; exact c_28)]))) (congrArg (fun zq_ : Nat → Int32 => ([oWds X (nI wn), kA X 43 10 f43, kA X 44 10 zq_] : va_W)) (show (upd g (cN (f43 k)) ((g (cN (f43 k))) + 1) : Nat → Int32) = (upd g (cN (f43 k)) ((g (cN (f43 k))) + 1)) from (by first | rfl | omega | (simp [c_15, c_28, c_33]; done) | (simp [c_15, c_28, c_33]; omega) | (simp [c_15, c_28, c_33]; intros; exfalso; omega) | grind []))) rfl ?_
            exact ih_12 (k + 1) (upd g (cN (f43 k)) ((g (cN (f43 k))) + 1)) (by omega) (tcnt_put hg ((hL k (by omega)).resolve_left c_28) c_33) (by omega)
  refine g_lv (lv2 := [(0, .ref (xa X 6)), (1, .int 0), (2, .int 0)]) [2, 1, 0] rfl ?_
  refine g_eq (lv2 := [(0, .ref (xa X 6)), (1, .int (nI (tall (effF f43) 0))), (2, .int 0)]) (ws2 := [oWds X (nI wn), kA X 43 10 f43, kA X 44 10 (fun _ => 0)]) (st2 := []) (congrArg (fun zq_ : Int32 => ([(0, .ref (xa X 6)), (1, .int zq_), (2, .int 0)] : List (Nat × Value))) (show (0 : Int32) = nI (tall (effF f43) 0) from (by first | rfl | omega | (simp []; done) | (simp []; omega) | (simp []; intros; exfalso; omega) | grind []))) (congrArg (fun zq_ : Nat → Int32 => ([oWds X (nI wn), kA X 43 10 f43, kA X 44 10 zq_] : va_W)) (show (fun _ => 0 : Nat → Int32) = (fun _ => 0) from (by first | rfl | omega | (simp []; done) | (simp []; omega) | (simp []; intros; exfalso; omega) | grind []))) rfl ?_
  exact lp_12 (10 - 0 + 1) 0 (fun _ => 0) (Nat.zero_le _) (fun _ _ => rfl) (by omega)

set_option maxHeartbeats 1000000 in
set_option maxRecDepth 20000 in
theorem c_X8_houseTold (l : Launch) (X : gX) (wn : Nat) (f39 : Nat → Int32) (f40 : Nat → Int32) (f41 : Nat → Int32) (f42 : Nat → Int32) (f43 : Nat → Int32) (f44 : Nat → Int32) (pl : Int32) (d : Int32) (hn : wn ≤ 40) (hW : ∀ i, i < wn → okN (f39 i) 10) (hO : ∀ i, i < wn → okN (f41 i) 10) : KC l yX8_houseTold wsX8_houseTold ⟨2, 0, 0, 46⟩ [.ref (xa X 6), .int pl, .int d] X [oWds X (nI wn), kA X 39 40 f39, kA X 40 40 f40, kA X 41 40 f41, kA X 42 40 f42, kA X 43 10 f43, kA X 44 10 f44] (some (.int (toldF f39 f40 f41 f42 wn pl d))) [oWds X (nI wn), kA X 39 40 f39, kA X 40 40 f40, kA X 41 40 f41, kA X 42 40 f42, kA X 43 10 (fun b_ => lastF f39 f40 f41 f42 b_ pl d wn), kA X 44 10 (fun b_ => nI (tcnt (uF f39 f40 f41 f42 wn pl d) b_ 10))] := by
  have hi_X8 : ∀ w ∈ u_ws RX8 TX8 7, w ∈ wsX8_houseTold := fun w h => List.mem_cons_of_mem _ (List.mem_append_right _ h)
  refine KC.of cX8_houseTold 5 (some .int) RX8 rfl (by decide) rfl (lv := [(0, .ref (xa X 6)), (1, .int pl), (2, .int d)]) rfl (Nat.le_of_ble_eq_true rfl) ?_
  intro p e s m args below meth c A C hr
  have ta := tall_le (uF f39 f40 f41 f42 wn pl d) 10
  refine g_aload_n (pc' := 1) C dX8_houseTold_0 0 rfl rfl rfl ?_
  refine g_iload_n (pc' := 2) C dX8_houseTold_1 1 rfl rfl rfl ?_
  refine g_iload_n (pc' := 3) C dX8_houseTold_2 2 rfl rfl rfl ?_
  refine g_callV (pc' := 6) (st := []) (ws2 := [oWds X (nI wn), kA X 39 40 f39, kA X 40 40 f40, kA X 41 40 f41, kA X 42 40 f42, kA X 43 10 (fun b_ => lastF f39 f40 f41 f42 b_ pl d wn), kA X 44 10 f44]) C [.int pl, .int d] 2 rfl (c_X8_findLatest l X wn f39 f40 f41 f42 f43 pl d (by first | assumption | omega) (by first | assumption | omega)) [0, 1, 2, 3, 4, 5] [6] [1, 2, 3, 4, 5, 6, 0] gX8_houseTold_X8_findLatest 0 rfl rfl rfl ⟨rfl, rfl⟩ (by decide +kernel) ⟨by decide, by decide⟩ ⟨by decide, by decide⟩ rfl (wr := [kA X 44 10 f44]) rfl ⟨by decide, by decide, by decide, by decide⟩ rfl (Nat.le_of_ble_eq_true rfl) dX8_houseTold_3 rfl rfl ?_
  refine g_aload_n (pc' := 7) C dX8_houseTold_6 0 rfl rfl rfl ?_
  refine g_callV (pc' := 10) (st := []) (ws2 := [oWds X (nI wn), kA X 39 40 f39, kA X 40 40 f40, kA X 41 40 f41, kA X 42 40 f42, kA X 43 10 (fun b_ => lastF f39 f40 f41 f42 b_ pl d wn), kA X 44 10 (fun b_ => nI (tcnt (effF (fun b_ => lastF f39 f40 f41 f42 b_ pl d wn)) b_ 10))]) C [] 0 rfl (c_X8_countVotes l X wn (fun b_ => lastF f39 f40 f41 f42 b_ pl d wn) f44 (fun h _ => lastF_ok hO)) [0, 5, 6] [1, 2, 3, 4] [4, 0, 1, 2, 3, 5, 6] gX8_houseTold_X8_countVotes 0 rfl rfl rfl ⟨rfl, rfl⟩ (by decide +kernel) ⟨by decide, by decide⟩ ⟨by decide, by decide⟩ rfl (wr := [kA X 39 40 f39, kA X 40 40 f40, kA X 41 40 f41, kA X 42 40 f42]) rfl ⟨by decide, by decide, by decide, by decide⟩ rfl (Nat.le_of_ble_eq_true rfl) dX8_houseTold_7 rfl rfl ?_
  refine g_istore_n (pc' := 11) (lv' := [(3, .int (nI (tall (effF (fun b_ => lastF f39 f40 f41 f42 b_ pl d wn)) 10))), (0, .ref (xa X 6)), (1, .int pl), (2, .int d)]) C dX8_houseTold_10 rfl (by decide) rfl rfl ?_
  refine g_iconst (pc' := 12) (v := 0) C dX8_houseTold_11 rfl rfl ?_
  refine g_istore (pc' := 14) (lv' := [(4, .int 0), (3, .int (nI (tall (effF (fun b_ => lastF f39 f40 f41 f42 b_ pl d wn)) 10))), (0, .ref (xa X 6)), (1, .int pl), (2, .int d)]) C dX8_houseTold_12 (by decide) rfl rfl ?_
  have lp_14 : ∀ (n_14 : Nat) (k : Nat) (hk : k ≤ 10) (hf : toldF f39 f40 f41 f42 wn pl d = firstI (toldP f39 f40 f41 f42 wn pl d) (10 - k) k) (hm_14 : 10 - k < n_14), gG p l e ⟨2, 0, 0, 46⟩ s m args below meth c X A 5 0 0 (MQ below (QA X A (some (.int (toldF f39 f40 f41 f42 wn pl d))) [oWds X (nI wn), kA X 39 40 f39, kA X 40 40 f40, kA X 41 40 f41, kA X 42 40 f42, kA X 43 10 (fun b_ => lastF f39 f40 f41 f42 b_ pl d wn), kA X 44 10 (fun b_ => nI (tcnt (uF f39 f40 f41 f42 wn pl d) b_ 10))]) args s 0 0 A) [(0, .ref (xa X 6)), (3, .int (nI (tall (uF f39 f40 f41 f42 wn pl d) 10))), (4, .int (nI k))] [oWds X (nI wn), kA X 39 40 f39, kA X 40 40 f40, kA X 41 40 f41, kA X 42 40 f42, kA X 43 10 (fun b_ => lastF f39 f40 f41 f42 b_ pl d wn), kA X 44 10 (fun b_ => nI (tcnt (uF f39 f40 f41 f42 wn pl d) b_ 10))] 14 [] := by
    intro n_14
    induction n_14 with
    | zero => intro k hk hf hm_14; exact absurd hm_14 (Nat.not_lt_zero _)
    | succ n_14 ih_14 =>
      intro k hk hf hm_14
      refine g_iload (pc' := 16) C dX8_houseTold_14 2 rfl rfl ?_
      refine g_bipush (pc' := 18) (v := 10) C dX8_houseTold_16 (by decide) rfl ?_
      refine g_icmp_geN (pc' := 21) (tgt := 43) C k 10 rfl rfl (by omega) (by omega) dX8_houseTold_18 (by decide) rfl (fun c_18 => ?_) (fun c_18 => ?_)
      · refine g_ldc (pc' := 45) (v := (-1000000005)) C (List.mem_of_getElem? (i := 2) rfl) dX8_houseTold_43 rfl ?_
        exact g_iret C hr dX8_houseTold_45 (by rw [hf, show 10 - k = 0 by omega]; rfl) rfl
      · refine g_iconst (pc' := 22) (v := 2) C dX8_houseTold_21 rfl rfl ?_
        refine g_aload_n (pc' := 23) C dX8_houseTold_22 0 rfl rfl rfl ?_
        refine g_get (pc' := 26) C hi_X8 0 5 rfl rfl (by decide) (List.mem_of_getElem? (i := 1) rfl) rfl dX8_houseTold_23 rfl ?_
        refine g_iload (pc' := 28) C dX8_houseTold_26 2 rfl rfl ?_
        refine g_iald (pc' := 29) C 6 k rfl rfl (by omega) (by decide) dX8_houseTold_28 rfl ?_
        have tb := tcnt_le (uF f39 f40 f41 f42 wn pl d) k 10
        refine g_top (y := nI (tcnt (uF f39 f40 f41 f42 wn pl d) k 10)) rfl ?_
        refine g_imulV (pc' := 30) (v := nI (2 * (tcnt (uF f39 f40 f41 f42 wn pl d) k 10))) C dX8_houseTold_29 (by first | exact (pk_mul _ _) | rfl) rfl ?_
        refine g_iload_n (pc' := 31) C dX8_houseTold_30 1 rfl rfl rfl ?_
        refine g_icmp_leN (pc' := 34) (tgt := 37) C (2 * (tcnt (uF f39 f40 f41 f42 wn pl d) k 10)) (tall (uF f39 f40 f41 f42 wn pl d) 10) rfl rfl (by omega) (by omega) dX8_houseTold_31 (by decide) rfl (fun c_31 => ?_) (fun c_31 => ?_)
        · refine g_iinc (pc' := 40) (v := nI (k + 1)) (lv' := [(4, .int (nI (k + 1))), (0, .ref (xa X 6)), (3, .int (nI (tall (uF f39 f40 f41 f42 wn pl d) 10)))]) C dX8_houseTold_37 2 rfl (nI_1 _) (by decide) rfl rfl ?_
          refine g_goto (tgt := 14) C dX8_houseTold_40 (by decide) ?_
          refine g_lv (lv2 := [(0, .ref (xa X 6)), (3, .int (nI (tall (uF f39 f40 f41 f42 wn pl d) 10))), (4, .int (nI (k + 1)))]) [1, 2, 0] rfl ?_
          exact ih_14 (k + 1) (by omega) (by rw [hf, show 10 - k = (10 - (k + 1)) + 1 by omega, firstI, if_neg (by simp [toldP]; omega)]) (by omega)
        · refine g_iload (pc' := 36) C dX8_houseTold_34 2 rfl rfl ?_
          exact g_iret C hr dX8_houseTold_36 (by rw [hf, show 10 - k = (10 - (k + 1)) + 1 by omega, firstI, if_pos (by simp [toldP]; omega)]) rfl
  refine g_lv (lv2 := [(0, .ref (xa X 6)), (3, .int (nI (tall (effF (fun b_ => lastF f39 f40 f41 f42 b_ pl d wn)) 10))), (4, .int 0)]) [2, 1, 0] rfl ?_
  refine g_eq (lv2 := [(0, .ref (xa X 6)), (3, .int (nI (tall (uF f39 f40 f41 f42 wn pl d) 10))), (4, .int 0)]) (ws2 := [oWds X (nI wn), kA X 39 40 f39, kA X 40 40 f40, kA X 41 40 f41, kA X 42 40 f42, kA X 43 10 (fun b_ => lastF f39 f40 f41 f42 b_ pl d wn), kA X 44 10 (fun b_ => nI (tcnt (uF f39 f40 f41 f42 wn pl d) b_ 10))]) (st2 := []) (congrArg (fun zq_ : Int32 => ([(0, .ref (xa X 6)), (3, .int zq_), (4, .int 0)] : List (Nat × Value))) (show (nI (tall (effF (fun b_ => lastF f39 f40 f41 f42 b_ pl d wn)) 10) : Int32) = nI (tall (uF f39 f40 f41 f42 wn pl d) 10) from (by first | rfl | omega | (simp []; done) | (simp []; omega) | (simp []; intros; exfalso; omega) | grind []))) (congrArg (fun zq_ : Nat → Int32 => ([oWds X (nI wn), kA X 39 40 f39, kA X 40 40 f40, kA X 41 40 f41, kA X 42 40 f42, kA X 43 10 (fun b_ => lastF f39 f40 f41 f42 b_ pl d wn), kA X 44 10 zq_] : va_W)) (show (fun b_ => nI (tcnt (effF (fun b_ => lastF f39 f40 f41 f42 b_ pl d wn)) b_ 10) : Nat → Int32) = fun b_ => nI (tcnt (uF f39 f40 f41 f42 wn pl d) b_ 10) from (by first | rfl | omega | (simp []; done) | (simp []; omega) | (simp []; intros; exfalso; omega) | grind []))) rfl ?_
  exact lp_14 (10 - 0 + 1) 0 (Nat.zero_le _) rfl (by omega)

set_option maxHeartbeats 1000000 in
set_option maxRecDepth 20000 in
theorem c_X1_valueHeld (l : Launch) (X : gX) (dn : Nat) (f11 : Nat → Int32) (f12 : Nat → Int32) (f13 : Nat → Int32) (f14 : Nat → Int32) (it : Nat) (yr : Int32) (d : Int32) (hit : it < 6) (hn : dn ≤ 40) (hy : ∀ i, i < dn → okN (f12 i) 31) : KC l yX1_valueHeld wsX1_valueHeld ⟨1, 0, 0, 22⟩ [.ref (xa X 7), .int (nI it), .int yr, .int d] X [oDcr X (nI dn), kA X 11 40 f11, kA X 12 40 f12, kA X 13 40 f13, kA X 14 40 f14] (some (.int ((vmF f11 f12 f13 f14 (nI it) yr d (tbV it) dn).1))) [oDcr X (nI dn), kA X 11 40 f11, kA X 12 40 f12, kA X 13 40 f13, kA X 14 40 f14] := by
  have hi_X1 : ∀ w ∈ u_ws RX1 TX1 5, w ∈ wsX1_valueHeld := fun w h => List.mem_cons_of_mem _ (List.mem_append_right _ h)
  refine KC.of cX1_valueHeld 8 (some .int) RX1 rfl (by decide) rfl (lv := [(0, .ref (xa X 7)), (1, .int (nI it)), (2, .int yr), (3, .int d)]) rfl (Nat.le_of_ble_eq_true rfl) ?_
  intro p e s m args below meth c A C hr
  refine g_getsV (pc' := 3) C (List.mem_of_getElem? (i := 37) rfl) dX1_valueHeld_0 rfl ?_
  refine g_iload_n (pc' := 4) C dX1_valueHeld_3 1 rfl rfl rfl ?_
  refine g_tabV (pc' := 5) C it rfl (by omega) dX1_valueHeld_4 rfl ?_
  refine g_istore (pc' := 7) (lv' := [(4, .int (tbV it)), (0, .ref (xa X 7)), (1, .int (nI it)), (2, .int yr), (3, .int d)]) C dX1_valueHeld_5 (by decide) rfl rfl ?_
  refine g_iconst (pc' := 8) (v := 0) C dX1_valueHeld_7 rfl rfl ?_
  refine g_istore (pc' := 10) (lv' := [(5, .int 0), (4, .int (tbV it)), (0, .ref (xa X 7)), (1, .int (nI it)), (2, .int yr), (3, .int d)]) C dX1_valueHeld_8 (by decide) rfl rfl ?_
  refine g_iconst (pc' := 11) (v := 0) C dX1_valueHeld_10 rfl rfl ?_
  refine g_istore (pc' := 13) (lv' := [(6, .int 0), (5, .int 0), (4, .int (tbV it)), (0, .ref (xa X 7)), (1, .int (nI it)), (2, .int yr), (3, .int d)]) C dX1_valueHeld_11 (by decide) rfl rfl ?_
  have lp_13 : ∀ (n_13 : Nat) (k : Nat) (hk : k ≤ dn) (hm_13 : dn - k < n_13), gG p l e ⟨1, 0, 0, 22⟩ s m args below meth c X A 8 0 0 (MQ below (QA X A (some (.int ((vmF f11 f12 f13 f14 (nI it) yr d (tbV it) dn).1))) [oDcr X (nI dn), kA X 11 40 f11, kA X 12 40 f12, kA X 13 40 f13, kA X 14 40 f14]) args s 0 0 A) [(0, .ref (xa X 7)), (1, .int (nI it)), (2, .int yr), (3, .int d), (4, .int ((vhF f11 f12 f13 f14 (nI it) yr d (tbV it) k).1)), (5, .int ((vhF f11 f12 f13 f14 (nI it) yr d (tbV it) k).2)), (6, .int (nI k))] [oDcr X (nI dn), kA X 11 40 f11, kA X 12 40 f12, kA X 13 40 f13, kA X 14 40 f14] 13 [] := by
    intro n_13
    induction n_13 with
    | zero => intro k hk hm_13; exact absurd hm_13 (Nat.not_lt_zero _)
    | succ n_13 ih_13 =>
      intro k hk hm_13
      refine g_iload (pc' := 15) C dX1_valueHeld_13 6 rfl rfl ?_
      refine g_aload_n (pc' := 16) C dX1_valueHeld_15 0 rfl rfl rfl ?_
      refine g_get (pc' := 19) C hi_X1 0 4 rfl rfl (by decide) (List.mem_of_getElem? (i := 1) rfl) rfl dX1_valueHeld_16 rfl ?_
      refine g_icmp_geN (pc' := 22) (tgt := 96) C k dn rfl rfl (by omega) (by omega) dX1_valueHeld_19 (by decide) rfl (fun c_19 => ?_) (fun c_19 => ?_)
      · refine g_iload (pc' := 98) C dX1_valueHeld_96 4 rfl rfl ?_
        exact g_iret C hr dX1_valueHeld_98 (by rw [show k = dn by omega]; exact (vh_vm hy).1) rfl
      · refine g_aload_n (pc' := 23) C dX1_valueHeld_22 0 rfl rfl rfl ?_
        refine g_get (pc' := 26) C hi_X1 0 0 rfl rfl (by decide) (List.mem_of_getElem? (i := 2) rfl) rfl dX1_valueHeld_23 rfl ?_
        refine g_iload (pc' := 28) C dX1_valueHeld_26 6 rfl rfl ?_
        refine g_iald (pc' := 29) C 1 k rfl rfl (by omega) (by decide) dX1_valueHeld_28 rfl ?_
        refine g_iload_n (pc' := 30) C dX1_valueHeld_29 1 rfl rfl rfl ?_
        refine g_icmp_ne (pc' := 33) (tgt := 48) C dX1_valueHeld_30 (by decide) rfl (fun c_30 => ?_) (fun c_30 => ?_)
        · refine g_iconst (pc' := 49) (v := 0) C dX1_valueHeld_48 rfl rfl ?_
          refine g_istore (pc' := 51) (lv' := [(7, .int 0), (0, .ref (xa X 7)), (1, .int (nI it)), (2, .int yr), (3, .int d), (4, .int ((vhF f11 f12 f13 f14 (nI it) yr d (tbV it) k).1)), (5, .int ((vhF f11 f12 f13 f14 (nI it) yr d (tbV it) k).2)), (6, .int (nI k))]) C dX1_valueHeld_49 (by decide) rfl rfl ?_
          refine g_iload (pc' := 53) C dX1_valueHeld_51 0 rfl rfl ?_
          refine g_if_eq (pc' := 56) (tgt := 90) C dX1_valueHeld_53 (by decide) rfl (fun _ => ?_) (fun h => absurd h (by decide))
          refine g_iinc (pc' := 93) (v := nI (k + 1)) (lv' := [(6, .int (nI (k + 1))), (7, .int 0), (0, .ref (xa X 7)), (1, .int (nI it)), (2, .int yr), (3, .int d), (4, .int ((vhF f11 f12 f13 f14 (nI it) yr d (tbV it) k).1)), (5, .int ((vhF f11 f12 f13 f14 (nI it) yr d (tbV it) k).2))]) C dX1_valueHeld_90 7 rfl (nI_1 _) (by decide) rfl rfl ?_
          refine g_goto (tgt := 13) C dX1_valueHeld_93 (by decide) ?_
          refine g_lv (lv2 := [(0, .ref (xa X 7)), (1, .int (nI it)), (2, .int yr), (3, .int d), (4, .int ((vhF f11 f12 f13 f14 (nI it) yr d (tbV it) k).1)), (5, .int ((vhF f11 f12 f13 f14 (nI it) yr d (tbV it) k).2)), (6, .int (nI (k + 1)))]) [2, 3, 4, 5, 6, 7, 0] rfl ?_
          refine g_eq (lv2 := [(0, .ref (xa X 7)), (1, .int (nI it)), (2, .int yr), (3, .int d), (4, .int ((vhF f11 f12 f13 f14 (nI it) yr d (tbV it) (k + 1)).1)), (5, .int ((vhF f11 f12 f13 f14 (nI it) yr d (tbV it) (k + 1)).2)), (6, .int (nI (k + 1)))]) (ws2 := [oDcr X (nI dn), kA X 11 40 f11, kA X 12 40 f12, kA X 13 40 f13, kA X 14 40 f14]) (st2 := []) ((congrArg (fun zq_ : Int32 => ([(0, .ref (xa X 7)), (1, .int (nI it)), (2, .int yr), (3, .int d), (4, .int zq_), (5, .int ((vhF f11 f12 f13 f14 (nI it) yr d (tbV it) k).2)), (6, .int (nI (k + 1)))] : List (Nat × Value))) (show ((vhF f11 f12 f13 f14 (nI it) yr d (tbV it) k).1 : Int32) = (vhF f11 f12 f13 f14 (nI it) yr d (tbV it) (k + 1)).1 from (by first | rfl | omega | (simp [vhF, c_19, c_30]; done) | (simp [vhF, c_19, c_30]; omega) | (simp [vhF, c_19, c_30]; intros; exfalso; omega) | grind [vhF]))).trans (congrArg (fun zq_ : Int32 => ([(0, .ref (xa X 7)), (1, .int (nI it)), (2, .int yr), (3, .int d), (4, .int ((vhF f11 f12 f13 f14 (nI it) yr d (tbV it) (k + 1)).1)), (5, .int zq_), (6, .int (nI (k + 1)))] : List (Nat × Value))) (show ((vhF f11 f12 f13 f14 (nI it) yr d (tbV it) k).2 : Int32) = (vhF f11 f12 f13 f14 (nI it) yr d (tbV it) (k + 1)).2 from (by first | rfl | omega | (simp [vhF, c_19, c_30]; done) | (simp [vhF, c_19, c_30]; omega) | (simp [vhF, c_19, c_30]; intros; exfalso; omega) | grind [vhF])))) rfl rfl ?_
          exact ih_13 (k + 1) (by omega) (by omega)
        · refine g_aload_n (pc' := 34) C dX1_valueHeld_33 0 rfl rfl rfl ?_
          refine g_get (pc' := 37) C hi_X1 0 3 rfl rfl (by decide) (List.mem_of_getElem? (i := 3) rfl) rfl dX1_valueHeld_34 rfl ?_
          refine g_iload (pc' := 39) C dX1_valueHeld_37 6 rfl rfl ?_
          refine g_iald (pc' := 40) C 4 k rfl rfl (by omega) (by decide) dX1_valueHeld_39 rfl ?_
          refine g_iload_n (pc' := 41) C dX1_valueHeld_40 3 rfl rfl rfl ?_
          refine g_icmp_gt (pc' := 44) (tgt := 48) C dX1_valueHeld_41 (by decide) rfl (fun c_41 => ?_) (fun c_41 => ?_)
          · refine g_iconst (pc' := 49) (v := 0) C dX1_valueHeld_48 rfl rfl ?_
            refine g_istore (pc' := 51) (lv' := [(7, .int 0), (0, .ref (xa X 7)), (1, .int (nI it)), (2, .int yr), (3, .int d), (4, .int ((vhF f11 f12 f13 f14 (nI it) yr d (tbV it) k).1)), (5, .int ((vhF f11 f12 f13 f14 (nI it) yr d (tbV it) k).2)), (6, .int (nI k))]) C dX1_valueHeld_49 (by decide) rfl rfl ?_
            refine g_iload (pc' := 53) C dX1_valueHeld_51 0 rfl rfl ?_
            refine g_if_eq (pc' := 56) (tgt := 90) C dX1_valueHeld_53 (by decide) rfl (fun _ => ?_) (fun h => absurd h (by decide))
            refine g_iinc (pc' := 93) (v := nI (k + 1)) (lv' := [(6, .int (nI (k + 1))), (7, .int 0), (0, .ref (xa X 7)), (1, .int (nI it)), (2, .int yr), (3, .int d), (4, .int ((vhF f11 f12 f13 f14 (nI it) yr d (tbV it) k).1)), (5, .int ((vhF f11 f12 f13 f14 (nI it) yr d (tbV it) k).2))]) C dX1_valueHeld_90 7 rfl (nI_1 _) (by decide) rfl rfl ?_
            refine g_goto (tgt := 13) C dX1_valueHeld_93 (by decide) ?_
            refine g_lv (lv2 := [(0, .ref (xa X 7)), (1, .int (nI it)), (2, .int yr), (3, .int d), (4, .int ((vhF f11 f12 f13 f14 (nI it) yr d (tbV it) k).1)), (5, .int ((vhF f11 f12 f13 f14 (nI it) yr d (tbV it) k).2)), (6, .int (nI (k + 1)))]) [2, 3, 4, 5, 6, 7, 0] rfl ?_
            refine g_eq (lv2 := [(0, .ref (xa X 7)), (1, .int (nI it)), (2, .int yr), (3, .int d), (4, .int ((vhF f11 f12 f13 f14 (nI it) yr d (tbV it) (k + 1)).1)), (5, .int ((vhF f11 f12 f13 f14 (nI it) yr d (tbV it) (k + 1)).2)), (6, .int (nI (k + 1)))]) (ws2 := [oDcr X (nI dn), kA X 11 40 f11, kA X 12 40 f12, kA X 13 40 f13, kA X 14 40 f14]) (st2 := []) ((congrArg (fun zq_ : Int32 => ([(0, .ref (xa X 7)), (1, .int (nI it)), (2, .int yr), (3, .int d), (4, .int zq_), (5, .int ((vhF f11 f12 f13 f14 (nI it) yr d (tbV it) k).2)), (6, .int (nI (k + 1)))] : List (Nat × Value))) (show ((vhF f11 f12 f13 f14 (nI it) yr d (tbV it) k).1 : Int32) = (vhF f11 f12 f13 f14 (nI it) yr d (tbV it) (k + 1)).1 from (by first | rfl | omega | (simp [vhF, c_19, c_30, c_41]; done) | (simp [vhF, c_19, c_30, c_41]; omega) | (simp [vhF, c_19, c_30, c_41]; intros; exfalso; omega) | grind [vhF]))).trans (congrArg (fun zq_ : Int32 => ([(0, .ref (xa X 7)), (1, .int (nI it)), (2, .int yr), (3, .int d), (4, .int ((vhF f11 f12 f13 f14 (nI it) yr d (tbV it) (k + 1)).1)), (5, .int zq_), (6, .int (nI (k + 1)))] : List (Nat × Value))) (show ((vhF f11 f12 f13 f14 (nI it) yr d (tbV it) k).2 : Int32) = (vhF f11 f12 f13 f14 (nI it) yr d (tbV it) (k + 1)).2 from (by first | rfl | omega | (simp [vhF, c_19, c_30, c_41]; done) | (simp [vhF, c_19, c_30, c_41]; omega) | (simp [vhF, c_19, c_30, c_41]; intros; exfalso; omega) | grind [vhF])))) rfl rfl ?_
            exact ih_13 (k + 1) (by omega) (by omega)
          · refine g_iconst (pc' := 45) (v := 1) C dX1_valueHeld_44 rfl rfl ?_
            refine g_goto (tgt := 49) C dX1_valueHeld_45 (by decide) ?_
            refine g_istore (pc' := 51) (lv' := [(7, .int 1), (0, .ref (xa X 7)), (1, .int (nI it)), (2, .int yr), (3, .int d), (4, .int ((vhF f11 f12 f13 f14 (nI it) yr d (tbV it) k).1)), (5, .int ((vhF f11 f12 f13 f14 (nI it) yr d (tbV it) k).2)), (6, .int (nI k))]) C dX1_valueHeld_49 (by decide) rfl rfl ?_
            refine g_iload (pc' := 53) C dX1_valueHeld_51 0 rfl rfl ?_
            refine g_if_eq (pc' := 56) (tgt := 90) C dX1_valueHeld_53 (by decide) rfl (fun h => absurd h (by decide)) (fun _ => ?_)
            refine g_aload_n (pc' := 57) C dX1_valueHeld_56 1 rfl rfl rfl ?_
            refine g_get (pc' := 60) C hi_X1 0 1 rfl rfl (by decide) (List.mem_of_getElem? (i := 4) rfl) rfl dX1_valueHeld_57 rfl ?_
            refine g_iload (pc' := 62) C dX1_valueHeld_60 7 rfl rfl ?_
            refine g_iald (pc' := 63) C 2 k rfl rfl (by omega) (by decide) dX1_valueHeld_62 rfl ?_
            refine g_iload (pc' := 65) C dX1_valueHeld_63 6 rfl rfl ?_
            refine g_iload_n (pc' := 66) C dX1_valueHeld_65 3 rfl rfl rfl ?_
            refine g_callSN (pc' := 69) (st := []) (ws2 := [oDcr X (nI dn), kA X 11 40 f11, kA X 12 40 f12, kA X 13 40 f13, kA X 14 40 f14]) C [.int (f12 k), .int ((vhF f11 f12 f13 f14 (nI it) yr d (tbV it) k).2), .int yr] 3 rfl (c_X9_isWithin l X (f12 k) ((vhF f11 f12 f13 f14 (nI it) yr d (tbV it) k).2) yr ) [] [0, 1, 2, 3, 4] [0, 1, 2, 3, 4] gX1_valueHeld_X9_isWithin_n31 (List.mem_of_getElem? (i := 47) rfl) (List.mem_of_getElem? (i := 6) rfl) (List.mem_of_getElem? (i := 7) rfl) rfl ⟨rfl, rfl⟩ (by decide +kernel) ⟨by decide, by decide⟩ ⟨by decide, by decide⟩ rfl (wr := [oDcr X (nI dn), kA X 11 40 f11, kA X 12 40 f12, kA X 13 40 f13, kA X 14 40 f14]) rfl ⟨by decide, by decide, by decide, by decide⟩ rfl (Nat.le_of_ble_eq_true rfl) dX1_valueHeld_66 rfl rfl ?_
            by_cases b_66 : ((vhF f11 f12 f13 f14 (nI it) yr d (tbV it) k).2) ≤ (f12 k) ∧ (f12 k) ≤ yr
            · refine g_top (bz_t b_66) ?_
              refine g_if_eq (pc' := 72) (tgt := 90) C dX1_valueHeld_69 (by decide) rfl (fun h => absurd h (by decide)) (fun _ => ?_)
              refine g_aload_n (pc' := 73) C dX1_valueHeld_72 1 rfl rfl rfl ?_
              refine g_get (pc' := 76) C hi_X1 0 2 rfl rfl (by decide) (List.mem_of_getElem? (i := 5) rfl) rfl dX1_valueHeld_73 rfl ?_
              refine g_iload (pc' := 78) C dX1_valueHeld_76 7 rfl rfl ?_
              refine g_iald (pc' := 79) C 3 k rfl rfl (by omega) (by decide) dX1_valueHeld_78 rfl ?_
              refine g_istore (pc' := 81) (lv' := [(4, .int (f13 k)), (7, .int 1), (0, .ref (xa X 7)), (1, .int (nI it)), (2, .int yr), (3, .int d), (5, .int ((vhF f11 f12 f13 f14 (nI it) yr d (tbV it) k).2)), (6, .int (nI k))]) C dX1_valueHeld_79 (by decide) rfl rfl ?_
              refine g_aload_n (pc' := 82) C dX1_valueHeld_81 2 rfl rfl rfl ?_
              refine g_get (pc' := 85) C hi_X1 0 1 rfl rfl (by decide) (List.mem_of_getElem? (i := 4) rfl) rfl dX1_valueHeld_82 rfl ?_
              refine g_iload (pc' := 87) C dX1_valueHeld_85 7 rfl rfl ?_
              refine g_iald (pc' := 88) C 2 k rfl rfl (by omega) (by decide) dX1_valueHeld_87 rfl ?_
              refine g_istore (pc' := 90) (lv' := [(5, .int (f12 k)), (4, .int (f13 k)), (7, .int 1), (0, .ref (xa X 7)), (1, .int (nI it)), (2, .int yr), (3, .int d), (6, .int (nI k))]) C dX1_valueHeld_88 (by decide) rfl rfl ?_
              refine g_iinc (pc' := 93) (v := nI (k + 1)) (lv' := [(6, .int (nI (k + 1))), (5, .int (f12 k)), (4, .int (f13 k)), (7, .int 1), (0, .ref (xa X 7)), (1, .int (nI it)), (2, .int yr), (3, .int d)]) C dX1_valueHeld_90 7 rfl (nI_1 _) (by decide) rfl rfl ?_
              refine g_goto (tgt := 13) C dX1_valueHeld_93 (by decide) ?_
              refine g_lv (lv2 := [(0, .ref (xa X 7)), (1, .int (nI it)), (2, .int yr), (3, .int d), (4, .int (f13 k)), (5, .int (f12 k)), (6, .int (nI (k + 1)))]) [4, 5, 6, 7, 2, 1, 0] rfl ?_
              refine g_eq (lv2 := [(0, .ref (xa X 7)), (1, .int (nI it)), (2, .int yr), (3, .int d), (4, .int ((vhF f11 f12 f13 f14 (nI it) yr d (tbV it) (k + 1)).1)), (5, .int ((vhF f11 f12 f13 f14 (nI it) yr d (tbV it) (k + 1)).2)), (6, .int (nI (k + 1)))]) (ws2 := [oDcr X (nI dn), kA X 11 40 f11, kA X 12 40 f12, kA X 13 40 f13, kA X 14 40 f14]) (st2 := []) ((congrArg (fun zq_ : Int32 => ([(0, .ref (xa X 7)), (1, .int (nI it)), (2, .int yr), (3, .int d), (4, .int zq_), (5, .int (f12 k)), (6, .int (nI (k + 1)))] : List (Nat × Value))) (show (f13 k : Int32) = (vhF f11 f12 f13 f14 (nI it) yr d (tbV it) (k + 1)).1 from (by first | rfl | omega | (simp [vhF, c_19, c_30, c_41, b_66]; done) | (simp [vhF, c_19, c_30, c_41, b_66]; omega) | (simp [vhF, c_19, c_30, c_41, b_66]; intros; exfalso; omega) | grind [vhF]))).trans (congrArg (fun zq_ : Int32 => ([(0, .ref (xa X 7)), (1, .int (nI it)), (2, .int yr), (3, .int d), (4, .int ((vhF f11 f12 f13 f14 (nI it) yr d (tbV it) (k + 1)).1)), (5, .int zq_), (6, .int (nI (k + 1)))] : List (Nat × Value))) (show (f12 k : Int32) = (vhF f11 f12 f13 f14 (nI it) yr d (tbV it) (k + 1)).2 from (by first | rfl | omega | (simp [vhF, c_19, c_30, c_41, b_66]; done) | (simp [vhF, c_19, c_30, c_41, b_66]; omega) | (simp [vhF, c_19, c_30, c_41, b_66]; intros; exfalso; omega) | grind [vhF])))) rfl rfl ?_
              exact ih_13 (k + 1) (by omega) (by omega)
            · refine g_top (bz_f b_66) ?_
              refine g_if_eq (pc' := 72) (tgt := 90) C dX1_valueHeld_69 (by decide) rfl (fun _ => ?_) (fun h => absurd h (by decide))
              refine g_iinc (pc' := 93) (v := nI (k + 1)) (lv' := [(6, .int (nI (k + 1))), (7, .int 1), (0, .ref (xa X 7)), (1, .int (nI it)), (2, .int yr), (3, .int d), (4, .int ((vhF f11 f12 f13 f14 (nI it) yr d (tbV it) k).1)), (5, .int ((vhF f11 f12 f13 f14 (nI it) yr d (tbV it) k).2))]) C dX1_valueHeld_90 7 rfl (nI_1 _) (by decide) rfl rfl ?_
              refine g_goto (tgt := 13) C dX1_valueHeld_93 (by decide) ?_
              refine g_lv (lv2 := [(0, .ref (xa X 7)), (1, .int (nI it)), (2, .int yr), (3, .int d), (4, .int ((vhF f11 f12 f13 f14 (nI it) yr d (tbV it) k).1)), (5, .int ((vhF f11 f12 f13 f14 (nI it) yr d (tbV it) k).2)), (6, .int (nI (k + 1)))]) [2, 3, 4, 5, 6, 7, 0] rfl ?_
              refine g_eq (lv2 := [(0, .ref (xa X 7)), (1, .int (nI it)), (2, .int yr), (3, .int d), (4, .int ((vhF f11 f12 f13 f14 (nI it) yr d (tbV it) (k + 1)).1)), (5, .int ((vhF f11 f12 f13 f14 (nI it) yr d (tbV it) (k + 1)).2)), (6, .int (nI (k + 1)))]) (ws2 := [oDcr X (nI dn), kA X 11 40 f11, kA X 12 40 f12, kA X 13 40 f13, kA X 14 40 f14]) (st2 := []) ((congrArg (fun zq_ : Int32 => ([(0, .ref (xa X 7)), (1, .int (nI it)), (2, .int yr), (3, .int d), (4, .int zq_), (5, .int ((vhF f11 f12 f13 f14 (nI it) yr d (tbV it) k).2)), (6, .int (nI (k + 1)))] : List (Nat × Value))) (show ((vhF f11 f12 f13 f14 (nI it) yr d (tbV it) k).1 : Int32) = (vhF f11 f12 f13 f14 (nI it) yr d (tbV it) (k + 1)).1 from (by first | rfl | omega | (simp [vhF, c_19, c_30, c_41, b_66]; done) | (simp [vhF, c_19, c_30, c_41, b_66]; omega) | (simp [vhF, c_19, c_30, c_41, b_66]; intros; exfalso; omega) | grind [vhF]))).trans (congrArg (fun zq_ : Int32 => ([(0, .ref (xa X 7)), (1, .int (nI it)), (2, .int yr), (3, .int d), (4, .int ((vhF f11 f12 f13 f14 (nI it) yr d (tbV it) (k + 1)).1)), (5, .int zq_), (6, .int (nI (k + 1)))] : List (Nat × Value))) (show ((vhF f11 f12 f13 f14 (nI it) yr d (tbV it) k).2 : Int32) = (vhF f11 f12 f13 f14 (nI it) yr d (tbV it) (k + 1)).2 from (by first | rfl | omega | (simp [vhF, c_19, c_30, c_41, b_66]; done) | (simp [vhF, c_19, c_30, c_41, b_66]; omega) | (simp [vhF, c_19, c_30, c_41, b_66]; intros; exfalso; omega) | grind [vhF])))) rfl rfl ?_
              exact ih_13 (k + 1) (by omega) (by omega)
  refine g_lv (lv2 := [(0, .ref (xa X 7)), (1, .int (nI it)), (2, .int yr), (3, .int d), (4, .int (tbV it)), (5, .int 0), (6, .int 0)]) [3, 4, 5, 6, 2, 1, 0] rfl ?_
  refine g_eq (lv2 := [(0, .ref (xa X 7)), (1, .int (nI it)), (2, .int yr), (3, .int d), (4, .int ((vhF f11 f12 f13 f14 (nI it) yr d (tbV it) 0).1)), (5, .int ((vhF f11 f12 f13 f14 (nI it) yr d (tbV it) 0).2)), (6, .int 0)]) (ws2 := [oDcr X (nI dn), kA X 11 40 f11, kA X 12 40 f12, kA X 13 40 f13, kA X 14 40 f14]) (st2 := []) ((congrArg (fun zq_ : Int32 => ([(0, .ref (xa X 7)), (1, .int (nI it)), (2, .int yr), (3, .int d), (4, .int zq_), (5, .int 0), (6, .int 0)] : List (Nat × Value))) (show (tbV it : Int32) = (vhF f11 f12 f13 f14 (nI it) yr d (tbV it) 0).1 from (by first | rfl | omega | (simp [vhF]; done) | (simp [vhF]; omega) | (simp [vhF]; intros; exfalso; omega) | grind [vhF]))).trans (congrArg (fun zq_ : Int32 => ([(0, .ref (xa X 7)), (1, .int (nI it)), (2, .int yr), (3, .int d), (4, .int ((vhF f11 f12 f13 f14 (nI it) yr d (tbV it) 0).1)), (5, .int zq_), (6, .int 0)] : List (Nat × Value))) (show (0 : Int32) = (vhF f11 f12 f13 f14 (nI it) yr d (tbV it) 0).2 from (by first | rfl | omega | (simp [vhF]; done) | (simp [vhF]; omega) | (simp [vhF]; intros; exfalso; omega) | grind [vhF])))) rfl rfl ?_
  exact lp_13 (dn - 0 + 1) 0 (Nat.zero_le _) (by omega)

set_option maxHeartbeats 1000000 in
set_option maxRecDepth 20000 in
theorem c_X3_placeOf (l : Launch) (X : gX) (a : Nat) (b : Nat) : KC l yX3_placeOf wsX3_placeOf ⟨0, 0, 0, 0⟩ [.int (nI a), .int (nI b)] X [] (some (.int (nI (a * 10 + b)))) [] := by
  refine KC.of cX3_placeOf 2 (some .int) RX3 rfl (by decide) rfl (lv := [(0, .int (nI a)), (1, .int (nI b))]) rfl (Nat.le_of_ble_eq_true rfl) ?_
  intro p e s m args below meth c A C hr
  refine g_iload_n (pc' := 1) C dX3_placeOf_0 0 rfl rfl rfl ?_
  refine g_bipush (pc' := 3) (v := 10) C dX3_placeOf_1 (by decide) rfl ?_
  refine g_imulV (pc' := 4) (v := nI (a * 10)) C dX3_placeOf_3 (by first | exact (pk_mul _ _) | rfl) rfl ?_
  refine g_iload_n (pc' := 5) C dX3_placeOf_4 1 rfl rfl rfl ?_
  refine g_iaddV (pc' := 6) (v := nI ((a * 10) + b)) C dX3_placeOf_5 (by first | exact (nI_add _ _) | rfl) rfl ?_
  exact g_iret C hr dX3_placeOf_6 (by first | rfl | omega | (simp []; done) | (simp []; omega) | (simp []; intros; exfalso; omega) | grind []) rfl

set_option maxHeartbeats 1000000 in
set_option maxRecDepth 20000 in
theorem c_X3_has (l : Launch) (X : gX) (on : Nat) (x : Int32) : KC l yX3_has wsX3_has ⟨1, 0, 0, 22⟩ [.ref (xa X 9), .int x] X [oLon X (nI on)] (some (.int (bz (0 ≤ x ∧ x ≤ nI on - 1)))) [oLon X (nI on)] := by
  have hi_X3 : ∀ w ∈ u_ws RX3 TX3 5, w ∈ wsX3_has := fun w h => List.mem_cons_of_mem _ (List.mem_append_right _ h)
  refine KC.of cX3_has 2 (some .boolean) RX3 rfl (by decide) rfl (lv := [(0, .ref (xa X 9)), (1, .int x)]) rfl (Nat.le_of_ble_eq_true rfl) ?_
  intro p e s m args below meth c A C hr
  refine g_iload_n (pc' := 1) C dX3_has_0 1 rfl rfl rfl ?_
  refine g_iconst (pc' := 2) (v := 0) C dX3_has_1 rfl rfl ?_
  refine g_aload_n (pc' := 3) C dX3_has_2 0 rfl rfl rfl ?_
  refine g_get (pc' := 6) C hi_X3 0 4 rfl rfl (by decide) (List.mem_of_getElem? (i := 1) rfl) rfl dX3_has_3 rfl ?_
  refine g_iconst (pc' := 7) (v := 1) C dX3_has_6 rfl rfl ?_
  refine g_isub (pc' := 8) C dX3_has_7 rfl ?_
  refine g_callSN (pc' := 11) (st := []) (ws2 := [oLon X (nI on)]) C [.int x, .int 0, .int ((nI on) - 1)] 3 rfl (c_X9_isWithin l X x 0 ((nI on) - 1) ) [] [0] [0] gX3_has_X9_isWithin_n29 (List.mem_of_getElem? (i := 50) rfl) (List.mem_of_getElem? (i := 2) rfl) (List.mem_of_getElem? (i := 3) rfl) rfl ⟨rfl, rfl⟩ (by decide +kernel) ⟨by decide, by decide⟩ ⟨by decide, by decide⟩ rfl (wr := [oLon X (nI on)]) rfl ⟨by decide, by decide, by decide, by decide⟩ rfl (Nat.le_of_ble_eq_true rfl) dX3_has_8 rfl rfl ?_
  by_cases b_8 : 0 ≤ x ∧ x ≤ ((nI on) - 1)
  · refine g_top (bz_t b_8) ?_
    exact g_zret C hr rfl dX3_has_11 (by first | rfl | omega | (simp [bz, b_8]; done) | (simp [bz, b_8]; omega) | (simp [bz, b_8]; intros; exfalso; omega) | grind [bz]) rfl
  · refine g_top (bz_f b_8) ?_
    exact g_zret C hr rfl dX3_has_11 (by first | rfl | omega | (simp [bz, b_8]; done) | (simp [bz, b_8]; omega) | (simp [bz, b_8]; intros; exfalso; omega) | grind [bz]) rfl

set_option maxHeartbeats 1000000 in
set_option maxRecDepth 20000 in
theorem c_X3_houseOfGreatestRest (l : Launch) (X : gX) (on : Nat) (f26 : Nat → Int64) : KC l yX3_houseOfGreatestRest wsX3_houseOfGreatestRest ⟨0, 0, 0, 0⟩ [.ref (xa X 9)] X [oLon X (nI on), kL X 26 10 f26] (some (.int (nI (grF f26 9)))) [oLon X (nI on), kL X 26 10 f26] := by
  have hi_X3 : ∀ w ∈ u_ws RX3 TX3 5, w ∈ wsX3_houseOfGreatestRest := fun w h => List.mem_cons_of_mem _ (List.mem_append_right _ h)
  refine KC.of cX3_houseOfGreatestRest 3 (some .int) RX3 rfl (by decide) rfl (lv := [(0, .ref (xa X 9))]) rfl (Nat.le_of_ble_eq_true rfl) ?_
  intro p e s m args below meth c A C hr
  refine g_iconst (pc' := 1) (v := 0) C dX3_houseOfGreatestRest_0 rfl rfl ?_
  refine g_istore_n (pc' := 2) (lv' := [(1, .int 0), (0, .ref (xa X 9))]) C dX3_houseOfGreatestRest_1 rfl (by decide) rfl rfl ?_
  refine g_iconst (pc' := 3) (v := 1) C dX3_houseOfGreatestRest_2 rfl rfl ?_
  refine g_istore_n (pc' := 4) (lv' := [(2, .int 1), (1, .int 0), (0, .ref (xa X 9))]) C dX3_houseOfGreatestRest_3 rfl (by decide) rfl rfl ?_
  have lp_4 : ∀ (n_4 : Nat) (k : Nat) (hk : k ≤ 9) (hm_4 : 9 - k < n_4), gG p l e ⟨0, 0, 0, 0⟩ s m args below meth c X A 3 0 0 (MQ below (QA X A (some (.int (nI (grF f26 9)))) [oLon X (nI on), kL X 26 10 f26]) args s 0 0 A) [(0, .ref (xa X 9)), (1, .int (nI (grF f26 k))), (2, .int (nI (k + 1)))] [oLon X (nI on), kL X 26 10 f26] 4 [] := by
    intro n_4
    induction n_4 with
    | zero => intro k hk hm_4; exact absurd hm_4 (Nat.not_lt_zero _)
    | succ n_4 ih_4 =>
      intro k hk hm_4
      have hg := grF_le f26 k
      refine g_iload_n (pc' := 5) C dX3_houseOfGreatestRest_4 2 rfl rfl rfl ?_
      refine g_bipush (pc' := 7) (v := 10) C dX3_houseOfGreatestRest_5 (by decide) rfl ?_
      refine g_icmp_geN (pc' := 10) (tgt := 34) C (k + 1) 10 rfl rfl (by omega) (by omega) dX3_houseOfGreatestRest_7 (by decide) rfl (fun c_7 => ?_) (fun c_7 => ?_)
      · refine g_iload_n (pc' := 35) C dX3_houseOfGreatestRest_34 1 rfl rfl rfl ?_
        exact g_iret C hr dX3_houseOfGreatestRest_35 (by rw [show k = 9 by omega]) rfl
      · refine g_aload_n (pc' := 11) C dX3_houseOfGreatestRest_10 0 rfl rfl rfl ?_
        refine g_get (pc' := 14) C hi_X3 0 3 rfl rfl (by decide) (List.mem_of_getElem? (i := 1) rfl) rfl dX3_houseOfGreatestRest_11 rfl ?_
        refine g_iload_n (pc' := 15) C dX3_houseOfGreatestRest_14 2 rfl rfl rfl ?_
        refine g_lald (pc' := 16) C 1 (k + 1) rfl rfl (by omega) (by decide) dX3_houseOfGreatestRest_15 rfl ?_
        refine g_aload_n (pc' := 17) C dX3_houseOfGreatestRest_16 0 rfl rfl rfl ?_
        refine g_get (pc' := 20) C hi_X3 0 3 rfl rfl (by decide) (List.mem_of_getElem? (i := 1) rfl) rfl dX3_houseOfGreatestRest_17 rfl ?_
        refine g_iload_n (pc' := 21) C dX3_houseOfGreatestRest_20 1 rfl rfl rfl ?_
        refine g_lald (pc' := 22) C 1 (grF f26 k) rfl rfl (by omega) (by decide) dX3_houseOfGreatestRest_21 rfl ?_
        refine g_lcmp (pc' := 23) C dX3_houseOfGreatestRest_22 rfl ?_
        refine g_if_le (pc' := 26) (tgt := 28) C dX3_houseOfGreatestRest_23 (by decide) rfl (fun c_23 => ?_) (fun c_23 => ?_)
        · refine g_iinc (pc' := 31) (v := nI (k + 2)) (lv' := [(2, .int (nI (k + 2))), (0, .ref (xa X 9)), (1, .int (nI (grF f26 k)))]) C dX3_houseOfGreatestRest_28 2 rfl (nI_1 _) (by decide) rfl rfl ?_
          refine g_goto (tgt := 4) C dX3_houseOfGreatestRest_31 (by decide) ?_
          refine g_lv (lv2 := [(0, .ref (xa X 9)), (1, .int (nI (grF f26 k))), (2, .int (nI (k + 2)))]) [1, 2, 0] rfl ?_
          refine g_eq (lv2 := [(0, .ref (xa X 9)), (1, .int (nI (grF f26 (k + 1)))), (2, .int (nI ((k + 1) + 1)))]) (ws2 := [oLon X (nI on), kL X 26 10 f26]) (st2 := []) ((congrArg (fun zq_ : Int32 => ([(0, .ref (xa X 9)), (1, .int zq_), (2, .int (nI (k + 2)))] : List (Nat × Value))) (show (nI (grF f26 k) : Int32) = nI (grF f26 (k + 1)) from (by first | rfl | omega | (simp [grF, c_7, c_23]; done) | (simp [grF, c_7, c_23]; omega) | (simp [grF, c_7, c_23]; intros; exfalso; omega) | grind [grF]))).trans (congrArg (fun zq_ : Int32 => ([(0, .ref (xa X 9)), (1, .int (nI (grF f26 (k + 1)))), (2, .int zq_)] : List (Nat × Value))) (show (nI (k + 2) : Int32) = nI ((k + 1) + 1) from (by first | rfl | omega | (simp [grF, c_7, c_23]; done) | (simp [grF, c_7, c_23]; omega) | (simp [grF, c_7, c_23]; intros; exfalso; omega) | grind [grF])))) rfl rfl ?_
          exact ih_4 (k + 1) (by omega) (by omega)
        · refine g_iload_n (pc' := 27) C dX3_houseOfGreatestRest_26 2 rfl rfl rfl ?_
          refine g_istore_n (pc' := 28) (lv' := [(1, .int (nI (k + 1))), (0, .ref (xa X 9)), (2, .int (nI (k + 1)))]) C dX3_houseOfGreatestRest_27 rfl (by decide) rfl rfl ?_
          refine g_iinc (pc' := 31) (v := nI (k + 2)) (lv' := [(2, .int (nI (k + 2))), (1, .int (nI (k + 1))), (0, .ref (xa X 9))]) C dX3_houseOfGreatestRest_28 2 rfl (nI_1 _) (by decide) rfl rfl ?_
          refine g_goto (tgt := 4) C dX3_houseOfGreatestRest_31 (by decide) ?_
          refine g_lv (lv2 := [(0, .ref (xa X 9)), (1, .int (nI (k + 1))), (2, .int (nI (k + 2)))]) [2, 1, 0] rfl ?_
          refine g_eq (lv2 := [(0, .ref (xa X 9)), (1, .int (nI (grF f26 (k + 1)))), (2, .int (nI ((k + 1) + 1)))]) (ws2 := [oLon X (nI on), kL X 26 10 f26]) (st2 := []) ((congrArg (fun zq_ : Int32 => ([(0, .ref (xa X 9)), (1, .int zq_), (2, .int (nI (k + 2)))] : List (Nat × Value))) (show (nI (k + 1) : Int32) = nI (grF f26 (k + 1)) from (by first | rfl | omega | (simp [grF, c_7, c_23]; done) | (simp [grF, c_7, c_23]; omega) | (simp [grF, c_7, c_23]; intros; exfalso; omega) | grind [grF]))).trans (congrArg (fun zq_ : Int32 => ([(0, .ref (xa X 9)), (1, .int (nI (grF f26 (k + 1)))), (2, .int zq_)] : List (Nat × Value))) (show (nI (k + 2) : Int32) = nI ((k + 1) + 1) from (by first | rfl | omega | (simp [grF, c_7, c_23]; done) | (simp [grF, c_7, c_23]; omega) | (simp [grF, c_7, c_23]; intros; exfalso; omega) | grind [grF])))) rfl rfl ?_
          exact ih_4 (k + 1) (by omega) (by omega)
  refine g_lv (lv2 := [(0, .ref (xa X 9)), (1, .int 0), (2, .int 1)]) [2, 1, 0] rfl ?_
  refine g_eq (lv2 := [(0, .ref (xa X 9)), (1, .int (nI (grF f26 0))), (2, .int (nI (0 + 1)))]) (ws2 := [oLon X (nI on), kL X 26 10 f26]) (st2 := []) ((congrArg (fun zq_ : Int32 => ([(0, .ref (xa X 9)), (1, .int zq_), (2, .int 1)] : List (Nat × Value))) (show (0 : Int32) = nI (grF f26 0) from (by first | rfl | omega | (simp [grF]; done) | (simp [grF]; omega) | (simp [grF]; intros; exfalso; omega) | grind [grF]))).trans (congrArg (fun zq_ : Int32 => ([(0, .ref (xa X 9)), (1, .int (nI (grF f26 0))), (2, .int zq_)] : List (Nat × Value))) (show (1 : Int32) = nI (0 + 1) from (by first | rfl | omega | (simp [grF]; done) | (simp [grF]; omega) | (simp [grF]; intros; exfalso; omega) | grind [grF])))) rfl rfl ?_
  exact lp_4 (9 - 0 + 1) 0 (Nat.zero_le _) (by omega)

set_option maxHeartbeats 1000000 in
set_option maxRecDepth 20000 in
theorem c_X3_spread (l : Launch) (X : gX) (on : Nat) (f23 : Nat → Int32) (f26 : Nat → Int64) (lf : Nat) (hl : lf ≤ 10) (ho : on < 6) : KC l yX3_spread wsX3_spread ⟨1, 0, 0, 22⟩ [.ref (xa X 9), .int (nI lf)] X [oLon X (nI on), kA X 23 60 f23, kL X 26 10 f26] none [oLon X (nI on), kA X 23 60 ((spF f23 f26 (on * 10) lf).1), kL X 26 10 ((spF f23 f26 (on * 10) lf).2)] := by
  have hi_X3 : ∀ w ∈ u_ws RX3 TX3 5, w ∈ wsX3_spread := fun w h => List.mem_cons_of_mem _ (List.mem_append_right _ h)
  refine KC.of cX3_spread 4 none RX3 rfl (by decide) rfl (lv := [(0, .ref (xa X 9)), (1, .int (nI lf))]) rfl (Nat.le_of_ble_eq_true rfl) ?_
  intro p e s m args below meth c A C hr
  refine g_iconst (pc' := 1) (v := 0) C dX3_spread_0 rfl rfl ?_
  refine g_istore_n (pc' := 2) (lv' := [(2, .int 0), (0, .ref (xa X 9)), (1, .int (nI lf))]) C dX3_spread_1 rfl (by decide) rfl rfl ?_
  have lp_2 : ∀ (n_2 : Nat) (k : Nat) (hk : k ≤ lf) (hm_2 : lf - k < n_2), gG p l e ⟨1, 0, 0, 22⟩ s m args below meth c X A 4 0 0 (MQ below (QA X A none [oLon X (nI on), kA X 23 60 ((spF f23 f26 (on * 10) lf).1), kL X 26 10 ((spF f23 f26 (on * 10) lf).2)]) args s 0 0 A) [(0, .ref (xa X 9)), (1, .int (nI lf)), (2, .int (nI k))] [oLon X (nI on), kA X 23 60 ((spF f23 f26 (on * 10) k).1), kL X 26 10 ((spF f23 f26 (on * 10) k).2)] 2 [] := by
    intro n_2
    induction n_2 with
    | zero => intro k hk hm_2; exact absurd hm_2 (Nat.not_lt_zero _)
    | succ n_2 ih_2 =>
      intro k hk hm_2
      refine g_iload_n (pc' := 3) C dX3_spread_2 2 rfl rfl rfl ?_
      refine g_iload_n (pc' := 4) C dX3_spread_3 1 rfl rfl rfl ?_
      refine g_icmp_geN (pc' := 7) (tgt := 50) C k lf rfl rfl (by omega) (by omega) dX3_spread_4 (by decide) rfl (fun c_4 => ?_) (fun c_4 => ?_)
      · exact g_vret C hr dX3_spread_50 ((congrArg (fun zq_ : Nat → Int32 => ([oLon X (nI on), kA X 23 60 zq_, kL X 26 10 ((spF f23 f26 (on * 10) k).2)] : va_W)) (show ((spF f23 f26 (on * 10) k).1 : Nat → Int32) = (spF f23 f26 (on * 10) lf).1 from (by rw [show k = lf by omega]))).trans (congrArg (fun zq_ : Nat → Int64 => ([oLon X (nI on), kA X 23 60 ((spF f23 f26 (on * 10) lf).1), kL X 26 10 zq_] : va_W)) (show ((spF f23 f26 (on * 10) k).2 : Nat → Int64) = (spF f23 f26 (on * 10) lf).2 from (by rw [show k = lf by omega]))))
      · refine g_iload_n (pc' := 8) C dX3_spread_7 2 rfl rfl rfl ?_
        refine g_bipush (pc' := 10) (v := 10) C dX3_spread_8 (by decide) rfl ?_
        refine g_icmp_geN (pc' := 13) (tgt := 50) C k 10 rfl rfl (by omega) (by omega) dX3_spread_10 (by decide) rfl (fun c_10 => ?_) (fun c_10 => ?_)
        · exact absurd c_10 (by omega)
        · refine g_aload_n (pc' := 14) C dX3_spread_13 0 rfl rfl rfl ?_
          refine g_callV (pc' := 17) (st := []) (ws2 := [oLon X (nI on), kA X 23 60 ((spF f23 f26 (on * 10) k).1), kL X 26 10 ((spF f23 f26 (on * 10) k).2)]) C [] 0 rfl (c_X3_houseOfGreatestRest l X on ((spF f23 f26 (on * 10) k).2) ) [0, 2] [1] [1, 0, 2] gX3_spread_X3_houseOfGreatestRest 0 rfl rfl rfl ⟨rfl, rfl⟩ (by decide +kernel) ⟨by decide, by decide⟩ ⟨by decide, by decide⟩ rfl (wr := [kA X 23 60 ((spF f23 f26 (on * 10) k).1)]) rfl ⟨by decide, by decide, by decide, by decide⟩ rfl (Nat.le_of_ble_eq_true rfl) dX3_spread_14 rfl rfl ?_
          have hg := grF_le (spF f23 f26 (on * 10) k).2 9
          refine g_istore_n (pc' := 18) (lv' := [(3, .int (nI (grF ((spF f23 f26 (on * 10) k).2) 9))), (0, .ref (xa X 9)), (1, .int (nI lf)), (2, .int (nI k))]) C dX3_spread_17 rfl (by decide) rfl rfl ?_
          refine g_aload_n (pc' := 19) C dX3_spread_18 1 rfl rfl rfl ?_
          refine g_get (pc' := 22) C hi_X3 0 0 rfl rfl (by decide) (List.mem_of_getElem? (i := 1) rfl) rfl dX3_spread_19 rfl ?_
          refine g_aload_n (pc' := 23) C dX3_spread_22 1 rfl rfl rfl ?_
          refine g_get (pc' := 26) C hi_X3 0 4 rfl rfl (by decide) (List.mem_of_getElem? (i := 2) rfl) rfl dX3_spread_23 rfl ?_
          refine g_iload_n (pc' := 27) C dX3_spread_26 0 rfl rfl rfl ?_
          refine g_callS (pc' := 30) (st := [.ref (xa X 23)]) (ws2 := [oLon X (nI on), kA X 23 60 ((spF f23 f26 (on * 10) k).1), kL X 26 10 ((spF f23 f26 (on * 10) k).2)]) C [.int (nI on), .int (nI (grF ((spF f23 f26 (on * 10) k).2) 9))] 2 rfl (c_X3_placeOf l X on (grF ((spF f23 f26 (on * 10) k).2) 9) ) [] [0, 1, 2] [0, 1, 2] gX3_spread_X3_placeOf rfl ⟨rfl, rfl⟩ (by decide +kernel) ⟨by decide, by decide⟩ ⟨by decide, by decide⟩ rfl (wr := [oLon X (nI on), kA X 23 60 ((spF f23 f26 (on * 10) k).1), kL X 26 10 ((spF f23 f26 (on * 10) k).2)]) rfl ⟨by decide, by decide, by decide, by decide⟩ rfl (Nat.le_of_ble_eq_true rfl) dX3_spread_27 rfl rfl ?_
          refine g_dup2 (pc' := 31) C dX3_spread_30 rfl rfl rfl ?_
          refine g_iald (pc' := 32) C 1 (on * 10 + (grF ((spF f23 f26 (on * 10) k).2) 9)) rfl rfl (by omega) (by decide) dX3_spread_31 rfl ?_
          refine g_iconst (pc' := 33) (v := 1) C dX3_spread_32 rfl rfl ?_
          refine g_iadd (pc' := 34) C dX3_spread_33 rfl ?_
          refine g_iast (pc' := 35) (ws2 := [oLon X (nI on), kA X 23 60 (upd ((spF f23 f26 (on * 10) k).1) (on * 10 + (grF ((spF f23 f26 (on * 10) k).2) 9)) ((((spF f23 f26 (on * 10) k).1) (on * 10 + (grF ((spF f23 f26 (on * 10) k).2) 9))) + 1)), kL X 26 10 ((spF f23 f26 (on * 10) k).2)]) C 1 (on * 10 + (grF ((spF f23 f26 (on * 10) k).2) 9)) rfl rfl (by omega) (by decide) dX3_spread_34 rfl rfl ?_
          refine g_aload_n (pc' := 36) C dX3_spread_35 1 rfl rfl rfl ?_
          refine g_get (pc' := 39) C hi_X3 0 3 rfl rfl (by decide) (List.mem_of_getElem? (i := 3) rfl) rfl dX3_spread_36 rfl ?_
          refine g_iload_n (pc' := 40) C dX3_spread_39 0 rfl rfl rfl ?_
          refine g_ldc2 (pc' := 43) (v := -1) C (List.mem_of_getElem? (i := 4) rfl) dX3_spread_40 rfl ?_
          refine g_last (pc' := 44) (ws2 := [oLon X (nI on), kA X 23 60 (upd ((spF f23 f26 (on * 10) k).1) (on * 10 + (grF ((spF f23 f26 (on * 10) k).2) 9)) ((((spF f23 f26 (on * 10) k).1) (on * 10 + (grF ((spF f23 f26 (on * 10) k).2) 9))) + 1)), kL X 26 10 (vp_updL ((spF f23 f26 (on * 10) k).2) (grF ((spF f23 f26 (on * 10) k).2) 9) (-1))]) C 2 (grF ((spF f23 f26 (on * 10) k).2) 9) rfl rfl (by omega) (by decide) dX3_spread_43 rfl rfl ?_
          refine g_iinc (pc' := 47) (v := nI (k + 1)) (lv' := [(2, .int (nI (k + 1))), (3, .int (nI (grF ((spF f23 f26 (on * 10) k).2) 9))), (0, .ref (xa X 9)), (1, .int (nI lf))]) C dX3_spread_44 3 rfl (nI_1 _) (by decide) rfl rfl ?_
          refine g_goto (tgt := 2) C dX3_spread_47 (by decide) ?_
          refine g_lv (lv2 := [(0, .ref (xa X 9)), (1, .int (nI lf)), (2, .int (nI (k + 1)))]) [2, 3, 0] rfl ?_
          refine g_eq (lv2 := [(0, .ref (xa X 9)), (1, .int (nI lf)), (2, .int (nI (k + 1)))]) (ws2 := [oLon X (nI on), kA X 23 60 ((spF f23 f26 (on * 10) (k + 1)).1), kL X 26 10 ((spF f23 f26 (on * 10) (k + 1)).2)]) (st2 := []) rfl ((congrArg (fun zq_ : Nat → Int32 => ([oLon X (nI on), kA X 23 60 zq_, kL X 26 10 (vp_updL ((spF f23 f26 (on * 10) k).2) (grF ((spF f23 f26 (on * 10) k).2) 9) (-1))] : va_W)) (show (upd ((spF f23 f26 (on * 10) k).1) (on * 10 + (grF ((spF f23 f26 (on * 10) k).2) 9)) ((((spF f23 f26 (on * 10) k).1) (on * 10 + (grF ((spF f23 f26 (on * 10) k).2) 9))) + 1) : Nat → Int32) = (spF f23 f26 (on * 10) (k + 1)).1 from rfl)).trans (congrArg (fun zq_ : Nat → Int64 => ([oLon X (nI on), kA X 23 60 ((spF f23 f26 (on * 10) (k + 1)).1), kL X 26 10 zq_] : va_W)) (show (vp_updL ((spF f23 f26 (on * 10) k).2) (grF ((spF f23 f26 (on * 10) k).2) 9) (-1) : Nat → Int64) = (spF f23 f26 (on * 10) (k + 1)).2 from rfl))) rfl ?_
          exact ih_2 (k + 1) (by omega) (by omega)
  refine g_lv (lv2 := [(0, .ref (xa X 9)), (1, .int (nI lf)), (2, .int 0)]) [1, 2, 0] rfl ?_
  refine g_eq (lv2 := [(0, .ref (xa X 9)), (1, .int (nI lf)), (2, .int 0)]) (ws2 := [oLon X (nI on), kA X 23 60 ((spF f23 f26 (on * 10) 0).1), kL X 26 10 ((spF f23 f26 (on * 10) 0).2)]) (st2 := []) rfl ((congrArg (fun zq_ : Nat → Int32 => ([oLon X (nI on), kA X 23 60 zq_, kL X 26 10 f26] : va_W)) (show (f23 : Nat → Int32) = (spF f23 f26 (on * 10) 0).1 from (by first | rfl | omega | (simp []; done) | (simp []; omega) | (simp []; intros; exfalso; omega) | grind []))).trans (congrArg (fun zq_ : Nat → Int64 => ([oLon X (nI on), kA X 23 60 ((spF f23 f26 (on * 10) 0).1), kL X 26 10 zq_] : va_W)) (show (f26 : Nat → Int64) = (spF f23 f26 (on * 10) 0).2 from (by first | rfl | omega | (simp []; done) | (simp []; omega) | (simp []; intros; exfalso; omega) | grind [])))) rfl ?_
  exact lp_2 (lf - 0 + 1) 0 (Nat.zero_le _) (by omega)

set_option maxHeartbeats 1000000 in
set_option maxRecDepth 20000 in
theorem c_X3_add (l : Launch) (X : gX) (on : Nat) (f23 : Nat → Int32) (f26 : Nat → Int64) (f37 : Nat → Int32) (sm : Int32) (ho : on < 6) (h0 : ¬ sumI f37 10 ≤ 0) (hne : ¬ (sumI f37 10).toInt64 = 0) (hl : okN (lvL sm f37 (sumI f37 10).toInt64 10) 11) : KC l yX3_add wsX3_add ⟨2, 0, 0, 45⟩ [.ref (xa X 9), .int sm, .ref (xa X 37)] X [oLon X (nI on), kA X 23 60 f23, kL X 26 10 f26, kA X 37 10 f37] none [oLon X (nI (on + 1)), kA X 23 60 ((spF (lvS sm f37 (sumI f37 10).toInt64 f23 (on * 10) 10) (lvR sm f37 (sumI f37 10).toInt64 f26 10) (on * 10) (cN (lvL sm f37 (sumI f37 10).toInt64 10))).1), kL X 26 10 ((spF (lvS sm f37 (sumI f37 10).toInt64 f23 (on * 10) 10) (lvR sm f37 (sumI f37 10).toInt64 f26 10) (on * 10) (cN (lvL sm f37 (sumI f37 10).toInt64 10))).2), kA X 37 10 f37] := by
  have hi_X3 : ∀ w ∈ u_ws RX3 TX3 5, w ∈ wsX3_add := fun w h => List.mem_cons_of_mem _ (List.mem_append_right _ h)
  refine KC.of cX3_add 9 none RX3 rfl (by decide) rfl (lv := [(0, .ref (xa X 9)), (1, .int sm), (2, .ref (xa X 37))]) rfl (Nat.le_of_ble_eq_true rfl) ?_
  intro p e s m args below meth c A C hr
  have hl2 := hl.2
  refine g_aload_n (pc' := 1) C dX3_add_0 2 rfl rfl rfl ?_
  refine g_callSN (pc' := 4) (st := []) (ws2 := [oLon X (nI on), kA X 23 60 f23, kL X 26 10 f26, kA X 37 10 f37]) C [.ref (xa X 37)] 1 rfl (c_X9_sumOf l X (xa X 37) 10 f37 (by decide)) [3] [0, 1, 2] [0, 1, 2, 3] gX3_add_X9_sumOf_n33 (List.mem_of_getElem? (i := 49) rfl) (List.mem_of_getElem? (i := 4) rfl) (List.mem_of_getElem? (i := 5) rfl) rfl ⟨rfl, rfl⟩ (by decide +kernel) ⟨by decide, by decide⟩ ⟨by decide, by decide⟩ rfl (wr := [oLon X (nI on), kA X 23 60 f23, kL X 26 10 f26]) rfl ⟨by decide, by decide, by decide, by decide⟩ rfl (Nat.le_of_ble_eq_true rfl) dX3_add_1 rfl rfl ?_
  refine g_istore_n (pc' := 5) (lv' := [(3, .int (sumI f37 10)), (0, .ref (xa X 9)), (1, .int sm), (2, .ref (xa X 37))]) C dX3_add_4 rfl (by decide) rfl rfl ?_
  refine g_iload_n (pc' := 6) C dX3_add_5 0 rfl rfl rfl ?_
  refine g_if_le (pc' := 9) (tgt := 18) C dX3_add_6 (by decide) rfl (fun c_6 => ?_) (fun c_6 => ?_)
  · exact absurd c_6 h0
  · refine g_aload_n (pc' := 10) C dX3_add_9 1 rfl rfl rfl ?_
    refine g_get (pc' := 13) C hi_X3 0 4 rfl rfl (by decide) (List.mem_of_getElem? (i := 1) rfl) rfl dX3_add_10 rfl ?_
    refine g_bipush (pc' := 15) (v := 6) C dX3_add_13 (by decide) rfl ?_
    refine g_icmp_ltN (pc' := 18) (tgt := 19) C on 6 rfl rfl (by omega) (by omega) dX3_add_15 (by decide) rfl (fun c_15 => ?_) (fun c_15 => ?_)
    · refine g_iload_n (pc' := 20) C dX3_add_19 2 rfl rfl rfl ?_
      refine g_istore (pc' := 22) (lv' := [(4, .int sm), (3, .int (sumI f37 10)), (0, .ref (xa X 9)), (1, .int sm), (2, .ref (xa X 37))]) C dX3_add_20 (by decide) rfl rfl ?_
      refine g_iconst (pc' := 23) (v := 0) C dX3_add_22 rfl rfl ?_
      refine g_istore (pc' := 25) (lv' := [(5, .int 0), (4, .int sm), (3, .int (sumI f37 10)), (0, .ref (xa X 9)), (1, .int sm), (2, .ref (xa X 37))]) C dX3_add_23 (by decide) rfl rfl ?_
      have lp_25 : ∀ (n_25 : Nat) (k : Nat) (hk : k ≤ 10) (hm_25 : 10 - k < n_25), gG p l e ⟨2, 0, 0, 45⟩ s m args below meth c X A 9 0 0 (MQ below (QA X A none [oLon X (nI (on + 1)), kA X 23 60 ((spF (lvS sm f37 (sumI f37 10).toInt64 f23 (on * 10) 10) (lvR sm f37 (sumI f37 10).toInt64 f26 10) (on * 10) (cN (lvL sm f37 (sumI f37 10).toInt64 10))).1), kL X 26 10 ((spF (lvS sm f37 (sumI f37 10).toInt64 f23 (on * 10) 10) (lvR sm f37 (sumI f37 10).toInt64 f26 10) (on * 10) (cN (lvL sm f37 (sumI f37 10).toInt64 10))).2), kA X 37 10 f37]) args s 0 0 A) [(0, .ref (xa X 9)), (1, .int sm), (2, .ref (xa X 37)), (3, .int (sumI f37 10)), (4, .int (lvL sm f37 (sumI f37 10).toInt64 k)), (5, .int (nI k))] [oLon X (nI on), kA X 23 60 (lvS sm f37 (sumI f37 10).toInt64 f23 (on * 10) k), kL X 26 10 (lvR sm f37 (sumI f37 10).toInt64 f26 k), kA X 37 10 f37] 25 [] := by
        intro n_25
        induction n_25 with
        | zero => intro k hk hm_25; exact absurd hm_25 (Nat.not_lt_zero _)
        | succ n_25 ih_25 =>
          intro k hk hm_25
          refine g_iload (pc' := 27) C dX3_add_25 5 rfl rfl ?_
          refine g_bipush (pc' := 29) (v := 10) C dX3_add_27 (by decide) rfl ?_
          refine g_icmp_geN (pc' := 32) (tgt := 91) C k 10 rfl rfl (by omega) (by omega) dX3_add_29 (by decide) rfl (fun c_29 => ?_) (fun c_29 => ?_)
          · refine g_aload_n (pc' := 92) C dX3_add_91 0 rfl rfl rfl ?_
            refine g_iload (pc' := 94) C dX3_add_92 4 rfl rfl ?_
            refine g_top (y := nI (cN (lvL sm f37 (sumI f37 10).toInt64 10))) (okN_at (show k = 10 by omega) hl) ?_
            refine g_callV (pc' := 97) (st := []) (ws2 := [oLon X (nI on), kA X 23 60 ((spF (lvS sm f37 (sumI f37 10).toInt64 f23 (on * 10) k) (lvR sm f37 (sumI f37 10).toInt64 f26 k) (on * 10) (cN (lvL sm f37 (sumI f37 10).toInt64 10))).1), kL X 26 10 ((spF (lvS sm f37 (sumI f37 10).toInt64 f23 (on * 10) k) (lvR sm f37 (sumI f37 10).toInt64 f26 k) (on * 10) (cN (lvL sm f37 (sumI f37 10).toInt64 10))).2), kA X 37 10 f37]) C [.int (nI (cN (lvL sm f37 (sumI f37 10).toInt64 10)))] 1 rfl (c_X3_spread l X on (lvS sm f37 (sumI f37 10).toInt64 f23 (on * 10) k) (lvR sm f37 (sumI f37 10).toInt64 f26 k) (cN (lvL sm f37 (sumI f37 10).toInt64 10)) (by first | assumption | omega) (by first | assumption | omega)) [0, 1, 2] [3] [1, 2, 3, 0] gX3_add_X3_spread 0 rfl rfl rfl ⟨rfl, rfl⟩ (by decide +kernel) ⟨by decide, by decide⟩ ⟨by decide, by decide⟩ rfl (wr := [kA X 37 10 f37]) rfl ⟨by decide, by decide, by decide, by decide⟩ rfl (Nat.le_of_ble_eq_true rfl) dX3_add_94 rfl rfl ?_
            refine g_aload_n (pc' := 98) C dX3_add_97 0 rfl rfl rfl ?_
            refine g_dup (pc' := 99) C dX3_add_98 rfl rfl ?_
            refine g_get (pc' := 102) C hi_X3 0 4 rfl rfl (by decide) (List.mem_of_getElem? (i := 1) rfl) rfl dX3_add_99 rfl ?_
            refine g_iconst (pc' := 103) (v := 1) C dX3_add_102 rfl rfl ?_
            refine g_iaddV (pc' := 104) (v := nI (on + 1)) C dX3_add_103 (by first | exact (nI_add _ _) | rfl) rfl ?_
            refine g_put (pc' := 107) (ws2 := [oLon X (nI (on + 1)), kA X 23 60 ((spF (lvS sm f37 (sumI f37 10).toInt64 f23 (on * 10) k) (lvR sm f37 (sumI f37 10).toInt64 f26 k) (on * 10) (cN (lvL sm f37 (sumI f37 10).toInt64 10))).1), kL X 26 10 ((spF (lvS sm f37 (sumI f37 10).toInt64 f23 (on * 10) k) (lvR sm f37 (sumI f37 10).toInt64 f26 k) (on * 10) (cN (lvL sm f37 (sumI f37 10).toInt64 10))).2), kA X 37 10 f37]) C hi_X3 tyX3 tyX3_ok nmX3 0 4 rfl rfl (by decide) (Nat.le_of_ble_eq_true rfl) rfl rfl (List.mem_of_getElem? (i := 1) rfl) dX3_add_104 rfl rfl ?_
            exact g_vret C hr dX3_add_107 ((congrArg (fun zq_ : Nat → Int32 => ([oLon X (nI (on + 1)), kA X 23 60 zq_, kL X 26 10 ((spF (lvS sm f37 (sumI f37 10).toInt64 f23 (on * 10) k) (lvR sm f37 (sumI f37 10).toInt64 f26 k) (on * 10) (cN (lvL sm f37 (sumI f37 10).toInt64 10))).2), kA X 37 10 f37] : va_W)) (show ((spF (lvS sm f37 (sumI f37 10).toInt64 f23 (on * 10) k) (lvR sm f37 (sumI f37 10).toInt64 f26 k) (on * 10) (cN (lvL sm f37 (sumI f37 10).toInt64 10))).1 : Nat → Int32) = (spF (lvS sm f37 (sumI f37 10).toInt64 f23 (on * 10) 10) (lvR sm f37 (sumI f37 10).toInt64 f26 10) (on * 10) (cN (lvL sm f37 (sumI f37 10).toInt64 10))).1 from (by rw [show k = 10 by omega]))).trans (congrArg (fun zq_ : Nat → Int64 => ([oLon X (nI (on + 1)), kA X 23 60 ((spF (lvS sm f37 (sumI f37 10).toInt64 f23 (on * 10) 10) (lvR sm f37 (sumI f37 10).toInt64 f26 10) (on * 10) (cN (lvL sm f37 (sumI f37 10).toInt64 10))).1), kL X 26 10 zq_, kA X 37 10 f37] : va_W)) (show ((spF (lvS sm f37 (sumI f37 10).toInt64 f23 (on * 10) k) (lvR sm f37 (sumI f37 10).toInt64 f26 k) (on * 10) (cN (lvL sm f37 (sumI f37 10).toInt64 10))).2 : Nat → Int64) = (spF (lvS sm f37 (sumI f37 10).toInt64 f23 (on * 10) 10) (lvR sm f37 (sumI f37 10).toInt64 f26 10) (on * 10) (cN (lvL sm f37 (sumI f37 10).toInt64 10))).2 from (by rw [show k = 10 by omega]))))
          · refine g_iload_n (pc' := 33) C dX3_add_32 1 rfl rfl rfl ?_
            refine g_i2l (pc' := 34) C dX3_add_33 rfl ?_
            refine g_aload_n (pc' := 35) C dX3_add_34 2 rfl rfl rfl ?_
            refine g_iload (pc' := 37) C dX3_add_35 5 rfl rfl ?_
            refine g_iald (pc' := 38) C 3 k rfl rfl (by omega) (by decide) dX3_add_37 rfl ?_
            refine g_i2l (pc' := 39) C dX3_add_38 rfl ?_
            refine g_lmul (pc' := 40) C dX3_add_39 rfl ?_
            refine g_lstore (pc' := 42) (lv' := [(6, .long (sm.toInt64 * ((f37 k).toInt64))), (0, .ref (xa X 9)), (1, .int sm), (2, .ref (xa X 37)), (3, .int (sumI f37 10)), (4, .int (lvL sm f37 (sumI f37 10).toInt64 k)), (5, .int (nI k))]) C dX3_add_40 (by decide) rfl rfl ?_
            refine g_lload (pc' := 44) C dX3_add_42 0 rfl rfl ?_
            refine g_iload_n (pc' := 45) C dX3_add_44 4 rfl rfl rfl ?_
            refine g_i2l (pc' := 46) C dX3_add_45 rfl ?_
            refine g_ldiv (pc' := 47) C dX3_add_46 hne rfl ?_
            refine g_l2i (pc' := 48) C dX3_add_47 rfl ?_
            refine g_istore (pc' := 50) (lv' := [(8, .int (((sm.toInt64 * ((f37 k).toInt64)) / ((sumI f37 10).toInt64)).toInt32)), (6, .long (sm.toInt64 * ((f37 k).toInt64))), (0, .ref (xa X 9)), (1, .int sm), (2, .ref (xa X 37)), (3, .int (sumI f37 10)), (4, .int (lvL sm f37 (sumI f37 10).toInt64 k)), (5, .int (nI k))]) C dX3_add_48 (by decide) rfl rfl ?_
            refine g_aload_n (pc' := 51) C dX3_add_50 2 rfl rfl rfl ?_
            refine g_get (pc' := 54) C hi_X3 0 0 rfl rfl (by decide) (List.mem_of_getElem? (i := 2) rfl) rfl dX3_add_51 rfl ?_
            refine g_aload_n (pc' := 55) C dX3_add_54 2 rfl rfl rfl ?_
            refine g_get (pc' := 58) C hi_X3 0 4 rfl rfl (by decide) (List.mem_of_getElem? (i := 1) rfl) rfl dX3_add_55 rfl ?_
            refine g_iload (pc' := 60) C dX3_add_58 7 rfl rfl ?_
            refine g_callS (pc' := 63) (st := [.ref (xa X 23)]) (ws2 := [oLon X (nI on), kA X 23 60 (lvS sm f37 (sumI f37 10).toInt64 f23 (on * 10) k), kL X 26 10 (lvR sm f37 (sumI f37 10).toInt64 f26 k), kA X 37 10 f37]) C [.int (nI on), .int (nI k)] 2 rfl (c_X3_placeOf l X on k ) [] [0, 1, 2, 3] [0, 1, 2, 3] gX3_add_X3_placeOf rfl ⟨rfl, rfl⟩ (by decide +kernel) ⟨by decide, by decide⟩ ⟨by decide, by decide⟩ rfl (wr := [oLon X (nI on), kA X 23 60 (lvS sm f37 (sumI f37 10).toInt64 f23 (on * 10) k), kL X 26 10 (lvR sm f37 (sumI f37 10).toInt64 f26 k), kA X 37 10 f37]) rfl ⟨by decide, by decide, by decide, by decide⟩ rfl (Nat.le_of_ble_eq_true rfl) dX3_add_60 rfl rfl ?_
            refine g_iload (pc' := 65) C dX3_add_63 0 rfl rfl ?_
            refine g_iast (pc' := 66) (ws2 := [oLon X (nI on), kA X 23 60 (upd (lvS sm f37 (sumI f37 10).toInt64 f23 (on * 10) k) (on * 10 + k) (((sm.toInt64 * ((f37 k).toInt64)) / ((sumI f37 10).toInt64)).toInt32)), kL X 26 10 (lvR sm f37 (sumI f37 10).toInt64 f26 k), kA X 37 10 f37]) C 1 (on * 10 + k) rfl rfl (by omega) (by decide) dX3_add_65 rfl rfl ?_
            refine g_aload_n (pc' := 67) C dX3_add_66 2 rfl rfl rfl ?_
            refine g_get (pc' := 70) C hi_X3 0 3 rfl rfl (by decide) (List.mem_of_getElem? (i := 3) rfl) rfl dX3_add_67 rfl ?_
            refine g_iload (pc' := 72) C dX3_add_70 7 rfl rfl ?_
            refine g_lload (pc' := 74) C dX3_add_72 1 rfl rfl ?_
            refine g_iload_n (pc' := 75) C dX3_add_74 5 rfl rfl rfl ?_
            refine g_i2l (pc' := 76) C dX3_add_75 rfl ?_
            refine g_lrem (pc' := 77) C dX3_add_76 hne rfl ?_
            refine g_last (pc' := 78) (ws2 := [oLon X (nI on), kA X 23 60 (upd (lvS sm f37 (sumI f37 10).toInt64 f23 (on * 10) k) (on * 10 + k) (((sm.toInt64 * ((f37 k).toInt64)) / ((sumI f37 10).toInt64)).toInt32)), kL X 26 10 (vp_updL (lvR sm f37 (sumI f37 10).toInt64 f26 k) k ((sm.toInt64 * ((f37 k).toInt64)) - (sm.toInt64 * ((f37 k).toInt64)) / ((sumI f37 10).toInt64) * ((sumI f37 10).toInt64))), kA X 37 10 f37]) C 2 k rfl rfl (by omega) (by decide) dX3_add_77 rfl rfl ?_
            refine g_iload (pc' := 80) C dX3_add_78 6 rfl rfl ?_
            refine g_iload (pc' := 82) C dX3_add_80 0 rfl rfl ?_
            refine g_isub (pc' := 83) C dX3_add_82 rfl ?_
            refine g_istore (pc' := 85) (lv' := [(4, .int ((lvL sm f37 (sumI f37 10).toInt64 k) - (((sm.toInt64 * ((f37 k).toInt64)) / ((sumI f37 10).toInt64)).toInt32))), (8, .int (((sm.toInt64 * ((f37 k).toInt64)) / ((sumI f37 10).toInt64)).toInt32)), (6, .long (sm.toInt64 * ((f37 k).toInt64))), (0, .ref (xa X 9)), (1, .int sm), (2, .ref (xa X 37)), (3, .int (sumI f37 10)), (5, .int (nI k))]) C dX3_add_83 (by decide) rfl rfl ?_
            refine g_iinc (pc' := 88) (v := nI (k + 1)) (lv' := [(5, .int (nI (k + 1))), (4, .int ((lvL sm f37 (sumI f37 10).toInt64 k) - (((sm.toInt64 * ((f37 k).toInt64)) / ((sumI f37 10).toInt64)).toInt32))), (8, .int (((sm.toInt64 * ((f37 k).toInt64)) / ((sumI f37 10).toInt64)).toInt32)), (6, .long (sm.toInt64 * ((f37 k).toInt64))), (0, .ref (xa X 9)), (1, .int sm), (2, .ref (xa X 37)), (3, .int (sumI f37 10))]) C dX3_add_85 7 rfl (nI_1 _) (by decide) rfl rfl ?_
            refine g_goto (tgt := 25) C dX3_add_88 (by decide) ?_
            refine g_lv (lv2 := [(0, .ref (xa X 9)), (1, .int sm), (2, .ref (xa X 37)), (3, .int (sumI f37 10)), (4, .int ((lvL sm f37 (sumI f37 10).toInt64 k) - (((sm.toInt64 * ((f37 k).toInt64)) / ((sumI f37 10).toInt64)).toInt32))), (5, .int (nI (k + 1)))]) [4, 5, 6, 7, 1, 0] rfl ?_
            refine g_eq (lv2 := [(0, .ref (xa X 9)), (1, .int sm), (2, .ref (xa X 37)), (3, .int (sumI f37 10)), (4, .int (lvL sm f37 (sumI f37 10).toInt64 (k + 1))), (5, .int (nI (k + 1)))]) (ws2 := [oLon X (nI on), kA X 23 60 (lvS sm f37 (sumI f37 10).toInt64 f23 (on * 10) (k + 1)), kL X 26 10 (lvR sm f37 (sumI f37 10).toInt64 f26 (k + 1)), kA X 37 10 f37]) (st2 := []) (congrArg (fun zq_ : Int32 => ([(0, .ref (xa X 9)), (1, .int sm), (2, .ref (xa X 37)), (3, .int (sumI f37 10)), (4, .int zq_), (5, .int (nI (k + 1)))] : List (Nat × Value))) (show ((lvL sm f37 (sumI f37 10).toInt64 k) - (((sm.toInt64 * ((f37 k).toInt64)) / ((sumI f37 10).toInt64)).toInt32) : Int32) = lvL sm f37 (sumI f37 10).toInt64 (k + 1) from rfl)) ((congrArg (fun zq_ : Nat → Int32 => ([oLon X (nI on), kA X 23 60 zq_, kL X 26 10 (vp_updL (lvR sm f37 (sumI f37 10).toInt64 f26 k) k ((sm.toInt64 * ((f37 k).toInt64)) - (sm.toInt64 * ((f37 k).toInt64)) / ((sumI f37 10).toInt64) * ((sumI f37 10).toInt64))), kA X 37 10 f37] : va_W)) (show (upd (lvS sm f37 (sumI f37 10).toInt64 f23 (on * 10) k) (on * 10 + k) (((sm.toInt64 * ((f37 k).toInt64)) / ((sumI f37 10).toInt64)).toInt32) : Nat → Int32) = lvS sm f37 (sumI f37 10).toInt64 f23 (on * 10) (k + 1) from rfl)).trans (congrArg (fun zq_ : Nat → Int64 => ([oLon X (nI on), kA X 23 60 (lvS sm f37 (sumI f37 10).toInt64 f23 (on * 10) (k + 1)), kL X 26 10 zq_, kA X 37 10 f37] : va_W)) (show (vp_updL (lvR sm f37 (sumI f37 10).toInt64 f26 k) k ((sm.toInt64 * ((f37 k).toInt64)) - (sm.toInt64 * ((f37 k).toInt64)) / ((sumI f37 10).toInt64) * ((sumI f37 10).toInt64)) : Nat → Int64) = lvR sm f37 (sumI f37 10).toInt64 f26 (k + 1) from rfl))) rfl ?_
            exact ih_25 (k + 1) (by omega) (by omega)
      refine g_lv (lv2 := [(0, .ref (xa X 9)), (1, .int sm), (2, .ref (xa X 37)), (3, .int (sumI f37 10)), (4, .int sm), (5, .int 0)]) [3, 4, 5, 2, 1, 0] rfl ?_
      refine g_eq (lv2 := [(0, .ref (xa X 9)), (1, .int sm), (2, .ref (xa X 37)), (3, .int (sumI f37 10)), (4, .int (lvL sm f37 (sumI f37 10).toInt64 0)), (5, .int 0)]) (ws2 := [oLon X (nI on), kA X 23 60 (lvS sm f37 (sumI f37 10).toInt64 f23 (on * 10) 0), kL X 26 10 (lvR sm f37 (sumI f37 10).toInt64 f26 0), kA X 37 10 f37]) (st2 := []) (congrArg (fun zq_ : Int32 => ([(0, .ref (xa X 9)), (1, .int sm), (2, .ref (xa X 37)), (3, .int (sumI f37 10)), (4, .int zq_), (5, .int 0)] : List (Nat × Value))) (show (sm : Int32) = lvL sm f37 (sumI f37 10).toInt64 0 from (by first | rfl | omega | (simp [c_6, c_15]; done) | (simp [c_6, c_15]; omega) | (simp [c_6, c_15]; intros; exfalso; omega) | grind []))) ((congrArg (fun zq_ : Nat → Int32 => ([oLon X (nI on), kA X 23 60 zq_, kL X 26 10 f26, kA X 37 10 f37] : va_W)) (show (f23 : Nat → Int32) = lvS sm f37 (sumI f37 10).toInt64 f23 (on * 10) 0 from (by first | rfl | omega | (simp [c_6, c_15]; done) | (simp [c_6, c_15]; omega) | (simp [c_6, c_15]; intros; exfalso; omega) | grind []))).trans (congrArg (fun zq_ : Nat → Int64 => ([oLon X (nI on), kA X 23 60 (lvS sm f37 (sumI f37 10).toInt64 f23 (on * 10) 0), kL X 26 10 zq_, kA X 37 10 f37] : va_W)) (show (f26 : Nat → Int64) = lvR sm f37 (sumI f37 10).toInt64 f26 0 from (by first | rfl | omega | (simp [c_6, c_15]; done) | (simp [c_6, c_15]; omega) | (simp [c_6, c_15]; intros; exfalso; omega) | grind [])))) rfl ?_
      exact lp_25 (10 - 0 + 1) 0 (Nat.zero_le _) (by omega)
    · exact absurd c_15 (by omega)

