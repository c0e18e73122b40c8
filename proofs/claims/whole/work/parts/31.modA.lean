theorem w6 {w : Int32} (h : 0 ≤ w ∧ w ≤ 6) (h0 : ¬ w = 0) (h1 : ¬ w = 1) (h2 : ¬ w = 2) (h3 : ¬ w = 3) (h4 : ¬ w = 4) (h5 : ¬ w = 5) : w = 6 := by
  have a := Int32.le_iff_toInt_le.mp h.1
  have b := Int32.le_iff_toInt_le.mp h.2
  have e0 : (0 : Int32).toInt = 0 := by decide
  have e6 : (6 : Int32).toInt = 6 := by decide
  have q0 : w.toInt ≠ 0 := fun z => h0 (Int32.toInt_inj.mp z)
  have q1 : w.toInt ≠ 1 := fun z => h1 (Int32.toInt_inj.mp z)
  have q2 : w.toInt ≠ 2 := fun z => h2 (Int32.toInt_inj.mp z)
  have q3 : w.toInt ≠ 3 := fun z => h3 (Int32.toInt_inj.mp z)
  have q4 : w.toInt ≠ 4 := fun z => h4 (Int32.toInt_inj.mp z)
  have q5 : w.toInt ≠ 5 := fun z => h5 (Int32.toInt_inj.mp z)
  exact Int32.toInt_inj.mp (by rw [e6]; omega)

set_option maxHeartbeats 1000000 in
set_option maxRecDepth 20000 in
theorem c_X10_isLine (l : Launch) (X : gX) (mtd : Int32) (mtl : Nat) (mln : Nat) (mwn : Nat) (mdn : Nat) (mon : Nat) (mat : Nat) (mfr : Nat) (mlg : Nat) (mfd : Nat) (x : Int32) : KC l yX10_isLine wsX10_isLine ⟨1, 0, 0, 22⟩ [.ref (xa X 46), .int x] X [oMdl X mtd (nI mtl) (nI mln) (nI mwn) (nI mdn) (nI mon) (nI mat) (nI mfr) (nI mlg) (nI mfd)] (some (.int (bz (0 ≤ x ∧ x ≤ nI mln - 1)))) [oMdl X mtd (nI mtl) (nI mln) (nI mwn) (nI mdn) (nI mon) (nI mat) (nI mfr) (nI mlg) (nI mfd)] := by
  have hi_X10 : ∀ w ∈ u_ws RX10 TX10 41, w ∈ wsX10_isLine := fun w h => List.mem_cons_of_mem _ (List.mem_append_right _ h)
  refine KC.of cX10_isLine 2 (some .boolean) RX10 rfl (by decide) rfl (lv := [(0, .ref (xa X 46)), (1, .int x)]) rfl (Nat.le_of_ble_eq_true rfl) ?_
  intro p e s m args below meth c A C hr
  refine g_iload_n (pc' := 1) C dX10_isLine_0 1 rfl rfl rfl ?_
  refine g_iconst (pc' := 2) (v := 0) C dX10_isLine_1 rfl rfl ?_
  refine g_aload_n (pc' := 3) C dX10_isLine_2 0 rfl rfl rfl ?_
  refine g_get (pc' := 6) C hi_X10 0 5 rfl rfl (by decide) (List.mem_of_getElem? (i := 1) rfl) rfl dX10_isLine_3 rfl ?_
  refine g_iconst (pc' := 7) (v := 1) C dX10_isLine_6 rfl rfl ?_
  refine g_isub (pc' := 8) C dX10_isLine_7 rfl ?_
  refine g_callS (pc' := 11) (st := []) (ws2 := [oMdl X mtd (nI mtl) (nI mln) (nI mwn) (nI mdn) (nI mon) (nI mat) (nI mfr) (nI mlg) (nI mfd)]) C [.int x, .int 0, .int ((nI mln) - 1)] 3 rfl (c_X10_isIn l X x 0 ((nI mln) - 1) ) [] [0] [0] gX10_isLine_X10_isIn rfl ⟨rfl, rfl⟩ (by decide +kernel) ⟨by decide, by decide⟩ ⟨by decide, by decide⟩ rfl (wr := [oMdl X mtd (nI mtl) (nI mln) (nI mwn) (nI mdn) (nI mon) (nI mat) (nI mfr) (nI mlg) (nI mfd)]) rfl ⟨by decide, by decide, by decide, by decide⟩ rfl (Nat.le_of_ble_eq_true rfl) dX10_isLine_8 rfl rfl ?_
  by_cases b_8 : 0 ≤ x ∧ x ≤ ((nI mln) - 1)
  · refine g_top (bz_t b_8) ?_
    exact g_zret C hr rfl dX10_isLine_11 (by first | rfl | omega | (simp [bz, b_8]; done) | (simp [bz, b_8]; omega) | (simp [bz, b_8]; intros; exfalso; omega) | grind [bz]) rfl
  · refine g_top (bz_f b_8) ?_
    exact g_zret C hr rfl dX10_isLine_11 (by first | rfl | omega | (simp [bz, b_8]; done) | (simp [bz, b_8]; omega) | (simp [bz, b_8]; intros; exfalso; omega) | grind [bz]) rfl

set_option maxHeartbeats 1000000 in
set_option maxRecDepth 20000 in
theorem c_X10_isLoan (l : Launch) (X : gX) (mtd : Int32) (mtl : Nat) (mln : Nat) (mwn : Nat) (mdn : Nat) (mon : Nat) (mat : Nat) (mfr : Nat) (mlg : Nat) (mfd : Nat) (x : Int32) : KC l yX10_isLoan wsX10_isLoan ⟨1, 0, 0, 22⟩ [.ref (xa X 46), .int x] X [oMdl X mtd (nI mtl) (nI mln) (nI mwn) (nI mdn) (nI mon) (nI mat) (nI mfr) (nI mlg) (nI mfd)] (some (.int (bz (0 ≤ x ∧ x ≤ nI mon - 1)))) [oMdl X mtd (nI mtl) (nI mln) (nI mwn) (nI mdn) (nI mon) (nI mat) (nI mfr) (nI mlg) (nI mfd)] := by
  have hi_X10 : ∀ w ∈ u_ws RX10 TX10 41, w ∈ wsX10_isLoan := fun w h => List.mem_cons_of_mem _ (List.mem_append_right _ h)
  refine KC.of cX10_isLoan 2 (some .boolean) RX10 rfl (by decide) rfl (lv := [(0, .ref (xa X 46)), (1, .int x)]) rfl (Nat.le_of_ble_eq_true rfl) ?_
  intro p e s m args below meth c A C hr
  refine g_iload_n (pc' := 1) C dX10_isLoan_0 1 rfl rfl rfl ?_
  refine g_iconst (pc' := 2) (v := 0) C dX10_isLoan_1 rfl rfl ?_
  refine g_aload_n (pc' := 3) C dX10_isLoan_2 0 rfl rfl rfl ?_
  refine g_get (pc' := 6) C hi_X10 0 25 rfl rfl (by decide) (List.mem_of_getElem? (i := 1) rfl) rfl dX10_isLoan_3 rfl ?_
  refine g_iconst (pc' := 7) (v := 1) C dX10_isLoan_6 rfl rfl ?_
  refine g_isub (pc' := 8) C dX10_isLoan_7 rfl ?_
  refine g_callS (pc' := 11) (st := []) (ws2 := [oMdl X mtd (nI mtl) (nI mln) (nI mwn) (nI mdn) (nI mon) (nI mat) (nI mfr) (nI mlg) (nI mfd)]) C [.int x, .int 0, .int ((nI mon) - 1)] 3 rfl (c_X10_isIn l X x 0 ((nI mon) - 1) ) [] [0] [0] gX10_isLoan_X10_isIn rfl ⟨rfl, rfl⟩ (by decide +kernel) ⟨by decide, by decide⟩ ⟨by decide, by decide⟩ rfl (wr := [oMdl X mtd (nI mtl) (nI mln) (nI mwn) (nI mdn) (nI mon) (nI mat) (nI mfr) (nI mlg) (nI mfd)]) rfl ⟨by decide, by decide, by decide, by decide⟩ rfl (Nat.le_of_ble_eq_true rfl) dX10_isLoan_8 rfl rfl ?_
  by_cases b_8 : 0 ≤ x ∧ x ≤ ((nI mon) - 1)
  · refine g_top (bz_t b_8) ?_
    exact g_zret C hr rfl dX10_isLoan_11 (by first | rfl | omega | (simp [bz, b_8]; done) | (simp [bz, b_8]; omega) | (simp [bz, b_8]; intros; exfalso; omega) | grind [bz]) rfl
  · refine g_top (bz_f b_8) ?_
    exact g_zret C hr rfl dX10_isLoan_11 (by first | rfl | omega | (simp [bz, b_8]; done) | (simp [bz, b_8]; omega) | (simp [bz, b_8]; intros; exfalso; omega) | grind [bz]) rfl

set_option maxHeartbeats 1000000 in
set_option maxRecDepth 20000 in
theorem c_X10_days (l : Launch) (X : gX) (mtd : Int32) (mtl : Nat) (mln : Nat) (mwn : Nat) (mdn : Nat) (mon : Nat) (mat : Nat) (mfr : Nat) (mlg : Nat) (mfd : Nat) (n : Int32) : KC l yX10_days wsX10_days ⟨1, 0, 0, 22⟩ [.ref (xa X 46), .int n] X [oMdl X mtd (nI mtl) (nI mln) (nI mwn) (nI mdn) (nI mon) (nI mat) (nI mfr) (nI mlg) (nI mfd)] (some (.int (dyR mtd n))) [oMdl X (dyN mtd n) (nI mtl) (nI mln) (nI mwn) (nI mdn) (nI mon) (nI mat) (nI mfr) (nI mlg) (nI mfd)] := by
  have hi_X10 : ∀ w ∈ u_ws RX10 TX10 41, w ∈ wsX10_days := fun w h => List.mem_cons_of_mem _ (List.mem_append_right _ h)
  refine KC.of cX10_days 2 (some .int) RX10 rfl (by decide) rfl (lv := [(0, .ref (xa X 46)), (1, .int n)]) rfl (Nat.le_of_ble_eq_true rfl) ?_
  intro p e s m args below meth c A C hr
  refine g_iload_n (pc' := 1) C dX10_days_0 1 rfl rfl rfl ?_
  refine g_iconst (pc' := 2) (v := 0) C dX10_days_1 rfl rfl ?_
  refine g_sipush (pc' := 5) (v := 1000) C dX10_days_2 (by decide) rfl ?_
  refine g_callS (pc' := 8) (st := []) (ws2 := [oMdl X mtd (nI mtl) (nI mln) (nI mwn) (nI mdn) (nI mon) (nI mat) (nI mfr) (nI mlg) (nI mfd)]) C [.int n, .int 0, .int 1000] 3 rfl (c_X10_isIn l X n 0 1000 ) [] [0] [0] gX10_days_X10_isIn rfl ⟨rfl, rfl⟩ (by decide +kernel) ⟨by decide, by decide⟩ ⟨by decide, by decide⟩ rfl (wr := [oMdl X mtd (nI mtl) (nI mln) (nI mwn) (nI mdn) (nI mon) (nI mat) (nI mfr) (nI mlg) (nI mfd)]) rfl ⟨by decide, by decide, by decide, by decide⟩ rfl (Nat.le_of_ble_eq_true rfl) dX10_days_5 rfl rfl ?_
  by_cases b_5 : 0 ≤ n ∧ n ≤ 1000
  · refine g_top (bz_t b_5) ?_
    refine g_if_eq (pc' := 11) (tgt := 22) C dX10_days_8 (by decide) rfl (fun h => absurd h (by decide)) (fun _ => ?_)
    refine g_aload_n (pc' := 12) C dX10_days_11 0 rfl rfl rfl ?_
    refine g_get (pc' := 15) C hi_X10 0 0 rfl rfl (by decide) (List.mem_of_getElem? (i := 1) rfl) rfl dX10_days_12 rfl ?_
    refine g_iload_n (pc' := 16) C dX10_days_15 1 rfl rfl rfl ?_
    refine g_iadd (pc' := 17) C dX10_days_16 rfl ?_
    refine g_ldc (pc' := 19) (v := 100000) C (List.mem_of_getElem? (i := 2) rfl) dX10_days_17 rfl ?_
    refine g_icmp_le (pc' := 22) (tgt := 25) C dX10_days_19 (by decide) rfl (fun c_19 => ?_) (fun c_19 => ?_)
    · refine g_aload_n (pc' := 26) C dX10_days_25 0 rfl rfl rfl ?_
      refine g_dup (pc' := 27) C dX10_days_26 rfl rfl ?_
      refine g_get (pc' := 30) C hi_X10 0 0 rfl rfl (by decide) (List.mem_of_getElem? (i := 1) rfl) rfl dX10_days_27 rfl ?_
      refine g_iload_n (pc' := 31) C dX10_days_30 1 rfl rfl rfl ?_
      refine g_iadd (pc' := 32) C dX10_days_31 rfl ?_
      refine g_put (pc' := 35) (ws2 := [oMdl X (mtd + n) (nI mtl) (nI mln) (nI mwn) (nI mdn) (nI mon) (nI mat) (nI mfr) (nI mlg) (nI mfd)]) C hi_X10 tyX10 tyX10_ok nmX10 0 0 rfl rfl (by decide) (Nat.le_of_ble_eq_true rfl) rfl rfl (List.mem_of_getElem? (i := 1) rfl) dX10_days_32 rfl rfl ?_
      refine g_aload_n (pc' := 36) C dX10_days_35 0 rfl rfl rfl ?_
      refine g_get (pc' := 39) C hi_X10 0 0 rfl rfl (by decide) (List.mem_of_getElem? (i := 1) rfl) rfl dX10_days_36 rfl ?_
      exact g_iret C hr dX10_days_39 (by first | rfl | omega | (simp [dyR, dyN, dyV, inR, b_5, c_19]; done) | (simp [dyR, dyN, dyV, inR, b_5, c_19]; omega) | (simp [dyR, dyN, dyV, inR, b_5, c_19]; intros; exfalso; omega) | grind [dyR, dyN]) (congrArg (fun zq_ : Int32 => ([oMdl X zq_ (nI mtl) (nI mln) (nI mwn) (nI mdn) (nI mon) (nI mat) (nI mfr) (nI mlg) (nI mfd)] : va_W)) (show (mtd + n : Int32) = dyN mtd n from (by first | rfl | omega | (simp [dyR, dyN, dyV, inR, b_5, c_19]; done) | (simp [dyR, dyN, dyV, inR, b_5, c_19]; omega) | (simp [dyR, dyN, dyV, inR, b_5, c_19]; intros; exfalso; omega) | grind [dyR, dyN])))
    · refine g_ldc (pc' := 24) (v := (-1000000001)) C (List.mem_of_getElem? (i := 3) rfl) dX10_days_22 rfl ?_
      exact g_iret C hr dX10_days_24 (by first | rfl | omega | (simp [dyR, dyN, dyV, inR, b_5, c_19]; done) | (simp [dyR, dyN, dyV, inR, b_5, c_19]; omega) | (simp [dyR, dyN, dyV, inR, b_5, c_19]; intros; exfalso; omega) | grind [dyR, dyN]) (congrArg (fun zq_ : Int32 => ([oMdl X zq_ (nI mtl) (nI mln) (nI mwn) (nI mdn) (nI mon) (nI mat) (nI mfr) (nI mlg) (nI mfd)] : va_W)) (show (mtd : Int32) = dyN mtd n from (by first | rfl | omega | (simp [dyR, dyN, dyV, inR, b_5, c_19]; done) | (simp [dyR, dyN, dyV, inR, b_5, c_19]; omega) | (simp [dyR, dyN, dyV, inR, b_5, c_19]; intros; exfalso; omega) | grind [dyR, dyN])))
  · refine g_top (bz_f b_5) ?_
    refine g_if_eq (pc' := 11) (tgt := 22) C dX10_days_8 (by decide) rfl (fun _ => ?_) (fun h => absurd h (by decide))
    refine g_ldc (pc' := 24) (v := (-1000000001)) C (List.mem_of_getElem? (i := 3) rfl) dX10_days_22 rfl ?_
    exact g_iret C hr dX10_days_24 (by first | rfl | omega | (simp [dyR, dyN, dyV, inR, b_5]; done) | (simp [dyR, dyN, dyV, inR, b_5]; omega) | (simp [dyR, dyN, dyV, inR, b_5]; intros; exfalso; omega) | grind [dyR, dyN]) (congrArg (fun zq_ : Int32 => ([oMdl X zq_ (nI mtl) (nI mln) (nI mwn) (nI mdn) (nI mon) (nI mat) (nI mfr) (nI mlg) (nI mfd)] : va_W)) (show (mtd : Int32) = dyN mtd n from (by first | rfl | omega | (simp [dyR, dyN, dyV, inR, b_5]; done) | (simp [dyR, dyN, dyV, inR, b_5]; omega) | (simp [dyR, dyN, dyV, inR, b_5]; intros; exfalso; omega) | grind [dyR, dyN])))

set_option maxHeartbeats 1000000 in
set_option maxRecDepth 20000 in
theorem c_X10_measure (l : Launch) (X : gX) (mtd : Int32) (mtl : Nat) (mln : Nat) (mwn : Nat) (mdn : Nat) (mon : Nat) (mat : Nat) (mfr : Nat) (mlg : Nat) (mfd : Nat) (f47 : Nat → Int32) (f48 : Nat → Int32) (pp : Int32) (a : Int32) (k : Int32) : KC l yX10_measure wsX10_measure ⟨1, 0, 0, 22⟩ [.ref (xa X 46), .int pp, .int a, .int k] X [oMdl X mtd (nI mtl) (nI mln) (nI mwn) (nI mdn) (nI mon) (nI mat) (nI mfr) (nI mlg) (nI mfd), kA X 47 12 f47, kA X 48 12 f48] (some (.int (msR f47 pp a k))) [oMdl X mtd (nI mtl) (nI mln) (nI mwn) (nI mdn) (nI mon) (nI mat) (nI mfr) (nI mlg) (nI mfd), kA X 47 12 (msA f47 pp a k), kA X 48 12 (msC f48 pp a k)] := by
  have hi_X10 : ∀ w ∈ u_ws RX10 TX10 41, w ∈ wsX10_measure := fun w h => List.mem_cons_of_mem _ (List.mem_append_right _ h)
  refine KC.of cX10_measure 5 (some .int) RX10 rfl (by decide) rfl (lv := [(0, .ref (xa X 46)), (1, .int pp), (2, .int a), (3, .int k)]) rfl (Nat.le_of_ble_eq_true rfl) ?_
  intro p e s m args below meth c A C hr
  refine g_iload_n (pc' := 1) C dX10_measure_0 1 rfl rfl rfl ?_
  refine g_iconst (pc' := 2) (v := 0) C dX10_measure_1 rfl rfl ?_
  refine g_bipush (pc' := 4) (v := 11) C dX10_measure_2 (by decide) rfl ?_
  refine g_callS (pc' := 7) (st := []) (ws2 := [oMdl X mtd (nI mtl) (nI mln) (nI mwn) (nI mdn) (nI mon) (nI mat) (nI mfr) (nI mlg) (nI mfd), kA X 47 12 f47, kA X 48 12 f48]) C [.int pp, .int 0, .int 11] 3 rfl (c_X10_isIn l X pp 0 11 ) [] [0, 1, 2] [0, 1, 2] gX10_measure_X10_isIn rfl ⟨rfl, rfl⟩ (by decide +kernel) ⟨by decide, by decide⟩ ⟨by decide, by decide⟩ rfl (wr := [oMdl X mtd (nI mtl) (nI mln) (nI mwn) (nI mdn) (nI mon) (nI mat) (nI mfr) (nI mlg) (nI mfd), kA X 47 12 f47, kA X 48 12 f48]) rfl ⟨by decide, by decide, by decide, by decide⟩ rfl (Nat.le_of_ble_eq_true rfl) dX10_measure_4 rfl rfl ?_
  by_cases b_4 : 0 ≤ pp ∧ pp ≤ 11
  · refine g_top (bz_t b_4) ?_
    refine g_if_eq (pc' := 10) (tgt := 30) C dX10_measure_7 (by decide) rfl (fun h => absurd h (by decide)) (fun _ => ?_)
    refine g_iload_n (pc' := 11) C dX10_measure_10 2 rfl rfl rfl ?_
    refine g_iconst (pc' := 12) (v := 1) C dX10_measure_11 rfl rfl ?_
    refine g_sipush (pc' := 15) (v := 2000) C dX10_measure_12 (by decide) rfl ?_
    refine g_callS (pc' := 18) (st := []) (ws2 := [oMdl X mtd (nI mtl) (nI mln) (nI mwn) (nI mdn) (nI mon) (nI mat) (nI mfr) (nI mlg) (nI mfd), kA X 47 12 f47, kA X 48 12 f48]) C [.int a, .int 1, .int 2000] 3 rfl (c_X10_isIn l X a 1 2000 ) [] [0, 1, 2] [0, 1, 2] gX10_measure_X10_isIn rfl ⟨rfl, rfl⟩ (by decide +kernel) ⟨by decide, by decide⟩ ⟨by decide, by decide⟩ rfl (wr := [oMdl X mtd (nI mtl) (nI mln) (nI mwn) (nI mdn) (nI mon) (nI mat) (nI mfr) (nI mlg) (nI mfd), kA X 47 12 f47, kA X 48 12 f48]) rfl ⟨by decide, by decide, by decide, by decide⟩ rfl (Nat.le_of_ble_eq_true rfl) dX10_measure_15 rfl rfl ?_
    by_cases b_15 : 1 ≤ a ∧ a ≤ 2000
    · refine g_top (bz_t b_15) ?_
      refine g_if_eq (pc' := 21) (tgt := 30) C dX10_measure_18 (by decide) rfl (fun h => absurd h (by decide)) (fun _ => ?_)
      refine g_iload_n (pc' := 22) C dX10_measure_21 3 rfl rfl rfl ?_
      refine g_iconst (pc' := 23) (v := 0) C dX10_measure_22 rfl rfl ?_
      refine g_iconst (pc' := 24) (v := 2) C dX10_measure_23 rfl rfl ?_
      refine g_callS (pc' := 27) (st := []) (ws2 := [oMdl X mtd (nI mtl) (nI mln) (nI mwn) (nI mdn) (nI mon) (nI mat) (nI mfr) (nI mlg) (nI mfd), kA X 47 12 f47, kA X 48 12 f48]) C [.int k, .int 0, .int 2] 3 rfl (c_X10_isIn l X k 0 2 ) [] [0, 1, 2] [0, 1, 2] gX10_measure_X10_isIn rfl ⟨rfl, rfl⟩ (by decide +kernel) ⟨by decide, by decide⟩ ⟨by decide, by decide⟩ rfl (wr := [oMdl X mtd (nI mtl) (nI mln) (nI mwn) (nI mdn) (nI mon) (nI mat) (nI mfr) (nI mlg) (nI mfd), kA X 47 12 f47, kA X 48 12 f48]) rfl ⟨by decide, by decide, by decide, by decide⟩ rfl (Nat.le_of_ble_eq_true rfl) dX10_measure_24 rfl rfl ?_
      by_cases b_24 : 0 ≤ k ∧ k ≤ 2
      · refine g_top (bz_t b_24) ?_
        refine g_if_ne (pc' := 30) (tgt := 33) C dX10_measure_27 (by decide) rfl (fun _ => ?_) (fun h => absurd h (by decide))
        refine g_aload_n (pc' := 34) C dX10_measure_33 0 rfl rfl rfl ?_
        have ok0 := okN_le (m := 11) b_4.1 b_4.2 (by decide) (by decide)
        refine g_get (pc' := 37) C hi_X10 0 1 rfl rfl (by decide) (List.mem_of_getElem? (i := 2) rfl) rfl dX10_measure_34 rfl ?_
        refine g_iload_n (pc' := 38) C dX10_measure_37 1 rfl rfl rfl ?_
        refine g_iald (pc' := 39) C 1 (cN pp) rfl ok0.1 ok0.2 (by decide) dX10_measure_38 rfl ?_
        refine g_istore (pc' := 41) (lv' := [(4, .int (f47 (cN pp))), (0, .ref (xa X 46)), (1, .int pp), (2, .int a), (3, .int k)]) C dX10_measure_39 (by decide) rfl rfl ?_
        refine g_aload_n (pc' := 42) C dX10_measure_41 1 rfl rfl rfl ?_
        refine g_get (pc' := 45) C hi_X10 0 1 rfl rfl (by decide) (List.mem_of_getElem? (i := 2) rfl) rfl dX10_measure_42 rfl ?_
        refine g_iload_n (pc' := 46) C dX10_measure_45 2 rfl rfl rfl ?_
        refine g_iload_n (pc' := 47) C dX10_measure_46 3 rfl rfl rfl ?_
        refine g_iast (pc' := 48) (ws2 := [oMdl X mtd (nI mtl) (nI mln) (nI mwn) (nI mdn) (nI mon) (nI mat) (nI mfr) (nI mlg) (nI mfd), kA X 47 12 (upd f47 (cN pp) a), kA X 48 12 f48]) C 1 (cN pp) rfl ok0.1 ok0.2 (by decide) dX10_measure_47 rfl rfl ?_
        refine g_aload_n (pc' := 49) C dX10_measure_48 1 rfl rfl rfl ?_
        refine g_get (pc' := 52) C hi_X10 0 2 rfl rfl (by decide) (List.mem_of_getElem? (i := 3) rfl) rfl dX10_measure_49 rfl ?_
        refine g_iload_n (pc' := 53) C dX10_measure_52 2 rfl rfl rfl ?_
        refine g_iload_n (pc' := 54) C dX10_measure_53 4 rfl rfl rfl ?_
        refine g_iast (pc' := 55) (ws2 := [oMdl X mtd (nI mtl) (nI mln) (nI mwn) (nI mdn) (nI mon) (nI mat) (nI mfr) (nI mlg) (nI mfd), kA X 47 12 (upd f47 (cN pp) a), kA X 48 12 (upd f48 (cN pp) k)]) C 2 (cN pp) rfl ok0.1 ok0.2 (by decide) dX10_measure_54 rfl rfl ?_
        refine g_iload (pc' := 57) C dX10_measure_55 0 rfl rfl ?_
        exact g_iret C hr dX10_measure_57 (by first | rfl | omega | (simp [msR, msA, msC, msV, inR, b_4, b_15, b_24]; done) | (simp [msR, msA, msC, msV, inR, b_4, b_15, b_24]; omega) | (simp [msR, msA, msC, msV, inR, b_4, b_15, b_24]; intros; exfalso; omega) | grind [msR, msA, msC]) ((congrArg (fun zq_ : Nat → Int32 => ([oMdl X mtd (nI mtl) (nI mln) (nI mwn) (nI mdn) (nI mon) (nI mat) (nI mfr) (nI mlg) (nI mfd), kA X 47 12 zq_, kA X 48 12 (upd f48 (cN pp) k)] : va_W)) (show (upd f47 (cN pp) a : Nat → Int32) = msA f47 pp a k from (by first | rfl | omega | (simp [msR, msA, msC, msV, inR, b_4, b_15, b_24]; done) | (simp [msR, msA, msC, msV, inR, b_4, b_15, b_24]; omega) | (simp [msR, msA, msC, msV, inR, b_4, b_15, b_24]; intros; exfalso; omega) | grind [msR, msA, msC]))).trans (congrArg (fun zq_ : Nat → Int32 => ([oMdl X mtd (nI mtl) (nI mln) (nI mwn) (nI mdn) (nI mon) (nI mat) (nI mfr) (nI mlg) (nI mfd), kA X 47 12 (msA f47 pp a k), kA X 48 12 zq_] : va_W)) (show (upd f48 (cN pp) k : Nat → Int32) = msC f48 pp a k from (by first | rfl | omega | (simp [msR, msA, msC, msV, inR, b_4, b_15, b_24]; done) | (simp [msR, msA, msC, msV, inR, b_4, b_15, b_24]; omega) | (simp [msR, msA, msC, msV, inR, b_4, b_15, b_24]; intros; exfalso; omega) | grind [msR, msA, msC]))))
      · refine g_top (bz_f b_24) ?_
        refine g_if_ne (pc' := 30) (tgt := 33) C dX10_measure_27 (by decide) rfl (fun h => absurd h (by decide)) (fun _ => ?_)
        refine g_ldc (pc' := 32) (v := (-1000000001)) C (List.mem_of_getElem? (i := 1) rfl) dX10_measure_30 rfl ?_
        exact g_iret C hr dX10_measure_32 (by first | rfl | omega | (simp [msR, msA, msC, msV, inR, b_4, b_15, b_24]; done) | (simp [msR, msA, msC, msV, inR, b_4, b_15, b_24]; omega) | (simp [msR, msA, msC, msV, inR, b_4, b_15, b_24]; intros; exfalso; omega) | grind [msR, msA, msC]) ((congrArg (fun zq_ : Nat → Int32 => ([oMdl X mtd (nI mtl) (nI mln) (nI mwn) (nI mdn) (nI mon) (nI mat) (nI mfr) (nI mlg) (nI mfd), kA X 47 12 zq_, kA X 48 12 f48] : va_W)) (show (f47 : Nat → Int32) = msA f47 pp a k from (by first | rfl | omega | (simp [msR, msA, msC, msV, inR, b_4, b_15, b_24]; done) | (simp [msR, msA, msC, msV, inR, b_4, b_15, b_24]; omega) | (simp [msR, msA, msC, msV, inR, b_4, b_15, b_24]; intros; exfalso; omega) | grind [msR, msA, msC]))).trans (congrArg (fun zq_ : Nat → Int32 => ([oMdl X mtd (nI mtl) (nI mln) (nI mwn) (nI mdn) (nI mon) (nI mat) (nI mfr) (nI mlg) (nI mfd), kA X 47 12 (msA f47 pp a k), kA X 48 12 zq_] : va_W)) (show (f48 : Nat → Int32) = msC f48 pp a k from (by first | rfl | omega | (simp [msR, msA, msC, msV, inR, b_4, b_15, b_24]; done) | (simp [msR, msA, msC, msV, inR, b_4, b_15, b_24]; omega) | (simp [msR, msA, msC, msV, inR, b_4, b_15, b_24]; intros; exfalso; omega) | grind [msR, msA, msC]))))
    · refine g_top (bz_f b_15) ?_
      refine g_if_eq (pc' := 21) (tgt := 30) C dX10_measure_18 (by decide) rfl (fun _ => ?_) (fun h => absurd h (by decide))
      refine g_ldc (pc' := 32) (v := (-1000000001)) C (List.mem_of_getElem? (i := 1) rfl) dX10_measure_30 rfl ?_
      exact g_iret C hr dX10_measure_32 (by first | rfl | omega | (simp [msR, msA, msC, msV, inR, b_4, b_15]; done) | (simp [msR, msA, msC, msV, inR, b_4, b_15]; omega) | (simp [msR, msA, msC, msV, inR, b_4, b_15]; intros; exfalso; omega) | grind [msR, msA, msC]) ((congrArg (fun zq_ : Nat → Int32 => ([oMdl X mtd (nI mtl) (nI mln) (nI mwn) (nI mdn) (nI mon) (nI mat) (nI mfr) (nI mlg) (nI mfd), kA X 47 12 zq_, kA X 48 12 f48] : va_W)) (show (f47 : Nat → Int32) = msA f47 pp a k from (by first | rfl | omega | (simp [msR, msA, msC, msV, inR, b_4, b_15]; done) | (simp [msR, msA, msC, msV, inR, b_4, b_15]; omega) | (simp [msR, msA, msC, msV, inR, b_4, b_15]; intros; exfalso; omega) | grind [msR, msA, msC]))).trans (congrArg (fun zq_ : Nat → Int32 => ([oMdl X mtd (nI mtl) (nI mln) (nI mwn) (nI mdn) (nI mon) (nI mat) (nI mfr) (nI mlg) (nI mfd), kA X 47 12 (msA f47 pp a k), kA X 48 12 zq_] : va_W)) (show (f48 : Nat → Int32) = msC f48 pp a k from (by first | rfl | omega | (simp [msR, msA, msC, msV, inR, b_4, b_15]; done) | (simp [msR, msA, msC, msV, inR, b_4, b_15]; omega) | (simp [msR, msA, msC, msV, inR, b_4, b_15]; intros; exfalso; omega) | grind [msR, msA, msC]))))
  · refine g_top (bz_f b_4) ?_
    refine g_if_eq (pc' := 10) (tgt := 30) C dX10_measure_7 (by decide) rfl (fun _ => ?_) (fun h => absurd h (by decide))
    refine g_ldc (pc' := 32) (v := (-1000000001)) C (List.mem_of_getElem? (i := 1) rfl) dX10_measure_30 rfl ?_
    exact g_iret C hr dX10_measure_32 (by first | rfl | omega | (simp [msR, msA, msC, msV, inR, b_4]; done) | (simp [msR, msA, msC, msV, inR, b_4]; omega) | (simp [msR, msA, msC, msV, inR, b_4]; intros; exfalso; omega) | grind [msR, msA, msC]) ((congrArg (fun zq_ : Nat → Int32 => ([oMdl X mtd (nI mtl) (nI mln) (nI mwn) (nI mdn) (nI mon) (nI mat) (nI mfr) (nI mlg) (nI mfd), kA X 47 12 zq_, kA X 48 12 f48] : va_W)) (show (f47 : Nat → Int32) = msA f47 pp a k from (by first | rfl | omega | (simp [msR, msA, msC, msV, inR, b_4]; done) | (simp [msR, msA, msC, msV, inR, b_4]; omega) | (simp [msR, msA, msC, msV, inR, b_4]; intros; exfalso; omega) | grind [msR, msA, msC]))).trans (congrArg (fun zq_ : Nat → Int32 => ([oMdl X mtd (nI mtl) (nI mln) (nI mwn) (nI mdn) (nI mon) (nI mat) (nI mfr) (nI mlg) (nI mfd), kA X 47 12 (msA f47 pp a k), kA X 48 12 zq_] : va_W)) (show (f48 : Nat → Int32) = msC f48 pp a k from (by first | rfl | omega | (simp [msR, msA, msC, msV, inR, b_4]; done) | (simp [msR, msA, msC, msV, inR, b_4]; omega) | (simp [msR, msA, msC, msV, inR, b_4]; intros; exfalso; omega) | grind [msR, msA, msC]))))

set_option maxHeartbeats 1000000 in
set_option maxRecDepth 20000 in
theorem c_X10_four (l : Launch) (X : gX) (mtd : Int32) (mtl : Nat) (mln : Nat) (mwn : Nat) (mdn : Nat) (mon : Nat) (mat : Nat) (mfr : Nat) (mlg : Nat) (mfd : Nat) (f49 : Nat → Int32) (v : Int32) (ht : mtl + 4 ≤ 60) : KC l yX10_four wsX10_four ⟨0, 0, 0, 0⟩ [.ref (xa X 46), .int v] X [oMdl X mtd (nI mtl) (nI mln) (nI mwn) (nI mdn) (nI mon) (nI mat) (nI mfr) (nI mlg) (nI mfd), kA X 49 60 f49] none [oMdl X mtd (nI (mtl + 4)) (nI mln) (nI mwn) (nI mdn) (nI mon) (nI mat) (nI mfr) (nI mlg) (nI mfd), kA X 49 60 (ap4 f49 mtl v)] := by
  have hi_X10 : ∀ w ∈ u_ws RX10 TX10 41, w ∈ wsX10_four := fun w h => List.mem_cons_of_mem _ (List.mem_append_right _ h)
  refine KC.of cX10_four 3 none RX10 rfl (by decide) rfl (lv := [(0, .ref (xa X 46)), (1, .int v)]) rfl (Nat.le_of_ble_eq_true rfl) ?_
  intro p e s m args below meth c A C hr
  refine g_bipush (pc' := 2) (v := 24) C dX10_four_0 (by decide) rfl ?_
  refine g_istore_n (pc' := 3) (lv' := [(2, .int 24), (0, .ref (xa X 46)), (1, .int v)]) C dX10_four_2 rfl (by decide) rfl rfl ?_
  refine g_iload_n (pc' := 4) C dX10_four_3 0 rfl rfl rfl ?_
  refine g_if_lt (pc' := 7) (tgt := 39) C dX10_four_4 (by decide) rfl (fun h => absurd h (by decide)) (fun _ => ?_)
  refine g_aload_n (pc' := 8) C dX10_four_7 1 rfl rfl rfl ?_
  refine g_get (pc' := 11) C hi_X10 0 3 rfl rfl (by decide) (List.mem_of_getElem? (i := 1) rfl) rfl dX10_four_8 rfl ?_
  refine g_aload_n (pc' := 12) C dX10_four_11 1 rfl rfl rfl ?_
  refine g_get (pc' := 15) C hi_X10 0 4 rfl rfl (by decide) (List.mem_of_getElem? (i := 2) rfl) rfl dX10_four_12 rfl ?_
  refine g_iload_n (pc' := 16) C dX10_four_15 2 rfl rfl rfl ?_
  refine g_iload_n (pc' := 17) C dX10_four_16 0 rfl rfl rfl ?_
  refine g_ishr (pc' := 18) (v := jshr v 24) C dX10_four_17 rfl rfl ?_
  refine g_sipush (pc' := 21) (v := 255) C dX10_four_18 (by decide) rfl ?_
  refine g_iand (pc' := 22) C dX10_four_21 rfl ?_
  refine g_iast (pc' := 23) (ws2 := [oMdl X mtd (nI mtl) (nI mln) (nI mwn) (nI mdn) (nI mon) (nI mat) (nI mfr) (nI mlg) (nI mfd), kA X 49 60 (upd f49 mtl ((jshr v 24) &&& 255))]) C 1 mtl rfl rfl (by omega) (by decide) dX10_four_22 rfl rfl ?_
  refine g_aload_n (pc' := 24) C dX10_four_23 1 rfl rfl rfl ?_
  refine g_dup (pc' := 25) C dX10_four_24 rfl rfl ?_
  refine g_get (pc' := 28) C hi_X10 0 4 rfl rfl (by decide) (List.mem_of_getElem? (i := 2) rfl) rfl dX10_four_25 rfl ?_
  refine g_iconst (pc' := 29) (v := 1) C dX10_four_28 rfl rfl ?_
  refine g_iaddV (pc' := 30) (v := nI (mtl + 1)) C dX10_four_29 (by first | exact (nI_add _ _) | rfl) rfl ?_
  refine g_put (pc' := 33) (ws2 := [oMdl X mtd (nI (mtl + 1)) (nI mln) (nI mwn) (nI mdn) (nI mon) (nI mat) (nI mfr) (nI mlg) (nI mfd), kA X 49 60 (upd f49 mtl ((jshr v 24) &&& 255))]) C hi_X10 tyX10 tyX10_ok nmX10 0 4 rfl rfl (by decide) (Nat.le_of_ble_eq_true rfl) rfl rfl (List.mem_of_getElem? (i := 2) rfl) dX10_four_30 rfl rfl ?_
  refine g_iinc (pc' := 36) (v := 16) (lv' := [(2, .int 16), (0, .ref (xa X 46)), (1, .int v)]) C dX10_four_33 0 rfl (by decide) (by decide) rfl rfl ?_
  refine g_goto (tgt := 3) C dX10_four_36 (by decide) ?_
  refine g_iload_n (pc' := 4) C dX10_four_3 0 rfl rfl rfl ?_
  refine g_if_lt (pc' := 7) (tgt := 39) C dX10_four_4 (by decide) rfl (fun h => absurd h (by decide)) (fun _ => ?_)
  refine g_aload_n (pc' := 8) C dX10_four_7 1 rfl rfl rfl ?_
  refine g_get (pc' := 11) C hi_X10 0 3 rfl rfl (by decide) (List.mem_of_getElem? (i := 1) rfl) rfl dX10_four_8 rfl ?_
  refine g_aload_n (pc' := 12) C dX10_four_11 1 rfl rfl rfl ?_
  refine g_get (pc' := 15) C hi_X10 0 4 rfl rfl (by decide) (List.mem_of_getElem? (i := 2) rfl) rfl dX10_four_12 rfl ?_
  refine g_iload_n (pc' := 16) C dX10_four_15 2 rfl rfl rfl ?_
  refine g_iload_n (pc' := 17) C dX10_four_16 0 rfl rfl rfl ?_
  refine g_ishr (pc' := 18) (v := jshr v 16) C dX10_four_17 rfl rfl ?_
  refine g_sipush (pc' := 21) (v := 255) C dX10_four_18 (by decide) rfl ?_
  refine g_iand (pc' := 22) C dX10_four_21 rfl ?_
  refine g_iast (pc' := 23) (ws2 := [oMdl X mtd (nI (mtl + 1)) (nI mln) (nI mwn) (nI mdn) (nI mon) (nI mat) (nI mfr) (nI mlg) (nI mfd), kA X 49 60 (upd (upd f49 mtl ((jshr v 24) &&& 255)) (mtl + 1) ((jshr v 16) &&& 255))]) C 1 (mtl + 1) rfl rfl (by omega) (by decide) dX10_four_22 rfl rfl ?_
  refine g_aload_n (pc' := 24) C dX10_four_23 1 rfl rfl rfl ?_
  refine g_dup (pc' := 25) C dX10_four_24 rfl rfl ?_
  refine g_get (pc' := 28) C hi_X10 0 4 rfl rfl (by decide) (List.mem_of_getElem? (i := 2) rfl) rfl dX10_four_25 rfl ?_
  refine g_iconst (pc' := 29) (v := 1) C dX10_four_28 rfl rfl ?_
  refine g_iaddV (pc' := 30) (v := nI (mtl + 2)) C dX10_four_29 (by first | exact (nI_add _ _) | rfl) rfl ?_
  refine g_put (pc' := 33) (ws2 := [oMdl X mtd (nI (mtl + 2)) (nI mln) (nI mwn) (nI mdn) (nI mon) (nI mat) (nI mfr) (nI mlg) (nI mfd), kA X 49 60 (upd (upd f49 mtl ((jshr v 24) &&& 255)) (mtl + 1) ((jshr v 16) &&& 255))]) C hi_X10 tyX10 tyX10_ok nmX10 0 4 rfl rfl (by decide) (Nat.le_of_ble_eq_true rfl) rfl rfl (List.mem_of_getElem? (i := 2) rfl) dX10_four_30 rfl rfl ?_
  refine g_iinc (pc' := 36) (v := 8) (lv' := [(2, .int 8), (0, .ref (xa X 46)), (1, .int v)]) C dX10_four_33 0 rfl (by decide) (by decide) rfl rfl ?_
  refine g_goto (tgt := 3) C dX10_four_36 (by decide) ?_
  refine g_iload_n (pc' := 4) C dX10_four_3 0 rfl rfl rfl ?_
  refine g_if_lt (pc' := 7) (tgt := 39) C dX10_four_4 (by decide) rfl (fun h => absurd h (by decide)) (fun _ => ?_)
  refine g_aload_n (pc' := 8) C dX10_four_7 1 rfl rfl rfl ?_
  refine g_get (pc' := 11) C hi_X10 0 3 rfl rfl (by decide) (List.mem_of_getElem? (i := 1) rfl) rfl dX10_four_8 rfl ?_
  refine g_aload_n (pc' := 12) C dX10_four_11 1 rfl rfl rfl ?_
  refine g_get (pc' := 15) C hi_X10 0 4 rfl rfl (by decide) (List.mem_of_getElem? (i := 2) rfl) rfl dX10_four_12 rfl ?_
  refine g_iload_n (pc' := 16) C dX10_four_15 2 rfl rfl rfl ?_
  refine g_iload_n (pc' := 17) C dX10_four_16 0 rfl rfl rfl ?_
  refine g_ishr (pc' := 18) (v := jshr v 8) C dX10_four_17 rfl rfl ?_
  refine g_sipush (pc' := 21) (v := 255) C dX10_four_18 (by decide) rfl ?_
  refine g_iand (pc' := 22) C dX10_four_21 rfl ?_
  refine g_iast (pc' := 23) (ws2 := [oMdl X mtd (nI (mtl + 2)) (nI mln) (nI mwn) (nI mdn) (nI mon) (nI mat) (nI mfr) (nI mlg) (nI mfd), kA X 49 60 (upd (upd (upd f49 mtl ((jshr v 24) &&& 255)) (mtl + 1) ((jshr v 16) &&& 255)) (mtl + 2) ((jshr v 8) &&& 255))]) C 1 (mtl + 2) rfl rfl (by omega) (by decide) dX10_four_22 rfl rfl ?_
  refine g_aload_n (pc' := 24) C dX10_four_23 1 rfl rfl rfl ?_
  refine g_dup (pc' := 25) C dX10_four_24 rfl rfl ?_
  refine g_get (pc' := 28) C hi_X10 0 4 rfl rfl (by decide) (List.mem_of_getElem? (i := 2) rfl) rfl dX10_four_25 rfl ?_
  refine g_iconst (pc' := 29) (v := 1) C dX10_four_28 rfl rfl ?_
  refine g_iaddV (pc' := 30) (v := nI (mtl + 3)) C dX10_four_29 (by first | exact (nI_add _ _) | rfl) rfl ?_
  refine g_put (pc' := 33) (ws2 := [oMdl X mtd (nI (mtl + 3)) (nI mln) (nI mwn) (nI mdn) (nI mon) (nI mat) (nI mfr) (nI mlg) (nI mfd), kA X 49 60 (upd (upd (upd f49 mtl ((jshr v 24) &&& 255)) (mtl + 1) ((jshr v 16) &&& 255)) (mtl + 2) ((jshr v 8) &&& 255))]) C hi_X10 tyX10 tyX10_ok nmX10 0 4 rfl rfl (by decide) (Nat.le_of_ble_eq_true rfl) rfl rfl (List.mem_of_getElem? (i := 2) rfl) dX10_four_30 rfl rfl ?_
  refine g_iinc (pc' := 36) (v := 0) (lv' := [(2, .int 0), (0, .ref (xa X 46)), (1, .int v)]) C dX10_four_33 0 rfl (by decide) (by decide) rfl rfl ?_
  refine g_goto (tgt := 3) C dX10_four_36 (by decide) ?_
  refine g_iload_n (pc' := 4) C dX10_four_3 0 rfl rfl rfl ?_
  refine g_if_lt (pc' := 7) (tgt := 39) C dX10_four_4 (by decide) rfl (fun h => absurd h (by decide)) (fun _ => ?_)
  refine g_aload_n (pc' := 8) C dX10_four_7 1 rfl rfl rfl ?_
  refine g_get (pc' := 11) C hi_X10 0 3 rfl rfl (by decide) (List.mem_of_getElem? (i := 1) rfl) rfl dX10_four_8 rfl ?_
  refine g_aload_n (pc' := 12) C dX10_four_11 1 rfl rfl rfl ?_
  refine g_get (pc' := 15) C hi_X10 0 4 rfl rfl (by decide) (List.mem_of_getElem? (i := 2) rfl) rfl dX10_four_12 rfl ?_
  refine g_iload_n (pc' := 16) C dX10_four_15 2 rfl rfl rfl ?_
  refine g_iload_n (pc' := 17) C dX10_four_16 0 rfl rfl rfl ?_
  refine g_ishr (pc' := 18) (v := jshr v 0) C dX10_four_17 rfl rfl ?_
  refine g_sipush (pc' := 21) (v := 255) C dX10_four_18 (by decide) rfl ?_
  refine g_iand (pc' := 22) C dX10_four_21 rfl ?_
  refine g_iast (pc' := 23) (ws2 := [oMdl X mtd (nI (mtl + 3)) (nI mln) (nI mwn) (nI mdn) (nI mon) (nI mat) (nI mfr) (nI mlg) (nI mfd), kA X 49 60 (upd (upd (upd (upd f49 mtl ((jshr v 24) &&& 255)) (mtl + 1) ((jshr v 16) &&& 255)) (mtl + 2) ((jshr v 8) &&& 255)) (mtl + 3) ((jshr v 0) &&& 255))]) C 1 (mtl + 3) rfl rfl (by omega) (by decide) dX10_four_22 rfl rfl ?_
  refine g_aload_n (pc' := 24) C dX10_four_23 1 rfl rfl rfl ?_
  refine g_dup (pc' := 25) C dX10_four_24 rfl rfl ?_
  refine g_get (pc' := 28) C hi_X10 0 4 rfl rfl (by decide) (List.mem_of_getElem? (i := 2) rfl) rfl dX10_four_25 rfl ?_
  refine g_iconst (pc' := 29) (v := 1) C dX10_four_28 rfl rfl ?_
  refine g_iaddV (pc' := 30) (v := nI (mtl + 4)) C dX10_four_29 (by first | exact (nI_add _ _) | rfl) rfl ?_
  refine g_put (pc' := 33) (ws2 := [oMdl X mtd (nI (mtl + 4)) (nI mln) (nI mwn) (nI mdn) (nI mon) (nI mat) (nI mfr) (nI mlg) (nI mfd), kA X 49 60 (upd (upd (upd (upd f49 mtl ((jshr v 24) &&& 255)) (mtl + 1) ((jshr v 16) &&& 255)) (mtl + 2) ((jshr v 8) &&& 255)) (mtl + 3) ((jshr v 0) &&& 255))]) C hi_X10 tyX10 tyX10_ok nmX10 0 4 rfl rfl (by decide) (Nat.le_of_ble_eq_true rfl) rfl rfl (List.mem_of_getElem? (i := 2) rfl) dX10_four_30 rfl rfl ?_
  refine g_iinc (pc' := 36) (v := (-8)) (lv' := [(2, .int (-8)), (0, .ref (xa X 46)), (1, .int v)]) C dX10_four_33 0 rfl (by decide) (by decide) rfl rfl ?_
  refine g_goto (tgt := 3) C dX10_four_36 (by decide) ?_
  refine g_iload_n (pc' := 4) C dX10_four_3 0 rfl rfl rfl ?_
  refine g_if_lt (pc' := 7) (tgt := 39) C dX10_four_4 (by decide) rfl (fun _ => ?_) (fun h => absurd h (by decide))
  exact g_vret C hr dX10_four_39 (congrArg (fun zq_ : Nat → Int32 => ([oMdl X mtd (nI (mtl + 4)) (nI mln) (nI mwn) (nI mdn) (nI mon) (nI mat) (nI mfr) (nI mlg) (nI mfd), kA X 49 60 zq_] : va_W)) (show (upd (upd (upd (upd f49 mtl ((jshr v 24) &&& 255)) (mtl + 1) ((jshr v 16) &&& 255)) (mtl + 2) ((jshr v 8) &&& 255)) (mtl + 3) ((jshr v 0) &&& 255) : Nat → Int32) = ap4 f49 mtl v from (four_ap4 _ _ _)))

set_option maxHeartbeats 1000000 in
set_option maxRecDepth 20000 in
theorem c_X10_feed (l : Launch) (X : gX) (mtd : Int32) (mtl : Nat) (mln : Nat) (mwn : Nat) (mdn : Nat) (mon : Nat) (mat : Nat) (mfr : Nat) (mlg : Nat) (mfd : Nat) (f49 : Nat → Int32) (a : Int32) (b : Int32) (z : Int32) (ht : mtl ≤ 60) : KC l yX10_feed wsX10_feed ⟨1, 0, 0, 22⟩ [.ref (xa X 46), .int a, .int b, .int z] X [oMdl X mtd (nI mtl) (nI mln) (nI mwn) (nI mdn) (nI mon) (nI mat) (nI mfr) (nI mlg) (nI mfd), kA X 49 60 f49] (some (.int (fdR mtl))) [oMdl X mtd (nI (fdN mtl)) (nI mln) (nI mwn) (nI mdn) (nI mon) (nI mat) (nI mfr) (nI mlg) (nI mfd), kA X 49 60 (fdT f49 mtl a b z)] := by
  have hi_X10 : ∀ w ∈ u_ws RX10 TX10 41, w ∈ wsX10_feed := fun w h => List.mem_cons_of_mem _ (List.mem_append_right _ h)
  refine KC.of cX10_feed 4 (some .int) RX10 rfl (by decide) rfl (lv := [(0, .ref (xa X 46)), (1, .int a), (2, .int b), (3, .int z)]) rfl (Nat.le_of_ble_eq_true rfl) ?_
  intro p e s m args below meth c A C hr
  refine g_aload_n (pc' := 1) C dX10_feed_0 0 rfl rfl rfl ?_
  refine g_get (pc' := 4) C hi_X10 0 4 rfl rfl (by decide) (List.mem_of_getElem? (i := 1) rfl) rfl dX10_feed_1 rfl ?_
  refine g_bipush (pc' := 6) (v := 12) C dX10_feed_4 (by decide) rfl ?_
  refine g_iaddV (pc' := 7) (v := nI (mtl + 12)) C dX10_feed_6 (by first | exact (nI_add _ _) | rfl) rfl ?_
  refine g_bipush (pc' := 9) (v := 60) C dX10_feed_7 (by decide) rfl ?_
  refine g_icmp_leN (pc' := 12) (tgt := 15) C (mtl + 12) 60 rfl rfl (by omega) (by omega) dX10_feed_9 (by decide) rfl (fun c_9 => ?_) (fun c_9 => ?_)
  · refine g_aload_n (pc' := 16) C dX10_feed_15 0 rfl rfl rfl ?_
    refine g_iload_n (pc' := 17) C dX10_feed_16 1 rfl rfl rfl ?_
    refine g_callV (pc' := 20) (st := []) (ws2 := [oMdl X mtd (nI (mtl + 4)) (nI mln) (nI mwn) (nI mdn) (nI mon) (nI mat) (nI mfr) (nI mlg) (nI mfd), kA X 49 60 (ap4 f49 mtl a)]) C [.int a] 1 rfl (c_X10_four l X mtd mtl mln mwn mdn mon mat mfr mlg mfd f49 a (by first | assumption | omega)) [0, 1] [] [0, 1] gX10_feed_X10_four 0 rfl rfl rfl ⟨rfl, rfl⟩ (by decide +kernel) ⟨by decide, by decide⟩ ⟨by decide, by decide⟩ rfl (wr := []) rfl ⟨by decide, by decide, by decide, by decide⟩ rfl (Nat.le_of_ble_eq_true rfl) dX10_feed_17 rfl rfl ?_
    refine g_aload_n (pc' := 21) C dX10_feed_20 0 rfl rfl rfl ?_
    refine g_iload_n (pc' := 22) C dX10_feed_21 2 rfl rfl rfl ?_
    refine g_callV (pc' := 25) (st := []) (ws2 := [oMdl X mtd (nI ((mtl + 4) + 4)) (nI mln) (nI mwn) (nI mdn) (nI mon) (nI mat) (nI mfr) (nI mlg) (nI mfd), kA X 49 60 (ap4 (ap4 f49 mtl a) (mtl + 4) b)]) C [.int b] 1 rfl (c_X10_four l X mtd (mtl + 4) mln mwn mdn mon mat mfr mlg mfd (ap4 f49 mtl a) b (by first | assumption | omega)) [0, 1] [] [0, 1] gX10_feed_X10_four 0 rfl rfl rfl ⟨rfl, rfl⟩ (by decide +kernel) ⟨by decide, by decide⟩ ⟨by decide, by decide⟩ rfl (wr := []) rfl ⟨by decide, by decide, by decide, by decide⟩ rfl (Nat.le_of_ble_eq_true rfl) dX10_feed_22 rfl rfl ?_
    refine g_aload_n (pc' := 26) C dX10_feed_25 0 rfl rfl rfl ?_
    refine g_iload_n (pc' := 27) C dX10_feed_26 3 rfl rfl rfl ?_
    refine g_callV (pc' := 30) (st := []) (ws2 := [oMdl X mtd (nI (((mtl + 4) + 4) + 4)) (nI mln) (nI mwn) (nI mdn) (nI mon) (nI mat) (nI mfr) (nI mlg) (nI mfd), kA X 49 60 (ap4 (ap4 (ap4 f49 mtl a) (mtl + 4) b) ((mtl + 4) + 4) z)]) C [.int z] 1 rfl (c_X10_four l X mtd ((mtl + 4) + 4) mln mwn mdn mon mat mfr mlg mfd (ap4 (ap4 f49 mtl a) (mtl + 4) b) z (by first | assumption | omega)) [0, 1] [] [0, 1] gX10_feed_X10_four 0 rfl rfl rfl ⟨rfl, rfl⟩ (by decide +kernel) ⟨by decide, by decide⟩ ⟨by decide, by decide⟩ rfl (wr := []) rfl ⟨by decide, by decide, by decide, by decide⟩ rfl (Nat.le_of_ble_eq_true rfl) dX10_feed_27 rfl rfl ?_
    refine g_aload_n (pc' := 31) C dX10_feed_30 0 rfl rfl rfl ?_
    refine g_get (pc' := 34) C hi_X10 0 4 rfl rfl (by decide) (List.mem_of_getElem? (i := 1) rfl) rfl dX10_feed_31 rfl ?_
    exact g_iret C hr dX10_feed_34 (by first | rfl | omega | (simp [fdR, fdN, fdT, c_9]; done) | (simp [fdR, fdN, fdT, c_9]; omega) | (simp [fdR, fdN, fdT, c_9]; intros; exfalso; omega) | grind [fdR, fdN, fdT]) ((congrArg (fun zq_ : Int32 => ([oMdl X mtd zq_ (nI mln) (nI mwn) (nI mdn) (nI mon) (nI mat) (nI mfr) (nI mlg) (nI mfd), kA X 49 60 (ap4 (ap4 (ap4 f49 mtl a) (mtl + 4) b) ((mtl + 4) + 4) z)] : va_W)) (show (nI (((mtl + 4) + 4) + 4) : Int32) = nI (fdN mtl) from (by first | rfl | omega | (simp [fdR, fdN, fdT, c_9]; done) | (simp [fdR, fdN, fdT, c_9]; omega) | (simp [fdR, fdN, fdT, c_9]; intros; exfalso; omega) | grind [fdR, fdN, fdT]))).trans (congrArg (fun zq_ : Nat → Int32 => ([oMdl X mtd (nI (fdN mtl)) (nI mln) (nI mwn) (nI mdn) (nI mon) (nI mat) (nI mfr) (nI mlg) (nI mfd), kA X 49 60 zq_] : va_W)) (show (ap4 (ap4 (ap4 f49 mtl a) (mtl + 4) b) ((mtl + 4) + 4) z : Nat → Int32) = fdT f49 mtl a b z from (by first | rfl | omega | (simp [fdR, fdN, fdT, c_9]; done) | (simp [fdR, fdN, fdT, c_9]; omega) | (simp [fdR, fdN, fdT, c_9]; intros; exfalso; omega) | grind [fdR, fdN, fdT]))))
  · refine g_ldc (pc' := 14) (v := (-1000000003)) C (List.mem_of_getElem? (i := 2) rfl) dX10_feed_12 rfl ?_
    exact g_iret C hr dX10_feed_14 (by first | rfl | omega | (simp [fdR, fdN, fdT, c_9]; done) | (simp [fdR, fdN, fdT, c_9]; omega) | (simp [fdR, fdN, fdT, c_9]; intros; exfalso; omega) | grind [fdR, fdN, fdT]) ((congrArg (fun zq_ : Int32 => ([oMdl X mtd zq_ (nI mln) (nI mwn) (nI mdn) (nI mon) (nI mat) (nI mfr) (nI mlg) (nI mfd), kA X 49 60 f49] : va_W)) (show (nI mtl : Int32) = nI (fdN mtl) from (by first | rfl | omega | (simp [fdR, fdN, fdT, c_9]; done) | (simp [fdR, fdN, fdT, c_9]; omega) | (simp [fdR, fdN, fdT, c_9]; intros; exfalso; omega) | grind [fdR, fdN, fdT]))).trans (congrArg (fun zq_ : Nat → Int32 => ([oMdl X mtd (nI (fdN mtl)) (nI mln) (nI mwn) (nI mdn) (nI mon) (nI mat) (nI mfr) (nI mlg) (nI mfd), kA X 49 60 zq_] : va_W)) (show (f49 : Nat → Int32) = fdT f49 mtl a b z from (by first | rfl | omega | (simp [fdR, fdN, fdT, c_9]; done) | (simp [fdR, fdN, fdT, c_9]; omega) | (simp [fdR, fdN, fdT, c_9]; intros; exfalso; omega) | grind [fdR, fdN, fdT]))))

set_option maxHeartbeats 1000000 in
set_option maxRecDepth 20000 in
theorem c_X10_trim (l : Launch) (X : gX) (mtd : Int32) (mtl : Nat) (mln : Nat) (mwn : Nat) (mdn : Nat) (mon : Nat) (mat : Nat) (mfr : Nat) (mlg : Nat) (mfd : Nat) (n : Int32) (ht : mtl ≤ 60) : KC l yX10_trim wsX10_trim ⟨1, 0, 0, 22⟩ [.ref (xa X 46), .int n] X [oMdl X mtd (nI mtl) (nI mln) (nI mwn) (nI mdn) (nI mon) (nI mat) (nI mfr) (nI mlg) (nI mfd)] (some (.int (trR mtl n))) [oMdl X mtd (nI (trN mtl n)) (nI mln) (nI mwn) (nI mdn) (nI mon) (nI mat) (nI mfr) (nI mlg) (nI mfd)] := by
  have hi_X10 : ∀ w ∈ u_ws RX10 TX10 41, w ∈ wsX10_trim := fun w h => List.mem_cons_of_mem _ (List.mem_append_right _ h)
  refine KC.of cX10_trim 2 (some .int) RX10 rfl (by decide) rfl (lv := [(0, .ref (xa X 46)), (1, .int n)]) rfl (Nat.le_of_ble_eq_true rfl) ?_
  intro p e s m args below meth c A C hr
  refine g_iload_n (pc' := 1) C dX10_trim_0 1 rfl rfl rfl ?_
  refine g_iconst (pc' := 2) (v := 0) C dX10_trim_1 rfl rfl ?_
  refine g_aload_n (pc' := 3) C dX10_trim_2 0 rfl rfl rfl ?_
  refine g_get (pc' := 6) C hi_X10 0 4 rfl rfl (by decide) (List.mem_of_getElem? (i := 1) rfl) rfl dX10_trim_3 rfl ?_
  refine g_callS (pc' := 9) (st := []) (ws2 := [oMdl X mtd (nI mtl) (nI mln) (nI mwn) (nI mdn) (nI mon) (nI mat) (nI mfr) (nI mlg) (nI mfd)]) C [.int n, .int 0, .int (nI mtl)] 3 rfl (c_X10_isIn l X n 0 (nI mtl) ) [] [0] [0] gX10_trim_X10_isIn rfl ⟨rfl, rfl⟩ (by decide +kernel) ⟨by decide, by decide⟩ ⟨by decide, by decide⟩ rfl (wr := [oMdl X mtd (nI mtl) (nI mln) (nI mwn) (nI mdn) (nI mon) (nI mat) (nI mfr) (nI mlg) (nI mfd)]) rfl ⟨by decide, by decide, by decide, by decide⟩ rfl (Nat.le_of_ble_eq_true rfl) dX10_trim_6 rfl rfl ?_
  by_cases b_6 : 0 ≤ n ∧ n ≤ (nI mtl)
  · refine g_top (bz_t b_6) ?_
    refine g_if_ne (pc' := 12) (tgt := 15) C dX10_trim_9 (by decide) rfl (fun _ => ?_) (fun h => absurd h (by decide))
    refine g_aload_n (pc' := 16) C dX10_trim_15 0 rfl rfl rfl ?_
    refine g_iload_n (pc' := 17) C dX10_trim_16 1 rfl rfl rfl ?_
    refine g_put (pc' := 20) (ws2 := [oMdl X mtd n (nI mln) (nI mwn) (nI mdn) (nI mon) (nI mat) (nI mfr) (nI mlg) (nI mfd)]) C hi_X10 tyX10 tyX10_ok nmX10 0 4 rfl rfl (by decide) (Nat.le_of_ble_eq_true rfl) rfl rfl (List.mem_of_getElem? (i := 1) rfl) dX10_trim_17 rfl rfl ?_
    refine g_iload_n (pc' := 21) C dX10_trim_20 1 rfl rfl rfl ?_
    exact g_iret C hr dX10_trim_21 (by first | rfl | omega | (simp [trR, trN, inR, b_6]; done) | (simp [trR, trN, inR, b_6]; omega) | (simp [trR, trN, inR, b_6]; intros; exfalso; omega) | grind [trR, trN]) (congrArg (fun zq_ : Int32 => ([oMdl X mtd zq_ (nI mln) (nI mwn) (nI mdn) (nI mon) (nI mat) (nI mfr) (nI mlg) (nI mfd)] : va_W)) (show (n : Int32) = nI (trN mtl n) from (by rw [trN, if_pos b_6]; exact (okN_le b_6.1 b_6.2 (nI_toInt (by omega)) (by omega)).1)))
  · refine g_top (bz_f b_6) ?_
    refine g_if_ne (pc' := 12) (tgt := 15) C dX10_trim_9 (by decide) rfl (fun h => absurd h (by decide)) (fun _ => ?_)
    refine g_ldc (pc' := 14) (v := (-1000000001)) C (List.mem_of_getElem? (i := 2) rfl) dX10_trim_12 rfl ?_
    exact g_iret C hr dX10_trim_14 (by first | rfl | omega | (simp [trR, trN, inR, b_6]; done) | (simp [trR, trN, inR, b_6]; omega) | (simp [trR, trN, inR, b_6]; intros; exfalso; omega) | grind [trR, trN]) (congrArg (fun zq_ : Int32 => ([oMdl X mtd zq_ (nI mln) (nI mwn) (nI mdn) (nI mon) (nI mat) (nI mfr) (nI mlg) (nI mfd)] : va_W)) (show (nI mtl : Int32) = nI (trN mtl n) from (by first | rfl | omega | (simp [trR, trN, inR, b_6]; done) | (simp [trR, trN, inR, b_6]; omega) | (simp [trR, trN, inR, b_6]; intros; exfalso; omega) | grind [trR, trN])))

set_option maxHeartbeats 1000000 in
set_option maxRecDepth 20000 in
theorem c_X10_line (l : Launch) (X : gX) (mtd : Int32) (mtl : Nat) (mln : Nat) (mwn : Nat) (mdn : Nat) (mon : Nat) (mat : Nat) (mfr : Nat) (mlg : Nat) (mfd : Nat) (f50 : Nat → Int32) (f51 : Nat → Int32) (f52 : Nat → Int32) (f53 : Nat → Int32) (f54 : Nat → Int32) (f55 : Nat → Int32) (f56 : Nat → Int32) (k : Int32) (w : Int32) (hn : mln ≤ 100) : KC l yX10_line wsX10_line ⟨2, 0, 0, 43⟩ [.ref (xa X 46), .int k, .int w] X [oMdl X mtd (nI mtl) (nI mln) (nI mwn) (nI mdn) (nI mon) (nI mat) (nI mfr) (nI mlg) (nI mfd), kA X 50 100 f50, kA X 51 100 f51, kA X 52 100 f52, kA X 53 100 f53, kA X 54 100 f54, kA X 55 100 f55, kA X 56 100 f56] (some (.int (liR f50 f51 f52 f53 f54 f55 f56 mln k w))) [oMdl X mtd (nI mtl) (nI mln) (nI mwn) (nI mdn) (nI mon) (nI mat) (nI mfr) (nI mlg) (nI mfd), kA X 50 100 f50, kA X 51 100 f51, kA X 52 100 f52, kA X 53 100 f53, kA X 54 100 f54, kA X 55 100 f55, kA X 56 100 f56] := by
  have hi_X10 : ∀ w ∈ u_ws RX10 TX10 41, w ∈ wsX10_line := fun w h => List.mem_cons_of_mem _ (List.mem_append_right _ h)
  refine KC.of cX10_line 3 (some .int) RX10 rfl (by decide) rfl (lv := [(0, .ref (xa X 46)), (1, .int k), (2, .int w)]) rfl (Nat.le_of_ble_eq_true rfl) ?_
  intro p e s m args below meth c A C hr
  refine g_aload_n (pc' := 1) C dX10_line_0 0 rfl rfl rfl ?_
  refine g_iload_n (pc' := 2) C dX10_line_1 1 rfl rfl rfl ?_
  refine g_callV (pc' := 5) (st := []) (ws2 := [oMdl X mtd (nI mtl) (nI mln) (nI mwn) (nI mdn) (nI mon) (nI mat) (nI mfr) (nI mlg) (nI mfd), kA X 50 100 f50, kA X 51 100 f51, kA X 52 100 f52, kA X 53 100 f53, kA X 54 100 f54, kA X 55 100 f55, kA X 56 100 f56]) C [.int k] 1 rfl (c_X10_isLine l X mtd mtl mln mwn mdn mon mat mfr mlg mfd k ) [0] [1, 2, 3, 4, 5, 6, 7] [7, 0, 1, 2, 3, 4, 5, 6] gX10_line_X10_isLine 0 rfl rfl rfl ⟨rfl, rfl⟩ (by decide +kernel) ⟨by decide, by decide⟩ ⟨by decide, by decide⟩ rfl (wr := [kA X 50 100 f50, kA X 51 100 f51, kA X 52 100 f52, kA X 53 100 f53, kA X 54 100 f54, kA X 55 100 f55, kA X 56 100 f56]) rfl ⟨by decide, by decide, by decide, by decide⟩ rfl (Nat.le_of_ble_eq_true rfl) dX10_line_2 rfl rfl ?_
  by_cases b_2 : 0 ≤ k ∧ k ≤ nI mln - 1
  · refine g_top (bz_t b_2) ?_
    refine g_if_eq (pc' := 8) (tgt := 18) C dX10_line_5 (by decide) rfl (fun h => absurd h (by decide)) (fun _ => ?_)
    refine g_iload_n (pc' := 9) C dX10_line_8 2 rfl rfl rfl ?_
    refine g_iconst (pc' := 10) (v := 0) C dX10_line_9 rfl rfl ?_
    refine g_bipush (pc' := 12) (v := 6) C dX10_line_10 (by decide) rfl ?_
    refine g_callS (pc' := 15) (st := []) (ws2 := [oMdl X mtd (nI mtl) (nI mln) (nI mwn) (nI mdn) (nI mon) (nI mat) (nI mfr) (nI mlg) (nI mfd), kA X 50 100 f50, kA X 51 100 f51, kA X 52 100 f52, kA X 53 100 f53, kA X 54 100 f54, kA X 55 100 f55, kA X 56 100 f56]) C [.int w, .int 0, .int 6] 3 rfl (c_X10_isIn l X w 0 6 ) [] [0, 1, 2, 3, 4, 5, 6, 7] [0, 1, 2, 3, 4, 5, 6, 7] gX10_line_X10_isIn rfl ⟨rfl, rfl⟩ (by decide +kernel) ⟨by decide, by decide⟩ ⟨by decide, by decide⟩ rfl (wr := [oMdl X mtd (nI mtl) (nI mln) (nI mwn) (nI mdn) (nI mon) (nI mat) (nI mfr) (nI mlg) (nI mfd), kA X 50 100 f50, kA X 51 100 f51, kA X 52 100 f52, kA X 53 100 f53, kA X 54 100 f54, kA X 55 100 f55, kA X 56 100 f56]) rfl ⟨by decide, by decide, by decide, by decide⟩ rfl (Nat.le_of_ble_eq_true rfl) dX10_line_12 rfl rfl ?_
    by_cases b_12 : 0 ≤ w ∧ w ≤ 6
    · refine g_top (bz_t b_12) ?_
      refine g_if_ne (pc' := 18) (tgt := 21) C dX10_line_15 (by decide) rfl (fun _ => ?_) (fun h => absurd h (by decide))
      refine g_iload_n (pc' := 22) C dX10_line_21 2 rfl rfl rfl ?_
      have ok0 := hasL_ok b_2 (by omega)
      have ok1 := ok0.2
      by_cases s_22_0 : w = 0
      · refine g_top s_22_0 ?_
        refine g_tableIn (off := 38) (tgt := 60) C dX10_line_22 (by decide) (by decide) (by decide) (by decide) ?_
        refine g_aload_n (pc' := 61) C dX10_line_60 0 rfl rfl rfl ?_
        refine g_get (pc' := 64) C hi_X10 0 6 rfl rfl (by decide) (List.mem_of_getElem? (i := 2) rfl) rfl dX10_line_61 rfl ?_
        refine g_iload_n (pc' := 65) C dX10_line_64 1 rfl rfl rfl ?_
        refine g_iald (pc' := 66) C 1 (cN k) rfl ok0.1 (by omega) (by decide) dX10_line_65 rfl ?_
        exact g_iret C hr dX10_line_66 (by first | rfl | omega | (simp [liR, hasL, b_2, b_12, s_22_0]; done) | (simp [liR, hasL, b_2, b_12, s_22_0]; omega) | (simp [liR, hasL, b_2, b_12, s_22_0]; intros; exfalso; omega) | grind [liR]) rfl
      · skip
        by_cases s_22_1 : w = 1
        · refine g_top s_22_1 ?_
          refine g_tableIn (off := 45) (tgt := 67) C dX10_line_22 (by decide) (by decide) (by decide) (by decide) ?_
          refine g_aload_n (pc' := 68) C dX10_line_67 0 rfl rfl rfl ?_
          refine g_get (pc' := 71) C hi_X10 0 7 rfl rfl (by decide) (List.mem_of_getElem? (i := 3) rfl) rfl dX10_line_68 rfl ?_
          refine g_iload_n (pc' := 72) C dX10_line_71 1 rfl rfl rfl ?_
          refine g_iald (pc' := 73) C 2 (cN k) rfl ok0.1 (by omega) (by decide) dX10_line_72 rfl ?_
          exact g_iret C hr dX10_line_73 (by first | rfl | omega | (simp [liR, hasL, b_2, b_12, s_22_0, s_22_1]; done) | (simp [liR, hasL, b_2, b_12, s_22_0, s_22_1]; omega) | (simp [liR, hasL, b_2, b_12, s_22_0, s_22_1]; intros; exfalso; omega) | grind [liR]) rfl
        · skip
          by_cases s_22_2 : w = 2
          · refine g_top s_22_2 ?_
            refine g_tableIn (off := 52) (tgt := 74) C dX10_line_22 (by decide) (by decide) (by decide) (by decide) ?_
            refine g_aload_n (pc' := 75) C dX10_line_74 0 rfl rfl rfl ?_
            refine g_get (pc' := 78) C hi_X10 0 8 rfl rfl (by decide) (List.mem_of_getElem? (i := 4) rfl) rfl dX10_line_75 rfl ?_
            refine g_iload_n (pc' := 79) C dX10_line_78 1 rfl rfl rfl ?_
            refine g_iald (pc' := 80) C 3 (cN k) rfl ok0.1 (by omega) (by decide) dX10_line_79 rfl ?_
            exact g_iret C hr dX10_line_80 (by first | rfl | omega | (simp [liR, hasL, b_2, b_12, s_22_0, s_22_1, s_22_2]; done) | (simp [liR, hasL, b_2, b_12, s_22_0, s_22_1, s_22_2]; omega) | (simp [liR, hasL, b_2, b_12, s_22_0, s_22_1, s_22_2]; intros; exfalso; omega) | grind [liR]) rfl
          · skip
            by_cases s_22_3 : w = 3
            · refine g_top s_22_3 ?_
              refine g_tableIn (off := 59) (tgt := 81) C dX10_line_22 (by decide) (by decide) (by decide) (by decide) ?_
              refine g_aload_n (pc' := 82) C dX10_line_81 0 rfl rfl rfl ?_
              refine g_get (pc' := 85) C hi_X10 0 9 rfl rfl (by decide) (List.mem_of_getElem? (i := 5) rfl) rfl dX10_line_82 rfl ?_
              refine g_iload_n (pc' := 86) C dX10_line_85 1 rfl rfl rfl ?_
              refine g_iald (pc' := 87) C 4 (cN k) rfl ok0.1 (by omega) (by decide) dX10_line_86 rfl ?_
              exact g_iret C hr dX10_line_87 (by first | rfl | omega | (simp [liR, hasL, b_2, b_12, s_22_0, s_22_1, s_22_2, s_22_3]; done) | (simp [liR, hasL, b_2, b_12, s_22_0, s_22_1, s_22_2, s_22_3]; omega) | (simp [liR, hasL, b_2, b_12, s_22_0, s_22_1, s_22_2, s_22_3]; intros; exfalso; omega) | grind [liR]) rfl
            · skip
              by_cases s_22_4 : w = 4
              · refine g_top s_22_4 ?_
                refine g_tableIn (off := 66) (tgt := 88) C dX10_line_22 (by decide) (by decide) (by decide) (by decide) ?_
                refine g_aload_n (pc' := 89) C dX10_line_88 0 rfl rfl rfl ?_
                refine g_get (pc' := 92) C hi_X10 0 10 rfl rfl (by decide) (List.mem_of_getElem? (i := 6) rfl) rfl dX10_line_89 rfl ?_
                refine g_iload_n (pc' := 93) C dX10_line_92 1 rfl rfl rfl ?_
                refine g_iald (pc' := 94) C 5 (cN k) rfl ok0.1 (by omega) (by decide) dX10_line_93 rfl ?_
                exact g_iret C hr dX10_line_94 (by first | rfl | omega | (simp [liR, hasL, b_2, b_12, s_22_0, s_22_1, s_22_2, s_22_3, s_22_4]; done) | (simp [liR, hasL, b_2, b_12, s_22_0, s_22_1, s_22_2, s_22_3, s_22_4]; omega) | (simp [liR, hasL, b_2, b_12, s_22_0, s_22_1, s_22_2, s_22_3, s_22_4]; intros; exfalso; omega) | grind [liR]) rfl
              · skip
                by_cases s_22_5 : w = 5
                · refine g_top s_22_5 ?_
                  refine g_tableIn (off := 73) (tgt := 95) C dX10_line_22 (by decide) (by decide) (by decide) (by decide) ?_
                  refine g_aload_n (pc' := 96) C dX10_line_95 0 rfl rfl rfl ?_
                  refine g_get (pc' := 99) C hi_X10 0 11 rfl rfl (by decide) (List.mem_of_getElem? (i := 7) rfl) rfl dX10_line_96 rfl ?_
                  refine g_iload_n (pc' := 100) C dX10_line_99 1 rfl rfl rfl ?_
                  refine g_iald (pc' := 101) C 6 (cN k) rfl ok0.1 (by omega) (by decide) dX10_line_100 rfl ?_
                  exact g_iret C hr dX10_line_101 (by first | rfl | omega | (simp [liR, hasL, b_2, b_12, s_22_0, s_22_1, s_22_2, s_22_3, s_22_4, s_22_5]; done) | (simp [liR, hasL, b_2, b_12, s_22_0, s_22_1, s_22_2, s_22_3, s_22_4, s_22_5]; omega) | (simp [liR, hasL, b_2, b_12, s_22_0, s_22_1, s_22_2, s_22_3, s_22_4, s_22_5]; intros; exfalso; omega) | grind [liR]) rfl
                · skip
                  refine g_tableOut (tgt := 102) C dX10_line_22 (by have q0 : w.toInt ≠ 0 := fun z => s_22_0 (Int32.toInt_inj.mp z); have q1 : w.toInt ≠ 1 := fun z => s_22_1 (Int32.toInt_inj.mp z); have q2 : w.toInt ≠ 2 := fun z => s_22_2 (Int32.toInt_inj.mp z); have q3 : w.toInt ≠ 3 := fun z => s_22_3 (Int32.toInt_inj.mp z); have q4 : w.toInt ≠ 4 := fun z => s_22_4 (Int32.toInt_inj.mp z); have q5 : w.toInt ≠ 5 := fun z => s_22_5 (Int32.toInt_inj.mp z); omega) (by decide) ?_
                  refine g_aload_n (pc' := 103) C dX10_line_102 0 rfl rfl rfl ?_
                  refine g_get (pc' := 106) C hi_X10 0 12 rfl rfl (by decide) (List.mem_of_getElem? (i := 8) rfl) rfl dX10_line_103 rfl ?_
                  refine g_iload_n (pc' := 107) C dX10_line_106 1 rfl rfl rfl ?_
                  refine g_iald (pc' := 108) C 7 (cN k) rfl ok0.1 (by omega) (by decide) dX10_line_107 rfl ?_
                  exact g_iret C hr dX10_line_108 (by have e6 := w6 b_12 s_22_0 s_22_1 s_22_2 s_22_3 s_22_4 s_22_5; rw [liR, if_pos b_2, e6]; rfl) rfl
    · refine g_top (bz_f b_12) ?_
      refine g_if_ne (pc' := 18) (tgt := 21) C dX10_line_15 (by decide) rfl (fun h => absurd h (by decide)) (fun _ => ?_)
      refine g_ldc (pc' := 20) (v := (-1000000001)) C (List.mem_of_getElem? (i := 1) rfl) dX10_line_18 rfl ?_
      exact g_iret C hr dX10_line_20 (by first | rfl | omega | (simp [liR, hasL, b_2, b_12]; done) | (simp [liR, hasL, b_2, b_12]; omega) | (simp [liR, hasL, b_2, b_12]; intros; exfalso; omega) | grind [liR]) rfl
  · refine g_top (bz_f b_2) ?_
    refine g_if_eq (pc' := 8) (tgt := 18) C dX10_line_5 (by decide) rfl (fun _ => ?_) (fun h => absurd h (by decide))
    refine g_ldc (pc' := 20) (v := (-1000000001)) C (List.mem_of_getElem? (i := 1) rfl) dX10_line_18 rfl ?_
    exact g_iret C hr dX10_line_20 (by first | rfl | omega | (simp [liR, hasL, b_2]; done) | (simp [liR, hasL, b_2]; omega) | (simp [liR, hasL, b_2]; intros; exfalso; omega) | grind [liR]) rfl

set_option maxHeartbeats 1000000 in
set_option maxRecDepth 20000 in
theorem c_X10_isOf (l : Launch) (X : gX) (mtd : Int32) (mtl : Nat) (mln : Nat) (mwn : Nat) (mdn : Nat) (mon : Nat) (mat : Nat) (mfr : Nat) (mlg : Nat) (mfd : Nat) (f50 : Nat → Int32) (k : Int32) (x : Int32) (hn : mln ≤ 100) (hkd : ∀ i, i < mln → f50 i = 1 ∨ f50 i = 2 ∨ f50 i = 3 ∨ f50 i = 4 ∨ f50 i = 5) : KC l yX10_isOf wsX10_isOf ⟨2, 0, 0, 43⟩ [.ref (xa X 46), .int k, .int x] X [oMdl X mtd (nI mtl) (nI mln) (nI mwn) (nI mdn) (nI mon) (nI mat) (nI mfr) (nI mlg) (nI mfd), kA X 50 100 f50] (some (.int (ioR f50 mln k x))) [oMdl X mtd (nI mtl) (nI mln) (nI mwn) (nI mdn) (nI mon) (nI mat) (nI mfr) (nI mlg) (nI mfd), kA X 50 100 f50] := by
  have hi_X10 : ∀ w ∈ u_ws RX10 TX10 41, w ∈ wsX10_isOf := fun w h => List.mem_cons_of_mem _ (List.mem_append_right _ h)
  refine KC.of cX10_isOf 6 (some .int) RX10 rfl (by decide) rfl (lv := [(0, .ref (xa X 46)), (1, .int k), (2, .int x)]) rfl (Nat.le_of_ble_eq_true rfl) ?_
  intro p e s m args below meth c A C hr
  refine g_aload_n (pc' := 1) C dX10_isOf_0 0 rfl rfl rfl ?_
  refine g_iload_n (pc' := 2) C dX10_isOf_1 1 rfl rfl rfl ?_
  refine g_callV (pc' := 5) (st := []) (ws2 := [oMdl X mtd (nI mtl) (nI mln) (nI mwn) (nI mdn) (nI mon) (nI mat) (nI mfr) (nI mlg) (nI mfd), kA X 50 100 f50]) C [.int k] 1 rfl (c_X10_isLine l X mtd mtl mln mwn mdn mon mat mfr mlg mfd k ) [0] [1] [1, 0] gX10_isOf_X10_isLine 0 rfl rfl rfl ⟨rfl, rfl⟩ (by decide +kernel) ⟨by decide, by decide⟩ ⟨by decide, by decide⟩ rfl (wr := [kA X 50 100 f50]) rfl ⟨by decide, by decide, by decide, by decide⟩ rfl (Nat.le_of_ble_eq_true rfl) dX10_isOf_2 rfl rfl ?_
  by_cases b_2 : 0 ≤ k ∧ k ≤ nI mln - 1
  · refine g_top (bz_t b_2) ?_
    refine g_if_eq (pc' := 8) (tgt := 18) C dX10_isOf_5 (by decide) rfl (fun h => absurd h (by decide)) (fun _ => ?_)
    refine g_iload_n (pc' := 9) C dX10_isOf_8 2 rfl rfl rfl ?_
    refine g_iconst (pc' := 10) (v := 0) C dX10_isOf_9 rfl rfl ?_
    refine g_bipush (pc' := 12) (v := 7) C dX10_isOf_10 (by decide) rfl ?_
    refine g_callS (pc' := 15) (st := []) (ws2 := [oMdl X mtd (nI mtl) (nI mln) (nI mwn) (nI mdn) (nI mon) (nI mat) (nI mfr) (nI mlg) (nI mfd), kA X 50 100 f50]) C [.int x, .int 0, .int 7] 3 rfl (c_X10_isIn l X x 0 7 ) [] [0, 1] [0, 1] gX10_isOf_X10_isIn rfl ⟨rfl, rfl⟩ (by decide +kernel) ⟨by decide, by decide⟩ ⟨by decide, by decide⟩ rfl (wr := [oMdl X mtd (nI mtl) (nI mln) (nI mwn) (nI mdn) (nI mon) (nI mat) (nI mfr) (nI mlg) (nI mfd), kA X 50 100 f50]) rfl ⟨by decide, by decide, by decide, by decide⟩ rfl (Nat.le_of_ble_eq_true rfl) dX10_isOf_12 rfl rfl ?_
    by_cases b_12 : 0 ≤ x ∧ x ≤ 7
    · refine g_top (bz_t b_12) ?_
      refine g_if_ne (pc' := 18) (tgt := 21) C dX10_isOf_15 (by decide) rfl (fun _ => ?_) (fun h => absurd h (by decide))
      refine g_aload_n (pc' := 22) C dX10_isOf_21 0 rfl rfl rfl ?_
      have ok0 := hasL_ok b_2 (by omega)
      have ok1 := ok0.2
      have hkk := hkd _ ok1
      refine g_get (pc' := 25) C hi_X10 0 6 rfl rfl (by decide) (List.mem_of_getElem? (i := 2) rfl) rfl dX10_isOf_22 rfl ?_
      refine g_iload_n (pc' := 26) C dX10_isOf_25 1 rfl rfl rfl ?_
      refine g_iald (pc' := 27) C 1 (cN k) rfl ok0.1 (by omega) (by decide) dX10_isOf_26 rfl ?_
      refine g_istore_n (pc' := 28) (lv' := [(3, .int (f50 (cN k))), (0, .ref (xa X 46)), (1, .int k), (2, .int x)]) C dX10_isOf_27 rfl (by decide) rfl rfl ?_
      refine g_iload_n (pc' := 29) C dX10_isOf_28 0 rfl rfl rfl ?_
      refine g_iconst (pc' := 30) (v := 4) C dX10_isOf_29 rfl rfl ?_
      refine g_icmp_eq (pc' := 33) (tgt := 38) C dX10_isOf_30 (by decide) rfl (fun c_30 => ?_) (fun c_30 => ?_)
      · refine g_iconst (pc' := 39) (v := 1) C dX10_isOf_38 rfl rfl ?_
        refine g_goto (tgt := 43) C dX10_isOf_39 (by decide) ?_
        refine g_istore (pc' := 45) (lv' := [(4, .int 1), (3, .int (f50 (cN k))), (0, .ref (xa X 46)), (1, .int k), (2, .int x)]) C dX10_isOf_43 (by decide) rfl rfl ?_
        refine g_iload_n (pc' := 46) C dX10_isOf_45 1 rfl rfl rfl ?_
        refine g_iconst (pc' := 47) (v := 1) C dX10_isOf_46 rfl rfl ?_
        refine g_icmp_eq (pc' := 50) (tgt := 60) C dX10_isOf_47 (by decide) rfl (fun c_47 => ?_) (fun c_47 => ?_)
        · refine g_iconst (pc' := 61) (v := 1) C dX10_isOf_60 rfl rfl ?_
          refine g_goto (tgt := 65) C dX10_isOf_61 (by decide) ?_
          refine g_istore (pc' := 67) (lv' := [(5, .int 1), (4, .int 1), (3, .int (f50 (cN k))), (0, .ref (xa X 46)), (1, .int k), (2, .int x)]) C dX10_isOf_65 (by decide) rfl rfl ?_
          refine g_iload_n (pc' := 68) C dX10_isOf_67 5 rfl rfl rfl ?_
          refine g_if_eq (pc' := 71) (tgt := 98) C dX10_isOf_68 (by decide) rfl (fun c_68 => ?_) (fun c_68 => ?_)
          · refine g_iconst (pc' := 99) (v := 1) C dX10_isOf_98 rfl rfl ?_
            refine g_goto (tgt := 103) C dX10_isOf_99 (by decide) ?_
            exact g_iret C hr dX10_isOf_103 (by first | rfl | omega | (simp [ioR, kofB, bz, b_2, b_12, c_30, c_47, c_68]; done) | (simp [ioR, kofB, bz, b_2, b_12, c_30, c_47, c_68]; omega) | (simp [ioR, kofB, bz, b_2, b_12, c_30, c_47, c_68]; intros; exfalso; omega) | grind [ioR, kofB, bz]) rfl
          · refine g_iload_n (pc' := 72) C dX10_isOf_71 5 rfl rfl rfl ?_
            refine g_iload_n (pc' := 73) C dX10_isOf_72 2 rfl rfl rfl ?_
            refine g_icmp_eq (pc' := 76) (tgt := 98) C dX10_isOf_73 (by decide) rfl (fun c_73 => ?_) (fun c_73 => ?_)
            · refine g_iconst (pc' := 99) (v := 1) C dX10_isOf_98 rfl rfl ?_
              refine g_goto (tgt := 103) C dX10_isOf_99 (by decide) ?_
              exact g_iret C hr dX10_isOf_103 (by first | rfl | omega | (simp [ioR, kofB, bz, b_2, b_12, c_30, c_47, c_68, c_73]; done) | (simp [ioR, kofB, bz, b_2, b_12, c_30, c_47, c_68, c_73]; omega) | (simp [ioR, kofB, bz, b_2, b_12, c_30, c_47, c_68, c_73]; intros; exfalso; omega) | grind [ioR, kofB, bz]) rfl
            · refine g_iload_n (pc' := 77) C dX10_isOf_76 5 rfl rfl rfl ?_
              refine g_bipush (pc' := 79) (v := 6) C dX10_isOf_77 (by decide) rfl ?_
              refine g_icmp_ne (pc' := 82) (tgt := 87) C dX10_isOf_79 (by decide) rfl (fun c_79 => ?_) (fun c_79 => ?_)
              · refine g_iload_n (pc' := 88) C dX10_isOf_87 5 rfl rfl rfl ?_
                refine g_bipush (pc' := 90) (v := 7) C dX10_isOf_88 (by decide) rfl ?_
                refine g_icmp_ne (pc' := 93) (tgt := 102) C dX10_isOf_90 (by decide) rfl (fun c_90 => ?_) (fun c_90 => ?_)
                · refine g_iconst (pc' := 103) (v := 0) C dX10_isOf_102 rfl rfl ?_
                  exact g_iret C hr dX10_isOf_103 (by first | rfl | omega | (simp [ioR, kofB, bz, b_2, b_12, c_30, c_47, c_68, c_73, c_79, c_90]; done) | (simp [ioR, kofB, bz, b_2, b_12, c_30, c_47, c_68, c_73, c_79, c_90]; omega) | (simp [ioR, kofB, bz, b_2, b_12, c_30, c_47, c_68, c_73, c_79, c_90]; intros; exfalso; omega) | grind [ioR, kofB, bz]) rfl
                · refine g_iload (pc' := 95) C dX10_isOf_93 0 rfl rfl ?_
                  refine g_if_eq (pc' := 98) (tgt := 102) C dX10_isOf_95 (by decide) rfl (fun h => absurd h (by decide)) (fun _ => ?_)
                  refine g_iconst (pc' := 99) (v := 1) C dX10_isOf_98 rfl rfl ?_
                  refine g_goto (tgt := 103) C dX10_isOf_99 (by decide) ?_
                  exact g_iret C hr dX10_isOf_103 (by first | rfl | omega | (simp [ioR, kofB, bz, b_2, b_12, c_30, c_47, c_68, c_73, c_79, c_90]; done) | (simp [ioR, kofB, bz, b_2, b_12, c_30, c_47, c_68, c_73, c_79, c_90]; omega) | (simp [ioR, kofB, bz, b_2, b_12, c_30, c_47, c_68, c_73, c_79, c_90]; intros; exfalso; omega) | grind [ioR, kofB, bz]) rfl
              · refine g_iload (pc' := 84) C dX10_isOf_82 1 rfl rfl ?_
                refine g_if_ne (pc' := 87) (tgt := 98) C dX10_isOf_84 (by decide) rfl (fun _ => ?_) (fun h => absurd h (by decide))
                refine g_iconst (pc' := 99) (v := 1) C dX10_isOf_98 rfl rfl ?_
                refine g_goto (tgt := 103) C dX10_isOf_99 (by decide) ?_
                exact g_iret C hr dX10_isOf_103 (by first | rfl | omega | (simp [ioR, kofB, bz, b_2, b_12, c_30, c_47, c_68, c_73, c_79]; done) | (simp [ioR, kofB, bz, b_2, b_12, c_30, c_47, c_68, c_73, c_79]; omega) | (simp [ioR, kofB, bz, b_2, b_12, c_30, c_47, c_68, c_73, c_79]; intros; exfalso; omega) | grind [ioR, kofB, bz]) rfl
        · refine g_iload_n (pc' := 51) C dX10_isOf_50 1 rfl rfl rfl ?_
          refine g_iconst (pc' := 52) (v := 2) C dX10_isOf_51 rfl rfl ?_
          refine g_icmp_eq (pc' := 55) (tgt := 60) C dX10_isOf_52 (by decide) rfl (fun c_52 => ?_) (fun c_52 => ?_)
          · refine g_iconst (pc' := 61) (v := 1) C dX10_isOf_60 rfl rfl ?_
            refine g_goto (tgt := 65) C dX10_isOf_61 (by decide) ?_
            refine g_istore (pc' := 67) (lv' := [(5, .int 1), (4, .int 1), (3, .int (f50 (cN k))), (0, .ref (xa X 46)), (1, .int k), (2, .int x)]) C dX10_isOf_65 (by decide) rfl rfl ?_
            refine g_iload_n (pc' := 68) C dX10_isOf_67 5 rfl rfl rfl ?_
            refine g_if_eq (pc' := 71) (tgt := 98) C dX10_isOf_68 (by decide) rfl (fun c_68 => ?_) (fun c_68 => ?_)
            · refine g_iconst (pc' := 99) (v := 1) C dX10_isOf_98 rfl rfl ?_
              refine g_goto (tgt := 103) C dX10_isOf_99 (by decide) ?_
              exact g_iret C hr dX10_isOf_103 (by first | rfl | omega | (simp [ioR, kofB, bz, b_2, b_12, c_30, c_47, c_52, c_68]; done) | (simp [ioR, kofB, bz, b_2, b_12, c_30, c_47, c_52, c_68]; omega) | (simp [ioR, kofB, bz, b_2, b_12, c_30, c_47, c_52, c_68]; intros; exfalso; omega) | grind [ioR, kofB, bz]) rfl
            · refine g_iload_n (pc' := 72) C dX10_isOf_71 5 rfl rfl rfl ?_
              refine g_iload_n (pc' := 73) C dX10_isOf_72 2 rfl rfl rfl ?_
              refine g_icmp_eq (pc' := 76) (tgt := 98) C dX10_isOf_73 (by decide) rfl (fun c_73 => ?_) (fun c_73 => ?_)
              · refine g_iconst (pc' := 99) (v := 1) C dX10_isOf_98 rfl rfl ?_
                refine g_goto (tgt := 103) C dX10_isOf_99 (by decide) ?_
                exact g_iret C hr dX10_isOf_103 (by first | rfl | omega | (simp [ioR, kofB, bz, b_2, b_12, c_30, c_47, c_52, c_68, c_73]; done) | (simp [ioR, kofB, bz, b_2, b_12, c_30, c_47, c_52, c_68, c_73]; omega) | (simp [ioR, kofB, bz, b_2, b_12, c_30, c_47, c_52, c_68, c_73]; intros; exfalso; omega) | grind [ioR, kofB, bz]) rfl
              · refine g_iload_n (pc' := 77) C dX10_isOf_76 5 rfl rfl rfl ?_
                refine g_bipush (pc' := 79) (v := 6) C dX10_isOf_77 (by decide) rfl ?_
                refine g_icmp_ne (pc' := 82) (tgt := 87) C dX10_isOf_79 (by decide) rfl (fun c_79 => ?_) (fun c_79 => ?_)
                · refine g_iload_n (pc' := 88) C dX10_isOf_87 5 rfl rfl rfl ?_
                  refine g_bipush (pc' := 90) (v := 7) C dX10_isOf_88 (by decide) rfl ?_
                  refine g_icmp_ne (pc' := 93) (tgt := 102) C dX10_isOf_90 (by decide) rfl (fun c_90 => ?_) (fun c_90 => ?_)
                  · refine g_iconst (pc' := 103) (v := 0) C dX10_isOf_102 rfl rfl ?_
                    exact g_iret C hr dX10_isOf_103 (by first | rfl | omega | (simp [ioR, kofB, bz, b_2, b_12, c_30, c_47, c_52, c_68, c_73, c_79, c_90]; done) | (simp [ioR, kofB, bz, b_2, b_12, c_30, c_47, c_52, c_68, c_73, c_79, c_90]; omega) | (simp [ioR, kofB, bz, b_2, b_12, c_30, c_47, c_52, c_68, c_73, c_79, c_90]; intros; exfalso; omega) | grind [ioR, kofB, bz]) rfl
                  · refine g_iload (pc' := 95) C dX10_isOf_93 0 rfl rfl ?_
                    refine g_if_eq (pc' := 98) (tgt := 102) C dX10_isOf_95 (by decide) rfl (fun h => absurd h (by decide)) (fun _ => ?_)
                    refine g_iconst (pc' := 99) (v := 1) C dX10_isOf_98 rfl rfl ?_
                    refine g_goto (tgt := 103) C dX10_isOf_99 (by decide) ?_
                    exact g_iret C hr dX10_isOf_103 (by first | rfl | omega | (simp [ioR, kofB, bz, b_2, b_12, c_30, c_47, c_52, c_68, c_73, c_79, c_90]; done) | (simp [ioR, kofB, bz, b_2, b_12, c_30, c_47, c_52, c_68, c_73, c_79, c_90]; omega) | (simp [ioR, kofB, bz, b_2, b_12, c_30, c_47, c_52, c_68, c_73, c_79, c_90]; intros; exfalso; omega) | grind [ioR, kofB, bz]) rfl
                · refine g_iload (pc' := 84) C dX10_isOf_82 1 rfl rfl ?_
                  refine g_if_ne (pc' := 87) (tgt := 98) C dX10_isOf_84 (by decide) rfl (fun _ => ?_) (fun h => absurd h (by decide))
                  refine g_iconst (pc' := 99) (v := 1) C dX10_isOf_98 rfl rfl ?_
                  refine g_goto (tgt := 103) C dX10_isOf_99 (by decide) ?_
                  exact g_iret C hr dX10_isOf_103 (by first | rfl | omega | (simp [ioR, kofB, bz, b_2, b_12, c_30, c_47, c_52, c_68, c_73, c_79]; done) | (simp [ioR, kofB, bz, b_2, b_12, c_30, c_47, c_52, c_68, c_73, c_79]; omega) | (simp [ioR, kofB, bz, b_2, b_12, c_30, c_47, c_52, c_68, c_73, c_79]; intros; exfalso; omega) | grind [ioR, kofB, bz]) rfl
          · refine g_iload_n (pc' := 56) C dX10_isOf_55 1 rfl rfl rfl ?_
            refine g_iconst (pc' := 57) (v := 5) C dX10_isOf_56 rfl rfl ?_
            refine g_icmp_ne (pc' := 60) (tgt := 64) C dX10_isOf_57 (by decide) rfl (fun c_57 => ?_) (fun c_57 => ?_)
            · refine g_iconst (pc' := 65) (v := 0) C dX10_isOf_64 rfl rfl ?_
              refine g_istore (pc' := 67) (lv' := [(5, .int 0), (4, .int 1), (3, .int (f50 (cN k))), (0, .ref (xa X 46)), (1, .int k), (2, .int x)]) C dX10_isOf_65 (by decide) rfl rfl ?_
              refine g_iload_n (pc' := 68) C dX10_isOf_67 5 rfl rfl rfl ?_
              refine g_if_eq (pc' := 71) (tgt := 98) C dX10_isOf_68 (by decide) rfl (fun c_68 => ?_) (fun c_68 => ?_)
              · refine g_iconst (pc' := 99) (v := 1) C dX10_isOf_98 rfl rfl ?_
                refine g_goto (tgt := 103) C dX10_isOf_99 (by decide) ?_
                exact g_iret C hr dX10_isOf_103 (by first | rfl | omega | (simp [ioR, kofB, bz, b_2, b_12, c_30, c_47, c_52, c_57, c_68]; done) | (simp [ioR, kofB, bz, b_2, b_12, c_30, c_47, c_52, c_57, c_68]; omega) | (simp [ioR, kofB, bz, b_2, b_12, c_30, c_47, c_52, c_57, c_68]; intros; exfalso; omega) | grind [ioR, kofB, bz]) rfl
              · refine g_iload_n (pc' := 72) C dX10_isOf_71 5 rfl rfl rfl ?_
                refine g_iload_n (pc' := 73) C dX10_isOf_72 2 rfl rfl rfl ?_
                refine g_icmp_eq (pc' := 76) (tgt := 98) C dX10_isOf_73 (by decide) rfl (fun c_73 => ?_) (fun c_73 => ?_)
                · refine g_iconst (pc' := 99) (v := 1) C dX10_isOf_98 rfl rfl ?_
                  refine g_goto (tgt := 103) C dX10_isOf_99 (by decide) ?_
                  exact g_iret C hr dX10_isOf_103 (by first | rfl | omega | (simp [ioR, kofB, bz, b_2, b_12, c_30, c_47, c_52, c_57, c_68, c_73]; done) | (simp [ioR, kofB, bz, b_2, b_12, c_30, c_47, c_52, c_57, c_68, c_73]; omega) | (simp [ioR, kofB, bz, b_2, b_12, c_30, c_47, c_52, c_57, c_68, c_73]; intros; exfalso; omega) | grind [ioR, kofB, bz]) rfl
                · refine g_iload_n (pc' := 77) C dX10_isOf_76 5 rfl rfl rfl ?_
                  refine g_bipush (pc' := 79) (v := 6) C dX10_isOf_77 (by decide) rfl ?_
                  refine g_icmp_ne (pc' := 82) (tgt := 87) C dX10_isOf_79 (by decide) rfl (fun c_79 => ?_) (fun c_79 => ?_)
                  · refine g_iload_n (pc' := 88) C dX10_isOf_87 5 rfl rfl rfl ?_
                    refine g_bipush (pc' := 90) (v := 7) C dX10_isOf_88 (by decide) rfl ?_
                    refine g_icmp_ne (pc' := 93) (tgt := 102) C dX10_isOf_90 (by decide) rfl (fun c_90 => ?_) (fun c_90 => ?_)
                    · refine g_iconst (pc' := 103) (v := 0) C dX10_isOf_102 rfl rfl ?_
                      exact g_iret C hr dX10_isOf_103 (by first | rfl | omega | (simp [ioR, kofB, bz, b_2, b_12, c_30, c_47, c_52, c_57, c_68, c_73, c_79, c_90]; done) | (simp [ioR, kofB, bz, b_2, b_12, c_30, c_47, c_52, c_57, c_68, c_73, c_79, c_90]; omega) | (simp [ioR, kofB, bz, b_2, b_12, c_30, c_47, c_52, c_57, c_68, c_73, c_79, c_90]; intros; exfalso; omega) | grind [ioR, kofB, bz]) rfl
                    · refine g_iload (pc' := 95) C dX10_isOf_93 0 rfl rfl ?_
                      refine g_if_eq (pc' := 98) (tgt := 102) C dX10_isOf_95 (by decide) rfl (fun _ => ?_) (fun h => absurd h (by decide))
                      refine g_iconst (pc' := 103) (v := 0) C dX10_isOf_102 rfl rfl ?_
                      exact g_iret C hr dX10_isOf_103 (by first | rfl | omega | (simp [ioR, kofB, bz, b_2, b_12, c_30, c_47, c_52, c_57, c_68, c_73, c_79, c_90]; done) | (simp [ioR, kofB, bz, b_2, b_12, c_30, c_47, c_52, c_57, c_68, c_73, c_79, c_90]; omega) | (simp [ioR, kofB, bz, b_2, b_12, c_30, c_47, c_52, c_57, c_68, c_73, c_79, c_90]; intros; exfalso; omega) | grind [ioR, kofB, bz]) rfl
                  · refine g_iload (pc' := 84) C dX10_isOf_82 1 rfl rfl ?_
                    refine g_if_ne (pc' := 87) (tgt := 98) C dX10_isOf_84 (by decide) rfl (fun _ => ?_) (fun h => absurd h (by decide))
                    refine g_iconst (pc' := 99) (v := 1) C dX10_isOf_98 rfl rfl ?_
                    refine g_goto (tgt := 103) C dX10_isOf_99 (by decide) ?_
                    exact g_iret C hr dX10_isOf_103 (by first | rfl | omega | (simp [ioR, kofB, bz, b_2, b_12, c_30, c_47, c_52, c_57, c_68, c_73, c_79]; done) | (simp [ioR, kofB, bz, b_2, b_12, c_30, c_47, c_52, c_57, c_68, c_73, c_79]; omega) | (simp [ioR, kofB, bz, b_2, b_12, c_30, c_47, c_52, c_57, c_68, c_73, c_79]; intros; exfalso; omega) | grind [ioR, kofB, bz]) rfl
            · refine g_iconst (pc' := 61) (v := 1) C dX10_isOf_60 rfl rfl ?_
              refine g_goto (tgt := 65) C dX10_isOf_61 (by decide) ?_
              refine g_istore (pc' := 67) (lv' := [(5, .int 1), (4, .int 1), (3, .int (f50 (cN k))), (0, .ref (xa X 46)), (1, .int k), (2, .int x)]) C dX10_isOf_65 (by decide) rfl rfl ?_
              refine g_iload_n (pc' := 68) C dX10_isOf_67 5 rfl rfl rfl ?_
              refine g_if_eq (pc' := 71) (tgt := 98) C dX10_isOf_68 (by decide) rfl (fun c_68 => ?_) (fun c_68 => ?_)
              · refine g_iconst (pc' := 99) (v := 1) C dX10_isOf_98 rfl rfl ?_
                refine g_goto (tgt := 103) C dX10_isOf_99 (by decide) ?_
                exact g_iret C hr dX10_isOf_103 (by first | rfl | omega | (simp [ioR, kofB, bz, b_2, b_12, c_30, c_47, c_52, c_57, c_68]; done) | (simp [ioR, kofB, bz, b_2, b_12, c_30, c_47, c_52, c_57, c_68]; omega) | (simp [ioR, kofB, bz, b_2, b_12, c_30, c_47, c_52, c_57, c_68]; intros; exfalso; omega) | grind [ioR, kofB, bz]) rfl
              · refine g_iload_n (pc' := 72) C dX10_isOf_71 5 rfl rfl rfl ?_
                refine g_iload_n (pc' := 73) C dX10_isOf_72 2 rfl rfl rfl ?_
                refine g_icmp_eq (pc' := 76) (tgt := 98) C dX10_isOf_73 (by decide) rfl (fun c_73 => ?_) (fun c_73 => ?_)
                · refine g_iconst (pc' := 99) (v := 1) C dX10_isOf_98 rfl rfl ?_
                  refine g_goto (tgt := 103) C dX10_isOf_99 (by decide) ?_
                  exact g_iret C hr dX10_isOf_103 (by first | rfl | omega | (simp [ioR, kofB, bz, b_2, b_12, c_30, c_47, c_52, c_57, c_68, c_73]; done) | (simp [ioR, kofB, bz, b_2, b_12, c_30, c_47, c_52, c_57, c_68, c_73]; omega) | (simp [ioR, kofB, bz, b_2, b_12, c_30, c_47, c_52, c_57, c_68, c_73]; intros; exfalso; omega) | grind [ioR, kofB, bz]) rfl
                · refine g_iload_n (pc' := 77) C dX10_isOf_76 5 rfl rfl rfl ?_
                  refine g_bipush (pc' := 79) (v := 6) C dX10_isOf_77 (by decide) rfl ?_
                  refine g_icmp_ne (pc' := 82) (tgt := 87) C dX10_isOf_79 (by decide) rfl (fun c_79 => ?_) (fun c_79 => ?_)
                  · refine g_iload_n (pc' := 88) C dX10_isOf_87 5 rfl rfl rfl ?_
                    refine g_bipush (pc' := 90) (v := 7) C dX10_isOf_88 (by decide) rfl ?_
                    refine g_icmp_ne (pc' := 93) (tgt := 102) C dX10_isOf_90 (by decide) rfl (fun c_90 => ?_) (fun c_90 => ?_)
                    · refine g_iconst (pc' := 103) (v := 0) C dX10_isOf_102 rfl rfl ?_
                      exact g_iret C hr dX10_isOf_103 (by first | rfl | omega | (simp [ioR, kofB, bz, b_2, b_12, c_30, c_47, c_52, c_57, c_68, c_73, c_79, c_90]; done) | (simp [ioR, kofB, bz, b_2, b_12, c_30, c_47, c_52, c_57, c_68, c_73, c_79, c_90]; omega) | (simp [ioR, kofB, bz, b_2, b_12, c_30, c_47, c_52, c_57, c_68, c_73, c_79, c_90]; intros; exfalso; omega) | grind [ioR, kofB, bz]) rfl
                    · refine g_iload (pc' := 95) C dX10_isOf_93 0 rfl rfl ?_
                      refine g_if_eq (pc' := 98) (tgt := 102) C dX10_isOf_95 (by decide) rfl (fun h => absurd h (by decide)) (fun _ => ?_)
                      refine g_iconst (pc' := 99) (v := 1) C dX10_isOf_98 rfl rfl ?_
                      refine g_goto (tgt := 103) C dX10_isOf_99 (by decide) ?_
                      exact g_iret C hr dX10_isOf_103 (by first | rfl | omega | (simp [ioR, kofB, bz, b_2, b_12, c_30, c_47, c_52, c_57, c_68, c_73, c_79, c_90]; done) | (simp [ioR, kofB, bz, b_2, b_12, c_30, c_47, c_52, c_57, c_68, c_73, c_79, c_90]; omega) | (simp [ioR, kofB, bz, b_2, b_12, c_30, c_47, c_52, c_57, c_68, c_73, c_79, c_90]; intros; exfalso; omega) | grind [ioR, kofB, bz]) rfl
                  · refine g_iload (pc' := 84) C dX10_isOf_82 1 rfl rfl ?_
                    refine g_if_ne (pc' := 87) (tgt := 98) C dX10_isOf_84 (by decide) rfl (fun _ => ?_) (fun h => absurd h (by decide))
                    refine g_iconst (pc' := 99) (v := 1) C dX10_isOf_98 rfl rfl ?_
                    refine g_goto (tgt := 103) C dX10_isOf_99 (by decide) ?_
                    exact g_iret C hr dX10_isOf_103 (by first | rfl | omega | (simp [ioR, kofB, bz, b_2, b_12, c_30, c_47, c_52, c_57, c_68, c_73, c_79]; done) | (simp [ioR, kofB, bz, b_2, b_12, c_30, c_47, c_52, c_57, c_68, c_73, c_79]; omega) | (simp [ioR, kofB, bz, b_2, b_12, c_30, c_47, c_52, c_57, c_68, c_73, c_79]; intros; exfalso; omega) | grind [ioR, kofB, bz]) rfl
      · refine g_iload_n (pc' := 34) C dX10_isOf_33 0 rfl rfl rfl ?_
        refine g_iconst (pc' := 35) (v := 5) C dX10_isOf_34 rfl rfl ?_
        refine g_icmp_ne (pc' := 38) (tgt := 42) C dX10_isOf_35 (by decide) rfl (fun c_35 => ?_) (fun c_35 => ?_)
        · refine g_iconst (pc' := 43) (v := 0) C dX10_isOf_42 rfl rfl ?_
          refine g_istore (pc' := 45) (lv' := [(4, .int 0), (3, .int (f50 (cN k))), (0, .ref (xa X 46)), (1, .int k), (2, .int x)]) C dX10_isOf_43 (by decide) rfl rfl ?_
          refine g_iload_n (pc' := 46) C dX10_isOf_45 1 rfl rfl rfl ?_
          refine g_iconst (pc' := 47) (v := 1) C dX10_isOf_46 rfl rfl ?_
          refine g_icmp_eq (pc' := 50) (tgt := 60) C dX10_isOf_47 (by decide) rfl (fun c_47 => ?_) (fun c_47 => ?_)
          · refine g_iconst (pc' := 61) (v := 1) C dX10_isOf_60 rfl rfl ?_
            refine g_goto (tgt := 65) C dX10_isOf_61 (by decide) ?_
            refine g_istore (pc' := 67) (lv' := [(5, .int 1), (4, .int 0), (3, .int (f50 (cN k))), (0, .ref (xa X 46)), (1, .int k), (2, .int x)]) C dX10_isOf_65 (by decide) rfl rfl ?_
            refine g_iload_n (pc' := 68) C dX10_isOf_67 5 rfl rfl rfl ?_
            refine g_if_eq (pc' := 71) (tgt := 98) C dX10_isOf_68 (by decide) rfl (fun c_68 => ?_) (fun c_68 => ?_)
            · refine g_iconst (pc' := 99) (v := 1) C dX10_isOf_98 rfl rfl ?_
              refine g_goto (tgt := 103) C dX10_isOf_99 (by decide) ?_
              exact g_iret C hr dX10_isOf_103 (by first | rfl | omega | (simp [ioR, kofB, bz, b_2, b_12, c_30, c_35, c_47, c_68]; done) | (simp [ioR, kofB, bz, b_2, b_12, c_30, c_35, c_47, c_68]; omega) | (simp [ioR, kofB, bz, b_2, b_12, c_30, c_35, c_47, c_68]; intros; exfalso; omega) | grind [ioR, kofB, bz]) rfl
            · refine g_iload_n (pc' := 72) C dX10_isOf_71 5 rfl rfl rfl ?_
              refine g_iload_n (pc' := 73) C dX10_isOf_72 2 rfl rfl rfl ?_
              refine g_icmp_eq (pc' := 76) (tgt := 98) C dX10_isOf_73 (by decide) rfl (fun c_73 => ?_) (fun c_73 => ?_)
              · refine g_iconst (pc' := 99) (v := 1) C dX10_isOf_98 rfl rfl ?_
                refine g_goto (tgt := 103) C dX10_isOf_99 (by decide) ?_
                exact g_iret C hr dX10_isOf_103 (by first | rfl | omega | (simp [ioR, kofB, bz, b_2, b_12, c_30, c_35, c_47, c_68, c_73]; done) | (simp [ioR, kofB, bz, b_2, b_12, c_30, c_35, c_47, c_68, c_73]; omega) | (simp [ioR, kofB, bz, b_2, b_12, c_30, c_35, c_47, c_68, c_73]; intros; exfalso; omega) | grind [ioR, kofB, bz]) rfl
              · refine g_iload_n (pc' := 77) C dX10_isOf_76 5 rfl rfl rfl ?_
                refine g_bipush (pc' := 79) (v := 6) C dX10_isOf_77 (by decide) rfl ?_
                refine g_icmp_ne (pc' := 82) (tgt := 87) C dX10_isOf_79 (by decide) rfl (fun c_79 => ?_) (fun c_79 => ?_)
                · refine g_iload_n (pc' := 88) C dX10_isOf_87 5 rfl rfl rfl ?_
                  refine g_bipush (pc' := 90) (v := 7) C dX10_isOf_88 (by decide) rfl ?_
                  refine g_icmp_ne (pc' := 93) (tgt := 102) C dX10_isOf_90 (by decide) rfl (fun c_90 => ?_) (fun c_90 => ?_)
                  · refine g_iconst (pc' := 103) (v := 0) C dX10_isOf_102 rfl rfl ?_
                    exact g_iret C hr dX10_isOf_103 (by first | rfl | omega | (simp [ioR, kofB, bz, b_2, b_12, c_30, c_35, c_47, c_68, c_73, c_79, c_90]; done) | (simp [ioR, kofB, bz, b_2, b_12, c_30, c_35, c_47, c_68, c_73, c_79, c_90]; omega) | (simp [ioR, kofB, bz, b_2, b_12, c_30, c_35, c_47, c_68, c_73, c_79, c_90]; intros; exfalso; omega) | grind [ioR, kofB, bz]) rfl
                  · refine g_iload (pc' := 95) C dX10_isOf_93 0 rfl rfl ?_
                    refine g_if_eq (pc' := 98) (tgt := 102) C dX10_isOf_95 (by decide) rfl (fun h => absurd h (by decide)) (fun _ => ?_)
                    refine g_iconst (pc' := 99) (v := 1) C dX10_isOf_98 rfl rfl ?_
                    refine g_goto (tgt := 103) C dX10_isOf_99 (by decide) ?_
                    exact g_iret C hr dX10_isOf_103 (by first | rfl | omega | (simp [ioR, kofB, bz, b_2, b_12, c_30, c_35, c_47, c_68, c_73, c_79, c_90]; done) | (simp [ioR, kofB, bz, b_2, b_12, c_30, c_35, c_47, c_68, c_73, c_79, c_90]; omega) | (simp [ioR, kofB, bz, b_2, b_12, c_30, c_35, c_47, c_68, c_73, c_79, c_90]; intros; exfalso; omega) | grind [ioR, kofB, bz]) rfl
                · refine g_iload (pc' := 84) C dX10_isOf_82 1 rfl rfl ?_
                  refine g_if_ne (pc' := 87) (tgt := 98) C dX10_isOf_84 (by decide) rfl (fun h => absurd h (by decide)) (fun _ => ?_)
                  refine g_iload_n (pc' := 88) C dX10_isOf_87 5 rfl rfl rfl ?_
                  refine g_bipush (pc' := 90) (v := 7) C dX10_isOf_88 (by decide) rfl ?_
                  refine g_icmp_ne (pc' := 93) (tgt := 102) C dX10_isOf_90 (by decide) rfl (fun c_90 => ?_) (fun c_90 => ?_)
                  · refine g_iconst (pc' := 103) (v := 0) C dX10_isOf_102 rfl rfl ?_
                    exact g_iret C hr dX10_isOf_103 (by first | rfl | omega | (simp [ioR, kofB, bz, b_2, b_12, c_30, c_35, c_47, c_68, c_73, c_79, c_90]; done) | (simp [ioR, kofB, bz, b_2, b_12, c_30, c_35, c_47, c_68, c_73, c_79, c_90]; omega) | (simp [ioR, kofB, bz, b_2, b_12, c_30, c_35, c_47, c_68, c_73, c_79, c_90]; intros; exfalso; omega) | grind [ioR, kofB, bz]) rfl
                  · refine g_iload (pc' := 95) C dX10_isOf_93 0 rfl rfl ?_
                    refine g_if_eq (pc' := 98) (tgt := 102) C dX10_isOf_95 (by decide) rfl (fun h => absurd h (by decide)) (fun _ => ?_)
                    refine g_iconst (pc' := 99) (v := 1) C dX10_isOf_98 rfl rfl ?_
                    refine g_goto (tgt := 103) C dX10_isOf_99 (by decide) ?_
                    exact g_iret C hr dX10_isOf_103 (by first | rfl | omega | (simp [ioR, kofB, bz, b_2, b_12, c_30, c_35, c_47, c_68, c_73, c_79, c_90]; done) | (simp [ioR, kofB, bz, b_2, b_12, c_30, c_35, c_47, c_68, c_73, c_79, c_90]; omega) | (simp [ioR, kofB, bz, b_2, b_12, c_30, c_35, c_47, c_68, c_73, c_79, c_90]; intros; exfalso; omega) | grind [ioR, kofB, bz]) rfl
          · refine g_iload_n (pc' := 51) C dX10_isOf_50 1 rfl rfl rfl ?_
            refine g_iconst (pc' := 52) (v := 2) C dX10_isOf_51 rfl rfl ?_
            refine g_icmp_eq (pc' := 55) (tgt := 60) C dX10_isOf_52 (by decide) rfl (fun c_52 => ?_) (fun c_52 => ?_)
            · refine g_iconst (pc' := 61) (v := 1) C dX10_isOf_60 rfl rfl ?_
              refine g_goto (tgt := 65) C dX10_isOf_61 (by decide) ?_
              refine g_istore (pc' := 67) (lv' := [(5, .int 1), (4, .int 0), (3, .int (f50 (cN k))), (0, .ref (xa X 46)), (1, .int k), (2, .int x)]) C dX10_isOf_65 (by decide) rfl rfl ?_
              refine g_iload_n (pc' := 68) C dX10_isOf_67 5 rfl rfl rfl ?_
              refine g_if_eq (pc' := 71) (tgt := 98) C dX10_isOf_68 (by decide) rfl (fun c_68 => ?_) (fun c_68 => ?_)
              · refine g_iconst (pc' := 99) (v := 1) C dX10_isOf_98 rfl rfl ?_
                refine g_goto (tgt := 103) C dX10_isOf_99 (by decide) ?_
                exact g_iret C hr dX10_isOf_103 (by first | rfl | omega | (simp [ioR, kofB, bz, b_2, b_12, c_30, c_35, c_47, c_52, c_68]; done) | (simp [ioR, kofB, bz, b_2, b_12, c_30, c_35, c_47, c_52, c_68]; omega) | (simp [ioR, kofB, bz, b_2, b_12, c_30, c_35, c_47, c_52, c_68]; intros; exfalso; omega) | grind [ioR, kofB, bz]) rfl
              · refine g_iload_n (pc' := 72) C dX10_isOf_71 5 rfl rfl rfl ?_
                refine g_iload_n (pc' := 73) C dX10_isOf_72 2 rfl rfl rfl ?_
                refine g_icmp_eq (pc' := 76) (tgt := 98) C dX10_isOf_73 (by decide) rfl (fun c_73 => ?_) (fun c_73 => ?_)
                · refine g_iconst (pc' := 99) (v := 1) C dX10_isOf_98 rfl rfl ?_
                  refine g_goto (tgt := 103) C dX10_isOf_99 (by decide) ?_
                  exact g_iret C hr dX10_isOf_103 (by first | rfl | omega | (simp [ioR, kofB, bz, b_2, b_12, c_30, c_35, c_47, c_52, c_68, c_73]; done) | (simp [ioR, kofB, bz, b_2, b_12, c_30, c_35, c_47, c_52, c_68, c_73]; omega) | (simp [ioR, kofB, bz, b_2, b_12, c_30, c_35, c_47, c_52, c_68, c_73]; intros; exfalso; omega) | grind [ioR, kofB, bz]) rfl
                · refine g_iload_n (pc' := 77) C dX10_isOf_76 5 rfl rfl rfl ?_
                  refine g_bipush (pc' := 79) (v := 6) C dX10_isOf_77 (by decide) rfl ?_
                  refine g_icmp_ne (pc' := 82) (tgt := 87) C dX10_isOf_79 (by decide) rfl (fun c_79 => ?_) (fun c_79 => ?_)
                  · refine g_iload_n (pc' := 88) C dX10_isOf_87 5 rfl rfl rfl ?_
                    refine g_bipush (pc' := 90) (v := 7) C dX10_isOf_88 (by decide) rfl ?_
                    refine g_icmp_ne (pc' := 93) (tgt := 102) C dX10_isOf_90 (by decide) rfl (fun c_90 => ?_) (fun c_90 => ?_)
                    · refine g_iconst (pc' := 103) (v := 0) C dX10_isOf_102 rfl rfl ?_
                      exact g_iret C hr dX10_isOf_103 (by first | rfl | omega | (simp [ioR, kofB, bz, b_2, b_12, c_30, c_35, c_47, c_52, c_68, c_73, c_79, c_90]; done) | (simp [ioR, kofB, bz, b_2, b_12, c_30, c_35, c_47, c_52, c_68, c_73, c_79, c_90]; omega) | (simp [ioR, kofB, bz, b_2, b_12, c_30, c_35, c_47, c_52, c_68, c_73, c_79, c_90]; intros; exfalso; omega) | grind [ioR, kofB, bz]) rfl
                    · refine g_iload (pc' := 95) C dX10_isOf_93 0 rfl rfl ?_
                      refine g_if_eq (pc' := 98) (tgt := 102) C dX10_isOf_95 (by decide) rfl (fun h => absurd h (by decide)) (fun _ => ?_)
                      refine g_iconst (pc' := 99) (v := 1) C dX10_isOf_98 rfl rfl ?_
                      refine g_goto (tgt := 103) C dX10_isOf_99 (by decide) ?_
                      exact g_iret C hr dX10_isOf_103 (by first | rfl | omega | (simp [ioR, kofB, bz, b_2, b_12, c_30, c_35, c_47, c_52, c_68, c_73, c_79, c_90]; done) | (simp [ioR, kofB, bz, b_2, b_12, c_30, c_35, c_47, c_52, c_68, c_73, c_79, c_90]; omega) | (simp [ioR, kofB, bz, b_2, b_12, c_30, c_35, c_47, c_52, c_68, c_73, c_79, c_90]; intros; exfalso; omega) | grind [ioR, kofB, bz]) rfl
                  · refine g_iload (pc' := 84) C dX10_isOf_82 1 rfl rfl ?_
                    refine g_if_ne (pc' := 87) (tgt := 98) C dX10_isOf_84 (by decide) rfl (fun h => absurd h (by decide)) (fun _ => ?_)
                    refine g_iload_n (pc' := 88) C dX10_isOf_87 5 rfl rfl rfl ?_
                    refine g_bipush (pc' := 90) (v := 7) C dX10_isOf_88 (by decide) rfl ?_
                    refine g_icmp_ne (pc' := 93) (tgt := 102) C dX10_isOf_90 (by decide) rfl (fun c_90 => ?_) (fun c_90 => ?_)
                    · refine g_iconst (pc' := 103) (v := 0) C dX10_isOf_102 rfl rfl ?_
                      exact g_iret C hr dX10_isOf_103 (by first | rfl | omega | (simp [ioR, kofB, bz, b_2, b_12, c_30, c_35, c_47, c_52, c_68, c_73, c_79, c_90]; done) | (simp [ioR, kofB, bz, b_2, b_12, c_30, c_35, c_47, c_52, c_68, c_73, c_79, c_90]; omega) | (simp [ioR, kofB, bz, b_2, b_12, c_30, c_35, c_47, c_52, c_68, c_73, c_79, c_90]; intros; exfalso; omega) | grind [ioR, kofB, bz]) rfl
                    · refine g_iload (pc' := 95) C dX10_isOf_93 0 rfl rfl ?_
                      refine g_if_eq (pc' := 98) (tgt := 102) C dX10_isOf_95 (by decide) rfl (fun h => absurd h (by decide)) (fun _ => ?_)
                      refine g_iconst (pc' := 99) (v := 1) C dX10_isOf_98 rfl rfl ?_
                      refine g_goto (tgt := 103) C dX10_isOf_99 (by decide) ?_
                      exact g_iret C hr dX10_isOf_103 (by first | rfl | omega | (simp [ioR, kofB, bz, b_2, b_12, c_30, c_35, c_47, c_52, c_68, c_73, c_79, c_90]; done) | (simp [ioR, kofB, bz, b_2, b_12, c_30, c_35, c_47, c_52, c_68, c_73, c_79, c_90]; omega) | (simp [ioR, kofB, bz, b_2, b_12, c_30, c_35, c_47, c_52, c_68, c_73, c_79, c_90]; intros; exfalso; omega) | grind [ioR, kofB, bz]) rfl
            · refine g_iload_n (pc' := 56) C dX10_isOf_55 1 rfl rfl rfl ?_
              refine g_iconst (pc' := 57) (v := 5) C dX10_isOf_56 rfl rfl ?_
              refine g_icmp_ne (pc' := 60) (tgt := 64) C dX10_isOf_57 (by decide) rfl (fun c_57 => ?_) (fun c_57 => ?_)
              · refine g_iconst (pc' := 65) (v := 0) C dX10_isOf_64 rfl rfl ?_
                refine g_istore (pc' := 67) (lv' := [(5, .int 0), (4, .int 0), (3, .int (f50 (cN k))), (0, .ref (xa X 46)), (1, .int k), (2, .int x)]) C dX10_isOf_65 (by decide) rfl rfl ?_
                refine g_iload_n (pc' := 68) C dX10_isOf_67 5 rfl rfl rfl ?_
                refine g_if_eq (pc' := 71) (tgt := 98) C dX10_isOf_68 (by decide) rfl (fun c_68 => ?_) (fun c_68 => ?_)
                · refine g_iconst (pc' := 99) (v := 1) C dX10_isOf_98 rfl rfl ?_
                  refine g_goto (tgt := 103) C dX10_isOf_99 (by decide) ?_
                  exact g_iret C hr dX10_isOf_103 (by first | rfl | omega | (simp [ioR, kofB, bz, b_2, b_12, c_30, c_35, c_47, c_52, c_57, c_68]; done) | (simp [ioR, kofB, bz, b_2, b_12, c_30, c_35, c_47, c_52, c_57, c_68]; omega) | (simp [ioR, kofB, bz, b_2, b_12, c_30, c_35, c_47, c_52, c_57, c_68]; intros; exfalso; omega) | grind [ioR, kofB, bz]) rfl
                · refine g_iload_n (pc' := 72) C dX10_isOf_71 5 rfl rfl rfl ?_
                  refine g_iload_n (pc' := 73) C dX10_isOf_72 2 rfl rfl rfl ?_
                  refine g_icmp_eq (pc' := 76) (tgt := 98) C dX10_isOf_73 (by decide) rfl (fun c_73 => ?_) (fun c_73 => ?_)
                  · refine g_iconst (pc' := 99) (v := 1) C dX10_isOf_98 rfl rfl ?_
                    refine g_goto (tgt := 103) C dX10_isOf_99 (by decide) ?_
                    exact g_iret C hr dX10_isOf_103 (by first | rfl | omega | (simp [ioR, kofB, bz, b_2, b_12, c_30, c_35, c_47, c_52, c_57, c_68, c_73]; done) | (simp [ioR, kofB, bz, b_2, b_12, c_30, c_35, c_47, c_52, c_57, c_68, c_73]; omega) | (simp [ioR, kofB, bz, b_2, b_12, c_30, c_35, c_47, c_52, c_57, c_68, c_73]; intros; exfalso; omega) | grind [ioR, kofB, bz]) rfl
                  · refine g_iload_n (pc' := 77) C dX10_isOf_76 5 rfl rfl rfl ?_
                    refine g_bipush (pc' := 79) (v := 6) C dX10_isOf_77 (by decide) rfl ?_
                    refine g_icmp_ne (pc' := 82) (tgt := 87) C dX10_isOf_79 (by decide) rfl (fun c_79 => ?_) (fun c_79 => ?_)
                    · refine g_iload_n (pc' := 88) C dX10_isOf_87 5 rfl rfl rfl ?_
                      refine g_bipush (pc' := 90) (v := 7) C dX10_isOf_88 (by decide) rfl ?_
                      refine g_icmp_ne (pc' := 93) (tgt := 102) C dX10_isOf_90 (by decide) rfl (fun c_90 => ?_) (fun c_90 => ?_)
                      · refine g_iconst (pc' := 103) (v := 0) C dX10_isOf_102 rfl rfl ?_
                        exact g_iret C hr dX10_isOf_103 (by first | rfl | omega | (simp [ioR, kofB, bz, b_2, b_12, c_30, c_35, c_47, c_52, c_57, c_68, c_73, c_79, c_90]; done) | (simp [ioR, kofB, bz, b_2, b_12, c_30, c_35, c_47, c_52, c_57, c_68, c_73, c_79, c_90]; omega) | (simp [ioR, kofB, bz, b_2, b_12, c_30, c_35, c_47, c_52, c_57, c_68, c_73, c_79, c_90]; intros; exfalso; omega) | grind [ioR, kofB, bz]) rfl
                      · refine g_iload (pc' := 95) C dX10_isOf_93 0 rfl rfl ?_
                        refine g_if_eq (pc' := 98) (tgt := 102) C dX10_isOf_95 (by decide) rfl (fun _ => ?_) (fun h => absurd h (by decide))
                        refine g_iconst (pc' := 103) (v := 0) C dX10_isOf_102 rfl rfl ?_
                        exact g_iret C hr dX10_isOf_103 (by first | rfl | omega | (simp [ioR, kofB, bz, b_2, b_12, c_30, c_35, c_47, c_52, c_57, c_68, c_73, c_79, c_90]; done) | (simp [ioR, kofB, bz, b_2, b_12, c_30, c_35, c_47, c_52, c_57, c_68, c_73, c_79, c_90]; omega) | (simp [ioR, kofB, bz, b_2, b_12, c_30, c_35, c_47, c_52, c_57, c_68, c_73, c_79, c_90]; intros; exfalso; omega) | grind [ioR, kofB, bz]) rfl
                    · refine g_iload (pc' := 84) C dX10_isOf_82 1 rfl rfl ?_
                      refine g_if_ne (pc' := 87) (tgt := 98) C dX10_isOf_84 (by decide) rfl (fun h => absurd h (by decide)) (fun _ => ?_)
                      refine g_iload_n (pc' := 88) C dX10_isOf_87 5 rfl rfl rfl ?_
                      refine g_bipush (pc' := 90) (v := 7) C dX10_isOf_88 (by decide) rfl ?_
                      refine g_icmp_ne (pc' := 93) (tgt := 102) C dX10_isOf_90 (by decide) rfl (fun c_90 => ?_) (fun c_90 => ?_)
                      · refine g_iconst (pc' := 103) (v := 0) C dX10_isOf_102 rfl rfl ?_
                        exact g_iret C hr dX10_isOf_103 (by first | rfl | omega | (simp [ioR, kofB, bz, b_2, b_12, c_30, c_35, c_47, c_52, c_57, c_68, c_73, c_79, c_90]; done) | (simp [ioR, kofB, bz, b_2, b_12, c_30, c_35, c_47, c_52, c_57, c_68, c_73, c_79, c_90]; omega) | (simp [ioR, kofB, bz, b_2, b_12, c_30, c_35, c_47, c_52, c_57, c_68, c_73, c_79, c_90]; intros; exfalso; omega) | grind [ioR, kofB, bz]) rfl
                      · refine g_iload (pc' := 95) C dX10_isOf_93 0 rfl rfl ?_
                        refine g_if_eq (pc' := 98) (tgt := 102) C dX10_isOf_95 (by decide) rfl (fun _ => ?_) (fun h => absurd h (by decide))
                        refine g_iconst (pc' := 103) (v := 0) C dX10_isOf_102 rfl rfl ?_
                        exact g_iret C hr dX10_isOf_103 (by first | rfl | omega | (simp [ioR, kofB, bz, b_2, b_12, c_30, c_35, c_47, c_52, c_57, c_68, c_73, c_79, c_90]; done) | (simp [ioR, kofB, bz, b_2, b_12, c_30, c_35, c_47, c_52, c_57, c_68, c_73, c_79, c_90]; omega) | (simp [ioR, kofB, bz, b_2, b_12, c_30, c_35, c_47, c_52, c_57, c_68, c_73, c_79, c_90]; intros; exfalso; omega) | grind [ioR, kofB, bz]) rfl
              · refine g_iconst (pc' := 61) (v := 1) C dX10_isOf_60 rfl rfl ?_
                refine g_goto (tgt := 65) C dX10_isOf_61 (by decide) ?_
                refine g_istore (pc' := 67) (lv' := [(5, .int 1), (4, .int 0), (3, .int (f50 (cN k))), (0, .ref (xa X 46)), (1, .int k), (2, .int x)]) C dX10_isOf_65 (by decide) rfl rfl ?_
                refine g_iload_n (pc' := 68) C dX10_isOf_67 5 rfl rfl rfl ?_
                refine g_if_eq (pc' := 71) (tgt := 98) C dX10_isOf_68 (by decide) rfl (fun c_68 => ?_) (fun c_68 => ?_)
                · refine g_iconst (pc' := 99) (v := 1) C dX10_isOf_98 rfl rfl ?_
                  refine g_goto (tgt := 103) C dX10_isOf_99 (by decide) ?_
                  exact g_iret C hr dX10_isOf_103 (by first | rfl | omega | (simp [ioR, kofB, bz, b_2, b_12, c_30, c_35, c_47, c_52, c_57, c_68]; done) | (simp [ioR, kofB, bz, b_2, b_12, c_30, c_35, c_47, c_52, c_57, c_68]; omega) | (simp [ioR, kofB, bz, b_2, b_12, c_30, c_35, c_47, c_52, c_57, c_68]; intros; exfalso; omega) | grind [ioR, kofB, bz]) rfl
                · refine g_iload_n (pc' := 72) C dX10_isOf_71 5 rfl rfl rfl ?_
                  refine g_iload_n (pc' := 73) C dX10_isOf_72 2 rfl rfl rfl ?_
                  refine g_icmp_eq (pc' := 76) (tgt := 98) C dX10_isOf_73 (by decide) rfl (fun c_73 => ?_) (fun c_73 => ?_)
                  · refine g_iconst (pc' := 99) (v := 1) C dX10_isOf_98 rfl rfl ?_
                    refine g_goto (tgt := 103) C dX10_isOf_99 (by decide) ?_
                    exact g_iret C hr dX10_isOf_103 (by first | rfl | omega | (simp [ioR, kofB, bz, b_2, b_12, c_30, c_35, c_47, c_52, c_57, c_68, c_73]; done) | (simp [ioR, kofB, bz, b_2, b_12, c_30, c_35, c_47, c_52, c_57, c_68, c_73]; omega) | (simp [ioR, kofB, bz, b_2, b_12, c_30, c_35, c_47, c_52, c_57, c_68, c_73]; intros; exfalso; omega) | grind [ioR, kofB, bz]) rfl
                  · refine g_iload_n (pc' := 77) C dX10_isOf_76 5 rfl rfl rfl ?_
                    refine g_bipush (pc' := 79) (v := 6) C dX10_isOf_77 (by decide) rfl ?_
                    refine g_icmp_ne (pc' := 82) (tgt := 87) C dX10_isOf_79 (by decide) rfl (fun c_79 => ?_) (fun c_79 => ?_)
                    · refine g_iload_n (pc' := 88) C dX10_isOf_87 5 rfl rfl rfl ?_
                      refine g_bipush (pc' := 90) (v := 7) C dX10_isOf_88 (by decide) rfl ?_
                      refine g_icmp_ne (pc' := 93) (tgt := 102) C dX10_isOf_90 (by decide) rfl (fun c_90 => ?_) (fun c_90 => ?_)
                      · refine g_iconst (pc' := 103) (v := 0) C dX10_isOf_102 rfl rfl ?_
                        exact g_iret C hr dX10_isOf_103 (by first | rfl | omega | (simp [ioR, kofB, bz, b_2, b_12, c_30, c_35, c_47, c_52, c_57, c_68, c_73, c_79, c_90]; done) | (simp [ioR, kofB, bz, b_2, b_12, c_30, c_35, c_47, c_52, c_57, c_68, c_73, c_79, c_90]; omega) | (simp [ioR, kofB, bz, b_2, b_12, c_30, c_35, c_47, c_52, c_57, c_68, c_73, c_79, c_90]; intros; exfalso; omega) | grind [ioR, kofB, bz]) rfl
                      · refine g_iload (pc' := 95) C dX10_isOf_93 0 rfl rfl ?_
                        refine g_if_eq (pc' := 98) (tgt := 102) C dX10_isOf_95 (by decide) rfl (fun h => absurd h (by decide)) (fun _ => ?_)
                        refine g_iconst (pc' := 99) (v := 1) C dX10_isOf_98 rfl rfl ?_
                        refine g_goto (tgt := 103) C dX10_isOf_99 (by decide) ?_
                        exact g_iret C hr dX10_isOf_103 (by first | rfl | omega | (simp [ioR, kofB, bz, b_2, b_12, c_30, c_35, c_47, c_52, c_57, c_68, c_73, c_79, c_90]; done) | (simp [ioR, kofB, bz, b_2, b_12, c_30, c_35, c_47, c_52, c_57, c_68, c_73, c_79, c_90]; omega) | (simp [ioR, kofB, bz, b_2, b_12, c_30, c_35, c_47, c_52, c_57, c_68, c_73, c_79, c_90]; intros; exfalso; omega) | grind [ioR, kofB, bz]) rfl
                    · refine g_iload (pc' := 84) C dX10_isOf_82 1 rfl rfl ?_
                      refine g_if_ne (pc' := 87) (tgt := 98) C dX10_isOf_84 (by decide) rfl (fun h => absurd h (by decide)) (fun _ => ?_)
                      refine g_iload_n (pc' := 88) C dX10_isOf_87 5 rfl rfl rfl ?_
                      refine g_bipush (pc' := 90) (v := 7) C dX10_isOf_88 (by decide) rfl ?_
                      refine g_icmp_ne (pc' := 93) (tgt := 102) C dX10_isOf_90 (by decide) rfl (fun c_90 => ?_) (fun c_90 => ?_)
                      · refine g_iconst (pc' := 103) (v := 0) C dX10_isOf_102 rfl rfl ?_
                        exact g_iret C hr dX10_isOf_103 (by first | rfl | omega | (simp [ioR, kofB, bz, b_2, b_12, c_30, c_35, c_47, c_52, c_57, c_68, c_73, c_79, c_90]; done) | (simp [ioR, kofB, bz, b_2, b_12, c_30, c_35, c_47, c_52, c_57, c_68, c_73, c_79, c_90]; omega) | (simp [ioR, kofB, bz, b_2, b_12, c_30, c_35, c_47, c_52, c_57, c_68, c_73, c_79, c_90]; intros; exfalso; omega) | grind [ioR, kofB, bz]) rfl
                      · refine g_iload (pc' := 95) C dX10_isOf_93 0 rfl rfl ?_
                        refine g_if_eq (pc' := 98) (tgt := 102) C dX10_isOf_95 (by decide) rfl (fun h => absurd h (by decide)) (fun _ => ?_)
                        refine g_iconst (pc' := 99) (v := 1) C dX10_isOf_98 rfl rfl ?_
                        refine g_goto (tgt := 103) C dX10_isOf_99 (by decide) ?_
                        exact g_iret C hr dX10_isOf_103 (by first | rfl | omega | (simp [ioR, kofB, bz, b_2, b_12, c_30, c_35, c_47, c_52, c_57, c_68, c_73, c_79, c_90]; done) | (simp [ioR, kofB, bz, b_2, b_12, c_30, c_35, c_47, c_52, c_57, c_68, c_73, c_79, c_90]; omega) | (simp [ioR, kofB, bz, b_2, b_12, c_30, c_35, c_47, c_52, c_57, c_68, c_73, c_79, c_90]; intros; exfalso; omega) | grind [ioR, kofB, bz]) rfl
        · refine g_iconst (pc' := 39) (v := 1) C dX10_isOf_38 rfl rfl ?_
          refine g_goto (tgt := 43) C dX10_isOf_39 (by decide) ?_
          refine g_istore (pc' := 45) (lv' := [(4, .int 1), (3, .int (f50 (cN k))), (0, .ref (xa X 46)), (1, .int k), (2, .int x)]) C dX10_isOf_43 (by decide) rfl rfl ?_
          refine g_iload_n (pc' := 46) C dX10_isOf_45 1 rfl rfl rfl ?_
          refine g_iconst (pc' := 47) (v := 1) C dX10_isOf_46 rfl rfl ?_
          refine g_icmp_eq (pc' := 50) (tgt := 60) C dX10_isOf_47 (by decide) rfl (fun c_47 => ?_) (fun c_47 => ?_)
          · refine g_iconst (pc' := 61) (v := 1) C dX10_isOf_60 rfl rfl ?_
            refine g_goto (tgt := 65) C dX10_isOf_61 (by decide) ?_
            refine g_istore (pc' := 67) (lv' := [(5, .int 1), (4, .int 1), (3, .int (f50 (cN k))), (0, .ref (xa X 46)), (1, .int k), (2, .int x)]) C dX10_isOf_65 (by decide) rfl rfl ?_
            refine g_iload_n (pc' := 68) C dX10_isOf_67 5 rfl rfl rfl ?_
            refine g_if_eq (pc' := 71) (tgt := 98) C dX10_isOf_68 (by decide) rfl (fun c_68 => ?_) (fun c_68 => ?_)
            · refine g_iconst (pc' := 99) (v := 1) C dX10_isOf_98 rfl rfl ?_
              refine g_goto (tgt := 103) C dX10_isOf_99 (by decide) ?_
              exact g_iret C hr dX10_isOf_103 (by first | rfl | omega | (simp [ioR, kofB, bz, b_2, b_12, c_30, c_35, c_47, c_68]; done) | (simp [ioR, kofB, bz, b_2, b_12, c_30, c_35, c_47, c_68]; omega) | (simp [ioR, kofB, bz, b_2, b_12, c_30, c_35, c_47, c_68]; intros; exfalso; omega) | grind [ioR, kofB, bz]) rfl
            · refine g_iload_n (pc' := 72) C dX10_isOf_71 5 rfl rfl rfl ?_
              refine g_iload_n (pc' := 73) C dX10_isOf_72 2 rfl rfl rfl ?_
              refine g_icmp_eq (pc' := 76) (tgt := 98) C dX10_isOf_73 (by decide) rfl (fun c_73 => ?_) (fun c_73 => ?_)
              · refine g_iconst (pc' := 99) (v := 1) C dX10_isOf_98 rfl rfl ?_
                refine g_goto (tgt := 103) C dX10_isOf_99 (by decide) ?_
                exact g_iret C hr dX10_isOf_103 (by first | rfl | omega | (simp [ioR, kofB, bz, b_2, b_12, c_30, c_35, c_47, c_68, c_73]; done) | (simp [ioR, kofB, bz, b_2, b_12, c_30, c_35, c_47, c_68, c_73]; omega) | (simp [ioR, kofB, bz, b_2, b_12, c_30, c_35, c_47, c_68, c_73]; intros; exfalso; omega) | grind [ioR, kofB, bz]) rfl
              · refine g_iload_n (pc' := 77) C dX10_isOf_76 5 rfl rfl rfl ?_
                refine g_bipush (pc' := 79) (v := 6) C dX10_isOf_77 (by decide) rfl ?_
                refine g_icmp_ne (pc' := 82) (tgt := 87) C dX10_isOf_79 (by decide) rfl (fun c_79 => ?_) (fun c_79 => ?_)
                · refine g_iload_n (pc' := 88) C dX10_isOf_87 5 rfl rfl rfl ?_
                  refine g_bipush (pc' := 90) (v := 7) C dX10_isOf_88 (by decide) rfl ?_
                  refine g_icmp_ne (pc' := 93) (tgt := 102) C dX10_isOf_90 (by decide) rfl (fun c_90 => ?_) (fun c_90 => ?_)
                  · refine g_iconst (pc' := 103) (v := 0) C dX10_isOf_102 rfl rfl ?_
                    exact g_iret C hr dX10_isOf_103 (by first | rfl | omega | (simp [ioR, kofB, bz, b_2, b_12, c_30, c_35, c_47, c_68, c_73, c_79, c_90]; done) | (simp [ioR, kofB, bz, b_2, b_12, c_30, c_35, c_47, c_68, c_73, c_79, c_90]; omega) | (simp [ioR, kofB, bz, b_2, b_12, c_30, c_35, c_47, c_68, c_73, c_79, c_90]; intros; exfalso; omega) | grind [ioR, kofB, bz]) rfl
                  · refine g_iload (pc' := 95) C dX10_isOf_93 0 rfl rfl ?_
                    refine g_if_eq (pc' := 98) (tgt := 102) C dX10_isOf_95 (by decide) rfl (fun h => absurd h (by decide)) (fun _ => ?_)
                    refine g_iconst (pc' := 99) (v := 1) C dX10_isOf_98 rfl rfl ?_
                    refine g_goto (tgt := 103) C dX10_isOf_99 (by decide) ?_
                    exact g_iret C hr dX10_isOf_103 (by first | rfl | omega | (simp [ioR, kofB, bz, b_2, b_12, c_30, c_35, c_47, c_68, c_73, c_79, c_90]; done) | (simp [ioR, kofB, bz, b_2, b_12, c_30, c_35, c_47, c_68, c_73, c_79, c_90]; omega) | (simp [ioR, kofB, bz, b_2, b_12, c_30, c_35, c_47, c_68, c_73, c_79, c_90]; intros; exfalso; omega) | grind [ioR, kofB, bz]) rfl
                · refine g_iload (pc' := 84) C dX10_isOf_82 1 rfl rfl ?_
                  refine g_if_ne (pc' := 87) (tgt := 98) C dX10_isOf_84 (by decide) rfl (fun _ => ?_) (fun h => absurd h (by decide))
                  refine g_iconst (pc' := 99) (v := 1) C dX10_isOf_98 rfl rfl ?_
                  refine g_goto (tgt := 103) C dX10_isOf_99 (by decide) ?_
                  exact g_iret C hr dX10_isOf_103 (by first | rfl | omega | (simp [ioR, kofB, bz, b_2, b_12, c_30, c_35, c_47, c_68, c_73, c_79]; done) | (simp [ioR, kofB, bz, b_2, b_12, c_30, c_35, c_47, c_68, c_73, c_79]; omega) | (simp [ioR, kofB, bz, b_2, b_12, c_30, c_35, c_47, c_68, c_73, c_79]; intros; exfalso; omega) | grind [ioR, kofB, bz]) rfl
          · refine g_iload_n (pc' := 51) C dX10_isOf_50 1 rfl rfl rfl ?_
            refine g_iconst (pc' := 52) (v := 2) C dX10_isOf_51 rfl rfl ?_
            refine g_icmp_eq (pc' := 55) (tgt := 60) C dX10_isOf_52 (by decide) rfl (fun c_52 => ?_) (fun c_52 => ?_)
            · refine g_iconst (pc' := 61) (v := 1) C dX10_isOf_60 rfl rfl ?_
              refine g_goto (tgt := 65) C dX10_isOf_61 (by decide) ?_
              refine g_istore (pc' := 67) (lv' := [(5, .int 1), (4, .int 1), (3, .int (f50 (cN k))), (0, .ref (xa X 46)), (1, .int k), (2, .int x)]) C dX10_isOf_65 (by decide) rfl rfl ?_
              refine g_iload_n (pc' := 68) C dX10_isOf_67 5 rfl rfl rfl ?_
              refine g_if_eq (pc' := 71) (tgt := 98) C dX10_isOf_68 (by decide) rfl (fun c_68 => ?_) (fun c_68 => ?_)
              · refine g_iconst (pc' := 99) (v := 1) C dX10_isOf_98 rfl rfl ?_
                refine g_goto (tgt := 103) C dX10_isOf_99 (by decide) ?_
                exact g_iret C hr dX10_isOf_103 (by first | rfl | omega | (simp [ioR, kofB, bz, b_2, b_12, c_30, c_35, c_47, c_52, c_68]; done) | (simp [ioR, kofB, bz, b_2, b_12, c_30, c_35, c_47, c_52, c_68]; omega) | (simp [ioR, kofB, bz, b_2, b_12, c_30, c_35, c_47, c_52, c_68]; intros; exfalso; omega) | grind [ioR, kofB, bz]) rfl
              · refine g_iload_n (pc' := 72) C dX10_isOf_71 5 rfl rfl rfl ?_
                refine g_iload_n (pc' := 73) C dX10_isOf_72 2 rfl rfl rfl ?_
                refine g_icmp_eq (pc' := 76) (tgt := 98) C dX10_isOf_73 (by decide) rfl (fun c_73 => ?_) (fun c_73 => ?_)
                · refine g_iconst (pc' := 99) (v := 1) C dX10_isOf_98 rfl rfl ?_
                  refine g_goto (tgt := 103) C dX10_isOf_99 (by decide) ?_
                  exact g_iret C hr dX10_isOf_103 (by first | rfl | omega | (simp [ioR, kofB, bz, b_2, b_12, c_30, c_35, c_47, c_52, c_68, c_73]; done) | (simp [ioR, kofB, bz, b_2, b_12, c_30, c_35, c_47, c_52, c_68, c_73]; omega) | (simp [ioR, kofB, bz, b_2, b_12, c_30, c_35, c_47, c_52, c_68, c_73]; intros; exfalso; omega) | grind [ioR, kofB, bz]) rfl
                · refine g_iload_n (pc' := 77) C dX10_isOf_76 5 rfl rfl rfl ?_
                  refine g_bipush (pc' := 79) (v := 6) C dX10_isOf_77 (by decide) rfl ?_
                  refine g_icmp_ne (pc' := 82) (tgt := 87) C dX10_isOf_79 (by decide) rfl (fun c_79 => ?_) (fun c_79 => ?_)
                  · refine g_iload_n (pc' := 88) C dX10_isOf_87 5 rfl rfl rfl ?_
                    refine g_bipush (pc' := 90) (v := 7) C dX10_isOf_88 (by decide) rfl ?_
                    refine g_icmp_ne (pc' := 93) (tgt := 102) C dX10_isOf_90 (by decide) rfl (fun c_90 => ?_) (fun c_90 => ?_)
                    · refine g_iconst (pc' := 103) (v := 0) C dX10_isOf_102 rfl rfl ?_
                      exact g_iret C hr dX10_isOf_103 (by first | rfl | omega | (simp [ioR, kofB, bz, b_2, b_12, c_30, c_35, c_47, c_52, c_68, c_73, c_79, c_90]; done) | (simp [ioR, kofB, bz, b_2, b_12, c_30, c_35, c_47, c_52, c_68, c_73, c_79, c_90]; omega) | (simp [ioR, kofB, bz, b_2, b_12, c_30, c_35, c_47, c_52, c_68, c_73, c_79, c_90]; intros; exfalso; omega) | grind [ioR, kofB, bz]) rfl
                    · refine g_iload (pc' := 95) C dX10_isOf_93 0 rfl rfl ?_
                      refine g_if_eq (pc' := 98) (tgt := 102) C dX10_isOf_95 (by decide) rfl (fun h => absurd h (by decide)) (fun _ => ?_)
                      refine g_iconst (pc' := 99) (v := 1) C dX10_isOf_98 rfl rfl ?_
                      refine g_goto (tgt := 103) C dX10_isOf_99 (by decide) ?_
                      exact g_iret C hr dX10_isOf_103 (by first | rfl | omega | (simp [ioR, kofB, bz, b_2, b_12, c_30, c_35, c_47, c_52, c_68, c_73, c_79, c_90]; done) | (simp [ioR, kofB, bz, b_2, b_12, c_30, c_35, c_47, c_52, c_68, c_73, c_79, c_90]; omega) | (simp [ioR, kofB, bz, b_2, b_12, c_30, c_35, c_47, c_52, c_68, c_73, c_79, c_90]; intros; exfalso; omega) | grind [ioR, kofB, bz]) rfl
                  · refine g_iload (pc' := 84) C dX10_isOf_82 1 rfl rfl ?_
                    refine g_if_ne (pc' := 87) (tgt := 98) C dX10_isOf_84 (by decide) rfl (fun _ => ?_) (fun h => absurd h (by decide))
                    refine g_iconst (pc' := 99) (v := 1) C dX10_isOf_98 rfl rfl ?_
                    refine g_goto (tgt := 103) C dX10_isOf_99 (by decide) ?_
                    exact g_iret C hr dX10_isOf_103 (by first | rfl | omega | (simp [ioR, kofB, bz, b_2, b_12, c_30, c_35, c_47, c_52, c_68, c_73, c_79]; done) | (simp [ioR, kofB, bz, b_2, b_12, c_30, c_35, c_47, c_52, c_68, c_73, c_79]; omega) | (simp [ioR, kofB, bz, b_2, b_12, c_30, c_35, c_47, c_52, c_68, c_73, c_79]; intros; exfalso; omega) | grind [ioR, kofB, bz]) rfl
            · refine g_iload_n (pc' := 56) C dX10_isOf_55 1 rfl rfl rfl ?_
              refine g_iconst (pc' := 57) (v := 5) C dX10_isOf_56 rfl rfl ?_
              refine g_icmp_ne (pc' := 60) (tgt := 64) C dX10_isOf_57 (by decide) rfl (fun c_57 => ?_) (fun c_57 => ?_)
              · refine g_iconst (pc' := 65) (v := 0) C dX10_isOf_64 rfl rfl ?_
                refine g_istore (pc' := 67) (lv' := [(5, .int 0), (4, .int 1), (3, .int (f50 (cN k))), (0, .ref (xa X 46)), (1, .int k), (2, .int x)]) C dX10_isOf_65 (by decide) rfl rfl ?_
                refine g_iload_n (pc' := 68) C dX10_isOf_67 5 rfl rfl rfl ?_
                refine g_if_eq (pc' := 71) (tgt := 98) C dX10_isOf_68 (by decide) rfl (fun c_68 => ?_) (fun c_68 => ?_)
                · refine g_iconst (pc' := 99) (v := 1) C dX10_isOf_98 rfl rfl ?_
                  refine g_goto (tgt := 103) C dX10_isOf_99 (by decide) ?_
                  exact g_iret C hr dX10_isOf_103 (by first | rfl | omega | (simp [ioR, kofB, bz, b_2, b_12, c_30, c_35, c_47, c_52, c_57, c_68]; done) | (simp [ioR, kofB, bz, b_2, b_12, c_30, c_35, c_47, c_52, c_57, c_68]; omega) | (simp [ioR, kofB, bz, b_2, b_12, c_30, c_35, c_47, c_52, c_57, c_68]; intros; exfalso; omega) | grind [ioR, kofB, bz]) rfl
                · refine g_iload_n (pc' := 72) C dX10_isOf_71 5 rfl rfl rfl ?_
                  refine g_iload_n (pc' := 73) C dX10_isOf_72 2 rfl rfl rfl ?_
                  refine g_icmp_eq (pc' := 76) (tgt := 98) C dX10_isOf_73 (by decide) rfl (fun c_73 => ?_) (fun c_73 => ?_)
                  · refine g_iconst (pc' := 99) (v := 1) C dX10_isOf_98 rfl rfl ?_
                    refine g_goto (tgt := 103) C dX10_isOf_99 (by decide) ?_
                    exact g_iret C hr dX10_isOf_103 (by first | rfl | omega | (simp [ioR, kofB, bz, b_2, b_12, c_30, c_35, c_47, c_52, c_57, c_68, c_73]; done) | (simp [ioR, kofB, bz, b_2, b_12, c_30, c_35, c_47, c_52, c_57, c_68, c_73]; omega) | (simp [ioR, kofB, bz, b_2, b_12, c_30, c_35, c_47, c_52, c_57, c_68, c_73]; intros; exfalso; omega) | grind [ioR, kofB, bz]) rfl
                  · refine g_iload_n (pc' := 77) C dX10_isOf_76 5 rfl rfl rfl ?_
                    refine g_bipush (pc' := 79) (v := 6) C dX10_isOf_77 (by decide) rfl ?_
                    refine g_icmp_ne (pc' := 82) (tgt := 87) C dX10_isOf_79 (by decide) rfl (fun c_79 => ?_) (fun c_79 => ?_)
                    · refine g_iload_n (pc' := 88) C dX10_isOf_87 5 rfl rfl rfl ?_
                      refine g_bipush (pc' := 90) (v := 7) C dX10_isOf_88 (by decide) rfl ?_
                      refine g_icmp_ne (pc' := 93) (tgt := 102) C dX10_isOf_90 (by decide) rfl (fun c_90 => ?_) (fun c_90 => ?_)
                      · refine g_iconst (pc' := 103) (v := 0) C dX10_isOf_102 rfl rfl ?_
                        exact g_iret C hr dX10_isOf_103 (by first | rfl | omega | (simp [ioR, kofB, bz, b_2, b_12, c_30, c_35, c_47, c_52, c_57, c_68, c_73, c_79, c_90]; done) | (simp [ioR, kofB, bz, b_2, b_12, c_30, c_35, c_47, c_52, c_57, c_68, c_73, c_79, c_90]; omega) | (simp [ioR, kofB, bz, b_2, b_12, c_30, c_35, c_47, c_52, c_57, c_68, c_73, c_79, c_90]; intros; exfalso; omega) | grind [ioR, kofB, bz]) rfl
                      · refine g_iload (pc' := 95) C dX10_isOf_93 0 rfl rfl ?_
                        refine g_if_eq (pc' := 98) (tgt := 102) C dX10_isOf_95 (by decide) rfl (fun _ => ?_) (fun h => absurd h (by decide))
                        refine g_iconst (pc' := 103) (v := 0) C dX10_isOf_102 rfl rfl ?_
                        exact g_iret C hr dX10_isOf_103 (by first | rfl | omega | (simp [ioR, kofB, bz, b_2, b_12, c_30, c_35, c_47, c_52, c_57, c_68, c_73, c_79, c_90]; done) | (simp [ioR, kofB, bz, b_2, b_12, c_30, c_35, c_47, c_52, c_57, c_68, c_73, c_79, c_90]; omega) | (simp [ioR, kofB, bz, b_2, b_12, c_30, c_35, c_47, c_52, c_57, c_68, c_73, c_79, c_90]; intros; exfalso; omega) | grind [ioR, kofB, bz]) rfl
                    · refine g_iload (pc' := 84) C dX10_isOf_82 1 rfl rfl ?_
                      refine g_if_ne (pc' := 87) (tgt := 98) C dX10_isOf_84 (by decide) rfl (fun _ => ?_) (fun h => absurd h (by decide))
                      refine g_iconst (pc' := 99) (v := 1) C dX10_isOf_98 rfl rfl ?_
                      refine g_goto (tgt := 103) C dX10_isOf_99 (by decide) ?_
                      exact g_iret C hr dX10_isOf_103 (by first | rfl | omega | (simp [ioR, kofB, bz, b_2, b_12, c_30, c_35, c_47, c_52, c_57, c_68, c_73, c_79]; done) | (simp [ioR, kofB, bz, b_2, b_12, c_30, c_35, c_47, c_52, c_57, c_68, c_73, c_79]; omega) | (simp [ioR, kofB, bz, b_2, b_12, c_30, c_35, c_47, c_52, c_57, c_68, c_73, c_79]; intros; exfalso; omega) | grind [ioR, kofB, bz]) rfl
              · refine g_iconst (pc' := 61) (v := 1) C dX10_isOf_60 rfl rfl ?_
                refine g_goto (tgt := 65) C dX10_isOf_61 (by decide) ?_
                refine g_istore (pc' := 67) (lv' := [(5, .int 1), (4, .int 1), (3, .int (f50 (cN k))), (0, .ref (xa X 46)), (1, .int k), (2, .int x)]) C dX10_isOf_65 (by decide) rfl rfl ?_
                refine g_iload_n (pc' := 68) C dX10_isOf_67 5 rfl rfl rfl ?_
                refine g_if_eq (pc' := 71) (tgt := 98) C dX10_isOf_68 (by decide) rfl (fun c_68 => ?_) (fun c_68 => ?_)
                · refine g_iconst (pc' := 99) (v := 1) C dX10_isOf_98 rfl rfl ?_
                  refine g_goto (tgt := 103) C dX10_isOf_99 (by decide) ?_
                  exact g_iret C hr dX10_isOf_103 (by first | rfl | omega | (simp [ioR, kofB, bz, b_2, b_12, c_30, c_35, c_47, c_52, c_57, c_68]; done) | (simp [ioR, kofB, bz, b_2, b_12, c_30, c_35, c_47, c_52, c_57, c_68]; omega) | (simp [ioR, kofB, bz, b_2, b_12, c_30, c_35, c_47, c_52, c_57, c_68]; intros; exfalso; omega) | grind [ioR, kofB, bz]) rfl
                · refine g_iload_n (pc' := 72) C dX10_isOf_71 5 rfl rfl rfl ?_
                  refine g_iload_n (pc' := 73) C dX10_isOf_72 2 rfl rfl rfl ?_
                  refine g_icmp_eq (pc' := 76) (tgt := 98) C dX10_isOf_73 (by decide) rfl (fun c_73 => ?_) (fun c_73 => ?_)
                  · refine g_iconst (pc' := 99) (v := 1) C dX10_isOf_98 rfl rfl ?_
                    refine g_goto (tgt := 103) C dX10_isOf_99 (by decide) ?_
                    exact g_iret C hr dX10_isOf_103 (by first | rfl | omega | (simp [ioR, kofB, bz, b_2, b_12, c_30, c_35, c_47, c_52, c_57, c_68, c_73]; done) | (simp [ioR, kofB, bz, b_2, b_12, c_30, c_35, c_47, c_52, c_57, c_68, c_73]; omega) | (simp [ioR, kofB, bz, b_2, b_12, c_30, c_35, c_47, c_52, c_57, c_68, c_73]; intros; exfalso; omega) | grind [ioR, kofB, bz]) rfl
                  · refine g_iload_n (pc' := 77) C dX10_isOf_76 5 rfl rfl rfl ?_
                    refine g_bipush (pc' := 79) (v := 6) C dX10_isOf_77 (by decide) rfl ?_
                    refine g_icmp_ne (pc' := 82) (tgt := 87) C dX10_isOf_79 (by decide) rfl (fun c_79 => ?_) (fun c_79 => ?_)
                    · refine g_iload_n (pc' := 88) C dX10_isOf_87 5 rfl rfl rfl ?_
                      refine g_bipush (pc' := 90) (v := 7) C dX10_isOf_88 (by decide) rfl ?_
                      refine g_icmp_ne (pc' := 93) (tgt := 102) C dX10_isOf_90 (by decide) rfl (fun c_90 => ?_) (fun c_90 => ?_)
                      · refine g_iconst (pc' := 103) (v := 0) C dX10_isOf_102 rfl rfl ?_
                        exact g_iret C hr dX10_isOf_103 (by first | rfl | omega | (simp [ioR, kofB, bz, b_2, b_12, c_30, c_35, c_47, c_52, c_57, c_68, c_73, c_79, c_90]; done) | (simp [ioR, kofB, bz, b_2, b_12, c_30, c_35, c_47, c_52, c_57, c_68, c_73, c_79, c_90]; omega) | (simp [ioR, kofB, bz, b_2, b_12, c_30, c_35, c_47, c_52, c_57, c_68, c_73, c_79, c_90]; intros; exfalso; omega) | grind [ioR, kofB, bz]) rfl
                      · refine g_iload (pc' := 95) C dX10_isOf_93 0 rfl rfl ?_
                        refine g_if_eq (pc' := 98) (tgt := 102) C dX10_isOf_95 (by decide) rfl (fun h => absurd h (by decide)) (fun _ => ?_)
                        refine g_iconst (pc' := 99) (v := 1) C dX10_isOf_98 rfl rfl ?_
                        refine g_goto (tgt := 103) C dX10_isOf_99 (by decide) ?_
                        exact g_iret C hr dX10_isOf_103 (by first | rfl | omega | (simp [ioR, kofB, bz, b_2, b_12, c_30, c_35, c_47, c_52, c_57, c_68, c_73, c_79, c_90]; done) | (simp [ioR, kofB, bz, b_2, b_12, c_30, c_35, c_47, c_52, c_57, c_68, c_73, c_79, c_90]; omega) | (simp [ioR, kofB, bz, b_2, b_12, c_30, c_35, c_47, c_52, c_57, c_68, c_73, c_79, c_90]; intros; exfalso; omega) | grind [ioR, kofB, bz]) rfl
                    · refine g_iload (pc' := 84) C dX10_isOf_82 1 rfl rfl ?_
                      refine g_if_ne (pc' := 87) (tgt := 98) C dX10_isOf_84 (by decide) rfl (fun _ => ?_) (fun h => absurd h (by decide))
                      refine g_iconst (pc' := 99) (v := 1) C dX10_isOf_98 rfl rfl ?_
                      refine g_goto (tgt := 103) C dX10_isOf_99 (by decide) ?_
                      exact g_iret C hr dX10_isOf_103 (by first | rfl | omega | (simp [ioR, kofB, bz, b_2, b_12, c_30, c_35, c_47, c_52, c_57, c_68, c_73, c_79]; done) | (simp [ioR, kofB, bz, b_2, b_12, c_30, c_35, c_47, c_52, c_57, c_68, c_73, c_79]; omega) | (simp [ioR, kofB, bz, b_2, b_12, c_30, c_35, c_47, c_52, c_57, c_68, c_73, c_79]; intros; exfalso; omega) | grind [ioR, kofB, bz]) rfl
    · refine g_top (bz_f b_12) ?_
      refine g_if_ne (pc' := 18) (tgt := 21) C dX10_isOf_15 (by decide) rfl (fun h => absurd h (by decide)) (fun _ => ?_)
      refine g_ldc (pc' := 20) (v := (-1000000001)) C (List.mem_of_getElem? (i := 1) rfl) dX10_isOf_18 rfl ?_
      exact g_iret C hr dX10_isOf_20 (by first | rfl | omega | (simp [ioR, kofB, bz, b_2, b_12]; done) | (simp [ioR, kofB, bz, b_2, b_12]; omega) | (simp [ioR, kofB, bz, b_2, b_12]; intros; exfalso; omega) | grind [ioR, kofB, bz]) rfl
  · refine g_top (bz_f b_2) ?_
    refine g_if_eq (pc' := 8) (tgt := 18) C dX10_isOf_5 (by decide) rfl (fun _ => ?_) (fun h => absurd h (by decide))
    refine g_ldc (pc' := 20) (v := (-1000000001)) C (List.mem_of_getElem? (i := 1) rfl) dX10_isOf_18 rfl ?_
    exact g_iret C hr dX10_isOf_20 (by first | rfl | omega | (simp [ioR, kofB, bz, b_2]; done) | (simp [ioR, kofB, bz, b_2]; omega) | (simp [ioR, kofB, bz, b_2]; intros; exfalso; omega) | grind [ioR, kofB, bz]) rfl

set_option maxHeartbeats 1000000 in
set_option maxRecDepth 20000 in
theorem c_X10_standsOn (l : Launch) (X : gX) (mtd : Int32) (mtl : Nat) (mln : Nat) (mwn : Nat) (mdn : Nat) (mon : Nat) (mat : Nat) (mfr : Nat) (mlg : Nat) (mfd : Nat) (f53 : Nat → Int32) (f56 : Nat → Int32) (f57 : Nat → Int32) (f58 : Nat → Int32) (k : Nat) (d : Int32) (hk : k < 100) (hap : okN (f56 k) 9) (hao : apOk f56 f57 f58 k) : KC l yX10_standsOn wsX10_standsOn ⟨0, 0, 0, 0⟩ [.ref (xa X 46), .int (nI k), .int d] X [oMdl X mtd (nI mtl) (nI mln) (nI mwn) (nI mdn) (nI mon) (nI mat) (nI mfr) (nI mlg) (nI mfd), kA X 53 100 f53, kA X 56 100 f56, kA X 57 800 f57, kA X 58 800 f58] (some (.int (bz (stCl f53 f56 f57 k d)))) [oMdl X mtd (nI mtl) (nI mln) (nI mwn) (nI mdn) (nI mon) (nI mat) (nI mfr) (nI mlg) (nI mfd), kA X 53 100 f53, kA X 56 100 f56, kA X 57 800 f57, kA X 58 800 f58] := by
  have hi_X10 : ∀ w ∈ u_ws RX10 TX10 41, w ∈ wsX10_standsOn := fun w h => List.mem_cons_of_mem _ (List.mem_append_right _ h)
  refine KC.of cX10_standsOn 5 (some .boolean) RX10 rfl (by decide) rfl (lv := [(0, .ref (xa X 46)), (1, .int (nI k)), (2, .int d)]) rfl (Nat.le_of_ble_eq_true rfl) ?_
  intro p e s m args below meth c A C hr
  have hap2 := hap.2
  refine g_aload_n (pc' := 1) C dX10_standsOn_0 0 rfl rfl rfl ?_
  refine g_get (pc' := 4) C hi_X10 0 9 rfl rfl (by decide) (List.mem_of_getElem? (i := 1) rfl) rfl dX10_standsOn_1 rfl ?_
  refine g_iload_n (pc' := 5) C dX10_standsOn_4 1 rfl rfl rfl ?_
  refine g_iald (pc' := 6) C 1 k rfl rfl (by omega) (by decide) dX10_standsOn_5 rfl ?_
  refine g_iload_n (pc' := 7) C dX10_standsOn_6 2 rfl rfl rfl ?_
  refine g_icmp_le (pc' := 10) (tgt := 12) C dX10_standsOn_7 (by decide) rfl (fun c_7 => ?_) (fun c_7 => ?_)
  · refine g_iconst (pc' := 13) (v := 1) C dX10_standsOn_12 rfl rfl ?_
    refine g_istore_n (pc' := 14) (lv' := [(3, .int 1), (0, .ref (xa X 46)), (1, .int (nI k)), (2, .int d)]) C dX10_standsOn_13 rfl (by decide) rfl rfl ?_
    refine g_iconst (pc' := 15) (v := 0) C dX10_standsOn_14 rfl rfl ?_
    refine g_istore (pc' := 17) (lv' := [(4, .int 0), (3, .int 1), (0, .ref (xa X 46)), (1, .int (nI k)), (2, .int d)]) C dX10_standsOn_15 (by decide) rfl rfl ?_
    have lp_17 : ∀ (n_17 : Nat) (j : Nat) (hj : j ≤ cN (f56 k)) (hm_17 : cN (f56 k) - j < n_17), gG p l e ⟨0, 0, 0, 0⟩ s m args below meth c X A 5 0 0 (MQ below (QA X A (some (.int (bz (stCl f53 f56 f57 k d)))) [oMdl X mtd (nI mtl) (nI mln) (nI mwn) (nI mdn) (nI mon) (nI mat) (nI mfr) (nI mlg) (nI mfd), kA X 53 100 f53, kA X 56 100 f56, kA X 57 800 f57, kA X 58 800 f58]) args s 0 0 A) [(0, .ref (xa X 46)), (1, .int (nI k)), (2, .int d), (3, .int (bz (smF f57 f58 (k * 8) d j = true))), (4, .int (nI j))] [oMdl X mtd (nI mtl) (nI mln) (nI mwn) (nI mdn) (nI mon) (nI mat) (nI mfr) (nI mlg) (nI mfd), kA X 53 100 f53, kA X 56 100 f56, kA X 57 800 f57, kA X 58 800 f58] 17 [] := by
      intro n_17
      induction n_17 with
      | zero => intro j hj hm_17; exact absurd hm_17 (Nat.not_lt_zero _)
      | succ n_17 ih_17 =>
        intro j hj hm_17
        refine g_iload (pc' := 19) C dX10_standsOn_17 4 rfl rfl ?_
        refine g_aload_n (pc' := 20) C dX10_standsOn_19 0 rfl rfl rfl ?_
        refine g_get (pc' := 23) C hi_X10 0 12 rfl rfl (by decide) (List.mem_of_getElem? (i := 2) rfl) rfl dX10_standsOn_20 rfl ?_
        refine g_iload_n (pc' := 24) C dX10_standsOn_23 1 rfl rfl rfl ?_
        refine g_iald (pc' := 25) C 2 k rfl rfl (by omega) (by decide) dX10_standsOn_24 rfl ?_
        refine g_top (y := nI (cN (f56 k))) hap.1 ?_
        refine g_icmp_geN (pc' := 28) (tgt := 71) C j (cN (f56 k)) rfl rfl (by omega) (by omega) dX10_standsOn_25 (by decide) rfl (fun c_25 => ?_) (fun c_25 => ?_)
        · refine g_iload_n (pc' := 72) C dX10_standsOn_71 3 rfl rfl rfl ?_
          exact g_zret C hr (by first | rfl | exact bz_nar _) dX10_standsOn_72 (by rw [show j = cN (f56 k) by omega, sm_st hao _ (Nat.le_refl _)]; simp [stCl, bz, c_7]) rfl
        · refine g_aload_n (pc' := 29) C dX10_standsOn_28 0 rfl rfl rfl ?_
          refine g_get (pc' := 32) C hi_X10 0 13 rfl rfl (by decide) (List.mem_of_getElem? (i := 3) rfl) rfl dX10_standsOn_29 rfl ?_
          refine g_bipush (pc' := 34) (v := 8) C dX10_standsOn_32 (by decide) rfl ?_
          refine g_iload_n (pc' := 35) C dX10_standsOn_34 1 rfl rfl rfl ?_
          refine g_imulV (pc' := 36) (v := nI (8 * k)) C dX10_standsOn_35 (by first | exact (pk_mul _ _) | rfl) rfl ?_
          refine g_iload (pc' := 38) C dX10_standsOn_36 4 rfl rfl ?_
          refine g_iaddV (pc' := 39) (v := nI ((8 * k) + j)) C dX10_standsOn_38 (by first | exact (nI_add _ _) | rfl) rfl ?_
          refine g_top (y := nI (k * 8 + j)) (by rw [Nat.mul_comm]) ?_
          refine g_iald (pc' := 40) C 3 (k * 8 + j) rfl rfl (by omega) (by decide) dX10_standsOn_39 rfl ?_
          refine g_iload_n (pc' := 41) C dX10_standsOn_40 2 rfl rfl rfl ?_
          refine g_icmp_gt (pc' := 44) (tgt := 65) C dX10_standsOn_41 (by decide) rfl (fun c_41 => ?_) (fun c_41 => ?_)
          · refine g_iinc (pc' := 68) (v := nI (j + 1)) (lv' := [(4, .int (nI (j + 1))), (0, .ref (xa X 46)), (1, .int (nI k)), (2, .int d), (3, .int (bz (smF f57 f58 (k * 8) d j = true)))]) C dX10_standsOn_65 4 rfl (nI_1 _) (by decide) rfl rfl ?_
            refine g_goto (tgt := 17) C dX10_standsOn_68 (by decide) ?_
            refine g_lv (lv2 := [(0, .ref (xa X 46)), (1, .int (nI k)), (2, .int d), (3, .int (bz (smF f57 f58 (k * 8) d j = true))), (4, .int (nI (j + 1)))]) [1, 2, 3, 4, 0] rfl ?_
            refine g_eq (lv2 := [(0, .ref (xa X 46)), (1, .int (nI k)), (2, .int d), (3, .int (bz (smF f57 f58 (k * 8) d (j + 1) = true))), (4, .int (nI (j + 1)))]) (ws2 := [oMdl X mtd (nI mtl) (nI mln) (nI mwn) (nI mdn) (nI mon) (nI mat) (nI mfr) (nI mlg) (nI mfd), kA X 53 100 f53, kA X 56 100 f56, kA X 57 800 f57, kA X 58 800 f58]) (st2 := []) (congrArg (fun zq_ : Int32 => ([(0, .ref (xa X 46)), (1, .int (nI k)), (2, .int d), (3, .int zq_), (4, .int (nI (j + 1)))] : List (Nat × Value))) (show (bz (smF f57 f58 (k * 8) d j = true) : Int32) = bz (smF f57 f58 (k * 8) d (j + 1) = true) from (by first | rfl | omega | (simp [smF, bz, c_7, c_25, c_41]; done) | (simp [smF, bz, c_7, c_25, c_41]; omega) | (simp [smF, bz, c_7, c_25, c_41]; intros; exfalso; omega) | grind [smF, bz]))) rfl rfl ?_
            exact ih_17 (j + 1) (by omega) (by omega)
          · refine g_aload_n (pc' := 45) C dX10_standsOn_44 0 rfl rfl rfl ?_
            refine g_get (pc' := 48) C hi_X10 0 14 rfl rfl (by decide) (List.mem_of_getElem? (i := 4) rfl) rfl dX10_standsOn_45 rfl ?_
            refine g_bipush (pc' := 50) (v := 8) C dX10_standsOn_48 (by decide) rfl ?_
            refine g_iload_n (pc' := 51) C dX10_standsOn_50 1 rfl rfl rfl ?_
            refine g_imulV (pc' := 52) (v := nI (8 * k)) C dX10_standsOn_51 (by first | exact (pk_mul _ _) | rfl) rfl ?_
            refine g_iload (pc' := 54) C dX10_standsOn_52 4 rfl rfl ?_
            refine g_iaddV (pc' := 55) (v := nI ((8 * k) + j)) C dX10_standsOn_54 (by first | exact (nI_add _ _) | rfl) rfl ?_
            refine g_top (y := nI (k * 8 + j)) (by rw [Nat.mul_comm]) ?_
            refine g_iald (pc' := 56) C 4 (k * 8 + j) rfl rfl (by omega) (by decide) dX10_standsOn_55 rfl ?_
            refine g_if_ne (pc' := 59) (tgt := 63) C dX10_standsOn_56 (by decide) rfl (fun c_56 => ?_) (fun c_56 => ?_)
            · refine g_iconst (pc' := 64) (v := 0) C dX10_standsOn_63 rfl rfl ?_
              refine g_istore_n (pc' := 65) (lv' := [(3, .int 0), (0, .ref (xa X 46)), (1, .int (nI k)), (2, .int d), (4, .int (nI j))]) C dX10_standsOn_64 rfl (by decide) rfl rfl ?_
              refine g_iinc (pc' := 68) (v := nI (j + 1)) (lv' := [(4, .int (nI (j + 1))), (3, .int 0), (0, .ref (xa X 46)), (1, .int (nI k)), (2, .int d)]) C dX10_standsOn_65 4 rfl (nI_1 _) (by decide) rfl rfl ?_
              refine g_goto (tgt := 17) C dX10_standsOn_68 (by decide) ?_
              refine g_lv (lv2 := [(0, .ref (xa X 46)), (1, .int (nI k)), (2, .int d), (3, .int 0), (4, .int (nI (j + 1)))]) [2, 3, 4, 1, 0] rfl ?_
              refine g_eq (lv2 := [(0, .ref (xa X 46)), (1, .int (nI k)), (2, .int d), (3, .int (bz (smF f57 f58 (k * 8) d (j + 1) = true))), (4, .int (nI (j + 1)))]) (ws2 := [oMdl X mtd (nI mtl) (nI mln) (nI mwn) (nI mdn) (nI mon) (nI mat) (nI mfr) (nI mlg) (nI mfd), kA X 53 100 f53, kA X 56 100 f56, kA X 57 800 f57, kA X 58 800 f58]) (st2 := []) (congrArg (fun zq_ : Int32 => ([(0, .ref (xa X 46)), (1, .int (nI k)), (2, .int d), (3, .int zq_), (4, .int (nI (j + 1)))] : List (Nat × Value))) (show (0 : Int32) = bz (smF f57 f58 (k * 8) d (j + 1) = true) from (by first | rfl | omega | (simp [smF, bz, c_7, c_25, c_41, c_56]; done) | (simp [smF, bz, c_7, c_25, c_41, c_56]; omega) | (simp [smF, bz, c_7, c_25, c_41, c_56]; intros; exfalso; omega) | grind [smF, bz]))) rfl rfl ?_
              exact ih_17 (j + 1) (by omega) (by omega)
            · refine g_iconst (pc' := 60) (v := 1) C dX10_standsOn_59 rfl rfl ?_
              refine g_goto (tgt := 64) C dX10_standsOn_60 (by decide) ?_
              refine g_istore_n (pc' := 65) (lv' := [(3, .int 1), (0, .ref (xa X 46)), (1, .int (nI k)), (2, .int d), (4, .int (nI j))]) C dX10_standsOn_64 rfl (by decide) rfl rfl ?_
              refine g_iinc (pc' := 68) (v := nI (j + 1)) (lv' := [(4, .int (nI (j + 1))), (3, .int 1), (0, .ref (xa X 46)), (1, .int (nI k)), (2, .int d)]) C dX10_standsOn_65 4 rfl (nI_1 _) (by decide) rfl rfl ?_
              refine g_goto (tgt := 17) C dX10_standsOn_68 (by decide) ?_
              refine g_lv (lv2 := [(0, .ref (xa X 46)), (1, .int (nI k)), (2, .int d), (3, .int 1), (4, .int (nI (j + 1)))]) [2, 3, 4, 1, 0] rfl ?_
              refine g_eq (lv2 := [(0, .ref (xa X 46)), (1, .int (nI k)), (2, .int d), (3, .int (bz (smF f57 f58 (k * 8) d (j + 1) = true))), (4, .int (nI (j + 1)))]) (ws2 := [oMdl X mtd (nI mtl) (nI mln) (nI mwn) (nI mdn) (nI mon) (nI mat) (nI mfr) (nI mlg) (nI mfd), kA X 53 100 f53, kA X 56 100 f56, kA X 57 800 f57, kA X 58 800 f58]) (st2 := []) (congrArg (fun zq_ : Int32 => ([(0, .ref (xa X 46)), (1, .int (nI k)), (2, .int d), (3, .int zq_), (4, .int (nI (j + 1)))] : List (Nat × Value))) (show (1 : Int32) = bz (smF f57 f58 (k * 8) d (j + 1) = true) from (by first | rfl | omega | (simp [smF, bz, c_7, c_25, c_41, c_56]; done) | (simp [smF, bz, c_7, c_25, c_41, c_56]; omega) | (simp [smF, bz, c_7, c_25, c_41, c_56]; intros; exfalso; omega) | grind [smF, bz]))) rfl rfl ?_
              exact ih_17 (j + 1) (by omega) (by omega)
    refine g_lv (lv2 := [(0, .ref (xa X 46)), (1, .int (nI k)), (2, .int d), (3, .int 1), (4, .int 0)]) [2, 3, 4, 1, 0] rfl ?_
    refine g_eq (lv2 := [(0, .ref (xa X 46)), (1, .int (nI k)), (2, .int d), (3, .int (bz (smF f57 f58 (k * 8) d 0 = true))), (4, .int 0)]) (ws2 := [oMdl X mtd (nI mtl) (nI mln) (nI mwn) (nI mdn) (nI mon) (nI mat) (nI mfr) (nI mlg) (nI mfd), kA X 53 100 f53, kA X 56 100 f56, kA X 57 800 f57, kA X 58 800 f58]) (st2 := []) (congrArg (fun zq_ : Int32 => ([(0, .ref (xa X 46)), (1, .int (nI k)), (2, .int d), (3, .int zq_), (4, .int 0)] : List (Nat × Value))) (show (1 : Int32) = bz (smF f57 f58 (k * 8) d 0 = true) from rfl)) rfl rfl ?_
    exact lp_17 (cN (f56 k) - 0 + 1) 0 (by first | rfl | assumption | omega | (simp [smF, bz, c_7]; done) | (simp [smF, bz, c_7]; omega) | (simp [smF, bz, c_7]; intros; exfalso; omega) | grind [smF, bz]) (by omega)
  · refine g_iconst (pc' := 11) (v := 0) C dX10_standsOn_10 rfl rfl ?_
    exact g_zret C hr rfl dX10_standsOn_11 (by first | rfl | omega | (simp [bz, stCl, c_7]; done) | (simp [bz, stCl, c_7]; omega) | (simp [bz, stCl, c_7]; intros; exfalso; omega) | grind [bz]) rfl

set_option maxHeartbeats 1000000 in
set_option maxRecDepth 20000 in
theorem c_X10_stands (l : Launch) (X : gX) (mtd : Int32) (mtl : Nat) (mln : Nat) (mwn : Nat) (mdn : Nat) (mon : Nat) (mat : Nat) (mfr : Nat) (mlg : Nat) (mfd : Nat) (f53 : Nat → Int32) (f56 : Nat → Int32) (f57 : Nat → Int32) (f58 : Nat → Int32) (k : Int32) (d : Int32) (hn : mln ≤ 100) (hap : ∀ i, i < mln → okN (f56 i) 9) (hao : ∀ i, i < mln → apOk f56 f57 f58 i) : KC l yX10_stands wsX10_stands ⟨2, 0, 0, 43⟩ [.ref (xa X 46), .int k, .int d] X [oMdl X mtd (nI mtl) (nI mln) (nI mwn) (nI mdn) (nI mon) (nI mat) (nI mfr) (nI mlg) (nI mfd), kA X 53 100 f53, kA X 56 100 f56, kA X 57 800 f57, kA X 58 800 f58] (some (.int (sdR f53 f56 f57 mln k d))) [oMdl X mtd (nI mtl) (nI mln) (nI mwn) (nI mdn) (nI mon) (nI mat) (nI mfr) (nI mlg) (nI mfd), kA X 53 100 f53, kA X 56 100 f56, kA X 57 800 f57, kA X 58 800 f58] := by
  have hi_X10 : ∀ w ∈ u_ws RX10 TX10 41, w ∈ wsX10_stands := fun w h => List.mem_cons_of_mem _ (List.mem_append_right _ h)
  refine KC.of cX10_stands 3 (some .int) RX10 rfl (by decide) rfl (lv := [(0, .ref (xa X 46)), (1, .int k), (2, .int d)]) rfl (Nat.le_of_ble_eq_true rfl) ?_
  intro p e s m args below meth c A C hr
  refine g_aload_n (pc' := 1) C dX10_stands_0 0 rfl rfl rfl ?_
  refine g_iload_n (pc' := 2) C dX10_stands_1 1 rfl rfl rfl ?_
  refine g_callV (pc' := 5) (st := []) (ws2 := [oMdl X mtd (nI mtl) (nI mln) (nI mwn) (nI mdn) (nI mon) (nI mat) (nI mfr) (nI mlg) (nI mfd), kA X 53 100 f53, kA X 56 100 f56, kA X 57 800 f57, kA X 58 800 f58]) C [.int k] 1 rfl (c_X10_isLine l X mtd mtl mln mwn mdn mon mat mfr mlg mfd k ) [0] [1, 2, 3, 4] [4, 0, 1, 2, 3] gX10_stands_X10_isLine 0 rfl rfl rfl ⟨rfl, rfl⟩ (by decide +kernel) ⟨by decide, by decide⟩ ⟨by decide, by decide⟩ rfl (wr := [kA X 53 100 f53, kA X 56 100 f56, kA X 57 800 f57, kA X 58 800 f58]) rfl ⟨by decide, by decide, by decide, by decide⟩ rfl (Nat.le_of_ble_eq_true rfl) dX10_stands_2 rfl rfl ?_
  by_cases b_2 : 0 ≤ k ∧ k ≤ nI mln - 1
  · refine g_top (bz_t b_2) ?_
    refine g_if_eq (pc' := 8) (tgt := 15) C dX10_stands_5 (by decide) rfl (fun h => absurd h (by decide)) (fun _ => ?_)
    refine g_iload_n (pc' := 9) C dX10_stands_8 2 rfl rfl rfl ?_
    refine g_callS (pc' := 12) (st := []) (ws2 := [oMdl X mtd (nI mtl) (nI mln) (nI mwn) (nI mdn) (nI mon) (nI mat) (nI mfr) (nI mlg) (nI mfd), kA X 53 100 f53, kA X 56 100 f56, kA X 57 800 f57, kA X 58 800 f58]) C [.int d] 1 rfl (c_X10_isDay l X d ) [] [0, 1, 2, 3, 4] [0, 1, 2, 3, 4] gX10_stands_X10_isDay rfl ⟨rfl, rfl⟩ (by decide +kernel) ⟨by decide, by decide⟩ ⟨by decide, by decide⟩ rfl (wr := [oMdl X mtd (nI mtl) (nI mln) (nI mwn) (nI mdn) (nI mon) (nI mat) (nI mfr) (nI mlg) (nI mfd), kA X 53 100 f53, kA X 56 100 f56, kA X 57 800 f57, kA X 58 800 f58]) rfl ⟨by decide, by decide, by decide, by decide⟩ rfl (Nat.le_of_ble_eq_true rfl) dX10_stands_9 rfl rfl ?_
    by_cases b_9 : 0 ≤ d ∧ d ≤ 100000
    · refine g_top (bz_t b_9) ?_
      refine g_if_ne (pc' := 15) (tgt := 18) C dX10_stands_12 (by decide) rfl (fun _ => ?_) (fun h => absurd h (by decide))
      refine g_aload_n (pc' := 19) C dX10_stands_18 0 rfl rfl rfl ?_
      have ok0 := hasL_ok b_2 (by omega)
      have ok1 := ok0.2
      refine g_iload_n (pc' := 20) C dX10_stands_19 1 rfl rfl rfl ?_
      refine g_top (y := nI (cN k)) ok0.1 ?_
      refine g_iload_n (pc' := 21) C dX10_stands_20 2 rfl rfl rfl ?_
      refine g_callV (pc' := 24) (st := []) (ws2 := [oMdl X mtd (nI mtl) (nI mln) (nI mwn) (nI mdn) (nI mon) (nI mat) (nI mfr) (nI mlg) (nI mfd), kA X 53 100 f53, kA X 56 100 f56, kA X 57 800 f57, kA X 58 800 f58]) C [.int (nI (cN k)), .int d] 2 rfl (c_X10_standsOn l X mtd mtl mln mwn mdn mon mat mfr mlg mfd f53 f56 f57 f58 (cN k) d (by first | assumption | omega) (hap _ ok1) (hao _ ok1)) [0, 1, 2, 3, 4] [] [0, 1, 2, 3, 4] gX10_stands_X10_standsOn 0 rfl rfl rfl ⟨rfl, rfl⟩ (by decide +kernel) ⟨by decide, by decide⟩ ⟨by decide, by decide⟩ rfl (wr := []) rfl ⟨by decide, by decide, by decide, by decide⟩ rfl (Nat.le_of_ble_eq_true rfl) dX10_stands_21 rfl rfl ?_
      by_cases b_21 : stCl f53 f56 f57 (cN k) d
      · refine g_top (bz_t b_21) ?_
        refine g_if_eq (pc' := 27) (tgt := 31) C dX10_stands_24 (by decide) rfl (fun h => absurd h (by decide)) (fun _ => ?_)
        refine g_iconst (pc' := 28) (v := 1) C dX10_stands_27 rfl rfl ?_
        refine g_goto (tgt := 32) C dX10_stands_28 (by decide) ?_
        exact g_iret C hr dX10_stands_32 (by first | rfl | omega | (simp [sdR, bz, b_2, b_9, b_21]; done) | (simp [sdR, bz, b_2, b_9, b_21]; omega) | (simp [sdR, bz, b_2, b_9, b_21]; intros; exfalso; omega) | grind [sdR, bz]) rfl
      · refine g_top (bz_f b_21) ?_
        refine g_if_eq (pc' := 27) (tgt := 31) C dX10_stands_24 (by decide) rfl (fun _ => ?_) (fun h => absurd h (by decide))
        refine g_iconst (pc' := 32) (v := 0) C dX10_stands_31 rfl rfl ?_
        exact g_iret C hr dX10_stands_32 (by first | rfl | omega | (simp [sdR, bz, b_2, b_9, b_21]; done) | (simp [sdR, bz, b_2, b_9, b_21]; omega) | (simp [sdR, bz, b_2, b_9, b_21]; intros; exfalso; omega) | grind [sdR, bz]) rfl
    · refine g_top (bz_f b_9) ?_
      refine g_if_ne (pc' := 15) (tgt := 18) C dX10_stands_12 (by decide) rfl (fun h => absurd h (by decide)) (fun _ => ?_)
      refine g_ldc (pc' := 17) (v := (-1000000001)) C (List.mem_of_getElem? (i := 1) rfl) dX10_stands_15 rfl ?_
      exact g_iret C hr dX10_stands_17 (by first | rfl | omega | (simp [sdR, bz, b_2, b_9]; done) | (simp [sdR, bz, b_2, b_9]; omega) | (simp [sdR, bz, b_2, b_9]; intros; exfalso; omega) | grind [sdR, bz]) rfl
  · refine g_top (bz_f b_2) ?_
    refine g_if_eq (pc' := 8) (tgt := 15) C dX10_stands_5 (by decide) rfl (fun _ => ?_) (fun h => absurd h (by decide))
    refine g_ldc (pc' := 17) (v := (-1000000001)) C (List.mem_of_getElem? (i := 1) rfl) dX10_stands_15 rfl ?_
    exact g_iret C hr dX10_stands_17 (by first | rfl | omega | (simp [sdR, bz, b_2]; done) | (simp [sdR, bz, b_2]; omega) | (simp [sdR, bz, b_2]; intros; exfalso; omega) | grind [sdR, bz]) rfl

set_option maxHeartbeats 4000000 in
set_option maxRecDepth 20000 in
theorem c_X10_appeal (l : Launch) (X : gX) (mtd : Int32) (mtl : Nat) (mln : Nat) (mwn : Nat) (mdn : Nat) (mon : Nat) (mat : Nat) (mfr : Nat) (mlg : Nat) (mfd : Nat) (f53 : Nat → Int32) (f56 : Nat → Int32) (f57 : Nat → Int32) (f58 : Nat → Int32) (k : Int32) (sk : Int32) (hn : mln ≤ 100) (hap : ∀ i, i < mln → okN (f56 i) 9) (hao : ∀ i, i < mln → apOk f56 f57 f58 i) : KC l yX10_appeal wsX10_appeal ⟨2, 0, 0, 43⟩ [.ref (xa X 46), .int k, .int sk] X [oMdl X mtd (nI mtl) (nI mln) (nI mwn) (nI mdn) (nI mon) (nI mat) (nI mfr) (nI mlg) (nI mfd), kA X 53 100 f53, kA X 56 100 f56, kA X 57 800 f57, kA X 58 800 f58] (some (.int (aeR f53 f56 f57 mln mtd k sk))) [oMdl X mtd (nI mtl) (nI mln) (nI mwn) (nI mdn) (nI mon) (nI mat) (nI mfr) (nI mlg) (nI mfd), kA X 53 100 f53, kA X 56 100 (aeP f53 f56 f57 mln mtd k sk), kA X 57 800 (aeD f53 f56 f57 mln mtd k sk), kA X 58 800 (aeK f53 f56 f57 mln mtd k sk f58)] := by
  have hi_X10 : ∀ w ∈ u_ws RX10 TX10 41, w ∈ wsX10_appeal := fun w h => List.mem_cons_of_mem _ (List.mem_append_right _ h)
  refine KC.of cX10_appeal 3 (some .int) RX10 rfl (by decide) rfl (lv := [(0, .ref (xa X 46)), (1, .int k), (2, .int sk)]) rfl (Nat.le_of_ble_eq_true rfl) ?_
  intro p e s m args below meth c A C hr
  refine g_aload_n (pc' := 1) C dX10_appeal_0 0 rfl rfl rfl ?_
  refine g_iload_n (pc' := 2) C dX10_appeal_1 1 rfl rfl rfl ?_
  refine g_callV (pc' := 5) (st := []) (ws2 := [oMdl X mtd (nI mtl) (nI mln) (nI mwn) (nI mdn) (nI mon) (nI mat) (nI mfr) (nI mlg) (nI mfd), kA X 53 100 f53, kA X 56 100 f56, kA X 57 800 f57, kA X 58 800 f58]) C [.int k] 1 rfl (c_X10_isLine l X mtd mtl mln mwn mdn mon mat mfr mlg mfd k ) [0] [1, 2, 3, 4] [4, 0, 1, 2, 3] gX10_appeal_X10_isLine 0 rfl rfl rfl ⟨rfl, rfl⟩ (by decide +kernel) ⟨by decide, by decide⟩ ⟨by decide, by decide⟩ rfl (wr := [kA X 53 100 f53, kA X 56 100 f56, kA X 57 800 f57, kA X 58 800 f58]) rfl ⟨by decide, by decide, by decide, by decide⟩ rfl (Nat.le_of_ble_eq_true rfl) dX10_appeal_2 rfl rfl ?_
  by_cases b_2 : 0 ≤ k ∧ k ≤ nI mln - 1
  · refine g_top (bz_t b_2) ?_
    refine g_if_eq (pc' := 8) (tgt := 17) C dX10_appeal_5 (by decide) rfl (fun h => absurd h (by decide)) (fun _ => ?_)
    refine g_iload_n (pc' := 9) C dX10_appeal_8 2 rfl rfl rfl ?_
    refine g_iconst (pc' := 10) (v := 0) C dX10_appeal_9 rfl rfl ?_
    refine g_iconst (pc' := 11) (v := 1) C dX10_appeal_10 rfl rfl ?_
    refine g_callS (pc' := 14) (st := []) (ws2 := [oMdl X mtd (nI mtl) (nI mln) (nI mwn) (nI mdn) (nI mon) (nI mat) (nI mfr) (nI mlg) (nI mfd), kA X 53 100 f53, kA X 56 100 f56, kA X 57 800 f57, kA X 58 800 f58]) C [.int sk, .int 0, .int 1] 3 rfl (c_X10_isIn l X sk 0 1 ) [] [0, 1, 2, 3, 4] [0, 1, 2, 3, 4] gX10_appeal_X10_isIn rfl ⟨rfl, rfl⟩ (by decide +kernel) ⟨by decide, by decide⟩ ⟨by decide, by decide⟩ rfl (wr := [oMdl X mtd (nI mtl) (nI mln) (nI mwn) (nI mdn) (nI mon) (nI mat) (nI mfr) (nI mlg) (nI mfd), kA X 53 100 f53, kA X 56 100 f56, kA X 57 800 f57, kA X 58 800 f58]) rfl ⟨by decide, by decide, by decide, by decide⟩ rfl (Nat.le_of_ble_eq_true rfl) dX10_appeal_11 rfl rfl ?_
    by_cases b_11 : 0 ≤ sk ∧ sk ≤ 1
    · refine g_top (bz_t b_11) ?_
      refine g_if_ne (pc' := 17) (tgt := 20) C dX10_appeal_14 (by decide) rfl (fun _ => ?_) (fun h => absurd h (by decide))
      refine g_aload_n (pc' := 21) C dX10_appeal_20 0 rfl rfl rfl ?_
      have ok0 := hasL_ok b_2 (by omega)
      have ok1 := ok0.2
      have ok2 := hap _ ok1
      have ok3 := ok2.2
      refine g_iload_n (pc' := 22) C dX10_appeal_21 1 rfl rfl rfl ?_
      refine g_top (y := nI (cN k)) ok0.1 ?_
      refine g_aload_n (pc' := 23) C dX10_appeal_22 0 rfl rfl rfl ?_
      refine g_get (pc' := 26) C hi_X10 0 0 rfl rfl (by decide) (List.mem_of_getElem? (i := 2) rfl) rfl dX10_appeal_23 rfl ?_
      refine g_callV (pc' := 29) (st := []) (ws2 := [oMdl X mtd (nI mtl) (nI mln) (nI mwn) (nI mdn) (nI mon) (nI mat) (nI mfr) (nI mlg) (nI mfd), kA X 53 100 f53, kA X 56 100 f56, kA X 57 800 f57, kA X 58 800 f58]) C [.int (nI (cN k)), .int mtd] 2 rfl (c_X10_standsOn l X mtd mtl mln mwn mdn mon mat mfr mlg mfd f53 f56 f57 f58 (cN k) mtd (by first | assumption | omega) ok2 (hao _ ok1)) [0, 1, 2, 3, 4] [] [0, 1, 2, 3, 4] gX10_appeal_X10_standsOn 0 rfl rfl rfl ⟨rfl, rfl⟩ (by decide +kernel) ⟨by decide, by decide⟩ ⟨by decide, by decide⟩ rfl (wr := []) rfl ⟨by decide, by decide, by decide, by decide⟩ rfl (Nat.le_of_ble_eq_true rfl) dX10_appeal_26 rfl rfl ?_
      by_cases b_26 : stCl f53 f56 f57 (cN k) mtd
      · refine g_top (bz_t b_26) ?_
        refine g_iload_n (pc' := 30) C dX10_appeal_29 2 rfl rfl rfl ?_
        refine g_iconst (pc' := 31) (v := 1) C dX10_appeal_30 rfl rfl ?_
        refine g_icmp_ne (pc' := 34) (tgt := 38) C dX10_appeal_31 (by decide) rfl (fun c_31 => ?_) (fun c_31 => ?_)
        · refine g_iconst (pc' := 39) (v := 0) C dX10_appeal_38 rfl rfl ?_
          refine g_icmp_eqN (pc' := 42) (tgt := 45) C 1 0 rfl rfl (by omega) (by omega) dX10_appeal_39 (by decide) rfl (fun h => absurd h (by decide)) (fun _ => ?_)
          refine g_ldc (pc' := 44) (v := (-1000000002)) C (List.mem_of_getElem? (i := 3) rfl) dX10_appeal_42 rfl ?_
          exact g_iret C hr dX10_appeal_44 (by first | rfl | omega | (simp [aeR, aeP, aeD, aeK, aeO, b_2, b_11, b_26, c_31]; done) | (simp [aeR, aeP, aeD, aeK, aeO, b_2, b_11, b_26, c_31]; omega) | (simp [aeR, aeP, aeD, aeK, aeO, b_2, b_11, b_26, c_31]; intros; exfalso; omega) | grind [aeR, aeP, aeD, aeK, aeO]) (((congrArg (fun zq_ : Nat → Int32 => ([oMdl X mtd (nI mtl) (nI mln) (nI mwn) (nI mdn) (nI mon) (nI mat) (nI mfr) (nI mlg) (nI mfd), kA X 53 100 f53, kA X 56 100 zq_, kA X 57 800 f57, kA X 58 800 f58] : va_W)) (show (f56 : Nat → Int32) = aeP f53 f56 f57 mln mtd k sk from (by first | rfl | omega | (simp [aeR, aeP, aeD, aeK, aeO, b_2, b_11, b_26, c_31]; done) | (simp [aeR, aeP, aeD, aeK, aeO, b_2, b_11, b_26, c_31]; omega) | (simp [aeR, aeP, aeD, aeK, aeO, b_2, b_11, b_26, c_31]; intros; exfalso; omega) | grind [aeR, aeP, aeD, aeK, aeO]))).trans (congrArg (fun zq_ : Nat → Int32 => ([oMdl X mtd (nI mtl) (nI mln) (nI mwn) (nI mdn) (nI mon) (nI mat) (nI mfr) (nI mlg) (nI mfd), kA X 53 100 f53, kA X 56 100 (aeP f53 f56 f57 mln mtd k sk), kA X 57 800 zq_, kA X 58 800 f58] : va_W)) (show (f57 : Nat → Int32) = aeD f53 f56 f57 mln mtd k sk from (by first | rfl | omega | (simp [aeR, aeP, aeD, aeK, aeO, b_2, b_11, b_26, c_31]; done) | (simp [aeR, aeP, aeD, aeK, aeO, b_2, b_11, b_26, c_31]; omega) | (simp [aeR, aeP, aeD, aeK, aeO, b_2, b_11, b_26, c_31]; intros; exfalso; omega) | grind [aeR, aeP, aeD, aeK, aeO])))).trans (congrArg (fun zq_ : Nat → Int32 => ([oMdl X mtd (nI mtl) (nI mln) (nI mwn) (nI mdn) (nI mon) (nI mat) (nI mfr) (nI mlg) (nI mfd), kA X 53 100 f53, kA X 56 100 (aeP f53 f56 f57 mln mtd k sk), kA X 57 800 (aeD f53 f56 f57 mln mtd k sk), kA X 58 800 zq_] : va_W)) (show (f58 : Nat → Int32) = aeK f53 f56 f57 mln mtd k sk f58 from (by first | rfl | omega | (simp [aeR, aeP, aeD, aeK, aeO, b_2, b_11, b_26, c_31]; done) | (simp [aeR, aeP, aeD, aeK, aeO, b_2, b_11, b_26, c_31]; omega) | (simp [aeR, aeP, aeD, aeK, aeO, b_2, b_11, b_26, c_31]; intros; exfalso; omega) | grind [aeR, aeP, aeD, aeK, aeO]))))
        · refine g_iconst (pc' := 35) (v := 1) C dX10_appeal_34 rfl rfl ?_
          refine g_goto (tgt := 39) C dX10_appeal_35 (by decide) ?_
          refine g_icmp_eqN (pc' := 42) (tgt := 45) C 1 1 rfl rfl (by omega) (by omega) dX10_appeal_39 (by decide) rfl (fun _ => ?_) (fun h => absurd h (by decide))
          refine g_aload_n (pc' := 46) C dX10_appeal_45 0 rfl rfl rfl ?_
          refine g_get (pc' := 49) C hi_X10 0 12 rfl rfl (by decide) (List.mem_of_getElem? (i := 4) rfl) rfl dX10_appeal_46 rfl ?_
          refine g_iload_n (pc' := 50) C dX10_appeal_49 1 rfl rfl rfl ?_
          refine g_iald (pc' := 51) C 2 (cN k) rfl ok0.1 (by omega) (by decide) dX10_appeal_50 rfl ?_
          refine g_top (y := nI (cN (f56 (cN k)))) ok2.1 ?_
          refine g_bipush (pc' := 53) (v := 8) C dX10_appeal_51 (by decide) rfl ?_
          refine g_icmp_neN (pc' := 56) (tgt := 59) C (cN (f56 (cN k))) 8 rfl rfl (by omega) (by omega) dX10_appeal_53 (by decide) rfl (fun c_53 => ?_) (fun c_53 => ?_)
          · refine g_aload_n (pc' := 60) C dX10_appeal_59 0 rfl rfl rfl ?_
            refine g_get (pc' := 63) C hi_X10 0 13 rfl rfl (by decide) (List.mem_of_getElem? (i := 6) rfl) rfl dX10_appeal_60 rfl ?_
            refine g_bipush (pc' := 65) (v := 8) C dX10_appeal_63 (by decide) rfl ?_
            refine g_iload_n (pc' := 66) C dX10_appeal_65 1 rfl rfl rfl ?_
            refine g_top (y := nI (cN k)) ok0.1 ?_
            refine g_imulV (pc' := 67) (v := nI (8 * (cN k))) C dX10_appeal_66 (by first | exact (pk_mul _ _) | rfl) rfl ?_
            refine g_aload_n (pc' := 68) C dX10_appeal_67 0 rfl rfl rfl ?_
            refine g_get (pc' := 71) C hi_X10 0 12 rfl rfl (by decide) (List.mem_of_getElem? (i := 4) rfl) rfl dX10_appeal_68 rfl ?_
            refine g_iload_n (pc' := 72) C dX10_appeal_71 1 rfl rfl rfl ?_
            refine g_iald (pc' := 73) C 2 (cN k) rfl ok0.1 (by omega) (by decide) dX10_appeal_72 rfl ?_
            refine g_top (y := nI (cN (f56 (cN k)))) ok2.1 ?_
            refine g_iaddV (pc' := 74) (v := nI ((8 * (cN k)) + (cN (f56 (cN k))))) C dX10_appeal_73 (by first | exact (nI_add _ _) | rfl) rfl ?_
            refine g_top (y := nI (cN k * 8 + cN (f56 (cN k)))) (by rw [Nat.mul_comm]) ?_
            refine g_aload_n (pc' := 75) C dX10_appeal_74 0 rfl rfl rfl ?_
            refine g_get (pc' := 78) C hi_X10 0 0 rfl rfl (by decide) (List.mem_of_getElem? (i := 2) rfl) rfl dX10_appeal_75 rfl ?_
            refine g_iast (pc' := 79) (ws2 := [oMdl X mtd (nI mtl) (nI mln) (nI mwn) (nI mdn) (nI mon) (nI mat) (nI mfr) (nI mlg) (nI mfd), kA X 53 100 f53, kA X 56 100 f56, kA X 57 800 (upd f57 (cN k * 8 + cN (f56 (cN k))) mtd), kA X 58 800 f58]) C 3 (cN k * 8 + cN (f56 (cN k))) rfl rfl (by omega) (by decide) dX10_appeal_78 rfl rfl ?_
            refine g_aload_n (pc' := 80) C dX10_appeal_79 0 rfl rfl rfl ?_
            refine g_get (pc' := 83) C hi_X10 0 14 rfl rfl (by decide) (List.mem_of_getElem? (i := 7) rfl) rfl dX10_appeal_80 rfl ?_
            refine g_bipush (pc' := 85) (v := 8) C dX10_appeal_83 (by decide) rfl ?_
            refine g_iload_n (pc' := 86) C dX10_appeal_85 1 rfl rfl rfl ?_
            refine g_top (y := nI (cN k)) ok0.1 ?_
            refine g_imulV (pc' := 87) (v := nI (8 * (cN k))) C dX10_appeal_86 (by first | exact (pk_mul _ _) | rfl) rfl ?_
            refine g_aload_n (pc' := 88) C dX10_appeal_87 0 rfl rfl rfl ?_
            refine g_get (pc' := 91) C hi_X10 0 12 rfl rfl (by decide) (List.mem_of_getElem? (i := 4) rfl) rfl dX10_appeal_88 rfl ?_
            refine g_iload_n (pc' := 92) C dX10_appeal_91 1 rfl rfl rfl ?_
            refine g_iald (pc' := 93) C 2 (cN k) rfl ok0.1 (by omega) (by decide) dX10_appeal_92 rfl ?_
            refine g_top (y := nI (cN (f56 (cN k)))) ok2.1 ?_
            refine g_iaddV (pc' := 94) (v := nI ((8 * (cN k)) + (cN (f56 (cN k))))) C dX10_appeal_93 (by first | exact (nI_add _ _) | rfl) rfl ?_
            refine g_top (y := nI (cN k * 8 + cN (f56 (cN k)))) (by rw [Nat.mul_comm]) ?_
            refine g_iload_n (pc' := 95) C dX10_appeal_94 2 rfl rfl rfl ?_
            refine g_iast (pc' := 96) (ws2 := [oMdl X mtd (nI mtl) (nI mln) (nI mwn) (nI mdn) (nI mon) (nI mat) (nI mfr) (nI mlg) (nI mfd), kA X 53 100 f53, kA X 56 100 f56, kA X 57 800 (upd f57 (cN k * 8 + cN (f56 (cN k))) mtd), kA X 58 800 (upd f58 (cN k * 8 + cN (f56 (cN k))) sk)]) C 4 (cN k * 8 + cN (f56 (cN k))) rfl rfl (by omega) (by decide) dX10_appeal_95 rfl rfl ?_
            refine g_aload_n (pc' := 97) C dX10_appeal_96 0 rfl rfl rfl ?_
            refine g_get (pc' := 100) C hi_X10 0 12 rfl rfl (by decide) (List.mem_of_getElem? (i := 4) rfl) rfl dX10_appeal_97 rfl ?_
            refine g_iload_n (pc' := 101) C dX10_appeal_100 1 rfl rfl rfl ?_
            refine g_dup2 (pc' := 102) C dX10_appeal_101 rfl rfl rfl ?_
            refine g_iald (pc' := 103) C 2 (cN k) rfl ok0.1 (by omega) (by decide) dX10_appeal_102 rfl ?_
            refine g_top (y := nI (cN (f56 (cN k)))) ok2.1 ?_
            refine g_iconst (pc' := 104) (v := 1) C dX10_appeal_103 rfl rfl ?_
            refine g_iaddV (pc' := 105) (v := nI ((cN (f56 (cN k))) + 1)) C dX10_appeal_104 (by first | exact (nI_add _ _) | rfl) rfl ?_
            refine g_iast (pc' := 106) (ws2 := [oMdl X mtd (nI mtl) (nI mln) (nI mwn) (nI mdn) (nI mon) (nI mat) (nI mfr) (nI mlg) (nI mfd), kA X 53 100 f53, kA X 56 100 (upd f56 (cN k) (nI ((cN (f56 (cN k))) + 1))), kA X 57 800 (upd f57 (cN k * 8 + cN (f56 (cN k))) mtd), kA X 58 800 (upd f58 (cN k * 8 + cN (f56 (cN k))) sk)]) C 2 (cN k) rfl ok0.1 (by omega) (by decide) dX10_appeal_105 rfl rfl ?_
            refine g_aload_n (pc' := 107) C dX10_appeal_106 0 rfl rfl rfl ?_
            refine g_get (pc' := 110) C hi_X10 0 12 rfl rfl (by decide) (List.mem_of_getElem? (i := 4) rfl) rfl dX10_appeal_107 rfl ?_
            refine g_iload_n (pc' := 111) C dX10_appeal_110 1 rfl rfl rfl ?_
            refine g_iald (pc' := 112) C 2 (cN k) rfl ok0.1 (by omega) (by decide) dX10_appeal_111 rfl ?_
            refine g_top (y := nI (cN (f56 (cN k)) + 1)) pk_us ?_
            exact g_iret C hr dX10_appeal_112 (by first | rfl | omega | (simp [aeR, aeP, aeD, aeK, aeO, b_2, b_11, b_26, c_31, c_53]; done) | (simp [aeR, aeP, aeD, aeK, aeO, b_2, b_11, b_26, c_31, c_53]; omega) | (simp [aeR, aeP, aeD, aeK, aeO, b_2, b_11, b_26, c_31, c_53]; intros; exfalso; omega) | grind [aeR, aeP, aeD, aeK, aeO]) (((congrArg (fun zq_ : Nat → Int32 => ([oMdl X mtd (nI mtl) (nI mln) (nI mwn) (nI mdn) (nI mon) (nI mat) (nI mfr) (nI mlg) (nI mfd), kA X 53 100 f53, kA X 56 100 zq_, kA X 57 800 (upd f57 (cN k * 8 + cN (f56 (cN k))) mtd), kA X 58 800 (upd f58 (cN k * 8 + cN (f56 (cN k))) sk)] : va_W)) (show (upd f56 (cN k) (nI ((cN (f56 (cN k))) + 1)) : Nat → Int32) = aeP f53 f56 f57 mln mtd k sk from (by first | rfl | omega | (simp [aeR, aeP, aeD, aeK, aeO, b_2, b_11, b_26, c_31, c_53]; done) | (simp [aeR, aeP, aeD, aeK, aeO, b_2, b_11, b_26, c_31, c_53]; omega) | (simp [aeR, aeP, aeD, aeK, aeO, b_2, b_11, b_26, c_31, c_53]; intros; exfalso; omega) | grind [aeR, aeP, aeD, aeK, aeO]))).trans (congrArg (fun zq_ : Nat → Int32 => ([oMdl X mtd (nI mtl) (nI mln) (nI mwn) (nI mdn) (nI mon) (nI mat) (nI mfr) (nI mlg) (nI mfd), kA X 53 100 f53, kA X 56 100 (aeP f53 f56 f57 mln mtd k sk), kA X 57 800 zq_, kA X 58 800 (upd f58 (cN k * 8 + cN (f56 (cN k))) sk)] : va_W)) (show (upd f57 (cN k * 8 + cN (f56 (cN k))) mtd : Nat → Int32) = aeD f53 f56 f57 mln mtd k sk from (by first | rfl | omega | (simp [aeR, aeP, aeD, aeK, aeO, b_2, b_11, b_26, c_31, c_53]; done) | (simp [aeR, aeP, aeD, aeK, aeO, b_2, b_11, b_26, c_31, c_53]; omega) | (simp [aeR, aeP, aeD, aeK, aeO, b_2, b_11, b_26, c_31, c_53]; intros; exfalso; omega) | grind [aeR, aeP, aeD, aeK, aeO])))).trans (congrArg (fun zq_ : Nat → Int32 => ([oMdl X mtd (nI mtl) (nI mln) (nI mwn) (nI mdn) (nI mon) (nI mat) (nI mfr) (nI mlg) (nI mfd), kA X 53 100 f53, kA X 56 100 (aeP f53 f56 f57 mln mtd k sk), kA X 57 800 (aeD f53 f56 f57 mln mtd k sk), kA X 58 800 zq_] : va_W)) (show (upd f58 (cN k * 8 + cN (f56 (cN k))) sk : Nat → Int32) = aeK f53 f56 f57 mln mtd k sk f58 from (by first | rfl | omega | (simp [aeR, aeP, aeD, aeK, aeO, b_2, b_11, b_26, c_31, c_53]; done) | (simp [aeR, aeP, aeD, aeK, aeO, b_2, b_11, b_26, c_31, c_53]; omega) | (simp [aeR, aeP, aeD, aeK, aeO, b_2, b_11, b_26, c_31, c_53]; intros; exfalso; omega) | grind [aeR, aeP, aeD, aeK, aeO]))))
          · refine g_ldc (pc' := 58) (v := (-1000000003)) C (List.mem_of_getElem? (i := 5) rfl) dX10_appeal_56 rfl ?_
            exact g_iret C hr dX10_appeal_58 (by first | rfl | omega | (simp [aeR, aeP, aeD, aeK, aeO, b_2, b_11, b_26, c_31, c_53]; done) | (simp [aeR, aeP, aeD, aeK, aeO, b_2, b_11, b_26, c_31, c_53]; omega) | (simp [aeR, aeP, aeD, aeK, aeO, b_2, b_11, b_26, c_31, c_53]; intros; exfalso; omega) | grind [aeR, aeP, aeD, aeK, aeO]) (((congrArg (fun zq_ : Nat → Int32 => ([oMdl X mtd (nI mtl) (nI mln) (nI mwn) (nI mdn) (nI mon) (nI mat) (nI mfr) (nI mlg) (nI mfd), kA X 53 100 f53, kA X 56 100 zq_, kA X 57 800 f57, kA X 58 800 f58] : va_W)) (show (f56 : Nat → Int32) = aeP f53 f56 f57 mln mtd k sk from (by first | rfl | omega | (simp [aeR, aeP, aeD, aeK, aeO, b_2, b_11, b_26, c_31, c_53]; done) | (simp [aeR, aeP, aeD, aeK, aeO, b_2, b_11, b_26, c_31, c_53]; omega) | (simp [aeR, aeP, aeD, aeK, aeO, b_2, b_11, b_26, c_31, c_53]; intros; exfalso; omega) | grind [aeR, aeP, aeD, aeK, aeO]))).trans (congrArg (fun zq_ : Nat → Int32 => ([oMdl X mtd (nI mtl) (nI mln) (nI mwn) (nI mdn) (nI mon) (nI mat) (nI mfr) (nI mlg) (nI mfd), kA X 53 100 f53, kA X 56 100 (aeP f53 f56 f57 mln mtd k sk), kA X 57 800 zq_, kA X 58 800 f58] : va_W)) (show (f57 : Nat → Int32) = aeD f53 f56 f57 mln mtd k sk from (by first | rfl | omega | (simp [aeR, aeP, aeD, aeK, aeO, b_2, b_11, b_26, c_31, c_53]; done) | (simp [aeR, aeP, aeD, aeK, aeO, b_2, b_11, b_26, c_31, c_53]; omega) | (simp [aeR, aeP, aeD, aeK, aeO, b_2, b_11, b_26, c_31, c_53]; intros; exfalso; omega) | grind [aeR, aeP, aeD, aeK, aeO])))).trans (congrArg (fun zq_ : Nat → Int32 => ([oMdl X mtd (nI mtl) (nI mln) (nI mwn) (nI mdn) (nI mon) (nI mat) (nI mfr) (nI mlg) (nI mfd), kA X 53 100 f53, kA X 56 100 (aeP f53 f56 f57 mln mtd k sk), kA X 57 800 (aeD f53 f56 f57 mln mtd k sk), kA X 58 800 zq_] : va_W)) (show (f58 : Nat → Int32) = aeK f53 f56 f57 mln mtd k sk f58 from (by first | rfl | omega | (simp [aeR, aeP, aeD, aeK, aeO, b_2, b_11, b_26, c_31, c_53]; done) | (simp [aeR, aeP, aeD, aeK, aeO, b_2, b_11, b_26, c_31, c_53]; omega) | (simp [aeR, aeP, aeD, aeK, aeO, b_2, b_11, b_26, c_31, c_53]; intros; exfalso; omega) | grind [aeR, aeP, aeD, aeK, aeO]))))
      · refine g_top (bz_f b_26) ?_
        refine g_iload_n (pc' := 30) C dX10_appeal_29 2 rfl rfl rfl ?_
        refine g_iconst (pc' := 31) (v := 1) C dX10_appeal_30 rfl rfl ?_
        refine g_icmp_ne (pc' := 34) (tgt := 38) C dX10_appeal_31 (by decide) rfl (fun c_31 => ?_) (fun c_31 => ?_)
        · refine g_iconst (pc' := 39) (v := 0) C dX10_appeal_38 rfl rfl ?_
          refine g_icmp_eqN (pc' := 42) (tgt := 45) C 0 0 rfl rfl (by omega) (by omega) dX10_appeal_39 (by decide) rfl (fun _ => ?_) (fun h => absurd h (by decide))
          refine g_aload_n (pc' := 46) C dX10_appeal_45 0 rfl rfl rfl ?_
          refine g_get (pc' := 49) C hi_X10 0 12 rfl rfl (by decide) (List.mem_of_getElem? (i := 4) rfl) rfl dX10_appeal_46 rfl ?_
          refine g_iload_n (pc' := 50) C dX10_appeal_49 1 rfl rfl rfl ?_
          refine g_iald (pc' := 51) C 2 (cN k) rfl ok0.1 (by omega) (by decide) dX10_appeal_50 rfl ?_
          refine g_top (y := nI (cN (f56 (cN k)))) ok2.1 ?_
          refine g_bipush (pc' := 53) (v := 8) C dX10_appeal_51 (by decide) rfl ?_
          refine g_icmp_neN (pc' := 56) (tgt := 59) C (cN (f56 (cN k))) 8 rfl rfl (by omega) (by omega) dX10_appeal_53 (by decide) rfl (fun c_53 => ?_) (fun c_53 => ?_)
          · refine g_aload_n (pc' := 60) C dX10_appeal_59 0 rfl rfl rfl ?_
            refine g_get (pc' := 63) C hi_X10 0 13 rfl rfl (by decide) (List.mem_of_getElem? (i := 6) rfl) rfl dX10_appeal_60 rfl ?_
            refine g_bipush (pc' := 65) (v := 8) C dX10_appeal_63 (by decide) rfl ?_
            refine g_iload_n (pc' := 66) C dX10_appeal_65 1 rfl rfl rfl ?_
            refine g_top (y := nI (cN k)) ok0.1 ?_
            refine g_imulV (pc' := 67) (v := nI (8 * (cN k))) C dX10_appeal_66 (by first | exact (pk_mul _ _) | rfl) rfl ?_
            refine g_aload_n (pc' := 68) C dX10_appeal_67 0 rfl rfl rfl ?_
            refine g_get (pc' := 71) C hi_X10 0 12 rfl rfl (by decide) (List.mem_of_getElem? (i := 4) rfl) rfl dX10_appeal_68 rfl ?_
            refine g_iload_n (pc' := 72) C dX10_appeal_71 1 rfl rfl rfl ?_
            refine g_iald (pc' := 73) C 2 (cN k) rfl ok0.1 (by omega) (by decide) dX10_appeal_72 rfl ?_
            refine g_top (y := nI (cN (f56 (cN k)))) ok2.1 ?_
            refine g_iaddV (pc' := 74) (v := nI ((8 * (cN k)) + (cN (f56 (cN k))))) C dX10_appeal_73 (by first | exact (nI_add _ _) | rfl) rfl ?_
            refine g_top (y := nI (cN k * 8 + cN (f56 (cN k)))) (by rw [Nat.mul_comm]) ?_
            refine g_aload_n (pc' := 75) C dX10_appeal_74 0 rfl rfl rfl ?_
            refine g_get (pc' := 78) C hi_X10 0 0 rfl rfl (by decide) (List.mem_of_getElem? (i := 2) rfl) rfl dX10_appeal_75 rfl ?_
            refine g_iast (pc' := 79) (ws2 := [oMdl X mtd (nI mtl) (nI mln) (nI mwn) (nI mdn) (nI mon) (nI mat) (nI mfr) (nI mlg) (nI mfd), kA X 53 100 f53, kA X 56 100 f56, kA X 57 800 (upd f57 (cN k * 8 + cN (f56 (cN k))) mtd), kA X 58 800 f58]) C 3 (cN k * 8 + cN (f56 (cN k))) rfl rfl (by omega) (by decide) dX10_appeal_78 rfl rfl ?_
            refine g_aload_n (pc' := 80) C dX10_appeal_79 0 rfl rfl rfl ?_
            refine g_get (pc' := 83) C hi_X10 0 14 rfl rfl (by decide) (List.mem_of_getElem? (i := 7) rfl) rfl dX10_appeal_80 rfl ?_
            refine g_bipush (pc' := 85) (v := 8) C dX10_appeal_83 (by decide) rfl ?_
            refine g_iload_n (pc' := 86) C dX10_appeal_85 1 rfl rfl rfl ?_
            refine g_top (y := nI (cN k)) ok0.1 ?_
            refine g_imulV (pc' := 87) (v := nI (8 * (cN k))) C dX10_appeal_86 (by first | exact (pk_mul _ _) | rfl) rfl ?_
            refine g_aload_n (pc' := 88) C dX10_appeal_87 0 rfl rfl rfl ?_
            refine g_get (pc' := 91) C hi_X10 0 12 rfl rfl (by decide) (List.mem_of_getElem? (i := 4) rfl) rfl dX10_appeal_88 rfl ?_
            refine g_iload_n (pc' := 92) C dX10_appeal_91 1 rfl rfl rfl ?_
            refine g_iald (pc' := 93) C 2 (cN k) rfl ok0.1 (by omega) (by decide) dX10_appeal_92 rfl ?_
            refine g_top (y := nI (cN (f56 (cN k)))) ok2.1 ?_
            refine g_iaddV (pc' := 94) (v := nI ((8 * (cN k)) + (cN (f56 (cN k))))) C dX10_appeal_93 (by first | exact (nI_add _ _) | rfl) rfl ?_
            refine g_top (y := nI (cN k * 8 + cN (f56 (cN k)))) (by rw [Nat.mul_comm]) ?_
            refine g_iload_n (pc' := 95) C dX10_appeal_94 2 rfl rfl rfl ?_
            refine g_iast (pc' := 96) (ws2 := [oMdl X mtd (nI mtl) (nI mln) (nI mwn) (nI mdn) (nI mon) (nI mat) (nI mfr) (nI mlg) (nI mfd), kA X 53 100 f53, kA X 56 100 f56, kA X 57 800 (upd f57 (cN k * 8 + cN (f56 (cN k))) mtd), kA X 58 800 (upd f58 (cN k * 8 + cN (f56 (cN k))) sk)]) C 4 (cN k * 8 + cN (f56 (cN k))) rfl rfl (by omega) (by decide) dX10_appeal_95 rfl rfl ?_
            refine g_aload_n (pc' := 97) C dX10_appeal_96 0 rfl rfl rfl ?_
            refine g_get (pc' := 100) C hi_X10 0 12 rfl rfl (by decide) (List.mem_of_getElem? (i := 4) rfl) rfl dX10_appeal_97 rfl ?_
            refine g_iload_n (pc' := 101) C dX10_appeal_100 1 rfl rfl rfl ?_
            refine g_dup2 (pc' := 102) C dX10_appeal_101 rfl rfl rfl ?_
            refine g_iald (pc' := 103) C 2 (cN k) rfl ok0.1 (by omega) (by decide) dX10_appeal_102 rfl ?_
            refine g_top (y := nI (cN (f56 (cN k)))) ok2.1 ?_
            refine g_iconst (pc' := 104) (v := 1) C dX10_appeal_103 rfl rfl ?_
            refine g_iaddV (pc' := 105) (v := nI ((cN (f56 (cN k))) + 1)) C dX10_appeal_104 (by first | exact (nI_add _ _) | rfl) rfl ?_
            refine g_iast (pc' := 106) (ws2 := [oMdl X mtd (nI mtl) (nI mln) (nI mwn) (nI mdn) (nI mon) (nI mat) (nI mfr) (nI mlg) (nI mfd), kA X 53 100 f53, kA X 56 100 (upd f56 (cN k) (nI ((cN (f56 (cN k))) + 1))), kA X 57 800 (upd f57 (cN k * 8 + cN (f56 (cN k))) mtd), kA X 58 800 (upd f58 (cN k * 8 + cN (f56 (cN k))) sk)]) C 2 (cN k) rfl ok0.1 (by omega) (by decide) dX10_appeal_105 rfl rfl ?_
            refine g_aload_n (pc' := 107) C dX10_appeal_106 0 rfl rfl rfl ?_
            refine g_get (pc' := 110) C hi_X10 0 12 rfl rfl (by decide) (List.mem_of_getElem? (i := 4) rfl) rfl dX10_appeal_107 rfl ?_
            refine g_iload_n (pc' := 111) C dX10_appeal_110 1 rfl rfl rfl ?_
            refine g_iald (pc' := 112) C 2 (cN k) rfl ok0.1 (by omega) (by decide) dX10_appeal_111 rfl ?_
            refine g_top (y := nI (cN (f56 (cN k)) + 1)) pk_us ?_
            exact g_iret C hr dX10_appeal_112 (by first | rfl | omega | (simp [aeR, aeP, aeD, aeK, aeO, b_2, b_11, b_26, c_31, c_53]; done) | (simp [aeR, aeP, aeD, aeK, aeO, b_2, b_11, b_26, c_31, c_53]; omega) | (simp [aeR, aeP, aeD, aeK, aeO, b_2, b_11, b_26, c_31, c_53]; intros; exfalso; omega) | grind [aeR, aeP, aeD, aeK, aeO]) (((congrArg (fun zq_ : Nat → Int32 => ([oMdl X mtd (nI mtl) (nI mln) (nI mwn) (nI mdn) (nI mon) (nI mat) (nI mfr) (nI mlg) (nI mfd), kA X 53 100 f53, kA X 56 100 zq_, kA X 57 800 (upd f57 (cN k * 8 + cN (f56 (cN k))) mtd), kA X 58 800 (upd f58 (cN k * 8 + cN (f56 (cN k))) sk)] : va_W)) (show (upd f56 (cN k) (nI ((cN (f56 (cN k))) + 1)) : Nat → Int32) = aeP f53 f56 f57 mln mtd k sk from (by first | rfl | omega | (simp [aeR, aeP, aeD, aeK, aeO, b_2, b_11, b_26, c_31, c_53]; done) | (simp [aeR, aeP, aeD, aeK, aeO, b_2, b_11, b_26, c_31, c_53]; omega) | (simp [aeR, aeP, aeD, aeK, aeO, b_2, b_11, b_26, c_31, c_53]; intros; exfalso; omega) | grind [aeR, aeP, aeD, aeK, aeO]))).trans (congrArg (fun zq_ : Nat → Int32 => ([oMdl X mtd (nI mtl) (nI mln) (nI mwn) (nI mdn) (nI mon) (nI mat) (nI mfr) (nI mlg) (nI mfd), kA X 53 100 f53, kA X 56 100 (aeP f53 f56 f57 mln mtd k sk), kA X 57 800 zq_, kA X 58 800 (upd f58 (cN k * 8 + cN (f56 (cN k))) sk)] : va_W)) (show (upd f57 (cN k * 8 + cN (f56 (cN k))) mtd : Nat → Int32) = aeD f53 f56 f57 mln mtd k sk from (by first | rfl | omega | (simp [aeR, aeP, aeD, aeK, aeO, b_2, b_11, b_26, c_31, c_53]; done) | (simp [aeR, aeP, aeD, aeK, aeO, b_2, b_11, b_26, c_31, c_53]; omega) | (simp [aeR, aeP, aeD, aeK, aeO, b_2, b_11, b_26, c_31, c_53]; intros; exfalso; omega) | grind [aeR, aeP, aeD, aeK, aeO])))).trans (congrArg (fun zq_ : Nat → Int32 => ([oMdl X mtd (nI mtl) (nI mln) (nI mwn) (nI mdn) (nI mon) (nI mat) (nI mfr) (nI mlg) (nI mfd), kA X 53 100 f53, kA X 56 100 (aeP f53 f56 f57 mln mtd k sk), kA X 57 800 (aeD f53 f56 f57 mln mtd k sk), kA X 58 800 zq_] : va_W)) (show (upd f58 (cN k * 8 + cN (f56 (cN k))) sk : Nat → Int32) = aeK f53 f56 f57 mln mtd k sk f58 from (by first | rfl | omega | (simp [aeR, aeP, aeD, aeK, aeO, b_2, b_11, b_26, c_31, c_53]; done) | (simp [aeR, aeP, aeD, aeK, aeO, b_2, b_11, b_26, c_31, c_53]; omega) | (simp [aeR, aeP, aeD, aeK, aeO, b_2, b_11, b_26, c_31, c_53]; intros; exfalso; omega) | grind [aeR, aeP, aeD, aeK, aeO]))))
          · refine g_ldc (pc' := 58) (v := (-1000000003)) C (List.mem_of_getElem? (i := 5) rfl) dX10_appeal_56 rfl ?_
            exact g_iret C hr dX10_appeal_58 (by first | rfl | omega | (simp [aeR, aeP, aeD, aeK, aeO, b_2, b_11, b_26, c_31, c_53]; done) | (simp [aeR, aeP, aeD, aeK, aeO, b_2, b_11, b_26, c_31, c_53]; omega) | (simp [aeR, aeP, aeD, aeK, aeO, b_2, b_11, b_26, c_31, c_53]; intros; exfalso; omega) | grind [aeR, aeP, aeD, aeK, aeO]) (((congrArg (fun zq_ : Nat → Int32 => ([oMdl X mtd (nI mtl) (nI mln) (nI mwn) (nI mdn) (nI mon) (nI mat) (nI mfr) (nI mlg) (nI mfd), kA X 53 100 f53, kA X 56 100 zq_, kA X 57 800 f57, kA X 58 800 f58] : va_W)) (show (f56 : Nat → Int32) = aeP f53 f56 f57 mln mtd k sk from (by first | rfl | omega | (simp [aeR, aeP, aeD, aeK, aeO, b_2, b_11, b_26, c_31, c_53]; done) | (simp [aeR, aeP, aeD, aeK, aeO, b_2, b_11, b_26, c_31, c_53]; omega) | (simp [aeR, aeP, aeD, aeK, aeO, b_2, b_11, b_26, c_31, c_53]; intros; exfalso; omega) | grind [aeR, aeP, aeD, aeK, aeO]))).trans (congrArg (fun zq_ : Nat → Int32 => ([oMdl X mtd (nI mtl) (nI mln) (nI mwn) (nI mdn) (nI mon) (nI mat) (nI mfr) (nI mlg) (nI mfd), kA X 53 100 f53, kA X 56 100 (aeP f53 f56 f57 mln mtd k sk), kA X 57 800 zq_, kA X 58 800 f58] : va_W)) (show (f57 : Nat → Int32) = aeD f53 f56 f57 mln mtd k sk from (by first | rfl | omega | (simp [aeR, aeP, aeD, aeK, aeO, b_2, b_11, b_26, c_31, c_53]; done) | (simp [aeR, aeP, aeD, aeK, aeO, b_2, b_11, b_26, c_31, c_53]; omega) | (simp [aeR, aeP, aeD, aeK, aeO, b_2, b_11, b_26, c_31, c_53]; intros; exfalso; omega) | grind [aeR, aeP, aeD, aeK, aeO])))).trans (congrArg (fun zq_ : Nat → Int32 => ([oMdl X mtd (nI mtl) (nI mln) (nI mwn) (nI mdn) (nI mon) (nI mat) (nI mfr) (nI mlg) (nI mfd), kA X 53 100 f53, kA X 56 100 (aeP f53 f56 f57 mln mtd k sk), kA X 57 800 (aeD f53 f56 f57 mln mtd k sk), kA X 58 800 zq_] : va_W)) (show (f58 : Nat → Int32) = aeK f53 f56 f57 mln mtd k sk f58 from (by first | rfl | omega | (simp [aeR, aeP, aeD, aeK, aeO, b_2, b_11, b_26, c_31, c_53]; done) | (simp [aeR, aeP, aeD, aeK, aeO, b_2, b_11, b_26, c_31, c_53]; omega) | (simp [aeR, aeP, aeD, aeK, aeO, b_2, b_11, b_26, c_31, c_53]; intros; exfalso; omega) | grind [aeR, aeP, aeD, aeK, aeO]))))
        · refine g_iconst (pc' := 35) (v := 1) C dX10_appeal_34 rfl rfl ?_
          refine g_goto (tgt := 39) C dX10_appeal_35 (by decide) ?_
          refine g_icmp_eqN (pc' := 42) (tgt := 45) C 0 1 rfl rfl (by omega) (by omega) dX10_appeal_39 (by decide) rfl (fun h => absurd h (by decide)) (fun _ => ?_)
          refine g_ldc (pc' := 44) (v := (-1000000002)) C (List.mem_of_getElem? (i := 3) rfl) dX10_appeal_42 rfl ?_
          exact g_iret C hr dX10_appeal_44 (by first | rfl | omega | (simp [aeR, aeP, aeD, aeK, aeO, b_2, b_11, b_26, c_31]; done) | (simp [aeR, aeP, aeD, aeK, aeO, b_2, b_11, b_26, c_31]; omega) | (simp [aeR, aeP, aeD, aeK, aeO, b_2, b_11, b_26, c_31]; intros; exfalso; omega) | grind [aeR, aeP, aeD, aeK, aeO]) (((congrArg (fun zq_ : Nat → Int32 => ([oMdl X mtd (nI mtl) (nI mln) (nI mwn) (nI mdn) (nI mon) (nI mat) (nI mfr) (nI mlg) (nI mfd), kA X 53 100 f53, kA X 56 100 zq_, kA X 57 800 f57, kA X 58 800 f58] : va_W)) (show (f56 : Nat → Int32) = aeP f53 f56 f57 mln mtd k sk from (by first | rfl | omega | (simp [aeR, aeP, aeD, aeK, aeO, b_2, b_11, b_26, c_31]; done) | (simp [aeR, aeP, aeD, aeK, aeO, b_2, b_11, b_26, c_31]; omega) | (simp [aeR, aeP, aeD, aeK, aeO, b_2, b_11, b_26, c_31]; intros; exfalso; omega) | grind [aeR, aeP, aeD, aeK, aeO]))).trans (congrArg (fun zq_ : Nat → Int32 => ([oMdl X mtd (nI mtl) (nI mln) (nI mwn) (nI mdn) (nI mon) (nI mat) (nI mfr) (nI mlg) (nI mfd), kA X 53 100 f53, kA X 56 100 (aeP f53 f56 f57 mln mtd k sk), kA X 57 800 zq_, kA X 58 800 f58] : va_W)) (show (f57 : Nat → Int32) = aeD f53 f56 f57 mln mtd k sk from (by first | rfl | omega | (simp [aeR, aeP, aeD, aeK, aeO, b_2, b_11, b_26, c_31]; done) | (simp [aeR, aeP, aeD, aeK, aeO, b_2, b_11, b_26, c_31]; omega) | (simp [aeR, aeP, aeD, aeK, aeO, b_2, b_11, b_26, c_31]; intros; exfalso; omega) | grind [aeR, aeP, aeD, aeK, aeO])))).trans (congrArg (fun zq_ : Nat → Int32 => ([oMdl X mtd (nI mtl) (nI mln) (nI mwn) (nI mdn) (nI mon) (nI mat) (nI mfr) (nI mlg) (nI mfd), kA X 53 100 f53, kA X 56 100 (aeP f53 f56 f57 mln mtd k sk), kA X 57 800 (aeD f53 f56 f57 mln mtd k sk), kA X 58 800 zq_] : va_W)) (show (f58 : Nat → Int32) = aeK f53 f56 f57 mln mtd k sk f58 from (by first | rfl | omega | (simp [aeR, aeP, aeD, aeK, aeO, b_2, b_11, b_26, c_31]; done) | (simp [aeR, aeP, aeD, aeK, aeO, b_2, b_11, b_26, c_31]; omega) | (simp [aeR, aeP, aeD, aeK, aeO, b_2, b_11, b_26, c_31]; intros; exfalso; omega) | grind [aeR, aeP, aeD, aeK, aeO]))))
    · refine g_top (bz_f b_11) ?_
      refine g_if_ne (pc' := 17) (tgt := 20) C dX10_appeal_14 (by decide) rfl (fun h => absurd h (by decide)) (fun _ => ?_)
      refine g_ldc (pc' := 19) (v := (-1000000001)) C (List.mem_of_getElem? (i := 1) rfl) dX10_appeal_17 rfl ?_
      exact g_iret C hr dX10_appeal_19 (by first | rfl | omega | (simp [aeR, aeP, aeD, aeK, aeO, b_2, b_11]; done) | (simp [aeR, aeP, aeD, aeK, aeO, b_2, b_11]; omega) | (simp [aeR, aeP, aeD, aeK, aeO, b_2, b_11]; intros; exfalso; omega) | grind [aeR, aeP, aeD, aeK, aeO]) (((congrArg (fun zq_ : Nat → Int32 => ([oMdl X mtd (nI mtl) (nI mln) (nI mwn) (nI mdn) (nI mon) (nI mat) (nI mfr) (nI mlg) (nI mfd), kA X 53 100 f53, kA X 56 100 zq_, kA X 57 800 f57, kA X 58 800 f58] : va_W)) (show (f56 : Nat → Int32) = aeP f53 f56 f57 mln mtd k sk from (by first | rfl | omega | (simp [aeR, aeP, aeD, aeK, aeO, b_2, b_11]; done) | (simp [aeR, aeP, aeD, aeK, aeO, b_2, b_11]; omega) | (simp [aeR, aeP, aeD, aeK, aeO, b_2, b_11]; intros; exfalso; omega) | grind [aeR, aeP, aeD, aeK, aeO]))).trans (congrArg (fun zq_ : Nat → Int32 => ([oMdl X mtd (nI mtl) (nI mln) (nI mwn) (nI mdn) (nI mon) (nI mat) (nI mfr) (nI mlg) (nI mfd), kA X 53 100 f53, kA X 56 100 (aeP f53 f56 f57 mln mtd k sk), kA X 57 800 zq_, kA X 58 800 f58] : va_W)) (show (f57 : Nat → Int32) = aeD f53 f56 f57 mln mtd k sk from (by first | rfl | omega | (simp [aeR, aeP, aeD, aeK, aeO, b_2, b_11]; done) | (simp [aeR, aeP, aeD, aeK, aeO, b_2, b_11]; omega) | (simp [aeR, aeP, aeD, aeK, aeO, b_2, b_11]; intros; exfalso; omega) | grind [aeR, aeP, aeD, aeK, aeO])))).trans (congrArg (fun zq_ : Nat → Int32 => ([oMdl X mtd (nI mtl) (nI mln) (nI mwn) (nI mdn) (nI mon) (nI mat) (nI mfr) (nI mlg) (nI mfd), kA X 53 100 f53, kA X 56 100 (aeP f53 f56 f57 mln mtd k sk), kA X 57 800 (aeD f53 f56 f57 mln mtd k sk), kA X 58 800 zq_] : va_W)) (show (f58 : Nat → Int32) = aeK f53 f56 f57 mln mtd k sk f58 from (by first | rfl | omega | (simp [aeR, aeP, aeD, aeK, aeO, b_2, b_11]; done) | (simp [aeR, aeP, aeD, aeK, aeO, b_2, b_11]; omega) | (simp [aeR, aeP, aeD, aeK, aeO, b_2, b_11]; intros; exfalso; omega) | grind [aeR, aeP, aeD, aeK, aeO]))))
  · refine g_top (bz_f b_2) ?_
    refine g_if_eq (pc' := 8) (tgt := 17) C dX10_appeal_5 (by decide) rfl (fun _ => ?_) (fun h => absurd h (by decide))
    refine g_ldc (pc' := 19) (v := (-1000000001)) C (List.mem_of_getElem? (i := 1) rfl) dX10_appeal_17 rfl ?_
    exact g_iret C hr dX10_appeal_19 (by first | rfl | omega | (simp [aeR, aeP, aeD, aeK, aeO, b_2]; done) | (simp [aeR, aeP, aeD, aeK, aeO, b_2]; omega) | (simp [aeR, aeP, aeD, aeK, aeO, b_2]; intros; exfalso; omega) | grind [aeR, aeP, aeD, aeK, aeO]) (((congrArg (fun zq_ : Nat → Int32 => ([oMdl X mtd (nI mtl) (nI mln) (nI mwn) (nI mdn) (nI mon) (nI mat) (nI mfr) (nI mlg) (nI mfd), kA X 53 100 f53, kA X 56 100 zq_, kA X 57 800 f57, kA X 58 800 f58] : va_W)) (show (f56 : Nat → Int32) = aeP f53 f56 f57 mln mtd k sk from (by first | rfl | omega | (simp [aeR, aeP, aeD, aeK, aeO, b_2]; done) | (simp [aeR, aeP, aeD, aeK, aeO, b_2]; omega) | (simp [aeR, aeP, aeD, aeK, aeO, b_2]; intros; exfalso; omega) | grind [aeR, aeP, aeD, aeK, aeO]))).trans (congrArg (fun zq_ : Nat → Int32 => ([oMdl X mtd (nI mtl) (nI mln) (nI mwn) (nI mdn) (nI mon) (nI mat) (nI mfr) (nI mlg) (nI mfd), kA X 53 100 f53, kA X 56 100 (aeP f53 f56 f57 mln mtd k sk), kA X 57 800 zq_, kA X 58 800 f58] : va_W)) (show (f57 : Nat → Int32) = aeD f53 f56 f57 mln mtd k sk from (by first | rfl | omega | (simp [aeR, aeP, aeD, aeK, aeO, b_2]; done) | (simp [aeR, aeP, aeD, aeK, aeO, b_2]; omega) | (simp [aeR, aeP, aeD, aeK, aeO, b_2]; intros; exfalso; omega) | grind [aeR, aeP, aeD, aeK, aeO])))).trans (congrArg (fun zq_ : Nat → Int32 => ([oMdl X mtd (nI mtl) (nI mln) (nI mwn) (nI mdn) (nI mon) (nI mat) (nI mfr) (nI mlg) (nI mfd), kA X 53 100 f53, kA X 56 100 (aeP f53 f56 f57 mln mtd k sk), kA X 57 800 (aeD f53 f56 f57 mln mtd k sk), kA X 58 800 zq_] : va_W)) (show (f58 : Nat → Int32) = aeK f53 f56 f57 mln mtd k sk f58 from (by first | rfl | omega | (simp [aeR, aeP, aeD, aeK, aeO, b_2]; done) | (simp [aeR, aeP, aeD, aeK, aeO, b_2]; omega) | (simp [aeR, aeP, aeD, aeK, aeO, b_2]; intros; exfalso; omega) | grind [aeR, aeP, aeD, aeK, aeO]))))

set_option maxHeartbeats 1000000 in
set_option maxRecDepth 20000 in
theorem c_X10_says (l : Launch) (X : gX) (mtd : Int32) (mtl : Nat) (mln : Nat) (mwn : Nat) (mdn : Nat) (mon : Nat) (mat : Nat) (mfr : Nat) (mlg : Nat) (mfd : Nat) (f59 : Nat → Int32) (f60 : Nat → Int32) (f61 : Nat → Int32) (f62 : Nat → Int32) (h : Int32) (pp : Int32) (o : Int32) (hwn : mwn ≤ 40) : KC l yX10_says wsX10_says ⟨2, 0, 0, 42⟩ [.ref (xa X 46), .int h, .int pp, .int o] X [oMdl X mtd (nI mtl) (nI mln) (nI mwn) (nI mdn) (nI mon) (nI mat) (nI mfr) (nI mlg) (nI mfd), kA X 59 40 f59, kA X 60 40 f60, kA X 61 40 f61, kA X 62 40 f62] (some (.int (syR mwn h pp o))) [oMdl X mtd (nI mtl) (nI mln) (nI (syN mwn h pp o)) (nI mdn) (nI mon) (nI mat) (nI mfr) (nI mlg) (nI mfd), kA X 59 40 (syU f59 h mwn h pp o), kA X 60 40 (syU f60 pp mwn h pp o), kA X 61 40 (syU f61 o mwn h pp o), kA X 62 40 (syU f62 mtd mwn h pp o)] := by
  have hi_X10 : ∀ w ∈ u_ws RX10 TX10 41, w ∈ wsX10_says := fun w h => List.mem_cons_of_mem _ (List.mem_append_right _ h)
  refine KC.of cX10_says 4 (some .int) RX10 rfl (by decide) rfl (lv := [(0, .ref (xa X 46)), (1, .int h), (2, .int pp), (3, .int o)]) rfl (Nat.le_of_ble_eq_true rfl) ?_
  intro p e s m args below meth c A C hr
  refine g_iload_n (pc' := 1) C dX10_says_0 1 rfl rfl rfl ?_
  refine g_callS (pc' := 4) (st := []) (ws2 := [oMdl X mtd (nI mtl) (nI mln) (nI mwn) (nI mdn) (nI mon) (nI mat) (nI mfr) (nI mlg) (nI mfd), kA X 59 40 f59, kA X 60 40 f60, kA X 61 40 f61, kA X 62 40 f62]) C [.int h] 1 rfl (c_X10_isHouse l X h ) [] [0, 1, 2, 3, 4] [0, 1, 2, 3, 4] gX10_says_X10_isHouse rfl ⟨rfl, rfl⟩ (by decide +kernel) ⟨by decide, by decide⟩ ⟨by decide, by decide⟩ rfl (wr := [oMdl X mtd (nI mtl) (nI mln) (nI mwn) (nI mdn) (nI mon) (nI mat) (nI mfr) (nI mlg) (nI mfd), kA X 59 40 f59, kA X 60 40 f60, kA X 61 40 f61, kA X 62 40 f62]) rfl ⟨by decide, by decide, by decide, by decide⟩ rfl (Nat.le_of_ble_eq_true rfl) dX10_says_1 rfl rfl ?_
  by_cases b_1 : 0 ≤ h ∧ h ≤ 9
  · refine g_top (bz_t b_1) ?_
    refine g_if_eq (pc' := 7) (tgt := 24) C dX10_says_4 (by decide) rfl (fun h => absurd h (by decide)) (fun _ => ?_)
    refine g_iload_n (pc' := 8) C dX10_says_7 2 rfl rfl rfl ?_
    refine g_iconst (pc' := 9) (v := 0) C dX10_says_8 rfl rfl ?_
    refine g_bipush (pc' := 11) (v := 11) C dX10_says_9 (by decide) rfl ?_
    refine g_callS (pc' := 14) (st := []) (ws2 := [oMdl X mtd (nI mtl) (nI mln) (nI mwn) (nI mdn) (nI mon) (nI mat) (nI mfr) (nI mlg) (nI mfd), kA X 59 40 f59, kA X 60 40 f60, kA X 61 40 f61, kA X 62 40 f62]) C [.int pp, .int 0, .int 11] 3 rfl (c_X10_isIn l X pp 0 11 ) [] [0, 1, 2, 3, 4] [0, 1, 2, 3, 4] gX10_says_X10_isIn rfl ⟨rfl, rfl⟩ (by decide +kernel) ⟨by decide, by decide⟩ ⟨by decide, by decide⟩ rfl (wr := [oMdl X mtd (nI mtl) (nI mln) (nI mwn) (nI mdn) (nI mon) (nI mat) (nI mfr) (nI mlg) (nI mfd), kA X 59 40 f59, kA X 60 40 f60, kA X 61 40 f61, kA X 62 40 f62]) rfl ⟨by decide, by decide, by decide, by decide⟩ rfl (Nat.le_of_ble_eq_true rfl) dX10_says_11 rfl rfl ?_
    by_cases b_11 : 0 ≤ pp ∧ pp ≤ 11
    · refine g_top (bz_t b_11) ?_
      refine g_if_eq (pc' := 17) (tgt := 24) C dX10_says_14 (by decide) rfl (fun h => absurd h (by decide)) (fun _ => ?_)
      refine g_iload_n (pc' := 18) C dX10_says_17 3 rfl rfl rfl ?_
      refine g_callS (pc' := 21) (st := []) (ws2 := [oMdl X mtd (nI mtl) (nI mln) (nI mwn) (nI mdn) (nI mon) (nI mat) (nI mfr) (nI mlg) (nI mfd), kA X 59 40 f59, kA X 60 40 f60, kA X 61 40 f61, kA X 62 40 f62]) C [.int o] 1 rfl (c_X10_isHouse l X o ) [] [0, 1, 2, 3, 4] [0, 1, 2, 3, 4] gX10_says_X10_isHouse rfl ⟨rfl, rfl⟩ (by decide +kernel) ⟨by decide, by decide⟩ ⟨by decide, by decide⟩ rfl (wr := [oMdl X mtd (nI mtl) (nI mln) (nI mwn) (nI mdn) (nI mon) (nI mat) (nI mfr) (nI mlg) (nI mfd), kA X 59 40 f59, kA X 60 40 f60, kA X 61 40 f61, kA X 62 40 f62]) rfl ⟨by decide, by decide, by decide, by decide⟩ rfl (Nat.le_of_ble_eq_true rfl) dX10_says_18 rfl rfl ?_
      by_cases b_18 : 0 ≤ o ∧ o ≤ 9
      · refine g_top (bz_t b_18) ?_
        refine g_if_ne (pc' := 24) (tgt := 27) C dX10_says_21 (by decide) rfl (fun _ => ?_) (fun h => absurd h (by decide))
        refine g_aload_n (pc' := 28) C dX10_says_27 0 rfl rfl rfl ?_
        refine g_get (pc' := 31) C hi_X10 0 15 rfl rfl (by decide) (List.mem_of_getElem? (i := 2) rfl) rfl dX10_says_28 rfl ?_
        refine g_bipush (pc' := 33) (v := 40) C dX10_says_31 (by decide) rfl ?_
        refine g_icmp_neN (pc' := 36) (tgt := 39) C mwn 40 rfl rfl (by omega) (by omega) dX10_says_33 (by decide) rfl (fun c_33 => ?_) (fun c_33 => ?_)
        · refine g_aload_n (pc' := 40) C dX10_says_39 0 rfl rfl rfl ?_
          refine g_get (pc' := 43) C hi_X10 0 16 rfl rfl (by decide) (List.mem_of_getElem? (i := 4) rfl) rfl dX10_says_40 rfl ?_
          refine g_aload_n (pc' := 44) C dX10_says_43 0 rfl rfl rfl ?_
          refine g_get (pc' := 47) C hi_X10 0 15 rfl rfl (by decide) (List.mem_of_getElem? (i := 2) rfl) rfl dX10_says_44 rfl ?_
          refine g_iload_n (pc' := 48) C dX10_says_47 1 rfl rfl rfl ?_
          refine g_iast (pc' := 49) (ws2 := [oMdl X mtd (nI mtl) (nI mln) (nI mwn) (nI mdn) (nI mon) (nI mat) (nI mfr) (nI mlg) (nI mfd), kA X 59 40 (upd f59 mwn h), kA X 60 40 f60, kA X 61 40 f61, kA X 62 40 f62]) C 1 mwn rfl rfl (by omega) (by decide) dX10_says_48 rfl rfl ?_
          refine g_aload_n (pc' := 50) C dX10_says_49 0 rfl rfl rfl ?_
          refine g_get (pc' := 53) C hi_X10 0 17 rfl rfl (by decide) (List.mem_of_getElem? (i := 5) rfl) rfl dX10_says_50 rfl ?_
          refine g_aload_n (pc' := 54) C dX10_says_53 0 rfl rfl rfl ?_
          refine g_get (pc' := 57) C hi_X10 0 15 rfl rfl (by decide) (List.mem_of_getElem? (i := 2) rfl) rfl dX10_says_54 rfl ?_
          refine g_iload_n (pc' := 58) C dX10_says_57 2 rfl rfl rfl ?_
          refine g_iast (pc' := 59) (ws2 := [oMdl X mtd (nI mtl) (nI mln) (nI mwn) (nI mdn) (nI mon) (nI mat) (nI mfr) (nI mlg) (nI mfd), kA X 59 40 (upd f59 mwn h), kA X 60 40 (upd f60 mwn pp), kA X 61 40 f61, kA X 62 40 f62]) C 2 mwn rfl rfl (by omega) (by decide) dX10_says_58 rfl rfl ?_
          refine g_aload_n (pc' := 60) C dX10_says_59 0 rfl rfl rfl ?_
          refine g_get (pc' := 63) C hi_X10 0 18 rfl rfl (by decide) (List.mem_of_getElem? (i := 6) rfl) rfl dX10_says_60 rfl ?_
          refine g_aload_n (pc' := 64) C dX10_says_63 0 rfl rfl rfl ?_
          refine g_get (pc' := 67) C hi_X10 0 15 rfl rfl (by decide) (List.mem_of_getElem? (i := 2) rfl) rfl dX10_says_64 rfl ?_
          refine g_iload_n (pc' := 68) C dX10_says_67 3 rfl rfl rfl ?_
          refine g_iast (pc' := 69) (ws2 := [oMdl X mtd (nI mtl) (nI mln) (nI mwn) (nI mdn) (nI mon) (nI mat) (nI mfr) (nI mlg) (nI mfd), kA X 59 40 (upd f59 mwn h), kA X 60 40 (upd f60 mwn pp), kA X 61 40 (upd f61 mwn o), kA X 62 40 f62]) C 3 mwn rfl rfl (by omega) (by decide) dX10_says_68 rfl rfl ?_
          refine g_aload_n (pc' := 70) C dX10_says_69 0 rfl rfl rfl ?_
          refine g_get (pc' := 73) C hi_X10 0 19 rfl rfl (by decide) (List.mem_of_getElem? (i := 7) rfl) rfl dX10_says_70 rfl ?_
          refine g_aload_n (pc' := 74) C dX10_says_73 0 rfl rfl rfl ?_
          refine g_get (pc' := 77) C hi_X10 0 15 rfl rfl (by decide) (List.mem_of_getElem? (i := 2) rfl) rfl dX10_says_74 rfl ?_
          refine g_aload_n (pc' := 78) C dX10_says_77 0 rfl rfl rfl ?_
          refine g_get (pc' := 81) C hi_X10 0 0 rfl rfl (by decide) (List.mem_of_getElem? (i := 8) rfl) rfl dX10_says_78 rfl ?_
          refine g_iast (pc' := 82) (ws2 := [oMdl X mtd (nI mtl) (nI mln) (nI mwn) (nI mdn) (nI mon) (nI mat) (nI mfr) (nI mlg) (nI mfd), kA X 59 40 (upd f59 mwn h), kA X 60 40 (upd f60 mwn pp), kA X 61 40 (upd f61 mwn o), kA X 62 40 (upd f62 mwn mtd)]) C 4 mwn rfl rfl (by omega) (by decide) dX10_says_81 rfl rfl ?_
          refine g_aload_n (pc' := 83) C dX10_says_82 0 rfl rfl rfl ?_
          refine g_dup (pc' := 84) C dX10_says_83 rfl rfl ?_
          refine g_get (pc' := 87) C hi_X10 0 15 rfl rfl (by decide) (List.mem_of_getElem? (i := 2) rfl) rfl dX10_says_84 rfl ?_
          refine g_iconst (pc' := 88) (v := 1) C dX10_says_87 rfl rfl ?_
          refine g_iaddV (pc' := 89) (v := nI (mwn + 1)) C dX10_says_88 (by first | exact (nI_add _ _) | rfl) rfl ?_
          refine g_put (pc' := 92) (ws2 := [oMdl X mtd (nI mtl) (nI mln) (nI (mwn + 1)) (nI mdn) (nI mon) (nI mat) (nI mfr) (nI mlg) (nI mfd), kA X 59 40 (upd f59 mwn h), kA X 60 40 (upd f60 mwn pp), kA X 61 40 (upd f61 mwn o), kA X 62 40 (upd f62 mwn mtd)]) C hi_X10 tyX10 tyX10_ok nmX10 0 15 rfl rfl (by decide) (Nat.le_of_ble_eq_true rfl) rfl rfl (List.mem_of_getElem? (i := 2) rfl) dX10_says_89 rfl rfl ?_
          refine g_aload_n (pc' := 93) C dX10_says_92 0 rfl rfl rfl ?_
          refine g_get (pc' := 96) C hi_X10 0 15 rfl rfl (by decide) (List.mem_of_getElem? (i := 2) rfl) rfl dX10_says_93 rfl ?_
          exact g_iret C hr dX10_says_96 (by first | rfl | omega | (simp [syR, syU, syN, syO, b_1, b_11, b_18, c_33]; done) | (simp [syR, syU, syN, syO, b_1, b_11, b_18, c_33]; omega) | (simp [syR, syU, syN, syO, b_1, b_11, b_18, c_33]; intros; exfalso; omega) | grind [syR, syU, syN, syO]) (((((congrArg (fun zq_ : Int32 => ([oMdl X mtd (nI mtl) (nI mln) zq_ (nI mdn) (nI mon) (nI mat) (nI mfr) (nI mlg) (nI mfd), kA X 59 40 (upd f59 mwn h), kA X 60 40 (upd f60 mwn pp), kA X 61 40 (upd f61 mwn o), kA X 62 40 (upd f62 mwn mtd)] : va_W)) (show (nI (mwn + 1) : Int32) = nI (syN mwn h pp o) from (by first | rfl | omega | (simp [syR, syU, syN, syO, b_1, b_11, b_18, c_33]; done) | (simp [syR, syU, syN, syO, b_1, b_11, b_18, c_33]; omega) | (simp [syR, syU, syN, syO, b_1, b_11, b_18, c_33]; intros; exfalso; omega) | grind [syR, syU, syN, syO]))).trans (congrArg (fun zq_ : Nat → Int32 => ([oMdl X mtd (nI mtl) (nI mln) (nI (syN mwn h pp o)) (nI mdn) (nI mon) (nI mat) (nI mfr) (nI mlg) (nI mfd), kA X 59 40 zq_, kA X 60 40 (upd f60 mwn pp), kA X 61 40 (upd f61 mwn o), kA X 62 40 (upd f62 mwn mtd)] : va_W)) (show (upd f59 mwn h : Nat → Int32) = syU f59 h mwn h pp o from (by first | rfl | omega | (simp [syR, syU, syN, syO, b_1, b_11, b_18, c_33]; done) | (simp [syR, syU, syN, syO, b_1, b_11, b_18, c_33]; omega) | (simp [syR, syU, syN, syO, b_1, b_11, b_18, c_33]; intros; exfalso; omega) | grind [syR, syU, syN, syO])))).trans (congrArg (fun zq_ : Nat → Int32 => ([oMdl X mtd (nI mtl) (nI mln) (nI (syN mwn h pp o)) (nI mdn) (nI mon) (nI mat) (nI mfr) (nI mlg) (nI mfd), kA X 59 40 (syU f59 h mwn h pp o), kA X 60 40 zq_, kA X 61 40 (upd f61 mwn o), kA X 62 40 (upd f62 mwn mtd)] : va_W)) (show (upd f60 mwn pp : Nat → Int32) = syU f60 pp mwn h pp o from (by first | rfl | omega | (simp [syR, syU, syN, syO, b_1, b_11, b_18, c_33]; done) | (simp [syR, syU, syN, syO, b_1, b_11, b_18, c_33]; omega) | (simp [syR, syU, syN, syO, b_1, b_11, b_18, c_33]; intros; exfalso; omega) | grind [syR, syU, syN, syO])))).trans (congrArg (fun zq_ : Nat → Int32 => ([oMdl X mtd (nI mtl) (nI mln) (nI (syN mwn h pp o)) (nI mdn) (nI mon) (nI mat) (nI mfr) (nI mlg) (nI mfd), kA X 59 40 (syU f59 h mwn h pp o), kA X 60 40 (syU f60 pp mwn h pp o), kA X 61 40 zq_, kA X 62 40 (upd f62 mwn mtd)] : va_W)) (show (upd f61 mwn o : Nat → Int32) = syU f61 o mwn h pp o from (by first | rfl | omega | (simp [syR, syU, syN, syO, b_1, b_11, b_18, c_33]; done) | (simp [syR, syU, syN, syO, b_1, b_11, b_18, c_33]; omega) | (simp [syR, syU, syN, syO, b_1, b_11, b_18, c_33]; intros; exfalso; omega) | grind [syR, syU, syN, syO])))).trans (congrArg (fun zq_ : Nat → Int32 => ([oMdl X mtd (nI mtl) (nI mln) (nI (syN mwn h pp o)) (nI mdn) (nI mon) (nI mat) (nI mfr) (nI mlg) (nI mfd), kA X 59 40 (syU f59 h mwn h pp o), kA X 60 40 (syU f60 pp mwn h pp o), kA X 61 40 (syU f61 o mwn h pp o), kA X 62 40 zq_] : va_W)) (show (upd f62 mwn mtd : Nat → Int32) = syU f62 mtd mwn h pp o from (by first | rfl | omega | (simp [syR, syU, syN, syO, b_1, b_11, b_18, c_33]; done) | (simp [syR, syU, syN, syO, b_1, b_11, b_18, c_33]; omega) | (simp [syR, syU, syN, syO, b_1, b_11, b_18, c_33]; intros; exfalso; omega) | grind [syR, syU, syN, syO]))))
        · refine g_ldc (pc' := 38) (v := (-1000000003)) C (List.mem_of_getElem? (i := 3) rfl) dX10_says_36 rfl ?_
          exact g_iret C hr dX10_says_38 (by first | rfl | omega | (simp [syR, syU, syN, syO, b_1, b_11, b_18, c_33]; done) | (simp [syR, syU, syN, syO, b_1, b_11, b_18, c_33]; omega) | (simp [syR, syU, syN, syO, b_1, b_11, b_18, c_33]; intros; exfalso; omega) | grind [syR, syU, syN, syO]) (((((congrArg (fun zq_ : Int32 => ([oMdl X mtd (nI mtl) (nI mln) zq_ (nI mdn) (nI mon) (nI mat) (nI mfr) (nI mlg) (nI mfd), kA X 59 40 f59, kA X 60 40 f60, kA X 61 40 f61, kA X 62 40 f62] : va_W)) (show (nI mwn : Int32) = nI (syN mwn h pp o) from (by first | rfl | omega | (simp [syR, syU, syN, syO, b_1, b_11, b_18, c_33]; done) | (simp [syR, syU, syN, syO, b_1, b_11, b_18, c_33]; omega) | (simp [syR, syU, syN, syO, b_1, b_11, b_18, c_33]; intros; exfalso; omega) | grind [syR, syU, syN, syO]))).trans (congrArg (fun zq_ : Nat → Int32 => ([oMdl X mtd (nI mtl) (nI mln) (nI (syN mwn h pp o)) (nI mdn) (nI mon) (nI mat) (nI mfr) (nI mlg) (nI mfd), kA X 59 40 zq_, kA X 60 40 f60, kA X 61 40 f61, kA X 62 40 f62] : va_W)) (show (f59 : Nat → Int32) = syU f59 h mwn h pp o from (by first | rfl | omega | (simp [syR, syU, syN, syO, b_1, b_11, b_18, c_33]; done) | (simp [syR, syU, syN, syO, b_1, b_11, b_18, c_33]; omega) | (simp [syR, syU, syN, syO, b_1, b_11, b_18, c_33]; intros; exfalso; omega) | grind [syR, syU, syN, syO])))).trans (congrArg (fun zq_ : Nat → Int32 => ([oMdl X mtd (nI mtl) (nI mln) (nI (syN mwn h pp o)) (nI mdn) (nI mon) (nI mat) (nI mfr) (nI mlg) (nI mfd), kA X 59 40 (syU f59 h mwn h pp o), kA X 60 40 zq_, kA X 61 40 f61, kA X 62 40 f62] : va_W)) (show (f60 : Nat → Int32) = syU f60 pp mwn h pp o from (by first | rfl | omega | (simp [syR, syU, syN, syO, b_1, b_11, b_18, c_33]; done) | (simp [syR, syU, syN, syO, b_1, b_11, b_18, c_33]; omega) | (simp [syR, syU, syN, syO, b_1, b_11, b_18, c_33]; intros; exfalso; omega) | grind [syR, syU, syN, syO])))).trans (congrArg (fun zq_ : Nat → Int32 => ([oMdl X mtd (nI mtl) (nI mln) (nI (syN mwn h pp o)) (nI mdn) (nI mon) (nI mat) (nI mfr) (nI mlg) (nI mfd), kA X 59 40 (syU f59 h mwn h pp o), kA X 60 40 (syU f60 pp mwn h pp o), kA X 61 40 zq_, kA X 62 40 f62] : va_W)) (show (f61 : Nat → Int32) = syU f61 o mwn h pp o from (by first | rfl | omega | (simp [syR, syU, syN, syO, b_1, b_11, b_18, c_33]; done) | (simp [syR, syU, syN, syO, b_1, b_11, b_18, c_33]; omega) | (simp [syR, syU, syN, syO, b_1, b_11, b_18, c_33]; intros; exfalso; omega) | grind [syR, syU, syN, syO])))).trans (congrArg (fun zq_ : Nat → Int32 => ([oMdl X mtd (nI mtl) (nI mln) (nI (syN mwn h pp o)) (nI mdn) (nI mon) (nI mat) (nI mfr) (nI mlg) (nI mfd), kA X 59 40 (syU f59 h mwn h pp o), kA X 60 40 (syU f60 pp mwn h pp o), kA X 61 40 (syU f61 o mwn h pp o), kA X 62 40 zq_] : va_W)) (show (f62 : Nat → Int32) = syU f62 mtd mwn h pp o from (by first | rfl | omega | (simp [syR, syU, syN, syO, b_1, b_11, b_18, c_33]; done) | (simp [syR, syU, syN, syO, b_1, b_11, b_18, c_33]; omega) | (simp [syR, syU, syN, syO, b_1, b_11, b_18, c_33]; intros; exfalso; omega) | grind [syR, syU, syN, syO]))))
      · refine g_top (bz_f b_18) ?_
        refine g_if_ne (pc' := 24) (tgt := 27) C dX10_says_21 (by decide) rfl (fun h => absurd h (by decide)) (fun _ => ?_)
        refine g_ldc (pc' := 26) (v := (-1000000001)) C (List.mem_of_getElem? (i := 1) rfl) dX10_says_24 rfl ?_
        exact g_iret C hr dX10_says_26 (by first | rfl | omega | (simp [syR, syU, syN, syO, b_1, b_11, b_18]; done) | (simp [syR, syU, syN, syO, b_1, b_11, b_18]; omega) | (simp [syR, syU, syN, syO, b_1, b_11, b_18]; intros; exfalso; omega) | grind [syR, syU, syN, syO]) (((((congrArg (fun zq_ : Int32 => ([oMdl X mtd (nI mtl) (nI mln) zq_ (nI mdn) (nI mon) (nI mat) (nI mfr) (nI mlg) (nI mfd), kA X 59 40 f59, kA X 60 40 f60, kA X 61 40 f61, kA X 62 40 f62] : va_W)) (show (nI mwn : Int32) = nI (syN mwn h pp o) from (by first | rfl | omega | (simp [syR, syU, syN, syO, b_1, b_11, b_18]; done) | (simp [syR, syU, syN, syO, b_1, b_11, b_18]; omega) | (simp [syR, syU, syN, syO, b_1, b_11, b_18]; intros; exfalso; omega) | grind [syR, syU, syN, syO]))).trans (congrArg (fun zq_ : Nat → Int32 => ([oMdl X mtd (nI mtl) (nI mln) (nI (syN mwn h pp o)) (nI mdn) (nI mon) (nI mat) (nI mfr) (nI mlg) (nI mfd), kA X 59 40 zq_, kA X 60 40 f60, kA X 61 40 f61, kA X 62 40 f62] : va_W)) (show (f59 : Nat → Int32) = syU f59 h mwn h pp o from (by first | rfl | omega | (simp [syR, syU, syN, syO, b_1, b_11, b_18]; done) | (simp [syR, syU, syN, syO, b_1, b_11, b_18]; omega) | (simp [syR, syU, syN, syO, b_1, b_11, b_18]; intros; exfalso; omega) | grind [syR, syU, syN, syO])))).trans (congrArg (fun zq_ : Nat → Int32 => ([oMdl X mtd (nI mtl) (nI mln) (nI (syN mwn h pp o)) (nI mdn) (nI mon) (nI mat) (nI mfr) (nI mlg) (nI mfd), kA X 59 40 (syU f59 h mwn h pp o), kA X 60 40 zq_, kA X 61 40 f61, kA X 62 40 f62] : va_W)) (show (f60 : Nat → Int32) = syU f60 pp mwn h pp o from (by first | rfl | omega | (simp [syR, syU, syN, syO, b_1, b_11, b_18]; done) | (simp [syR, syU, syN, syO, b_1, b_11, b_18]; omega) | (simp [syR, syU, syN, syO, b_1, b_11, b_18]; intros; exfalso; omega) | grind [syR, syU, syN, syO])))).trans (congrArg (fun zq_ : Nat → Int32 => ([oMdl X mtd (nI mtl) (nI mln) (nI (syN mwn h pp o)) (nI mdn) (nI mon) (nI mat) (nI mfr) (nI mlg) (nI mfd), kA X 59 40 (syU f59 h mwn h pp o), kA X 60 40 (syU f60 pp mwn h pp o), kA X 61 40 zq_, kA X 62 40 f62] : va_W)) (show (f61 : Nat → Int32) = syU f61 o mwn h pp o from (by first | rfl | omega | (simp [syR, syU, syN, syO, b_1, b_11, b_18]; done) | (simp [syR, syU, syN, syO, b_1, b_11, b_18]; omega) | (simp [syR, syU, syN, syO, b_1, b_11, b_18]; intros; exfalso; omega) | grind [syR, syU, syN, syO])))).trans (congrArg (fun zq_ : Nat → Int32 => ([oMdl X mtd (nI mtl) (nI mln) (nI (syN mwn h pp o)) (nI mdn) (nI mon) (nI mat) (nI mfr) (nI mlg) (nI mfd), kA X 59 40 (syU f59 h mwn h pp o), kA X 60 40 (syU f60 pp mwn h pp o), kA X 61 40 (syU f61 o mwn h pp o), kA X 62 40 zq_] : va_W)) (show (f62 : Nat → Int32) = syU f62 mtd mwn h pp o from (by first | rfl | omega | (simp [syR, syU, syN, syO, b_1, b_11, b_18]; done) | (simp [syR, syU, syN, syO, b_1, b_11, b_18]; omega) | (simp [syR, syU, syN, syO, b_1, b_11, b_18]; intros; exfalso; omega) | grind [syR, syU, syN, syO]))))
    · refine g_top (bz_f b_11) ?_
      refine g_if_eq (pc' := 17) (tgt := 24) C dX10_says_14 (by decide) rfl (fun _ => ?_) (fun h => absurd h (by decide))
      refine g_ldc (pc' := 26) (v := (-1000000001)) C (List.mem_of_getElem? (i := 1) rfl) dX10_says_24 rfl ?_
      exact g_iret C hr dX10_says_26 (by first | rfl | omega | (simp [syR, syU, syN, syO, b_1, b_11]; done) | (simp [syR, syU, syN, syO, b_1, b_11]; omega) | (simp [syR, syU, syN, syO, b_1, b_11]; intros; exfalso; omega) | grind [syR, syU, syN, syO]) (((((congrArg (fun zq_ : Int32 => ([oMdl X mtd (nI mtl) (nI mln) zq_ (nI mdn) (nI mon) (nI mat) (nI mfr) (nI mlg) (nI mfd), kA X 59 40 f59, kA X 60 40 f60, kA X 61 40 f61, kA X 62 40 f62] : va_W)) (show (nI mwn : Int32) = nI (syN mwn h pp o) from (by first | rfl | omega | (simp [syR, syU, syN, syO, b_1, b_11]; done) | (simp [syR, syU, syN, syO, b_1, b_11]; omega) | (simp [syR, syU, syN, syO, b_1, b_11]; intros; exfalso; omega) | grind [syR, syU, syN, syO]))).trans (congrArg (fun zq_ : Nat → Int32 => ([oMdl X mtd (nI mtl) (nI mln) (nI (syN mwn h pp o)) (nI mdn) (nI mon) (nI mat) (nI mfr) (nI mlg) (nI mfd), kA X 59 40 zq_, kA X 60 40 f60, kA X 61 40 f61, kA X 62 40 f62] : va_W)) (show (f59 : Nat → Int32) = syU f59 h mwn h pp o from (by first | rfl | omega | (simp [syR, syU, syN, syO, b_1, b_11]; done) | (simp [syR, syU, syN, syO, b_1, b_11]; omega) | (simp [syR, syU, syN, syO, b_1, b_11]; intros; exfalso; omega) | grind [syR, syU, syN, syO])))).trans (congrArg (fun zq_ : Nat → Int32 => ([oMdl X mtd (nI mtl) (nI mln) (nI (syN mwn h pp o)) (nI mdn) (nI mon) (nI mat) (nI mfr) (nI mlg) (nI mfd), kA X 59 40 (syU f59 h mwn h pp o), kA X 60 40 zq_, kA X 61 40 f61, kA X 62 40 f62] : va_W)) (show (f60 : Nat → Int32) = syU f60 pp mwn h pp o from (by first | rfl | omega | (simp [syR, syU, syN, syO, b_1, b_11]; done) | (simp [syR, syU, syN, syO, b_1, b_11]; omega) | (simp [syR, syU, syN, syO, b_1, b_11]; intros; exfalso; omega) | grind [syR, syU, syN, syO])))).trans (congrArg (fun zq_ : Nat → Int32 => ([oMdl X mtd (nI mtl) (nI mln) (nI (syN mwn h pp o)) (nI mdn) (nI mon) (nI mat) (nI mfr) (nI mlg) (nI mfd), kA X 59 40 (syU f59 h mwn h pp o), kA X 60 40 (syU f60 pp mwn h pp o), kA X 61 40 zq_, kA X 62 40 f62] : va_W)) (show (f61 : Nat → Int32) = syU f61 o mwn h pp o from (by first | rfl | omega | (simp [syR, syU, syN, syO, b_1, b_11]; done) | (simp [syR, syU, syN, syO, b_1, b_11]; omega) | (simp [syR, syU, syN, syO, b_1, b_11]; intros; exfalso; omega) | grind [syR, syU, syN, syO])))).trans (congrArg (fun zq_ : Nat → Int32 => ([oMdl X mtd (nI mtl) (nI mln) (nI (syN mwn h pp o)) (nI mdn) (nI mon) (nI mat) (nI mfr) (nI mlg) (nI mfd), kA X 59 40 (syU f59 h mwn h pp o), kA X 60 40 (syU f60 pp mwn h pp o), kA X 61 40 (syU f61 o mwn h pp o), kA X 62 40 zq_] : va_W)) (show (f62 : Nat → Int32) = syU f62 mtd mwn h pp o from (by first | rfl | omega | (simp [syR, syU, syN, syO, b_1, b_11]; done) | (simp [syR, syU, syN, syO, b_1, b_11]; omega) | (simp [syR, syU, syN, syO, b_1, b_11]; intros; exfalso; omega) | grind [syR, syU, syN, syO]))))
  · refine g_top (bz_f b_1) ?_
    refine g_if_eq (pc' := 7) (tgt := 24) C dX10_says_4 (by decide) rfl (fun _ => ?_) (fun h => absurd h (by decide))
    refine g_ldc (pc' := 26) (v := (-1000000001)) C (List.mem_of_getElem? (i := 1) rfl) dX10_says_24 rfl ?_
    exact g_iret C hr dX10_says_26 (by first | rfl | omega | (simp [syR, syU, syN, syO, b_1]; done) | (simp [syR, syU, syN, syO, b_1]; omega) | (simp [syR, syU, syN, syO, b_1]; intros; exfalso; omega) | grind [syR, syU, syN, syO]) (((((congrArg (fun zq_ : Int32 => ([oMdl X mtd (nI mtl) (nI mln) zq_ (nI mdn) (nI mon) (nI mat) (nI mfr) (nI mlg) (nI mfd), kA X 59 40 f59, kA X 60 40 f60, kA X 61 40 f61, kA X 62 40 f62] : va_W)) (show (nI mwn : Int32) = nI (syN mwn h pp o) from (by first | rfl | omega | (simp [syR, syU, syN, syO, b_1]; done) | (simp [syR, syU, syN, syO, b_1]; omega) | (simp [syR, syU, syN, syO, b_1]; intros; exfalso; omega) | grind [syR, syU, syN, syO]))).trans (congrArg (fun zq_ : Nat → Int32 => ([oMdl X mtd (nI mtl) (nI mln) (nI (syN mwn h pp o)) (nI mdn) (nI mon) (nI mat) (nI mfr) (nI mlg) (nI mfd), kA X 59 40 zq_, kA X 60 40 f60, kA X 61 40 f61, kA X 62 40 f62] : va_W)) (show (f59 : Nat → Int32) = syU f59 h mwn h pp o from (by first | rfl | omega | (simp [syR, syU, syN, syO, b_1]; done) | (simp [syR, syU, syN, syO, b_1]; omega) | (simp [syR, syU, syN, syO, b_1]; intros; exfalso; omega) | grind [syR, syU, syN, syO])))).trans (congrArg (fun zq_ : Nat → Int32 => ([oMdl X mtd (nI mtl) (nI mln) (nI (syN mwn h pp o)) (nI mdn) (nI mon) (nI mat) (nI mfr) (nI mlg) (nI mfd), kA X 59 40 (syU f59 h mwn h pp o), kA X 60 40 zq_, kA X 61 40 f61, kA X 62 40 f62] : va_W)) (show (f60 : Nat → Int32) = syU f60 pp mwn h pp o from (by first | rfl | omega | (simp [syR, syU, syN, syO, b_1]; done) | (simp [syR, syU, syN, syO, b_1]; omega) | (simp [syR, syU, syN, syO, b_1]; intros; exfalso; omega) | grind [syR, syU, syN, syO])))).trans (congrArg (fun zq_ : Nat → Int32 => ([oMdl X mtd (nI mtl) (nI mln) (nI (syN mwn h pp o)) (nI mdn) (nI mon) (nI mat) (nI mfr) (nI mlg) (nI mfd), kA X 59 40 (syU f59 h mwn h pp o), kA X 60 40 (syU f60 pp mwn h pp o), kA X 61 40 zq_, kA X 62 40 f62] : va_W)) (show (f61 : Nat → Int32) = syU f61 o mwn h pp o from (by first | rfl | omega | (simp [syR, syU, syN, syO, b_1]; done) | (simp [syR, syU, syN, syO, b_1]; omega) | (simp [syR, syU, syN, syO, b_1]; intros; exfalso; omega) | grind [syR, syU, syN, syO])))).trans (congrArg (fun zq_ : Nat → Int32 => ([oMdl X mtd (nI mtl) (nI mln) (nI (syN mwn h pp o)) (nI mdn) (nI mon) (nI mat) (nI mfr) (nI mlg) (nI mfd), kA X 59 40 (syU f59 h mwn h pp o), kA X 60 40 (syU f60 pp mwn h pp o), kA X 61 40 (syU f61 o mwn h pp o), kA X 62 40 zq_] : va_W)) (show (f62 : Nat → Int32) = syU f62 mtd mwn h pp o from (by first | rfl | omega | (simp [syR, syU, syN, syO, b_1]; done) | (simp [syR, syU, syN, syO, b_1]; omega) | (simp [syR, syU, syN, syO, b_1]; intros; exfalso; omega) | grind [syR, syU, syN, syO]))))

set_option maxHeartbeats 1000000 in
set_option maxRecDepth 20000 in
theorem c_X10_wordOf (l : Launch) (X : gX) (mtd : Int32) (mtl : Nat) (mln : Nat) (mwn : Nat) (mdn : Nat) (mon : Nat) (mat : Nat) (mfr : Nat) (mlg : Nat) (mfd : Nat) (f59 : Nat → Int32) (f60 : Nat → Int32) (f61 : Nat → Int32) (f62 : Nat → Int32) (h : Nat) (pl : Int32) (d : Int32) (hwn : mwn ≤ 40) : KC l yX10_wordOf wsX10_wordOf ⟨0, 0, 0, 0⟩ [.ref (xa X 46), .int (nI h), .int pl, .int d] X [oMdl X mtd (nI mtl) (nI mln) (nI mwn) (nI mdn) (nI mon) (nI mat) (nI mfr) (nI mlg) (nI mfd), kA X 59 40 f59, kA X 60 40 f60, kA X 61 40 f61, kA X 62 40 f62] (some (.int (uF f59 f60 f61 f62 mwn pl d h))) [oMdl X mtd (nI mtl) (nI mln) (nI mwn) (nI mdn) (nI mon) (nI mat) (nI mfr) (nI mlg) (nI mfd), kA X 59 40 f59, kA X 60 40 f60, kA X 61 40 f61, kA X 62 40 f62] := by
  have hi_X10 : ∀ w ∈ u_ws RX10 TX10 41, w ∈ wsX10_wordOf := fun w h => List.mem_cons_of_mem _ (List.mem_append_right _ h)
  refine KC.of cX10_wordOf 6 (some .int) RX10 rfl (by decide) rfl (lv := [(0, .ref (xa X 46)), (1, .int (nI h)), (2, .int pl), (3, .int d)]) rfl (Nat.le_of_ble_eq_true rfl) ?_
  intro p e s m args below meth c A C hr
  refine g_ldc (pc' := 2) (v := (-1000000005)) C (List.mem_of_getElem? (i := 1) rfl) dX10_wordOf_0 rfl ?_
  refine g_istore (pc' := 4) (lv' := [(4, .int (-1000000005)), (0, .ref (xa X 46)), (1, .int (nI h)), (2, .int pl), (3, .int d)]) C dX10_wordOf_2 (by decide) rfl rfl ?_
  refine g_iconst (pc' := 5) (v := 0) C dX10_wordOf_4 rfl rfl ?_
  refine g_istore (pc' := 7) (lv' := [(5, .int 0), (4, .int (-1000000005)), (0, .ref (xa X 46)), (1, .int (nI h)), (2, .int pl), (3, .int d)]) C dX10_wordOf_5 (by decide) rfl rfl ?_
  have lp_7 : ∀ (n_7 : Nat) (k : Nat) (hk : k ≤ mwn) (hm_7 : mwn - k < n_7), gG p l e ⟨0, 0, 0, 0⟩ s m args below meth c X A 6 0 0 (MQ below (QA X A (some (.int (uF f59 f60 f61 f62 mwn pl d h))) [oMdl X mtd (nI mtl) (nI mln) (nI mwn) (nI mdn) (nI mon) (nI mat) (nI mfr) (nI mlg) (nI mfd), kA X 59 40 f59, kA X 60 40 f60, kA X 61 40 f61, kA X 62 40 f62]) args s 0 0 A) [(0, .ref (xa X 46)), (1, .int (nI h)), (2, .int pl), (3, .int d), (4, .int (lastF f59 f60 f61 f62 h pl d k)), (5, .int (nI k))] [oMdl X mtd (nI mtl) (nI mln) (nI mwn) (nI mdn) (nI mon) (nI mat) (nI mfr) (nI mlg) (nI mfd), kA X 59 40 f59, kA X 60 40 f60, kA X 61 40 f61, kA X 62 40 f62] 7 [] := by
    intro n_7
    induction n_7 with
    | zero => intro k hk hm_7; exact absurd hm_7 (Nat.not_lt_zero _)
    | succ n_7 ih_7 =>
      intro k hk hm_7
      refine g_iload (pc' := 9) C dX10_wordOf_7 5 rfl rfl ?_
      refine g_aload_n (pc' := 10) C dX10_wordOf_9 0 rfl rfl rfl ?_
      refine g_get (pc' := 13) C hi_X10 0 15 rfl rfl (by decide) (List.mem_of_getElem? (i := 2) rfl) rfl dX10_wordOf_10 rfl ?_
      refine g_icmp_geN (pc' := 16) (tgt := 64) C k mwn rfl rfl (by omega) (by omega) dX10_wordOf_13 (by decide) rfl (fun c_13 => ?_) (fun c_13 => ?_)
      · refine g_iload (pc' := 66) C dX10_wordOf_64 4 rfl rfl ?_
        have e9 : k = mwn := by omega
        refine g_top (y := lastF f59 f60 f61 f62 h pl d mwn) (by rw [e9]) ?_
        refine g_iload_n (pc' := 67) C dX10_wordOf_66 1 rfl rfl rfl ?_
        refine g_icmp_ne (pc' := 70) (tgt := 75) C dX10_wordOf_67 (by decide) rfl (fun c_67 => ?_) (fun c_67 => ?_)
        · refine g_iload (pc' := 77) C dX10_wordOf_75 4 rfl rfl ?_
          exact g_iret C hr dX10_wordOf_77 (by simp [uF, effF, e9, c_67]) rfl
        · refine g_ldc (pc' := 72) (v := (-1000000005)) C (List.mem_of_getElem? (i := 1) rfl) dX10_wordOf_70 rfl ?_
          refine g_goto (tgt := 77) C dX10_wordOf_72 (by decide) ?_
          exact g_iret C hr dX10_wordOf_77 (by simp [uF, effF, e9, c_67]) rfl
      · refine g_aload_n (pc' := 17) C dX10_wordOf_16 0 rfl rfl rfl ?_
        refine g_get (pc' := 20) C hi_X10 0 16 rfl rfl (by decide) (List.mem_of_getElem? (i := 3) rfl) rfl dX10_wordOf_17 rfl ?_
        refine g_iload (pc' := 22) C dX10_wordOf_20 5 rfl rfl ?_
        refine g_iald (pc' := 23) C 1 k rfl rfl (by omega) (by decide) dX10_wordOf_22 rfl ?_
        refine g_iload_n (pc' := 24) C dX10_wordOf_23 1 rfl rfl rfl ?_
        refine g_icmp_ne (pc' := 27) (tgt := 58) C dX10_wordOf_24 (by decide) rfl (fun c_24 => ?_) (fun c_24 => ?_)
        · refine g_iinc (pc' := 61) (v := nI (k + 1)) (lv' := [(5, .int (nI (k + 1))), (0, .ref (xa X 46)), (1, .int (nI h)), (2, .int pl), (3, .int d), (4, .int (lastF f59 f60 f61 f62 h pl d k))]) C dX10_wordOf_58 5 rfl (nI_1 _) (by decide) rfl rfl ?_
          refine g_goto (tgt := 7) C dX10_wordOf_61 (by decide) ?_
          refine g_lv (lv2 := [(0, .ref (xa X 46)), (1, .int (nI h)), (2, .int pl), (3, .int d), (4, .int (lastF f59 f60 f61 f62 h pl d k)), (5, .int (nI (k + 1)))]) [1, 2, 3, 4, 5, 0] rfl ?_
          refine g_eq (lv2 := [(0, .ref (xa X 46)), (1, .int (nI h)), (2, .int pl), (3, .int d), (4, .int (lastF f59 f60 f61 f62 h pl d (k + 1))), (5, .int (nI (k + 1)))]) (ws2 := [oMdl X mtd (nI mtl) (nI mln) (nI mwn) (nI mdn) (nI mon) (nI mat) (nI mfr) (nI mlg) (nI mfd), kA X 59 40 f59, kA X 60 40 f60, kA X 61 40 f61, kA X 62 40 f62]) (st2 := []) (congrArg (fun zq_ : Int32 => ([(0, .ref (xa X 46)), (1, .int (nI h)), (2, .int pl), (3, .int d), (4, .int zq_), (5, .int (nI (k + 1)))] : List (Nat × Value))) (show (lastF f59 f60 f61 f62 h pl d k : Int32) = lastF f59 f60 f61 f62 h pl d (k + 1) from (by first | rfl | omega | (simp [lastF, c_13, c_24]; done) | (simp [lastF, c_13, c_24]; omega) | (simp [lastF, c_13, c_24]; intros; exfalso; omega) | grind [lastF]))) rfl rfl ?_
          exact ih_7 (k + 1) (by omega) (by omega)
        · refine g_aload_n (pc' := 28) C dX10_wordOf_27 0 rfl rfl rfl ?_
          refine g_get (pc' := 31) C hi_X10 0 17 rfl rfl (by decide) (List.mem_of_getElem? (i := 4) rfl) rfl dX10_wordOf_28 rfl ?_
          refine g_iload (pc' := 33) C dX10_wordOf_31 5 rfl rfl ?_
          refine g_iald (pc' := 34) C 2 k rfl rfl (by omega) (by decide) dX10_wordOf_33 rfl ?_
          refine g_iload_n (pc' := 35) C dX10_wordOf_34 2 rfl rfl rfl ?_
          refine g_icmp_ne (pc' := 38) (tgt := 58) C dX10_wordOf_35 (by decide) rfl (fun c_35 => ?_) (fun c_35 => ?_)
          · refine g_iinc (pc' := 61) (v := nI (k + 1)) (lv' := [(5, .int (nI (k + 1))), (0, .ref (xa X 46)), (1, .int (nI h)), (2, .int pl), (3, .int d), (4, .int (lastF f59 f60 f61 f62 h pl d k))]) C dX10_wordOf_58 5 rfl (nI_1 _) (by decide) rfl rfl ?_
            refine g_goto (tgt := 7) C dX10_wordOf_61 (by decide) ?_
            refine g_lv (lv2 := [(0, .ref (xa X 46)), (1, .int (nI h)), (2, .int pl), (3, .int d), (4, .int (lastF f59 f60 f61 f62 h pl d k)), (5, .int (nI (k + 1)))]) [1, 2, 3, 4, 5, 0] rfl ?_
            refine g_eq (lv2 := [(0, .ref (xa X 46)), (1, .int (nI h)), (2, .int pl), (3, .int d), (4, .int (lastF f59 f60 f61 f62 h pl d (k + 1))), (5, .int (nI (k + 1)))]) (ws2 := [oMdl X mtd (nI mtl) (nI mln) (nI mwn) (nI mdn) (nI mon) (nI mat) (nI mfr) (nI mlg) (nI mfd), kA X 59 40 f59, kA X 60 40 f60, kA X 61 40 f61, kA X 62 40 f62]) (st2 := []) (congrArg (fun zq_ : Int32 => ([(0, .ref (xa X 46)), (1, .int (nI h)), (2, .int pl), (3, .int d), (4, .int zq_), (5, .int (nI (k + 1)))] : List (Nat × Value))) (show (lastF f59 f60 f61 f62 h pl d k : Int32) = lastF f59 f60 f61 f62 h pl d (k + 1) from (by first | rfl | omega | (simp [lastF, c_13, c_24, c_35]; done) | (simp [lastF, c_13, c_24, c_35]; omega) | (simp [lastF, c_13, c_24, c_35]; intros; exfalso; omega) | grind [lastF]))) rfl rfl ?_
            exact ih_7 (k + 1) (by omega) (by omega)
          · refine g_aload_n (pc' := 39) C dX10_wordOf_38 0 rfl rfl rfl ?_
            refine g_get (pc' := 42) C hi_X10 0 19 rfl rfl (by decide) (List.mem_of_getElem? (i := 5) rfl) rfl dX10_wordOf_39 rfl ?_
            refine g_iload (pc' := 44) C dX10_wordOf_42 5 rfl rfl ?_
            refine g_iald (pc' := 45) C 4 k rfl rfl (by omega) (by decide) dX10_wordOf_44 rfl ?_
            refine g_iload_n (pc' := 46) C dX10_wordOf_45 3 rfl rfl rfl ?_
            refine g_icmp_gt (pc' := 49) (tgt := 58) C dX10_wordOf_46 (by decide) rfl (fun c_46 => ?_) (fun c_46 => ?_)
            · refine g_iinc (pc' := 61) (v := nI (k + 1)) (lv' := [(5, .int (nI (k + 1))), (0, .ref (xa X 46)), (1, .int (nI h)), (2, .int pl), (3, .int d), (4, .int (lastF f59 f60 f61 f62 h pl d k))]) C dX10_wordOf_58 5 rfl (nI_1 _) (by decide) rfl rfl ?_
              refine g_goto (tgt := 7) C dX10_wordOf_61 (by decide) ?_
              refine g_lv (lv2 := [(0, .ref (xa X 46)), (1, .int (nI h)), (2, .int pl), (3, .int d), (4, .int (lastF f59 f60 f61 f62 h pl d k)), (5, .int (nI (k + 1)))]) [1, 2, 3, 4, 5, 0] rfl ?_
              refine g_eq (lv2 := [(0, .ref (xa X 46)), (1, .int (nI h)), (2, .int pl), (3, .int d), (4, .int (lastF f59 f60 f61 f62 h pl d (k + 1))), (5, .int (nI (k + 1)))]) (ws2 := [oMdl X mtd (nI mtl) (nI mln) (nI mwn) (nI mdn) (nI mon) (nI mat) (nI mfr) (nI mlg) (nI mfd), kA X 59 40 f59, kA X 60 40 f60, kA X 61 40 f61, kA X 62 40 f62]) (st2 := []) (congrArg (fun zq_ : Int32 => ([(0, .ref (xa X 46)), (1, .int (nI h)), (2, .int pl), (3, .int d), (4, .int zq_), (5, .int (nI (k + 1)))] : List (Nat × Value))) (show (lastF f59 f60 f61 f62 h pl d k : Int32) = lastF f59 f60 f61 f62 h pl d (k + 1) from (by first | rfl | omega | (simp [lastF, c_13, c_24, c_35, c_46]; done) | (simp [lastF, c_13, c_24, c_35, c_46]; omega) | (simp [lastF, c_13, c_24, c_35, c_46]; intros; exfalso; omega) | grind [lastF]))) rfl rfl ?_
              exact ih_7 (k + 1) (by omega) (by omega)
            · refine g_aload_n (pc' := 50) C dX10_wordOf_49 0 rfl rfl rfl ?_
              refine g_get (pc' := 53) C hi_X10 0 18 rfl rfl (by decide) (List.mem_of_getElem? (i := 6) rfl) rfl dX10_wordOf_50 rfl ?_
              refine g_iload (pc' := 55) C dX10_wordOf_53 5 rfl rfl ?_
              refine g_iald (pc' := 56) C 3 k rfl rfl (by omega) (by decide) dX10_wordOf_55 rfl ?_
              refine g_istore (pc' := 58) (lv' := [(4, .int (f61 k)), (0, .ref (xa X 46)), (1, .int (nI h)), (2, .int pl), (3, .int d), (5, .int (nI k))]) C dX10_wordOf_56 (by decide) rfl rfl ?_
              refine g_iinc (pc' := 61) (v := nI (k + 1)) (lv' := [(5, .int (nI (k + 1))), (4, .int (f61 k)), (0, .ref (xa X 46)), (1, .int (nI h)), (2, .int pl), (3, .int d)]) C dX10_wordOf_58 5 rfl (nI_1 _) (by decide) rfl rfl ?_
              refine g_goto (tgt := 7) C dX10_wordOf_61 (by decide) ?_
              refine g_lv (lv2 := [(0, .ref (xa X 46)), (1, .int (nI h)), (2, .int pl), (3, .int d), (4, .int (f61 k)), (5, .int (nI (k + 1)))]) [2, 3, 4, 5, 1, 0] rfl ?_
              refine g_eq (lv2 := [(0, .ref (xa X 46)), (1, .int (nI h)), (2, .int pl), (3, .int d), (4, .int (lastF f59 f60 f61 f62 h pl d (k + 1))), (5, .int (nI (k + 1)))]) (ws2 := [oMdl X mtd (nI mtl) (nI mln) (nI mwn) (nI mdn) (nI mon) (nI mat) (nI mfr) (nI mlg) (nI mfd), kA X 59 40 f59, kA X 60 40 f60, kA X 61 40 f61, kA X 62 40 f62]) (st2 := []) (congrArg (fun zq_ : Int32 => ([(0, .ref (xa X 46)), (1, .int (nI h)), (2, .int pl), (3, .int d), (4, .int zq_), (5, .int (nI (k + 1)))] : List (Nat × Value))) (show (f61 k : Int32) = lastF f59 f60 f61 f62 h pl d (k + 1) from (by first | rfl | omega | (simp [lastF, c_13, c_24, c_35, c_46]; done) | (simp [lastF, c_13, c_24, c_35, c_46]; omega) | (simp [lastF, c_13, c_24, c_35, c_46]; intros; exfalso; omega) | grind [lastF]))) rfl rfl ?_
              exact ih_7 (k + 1) (by omega) (by omega)
  refine g_lv (lv2 := [(0, .ref (xa X 46)), (1, .int (nI h)), (2, .int pl), (3, .int d), (4, .int (-1000000005)), (5, .int 0)]) [2, 3, 4, 5, 1, 0] rfl ?_
  refine g_eq (lv2 := [(0, .ref (xa X 46)), (1, .int (nI h)), (2, .int pl), (3, .int d), (4, .int (lastF f59 f60 f61 f62 h pl d 0)), (5, .int 0)]) (ws2 := [oMdl X mtd (nI mtl) (nI mln) (nI mwn) (nI mdn) (nI mon) (nI mat) (nI mfr) (nI mlg) (nI mfd), kA X 59 40 f59, kA X 60 40 f60, kA X 61 40 f61, kA X 62 40 f62]) (st2 := []) (congrArg (fun zq_ : Int32 => ([(0, .ref (xa X 46)), (1, .int (nI h)), (2, .int pl), (3, .int d), (4, .int zq_), (5, .int 0)] : List (Nat × Value))) (show ((-1000000005) : Int32) = lastF f59 f60 f61 f62 h pl d 0 from (by first | rfl | omega | (simp [lastF]; done) | (simp [lastF]; omega) | (simp [lastF]; intros; exfalso; omega) | grind [lastF]))) rfl rfl ?_
  exact lp_7 (mwn - 0 + 1) 0 (Nat.zero_le _) (by omega)

set_option maxHeartbeats 1000000 in
set_option maxRecDepth 20000 in
theorem c_X10_told (l : Launch) (X : gX) (mtd : Int32) (mtl : Nat) (mln : Nat) (mwn : Nat) (mdn : Nat) (mon : Nat) (mat : Nat) (mfr : Nat) (mlg : Nat) (mfd : Nat) (f59 : Nat → Int32) (f60 : Nat → Int32) (f61 : Nat → Int32) (f62 : Nat → Int32) (pl : Int32) (d : Int32) (hwn : mwn ≤ 40) : KC l yX10_told wsX10_told ⟨1, 0, 0, 25⟩ [.ref (xa X 46), .int pl, .int d] X [oMdl X mtd (nI mtl) (nI mln) (nI mwn) (nI mdn) (nI mon) (nI mat) (nI mfr) (nI mlg) (nI mfd), kA X 59 40 f59, kA X 60 40 f60, kA X 61 40 f61, kA X 62 40 f62] (some (.int (toldF f59 f60 f61 f62 mwn pl d))) [oMdl X mtd (nI mtl) (nI mln) (nI mwn) (nI mdn) (nI mon) (nI mat) (nI mfr) (nI mlg) (nI mfd), kA X 59 40 f59, kA X 60 40 f60, kA X 61 40 f61, kA X 62 40 f62] := by
  have hi_X10 : ∀ w ∈ u_ws RX10 TX10 41, w ∈ wsX10_told := fun w h => List.mem_cons_of_mem _ (List.mem_append_right _ h)
  refine KC.of cX10_told 7 (some .int) RX10 rfl (by decide) rfl (lv := [(0, .ref (xa X 46)), (1, .int pl), (2, .int d)]) rfl (Nat.le_of_ble_eq_true rfl) ?_
  intro p e s m args below meth c A C hr
  have ta := tall_le (uF f59 f60 f61 f62 mwn pl d) 10
  refine g_iconst (pc' := 1) (v := 0) C dX10_told_0 rfl rfl ?_
  refine g_istore_n (pc' := 2) (lv' := [(3, .int 0), (0, .ref (xa X 46)), (1, .int pl), (2, .int d)]) C dX10_told_1 rfl (by decide) rfl rfl ?_
  refine g_iconst (pc' := 3) (v := 0) C dX10_told_2 rfl rfl ?_
  refine g_istore (pc' := 5) (lv' := [(4, .int 0), (3, .int 0), (0, .ref (xa X 46)), (1, .int pl), (2, .int d)]) C dX10_told_3 (by decide) rfl rfl ?_
  have lp_5 : ∀ (n_5 : Nat) (k : Nat) (hk : k ≤ 10) (hm_5 : 10 - k < n_5), gG p l e ⟨1, 0, 0, 25⟩ s m args below meth c X A 7 0 0 (MQ below (QA X A (some (.int (toldF f59 f60 f61 f62 mwn pl d))) [oMdl X mtd (nI mtl) (nI mln) (nI mwn) (nI mdn) (nI mon) (nI mat) (nI mfr) (nI mlg) (nI mfd), kA X 59 40 f59, kA X 60 40 f60, kA X 61 40 f61, kA X 62 40 f62]) args s 0 0 A) [(0, .ref (xa X 46)), (1, .int pl), (2, .int d), (3, .int (nI (tall (uF f59 f60 f61 f62 mwn pl d) k))), (4, .int (nI k))] [oMdl X mtd (nI mtl) (nI mln) (nI mwn) (nI mdn) (nI mon) (nI mat) (nI mfr) (nI mlg) (nI mfd), kA X 59 40 f59, kA X 60 40 f60, kA X 61 40 f61, kA X 62 40 f62] 5 [] := by
    intro n_5
    induction n_5 with
    | zero => intro k hk hm_5; exact absurd hm_5 (Nat.not_lt_zero _)
    | succ n_5 ih_5 =>
      intro k hk hm_5
      refine g_iload (pc' := 7) C dX10_told_5 4 rfl rfl ?_
      refine g_bipush (pc' := 9) (v := 10) C dX10_told_7 (by decide) rfl ?_
      refine g_icmp_geN (pc' := 12) (tgt := 39) C k 10 rfl rfl (by omega) (by omega) dX10_told_9 (by decide) rfl (fun c_9 => ?_) (fun c_9 => ?_)
      · refine g_iconst (pc' := 40) (v := 0) C dX10_told_39 rfl rfl ?_
        refine g_istore (pc' := 42) (lv' := [(4, .int 0), (0, .ref (xa X 46)), (1, .int pl), (2, .int d), (3, .int (nI (tall (uF f59 f60 f61 f62 mwn pl d) k)))]) C dX10_told_40 (by decide) rfl rfl ?_
        have lp_42 : ∀ (n_42 : Nat) (a : Nat) (ha : a ≤ 10) (hf : toldF f59 f60 f61 f62 mwn pl d = firstI (toldP f59 f60 f61 f62 mwn pl d) (10 - a) a) (hm_42 : 10 - a < n_42), gG p l e ⟨1, 0, 0, 25⟩ s m args below meth c X A 7 0 0 (MQ below (QA X A (some (.int (toldF f59 f60 f61 f62 mwn pl d))) [oMdl X mtd (nI mtl) (nI mln) (nI mwn) (nI mdn) (nI mon) (nI mat) (nI mfr) (nI mlg) (nI mfd), kA X 59 40 f59, kA X 60 40 f60, kA X 61 40 f61, kA X 62 40 f62]) args s 0 0 A) [(0, .ref (xa X 46)), (1, .int pl), (2, .int d), (3, .int (nI (tall (uF f59 f60 f61 f62 mwn pl d) 10))), (4, .int (nI a))] [oMdl X mtd (nI mtl) (nI mln) (nI mwn) (nI mdn) (nI mon) (nI mat) (nI mfr) (nI mlg) (nI mfd), kA X 59 40 f59, kA X 60 40 f60, kA X 61 40 f61, kA X 62 40 f62] 42 [] := by
          intro n_42
          induction n_42 with
          | zero => intro a ha hf hm_42; exact absurd hm_42 (Nat.not_lt_zero _)
          | succ n_42 ih_42 =>
            intro a ha hf hm_42
            refine g_iload (pc' := 44) C dX10_told_42 4 rfl rfl ?_
            refine g_bipush (pc' := 46) (v := 10) C dX10_told_44 (by decide) rfl ?_
            refine g_icmp_geN (pc' := 49) (tgt := 108) C a 10 rfl rfl (by omega) (by omega) dX10_told_46 (by decide) rfl (fun c_46 => ?_) (fun c_46 => ?_)
            · refine g_ldc (pc' := 110) (v := (-1000000005)) C (List.mem_of_getElem? (i := 1) rfl) dX10_told_108 rfl ?_
              exact g_iret C hr dX10_told_110 (by rw [hf, show 10 - a = 0 by omega]; rfl) rfl
            · refine g_iconst (pc' := 50) (v := 0) C dX10_told_49 rfl rfl ?_
              refine g_istore (pc' := 52) (lv' := [(5, .int 0), (0, .ref (xa X 46)), (1, .int pl), (2, .int d), (3, .int (nI (tall (uF f59 f60 f61 f62 mwn pl d) 10))), (4, .int (nI a))]) C dX10_told_50 (by decide) rfl rfl ?_
              refine g_iconst (pc' := 53) (v := 0) C dX10_told_52 rfl rfl ?_
              refine g_istore (pc' := 55) (lv' := [(6, .int 0), (5, .int 0), (0, .ref (xa X 46)), (1, .int pl), (2, .int d), (3, .int (nI (tall (uF f59 f60 f61 f62 mwn pl d) 10))), (4, .int (nI a))]) C dX10_told_53 (by decide) rfl rfl ?_
              have lp_55 : ∀ (n_55 : Nat) (b : Nat) (hb : b ≤ 10) (hm_55 : 10 - b < n_55), gG p l e ⟨1, 0, 0, 25⟩ s m args below meth c X A 7 0 0 (MQ below (QA X A (some (.int (toldF f59 f60 f61 f62 mwn pl d))) [oMdl X mtd (nI mtl) (nI mln) (nI mwn) (nI mdn) (nI mon) (nI mat) (nI mfr) (nI mlg) (nI mfd), kA X 59 40 f59, kA X 60 40 f60, kA X 61 40 f61, kA X 62 40 f62]) args s 0 0 A) [(0, .ref (xa X 46)), (1, .int pl), (2, .int d), (3, .int (nI (tall (uF f59 f60 f61 f62 mwn pl d) 10))), (4, .int (nI a)), (5, .int (nI (tcnt (uF f59 f60 f61 f62 mwn pl d) a b))), (6, .int (nI b))] [oMdl X mtd (nI mtl) (nI mln) (nI mwn) (nI mdn) (nI mon) (nI mat) (nI mfr) (nI mlg) (nI mfd), kA X 59 40 f59, kA X 60 40 f60, kA X 61 40 f61, kA X 62 40 f62] 55 [] := by
                intro n_55
                induction n_55 with
                | zero => intro b hb hm_55; exact absurd hm_55 (Nat.not_lt_zero _)
                | succ n_55 ih_55 =>
                  intro b hb hm_55
                  refine g_iload (pc' := 57) C dX10_told_55 6 rfl rfl ?_
                  refine g_bipush (pc' := 59) (v := 10) C dX10_told_57 (by decide) rfl ?_
                  refine g_icmp_geN (pc' := 62) (tgt := 91) C b 10 rfl rfl (by omega) (by omega) dX10_told_59 (by decide) rfl (fun c_59 => ?_) (fun c_59 => ?_)
                  · refine g_iconst (pc' := 92) (v := 2) C dX10_told_91 rfl rfl ?_
                    have tb := tcnt_le (uF f59 f60 f61 f62 mwn pl d) a 10
                    have e10 : b = 10 := by omega
                    refine g_iload (pc' := 94) C dX10_told_92 5 rfl rfl ?_
                    refine g_top (y := nI (tcnt (uF f59 f60 f61 f62 mwn pl d) a 10)) (by rw [e10]) ?_
                    refine g_imulV (pc' := 95) (v := nI (2 * (tcnt (uF f59 f60 f61 f62 mwn pl d) a 10))) C dX10_told_94 (by first | exact (pk_mul _ _) | rfl) rfl ?_
                    refine g_iload_n (pc' := 96) C dX10_told_95 3 rfl rfl rfl ?_
                    refine g_icmp_leN (pc' := 99) (tgt := 102) C (2 * (tcnt (uF f59 f60 f61 f62 mwn pl d) a 10)) (tall (uF f59 f60 f61 f62 mwn pl d) 10) rfl rfl (by omega) (by omega) dX10_told_96 (by decide) rfl (fun c_96 => ?_) (fun c_96 => ?_)
                    · refine g_iinc (pc' := 105) (v := nI (a + 1)) (lv' := [(4, .int (nI (a + 1))), (0, .ref (xa X 46)), (1, .int pl), (2, .int d), (3, .int (nI (tall (uF f59 f60 f61 f62 mwn pl d) 10))), (5, .int (nI (tcnt (uF f59 f60 f61 f62 mwn pl d) a b))), (6, .int (nI b))]) C dX10_told_102 4 rfl (nI_1 _) (by decide) rfl rfl ?_
                      refine g_goto (tgt := 42) C dX10_told_105 (by decide) ?_
                      refine g_lv (lv2 := [(0, .ref (xa X 46)), (1, .int pl), (2, .int d), (3, .int (nI (tall (uF f59 f60 f61 f62 mwn pl d) 10))), (4, .int (nI (a + 1)))]) [1, 2, 3, 4, 0] rfl ?_
                      exact ih_42 (a + 1) (by omega) (hf.trans (firstI_no (by simp [toldP]; omega) (by omega))) (by omega)
                    · refine g_iload (pc' := 101) C dX10_told_99 4 rfl rfl ?_
                      exact g_iret C hr dX10_told_101 (by rw [hf, firstI_yes (by simp [toldP]; omega) (by omega)]) rfl
                  · refine g_iload (pc' := 64) C dX10_told_62 5 rfl rfl ?_
                    refine g_aload_n (pc' := 65) C dX10_told_64 0 rfl rfl rfl ?_
                    refine g_iload (pc' := 67) C dX10_told_65 6 rfl rfl ?_
                    refine g_iload_n (pc' := 68) C dX10_told_67 1 rfl rfl rfl ?_
                    refine g_iload_n (pc' := 69) C dX10_told_68 2 rfl rfl rfl ?_
                    refine g_callV (pc' := 72) (st := [.int (nI (tcnt (uF f59 f60 f61 f62 mwn pl d) a b))]) (ws2 := [oMdl X mtd (nI mtl) (nI mln) (nI mwn) (nI mdn) (nI mon) (nI mat) (nI mfr) (nI mlg) (nI mfd), kA X 59 40 f59, kA X 60 40 f60, kA X 61 40 f61, kA X 62 40 f62]) C [.int (nI b), .int pl, .int d] 3 rfl (c_X10_wordOf l X mtd mtl mln mwn mdn mon mat mfr mlg mfd f59 f60 f61 f62 b pl d (by first | assumption | omega)) [0, 1, 2, 3, 4] [] [0, 1, 2, 3, 4] gX10_told_X10_wordOf 0 rfl rfl rfl ⟨rfl, rfl⟩ (by decide +kernel) ⟨by decide, by decide⟩ ⟨by decide, by decide⟩ rfl (wr := []) rfl ⟨by decide, by decide, by decide, by decide⟩ rfl (Nat.le_of_ble_eq_true rfl) dX10_told_69 rfl rfl ?_
                    refine g_iload (pc' := 74) C dX10_told_72 4 rfl rfl ?_
                    refine g_icmp_ne (pc' := 77) (tgt := 81) C dX10_told_74 (by decide) rfl (fun c_74 => ?_) (fun c_74 => ?_)
                    · refine g_iconst (pc' := 82) (v := 0) C dX10_told_81 rfl rfl ?_
                      refine g_iaddV (pc' := 83) (v := nI ((tcnt (uF f59 f60 f61 f62 mwn pl d) a b) + 0)) C dX10_told_82 (by first | exact (nI_add _ _) | rfl) rfl ?_
                      refine g_istore (pc' := 85) (lv' := [(5, .int (nI ((tcnt (uF f59 f60 f61 f62 mwn pl d) a b) + 0))), (0, .ref (xa X 46)), (1, .int pl), (2, .int d), (3, .int (nI (tall (uF f59 f60 f61 f62 mwn pl d) 10))), (4, .int (nI a)), (6, .int (nI b))]) C dX10_told_83 (by decide) rfl rfl ?_
                      refine g_iinc (pc' := 88) (v := nI (b + 1)) (lv' := [(6, .int (nI (b + 1))), (5, .int (nI ((tcnt (uF f59 f60 f61 f62 mwn pl d) a b) + 0))), (0, .ref (xa X 46)), (1, .int pl), (2, .int d), (3, .int (nI (tall (uF f59 f60 f61 f62 mwn pl d) 10))), (4, .int (nI a))]) C dX10_told_85 6 rfl (nI_1 _) (by decide) rfl rfl ?_
                      refine g_goto (tgt := 55) C dX10_told_88 (by decide) ?_
                      refine g_lv (lv2 := [(0, .ref (xa X 46)), (1, .int pl), (2, .int d), (3, .int (nI (tall (uF f59 f60 f61 f62 mwn pl d) 10))), (4, .int (nI a)), (5, .int (nI ((tcnt (uF f59 f60 f61 f62 mwn pl d) a b) + 0))), (6, .int (nI (b + 1)))]) [2, 3, 4, 5, 6, 1, 0] rfl ?_
                      refine g_eq (lv2 := [(0, .ref (xa X 46)), (1, .int pl), (2, .int d), (3, .int (nI (tall (uF f59 f60 f61 f62 mwn pl d) 10))), (4, .int (nI a)), (5, .int (nI (tcnt (uF f59 f60 f61 f62 mwn pl d) a (b + 1)))), (6, .int (nI (b + 1)))]) (ws2 := [oMdl X mtd (nI mtl) (nI mln) (nI mwn) (nI mdn) (nI mon) (nI mat) (nI mfr) (nI mlg) (nI mfd), kA X 59 40 f59, kA X 60 40 f60, kA X 61 40 f61, kA X 62 40 f62]) (st2 := []) (congrArg (fun zq_ : Int32 => ([(0, .ref (xa X 46)), (1, .int pl), (2, .int d), (3, .int (nI (tall (uF f59 f60 f61 f62 mwn pl d) 10))), (4, .int (nI a)), (5, .int zq_), (6, .int (nI (b + 1)))] : List (Nat × Value))) (show (nI ((tcnt (uF f59 f60 f61 f62 mwn pl d) a b) + 0) : Int32) = nI (tcnt (uF f59 f60 f61 f62 mwn pl d) a (b + 1)) from (by first | rfl | omega | (simp [tcnt, c_9, c_46, c_59, c_74]; done) | (simp [tcnt, c_9, c_46, c_59, c_74]; omega) | (simp [tcnt, c_9, c_46, c_59, c_74]; intros; exfalso; omega) | grind [tcnt]))) rfl rfl ?_
                      exact ih_55 (b + 1) (by omega) (by omega)
                    · refine g_iconst (pc' := 78) (v := 1) C dX10_told_77 rfl rfl ?_
                      refine g_goto (tgt := 82) C dX10_told_78 (by decide) ?_
                      refine g_iaddV (pc' := 83) (v := nI ((tcnt (uF f59 f60 f61 f62 mwn pl d) a b) + 1)) C dX10_told_82 (by first | exact (nI_add _ _) | rfl) rfl ?_
                      refine g_istore (pc' := 85) (lv' := [(5, .int (nI ((tcnt (uF f59 f60 f61 f62 mwn pl d) a b) + 1))), (0, .ref (xa X 46)), (1, .int pl), (2, .int d), (3, .int (nI (tall (uF f59 f60 f61 f62 mwn pl d) 10))), (4, .int (nI a)), (6, .int (nI b))]) C dX10_told_83 (by decide) rfl rfl ?_
                      refine g_iinc (pc' := 88) (v := nI (b + 1)) (lv' := [(6, .int (nI (b + 1))), (5, .int (nI ((tcnt (uF f59 f60 f61 f62 mwn pl d) a b) + 1))), (0, .ref (xa X 46)), (1, .int pl), (2, .int d), (3, .int (nI (tall (uF f59 f60 f61 f62 mwn pl d) 10))), (4, .int (nI a))]) C dX10_told_85 6 rfl (nI_1 _) (by decide) rfl rfl ?_
                      refine g_goto (tgt := 55) C dX10_told_88 (by decide) ?_
                      refine g_lv (lv2 := [(0, .ref (xa X 46)), (1, .int pl), (2, .int d), (3, .int (nI (tall (uF f59 f60 f61 f62 mwn pl d) 10))), (4, .int (nI a)), (5, .int (nI ((tcnt (uF f59 f60 f61 f62 mwn pl d) a b) + 1))), (6, .int (nI (b + 1)))]) [2, 3, 4, 5, 6, 1, 0] rfl ?_
                      refine g_eq (lv2 := [(0, .ref (xa X 46)), (1, .int pl), (2, .int d), (3, .int (nI (tall (uF f59 f60 f61 f62 mwn pl d) 10))), (4, .int (nI a)), (5, .int (nI (tcnt (uF f59 f60 f61 f62 mwn pl d) a (b + 1)))), (6, .int (nI (b + 1)))]) (ws2 := [oMdl X mtd (nI mtl) (nI mln) (nI mwn) (nI mdn) (nI mon) (nI mat) (nI mfr) (nI mlg) (nI mfd), kA X 59 40 f59, kA X 60 40 f60, kA X 61 40 f61, kA X 62 40 f62]) (st2 := []) (congrArg (fun zq_ : Int32 => ([(0, .ref (xa X 46)), (1, .int pl), (2, .int d), (3, .int (nI (tall (uF f59 f60 f61 f62 mwn pl d) 10))), (4, .int (nI a)), (5, .int zq_), (6, .int (nI (b + 1)))] : List (Nat × Value))) (show (nI ((tcnt (uF f59 f60 f61 f62 mwn pl d) a b) + 1) : Int32) = nI (tcnt (uF f59 f60 f61 f62 mwn pl d) a (b + 1)) from (by first | rfl | omega | (simp [tcnt, c_9, c_46, c_59, c_74]; done) | (simp [tcnt, c_9, c_46, c_59, c_74]; omega) | (simp [tcnt, c_9, c_46, c_59, c_74]; intros; exfalso; omega) | grind [tcnt]))) rfl rfl ?_
                      exact ih_55 (b + 1) (by omega) (by omega)
              refine g_lv (lv2 := [(0, .ref (xa X 46)), (1, .int pl), (2, .int d), (3, .int (nI (tall (uF f59 f60 f61 f62 mwn pl d) 10))), (4, .int (nI a)), (5, .int 0), (6, .int 0)]) [2, 3, 4, 5, 6, 1, 0] rfl ?_
              refine g_eq (lv2 := [(0, .ref (xa X 46)), (1, .int pl), (2, .int d), (3, .int (nI (tall (uF f59 f60 f61 f62 mwn pl d) 10))), (4, .int (nI a)), (5, .int (nI (tcnt (uF f59 f60 f61 f62 mwn pl d) a 0))), (6, .int 0)]) (ws2 := [oMdl X mtd (nI mtl) (nI mln) (nI mwn) (nI mdn) (nI mon) (nI mat) (nI mfr) (nI mlg) (nI mfd), kA X 59 40 f59, kA X 60 40 f60, kA X 61 40 f61, kA X 62 40 f62]) (st2 := []) (congrArg (fun zq_ : Int32 => ([(0, .ref (xa X 46)), (1, .int pl), (2, .int d), (3, .int (nI (tall (uF f59 f60 f61 f62 mwn pl d) 10))), (4, .int (nI a)), (5, .int zq_), (6, .int 0)] : List (Nat × Value))) (show (0 : Int32) = nI (tcnt (uF f59 f60 f61 f62 mwn pl d) a 0) from (by first | rfl | omega | (simp [tcnt, c_9, c_46]; done) | (simp [tcnt, c_9, c_46]; omega) | (simp [tcnt, c_9, c_46]; intros; exfalso; omega) | grind [tcnt]))) rfl rfl ?_
              exact lp_55 (10 - 0 + 1) 0 (Nat.zero_le _) (by omega)
        refine g_lv (lv2 := [(0, .ref (xa X 46)), (1, .int pl), (2, .int d), (3, .int (nI (tall (uF f59 f60 f61 f62 mwn pl d) k))), (4, .int 0)]) [1, 2, 3, 4, 0] rfl ?_
        refine g_eq (lv2 := [(0, .ref (xa X 46)), (1, .int pl), (2, .int d), (3, .int (nI (tall (uF f59 f60 f61 f62 mwn pl d) 10))), (4, .int 0)]) (ws2 := [oMdl X mtd (nI mtl) (nI mln) (nI mwn) (nI mdn) (nI mon) (nI mat) (nI mfr) (nI mlg) (nI mfd), kA X 59 40 f59, kA X 60 40 f60, kA X 61 40 f61, kA X 62 40 f62]) (st2 := []) (congrArg (fun zq_ : Int32 => ([(0, .ref (xa X 46)), (1, .int pl), (2, .int d), (3, .int zq_), (4, .int 0)] : List (Nat × Value))) (show (nI (tall (uF f59 f60 f61 f62 mwn pl d) k) : Int32) = nI (tall (uF f59 f60 f61 f62 mwn pl d) 10) from (by rw [show k = 10 by omega]))) rfl rfl ?_
        exact lp_42 (10 - 0 + 1) 0 (Nat.zero_le _) rfl (by omega)
      · refine g_iload_n (pc' := 13) C dX10_told_12 3 rfl rfl rfl ?_
        refine g_aload_n (pc' := 14) C dX10_told_13 0 rfl rfl rfl ?_
        refine g_iload (pc' := 16) C dX10_told_14 4 rfl rfl ?_
        refine g_iload_n (pc' := 17) C dX10_told_16 1 rfl rfl rfl ?_
        refine g_iload_n (pc' := 18) C dX10_told_17 2 rfl rfl rfl ?_
        refine g_callV (pc' := 21) (st := [.int (nI (tall (uF f59 f60 f61 f62 mwn pl d) k))]) (ws2 := [oMdl X mtd (nI mtl) (nI mln) (nI mwn) (nI mdn) (nI mon) (nI mat) (nI mfr) (nI mlg) (nI mfd), kA X 59 40 f59, kA X 60 40 f60, kA X 61 40 f61, kA X 62 40 f62]) C [.int (nI k), .int pl, .int d] 3 rfl (c_X10_wordOf l X mtd mtl mln mwn mdn mon mat mfr mlg mfd f59 f60 f61 f62 k pl d (by first | assumption | omega)) [0, 1, 2, 3, 4] [] [0, 1, 2, 3, 4] gX10_told_X10_wordOf 0 rfl rfl rfl ⟨rfl, rfl⟩ (by decide +kernel) ⟨by decide, by decide⟩ ⟨by decide, by decide⟩ rfl (wr := []) rfl ⟨by decide, by decide, by decide, by decide⟩ rfl (Nat.le_of_ble_eq_true rfl) dX10_told_18 rfl rfl ?_
        refine g_ldc (pc' := 23) (v := (-1000000005)) C (List.mem_of_getElem? (i := 1) rfl) dX10_told_21 rfl ?_
        refine g_icmp_ne (pc' := 26) (tgt := 30) C dX10_told_23 (by decide) rfl (fun c_23 => ?_) (fun c_23 => ?_)
        · refine g_iconst (pc' := 31) (v := 1) C dX10_told_30 rfl rfl ?_
          refine g_iaddV (pc' := 32) (v := nI ((tall (uF f59 f60 f61 f62 mwn pl d) k) + 1)) C dX10_told_31 (by first | exact (nI_add _ _) | rfl) rfl ?_
          refine g_istore_n (pc' := 33) (lv' := [(3, .int (nI ((tall (uF f59 f60 f61 f62 mwn pl d) k) + 1))), (0, .ref (xa X 46)), (1, .int pl), (2, .int d), (4, .int (nI k))]) C dX10_told_32 rfl (by decide) rfl rfl ?_
          refine g_iinc (pc' := 36) (v := nI (k + 1)) (lv' := [(4, .int (nI (k + 1))), (3, .int (nI ((tall (uF f59 f60 f61 f62 mwn pl d) k) + 1))), (0, .ref (xa X 46)), (1, .int pl), (2, .int d)]) C dX10_told_33 4 rfl (nI_1 _) (by decide) rfl rfl ?_
          refine g_goto (tgt := 5) C dX10_told_36 (by decide) ?_
          refine g_lv (lv2 := [(0, .ref (xa X 46)), (1, .int pl), (2, .int d), (3, .int (nI ((tall (uF f59 f60 f61 f62 mwn pl d) k) + 1))), (4, .int (nI (k + 1)))]) [2, 3, 4, 1, 0] rfl ?_
          refine g_eq (lv2 := [(0, .ref (xa X 46)), (1, .int pl), (2, .int d), (3, .int (nI (tall (uF f59 f60 f61 f62 mwn pl d) (k + 1)))), (4, .int (nI (k + 1)))]) (ws2 := [oMdl X mtd (nI mtl) (nI mln) (nI mwn) (nI mdn) (nI mon) (nI mat) (nI mfr) (nI mlg) (nI mfd), kA X 59 40 f59, kA X 60 40 f60, kA X 61 40 f61, kA X 62 40 f62]) (st2 := []) (congrArg (fun zq_ : Int32 => ([(0, .ref (xa X 46)), (1, .int pl), (2, .int d), (3, .int zq_), (4, .int (nI (k + 1)))] : List (Nat × Value))) (show (nI ((tall (uF f59 f60 f61 f62 mwn pl d) k) + 1) : Int32) = nI (tall (uF f59 f60 f61 f62 mwn pl d) (k + 1)) from (by first | rfl | omega | (simp [tall, c_9, c_23]; done) | (simp [tall, c_9, c_23]; omega) | (simp [tall, c_9, c_23]; intros; exfalso; omega) | grind [tall]))) rfl rfl ?_
          exact ih_5 (k + 1) (by omega) (by omega)
        · refine g_iconst (pc' := 27) (v := 0) C dX10_told_26 rfl rfl ?_
          refine g_goto (tgt := 31) C dX10_told_27 (by decide) ?_
          refine g_iaddV (pc' := 32) (v := nI ((tall (uF f59 f60 f61 f62 mwn pl d) k) + 0)) C dX10_told_31 (by first | exact (nI_add _ _) | rfl) rfl ?_
          refine g_istore_n (pc' := 33) (lv' := [(3, .int (nI ((tall (uF f59 f60 f61 f62 mwn pl d) k) + 0))), (0, .ref (xa X 46)), (1, .int pl), (2, .int d), (4, .int (nI k))]) C dX10_told_32 rfl (by decide) rfl rfl ?_
          refine g_iinc (pc' := 36) (v := nI (k + 1)) (lv' := [(4, .int (nI (k + 1))), (3, .int (nI ((tall (uF f59 f60 f61 f62 mwn pl d) k) + 0))), (0, .ref (xa X 46)), (1, .int pl), (2, .int d)]) C dX10_told_33 4 rfl (nI_1 _) (by decide) rfl rfl ?_
          refine g_goto (tgt := 5) C dX10_told_36 (by decide) ?_
          refine g_lv (lv2 := [(0, .ref (xa X 46)), (1, .int pl), (2, .int d), (3, .int (nI ((tall (uF f59 f60 f61 f62 mwn pl d) k) + 0))), (4, .int (nI (k + 1)))]) [2, 3, 4, 1, 0] rfl ?_
          refine g_eq (lv2 := [(0, .ref (xa X 46)), (1, .int pl), (2, .int d), (3, .int (nI (tall (uF f59 f60 f61 f62 mwn pl d) (k + 1)))), (4, .int (nI (k + 1)))]) (ws2 := [oMdl X mtd (nI mtl) (nI mln) (nI mwn) (nI mdn) (nI mon) (nI mat) (nI mfr) (nI mlg) (nI mfd), kA X 59 40 f59, kA X 60 40 f60, kA X 61 40 f61, kA X 62 40 f62]) (st2 := []) (congrArg (fun zq_ : Int32 => ([(0, .ref (xa X 46)), (1, .int pl), (2, .int d), (3, .int zq_), (4, .int (nI (k + 1)))] : List (Nat × Value))) (show (nI ((tall (uF f59 f60 f61 f62 mwn pl d) k) + 0) : Int32) = nI (tall (uF f59 f60 f61 f62 mwn pl d) (k + 1)) from (by first | rfl | omega | (simp [tall, c_9, c_23]; done) | (simp [tall, c_9, c_23]; omega) | (simp [tall, c_9, c_23]; intros; exfalso; omega) | grind [tall]))) rfl rfl ?_
          exact ih_5 (k + 1) (by omega) (by omega)
  refine g_lv (lv2 := [(0, .ref (xa X 46)), (1, .int pl), (2, .int d), (3, .int 0), (4, .int 0)]) [2, 3, 4, 1, 0] rfl ?_
  refine g_eq (lv2 := [(0, .ref (xa X 46)), (1, .int pl), (2, .int d), (3, .int (nI (tall (uF f59 f60 f61 f62 mwn pl d) 0))), (4, .int 0)]) (ws2 := [oMdl X mtd (nI mtl) (nI mln) (nI mwn) (nI mdn) (nI mon) (nI mat) (nI mfr) (nI mlg) (nI mfd), kA X 59 40 f59, kA X 60 40 f60, kA X 61 40 f61, kA X 62 40 f62]) (st2 := []) (congrArg (fun zq_ : Int32 => ([(0, .ref (xa X 46)), (1, .int pl), (2, .int d), (3, .int zq_), (4, .int 0)] : List (Nat × Value))) (show (0 : Int32) = nI (tall (uF f59 f60 f61 f62 mwn pl d) 0) from (by first | rfl | omega | (simp [tall]; done) | (simp [tall]; omega) | (simp [tall]; intros; exfalso; omega) | grind [tall]))) rfl rfl ?_
  exact lp_5 (10 - 0 + 1) 0 (Nat.zero_le _) (by omega)

set_option maxHeartbeats 1000000 in
set_option maxRecDepth 20000 in
theorem c_X10_toldOf (l : Launch) (X : gX) (mtd : Int32) (mtl : Nat) (mln : Nat) (mwn : Nat) (mdn : Nat) (mon : Nat) (mat : Nat) (mfr : Nat) (mlg : Nat) (mfd : Nat) (f59 : Nat → Int32) (f60 : Nat → Int32) (f61 : Nat → Int32) (f62 : Nat → Int32) (pp : Int32) (d : Int32) (hwn : mwn ≤ 40) : KC l yX10_toldOf wsX10_toldOf ⟨2, 0, 0, 51⟩ [.ref (xa X 46), .int pp, .int d] X [oMdl X mtd (nI mtl) (nI mln) (nI mwn) (nI mdn) (nI mon) (nI mat) (nI mfr) (nI mlg) (nI mfd), kA X 59 40 f59, kA X 60 40 f60, kA X 61 40 f61, kA X 62 40 f62] (some (.int (toR f59 f60 f61 f62 mwn pp d))) [oMdl X mtd (nI mtl) (nI mln) (nI mwn) (nI mdn) (nI mon) (nI mat) (nI mfr) (nI mlg) (nI mfd), kA X 59 40 f59, kA X 60 40 f60, kA X 61 40 f61, kA X 62 40 f62] := by
  have hi_X10 : ∀ w ∈ u_ws RX10 TX10 41, w ∈ wsX10_toldOf := fun w h => List.mem_cons_of_mem _ (List.mem_append_right _ h)
  refine KC.of cX10_toldOf 3 (some .int) RX10 rfl (by decide) rfl (lv := [(0, .ref (xa X 46)), (1, .int pp), (2, .int d)]) rfl (Nat.le_of_ble_eq_true rfl) ?_
  intro p e s m args below meth c A C hr
  refine g_iload_n (pc' := 1) C dX10_toldOf_0 1 rfl rfl rfl ?_
  refine g_iconst (pc' := 2) (v := 0) C dX10_toldOf_1 rfl rfl ?_
  refine g_bipush (pc' := 4) (v := 11) C dX10_toldOf_2 (by decide) rfl ?_
  refine g_callS (pc' := 7) (st := []) (ws2 := [oMdl X mtd (nI mtl) (nI mln) (nI mwn) (nI mdn) (nI mon) (nI mat) (nI mfr) (nI mlg) (nI mfd), kA X 59 40 f59, kA X 60 40 f60, kA X 61 40 f61, kA X 62 40 f62]) C [.int pp, .int 0, .int 11] 3 rfl (c_X10_isIn l X pp 0 11 ) [] [0, 1, 2, 3, 4] [0, 1, 2, 3, 4] gX10_toldOf_X10_isIn rfl ⟨rfl, rfl⟩ (by decide +kernel) ⟨by decide, by decide⟩ ⟨by decide, by decide⟩ rfl (wr := [oMdl X mtd (nI mtl) (nI mln) (nI mwn) (nI mdn) (nI mon) (nI mat) (nI mfr) (nI mlg) (nI mfd), kA X 59 40 f59, kA X 60 40 f60, kA X 61 40 f61, kA X 62 40 f62]) rfl ⟨by decide, by decide, by decide, by decide⟩ rfl (Nat.le_of_ble_eq_true rfl) dX10_toldOf_4 rfl rfl ?_
  by_cases b_4 : 0 ≤ pp ∧ pp ≤ 11
  · refine g_top (bz_t b_4) ?_
    refine g_if_eq (pc' := 10) (tgt := 26) C dX10_toldOf_7 (by decide) rfl (fun h => absurd h (by decide)) (fun _ => ?_)
    refine g_iload_n (pc' := 11) C dX10_toldOf_10 2 rfl rfl rfl ?_
    refine g_callS (pc' := 14) (st := []) (ws2 := [oMdl X mtd (nI mtl) (nI mln) (nI mwn) (nI mdn) (nI mon) (nI mat) (nI mfr) (nI mlg) (nI mfd), kA X 59 40 f59, kA X 60 40 f60, kA X 61 40 f61, kA X 62 40 f62]) C [.int d] 1 rfl (c_X10_isDay l X d ) [] [0, 1, 2, 3, 4] [0, 1, 2, 3, 4] gX10_toldOf_X10_isDay rfl ⟨rfl, rfl⟩ (by decide +kernel) ⟨by decide, by decide⟩ ⟨by decide, by decide⟩ rfl (wr := [oMdl X mtd (nI mtl) (nI mln) (nI mwn) (nI mdn) (nI mon) (nI mat) (nI mfr) (nI mlg) (nI mfd), kA X 59 40 f59, kA X 60 40 f60, kA X 61 40 f61, kA X 62 40 f62]) rfl ⟨by decide, by decide, by decide, by decide⟩ rfl (Nat.le_of_ble_eq_true rfl) dX10_toldOf_11 rfl rfl ?_
    by_cases b_11 : 0 ≤ d ∧ d ≤ 100000
    · refine g_top (bz_t b_11) ?_
      refine g_if_eq (pc' := 17) (tgt := 26) C dX10_toldOf_14 (by decide) rfl (fun h => absurd h (by decide)) (fun _ => ?_)
      refine g_aload_n (pc' := 18) C dX10_toldOf_17 0 rfl rfl rfl ?_
      refine g_iload_n (pc' := 19) C dX10_toldOf_18 1 rfl rfl rfl ?_
      refine g_iload_n (pc' := 20) C dX10_toldOf_19 2 rfl rfl rfl ?_
      refine g_callV (pc' := 23) (st := []) (ws2 := [oMdl X mtd (nI mtl) (nI mln) (nI mwn) (nI mdn) (nI mon) (nI mat) (nI mfr) (nI mlg) (nI mfd), kA X 59 40 f59, kA X 60 40 f60, kA X 61 40 f61, kA X 62 40 f62]) C [.int pp, .int d] 2 rfl (c_X10_told l X mtd mtl mln mwn mdn mon mat mfr mlg mfd f59 f60 f61 f62 pp d (by first | assumption | omega)) [0, 1, 2, 3, 4] [] [0, 1, 2, 3, 4] gX10_toldOf_X10_told 0 rfl rfl rfl ⟨rfl, rfl⟩ (by decide +kernel) ⟨by decide, by decide⟩ ⟨by decide, by decide⟩ rfl (wr := []) rfl ⟨by decide, by decide, by decide, by decide⟩ rfl (Nat.le_of_ble_eq_true rfl) dX10_toldOf_20 rfl rfl ?_
      refine g_goto (tgt := 28) C dX10_toldOf_23 (by decide) ?_
      exact g_iret C hr dX10_toldOf_28 (by first | rfl | omega | (simp [toR, b_4, b_11]; done) | (simp [toR, b_4, b_11]; omega) | (simp [toR, b_4, b_11]; intros; exfalso; omega) | grind [toR]) rfl
    · refine g_top (bz_f b_11) ?_
      refine g_if_eq (pc' := 17) (tgt := 26) C dX10_toldOf_14 (by decide) rfl (fun _ => ?_) (fun h => absurd h (by decide))
      refine g_ldc (pc' := 28) (v := (-1000000001)) C (List.mem_of_getElem? (i := 1) rfl) dX10_toldOf_26 rfl ?_
      exact g_iret C hr dX10_toldOf_28 (by first | rfl | omega | (simp [toR, b_4, b_11]; done) | (simp [toR, b_4, b_11]; omega) | (simp [toR, b_4, b_11]; intros; exfalso; omega) | grind [toR]) rfl
  · refine g_top (bz_f b_4) ?_
    refine g_if_eq (pc' := 10) (tgt := 26) C dX10_toldOf_7 (by decide) rfl (fun _ => ?_) (fun h => absurd h (by decide))
    refine g_ldc (pc' := 28) (v := (-1000000001)) C (List.mem_of_getElem? (i := 1) rfl) dX10_toldOf_26 rfl ?_
    exact g_iret C hr dX10_toldOf_28 (by first | rfl | omega | (simp [toR, b_4]; done) | (simp [toR, b_4]; omega) | (simp [toR, b_4]; intros; exfalso; omega) | grind [toR]) rfl

set_option maxHeartbeats 1000000 in
set_option maxRecDepth 20000 in
theorem c_X10_mostOf (l : Launch) (X : gX) (i : Nat) (hi : i < 6) : KC l yX10_mostOf wsX10_mostOf ⟨0, 0, 0, 0⟩ [.int (nI i)] X [] (some (.int (tbM i))) [] := by
  refine KC.of cX10_mostOf 1 (some .int) RX10 rfl (by decide) rfl (lv := [(0, .int (nI i))]) rfl (Nat.le_of_ble_eq_true rfl) ?_
  intro p e s m args below meth c A C hr
  refine g_iload_n (pc' := 1) C dX10_mostOf_0 0 rfl rfl rfl ?_
  refine g_iconst (pc' := 2) (v := 3) C dX10_mostOf_1 rfl rfl ?_
  refine g_icmp_geN (pc' := 5) (tgt := 10) C i 3 rfl rfl (by omega) (by omega) dX10_mostOf_2 (by decide) rfl (fun c_2 => ?_) (fun c_2 => ?_)
  · refine g_iload_n (pc' := 11) C dX10_mostOf_10 0 rfl rfl rfl ?_
    refine g_iconst (pc' := 12) (v := 4) C dX10_mostOf_11 rfl rfl ?_
    refine g_icmp_neN (pc' := 15) (tgt := 19) C i 4 rfl rfl (by omega) (by omega) dX10_mostOf_12 (by decide) rfl (fun c_12 => ?_) (fun c_12 => ?_)
    · refine g_sipush (pc' := 22) (v := 1000) C dX10_mostOf_19 (by decide) rfl ?_
      exact g_iret C hr dX10_mostOf_22 (by have h9 : i = 0 ∨ i = 1 ∨ i = 2 ∨ i = 3 ∨ i = 4 ∨ i = 5 := (by omega); rcases h9 with e | e | e | e | e | e <;> subst e <;> first | rfl | omega) rfl
    · refine g_iconst (pc' := 16) (v := 1) C dX10_mostOf_15 rfl rfl ?_
      refine g_goto (tgt := 22) C dX10_mostOf_16 (by decide) ?_
      exact g_iret C hr dX10_mostOf_22 (by have h9 : i = 0 ∨ i = 1 ∨ i = 2 ∨ i = 3 ∨ i = 4 ∨ i = 5 := (by omega); rcases h9 with e | e | e | e | e | e <;> subst e <;> first | rfl | omega) rfl
  · refine g_bipush (pc' := 7) (v := 100) C dX10_mostOf_5 (by decide) rfl ?_
    refine g_goto (tgt := 22) C dX10_mostOf_7 (by decide) ?_
    exact g_iret C hr dX10_mostOf_22 (by have h9 : i = 0 ∨ i = 1 ∨ i = 2 ∨ i = 3 ∨ i = 4 ∨ i = 5 := (by omega); rcases h9 with e | e | e | e | e | e <;> subst e <;> first | rfl | omega) rfl

set_option maxHeartbeats 1000000 in
set_option maxRecDepth 20000 in
theorem c_X10_decree (l : Launch) (X : gX) (mtd : Int32) (mtl : Nat) (mln : Nat) (mwn : Nat) (mdn : Nat) (mon : Nat) (mat : Nat) (mfr : Nat) (mlg : Nat) (mfd : Nat) (f63 : Nat → Int32) (f64 : Nat → Int32) (f65 : Nat → Int32) (f66 : Nat → Int32) (i : Int32) (y : Int32) (v : Int32) (hdn : mdn ≤ 40) : KC l yX10_decree wsX10_decree ⟨2, 0, 0, 42⟩ [.ref (xa X 46), .int i, .int y, .int v] X [oMdl X mtd (nI mtl) (nI mln) (nI mwn) (nI mdn) (nI mon) (nI mat) (nI mfr) (nI mlg) (nI mfd), kA X 63 40 f63, kA X 64 40 f64, kA X 65 40 f65, kA X 66 40 f66] (some (.int (deR mdn i y v))) [oMdl X mtd (nI mtl) (nI mln) (nI mwn) (nI (deN mdn i y v)) (nI mon) (nI mat) (nI mfr) (nI mlg) (nI mfd), kA X 63 40 (deU f63 i mdn i y v), kA X 64 40 (deU f64 y mdn i y v), kA X 65 40 (deU f65 v mdn i y v), kA X 66 40 (deU f66 mtd mdn i y v)] := by
  have hi_X10 : ∀ w ∈ u_ws RX10 TX10 41, w ∈ wsX10_decree := fun w h => List.mem_cons_of_mem _ (List.mem_append_right _ h)
  refine KC.of cX10_decree 4 (some .int) RX10 rfl (by decide) rfl (lv := [(0, .ref (xa X 46)), (1, .int i), (2, .int y), (3, .int v)]) rfl (Nat.le_of_ble_eq_true rfl) ?_
  intro p e s m args below meth c A C hr
  refine g_iload_n (pc' := 1) C dX10_decree_0 1 rfl rfl rfl ?_
  refine g_iconst (pc' := 2) (v := 0) C dX10_decree_1 rfl rfl ?_
  refine g_iconst (pc' := 3) (v := 5) C dX10_decree_2 rfl rfl ?_
  refine g_callS (pc' := 6) (st := []) (ws2 := [oMdl X mtd (nI mtl) (nI mln) (nI mwn) (nI mdn) (nI mon) (nI mat) (nI mfr) (nI mlg) (nI mfd), kA X 63 40 f63, kA X 64 40 f64, kA X 65 40 f65, kA X 66 40 f66]) C [.int i, .int 0, .int 5] 3 rfl (c_X10_isIn l X i 0 5 ) [] [0, 1, 2, 3, 4] [0, 1, 2, 3, 4] gX10_decree_X10_isIn rfl ⟨rfl, rfl⟩ (by decide +kernel) ⟨by decide, by decide⟩ ⟨by decide, by decide⟩ rfl (wr := [oMdl X mtd (nI mtl) (nI mln) (nI mwn) (nI mdn) (nI mon) (nI mat) (nI mfr) (nI mlg) (nI mfd), kA X 63 40 f63, kA X 64 40 f64, kA X 65 40 f65, kA X 66 40 f66]) rfl ⟨by decide, by decide, by decide, by decide⟩ rfl (Nat.le_of_ble_eq_true rfl) dX10_decree_3 rfl rfl ?_
  by_cases b_3 : 0 ≤ i ∧ i ≤ 5
  · refine g_top (bz_t b_3) ?_
    refine g_if_eq (pc' := 9) (tgt := 28) C dX10_decree_6 (by decide) rfl (fun h => absurd h (by decide)) (fun _ => ?_)
    refine g_iload_n (pc' := 10) C dX10_decree_9 2 rfl rfl rfl ?_
    refine g_callS (pc' := 13) (st := []) (ws2 := [oMdl X mtd (nI mtl) (nI mln) (nI mwn) (nI mdn) (nI mon) (nI mat) (nI mfr) (nI mlg) (nI mfd), kA X 63 40 f63, kA X 64 40 f64, kA X 65 40 f65, kA X 66 40 f66]) C [.int y] 1 rfl (c_X10_isYear l X y ) [] [0, 1, 2, 3, 4] [0, 1, 2, 3, 4] gX10_decree_X10_isYear rfl ⟨rfl, rfl⟩ (by decide +kernel) ⟨by decide, by decide⟩ ⟨by decide, by decide⟩ rfl (wr := [oMdl X mtd (nI mtl) (nI mln) (nI mwn) (nI mdn) (nI mon) (nI mat) (nI mfr) (nI mlg) (nI mfd), kA X 63 40 f63, kA X 64 40 f64, kA X 65 40 f65, kA X 66 40 f66]) rfl ⟨by decide, by decide, by decide, by decide⟩ rfl (Nat.le_of_ble_eq_true rfl) dX10_decree_10 rfl rfl ?_
    by_cases b_10 : 0 ≤ y ∧ y ≤ 30
    · refine g_top (bz_t b_10) ?_
      refine g_if_eq (pc' := 16) (tgt := 28) C dX10_decree_13 (by decide) rfl (fun h => absurd h (by decide)) (fun _ => ?_)
      refine g_iload_n (pc' := 17) C dX10_decree_16 3 rfl rfl rfl ?_
      refine g_iconst (pc' := 18) (v := 0) C dX10_decree_17 rfl rfl ?_
      refine g_iload_n (pc' := 19) C dX10_decree_18 1 rfl rfl rfl ?_
      have ok0 := okN_le (m := 5) b_3.1 b_3.2 (by decide) (by decide)
      have ok1 := ok0.2
      refine g_top (y := nI (cN i)) ok0.1 ?_
      refine g_callS (pc' := 22) (st := [.int 0, .int v]) (ws2 := [oMdl X mtd (nI mtl) (nI mln) (nI mwn) (nI mdn) (nI mon) (nI mat) (nI mfr) (nI mlg) (nI mfd), kA X 63 40 f63, kA X 64 40 f64, kA X 65 40 f65, kA X 66 40 f66]) C [.int (nI (cN i))] 1 rfl (c_X10_mostOf l X (cN i) (by first | assumption | omega)) [] [0, 1, 2, 3, 4] [0, 1, 2, 3, 4] gX10_decree_X10_mostOf rfl ⟨rfl, rfl⟩ (by decide +kernel) ⟨by decide, by decide⟩ ⟨by decide, by decide⟩ rfl (wr := [oMdl X mtd (nI mtl) (nI mln) (nI mwn) (nI mdn) (nI mon) (nI mat) (nI mfr) (nI mlg) (nI mfd), kA X 63 40 f63, kA X 64 40 f64, kA X 65 40 f65, kA X 66 40 f66]) rfl ⟨by decide, by decide, by decide, by decide⟩ rfl (Nat.le_of_ble_eq_true rfl) dX10_decree_19 rfl rfl ?_
      refine g_callS (pc' := 25) (st := []) (ws2 := [oMdl X mtd (nI mtl) (nI mln) (nI mwn) (nI mdn) (nI mon) (nI mat) (nI mfr) (nI mlg) (nI mfd), kA X 63 40 f63, kA X 64 40 f64, kA X 65 40 f65, kA X 66 40 f66]) C [.int v, .int 0, .int (tbM (cN i))] 3 rfl (c_X10_isIn l X v 0 (tbM (cN i)) ) [] [0, 1, 2, 3, 4] [0, 1, 2, 3, 4] gX10_decree_X10_isIn rfl ⟨rfl, rfl⟩ (by decide +kernel) ⟨by decide, by decide⟩ ⟨by decide, by decide⟩ rfl (wr := [oMdl X mtd (nI mtl) (nI mln) (nI mwn) (nI mdn) (nI mon) (nI mat) (nI mfr) (nI mlg) (nI mfd), kA X 63 40 f63, kA X 64 40 f64, kA X 65 40 f65, kA X 66 40 f66]) rfl ⟨by decide, by decide, by decide, by decide⟩ rfl (Nat.le_of_ble_eq_true rfl) dX10_decree_22 rfl rfl ?_
      by_cases b_22 : 0 ≤ v ∧ v ≤ (tbM (cN i))
      · refine g_top (bz_t b_22) ?_
        refine g_if_ne (pc' := 28) (tgt := 31) C dX10_decree_25 (by decide) rfl (fun _ => ?_) (fun h => absurd h (by decide))
        refine g_aload_n (pc' := 32) C dX10_decree_31 0 rfl rfl rfl ?_
        refine g_get (pc' := 35) C hi_X10 0 20 rfl rfl (by decide) (List.mem_of_getElem? (i := 2) rfl) rfl dX10_decree_32 rfl ?_
        refine g_bipush (pc' := 37) (v := 40) C dX10_decree_35 (by decide) rfl ?_
        refine g_icmp_neN (pc' := 40) (tgt := 43) C mdn 40 rfl rfl (by omega) (by omega) dX10_decree_37 (by decide) rfl (fun c_37 => ?_) (fun c_37 => ?_)
        · refine g_aload_n (pc' := 44) C dX10_decree_43 0 rfl rfl rfl ?_
          refine g_get (pc' := 47) C hi_X10 0 21 rfl rfl (by decide) (List.mem_of_getElem? (i := 4) rfl) rfl dX10_decree_44 rfl ?_
          refine g_aload_n (pc' := 48) C dX10_decree_47 0 rfl rfl rfl ?_
          refine g_get (pc' := 51) C hi_X10 0 20 rfl rfl (by decide) (List.mem_of_getElem? (i := 2) rfl) rfl dX10_decree_48 rfl ?_
          refine g_iload_n (pc' := 52) C dX10_decree_51 1 rfl rfl rfl ?_
          refine g_iast (pc' := 53) (ws2 := [oMdl X mtd (nI mtl) (nI mln) (nI mwn) (nI mdn) (nI mon) (nI mat) (nI mfr) (nI mlg) (nI mfd), kA X 63 40 (upd f63 mdn i), kA X 64 40 f64, kA X 65 40 f65, kA X 66 40 f66]) C 1 mdn rfl rfl (by omega) (by decide) dX10_decree_52 rfl rfl ?_
          refine g_aload_n (pc' := 54) C dX10_decree_53 0 rfl rfl rfl ?_
          refine g_get (pc' := 57) C hi_X10 0 22 rfl rfl (by decide) (List.mem_of_getElem? (i := 5) rfl) rfl dX10_decree_54 rfl ?_
          refine g_aload_n (pc' := 58) C dX10_decree_57 0 rfl rfl rfl ?_
          refine g_get (pc' := 61) C hi_X10 0 20 rfl rfl (by decide) (List.mem_of_getElem? (i := 2) rfl) rfl dX10_decree_58 rfl ?_
          refine g_iload_n (pc' := 62) C dX10_decree_61 2 rfl rfl rfl ?_
          refine g_iast (pc' := 63) (ws2 := [oMdl X mtd (nI mtl) (nI mln) (nI mwn) (nI mdn) (nI mon) (nI mat) (nI mfr) (nI mlg) (nI mfd), kA X 63 40 (upd f63 mdn i), kA X 64 40 (upd f64 mdn y), kA X 65 40 f65, kA X 66 40 f66]) C 2 mdn rfl rfl (by omega) (by decide) dX10_decree_62 rfl rfl ?_
          refine g_aload_n (pc' := 64) C dX10_decree_63 0 rfl rfl rfl ?_
          refine g_get (pc' := 67) C hi_X10 0 23 rfl rfl (by decide) (List.mem_of_getElem? (i := 6) rfl) rfl dX10_decree_64 rfl ?_
          refine g_aload_n (pc' := 68) C dX10_decree_67 0 rfl rfl rfl ?_
          refine g_get (pc' := 71) C hi_X10 0 20 rfl rfl (by decide) (List.mem_of_getElem? (i := 2) rfl) rfl dX10_decree_68 rfl ?_
          refine g_iload_n (pc' := 72) C dX10_decree_71 3 rfl rfl rfl ?_
          refine g_iast (pc' := 73) (ws2 := [oMdl X mtd (nI mtl) (nI mln) (nI mwn) (nI mdn) (nI mon) (nI mat) (nI mfr) (nI mlg) (nI mfd), kA X 63 40 (upd f63 mdn i), kA X 64 40 (upd f64 mdn y), kA X 65 40 (upd f65 mdn v), kA X 66 40 f66]) C 3 mdn rfl rfl (by omega) (by decide) dX10_decree_72 rfl rfl ?_
          refine g_aload_n (pc' := 74) C dX10_decree_73 0 rfl rfl rfl ?_
          refine g_get (pc' := 77) C hi_X10 0 24 rfl rfl (by decide) (List.mem_of_getElem? (i := 7) rfl) rfl dX10_decree_74 rfl ?_
          refine g_aload_n (pc' := 78) C dX10_decree_77 0 rfl rfl rfl ?_
          refine g_get (pc' := 81) C hi_X10 0 20 rfl rfl (by decide) (List.mem_of_getElem? (i := 2) rfl) rfl dX10_decree_78 rfl ?_
          refine g_aload_n (pc' := 82) C dX10_decree_81 0 rfl rfl rfl ?_
          refine g_get (pc' := 85) C hi_X10 0 0 rfl rfl (by decide) (List.mem_of_getElem? (i := 8) rfl) rfl dX10_decree_82 rfl ?_
          refine g_iast (pc' := 86) (ws2 := [oMdl X mtd (nI mtl) (nI mln) (nI mwn) (nI mdn) (nI mon) (nI mat) (nI mfr) (nI mlg) (nI mfd), kA X 63 40 (upd f63 mdn i), kA X 64 40 (upd f64 mdn y), kA X 65 40 (upd f65 mdn v), kA X 66 40 (upd f66 mdn mtd)]) C 4 mdn rfl rfl (by omega) (by decide) dX10_decree_85 rfl rfl ?_
          refine g_aload_n (pc' := 87) C dX10_decree_86 0 rfl rfl rfl ?_
          refine g_dup (pc' := 88) C dX10_decree_87 rfl rfl ?_
          refine g_get (pc' := 91) C hi_X10 0 20 rfl rfl (by decide) (List.mem_of_getElem? (i := 2) rfl) rfl dX10_decree_88 rfl ?_
          refine g_iconst (pc' := 92) (v := 1) C dX10_decree_91 rfl rfl ?_
          refine g_iaddV (pc' := 93) (v := nI (mdn + 1)) C dX10_decree_92 (by first | exact (nI_add _ _) | rfl) rfl ?_
          refine g_put (pc' := 96) (ws2 := [oMdl X mtd (nI mtl) (nI mln) (nI mwn) (nI (mdn + 1)) (nI mon) (nI mat) (nI mfr) (nI mlg) (nI mfd), kA X 63 40 (upd f63 mdn i), kA X 64 40 (upd f64 mdn y), kA X 65 40 (upd f65 mdn v), kA X 66 40 (upd f66 mdn mtd)]) C hi_X10 tyX10 tyX10_ok nmX10 0 20 rfl rfl (by decide) (Nat.le_of_ble_eq_true rfl) rfl rfl (List.mem_of_getElem? (i := 2) rfl) dX10_decree_93 rfl rfl ?_
          refine g_aload_n (pc' := 97) C dX10_decree_96 0 rfl rfl rfl ?_
          refine g_get (pc' := 100) C hi_X10 0 20 rfl rfl (by decide) (List.mem_of_getElem? (i := 2) rfl) rfl dX10_decree_97 rfl ?_
          exact g_iret C hr dX10_decree_100 (by first | rfl | omega | (simp [deR, deU, deN, deO, b_3, b_10, b_22, c_37]; done) | (simp [deR, deU, deN, deO, b_3, b_10, b_22, c_37]; omega) | (simp [deR, deU, deN, deO, b_3, b_10, b_22, c_37]; intros; exfalso; omega) | grind [deR, deU, deN, deO]) (((((congrArg (fun zq_ : Int32 => ([oMdl X mtd (nI mtl) (nI mln) (nI mwn) zq_ (nI mon) (nI mat) (nI mfr) (nI mlg) (nI mfd), kA X 63 40 (upd f63 mdn i), kA X 64 40 (upd f64 mdn y), kA X 65 40 (upd f65 mdn v), kA X 66 40 (upd f66 mdn mtd)] : va_W)) (show (nI (mdn + 1) : Int32) = nI (deN mdn i y v) from (by first | rfl | omega | (simp [deR, deU, deN, deO, b_3, b_10, b_22, c_37]; done) | (simp [deR, deU, deN, deO, b_3, b_10, b_22, c_37]; omega) | (simp [deR, deU, deN, deO, b_3, b_10, b_22, c_37]; intros; exfalso; omega) | grind [deR, deU, deN, deO]))).trans (congrArg (fun zq_ : Nat → Int32 => ([oMdl X mtd (nI mtl) (nI mln) (nI mwn) (nI (deN mdn i y v)) (nI mon) (nI mat) (nI mfr) (nI mlg) (nI mfd), kA X 63 40 zq_, kA X 64 40 (upd f64 mdn y), kA X 65 40 (upd f65 mdn v), kA X 66 40 (upd f66 mdn mtd)] : va_W)) (show (upd f63 mdn i : Nat → Int32) = deU f63 i mdn i y v from (by first | rfl | omega | (simp [deR, deU, deN, deO, b_3, b_10, b_22, c_37]; done) | (simp [deR, deU, deN, deO, b_3, b_10, b_22, c_37]; omega) | (simp [deR, deU, deN, deO, b_3, b_10, b_22, c_37]; intros; exfalso; omega) | grind [deR, deU, deN, deO])))).trans (congrArg (fun zq_ : Nat → Int32 => ([oMdl X mtd (nI mtl) (nI mln) (nI mwn) (nI (deN mdn i y v)) (nI mon) (nI mat) (nI mfr) (nI mlg) (nI mfd), kA X 63 40 (deU f63 i mdn i y v), kA X 64 40 zq_, kA X 65 40 (upd f65 mdn v), kA X 66 40 (upd f66 mdn mtd)] : va_W)) (show (upd f64 mdn y : Nat → Int32) = deU f64 y mdn i y v from (by first | rfl | omega | (simp [deR, deU, deN, deO, b_3, b_10, b_22, c_37]; done) | (simp [deR, deU, deN, deO, b_3, b_10, b_22, c_37]; omega) | (simp [deR, deU, deN, deO, b_3, b_10, b_22, c_37]; intros; exfalso; omega) | grind [deR, deU, deN, deO])))).trans (congrArg (fun zq_ : Nat → Int32 => ([oMdl X mtd (nI mtl) (nI mln) (nI mwn) (nI (deN mdn i y v)) (nI mon) (nI mat) (nI mfr) (nI mlg) (nI mfd), kA X 63 40 (deU f63 i mdn i y v), kA X 64 40 (deU f64 y mdn i y v), kA X 65 40 zq_, kA X 66 40 (upd f66 mdn mtd)] : va_W)) (show (upd f65 mdn v : Nat → Int32) = deU f65 v mdn i y v from (by first | rfl | omega | (simp [deR, deU, deN, deO, b_3, b_10, b_22, c_37]; done) | (simp [deR, deU, deN, deO, b_3, b_10, b_22, c_37]; omega) | (simp [deR, deU, deN, deO, b_3, b_10, b_22, c_37]; intros; exfalso; omega) | grind [deR, deU, deN, deO])))).trans (congrArg (fun zq_ : Nat → Int32 => ([oMdl X mtd (nI mtl) (nI mln) (nI mwn) (nI (deN mdn i y v)) (nI mon) (nI mat) (nI mfr) (nI mlg) (nI mfd), kA X 63 40 (deU f63 i mdn i y v), kA X 64 40 (deU f64 y mdn i y v), kA X 65 40 (deU f65 v mdn i y v), kA X 66 40 zq_] : va_W)) (show (upd f66 mdn mtd : Nat → Int32) = deU f66 mtd mdn i y v from (by first | rfl | omega | (simp [deR, deU, deN, deO, b_3, b_10, b_22, c_37]; done) | (simp [deR, deU, deN, deO, b_3, b_10, b_22, c_37]; omega) | (simp [deR, deU, deN, deO, b_3, b_10, b_22, c_37]; intros; exfalso; omega) | grind [deR, deU, deN, deO]))))
        · refine g_ldc (pc' := 42) (v := (-1000000003)) C (List.mem_of_getElem? (i := 3) rfl) dX10_decree_40 rfl ?_
          exact g_iret C hr dX10_decree_42 (by first | rfl | omega | (simp [deR, deU, deN, deO, b_3, b_10, b_22, c_37]; done) | (simp [deR, deU, deN, deO, b_3, b_10, b_22, c_37]; omega) | (simp [deR, deU, deN, deO, b_3, b_10, b_22, c_37]; intros; exfalso; omega) | grind [deR, deU, deN, deO]) (((((congrArg (fun zq_ : Int32 => ([oMdl X mtd (nI mtl) (nI mln) (nI mwn) zq_ (nI mon) (nI mat) (nI mfr) (nI mlg) (nI mfd), kA X 63 40 f63, kA X 64 40 f64, kA X 65 40 f65, kA X 66 40 f66] : va_W)) (show (nI mdn : Int32) = nI (deN mdn i y v) from (by first | rfl | omega | (simp [deR, deU, deN, deO, b_3, b_10, b_22, c_37]; done) | (simp [deR, deU, deN, deO, b_3, b_10, b_22, c_37]; omega) | (simp [deR, deU, deN, deO, b_3, b_10, b_22, c_37]; intros; exfalso; omega) | grind [deR, deU, deN, deO]))).trans (congrArg (fun zq_ : Nat → Int32 => ([oMdl X mtd (nI mtl) (nI mln) (nI mwn) (nI (deN mdn i y v)) (nI mon) (nI mat) (nI mfr) (nI mlg) (nI mfd), kA X 63 40 zq_, kA X 64 40 f64, kA X 65 40 f65, kA X 66 40 f66] : va_W)) (show (f63 : Nat → Int32) = deU f63 i mdn i y v from (by first | rfl | omega | (simp [deR, deU, deN, deO, b_3, b_10, b_22, c_37]; done) | (simp [deR, deU, deN, deO, b_3, b_10, b_22, c_37]; omega) | (simp [deR, deU, deN, deO, b_3, b_10, b_22, c_37]; intros; exfalso; omega) | grind [deR, deU, deN, deO])))).trans (congrArg (fun zq_ : Nat → Int32 => ([oMdl X mtd (nI mtl) (nI mln) (nI mwn) (nI (deN mdn i y v)) (nI mon) (nI mat) (nI mfr) (nI mlg) (nI mfd), kA X 63 40 (deU f63 i mdn i y v), kA X 64 40 zq_, kA X 65 40 f65, kA X 66 40 f66] : va_W)) (show (f64 : Nat → Int32) = deU f64 y mdn i y v from (by first | rfl | omega | (simp [deR, deU, deN, deO, b_3, b_10, b_22, c_37]; done) | (simp [deR, deU, deN, deO, b_3, b_10, b_22, c_37]; omega) | (simp [deR, deU, deN, deO, b_3, b_10, b_22, c_37]; intros; exfalso; omega) | grind [deR, deU, deN, deO])))).trans (congrArg (fun zq_ : Nat → Int32 => ([oMdl X mtd (nI mtl) (nI mln) (nI mwn) (nI (deN mdn i y v)) (nI mon) (nI mat) (nI mfr) (nI mlg) (nI mfd), kA X 63 40 (deU f63 i mdn i y v), kA X 64 40 (deU f64 y mdn i y v), kA X 65 40 zq_, kA X 66 40 f66] : va_W)) (show (f65 : Nat → Int32) = deU f65 v mdn i y v from (by first | rfl | omega | (simp [deR, deU, deN, deO, b_3, b_10, b_22, c_37]; done) | (simp [deR, deU, deN, deO, b_3, b_10, b_22, c_37]; omega) | (simp [deR, deU, deN, deO, b_3, b_10, b_22, c_37]; intros; exfalso; omega) | grind [deR, deU, deN, deO])))).trans (congrArg (fun zq_ : Nat → Int32 => ([oMdl X mtd (nI mtl) (nI mln) (nI mwn) (nI (deN mdn i y v)) (nI mon) (nI mat) (nI mfr) (nI mlg) (nI mfd), kA X 63 40 (deU f63 i mdn i y v), kA X 64 40 (deU f64 y mdn i y v), kA X 65 40 (deU f65 v mdn i y v), kA X 66 40 zq_] : va_W)) (show (f66 : Nat → Int32) = deU f66 mtd mdn i y v from (by first | rfl | omega | (simp [deR, deU, deN, deO, b_3, b_10, b_22, c_37]; done) | (simp [deR, deU, deN, deO, b_3, b_10, b_22, c_37]; omega) | (simp [deR, deU, deN, deO, b_3, b_10, b_22, c_37]; intros; exfalso; omega) | grind [deR, deU, deN, deO]))))
      · refine g_top (bz_f b_22) ?_
        refine g_if_ne (pc' := 28) (tgt := 31) C dX10_decree_25 (by decide) rfl (fun h => absurd h (by decide)) (fun _ => ?_)
        refine g_ldc (pc' := 30) (v := (-1000000001)) C (List.mem_of_getElem? (i := 1) rfl) dX10_decree_28 rfl ?_
        exact g_iret C hr dX10_decree_30 (by first | rfl | omega | (simp [deR, deU, deN, deO, b_3, b_10, b_22]; done) | (simp [deR, deU, deN, deO, b_3, b_10, b_22]; omega) | (simp [deR, deU, deN, deO, b_3, b_10, b_22]; intros; exfalso; omega) | grind [deR, deU, deN, deO]) (((((congrArg (fun zq_ : Int32 => ([oMdl X mtd (nI mtl) (nI mln) (nI mwn) zq_ (nI mon) (nI mat) (nI mfr) (nI mlg) (nI mfd), kA X 63 40 f63, kA X 64 40 f64, kA X 65 40 f65, kA X 66 40 f66] : va_W)) (show (nI mdn : Int32) = nI (deN mdn i y v) from (by first | rfl | omega | (simp [deR, deU, deN, deO, b_3, b_10, b_22]; done) | (simp [deR, deU, deN, deO, b_3, b_10, b_22]; omega) | (simp [deR, deU, deN, deO, b_3, b_10, b_22]; intros; exfalso; omega) | grind [deR, deU, deN, deO]))).trans (congrArg (fun zq_ : Nat → Int32 => ([oMdl X mtd (nI mtl) (nI mln) (nI mwn) (nI (deN mdn i y v)) (nI mon) (nI mat) (nI mfr) (nI mlg) (nI mfd), kA X 63 40 zq_, kA X 64 40 f64, kA X 65 40 f65, kA X 66 40 f66] : va_W)) (show (f63 : Nat → Int32) = deU f63 i mdn i y v from (by first | rfl | omega | (simp [deR, deU, deN, deO, b_3, b_10, b_22]; done) | (simp [deR, deU, deN, deO, b_3, b_10, b_22]; omega) | (simp [deR, deU, deN, deO, b_3, b_10, b_22]; intros; exfalso; omega) | grind [deR, deU, deN, deO])))).trans (congrArg (fun zq_ : Nat → Int32 => ([oMdl X mtd (nI mtl) (nI mln) (nI mwn) (nI (deN mdn i y v)) (nI mon) (nI mat) (nI mfr) (nI mlg) (nI mfd), kA X 63 40 (deU f63 i mdn i y v), kA X 64 40 zq_, kA X 65 40 f65, kA X 66 40 f66] : va_W)) (show (f64 : Nat → Int32) = deU f64 y mdn i y v from (by first | rfl | omega | (simp [deR, deU, deN, deO, b_3, b_10, b_22]; done) | (simp [deR, deU, deN, deO, b_3, b_10, b_22]; omega) | (simp [deR, deU, deN, deO, b_3, b_10, b_22]; intros; exfalso; omega) | grind [deR, deU, deN, deO])))).trans (congrArg (fun zq_ : Nat → Int32 => ([oMdl X mtd (nI mtl) (nI mln) (nI mwn) (nI (deN mdn i y v)) (nI mon) (nI mat) (nI mfr) (nI mlg) (nI mfd), kA X 63 40 (deU f63 i mdn i y v), kA X 64 40 (deU f64 y mdn i y v), kA X 65 40 zq_, kA X 66 40 f66] : va_W)) (show (f65 : Nat → Int32) = deU f65 v mdn i y v from (by first | rfl | omega | (simp [deR, deU, deN, deO, b_3, b_10, b_22]; done) | (simp [deR, deU, deN, deO, b_3, b_10, b_22]; omega) | (simp [deR, deU, deN, deO, b_3, b_10, b_22]; intros; exfalso; omega) | grind [deR, deU, deN, deO])))).trans (congrArg (fun zq_ : Nat → Int32 => ([oMdl X mtd (nI mtl) (nI mln) (nI mwn) (nI (deN mdn i y v)) (nI mon) (nI mat) (nI mfr) (nI mlg) (nI mfd), kA X 63 40 (deU f63 i mdn i y v), kA X 64 40 (deU f64 y mdn i y v), kA X 65 40 (deU f65 v mdn i y v), kA X 66 40 zq_] : va_W)) (show (f66 : Nat → Int32) = deU f66 mtd mdn i y v from (by first | rfl | omega | (simp [deR, deU, deN, deO, b_3, b_10, b_22]; done) | (simp [deR, deU, deN, deO, b_3, b_10, b_22]; omega) | (simp [deR, deU, deN, deO, b_3, b_10, b_22]; intros; exfalso; omega) | grind [deR, deU, deN, deO]))))
    · refine g_top (bz_f b_10) ?_
      refine g_if_eq (pc' := 16) (tgt := 28) C dX10_decree_13 (by decide) rfl (fun _ => ?_) (fun h => absurd h (by decide))
      refine g_ldc (pc' := 30) (v := (-1000000001)) C (List.mem_of_getElem? (i := 1) rfl) dX10_decree_28 rfl ?_
      exact g_iret C hr dX10_decree_30 (by first | rfl | omega | (simp [deR, deU, deN, deO, b_3, b_10]; done) | (simp [deR, deU, deN, deO, b_3, b_10]; omega) | (simp [deR, deU, deN, deO, b_3, b_10]; intros; exfalso; omega) | grind [deR, deU, deN, deO]) (((((congrArg (fun zq_ : Int32 => ([oMdl X mtd (nI mtl) (nI mln) (nI mwn) zq_ (nI mon) (nI mat) (nI mfr) (nI mlg) (nI mfd), kA X 63 40 f63, kA X 64 40 f64, kA X 65 40 f65, kA X 66 40 f66] : va_W)) (show (nI mdn : Int32) = nI (deN mdn i y v) from (by first | rfl | omega | (simp [deR, deU, deN, deO, b_3, b_10]; done) | (simp [deR, deU, deN, deO, b_3, b_10]; omega) | (simp [deR, deU, deN, deO, b_3, b_10]; intros; exfalso; omega) | grind [deR, deU, deN, deO]))).trans (congrArg (fun zq_ : Nat → Int32 => ([oMdl X mtd (nI mtl) (nI mln) (nI mwn) (nI (deN mdn i y v)) (nI mon) (nI mat) (nI mfr) (nI mlg) (nI mfd), kA X 63 40 zq_, kA X 64 40 f64, kA X 65 40 f65, kA X 66 40 f66] : va_W)) (show (f63 : Nat → Int32) = deU f63 i mdn i y v from (by first | rfl | omega | (simp [deR, deU, deN, deO, b_3, b_10]; done) | (simp [deR, deU, deN, deO, b_3, b_10]; omega) | (simp [deR, deU, deN, deO, b_3, b_10]; intros; exfalso; omega) | grind [deR, deU, deN, deO])))).trans (congrArg (fun zq_ : Nat → Int32 => ([oMdl X mtd (nI mtl) (nI mln) (nI mwn) (nI (deN mdn i y v)) (nI mon) (nI mat) (nI mfr) (nI mlg) (nI mfd), kA X 63 40 (deU f63 i mdn i y v), kA X 64 40 zq_, kA X 65 40 f65, kA X 66 40 f66] : va_W)) (show (f64 : Nat → Int32) = deU f64 y mdn i y v from (by first | rfl | omega | (simp [deR, deU, deN, deO, b_3, b_10]; done) | (simp [deR, deU, deN, deO, b_3, b_10]; omega) | (simp [deR, deU, deN, deO, b_3, b_10]; intros; exfalso; omega) | grind [deR, deU, deN, deO])))).trans (congrArg (fun zq_ : Nat → Int32 => ([oMdl X mtd (nI mtl) (nI mln) (nI mwn) (nI (deN mdn i y v)) (nI mon) (nI mat) (nI mfr) (nI mlg) (nI mfd), kA X 63 40 (deU f63 i mdn i y v), kA X 64 40 (deU f64 y mdn i y v), kA X 65 40 zq_, kA X 66 40 f66] : va_W)) (show (f65 : Nat → Int32) = deU f65 v mdn i y v from (by first | rfl | omega | (simp [deR, deU, deN, deO, b_3, b_10]; done) | (simp [deR, deU, deN, deO, b_3, b_10]; omega) | (simp [deR, deU, deN, deO, b_3, b_10]; intros; exfalso; omega) | grind [deR, deU, deN, deO])))).trans (congrArg (fun zq_ : Nat → Int32 => ([oMdl X mtd (nI mtl) (nI mln) (nI mwn) (nI (deN mdn i y v)) (nI mon) (nI mat) (nI mfr) (nI mlg) (nI mfd), kA X 63 40 (deU f63 i mdn i y v), kA X 64 40 (deU f64 y mdn i y v), kA X 65 40 (deU f65 v mdn i y v), kA X 66 40 zq_] : va_W)) (show (f66 : Nat → Int32) = deU f66 mtd mdn i y v from (by first | rfl | omega | (simp [deR, deU, deN, deO, b_3, b_10]; done) | (simp [deR, deU, deN, deO, b_3, b_10]; omega) | (simp [deR, deU, deN, deO, b_3, b_10]; intros; exfalso; omega) | grind [deR, deU, deN, deO]))))
  · refine g_top (bz_f b_3) ?_
    refine g_if_eq (pc' := 9) (tgt := 28) C dX10_decree_6 (by decide) rfl (fun _ => ?_) (fun h => absurd h (by decide))
    refine g_ldc (pc' := 30) (v := (-1000000001)) C (List.mem_of_getElem? (i := 1) rfl) dX10_decree_28 rfl ?_
    exact g_iret C hr dX10_decree_30 (by first | rfl | omega | (simp [deR, deU, deN, deO, b_3]; done) | (simp [deR, deU, deN, deO, b_3]; omega) | (simp [deR, deU, deN, deO, b_3]; intros; exfalso; omega) | grind [deR, deU, deN, deO]) (((((congrArg (fun zq_ : Int32 => ([oMdl X mtd (nI mtl) (nI mln) (nI mwn) zq_ (nI mon) (nI mat) (nI mfr) (nI mlg) (nI mfd), kA X 63 40 f63, kA X 64 40 f64, kA X 65 40 f65, kA X 66 40 f66] : va_W)) (show (nI mdn : Int32) = nI (deN mdn i y v) from (by first | rfl | omega | (simp [deR, deU, deN, deO, b_3]; done) | (simp [deR, deU, deN, deO, b_3]; omega) | (simp [deR, deU, deN, deO, b_3]; intros; exfalso; omega) | grind [deR, deU, deN, deO]))).trans (congrArg (fun zq_ : Nat → Int32 => ([oMdl X mtd (nI mtl) (nI mln) (nI mwn) (nI (deN mdn i y v)) (nI mon) (nI mat) (nI mfr) (nI mlg) (nI mfd), kA X 63 40 zq_, kA X 64 40 f64, kA X 65 40 f65, kA X 66 40 f66] : va_W)) (show (f63 : Nat → Int32) = deU f63 i mdn i y v from (by first | rfl | omega | (simp [deR, deU, deN, deO, b_3]; done) | (simp [deR, deU, deN, deO, b_3]; omega) | (simp [deR, deU, deN, deO, b_3]; intros; exfalso; omega) | grind [deR, deU, deN, deO])))).trans (congrArg (fun zq_ : Nat → Int32 => ([oMdl X mtd (nI mtl) (nI mln) (nI mwn) (nI (deN mdn i y v)) (nI mon) (nI mat) (nI mfr) (nI mlg) (nI mfd), kA X 63 40 (deU f63 i mdn i y v), kA X 64 40 zq_, kA X 65 40 f65, kA X 66 40 f66] : va_W)) (show (f64 : Nat → Int32) = deU f64 y mdn i y v from (by first | rfl | omega | (simp [deR, deU, deN, deO, b_3]; done) | (simp [deR, deU, deN, deO, b_3]; omega) | (simp [deR, deU, deN, deO, b_3]; intros; exfalso; omega) | grind [deR, deU, deN, deO])))).trans (congrArg (fun zq_ : Nat → Int32 => ([oMdl X mtd (nI mtl) (nI mln) (nI mwn) (nI (deN mdn i y v)) (nI mon) (nI mat) (nI mfr) (nI mlg) (nI mfd), kA X 63 40 (deU f63 i mdn i y v), kA X 64 40 (deU f64 y mdn i y v), kA X 65 40 zq_, kA X 66 40 f66] : va_W)) (show (f65 : Nat → Int32) = deU f65 v mdn i y v from (by first | rfl | omega | (simp [deR, deU, deN, deO, b_3]; done) | (simp [deR, deU, deN, deO, b_3]; omega) | (simp [deR, deU, deN, deO, b_3]; intros; exfalso; omega) | grind [deR, deU, deN, deO])))).trans (congrArg (fun zq_ : Nat → Int32 => ([oMdl X mtd (nI mtl) (nI mln) (nI mwn) (nI (deN mdn i y v)) (nI mon) (nI mat) (nI mfr) (nI mlg) (nI mfd), kA X 63 40 (deU f63 i mdn i y v), kA X 64 40 (deU f64 y mdn i y v), kA X 65 40 (deU f65 v mdn i y v), kA X 66 40 zq_] : va_W)) (show (f66 : Nat → Int32) = deU f66 mtd mdn i y v from (by first | rfl | omega | (simp [deR, deU, deN, deO, b_3]; done) | (simp [deR, deU, deN, deO, b_3]; omega) | (simp [deR, deU, deN, deO, b_3]; intros; exfalso; omega) | grind [deR, deU, deN, deO]))))

set_option maxHeartbeats 1000000 in
set_option maxRecDepth 20000 in
theorem c_X10_valueOf (l : Launch) (X : gX) (mtd : Int32) (mtl : Nat) (mln : Nat) (mwn : Nat) (mdn : Nat) (mon : Nat) (mat : Nat) (mfr : Nat) (mlg : Nat) (mfd : Nat) (f63 : Nat → Int32) (f64 : Nat → Int32) (f65 : Nat → Int32) (f66 : Nat → Int32) (it : Nat) (yr : Int32) (d : Int32) (hit : it < 6) (hdn : mdn ≤ 40) : KC l yX10_valueOf wsX10_valueOf ⟨0, 0, 0, 0⟩ [.ref (xa X 46), .int (nI it), .int yr, .int d] X [oMdl X mtd (nI mtl) (nI mln) (nI mwn) (nI mdn) (nI mon) (nI mat) (nI mfr) (nI mlg) (nI mfd), kA X 63 40 f63, kA X 64 40 f64, kA X 65 40 f65, kA X 66 40 f66] (some (.int ((vmF f63 f64 f65 f66 (nI it) yr d (tbV it) mdn).1))) [oMdl X mtd (nI mtl) (nI mln) (nI mwn) (nI mdn) (nI mon) (nI mat) (nI mfr) (nI mlg) (nI mfd), kA X 63 40 f63, kA X 64 40 f64, kA X 65 40 f65, kA X 66 40 f66] := by
  have hi_X10 : ∀ w ∈ u_ws RX10 TX10 41, w ∈ wsX10_valueOf := fun w h => List.mem_cons_of_mem _ (List.mem_append_right _ h)
  refine KC.of cX10_valueOf 7 (some .int) RX10 rfl (by decide) rfl (lv := [(0, .ref (xa X 46)), (1, .int (nI it)), (2, .int yr), (3, .int d)]) rfl (Nat.le_of_ble_eq_true rfl) ?_
  intro p e s m args below meth c A C hr
  refine g_iload_n (pc' := 1) C dX10_valueOf_0 1 rfl rfl rfl ?_
  refine g_iconst (pc' := 2) (v := 3) C dX10_valueOf_1 rfl rfl ?_
  refine g_icmp_ltN (pc' := 5) (tgt := 10) C it 3 rfl rfl (by omega) (by omega) dX10_valueOf_2 (by decide) rfl (fun c_2 => ?_) (fun c_2 => ?_)
  · refine g_iconst (pc' := 11) (v := 1) C dX10_valueOf_10 rfl rfl ?_
    refine g_goto (tgt := 25) C dX10_valueOf_11 (by decide) ?_
    have jn_25 : gG p l e ⟨0, 0, 0, 0⟩ s m args below meth c X A 7 0 0 (MQ below (QA X A (some (.int ((vmF f63 f64 f65 f66 (nI it) yr d (tbV it) mdn).1))) [oMdl X mtd (nI mtl) (nI mln) (nI mwn) (nI mdn) (nI mon) (nI mat) (nI mfr) (nI mlg) (nI mfd), kA X 63 40 f63, kA X 64 40 f64, kA X 65 40 f65, kA X 66 40 f66]) args s 0 0 A) [(0, .ref (xa X 46)), (1, .int (nI it)), (2, .int yr), (3, .int d)] [oMdl X mtd (nI mtl) (nI mln) (nI mwn) (nI mdn) (nI mon) (nI mat) (nI mfr) (nI mlg) (nI mfd), kA X 63 40 f63, kA X 64 40 f64, kA X 65 40 f65, kA X 66 40 f66] 25 [.int (tbV it)] := by
      refine g_istore (pc' := 27) (lv' := [(4, .int (tbV it)), (0, .ref (xa X 46)), (1, .int (nI it)), (2, .int yr), (3, .int d)]) C dX10_valueOf_25 (by decide) rfl rfl ?_
      refine g_iconst (pc' := 28) (v := (-1)) C dX10_valueOf_27 rfl rfl ?_
      refine g_istore (pc' := 30) (lv' := [(5, .int (-1)), (4, .int (tbV it)), (0, .ref (xa X 46)), (1, .int (nI it)), (2, .int yr), (3, .int d)]) C dX10_valueOf_28 (by decide) rfl rfl ?_
      refine g_iconst (pc' := 31) (v := 0) C dX10_valueOf_30 rfl rfl ?_
      refine g_istore (pc' := 33) (lv' := [(6, .int 0), (5, .int (-1)), (4, .int (tbV it)), (0, .ref (xa X 46)), (1, .int (nI it)), (2, .int yr), (3, .int d)]) C dX10_valueOf_31 (by decide) rfl rfl ?_
      have lp_33 : ∀ (n_33 : Nat) (k : Nat) (hk : k ≤ mdn) (hm_33 : mdn - k < n_33), gG p l e ⟨0, 0, 0, 0⟩ s m args below meth c X A 7 0 0 (MQ below (QA X A (some (.int ((vmF f63 f64 f65 f66 (nI it) yr d (tbV it) mdn).1))) [oMdl X mtd (nI mtl) (nI mln) (nI mwn) (nI mdn) (nI mon) (nI mat) (nI mfr) (nI mlg) (nI mfd), kA X 63 40 f63, kA X 64 40 f64, kA X 65 40 f65, kA X 66 40 f66]) args s 0 0 A) [(0, .ref (xa X 46)), (1, .int (nI it)), (2, .int yr), (3, .int d), (4, .int ((vmF f63 f64 f65 f66 (nI it) yr d (tbV it) k).1)), (5, .int ((vmF f63 f64 f65 f66 (nI it) yr d (tbV it) k).2)), (6, .int (nI k))] [oMdl X mtd (nI mtl) (nI mln) (nI mwn) (nI mdn) (nI mon) (nI mat) (nI mfr) (nI mlg) (nI mfd), kA X 63 40 f63, kA X 64 40 f64, kA X 65 40 f65, kA X 66 40 f66] 33 [] := by
        intro n_33
        induction n_33 with
        | zero => intro k hk hm_33; exact absurd hm_33 (Nat.not_lt_zero _)
        | succ n_33 ih_33 =>
          intro k hk hm_33
          refine g_iload (pc' := 35) C dX10_valueOf_33 6 rfl rfl ?_
          refine g_aload_n (pc' := 36) C dX10_valueOf_35 0 rfl rfl rfl ?_
          refine g_get (pc' := 39) C hi_X10 0 20 rfl rfl (by decide) (List.mem_of_getElem? (i := 1) rfl) rfl dX10_valueOf_36 rfl ?_
          refine g_icmp_geN (pc' := 42) (tgt := 111) C k mdn rfl rfl (by omega) (by omega) dX10_valueOf_39 (by decide) rfl (fun c_39 => ?_) (fun c_39 => ?_)
          · refine g_iload (pc' := 113) C dX10_valueOf_111 4 rfl rfl ?_
            exact g_iret C hr dX10_valueOf_113 (by rw [show k = mdn by omega]) rfl
          · refine g_aload_n (pc' := 43) C dX10_valueOf_42 0 rfl rfl rfl ?_
            refine g_get (pc' := 46) C hi_X10 0 21 rfl rfl (by decide) (List.mem_of_getElem? (i := 2) rfl) rfl dX10_valueOf_43 rfl ?_
            refine g_iload (pc' := 48) C dX10_valueOf_46 6 rfl rfl ?_
            refine g_iald (pc' := 49) C 1 k rfl rfl (by omega) (by decide) dX10_valueOf_48 rfl ?_
            refine g_iload_n (pc' := 50) C dX10_valueOf_49 1 rfl rfl rfl ?_
            refine g_icmp_ne (pc' := 53) (tgt := 105) C dX10_valueOf_50 (by decide) rfl (fun c_50 => ?_) (fun c_50 => ?_)
            · refine g_iinc (pc' := 108) (v := nI (k + 1)) (lv' := [(6, .int (nI (k + 1))), (0, .ref (xa X 46)), (1, .int (nI it)), (2, .int yr), (3, .int d), (4, .int ((vmF f63 f64 f65 f66 (nI it) yr d (tbV it) k).1)), (5, .int ((vmF f63 f64 f65 f66 (nI it) yr d (tbV it) k).2))]) C dX10_valueOf_105 6 rfl (nI_1 _) (by decide) rfl rfl ?_
              refine g_goto (tgt := 33) C dX10_valueOf_108 (by decide) ?_
              refine g_lv (lv2 := [(0, .ref (xa X 46)), (1, .int (nI it)), (2, .int yr), (3, .int d), (4, .int ((vmF f63 f64 f65 f66 (nI it) yr d (tbV it) k).1)), (5, .int ((vmF f63 f64 f65 f66 (nI it) yr d (tbV it) k).2)), (6, .int (nI (k + 1)))]) [1, 2, 3, 4, 5, 6, 0] rfl ?_
              refine g_eq (lv2 := [(0, .ref (xa X 46)), (1, .int (nI it)), (2, .int yr), (3, .int d), (4, .int ((vmF f63 f64 f65 f66 (nI it) yr d (tbV it) (k + 1)).1)), (5, .int ((vmF f63 f64 f65 f66 (nI it) yr d (tbV it) (k + 1)).2)), (6, .int (nI (k + 1)))]) (ws2 := [oMdl X mtd (nI mtl) (nI mln) (nI mwn) (nI mdn) (nI mon) (nI mat) (nI mfr) (nI mlg) (nI mfd), kA X 63 40 f63, kA X 64 40 f64, kA X 65 40 f65, kA X 66 40 f66]) (st2 := []) ((congrArg (fun zq_ : Int32 => ([(0, .ref (xa X 46)), (1, .int (nI it)), (2, .int yr), (3, .int d), (4, .int zq_), (5, .int ((vmF f63 f64 f65 f66 (nI it) yr d (tbV it) k).2)), (6, .int (nI (k + 1)))] : List (Nat × Value))) (show ((vmF f63 f64 f65 f66 (nI it) yr d (tbV it) k).1 : Int32) = (vmF f63 f64 f65 f66 (nI it) yr d (tbV it) (k + 1)).1 from (by first | rfl | omega | (simp [vmF, c_2, c_39, c_50]; done) | (simp [vmF, c_2, c_39, c_50]; omega) | (simp [vmF, c_2, c_39, c_50]; intros; exfalso; omega) | grind [vmF]))).trans (congrArg (fun zq_ : Int32 => ([(0, .ref (xa X 46)), (1, .int (nI it)), (2, .int yr), (3, .int d), (4, .int ((vmF f63 f64 f65 f66 (nI it) yr d (tbV it) (k + 1)).1)), (5, .int zq_), (6, .int (nI (k + 1)))] : List (Nat × Value))) (show ((vmF f63 f64 f65 f66 (nI it) yr d (tbV it) k).2 : Int32) = (vmF f63 f64 f65 f66 (nI it) yr d (tbV it) (k + 1)).2 from (by first | rfl | omega | (simp [vmF, c_2, c_39, c_50]; done) | (simp [vmF, c_2, c_39, c_50]; omega) | (simp [vmF, c_2, c_39, c_50]; intros; exfalso; omega) | grind [vmF])))) rfl rfl ?_
              exact ih_33 (k + 1) (by omega) (by omega)
            · refine g_aload_n (pc' := 54) C dX10_valueOf_53 0 rfl rfl rfl ?_
              refine g_get (pc' := 57) C hi_X10 0 24 rfl rfl (by decide) (List.mem_of_getElem? (i := 3) rfl) rfl dX10_valueOf_54 rfl ?_
              refine g_iload (pc' := 59) C dX10_valueOf_57 6 rfl rfl ?_
              refine g_iald (pc' := 60) C 4 k rfl rfl (by omega) (by decide) dX10_valueOf_59 rfl ?_
              refine g_iload_n (pc' := 61) C dX10_valueOf_60 3 rfl rfl rfl ?_
              refine g_icmp_gt (pc' := 64) (tgt := 105) C dX10_valueOf_61 (by decide) rfl (fun c_61 => ?_) (fun c_61 => ?_)
              · refine g_iinc (pc' := 108) (v := nI (k + 1)) (lv' := [(6, .int (nI (k + 1))), (0, .ref (xa X 46)), (1, .int (nI it)), (2, .int yr), (3, .int d), (4, .int ((vmF f63 f64 f65 f66 (nI it) yr d (tbV it) k).1)), (5, .int ((vmF f63 f64 f65 f66 (nI it) yr d (tbV it) k).2))]) C dX10_valueOf_105 6 rfl (nI_1 _) (by decide) rfl rfl ?_
                refine g_goto (tgt := 33) C dX10_valueOf_108 (by decide) ?_
                refine g_lv (lv2 := [(0, .ref (xa X 46)), (1, .int (nI it)), (2, .int yr), (3, .int d), (4, .int ((vmF f63 f64 f65 f66 (nI it) yr d (tbV it) k).1)), (5, .int ((vmF f63 f64 f65 f66 (nI it) yr d (tbV it) k).2)), (6, .int (nI (k + 1)))]) [1, 2, 3, 4, 5, 6, 0] rfl ?_
                refine g_eq (lv2 := [(0, .ref (xa X 46)), (1, .int (nI it)), (2, .int yr), (3, .int d), (4, .int ((vmF f63 f64 f65 f66 (nI it) yr d (tbV it) (k + 1)).1)), (5, .int ((vmF f63 f64 f65 f66 (nI it) yr d (tbV it) (k + 1)).2)), (6, .int (nI (k + 1)))]) (ws2 := [oMdl X mtd (nI mtl) (nI mln) (nI mwn) (nI mdn) (nI mon) (nI mat) (nI mfr) (nI mlg) (nI mfd), kA X 63 40 f63, kA X 64 40 f64, kA X 65 40 f65, kA X 66 40 f66]) (st2 := []) ((congrArg (fun zq_ : Int32 => ([(0, .ref (xa X 46)), (1, .int (nI it)), (2, .int yr), (3, .int d), (4, .int zq_), (5, .int ((vmF f63 f64 f65 f66 (nI it) yr d (tbV it) k).2)), (6, .int (nI (k + 1)))] : List (Nat × Value))) (show ((vmF f63 f64 f65 f66 (nI it) yr d (tbV it) k).1 : Int32) = (vmF f63 f64 f65 f66 (nI it) yr d (tbV it) (k + 1)).1 from (by first | rfl | omega | (simp [vmF, c_2, c_39, c_50, c_61]; done) | (simp [vmF, c_2, c_39, c_50, c_61]; omega) | (simp [vmF, c_2, c_39, c_50, c_61]; intros; exfalso; omega) | grind [vmF]))).trans (congrArg (fun zq_ : Int32 => ([(0, .ref (xa X 46)), (1, .int (nI it)), (2, .int yr), (3, .int d), (4, .int ((vmF f63 f64 f65 f66 (nI it) yr d (tbV it) (k + 1)).1)), (5, .int zq_), (6, .int (nI (k + 1)))] : List (Nat × Value))) (show ((vmF f63 f64 f65 f66 (nI it) yr d (tbV it) k).2 : Int32) = (vmF f63 f64 f65 f66 (nI it) yr d (tbV it) (k + 1)).2 from (by first | rfl | omega | (simp [vmF, c_2, c_39, c_50, c_61]; done) | (simp [vmF, c_2, c_39, c_50, c_61]; omega) | (simp [vmF, c_2, c_39, c_50, c_61]; intros; exfalso; omega) | grind [vmF])))) rfl rfl ?_
                exact ih_33 (k + 1) (by omega) (by omega)
              · refine g_aload_n (pc' := 65) C dX10_valueOf_64 0 rfl rfl rfl ?_
                refine g_get (pc' := 68) C hi_X10 0 22 rfl rfl (by decide) (List.mem_of_getElem? (i := 4) rfl) rfl dX10_valueOf_65 rfl ?_
                refine g_iload (pc' := 70) C dX10_valueOf_68 6 rfl rfl ?_
                refine g_iald (pc' := 71) C 2 k rfl rfl (by omega) (by decide) dX10_valueOf_70 rfl ?_
                refine g_iload_n (pc' := 72) C dX10_valueOf_71 2 rfl rfl rfl ?_
                refine g_icmp_gt (pc' := 75) (tgt := 105) C dX10_valueOf_72 (by decide) rfl (fun c_72 => ?_) (fun c_72 => ?_)
                · refine g_iinc (pc' := 108) (v := nI (k + 1)) (lv' := [(6, .int (nI (k + 1))), (0, .ref (xa X 46)), (1, .int (nI it)), (2, .int yr), (3, .int d), (4, .int ((vmF f63 f64 f65 f66 (nI it) yr d (tbV it) k).1)), (5, .int ((vmF f63 f64 f65 f66 (nI it) yr d (tbV it) k).2))]) C dX10_valueOf_105 6 rfl (nI_1 _) (by decide) rfl rfl ?_
                  refine g_goto (tgt := 33) C dX10_valueOf_108 (by decide) ?_
                  refine g_lv (lv2 := [(0, .ref (xa X 46)), (1, .int (nI it)), (2, .int yr), (3, .int d), (4, .int ((vmF f63 f64 f65 f66 (nI it) yr d (tbV it) k).1)), (5, .int ((vmF f63 f64 f65 f66 (nI it) yr d (tbV it) k).2)), (6, .int (nI (k + 1)))]) [1, 2, 3, 4, 5, 6, 0] rfl ?_
                  refine g_eq (lv2 := [(0, .ref (xa X 46)), (1, .int (nI it)), (2, .int yr), (3, .int d), (4, .int ((vmF f63 f64 f65 f66 (nI it) yr d (tbV it) (k + 1)).1)), (5, .int ((vmF f63 f64 f65 f66 (nI it) yr d (tbV it) (k + 1)).2)), (6, .int (nI (k + 1)))]) (ws2 := [oMdl X mtd (nI mtl) (nI mln) (nI mwn) (nI mdn) (nI mon) (nI mat) (nI mfr) (nI mlg) (nI mfd), kA X 63 40 f63, kA X 64 40 f64, kA X 65 40 f65, kA X 66 40 f66]) (st2 := []) ((congrArg (fun zq_ : Int32 => ([(0, .ref (xa X 46)), (1, .int (nI it)), (2, .int yr), (3, .int d), (4, .int zq_), (5, .int ((vmF f63 f64 f65 f66 (nI it) yr d (tbV it) k).2)), (6, .int (nI (k + 1)))] : List (Nat × Value))) (show ((vmF f63 f64 f65 f66 (nI it) yr d (tbV it) k).1 : Int32) = (vmF f63 f64 f65 f66 (nI it) yr d (tbV it) (k + 1)).1 from (by first | rfl | omega | (simp [vmF, c_2, c_39, c_50, c_61, c_72]; done) | (simp [vmF, c_2, c_39, c_50, c_61, c_72]; omega) | (simp [vmF, c_2, c_39, c_50, c_61, c_72]; intros; exfalso; omega) | grind [vmF]))).trans (congrArg (fun zq_ : Int32 => ([(0, .ref (xa X 46)), (1, .int (nI it)), (2, .int yr), (3, .int d), (4, .int ((vmF f63 f64 f65 f66 (nI it) yr d (tbV it) (k + 1)).1)), (5, .int zq_), (6, .int (nI (k + 1)))] : List (Nat × Value))) (show ((vmF f63 f64 f65 f66 (nI it) yr d (tbV it) k).2 : Int32) = (vmF f63 f64 f65 f66 (nI it) yr d (tbV it) (k + 1)).2 from (by first | rfl | omega | (simp [vmF, c_2, c_39, c_50, c_61, c_72]; done) | (simp [vmF, c_2, c_39, c_50, c_61, c_72]; omega) | (simp [vmF, c_2, c_39, c_50, c_61, c_72]; intros; exfalso; omega) | grind [vmF])))) rfl rfl ?_
                  exact ih_33 (k + 1) (by omega) (by omega)
                · refine g_aload_n (pc' := 76) C dX10_valueOf_75 0 rfl rfl rfl ?_
                  refine g_get (pc' := 79) C hi_X10 0 22 rfl rfl (by decide) (List.mem_of_getElem? (i := 4) rfl) rfl dX10_valueOf_76 rfl ?_
                  refine g_iload (pc' := 81) C dX10_valueOf_79 6 rfl rfl ?_
                  refine g_iald (pc' := 82) C 2 k rfl rfl (by omega) (by decide) dX10_valueOf_81 rfl ?_
                  refine g_iload (pc' := 84) C dX10_valueOf_82 5 rfl rfl ?_
                  refine g_icmp_lt (pc' := 87) (tgt := 105) C dX10_valueOf_84 (by decide) rfl (fun c_84 => ?_) (fun c_84 => ?_)
                  · refine g_iinc (pc' := 108) (v := nI (k + 1)) (lv' := [(6, .int (nI (k + 1))), (0, .ref (xa X 46)), (1, .int (nI it)), (2, .int yr), (3, .int d), (4, .int ((vmF f63 f64 f65 f66 (nI it) yr d (tbV it) k).1)), (5, .int ((vmF f63 f64 f65 f66 (nI it) yr d (tbV it) k).2))]) C dX10_valueOf_105 6 rfl (nI_1 _) (by decide) rfl rfl ?_
                    refine g_goto (tgt := 33) C dX10_valueOf_108 (by decide) ?_
                    refine g_lv (lv2 := [(0, .ref (xa X 46)), (1, .int (nI it)), (2, .int yr), (3, .int d), (4, .int ((vmF f63 f64 f65 f66 (nI it) yr d (tbV it) k).1)), (5, .int ((vmF f63 f64 f65 f66 (nI it) yr d (tbV it) k).2)), (6, .int (nI (k + 1)))]) [1, 2, 3, 4, 5, 6, 0] rfl ?_
                    refine g_eq (lv2 := [(0, .ref (xa X 46)), (1, .int (nI it)), (2, .int yr), (3, .int d), (4, .int ((vmF f63 f64 f65 f66 (nI it) yr d (tbV it) (k + 1)).1)), (5, .int ((vmF f63 f64 f65 f66 (nI it) yr d (tbV it) (k + 1)).2)), (6, .int (nI (k + 1)))]) (ws2 := [oMdl X mtd (nI mtl) (nI mln) (nI mwn) (nI mdn) (nI mon) (nI mat) (nI mfr) (nI mlg) (nI mfd), kA X 63 40 f63, kA X 64 40 f64, kA X 65 40 f65, kA X 66 40 f66]) (st2 := []) ((congrArg (fun zq_ : Int32 => ([(0, .ref (xa X 46)), (1, .int (nI it)), (2, .int yr), (3, .int d), (4, .int zq_), (5, .int ((vmF f63 f64 f65 f66 (nI it) yr d (tbV it) k).2)), (6, .int (nI (k + 1)))] : List (Nat × Value))) (show ((vmF f63 f64 f65 f66 (nI it) yr d (tbV it) k).1 : Int32) = (vmF f63 f64 f65 f66 (nI it) yr d (tbV it) (k + 1)).1 from (by first | rfl | omega | (simp [vmF, c_2, c_39, c_50, c_61, c_72, c_84]; done) | (simp [vmF, c_2, c_39, c_50, c_61, c_72, c_84]; omega) | (simp [vmF, c_2, c_39, c_50, c_61, c_72, c_84]; intros; exfalso; omega) | grind [vmF]))).trans (congrArg (fun zq_ : Int32 => ([(0, .ref (xa X 46)), (1, .int (nI it)), (2, .int yr), (3, .int d), (4, .int ((vmF f63 f64 f65 f66 (nI it) yr d (tbV it) (k + 1)).1)), (5, .int zq_), (6, .int (nI (k + 1)))] : List (Nat × Value))) (show ((vmF f63 f64 f65 f66 (nI it) yr d (tbV it) k).2 : Int32) = (vmF f63 f64 f65 f66 (nI it) yr d (tbV it) (k + 1)).2 from (by first | rfl | omega | (simp [vmF, c_2, c_39, c_50, c_61, c_72, c_84]; done) | (simp [vmF, c_2, c_39, c_50, c_61, c_72, c_84]; omega) | (simp [vmF, c_2, c_39, c_50, c_61, c_72, c_84]; intros; exfalso; omega) | grind [vmF])))) rfl rfl ?_
                    exact ih_33 (k + 1) (by omega) (by omega)
                  · refine g_aload_n (pc' := 88) C dX10_valueOf_87 0 rfl rfl rfl ?_
                    refine g_get (pc' := 91) C hi_X10 0 22 rfl rfl (by decide) (List.mem_of_getElem? (i := 4) rfl) rfl dX10_valueOf_88 rfl ?_
                    refine g_iload (pc' := 93) C dX10_valueOf_91 6 rfl rfl ?_
                    refine g_iald (pc' := 94) C 2 k rfl rfl (by omega) (by decide) dX10_valueOf_93 rfl ?_
                    refine g_istore (pc' := 96) (lv' := [(5, .int (f64 k)), (0, .ref (xa X 46)), (1, .int (nI it)), (2, .int yr), (3, .int d), (4, .int ((vmF f63 f64 f65 f66 (nI it) yr d (tbV it) k).1)), (6, .int (nI k))]) C dX10_valueOf_94 (by decide) rfl rfl ?_
                    refine g_aload_n (pc' := 97) C dX10_valueOf_96 1 rfl rfl rfl ?_
                    refine g_get (pc' := 100) C hi_X10 0 23 rfl rfl (by decide) (List.mem_of_getElem? (i := 5) rfl) rfl dX10_valueOf_97 rfl ?_
                    refine g_iload (pc' := 102) C dX10_valueOf_100 6 rfl rfl ?_
                    refine g_iald (pc' := 103) C 3 k rfl rfl (by omega) (by decide) dX10_valueOf_102 rfl ?_
                    refine g_istore (pc' := 105) (lv' := [(4, .int (f65 k)), (5, .int (f64 k)), (0, .ref (xa X 46)), (1, .int (nI it)), (2, .int yr), (3, .int d), (6, .int (nI k))]) C dX10_valueOf_103 (by decide) rfl rfl ?_
                    refine g_iinc (pc' := 108) (v := nI (k + 1)) (lv' := [(6, .int (nI (k + 1))), (4, .int (f65 k)), (5, .int (f64 k)), (0, .ref (xa X 46)), (1, .int (nI it)), (2, .int yr), (3, .int d)]) C dX10_valueOf_105 6 rfl (nI_1 _) (by decide) rfl rfl ?_
                    refine g_goto (tgt := 33) C dX10_valueOf_108 (by decide) ?_
                    refine g_lv (lv2 := [(0, .ref (xa X 46)), (1, .int (nI it)), (2, .int yr), (3, .int d), (4, .int (f65 k)), (5, .int (f64 k)), (6, .int (nI (k + 1)))]) [3, 4, 5, 6, 1, 2, 0] rfl ?_
                    refine g_eq (lv2 := [(0, .ref (xa X 46)), (1, .int (nI it)), (2, .int yr), (3, .int d), (4, .int ((vmF f63 f64 f65 f66 (nI it) yr d (tbV it) (k + 1)).1)), (5, .int ((vmF f63 f64 f65 f66 (nI it) yr d (tbV it) (k + 1)).2)), (6, .int (nI (k + 1)))]) (ws2 := [oMdl X mtd (nI mtl) (nI mln) (nI mwn) (nI mdn) (nI mon) (nI mat) (nI mfr) (nI mlg) (nI mfd), kA X 63 40 f63, kA X 64 40 f64, kA X 65 40 f65, kA X 66 40 f66]) (st2 := []) ((congrArg (fun zq_ : Int32 => ([(0, .ref (xa X 46)), (1, .int (nI it)), (2, .int yr), (3, .int d), (4, .int zq_), (5, .int (f64 k)), (6, .int (nI (k + 1)))] : List (Nat × Value))) (show (f65 k : Int32) = (vmF f63 f64 f65 f66 (nI it) yr d (tbV it) (k + 1)).1 from (by first | rfl | omega | (simp [vmF, c_2, c_39, c_50, c_61, c_72, c_84]; done) | (simp [vmF, c_2, c_39, c_50, c_61, c_72, c_84]; omega) | (simp [vmF, c_2, c_39, c_50, c_61, c_72, c_84]; intros; exfalso; omega) | grind [vmF]))).trans (congrArg (fun zq_ : Int32 => ([(0, .ref (xa X 46)), (1, .int (nI it)), (2, .int yr), (3, .int d), (4, .int ((vmF f63 f64 f65 f66 (nI it) yr d (tbV it) (k + 1)).1)), (5, .int zq_), (6, .int (nI (k + 1)))] : List (Nat × Value))) (show (f64 k : Int32) = (vmF f63 f64 f65 f66 (nI it) yr d (tbV it) (k + 1)).2 from (by first | rfl | omega | (simp [vmF, c_2, c_39, c_50, c_61, c_72, c_84]; done) | (simp [vmF, c_2, c_39, c_50, c_61, c_72, c_84]; omega) | (simp [vmF, c_2, c_39, c_50, c_61, c_72, c_84]; intros; exfalso; omega) | grind [vmF])))) rfl rfl ?_
                    exact ih_33 (k + 1) (by omega) (by omega)
      refine g_lv (lv2 := [(0, .ref (xa X 46)), (1, .int (nI it)), (2, .int yr), (3, .int d), (4, .int (tbV it)), (5, .int (-1)), (6, .int 0)]) [3, 4, 5, 6, 2, 1, 0] rfl ?_
      refine g_eq (lv2 := [(0, .ref (xa X 46)), (1, .int (nI it)), (2, .int yr), (3, .int d), (4, .int ((vmF f63 f64 f65 f66 (nI it) yr d (tbV it) 0).1)), (5, .int ((vmF f63 f64 f65 f66 (nI it) yr d (tbV it) 0).2)), (6, .int 0)]) (ws2 := [oMdl X mtd (nI mtl) (nI mln) (nI mwn) (nI mdn) (nI mon) (nI mat) (nI mfr) (nI mlg) (nI mfd), kA X 63 40 f63, kA X 64 40 f64, kA X 65 40 f65, kA X 66 40 f66]) (st2 := []) ((congrArg (fun zq_ : Int32 => ([(0, .ref (xa X 46)), (1, .int (nI it)), (2, .int yr), (3, .int d), (4, .int zq_), (5, .int (-1)), (6, .int 0)] : List (Nat × Value))) (show (tbV it : Int32) = (vmF f63 f64 f65 f66 (nI it) yr d (tbV it) 0).1 from (by first | rfl | omega | (simp [vmF, c_2]; done) | (simp [vmF, c_2]; omega) | (simp [vmF, c_2]; intros; exfalso; omega) | grind [vmF]))).trans (congrArg (fun zq_ : Int32 => ([(0, .ref (xa X 46)), (1, .int (nI it)), (2, .int yr), (3, .int d), (4, .int ((vmF f63 f64 f65 f66 (nI it) yr d (tbV it) 0).1)), (5, .int zq_), (6, .int 0)] : List (Nat × Value))) (show ((-1) : Int32) = (vmF f63 f64 f65 f66 (nI it) yr d (tbV it) 0).2 from (by first | rfl | omega | (simp [vmF, c_2]; done) | (simp [vmF, c_2]; omega) | (simp [vmF, c_2]; intros; exfalso; omega) | grind [vmF])))) rfl rfl ?_
      exact lp_33 (mdn - 0 + 1) 0 (Nat.zero_le _) (by omega)
    refine g_eq (lv2 := [(0, .ref (xa X 46)), (1, .int (nI it)), (2, .int yr), (3, .int d)]) (ws2 := [oMdl X mtd (nI mtl) (nI mln) (nI mwn) (nI mdn) (nI mon) (nI mat) (nI mfr) (nI mlg) (nI mfd), kA X 63 40 f63, kA X 64 40 f64, kA X 65 40 f65, kA X 66 40 f66]) (st2 := [.int (tbV it)]) rfl rfl (congrArg (fun zq_ : Int32 => ([.int zq_] : List Value)) (show (1 : Int32) = tbV it from (by have h9 : it = 0 ∨ it = 1 ∨ it = 2 ∨ it = 3 ∨ it = 4 ∨ it = 5 := (by omega); rcases h9 with e | e | e | e | e | e <;> subst e <;> first | rfl | omega))) ?_
    exact jn_25  
  · refine g_iload_n (pc' := 6) C dX10_valueOf_5 1 rfl rfl rfl ?_
    refine g_iconst (pc' := 7) (v := 4) C dX10_valueOf_6 rfl rfl ?_
    refine g_icmp_neN (pc' := 10) (tgt := 14) C it 4 rfl rfl (by omega) (by omega) dX10_valueOf_7 (by decide) rfl (fun c_7 => ?_) (fun c_7 => ?_)
    · refine g_iload_n (pc' := 15) C dX10_valueOf_14 1 rfl rfl rfl ?_
      refine g_iconst (pc' := 16) (v := 3) C dX10_valueOf_15 rfl rfl ?_
      refine g_icmp_neN (pc' := 19) (tgt := 23) C it 3 rfl rfl (by omega) (by omega) dX10_valueOf_16 (by decide) rfl (fun c_16 => ?_) (fun c_16 => ?_)
      · refine g_bipush (pc' := 25) (v := 100) C dX10_valueOf_23 (by decide) rfl ?_
        have jn_25 : gG p l e ⟨0, 0, 0, 0⟩ s m args below meth c X A 7 0 0 (MQ below (QA X A (some (.int ((vmF f63 f64 f65 f66 (nI it) yr d (tbV it) mdn).1))) [oMdl X mtd (nI mtl) (nI mln) (nI mwn) (nI mdn) (nI mon) (nI mat) (nI mfr) (nI mlg) (nI mfd), kA X 63 40 f63, kA X 64 40 f64, kA X 65 40 f65, kA X 66 40 f66]) args s 0 0 A) [(0, .ref (xa X 46)), (1, .int (nI it)), (2, .int yr), (3, .int d)] [oMdl X mtd (nI mtl) (nI mln) (nI mwn) (nI mdn) (nI mon) (nI mat) (nI mfr) (nI mlg) (nI mfd), kA X 63 40 f63, kA X 64 40 f64, kA X 65 40 f65, kA X 66 40 f66] 25 [.int (tbV it)] := by
          refine g_istore (pc' := 27) (lv' := [(4, .int (tbV it)), (0, .ref (xa X 46)), (1, .int (nI it)), (2, .int yr), (3, .int d)]) C dX10_valueOf_25 (by decide) rfl rfl ?_
          refine g_iconst (pc' := 28) (v := (-1)) C dX10_valueOf_27 rfl rfl ?_
          refine g_istore (pc' := 30) (lv' := [(5, .int (-1)), (4, .int (tbV it)), (0, .ref (xa X 46)), (1, .int (nI it)), (2, .int yr), (3, .int d)]) C dX10_valueOf_28 (by decide) rfl rfl ?_
          refine g_iconst (pc' := 31) (v := 0) C dX10_valueOf_30 rfl rfl ?_
          refine g_istore (pc' := 33) (lv' := [(6, .int 0), (5, .int (-1)), (4, .int (tbV it)), (0, .ref (xa X 46)), (1, .int (nI it)), (2, .int yr), (3, .int d)]) C dX10_valueOf_31 (by decide) rfl rfl ?_
          have lp_33 : ∀ (n_33 : Nat) (k : Nat) (hk : k ≤ mdn) (hm_33 : mdn - k < n_33), gG p l e ⟨0, 0, 0, 0⟩ s m args below meth c X A 7 0 0 (MQ below (QA X A (some (.int ((vmF f63 f64 f65 f66 (nI it) yr d (tbV it) mdn).1))) [oMdl X mtd (nI mtl) (nI mln) (nI mwn) (nI mdn) (nI mon) (nI mat) (nI mfr) (nI mlg) (nI mfd), kA X 63 40 f63, kA X 64 40 f64, kA X 65 40 f65, kA X 66 40 f66]) args s 0 0 A) [(0, .ref (xa X 46)), (1, .int (nI it)), (2, .int yr), (3, .int d), (4, .int ((vmF f63 f64 f65 f66 (nI it) yr d (tbV it) k).1)), (5, .int ((vmF f63 f64 f65 f66 (nI it) yr d (tbV it) k).2)), (6, .int (nI k))] [oMdl X mtd (nI mtl) (nI mln) (nI mwn) (nI mdn) (nI mon) (nI mat) (nI mfr) (nI mlg) (nI mfd), kA X 63 40 f63, kA X 64 40 f64, kA X 65 40 f65, kA X 66 40 f66] 33 [] := by
            intro n_33
            induction n_33 with
            | zero => intro k hk hm_33; exact absurd hm_33 (Nat.not_lt_zero _)
            | succ n_33 ih_33 =>
              intro k hk hm_33
              refine g_iload (pc' := 35) C dX10_valueOf_33 6 rfl rfl ?_
              refine g_aload_n (pc' := 36) C dX10_valueOf_35 0 rfl rfl rfl ?_
              refine g_get (pc' := 39) C hi_X10 0 20 rfl rfl (by decide) (List.mem_of_getElem? (i := 1) rfl) rfl dX10_valueOf_36 rfl ?_
              refine g_icmp_geN (pc' := 42) (tgt := 111) C k mdn rfl rfl (by omega) (by omega) dX10_valueOf_39 (by decide) rfl (fun c_39 => ?_) (fun c_39 => ?_)
              · refine g_iload (pc' := 113) C dX10_valueOf_111 4 rfl rfl ?_
                exact g_iret C hr dX10_valueOf_113 (by rw [show k = mdn by omega]) rfl
              · refine g_aload_n (pc' := 43) C dX10_valueOf_42 0 rfl rfl rfl ?_
                refine g_get (pc' := 46) C hi_X10 0 21 rfl rfl (by decide) (List.mem_of_getElem? (i := 2) rfl) rfl dX10_valueOf_43 rfl ?_
                refine g_iload (pc' := 48) C dX10_valueOf_46 6 rfl rfl ?_
                refine g_iald (pc' := 49) C 1 k rfl rfl (by omega) (by decide) dX10_valueOf_48 rfl ?_
                refine g_iload_n (pc' := 50) C dX10_valueOf_49 1 rfl rfl rfl ?_
                refine g_icmp_ne (pc' := 53) (tgt := 105) C dX10_valueOf_50 (by decide) rfl (fun c_50 => ?_) (fun c_50 => ?_)
                · refine g_iinc (pc' := 108) (v := nI (k + 1)) (lv' := [(6, .int (nI (k + 1))), (0, .ref (xa X 46)), (1, .int (nI it)), (2, .int yr), (3, .int d), (4, .int ((vmF f63 f64 f65 f66 (nI it) yr d (tbV it) k).1)), (5, .int ((vmF f63 f64 f65 f66 (nI it) yr d (tbV it) k).2))]) C dX10_valueOf_105 6 rfl (nI_1 _) (by decide) rfl rfl ?_
                  refine g_goto (tgt := 33) C dX10_valueOf_108 (by decide) ?_
                  refine g_lv (lv2 := [(0, .ref (xa X 46)), (1, .int (nI it)), (2, .int yr), (3, .int d), (4, .int ((vmF f63 f64 f65 f66 (nI it) yr d (tbV it) k).1)), (5, .int ((vmF f63 f64 f65 f66 (nI it) yr d (tbV it) k).2)), (6, .int (nI (k + 1)))]) [1, 2, 3, 4, 5, 6, 0] rfl ?_
                  refine g_eq (lv2 := [(0, .ref (xa X 46)), (1, .int (nI it)), (2, .int yr), (3, .int d), (4, .int ((vmF f63 f64 f65 f66 (nI it) yr d (tbV it) (k + 1)).1)), (5, .int ((vmF f63 f64 f65 f66 (nI it) yr d (tbV it) (k + 1)).2)), (6, .int (nI (k + 1)))]) (ws2 := [oMdl X mtd (nI mtl) (nI mln) (nI mwn) (nI mdn) (nI mon) (nI mat) (nI mfr) (nI mlg) (nI mfd), kA X 63 40 f63, kA X 64 40 f64, kA X 65 40 f65, kA X 66 40 f66]) (st2 := []) ((congrArg (fun zq_ : Int32 => ([(0, .ref (xa X 46)), (1, .int (nI it)), (2, .int yr), (3, .int d), (4, .int zq_), (5, .int ((vmF f63 f64 f65 f66 (nI it) yr d (tbV it) k).2)), (6, .int (nI (k + 1)))] : List (Nat × Value))) (show ((vmF f63 f64 f65 f66 (nI it) yr d (tbV it) k).1 : Int32) = (vmF f63 f64 f65 f66 (nI it) yr d (tbV it) (k + 1)).1 from (by first | rfl | omega | (simp [vmF, c_2, c_7, c_16, c_39, c_50]; done) | (simp [vmF, c_2, c_7, c_16, c_39, c_50]; omega) | (simp [vmF, c_2, c_7, c_16, c_39, c_50]; intros; exfalso; omega) | grind [vmF]))).trans (congrArg (fun zq_ : Int32 => ([(0, .ref (xa X 46)), (1, .int (nI it)), (2, .int yr), (3, .int d), (4, .int ((vmF f63 f64 f65 f66 (nI it) yr d (tbV it) (k + 1)).1)), (5, .int zq_), (6, .int (nI (k + 1)))] : List (Nat × Value))) (show ((vmF f63 f64 f65 f66 (nI it) yr d (tbV it) k).2 : Int32) = (vmF f63 f64 f65 f66 (nI it) yr d (tbV it) (k + 1)).2 from (by first | rfl | omega | (simp [vmF, c_2, c_7, c_16, c_39, c_50]; done) | (simp [vmF, c_2, c_7, c_16, c_39, c_50]; omega) | (simp [vmF, c_2, c_7, c_16, c_39, c_50]; intros; exfalso; omega) | grind [vmF])))) rfl rfl ?_
                  exact ih_33 (k + 1) (by omega) (by omega)
                · refine g_aload_n (pc' := 54) C dX10_valueOf_53 0 rfl rfl rfl ?_
                  refine g_get (pc' := 57) C hi_X10 0 24 rfl rfl (by decide) (List.mem_of_getElem? (i := 3) rfl) rfl dX10_valueOf_54 rfl ?_
                  refine g_iload (pc' := 59) C dX10_valueOf_57 6 rfl rfl ?_
                  refine g_iald (pc' := 60) C 4 k rfl rfl (by omega) (by decide) dX10_valueOf_59 rfl ?_
                  refine g_iload_n (pc' := 61) C dX10_valueOf_60 3 rfl rfl rfl ?_
                  refine g_icmp_gt (pc' := 64) (tgt := 105) C dX10_valueOf_61 (by decide) rfl (fun c_61 => ?_) (fun c_61 => ?_)
                  · refine g_iinc (pc' := 108) (v := nI (k + 1)) (lv' := [(6, .int (nI (k + 1))), (0, .ref (xa X 46)), (1, .int (nI it)), (2, .int yr), (3, .int d), (4, .int ((vmF f63 f64 f65 f66 (nI it) yr d (tbV it) k).1)), (5, .int ((vmF f63 f64 f65 f66 (nI it) yr d (tbV it) k).2))]) C dX10_valueOf_105 6 rfl (nI_1 _) (by decide) rfl rfl ?_
                    refine g_goto (tgt := 33) C dX10_valueOf_108 (by decide) ?_
                    refine g_lv (lv2 := [(0, .ref (xa X 46)), (1, .int (nI it)), (2, .int yr), (3, .int d), (4, .int ((vmF f63 f64 f65 f66 (nI it) yr d (tbV it) k).1)), (5, .int ((vmF f63 f64 f65 f66 (nI it) yr d (tbV it) k).2)), (6, .int (nI (k + 1)))]) [1, 2, 3, 4, 5, 6, 0] rfl ?_
                    refine g_eq (lv2 := [(0, .ref (xa X 46)), (1, .int (nI it)), (2, .int yr), (3, .int d), (4, .int ((vmF f63 f64 f65 f66 (nI it) yr d (tbV it) (k + 1)).1)), (5, .int ((vmF f63 f64 f65 f66 (nI it) yr d (tbV it) (k + 1)).2)), (6, .int (nI (k + 1)))]) (ws2 := [oMdl X mtd (nI mtl) (nI mln) (nI mwn) (nI mdn) (nI mon) (nI mat) (nI mfr) (nI mlg) (nI mfd), kA X 63 40 f63, kA X 64 40 f64, kA X 65 40 f65, kA X 66 40 f66]) (st2 := []) ((congrArg (fun zq_ : Int32 => ([(0, .ref (xa X 46)), (1, .int (nI it)), (2, .int yr), (3, .int d), (4, .int zq_), (5, .int ((vmF f63 f64 f65 f66 (nI it) yr d (tbV it) k).2)), (6, .int (nI (k + 1)))] : List (Nat × Value))) (show ((vmF f63 f64 f65 f66 (nI it) yr d (tbV it) k).1 : Int32) = (vmF f63 f64 f65 f66 (nI it) yr d (tbV it) (k + 1)).1 from (by first | rfl | omega | (simp [vmF, c_2, c_7, c_16, c_39, c_50, c_61]; done) | (simp [vmF, c_2, c_7, c_16, c_39, c_50, c_61]; omega) | (simp [vmF, c_2, c_7, c_16, c_39, c_50, c_61]; intros; exfalso; omega) | grind [vmF]))).trans (congrArg (fun zq_ : Int32 => ([(0, .ref (xa X 46)), (1, .int (nI it)), (2, .int yr), (3, .int d), (4, .int ((vmF f63 f64 f65 f66 (nI it) yr d (tbV it) (k + 1)).1)), (5, .int zq_), (6, .int (nI (k + 1)))] : List (Nat × Value))) (show ((vmF f63 f64 f65 f66 (nI it) yr d (tbV it) k).2 : Int32) = (vmF f63 f64 f65 f66 (nI it) yr d (tbV it) (k + 1)).2 from (by first | rfl | omega | (simp [vmF, c_2, c_7, c_16, c_39, c_50, c_61]; done) | (simp [vmF, c_2, c_7, c_16, c_39, c_50, c_61]; omega) | (simp [vmF, c_2, c_7, c_16, c_39, c_50, c_61]; intros; exfalso; omega) | grind [vmF])))) rfl rfl ?_
                    exact ih_33 (k + 1) (by omega) (by omega)
                  · refine g_aload_n (pc' := 65) C dX10_valueOf_64 0 rfl rfl rfl ?_
                    refine g_get (pc' := 68) C hi_X10 0 22 rfl rfl (by decide) (List.mem_of_getElem? (i := 4) rfl) rfl dX10_valueOf_65 rfl ?_
                    refine g_iload (pc' := 70) C dX10_valueOf_68 6 rfl rfl ?_
                    refine g_iald (pc' := 71) C 2 k rfl rfl (by omega) (by decide) dX10_valueOf_70 rfl ?_
                    refine g_iload_n (pc' := 72) C dX10_valueOf_71 2 rfl rfl rfl ?_
                    refine g_icmp_gt (pc' := 75) (tgt := 105) C dX10_valueOf_72 (by decide) rfl (fun c_72 => ?_) (fun c_72 => ?_)
                    · refine g_iinc (pc' := 108) (v := nI (k + 1)) (lv' := [(6, .int (nI (k + 1))), (0, .ref (xa X 46)), (1, .int (nI it)), (2, .int yr), (3, .int d), (4, .int ((vmF f63 f64 f65 f66 (nI it) yr d (tbV it) k).1)), (5, .int ((vmF f63 f64 f65 f66 (nI it) yr d (tbV it) k).2))]) C dX10_valueOf_105 6 rfl (nI_1 _) (by decide) rfl rfl ?_
                      refine g_goto (tgt := 33) C dX10_valueOf_108 (by decide) ?_
                      refine g_lv (lv2 := [(0, .ref (xa X 46)), (1, .int (nI it)), (2, .int yr), (3, .int d), (4, .int ((vmF f63 f64 f65 f66 (nI it) yr d (tbV it) k).1)), (5, .int ((vmF f63 f64 f65 f66 (nI it) yr d (tbV it) k).2)), (6, .int (nI (k + 1)))]) [1, 2, 3, 4, 5, 6, 0] rfl ?_
                      refine g_eq (lv2 := [(0, .ref (xa X 46)), (1, .int (nI it)), (2, .int yr), (3, .int d), (4, .int ((vmF f63 f64 f65 f66 (nI it) yr d (tbV it) (k + 1)).1)), (5, .int ((vmF f63 f64 f65 f66 (nI it) yr d (tbV it) (k + 1)).2)), (6, .int (nI (k + 1)))]) (ws2 := [oMdl X mtd (nI mtl) (nI mln) (nI mwn) (nI mdn) (nI mon) (nI mat) (nI mfr) (nI mlg) (nI mfd), kA X 63 40 f63, kA X 64 40 f64, kA X 65 40 f65, kA X 66 40 f66]) (st2 := []) ((congrArg (fun zq_ : Int32 => ([(0, .ref (xa X 46)), (1, .int (nI it)), (2, .int yr), (3, .int d), (4, .int zq_), (5, .int ((vmF f63 f64 f65 f66 (nI it) yr d (tbV it) k).2)), (6, .int (nI (k + 1)))] : List (Nat × Value))) (show ((vmF f63 f64 f65 f66 (nI it) yr d (tbV it) k).1 : Int32) = (vmF f63 f64 f65 f66 (nI it) yr d (tbV it) (k + 1)).1 from (by first | rfl | omega | (simp [vmF, c_2, c_7, c_16, c_39, c_50, c_61, c_72]; done) | (simp [vmF, c_2, c_7, c_16, c_39, c_50, c_61, c_72]; omega) | (simp [vmF, c_2, c_7, c_16, c_39, c_50, c_61, c_72]; intros; exfalso; omega) | grind [vmF]))).trans (congrArg (fun zq_ : Int32 => ([(0, .ref (xa X 46)), (1, .int (nI it)), (2, .int yr), (3, .int d), (4, .int ((vmF f63 f64 f65 f66 (nI it) yr d (tbV it) (k + 1)).1)), (5, .int zq_), (6, .int (nI (k + 1)))] : List (Nat × Value))) (show ((vmF f63 f64 f65 f66 (nI it) yr d (tbV it) k).2 : Int32) = (vmF f63 f64 f65 f66 (nI it) yr d (tbV it) (k + 1)).2 from (by first | rfl | omega | (simp [vmF, c_2, c_7, c_16, c_39, c_50, c_61, c_72]; done) | (simp [vmF, c_2, c_7, c_16, c_39, c_50, c_61, c_72]; omega) | (simp [vmF, c_2, c_7, c_16, c_39, c_50, c_61, c_72]; intros; exfalso; omega) | grind [vmF])))) rfl rfl ?_
                      exact ih_33 (k + 1) (by omega) (by omega)
                    · refine g_aload_n (pc' := 76) C dX10_valueOf_75 0 rfl rfl rfl ?_
                      refine g_get (pc' := 79) C hi_X10 0 22 rfl rfl (by decide) (List.mem_of_getElem? (i := 4) rfl) rfl dX10_valueOf_76 rfl ?_
                      refine g_iload (pc' := 81) C dX10_valueOf_79 6 rfl rfl ?_
                      refine g_iald (pc' := 82) C 2 k rfl rfl (by omega) (by decide) dX10_valueOf_81 rfl ?_
                      refine g_iload (pc' := 84) C dX10_valueOf_82 5 rfl rfl ?_
                      refine g_icmp_lt (pc' := 87) (tgt := 105) C dX10_valueOf_84 (by decide) rfl (fun c_84 => ?_) (fun c_84 => ?_)
                      · refine g_iinc (pc' := 108) (v := nI (k + 1)) (lv' := [(6, .int (nI (k + 1))), (0, .ref (xa X 46)), (1, .int (nI it)), (2, .int yr), (3, .int d), (4, .int ((vmF f63 f64 f65 f66 (nI it) yr d (tbV it) k).1)), (5, .int ((vmF f63 f64 f65 f66 (nI it) yr d (tbV it) k).2))]) C dX10_valueOf_105 6 rfl (nI_1 _) (by decide) rfl rfl ?_
                        refine g_goto (tgt := 33) C dX10_valueOf_108 (by decide) ?_
                        refine g_lv (lv2 := [(0, .ref (xa X 46)), (1, .int (nI it)), (2, .int yr), (3, .int d), (4, .int ((vmF f63 f64 f65 f66 (nI it) yr d (tbV it) k).1)), (5, .int ((vmF f63 f64 f65 f66 (nI it) yr d (tbV it) k).2)), (6, .int (nI (k + 1)))]) [1, 2, 3, 4, 5, 6, 0] rfl ?_
                        refine g_eq (lv2 := [(0, .ref (xa X 46)), (1, .int (nI it)), (2, .int yr), (3, .int d), (4, .int ((vmF f63 f64 f65 f66 (nI it) yr d (tbV it) (k + 1)).1)), (5, .int ((vmF f63 f64 f65 f66 (nI it) yr d (tbV it) (k + 1)).2)), (6, .int (nI (k + 1)))]) (ws2 := [oMdl X mtd (nI mtl) (nI mln) (nI mwn) (nI mdn) (nI mon) (nI mat) (nI mfr) (nI mlg) (nI mfd), kA X 63 40 f63, kA X 64 40 f64, kA X 65 40 f65, kA X 66 40 f66]) (st2 := []) ((congrArg (fun zq_ : Int32 => ([(0, .ref (xa X 46)), (1, .int (nI it)), (2, .int yr), (3, .int d), (4, .int zq_), (5, .int ((vmF f63 f64 f65 f66 (nI it) yr d (tbV it) k).2)), (6, .int (nI (k + 1)))] : List (Nat × Value))) (show ((vmF f63 f64 f65 f66 (nI it) yr d (tbV it) k).1 : Int32) = (vmF f63 f64 f65 f66 (nI it) yr d (tbV it) (k + 1)).1 from (by first | rfl | omega | (simp [vmF, c_2, c_7, c_16, c_39, c_50, c_61, c_72, c_84]; done) | (simp [vmF, c_2, c_7, c_16, c_39, c_50, c_61, c_72, c_84]; omega) | (simp [vmF, c_2, c_7, c_16, c_39, c_50, c_61, c_72, c_84]; intros; exfalso; omega) | grind [vmF]))).trans (congrArg (fun zq_ : Int32 => ([(0, .ref (xa X 46)), (1, .int (nI it)), (2, .int yr), (3, .int d), (4, .int ((vmF f63 f64 f65 f66 (nI it) yr d (tbV it) (k + 1)).1)), (5, .int zq_), (6, .int (nI (k + 1)))] : List (Nat × Value))) (show ((vmF f63 f64 f65 f66 (nI it) yr d (tbV it) k).2 : Int32) = (vmF f63 f64 f65 f66 (nI it) yr d (tbV it) (k + 1)).2 from (by first | rfl | omega | (simp [vmF, c_2, c_7, c_16, c_39, c_50, c_61, c_72, c_84]; done) | (simp [vmF, c_2, c_7, c_16, c_39, c_50, c_61, c_72, c_84]; omega) | (simp [vmF, c_2, c_7, c_16, c_39, c_50, c_61, c_72, c_84]; intros; exfalso; omega) | grind [vmF])))) rfl rfl ?_
                        exact ih_33 (k + 1) (by omega) (by omega)
                      · refine g_aload_n (pc' := 88) C dX10_valueOf_87 0 rfl rfl rfl ?_
                        refine g_get (pc' := 91) C hi_X10 0 22 rfl rfl (by decide) (List.mem_of_getElem? (i := 4) rfl) rfl dX10_valueOf_88 rfl ?_
                        refine g_iload (pc' := 93) C dX10_valueOf_91 6 rfl rfl ?_
                        refine g_iald (pc' := 94) C 2 k rfl rfl (by omega) (by decide) dX10_valueOf_93 rfl ?_
                        refine g_istore (pc' := 96) (lv' := [(5, .int (f64 k)), (0, .ref (xa X 46)), (1, .int (nI it)), (2, .int yr), (3, .int d), (4, .int ((vmF f63 f64 f65 f66 (nI it) yr d (tbV it) k).1)), (6, .int (nI k))]) C dX10_valueOf_94 (by decide) rfl rfl ?_
                        refine g_aload_n (pc' := 97) C dX10_valueOf_96 1 rfl rfl rfl ?_
                        refine g_get (pc' := 100) C hi_X10 0 23 rfl rfl (by decide) (List.mem_of_getElem? (i := 5) rfl) rfl dX10_valueOf_97 rfl ?_
                        refine g_iload (pc' := 102) C dX10_valueOf_100 6 rfl rfl ?_
                        refine g_iald (pc' := 103) C 3 k rfl rfl (by omega) (by decide) dX10_valueOf_102 rfl ?_
                        refine g_istore (pc' := 105) (lv' := [(4, .int (f65 k)), (5, .int (f64 k)), (0, .ref (xa X 46)), (1, .int (nI it)), (2, .int yr), (3, .int d), (6, .int (nI k))]) C dX10_valueOf_103 (by decide) rfl rfl ?_
                        refine g_iinc (pc' := 108) (v := nI (k + 1)) (lv' := [(6, .int (nI (k + 1))), (4, .int (f65 k)), (5, .int (f64 k)), (0, .ref (xa X 46)), (1, .int (nI it)), (2, .int yr), (3, .int d)]) C dX10_valueOf_105 6 rfl (nI_1 _) (by decide) rfl rfl ?_
                        refine g_goto (tgt := 33) C dX10_valueOf_108 (by decide) ?_
                        refine g_lv (lv2 := [(0, .ref (xa X 46)), (1, .int (nI it)), (2, .int yr), (3, .int d), (4, .int (f65 k)), (5, .int (f64 k)), (6, .int (nI (k + 1)))]) [3, 4, 5, 6, 1, 2, 0] rfl ?_
                        refine g_eq (lv2 := [(0, .ref (xa X 46)), (1, .int (nI it)), (2, .int yr), (3, .int d), (4, .int ((vmF f63 f64 f65 f66 (nI it) yr d (tbV it) (k + 1)).1)), (5, .int ((vmF f63 f64 f65 f66 (nI it) yr d (tbV it) (k + 1)).2)), (6, .int (nI (k + 1)))]) (ws2 := [oMdl X mtd (nI mtl) (nI mln) (nI mwn) (nI mdn) (nI mon) (nI mat) (nI mfr) (nI mlg) (nI mfd), kA X 63 40 f63, kA X 64 40 f64, kA X 65 40 f65, kA X 66 40 f66]) (st2 := []) ((congrArg (fun zq_ : Int32 => ([(0, .ref (xa X 46)), (1, .int (nI it)), (2, .int yr), (3, .int d), (4, .int zq_), (5, .int (f64 k)), (6, .int (nI (k + 1)))] : List (Nat × Value))) (show (f65 k : Int32) = (vmF f63 f64 f65 f66 (nI it) yr d (tbV it) (k + 1)).1 from (by first | rfl | omega | (simp [vmF, c_2, c_7, c_16, c_39, c_50, c_61, c_72, c_84]; done) | (simp [vmF, c_2, c_7, c_16, c_39, c_50, c_61, c_72, c_84]; omega) | (simp [vmF, c_2, c_7, c_16, c_39, c_50, c_61, c_72, c_84]; intros; exfalso; omega) | grind [vmF]))).trans (congrArg (fun zq_ : Int32 => ([(0, .ref (xa X 46)), (1, .int (nI it)), (2, .int yr), (3, .int d), (4, .int ((vmF f63 f64 f65 f66 (nI it) yr d (tbV it) (k + 1)).1)), (5, .int zq_), (6, .int (nI (k + 1)))] : List (Nat × Value))) (show (f64 k : Int32) = (vmF f63 f64 f65 f66 (nI it) yr d (tbV it) (k + 1)).2 from (by first | rfl | omega | (simp [vmF, c_2, c_7, c_16, c_39, c_50, c_61, c_72, c_84]; done) | (simp [vmF, c_2, c_7, c_16, c_39, c_50, c_61, c_72, c_84]; omega) | (simp [vmF, c_2, c_7, c_16, c_39, c_50, c_61, c_72, c_84]; intros; exfalso; omega) | grind [vmF])))) rfl rfl ?_
                        exact ih_33 (k + 1) (by omega) (by omega)
          refine g_lv (lv2 := [(0, .ref (xa X 46)), (1, .int (nI it)), (2, .int yr), (3, .int d), (4, .int (tbV it)), (5, .int (-1)), (6, .int 0)]) [3, 4, 5, 6, 2, 1, 0] rfl ?_
          refine g_eq (lv2 := [(0, .ref (xa X 46)), (1, .int (nI it)), (2, .int yr), (3, .int d), (4, .int ((vmF f63 f64 f65 f66 (nI it) yr d (tbV it) 0).1)), (5, .int ((vmF f63 f64 f65 f66 (nI it) yr d (tbV it) 0).2)), (6, .int 0)]) (ws2 := [oMdl X mtd (nI mtl) (nI mln) (nI mwn) (nI mdn) (nI mon) (nI mat) (nI mfr) (nI mlg) (nI mfd), kA X 63 40 f63, kA X 64 40 f64, kA X 65 40 f65, kA X 66 40 f66]) (st2 := []) ((congrArg (fun zq_ : Int32 => ([(0, .ref (xa X 46)), (1, .int (nI it)), (2, .int yr), (3, .int d), (4, .int zq_), (5, .int (-1)), (6, .int 0)] : List (Nat × Value))) (show (tbV it : Int32) = (vmF f63 f64 f65 f66 (nI it) yr d (tbV it) 0).1 from (by first | rfl | omega | (simp [vmF, c_2, c_7, c_16]; done) | (simp [vmF, c_2, c_7, c_16]; omega) | (simp [vmF, c_2, c_7, c_16]; intros; exfalso; omega) | grind [vmF]))).trans (congrArg (fun zq_ : Int32 => ([(0, .ref (xa X 46)), (1, .int (nI it)), (2, .int yr), (3, .int d), (4, .int ((vmF f63 f64 f65 f66 (nI it) yr d (tbV it) 0).1)), (5, .int zq_), (6, .int 0)] : List (Nat × Value))) (show ((-1) : Int32) = (vmF f63 f64 f65 f66 (nI it) yr d (tbV it) 0).2 from (by first | rfl | omega | (simp [vmF, c_2, c_7, c_16]; done) | (simp [vmF, c_2, c_7, c_16]; omega) | (simp [vmF, c_2, c_7, c_16]; intros; exfalso; omega) | grind [vmF])))) rfl rfl ?_
          exact lp_33 (mdn - 0 + 1) 0 (Nat.zero_le _) (by omega)
        refine g_eq (lv2 := [(0, .ref (xa X 46)), (1, .int (nI it)), (2, .int yr), (3, .int d)]) (ws2 := [oMdl X mtd (nI mtl) (nI mln) (nI mwn) (nI mdn) (nI mon) (nI mat) (nI mfr) (nI mlg) (nI mfd), kA X 63 40 f63, kA X 64 40 f64, kA X 65 40 f65, kA X 66 40 f66]) (st2 := [.int (tbV it)]) rfl rfl (congrArg (fun zq_ : Int32 => ([.int zq_] : List Value)) (show (100 : Int32) = tbV it from (by have h9 : it = 0 ∨ it = 1 ∨ it = 2 ∨ it = 3 ∨ it = 4 ∨ it = 5 := (by omega); rcases h9 with e | e | e | e | e | e <;> subst e <;> first | rfl | omega))) ?_
        exact jn_25  
      · refine g_iconst (pc' := 20) (v := 0) C dX10_valueOf_19 rfl rfl ?_
        refine g_goto (tgt := 25) C dX10_valueOf_20 (by decide) ?_
        have jn_25 : gG p l e ⟨0, 0, 0, 0⟩ s m args below meth c X A 7 0 0 (MQ below (QA X A (some (.int ((vmF f63 f64 f65 f66 (nI it) yr d (tbV it) mdn).1))) [oMdl X mtd (nI mtl) (nI mln) (nI mwn) (nI mdn) (nI mon) (nI mat) (nI mfr) (nI mlg) (nI mfd), kA X 63 40 f63, kA X 64 40 f64, kA X 65 40 f65, kA X 66 40 f66]) args s 0 0 A) [(0, .ref (xa X 46)), (1, .int (nI it)), (2, .int yr), (3, .int d)] [oMdl X mtd (nI mtl) (nI mln) (nI mwn) (nI mdn) (nI mon) (nI mat) (nI mfr) (nI mlg) (nI mfd), kA X 63 40 f63, kA X 64 40 f64, kA X 65 40 f65, kA X 66 40 f66] 25 [.int (tbV it)] := by
          refine g_istore (pc' := 27) (lv' := [(4, .int (tbV it)), (0, .ref (xa X 46)), (1, .int (nI it)), (2, .int yr), (3, .int d)]) C dX10_valueOf_25 (by decide) rfl rfl ?_
          refine g_iconst (pc' := 28) (v := (-1)) C dX10_valueOf_27 rfl rfl ?_
          refine g_istore (pc' := 30) (lv' := [(5, .int (-1)), (4, .int (tbV it)), (0, .ref (xa X 46)), (1, .int (nI it)), (2, .int yr), (3, .int d)]) C dX10_valueOf_28 (by decide) rfl rfl ?_
          refine g_iconst (pc' := 31) (v := 0) C dX10_valueOf_30 rfl rfl ?_
          refine g_istore (pc' := 33) (lv' := [(6, .int 0), (5, .int (-1)), (4, .int (tbV it)), (0, .ref (xa X 46)), (1, .int (nI it)), (2, .int yr), (3, .int d)]) C dX10_valueOf_31 (by decide) rfl rfl ?_
          have lp_33 : ∀ (n_33 : Nat) (k : Nat) (hk : k ≤ mdn) (hm_33 : mdn - k < n_33), gG p l e ⟨0, 0, 0, 0⟩ s m args below meth c X A 7 0 0 (MQ below (QA X A (some (.int ((vmF f63 f64 f65 f66 (nI it) yr d (tbV it) mdn).1))) [oMdl X mtd (nI mtl) (nI mln) (nI mwn) (nI mdn) (nI mon) (nI mat) (nI mfr) (nI mlg) (nI mfd), kA X 63 40 f63, kA X 64 40 f64, kA X 65 40 f65, kA X 66 40 f66]) args s 0 0 A) [(0, .ref (xa X 46)), (1, .int (nI it)), (2, .int yr), (3, .int d), (4, .int ((vmF f63 f64 f65 f66 (nI it) yr d (tbV it) k).1)), (5, .int ((vmF f63 f64 f65 f66 (nI it) yr d (tbV it) k).2)), (6, .int (nI k))] [oMdl X mtd (nI mtl) (nI mln) (nI mwn) (nI mdn) (nI mon) (nI mat) (nI mfr) (nI mlg) (nI mfd), kA X 63 40 f63, kA X 64 40 f64, kA X 65 40 f65, kA X 66 40 f66] 33 [] := by
            intro n_33
            induction n_33 with
            | zero => intro k hk hm_33; exact absurd hm_33 (Nat.not_lt_zero _)
            | succ n_33 ih_33 =>
              intro k hk hm_33
              refine g_iload (pc' := 35) C dX10_valueOf_33 6 rfl rfl ?_
              refine g_aload_n (pc' := 36) C dX10_valueOf_35 0 rfl rfl rfl ?_
              refine g_get (pc' := 39) C hi_X10 0 20 rfl rfl (by decide) (List.mem_of_getElem? (i := 1) rfl) rfl dX10_valueOf_36 rfl ?_
              refine g_icmp_geN (pc' := 42) (tgt := 111) C k mdn rfl rfl (by omega) (by omega) dX10_valueOf_39 (by decide) rfl (fun c_39 => ?_) (fun c_39 => ?_)
              · refine g_iload (pc' := 113) C dX10_valueOf_111 4 rfl rfl ?_
                exact g_iret C hr dX10_valueOf_113 (by rw [show k = mdn by omega]) rfl
              · refine g_aload_n (pc' := 43) C dX10_valueOf_42 0 rfl rfl rfl ?_
                refine g_get (pc' := 46) C hi_X10 0 21 rfl rfl (by decide) (List.mem_of_getElem? (i := 2) rfl) rfl dX10_valueOf_43 rfl ?_
                refine g_iload (pc' := 48) C dX10_valueOf_46 6 rfl rfl ?_
                refine g_iald (pc' := 49) C 1 k rfl rfl (by omega) (by decide) dX10_valueOf_48 rfl ?_
                refine g_iload_n (pc' := 50) C dX10_valueOf_49 1 rfl rfl rfl ?_
                refine g_icmp_ne (pc' := 53) (tgt := 105) C dX10_valueOf_50 (by decide) rfl (fun c_50 => ?_) (fun c_50 => ?_)
                · refine g_iinc (pc' := 108) (v := nI (k + 1)) (lv' := [(6, .int (nI (k + 1))), (0, .ref (xa X 46)), (1, .int (nI it)), (2, .int yr), (3, .int d), (4, .int ((vmF f63 f64 f65 f66 (nI it) yr d (tbV it) k).1)), (5, .int ((vmF f63 f64 f65 f66 (nI it) yr d (tbV it) k).2))]) C dX10_valueOf_105 6 rfl (nI_1 _) (by decide) rfl rfl ?_
                  refine g_goto (tgt := 33) C dX10_valueOf_108 (by decide) ?_
                  refine g_lv (lv2 := [(0, .ref (xa X 46)), (1, .int (nI it)), (2, .int yr), (3, .int d), (4, .int ((vmF f63 f64 f65 f66 (nI it) yr d (tbV it) k).1)), (5, .int ((vmF f63 f64 f65 f66 (nI it) yr d (tbV it) k).2)), (6, .int (nI (k + 1)))]) [1, 2, 3, 4, 5, 6, 0] rfl ?_
                  refine g_eq (lv2 := [(0, .ref (xa X 46)), (1, .int (nI it)), (2, .int yr), (3, .int d), (4, .int ((vmF f63 f64 f65 f66 (nI it) yr d (tbV it) (k + 1)).1)), (5, .int ((vmF f63 f64 f65 f66 (nI it) yr d (tbV it) (k + 1)).2)), (6, .int (nI (k + 1)))]) (ws2 := [oMdl X mtd (nI mtl) (nI mln) (nI mwn) (nI mdn) (nI mon) (nI mat) (nI mfr) (nI mlg) (nI mfd), kA X 63 40 f63, kA X 64 40 f64, kA X 65 40 f65, kA X 66 40 f66]) (st2 := []) ((congrArg (fun zq_ : Int32 => ([(0, .ref (xa X 46)), (1, .int (nI it)), (2, .int yr), (3, .int d), (4, .int zq_), (5, .int ((vmF f63 f64 f65 f66 (nI it) yr d (tbV it) k).2)), (6, .int (nI (k + 1)))] : List (Nat × Value))) (show ((vmF f63 f64 f65 f66 (nI it) yr d (tbV it) k).1 : Int32) = (vmF f63 f64 f65 f66 (nI it) yr d (tbV it) (k + 1)).1 from (by first | rfl | omega | (simp [vmF, c_2, c_7, c_16, c_39, c_50]; done) | (simp [vmF, c_2, c_7, c_16, c_39, c_50]; omega) | (simp [vmF, c_2, c_7, c_16, c_39, c_50]; intros; exfalso; omega) | grind [vmF]))).trans (congrArg (fun zq_ : Int32 => ([(0, .ref (xa X 46)), (1, .int (nI it)), (2, .int yr), (3, .int d), (4, .int ((vmF f63 f64 f65 f66 (nI it) yr d (tbV it) (k + 1)).1)), (5, .int zq_), (6, .int (nI (k + 1)))] : List (Nat × Value))) (show ((vmF f63 f64 f65 f66 (nI it) yr d (tbV it) k).2 : Int32) = (vmF f63 f64 f65 f66 (nI it) yr d (tbV it) (k + 1)).2 from (by first | rfl | omega | (simp [vmF, c_2, c_7, c_16, c_39, c_50]; done) | (simp [vmF, c_2, c_7, c_16, c_39, c_50]; omega) | (simp [vmF, c_2, c_7, c_16, c_39, c_50]; intros; exfalso; omega) | grind [vmF])))) rfl rfl ?_
                  exact ih_33 (k + 1) (by omega) (by omega)
                · refine g_aload_n (pc' := 54) C dX10_valueOf_53 0 rfl rfl rfl ?_
                  refine g_get (pc' := 57) C hi_X10 0 24 rfl rfl (by decide) (List.mem_of_getElem? (i := 3) rfl) rfl dX10_valueOf_54 rfl ?_
                  refine g_iload (pc' := 59) C dX10_valueOf_57 6 rfl rfl ?_
                  refine g_iald (pc' := 60) C 4 k rfl rfl (by omega) (by decide) dX10_valueOf_59 rfl ?_
                  refine g_iload_n (pc' := 61) C dX10_valueOf_60 3 rfl rfl rfl ?_
                  refine g_icmp_gt (pc' := 64) (tgt := 105) C dX10_valueOf_61 (by decide) rfl (fun c_61 => ?_) (fun c_61 => ?_)
                  · refine g_iinc (pc' := 108) (v := nI (k + 1)) (lv' := [(6, .int (nI (k + 1))), (0, .ref (xa X 46)), (1, .int (nI it)), (2, .int yr), (3, .int d), (4, .int ((vmF f63 f64 f65 f66 (nI it) yr d (tbV it) k).1)), (5, .int ((vmF f63 f64 f65 f66 (nI it) yr d (tbV it) k).2))]) C dX10_valueOf_105 6 rfl (nI_1 _) (by decide) rfl rfl ?_
                    refine g_goto (tgt := 33) C dX10_valueOf_108 (by decide) ?_
                    refine g_lv (lv2 := [(0, .ref (xa X 46)), (1, .int (nI it)), (2, .int yr), (3, .int d), (4, .int ((vmF f63 f64 f65 f66 (nI it) yr d (tbV it) k).1)), (5, .int ((vmF f63 f64 f65 f66 (nI it) yr d (tbV it) k).2)), (6, .int (nI (k + 1)))]) [1, 2, 3, 4, 5, 6, 0] rfl ?_
                    refine g_eq (lv2 := [(0, .ref (xa X 46)), (1, .int (nI it)), (2, .int yr), (3, .int d), (4, .int ((vmF f63 f64 f65 f66 (nI it) yr d (tbV it) (k + 1)).1)), (5, .int ((vmF f63 f64 f65 f66 (nI it) yr d (tbV it) (k + 1)).2)), (6, .int (nI (k + 1)))]) (ws2 := [oMdl X mtd (nI mtl) (nI mln) (nI mwn) (nI mdn) (nI mon) (nI mat) (nI mfr) (nI mlg) (nI mfd), kA X 63 40 f63, kA X 64 40 f64, kA X 65 40 f65, kA X 66 40 f66]) (st2 := []) ((congrArg (fun zq_ : Int32 => ([(0, .ref (xa X 46)), (1, .int (nI it)), (2, .int yr), (3, .int d), (4, .int zq_), (5, .int ((vmF f63 f64 f65 f66 (nI it) yr d (tbV it) k).2)), (6, .int (nI (k + 1)))] : List (Nat × Value))) (show ((vmF f63 f64 f65 f66 (nI it) yr d (tbV it) k).1 : Int32) = (vmF f63 f64 f65 f66 (nI it) yr d (tbV it) (k + 1)).1 from (by first | rfl | omega | (simp [vmF, c_2, c_7, c_16, c_39, c_50, c_61]; done) | (simp [vmF, c_2, c_7, c_16, c_39, c_50, c_61]; omega) | (simp [vmF, c_2, c_7, c_16, c_39, c_50, c_61]; intros; exfalso; omega) | grind [vmF]))).trans (congrArg (fun zq_ : Int32 => ([(0, .ref (xa X 46)), (1, .int (nI it)), (2, .int yr), (3, .int d), (4, .int ((vmF f63 f64 f65 f66 (nI it) yr d (tbV it) (k + 1)).1)), (5, .int zq_), (6, .int (nI (k + 1)))] : List (Nat × Value))) (show ((vmF f63 f64 f65 f66 (nI it) yr d (tbV it) k).2 : Int32) = (vmF f63 f64 f65 f66 (nI it) yr d (tbV it) (k + 1)).2 from (by first | rfl | omega | (simp [vmF, c_2, c_7, c_16, c_39, c_50, c_61]; done) | (simp [vmF, c_2, c_7, c_16, c_39, c_50, c_61]; omega) | (simp [vmF, c_2, c_7, c_16, c_39, c_50, c_61]; intros; exfalso; omega) | grind [vmF])))) rfl rfl ?_
                    exact ih_33 (k + 1) (by omega) (by omega)
                  · refine g_aload_n (pc' := 65) C dX10_valueOf_64 0 rfl rfl rfl ?_
                    refine g_get (pc' := 68) C hi_X10 0 22 rfl rfl (by decide) (List.mem_of_getElem? (i := 4) rfl) rfl dX10_valueOf_65 rfl ?_
                    refine g_iload (pc' := 70) C dX10_valueOf_68 6 rfl rfl ?_
                    refine g_iald (pc' := 71) C 2 k rfl rfl (by omega) (by decide) dX10_valueOf_70 rfl ?_
                    refine g_iload_n (pc' := 72) C dX10_valueOf_71 2 rfl rfl rfl ?_
                    refine g_icmp_gt (pc' := 75) (tgt := 105) C dX10_valueOf_72 (by decide) rfl (fun c_72 => ?_) (fun c_72 => ?_)
                    · refine g_iinc (pc' := 108) (v := nI (k + 1)) (lv' := [(6, .int (nI (k + 1))), (0, .ref (xa X 46)), (1, .int (nI it)), (2, .int yr), (3, .int d), (4, .int ((vmF f63 f64 f65 f66 (nI it) yr d (tbV it) k).1)), (5, .int ((vmF f63 f64 f65 f66 (nI it) yr d (tbV it) k).2))]) C dX10_valueOf_105 6 rfl (nI_1 _) (by decide) rfl rfl ?_
                      refine g_goto (tgt := 33) C dX10_valueOf_108 (by decide) ?_
                      refine g_lv (lv2 := [(0, .ref (xa X 46)), (1, .int (nI it)), (2, .int yr), (3, .int d), (4, .int ((vmF f63 f64 f65 f66 (nI it) yr d (tbV it) k).1)), (5, .int ((vmF f63 f64 f65 f66 (nI it) yr d (tbV it) k).2)), (6, .int (nI (k + 1)))]) [1, 2, 3, 4, 5, 6, 0] rfl ?_
                      refine g_eq (lv2 := [(0, .ref (xa X 46)), (1, .int (nI it)), (2, .int yr), (3, .int d), (4, .int ((vmF f63 f64 f65 f66 (nI it) yr d (tbV it) (k + 1)).1)), (5, .int ((vmF f63 f64 f65 f66 (nI it) yr d (tbV it) (k + 1)).2)), (6, .int (nI (k + 1)))]) (ws2 := [oMdl X mtd (nI mtl) (nI mln) (nI mwn) (nI mdn) (nI mon) (nI mat) (nI mfr) (nI mlg) (nI mfd), kA X 63 40 f63, kA X 64 40 f64, kA X 65 40 f65, kA X 66 40 f66]) (st2 := []) ((congrArg (fun zq_ : Int32 => ([(0, .ref (xa X 46)), (1, .int (nI it)), (2, .int yr), (3, .int d), (4, .int zq_), (5, .int ((vmF f63 f64 f65 f66 (nI it) yr d (tbV it) k).2)), (6, .int (nI (k + 1)))] : List (Nat × Value))) (show ((vmF f63 f64 f65 f66 (nI it) yr d (tbV it) k).1 : Int32) = (vmF f63 f64 f65 f66 (nI it) yr d (tbV it) (k + 1)).1 from (by first | rfl | omega | (simp [vmF, c_2, c_7, c_16, c_39, c_50, c_61, c_72]; done) | (simp [vmF, c_2, c_7, c_16, c_39, c_50, c_61, c_72]; omega) | (simp [vmF, c_2, c_7, c_16, c_39, c_50, c_61, c_72]; intros; exfalso; omega) | grind [vmF]))).trans (congrArg (fun zq_ : Int32 => ([(0, .ref (xa X 46)), (1, .int (nI it)), (2, .int yr), (3, .int d), (4, .int ((vmF f63 f64 f65 f66 (nI it) yr d (tbV it) (k + 1)).1)), (5, .int zq_), (6, .int (nI (k + 1)))] : List (Nat × Value))) (show ((vmF f63 f64 f65 f66 (nI it) yr d (tbV it) k).2 : Int32) = (vmF f63 f64 f65 f66 (nI it) yr d (tbV it) (k + 1)).2 from (by first | rfl | omega | (simp [vmF, c_2, c_7, c_16, c_39, c_50, c_61, c_72]; done) | (simp [vmF, c_2, c_7, c_16, c_39, c_50, c_61, c_72]; omega) | (simp [vmF, c_2, c_7, c_16, c_39, c_50, c_61, c_72]; intros; exfalso; omega) | grind [vmF])))) rfl rfl ?_
                      exact ih_33 (k + 1) (by omega) (by omega)
                    · refine g_aload_n (pc' := 76) C dX10_valueOf_75 0 rfl rfl rfl ?_
                      refine g_get (pc' := 79) C hi_X10 0 22 rfl rfl (by decide) (List.mem_of_getElem? (i := 4) rfl) rfl dX10_valueOf_76 rfl ?_
                      refine g_iload (pc' := 81) C dX10_valueOf_79 6 rfl rfl ?_
                      refine g_iald (pc' := 82) C 2 k rfl rfl (by omega) (by decide) dX10_valueOf_81 rfl ?_
                      refine g_iload (pc' := 84) C dX10_valueOf_82 5 rfl rfl ?_
                      refine g_icmp_lt (pc' := 87) (tgt := 105) C dX10_valueOf_84 (by decide) rfl (fun c_84 => ?_) (fun c_84 => ?_)
                      · refine g_iinc (pc' := 108) (v := nI (k + 1)) (lv' := [(6, .int (nI (k + 1))), (0, .ref (xa X 46)), (1, .int (nI it)), (2, .int yr), (3, .int d), (4, .int ((vmF f63 f64 f65 f66 (nI it) yr d (tbV it) k).1)), (5, .int ((vmF f63 f64 f65 f66 (nI it) yr d (tbV it) k).2))]) C dX10_valueOf_105 6 rfl (nI_1 _) (by decide) rfl rfl ?_
                        refine g_goto (tgt := 33) C dX10_valueOf_108 (by decide) ?_
                        refine g_lv (lv2 := [(0, .ref (xa X 46)), (1, .int (nI it)), (2, .int yr), (3, .int d), (4, .int ((vmF f63 f64 f65 f66 (nI it) yr d (tbV it) k).1)), (5, .int ((vmF f63 f64 f65 f66 (nI it) yr d (tbV it) k).2)), (6, .int (nI (k + 1)))]) [1, 2, 3, 4, 5, 6, 0] rfl ?_
                        refine g_eq (lv2 := [(0, .ref (xa X 46)), (1, .int (nI it)), (2, .int yr), (3, .int d), (4, .int ((vmF f63 f64 f65 f66 (nI it) yr d (tbV it) (k + 1)).1)), (5, .int ((vmF f63 f64 f65 f66 (nI it) yr d (tbV it) (k + 1)).2)), (6, .int (nI (k + 1)))]) (ws2 := [oMdl X mtd (nI mtl) (nI mln) (nI mwn) (nI mdn) (nI mon) (nI mat) (nI mfr) (nI mlg) (nI mfd), kA X 63 40 f63, kA X 64 40 f64, kA X 65 40 f65, kA X 66 40 f66]) (st2 := []) ((congrArg (fun zq_ : Int32 => ([(0, .ref (xa X 46)), (1, .int (nI it)), (2, .int yr), (3, .int d), (4, .int zq_), (5, .int ((vmF f63 f64 f65 f66 (nI it) yr d (tbV it) k).2)), (6, .int (nI (k + 1)))] : List (Nat × Value))) (show ((vmF f63 f64 f65 f66 (nI it) yr d (tbV it) k).1 : Int32) = (vmF f63 f64 f65 f66 (nI it) yr d (tbV it) (k + 1)).1 from (by first | rfl | omega | (simp [vmF, c_2, c_7, c_16, c_39, c_50, c_61, c_72, c_84]; done) | (simp [vmF, c_2, c_7, c_16, c_39, c_50, c_61, c_72, c_84]; omega) | (simp [vmF, c_2, c_7, c_16, c_39, c_50, c_61, c_72, c_84]; intros; exfalso; omega) | grind [vmF]))).trans (congrArg (fun zq_ : Int32 => ([(0, .ref (xa X 46)), (1, .int (nI it)), (2, .int yr), (3, .int d), (4, .int ((vmF f63 f64 f65 f66 (nI it) yr d (tbV it) (k + 1)).1)), (5, .int zq_), (6, .int (nI (k + 1)))] : List (Nat × Value))) (show ((vmF f63 f64 f65 f66 (nI it) yr d (tbV it) k).2 : Int32) = (vmF f63 f64 f65 f66 (nI it) yr d (tbV it) (k + 1)).2 from (by first | rfl | omega | (simp [vmF, c_2, c_7, c_16, c_39, c_50, c_61, c_72, c_84]; done) | (simp [vmF, c_2, c_7, c_16, c_39, c_50, c_61, c_72, c_84]; omega) | (simp [vmF, c_2, c_7, c_16, c_39, c_50, c_61, c_72, c_84]; intros; exfalso; omega) | grind [vmF])))) rfl rfl ?_
                        exact ih_33 (k + 1) (by omega) (by omega)
                      · refine g_aload_n (pc' := 88) C dX10_valueOf_87 0 rfl rfl rfl ?_
                        refine g_get (pc' := 91) C hi_X10 0 22 rfl rfl (by decide) (List.mem_of_getElem? (i := 4) rfl) rfl dX10_valueOf_88 rfl ?_
                        refine g_iload (pc' := 93) C dX10_valueOf_91 6 rfl rfl ?_
                        refine g_iald (pc' := 94) C 2 k rfl rfl (by omega) (by decide) dX10_valueOf_93 rfl ?_
                        refine g_istore (pc' := 96) (lv' := [(5, .int (f64 k)), (0, .ref (xa X 46)), (1, .int (nI it)), (2, .int yr), (3, .int d), (4, .int ((vmF f63 f64 f65 f66 (nI it) yr d (tbV it) k).1)), (6, .int (nI k))]) C dX10_valueOf_94 (by decide) rfl rfl ?_
                        refine g_aload_n (pc' := 97) C dX10_valueOf_96 1 rfl rfl rfl ?_
                        refine g_get (pc' := 100) C hi_X10 0 23 rfl rfl (by decide) (List.mem_of_getElem? (i := 5) rfl) rfl dX10_valueOf_97 rfl ?_
                        refine g_iload (pc' := 102) C dX10_valueOf_100 6 rfl rfl ?_
                        refine g_iald (pc' := 103) C 3 k rfl rfl (by omega) (by decide) dX10_valueOf_102 rfl ?_
                        refine g_istore (pc' := 105) (lv' := [(4, .int (f65 k)), (5, .int (f64 k)), (0, .ref (xa X 46)), (1, .int (nI it)), (2, .int yr), (3, .int d), (6, .int (nI k))]) C dX10_valueOf_103 (by decide) rfl rfl ?_
                        refine g_iinc (pc' := 108) (v := nI (k + 1)) (lv' := [(6, .int (nI (k + 1))), (4, .int (f65 k)), (5, .int (f64 k)), (0, .ref (xa X 46)), (1, .int (nI it)), (2, .int yr), (3, .int d)]) C dX10_valueOf_105 6 rfl (nI_1 _) (by decide) rfl rfl ?_
                        refine g_goto (tgt := 33) C dX10_valueOf_108 (by decide) ?_
                        refine g_lv (lv2 := [(0, .ref (xa X 46)), (1, .int (nI it)), (2, .int yr), (3, .int d), (4, .int (f65 k)), (5, .int (f64 k)), (6, .int (nI (k + 1)))]) [3, 4, 5, 6, 1, 2, 0] rfl ?_
                        refine g_eq (lv2 := [(0, .ref (xa X 46)), (1, .int (nI it)), (2, .int yr), (3, .int d), (4, .int ((vmF f63 f64 f65 f66 (nI it) yr d (tbV it) (k + 1)).1)), (5, .int ((vmF f63 f64 f65 f66 (nI it) yr d (tbV it) (k + 1)).2)), (6, .int (nI (k + 1)))]) (ws2 := [oMdl X mtd (nI mtl) (nI mln) (nI mwn) (nI mdn) (nI mon) (nI mat) (nI mfr) (nI mlg) (nI mfd), kA X 63 40 f63, kA X 64 40 f64, kA X 65 40 f65, kA X 66 40 f66]) (st2 := []) ((congrArg (fun zq_ : Int32 => ([(0, .ref (xa X 46)), (1, .int (nI it)), (2, .int yr), (3, .int d), (4, .int zq_), (5, .int (f64 k)), (6, .int (nI (k + 1)))] : List (Nat × Value))) (show (f65 k : Int32) = (vmF f63 f64 f65 f66 (nI it) yr d (tbV it) (k + 1)).1 from (by first | rfl | omega | (simp [vmF, c_2, c_7, c_16, c_39, c_50, c_61, c_72, c_84]; done) | (simp [vmF, c_2, c_7, c_16, c_39, c_50, c_61, c_72, c_84]; omega) | (simp [vmF, c_2, c_7, c_16, c_39, c_50, c_61, c_72, c_84]; intros; exfalso; omega) | grind [vmF]))).trans (congrArg (fun zq_ : Int32 => ([(0, .ref (xa X 46)), (1, .int (nI it)), (2, .int yr), (3, .int d), (4, .int ((vmF f63 f64 f65 f66 (nI it) yr d (tbV it) (k + 1)).1)), (5, .int zq_), (6, .int (nI (k + 1)))] : List (Nat × Value))) (show (f64 k : Int32) = (vmF f63 f64 f65 f66 (nI it) yr d (tbV it) (k + 1)).2 from (by first | rfl | omega | (simp [vmF, c_2, c_7, c_16, c_39, c_50, c_61, c_72, c_84]; done) | (simp [vmF, c_2, c_7, c_16, c_39, c_50, c_61, c_72, c_84]; omega) | (simp [vmF, c_2, c_7, c_16, c_39, c_50, c_61, c_72, c_84]; intros; exfalso; omega) | grind [vmF])))) rfl rfl ?_
                        exact ih_33 (k + 1) (by omega) (by omega)
          refine g_lv (lv2 := [(0, .ref (xa X 46)), (1, .int (nI it)), (2, .int yr), (3, .int d), (4, .int (tbV it)), (5, .int (-1)), (6, .int 0)]) [3, 4, 5, 6, 2, 1, 0] rfl ?_
          refine g_eq (lv2 := [(0, .ref (xa X 46)), (1, .int (nI it)), (2, .int yr), (3, .int d), (4, .int ((vmF f63 f64 f65 f66 (nI it) yr d (tbV it) 0).1)), (5, .int ((vmF f63 f64 f65 f66 (nI it) yr d (tbV it) 0).2)), (6, .int 0)]) (ws2 := [oMdl X mtd (nI mtl) (nI mln) (nI mwn) (nI mdn) (nI mon) (nI mat) (nI mfr) (nI mlg) (nI mfd), kA X 63 40 f63, kA X 64 40 f64, kA X 65 40 f65, kA X 66 40 f66]) (st2 := []) ((congrArg (fun zq_ : Int32 => ([(0, .ref (xa X 46)), (1, .int (nI it)), (2, .int yr), (3, .int d), (4, .int zq_), (5, .int (-1)), (6, .int 0)] : List (Nat × Value))) (show (tbV it : Int32) = (vmF f63 f64 f65 f66 (nI it) yr d (tbV it) 0).1 from (by first | rfl | omega | (simp [vmF, c_2, c_7, c_16]; done) | (simp [vmF, c_2, c_7, c_16]; omega) | (simp [vmF, c_2, c_7, c_16]; intros; exfalso; omega) | grind [vmF]))).trans (congrArg (fun zq_ : Int32 => ([(0, .ref (xa X 46)), (1, .int (nI it)), (2, .int yr), (3, .int d), (4, .int ((vmF f63 f64 f65 f66 (nI it) yr d (tbV it) 0).1)), (5, .int zq_), (6, .int 0)] : List (Nat × Value))) (show ((-1) : Int32) = (vmF f63 f64 f65 f66 (nI it) yr d (tbV it) 0).2 from (by first | rfl | omega | (simp [vmF, c_2, c_7, c_16]; done) | (simp [vmF, c_2, c_7, c_16]; omega) | (simp [vmF, c_2, c_7, c_16]; intros; exfalso; omega) | grind [vmF])))) rfl rfl ?_
          exact lp_33 (mdn - 0 + 1) 0 (Nat.zero_le _) (by omega)
        refine g_eq (lv2 := [(0, .ref (xa X 46)), (1, .int (nI it)), (2, .int yr), (3, .int d)]) (ws2 := [oMdl X mtd (nI mtl) (nI mln) (nI mwn) (nI mdn) (nI mon) (nI mat) (nI mfr) (nI mlg) (nI mfd), kA X 63 40 f63, kA X 64 40 f64, kA X 65 40 f65, kA X 66 40 f66]) (st2 := [.int (tbV it)]) rfl rfl (congrArg (fun zq_ : Int32 => ([.int zq_] : List Value)) (show (0 : Int32) = tbV it from (by have h9 : it = 0 ∨ it = 1 ∨ it = 2 ∨ it = 3 ∨ it = 4 ∨ it = 5 := (by omega); rcases h9 with e | e | e | e | e | e <;> subst e <;> first | rfl | omega))) ?_
        exact jn_25  
    · refine g_iconst (pc' := 11) (v := 1) C dX10_valueOf_10 rfl rfl ?_
      refine g_goto (tgt := 25) C dX10_valueOf_11 (by decide) ?_
      have jn_25 : gG p l e ⟨0, 0, 0, 0⟩ s m args below meth c X A 7 0 0 (MQ below (QA X A (some (.int ((vmF f63 f64 f65 f66 (nI it) yr d (tbV it) mdn).1))) [oMdl X mtd (nI mtl) (nI mln) (nI mwn) (nI mdn) (nI mon) (nI mat) (nI mfr) (nI mlg) (nI mfd), kA X 63 40 f63, kA X 64 40 f64, kA X 65 40 f65, kA X 66 40 f66]) args s 0 0 A) [(0, .ref (xa X 46)), (1, .int (nI it)), (2, .int yr), (3, .int d)] [oMdl X mtd (nI mtl) (nI mln) (nI mwn) (nI mdn) (nI mon) (nI mat) (nI mfr) (nI mlg) (nI mfd), kA X 63 40 f63, kA X 64 40 f64, kA X 65 40 f65, kA X 66 40 f66] 25 [.int (tbV it)] := by
        refine g_istore (pc' := 27) (lv' := [(4, .int (tbV it)), (0, .ref (xa X 46)), (1, .int (nI it)), (2, .int yr), (3, .int d)]) C dX10_valueOf_25 (by decide) rfl rfl ?_
        refine g_iconst (pc' := 28) (v := (-1)) C dX10_valueOf_27 rfl rfl ?_
        refine g_istore (pc' := 30) (lv' := [(5, .int (-1)), (4, .int (tbV it)), (0, .ref (xa X 46)), (1, .int (nI it)), (2, .int yr), (3, .int d)]) C dX10_valueOf_28 (by decide) rfl rfl ?_
        refine g_iconst (pc' := 31) (v := 0) C dX10_valueOf_30 rfl rfl ?_
        refine g_istore (pc' := 33) (lv' := [(6, .int 0), (5, .int (-1)), (4, .int (tbV it)), (0, .ref (xa X 46)), (1, .int (nI it)), (2, .int yr), (3, .int d)]) C dX10_valueOf_31 (by decide) rfl rfl ?_
        have lp_33 : ∀ (n_33 : Nat) (k : Nat) (hk : k ≤ mdn) (hm_33 : mdn - k < n_33), gG p l e ⟨0, 0, 0, 0⟩ s m args below meth c X A 7 0 0 (MQ below (QA X A (some (.int ((vmF f63 f64 f65 f66 (nI it) yr d (tbV it) mdn).1))) [oMdl X mtd (nI mtl) (nI mln) (nI mwn) (nI mdn) (nI mon) (nI mat) (nI mfr) (nI mlg) (nI mfd), kA X 63 40 f63, kA X 64 40 f64, kA X 65 40 f65, kA X 66 40 f66]) args s 0 0 A) [(0, .ref (xa X 46)), (1, .int (nI it)), (2, .int yr), (3, .int d), (4, .int ((vmF f63 f64 f65 f66 (nI it) yr d (tbV it) k).1)), (5, .int ((vmF f63 f64 f65 f66 (nI it) yr d (tbV it) k).2)), (6, .int (nI k))] [oMdl X mtd (nI mtl) (nI mln) (nI mwn) (nI mdn) (nI mon) (nI mat) (nI mfr) (nI mlg) (nI mfd), kA X 63 40 f63, kA X 64 40 f64, kA X 65 40 f65, kA X 66 40 f66] 33 [] := by
          intro n_33
          induction n_33 with
          | zero => intro k hk hm_33; exact absurd hm_33 (Nat.not_lt_zero _)
          | succ n_33 ih_33 =>
            intro k hk hm_33
            refine g_iload (pc' := 35) C dX10_valueOf_33 6 rfl rfl ?_
            refine g_aload_n (pc' := 36) C dX10_valueOf_35 0 rfl rfl rfl ?_
            refine g_get (pc' := 39) C hi_X10 0 20 rfl rfl (by decide) (List.mem_of_getElem? (i := 1) rfl) rfl dX10_valueOf_36 rfl ?_
            refine g_icmp_geN (pc' := 42) (tgt := 111) C k mdn rfl rfl (by omega) (by omega) dX10_valueOf_39 (by decide) rfl (fun c_39 => ?_) (fun c_39 => ?_)
            · refine g_iload (pc' := 113) C dX10_valueOf_111 4 rfl rfl ?_
              exact g_iret C hr dX10_valueOf_113 (by rw [show k = mdn by omega]) rfl
            · refine g_aload_n (pc' := 43) C dX10_valueOf_42 0 rfl rfl rfl ?_
              refine g_get (pc' := 46) C hi_X10 0 21 rfl rfl (by decide) (List.mem_of_getElem? (i := 2) rfl) rfl dX10_valueOf_43 rfl ?_
              refine g_iload (pc' := 48) C dX10_valueOf_46 6 rfl rfl ?_
              refine g_iald (pc' := 49) C 1 k rfl rfl (by omega) (by decide) dX10_valueOf_48 rfl ?_
              refine g_iload_n (pc' := 50) C dX10_valueOf_49 1 rfl rfl rfl ?_
              refine g_icmp_ne (pc' := 53) (tgt := 105) C dX10_valueOf_50 (by decide) rfl (fun c_50 => ?_) (fun c_50 => ?_)
              · refine g_iinc (pc' := 108) (v := nI (k + 1)) (lv' := [(6, .int (nI (k + 1))), (0, .ref (xa X 46)), (1, .int (nI it)), (2, .int yr), (3, .int d), (4, .int ((vmF f63 f64 f65 f66 (nI it) yr d (tbV it) k).1)), (5, .int ((vmF f63 f64 f65 f66 (nI it) yr d (tbV it) k).2))]) C dX10_valueOf_105 6 rfl (nI_1 _) (by decide) rfl rfl ?_
                refine g_goto (tgt := 33) C dX10_valueOf_108 (by decide) ?_
                refine g_lv (lv2 := [(0, .ref (xa X 46)), (1, .int (nI it)), (2, .int yr), (3, .int d), (4, .int ((vmF f63 f64 f65 f66 (nI it) yr d (tbV it) k).1)), (5, .int ((vmF f63 f64 f65 f66 (nI it) yr d (tbV it) k).2)), (6, .int (nI (k + 1)))]) [1, 2, 3, 4, 5, 6, 0] rfl ?_
                refine g_eq (lv2 := [(0, .ref (xa X 46)), (1, .int (nI it)), (2, .int yr), (3, .int d), (4, .int ((vmF f63 f64 f65 f66 (nI it) yr d (tbV it) (k + 1)).1)), (5, .int ((vmF f63 f64 f65 f66 (nI it) yr d (tbV it) (k + 1)).2)), (6, .int (nI (k + 1)))]) (ws2 := [oMdl X mtd (nI mtl) (nI mln) (nI mwn) (nI mdn) (nI mon) (nI mat) (nI mfr) (nI mlg) (nI mfd), kA X 63 40 f63, kA X 64 40 f64, kA X 65 40 f65, kA X 66 40 f66]) (st2 := []) ((congrArg (fun zq_ : Int32 => ([(0, .ref (xa X 46)), (1, .int (nI it)), (2, .int yr), (3, .int d), (4, .int zq_), (5, .int ((vmF f63 f64 f65 f66 (nI it) yr d (tbV it) k).2)), (6, .int (nI (k + 1)))] : List (Nat × Value))) (show ((vmF f63 f64 f65 f66 (nI it) yr d (tbV it) k).1 : Int32) = (vmF f63 f64 f65 f66 (nI it) yr d (tbV it) (k + 1)).1 from (by first | rfl | omega | (simp [vmF, c_2, c_7, c_39, c_50]; done) | (simp [vmF, c_2, c_7, c_39, c_50]; omega) | (simp [vmF, c_2, c_7, c_39, c_50]; intros; exfalso; omega) | grind [vmF]))).trans (congrArg (fun zq_ : Int32 => ([(0, .ref (xa X 46)), (1, .int (nI it)), (2, .int yr), (3, .int d), (4, .int ((vmF f63 f64 f65 f66 (nI it) yr d (tbV it) (k + 1)).1)), (5, .int zq_), (6, .int (nI (k + 1)))] : List (Nat × Value))) (show ((vmF f63 f64 f65 f66 (nI it) yr d (tbV it) k).2 : Int32) = (vmF f63 f64 f65 f66 (nI it) yr d (tbV it) (k + 1)).2 from (by first | rfl | omega | (simp [vmF, c_2, c_7, c_39, c_50]; done) | (simp [vmF, c_2, c_7, c_39, c_50]; omega) | (simp [vmF, c_2, c_7, c_39, c_50]; intros; exfalso; omega) | grind [vmF])))) rfl rfl ?_
                exact ih_33 (k + 1) (by omega) (by omega)
              · refine g_aload_n (pc' := 54) C dX10_valueOf_53 0 rfl rfl rfl ?_
                refine g_get (pc' := 57) C hi_X10 0 24 rfl rfl (by decide) (List.mem_of_getElem? (i := 3) rfl) rfl dX10_valueOf_54 rfl ?_
                refine g_iload (pc' := 59) C dX10_valueOf_57 6 rfl rfl ?_
                refine g_iald (pc' := 60) C 4 k rfl rfl (by omega) (by decide) dX10_valueOf_59 rfl ?_
                refine g_iload_n (pc' := 61) C dX10_valueOf_60 3 rfl rfl rfl ?_
                refine g_icmp_gt (pc' := 64) (tgt := 105) C dX10_valueOf_61 (by decide) rfl (fun c_61 => ?_) (fun c_61 => ?_)
                · refine g_iinc (pc' := 108) (v := nI (k + 1)) (lv' := [(6, .int (nI (k + 1))), (0, .ref (xa X 46)), (1, .int (nI it)), (2, .int yr), (3, .int d), (4, .int ((vmF f63 f64 f65 f66 (nI it) yr d (tbV it) k).1)), (5, .int ((vmF f63 f64 f65 f66 (nI it) yr d (tbV it) k).2))]) C dX10_valueOf_105 6 rfl (nI_1 _) (by decide) rfl rfl ?_
                  refine g_goto (tgt := 33) C dX10_valueOf_108 (by decide) ?_
                  refine g_lv (lv2 := [(0, .ref (xa X 46)), (1, .int (nI it)), (2, .int yr), (3, .int d), (4, .int ((vmF f63 f64 f65 f66 (nI it) yr d (tbV it) k).1)), (5, .int ((vmF f63 f64 f65 f66 (nI it) yr d (tbV it) k).2)), (6, .int (nI (k + 1)))]) [1, 2, 3, 4, 5, 6, 0] rfl ?_
                  refine g_eq (lv2 := [(0, .ref (xa X 46)), (1, .int (nI it)), (2, .int yr), (3, .int d), (4, .int ((vmF f63 f64 f65 f66 (nI it) yr d (tbV it) (k + 1)).1)), (5, .int ((vmF f63 f64 f65 f66 (nI it) yr d (tbV it) (k + 1)).2)), (6, .int (nI (k + 1)))]) (ws2 := [oMdl X mtd (nI mtl) (nI mln) (nI mwn) (nI mdn) (nI mon) (nI mat) (nI mfr) (nI mlg) (nI mfd), kA X 63 40 f63, kA X 64 40 f64, kA X 65 40 f65, kA X 66 40 f66]) (st2 := []) ((congrArg (fun zq_ : Int32 => ([(0, .ref (xa X 46)), (1, .int (nI it)), (2, .int yr), (3, .int d), (4, .int zq_), (5, .int ((vmF f63 f64 f65 f66 (nI it) yr d (tbV it) k).2)), (6, .int (nI (k + 1)))] : List (Nat × Value))) (show ((vmF f63 f64 f65 f66 (nI it) yr d (tbV it) k).1 : Int32) = (vmF f63 f64 f65 f66 (nI it) yr d (tbV it) (k + 1)).1 from (by first | rfl | omega | (simp [vmF, c_2, c_7, c_39, c_50, c_61]; done) | (simp [vmF, c_2, c_7, c_39, c_50, c_61]; omega) | (simp [vmF, c_2, c_7, c_39, c_50, c_61]; intros; exfalso; omega) | grind [vmF]))).trans (congrArg (fun zq_ : Int32 => ([(0, .ref (xa X 46)), (1, .int (nI it)), (2, .int yr), (3, .int d), (4, .int ((vmF f63 f64 f65 f66 (nI it) yr d (tbV it) (k + 1)).1)), (5, .int zq_), (6, .int (nI (k + 1)))] : List (Nat × Value))) (show ((vmF f63 f64 f65 f66 (nI it) yr d (tbV it) k).2 : Int32) = (vmF f63 f64 f65 f66 (nI it) yr d (tbV it) (k + 1)).2 from (by first | rfl | omega | (simp [vmF, c_2, c_7, c_39, c_50, c_61]; done) | (simp [vmF, c_2, c_7, c_39, c_50, c_61]; omega) | (simp [vmF, c_2, c_7, c_39, c_50, c_61]; intros; exfalso; omega) | grind [vmF])))) rfl rfl ?_
                  exact ih_33 (k + 1) (by omega) (by omega)
                · refine g_aload_n (pc' := 65) C dX10_valueOf_64 0 rfl rfl rfl ?_
                  refine g_get (pc' := 68) C hi_X10 0 22 rfl rfl (by decide) (List.mem_of_getElem? (i := 4) rfl) rfl dX10_valueOf_65 rfl ?_
                  refine g_iload (pc' := 70) C dX10_valueOf_68 6 rfl rfl ?_
                  refine g_iald (pc' := 71) C 2 k rfl rfl (by omega) (by decide) dX10_valueOf_70 rfl ?_
                  refine g_iload_n (pc' := 72) C dX10_valueOf_71 2 rfl rfl rfl ?_
                  refine g_icmp_gt (pc' := 75) (tgt := 105) C dX10_valueOf_72 (by decide) rfl (fun c_72 => ?_) (fun c_72 => ?_)
                  · refine g_iinc (pc' := 108) (v := nI (k + 1)) (lv' := [(6, .int (nI (k + 1))), (0, .ref (xa X 46)), (1, .int (nI it)), (2, .int yr), (3, .int d), (4, .int ((vmF f63 f64 f65 f66 (nI it) yr d (tbV it) k).1)), (5, .int ((vmF f63 f64 f65 f66 (nI it) yr d (tbV it) k).2))]) C dX10_valueOf_105 6 rfl (nI_1 _) (by decide) rfl rfl ?_
                    refine g_goto (tgt := 33) C dX10_valueOf_108 (by decide) ?_
                    refine g_lv (lv2 := [(0, .ref (xa X 46)), (1, .int (nI it)), (2, .int yr), (3, .int d), (4, .int ((vmF f63 f64 f65 f66 (nI it) yr d (tbV it) k).1)), (5, .int ((vmF f63 f64 f65 f66 (nI it) yr d (tbV it) k).2)), (6, .int (nI (k + 1)))]) [1, 2, 3, 4, 5, 6, 0] rfl ?_
                    refine g_eq (lv2 := [(0, .ref (xa X 46)), (1, .int (nI it)), (2, .int yr), (3, .int d), (4, .int ((vmF f63 f64 f65 f66 (nI it) yr d (tbV it) (k + 1)).1)), (5, .int ((vmF f63 f64 f65 f66 (nI it) yr d (tbV it) (k + 1)).2)), (6, .int (nI (k + 1)))]) (ws2 := [oMdl X mtd (nI mtl) (nI mln) (nI mwn) (nI mdn) (nI mon) (nI mat) (nI mfr) (nI mlg) (nI mfd), kA X 63 40 f63, kA X 64 40 f64, kA X 65 40 f65, kA X 66 40 f66]) (st2 := []) ((congrArg (fun zq_ : Int32 => ([(0, .ref (xa X 46)), (1, .int (nI it)), (2, .int yr), (3, .int d), (4, .int zq_), (5, .int ((vmF f63 f64 f65 f66 (nI it) yr d (tbV it) k).2)), (6, .int (nI (k + 1)))] : List (Nat × Value))) (show ((vmF f63 f64 f65 f66 (nI it) yr d (tbV it) k).1 : Int32) = (vmF f63 f64 f65 f66 (nI it) yr d (tbV it) (k + 1)).1 from (by first | rfl | omega | (simp [vmF, c_2, c_7, c_39, c_50, c_61, c_72]; done) | (simp [vmF, c_2, c_7, c_39, c_50, c_61, c_72]; omega) | (simp [vmF, c_2, c_7, c_39, c_50, c_61, c_72]; intros; exfalso; omega) | grind [vmF]))).trans (congrArg (fun zq_ : Int32 => ([(0, .ref (xa X 46)), (1, .int (nI it)), (2, .int yr), (3, .int d), (4, .int ((vmF f63 f64 f65 f66 (nI it) yr d (tbV it) (k + 1)).1)), (5, .int zq_), (6, .int (nI (k + 1)))] : List (Nat × Value))) (show ((vmF f63 f64 f65 f66 (nI it) yr d (tbV it) k).2 : Int32) = (vmF f63 f64 f65 f66 (nI it) yr d (tbV it) (k + 1)).2 from (by first | rfl | omega | (simp [vmF, c_2, c_7, c_39, c_50, c_61, c_72]; done) | (simp [vmF, c_2, c_7, c_39, c_50, c_61, c_72]; omega) | (simp [vmF, c_2, c_7, c_39, c_50, c_61, c_72]; intros; exfalso; omega) | grind [vmF])))) rfl rfl ?_
                    exact ih_33 (k + 1) (by omega) (by omega)
                  · refine g_aload_n (pc' := 76) C dX10_valueOf_75 0 rfl rfl rfl ?_
                    refine g_get (pc' := 79) C hi_X10 0 22 rfl rfl (by decide) (List.mem_of_getElem? (i := 4) rfl) rfl dX10_valueOf_76 rfl ?_
                    refine g_iload (pc' := 81) C dX10_valueOf_79 6 rfl rfl ?_
                    refine g_iald (pc' := 82) C 2 k rfl rfl (by omega) (by decide) dX10_valueOf_81 rfl ?_
                    refine g_iload (pc' := 84) C dX10_valueOf_82 5 rfl rfl ?_
                    refine g_icmp_lt (pc' := 87) (tgt := 105) C dX10_valueOf_84 (by decide) rfl (fun c_84 => ?_) (fun c_84 => ?_)
                    · refine g_iinc (pc' := 108) (v := nI (k + 1)) (lv' := [(6, .int (nI (k + 1))), (0, .ref (xa X 46)), (1, .int (nI it)), (2, .int yr), (3, .int d), (4, .int ((vmF f63 f64 f65 f66 (nI it) yr d (tbV it) k).1)), (5, .int ((vmF f63 f64 f65 f66 (nI it) yr d (tbV it) k).2))]) C dX10_valueOf_105 6 rfl (nI_1 _) (by decide) rfl rfl ?_
                      refine g_goto (tgt := 33) C dX10_valueOf_108 (by decide) ?_
                      refine g_lv (lv2 := [(0, .ref (xa X 46)), (1, .int (nI it)), (2, .int yr), (3, .int d), (4, .int ((vmF f63 f64 f65 f66 (nI it) yr d (tbV it) k).1)), (5, .int ((vmF f63 f64 f65 f66 (nI it) yr d (tbV it) k).2)), (6, .int (nI (k + 1)))]) [1, 2, 3, 4, 5, 6, 0] rfl ?_
                      refine g_eq (lv2 := [(0, .ref (xa X 46)), (1, .int (nI it)), (2, .int yr), (3, .int d), (4, .int ((vmF f63 f64 f65 f66 (nI it) yr d (tbV it) (k + 1)).1)), (5, .int ((vmF f63 f64 f65 f66 (nI it) yr d (tbV it) (k + 1)).2)), (6, .int (nI (k + 1)))]) (ws2 := [oMdl X mtd (nI mtl) (nI mln) (nI mwn) (nI mdn) (nI mon) (nI mat) (nI mfr) (nI mlg) (nI mfd), kA X 63 40 f63, kA X 64 40 f64, kA X 65 40 f65, kA X 66 40 f66]) (st2 := []) ((congrArg (fun zq_ : Int32 => ([(0, .ref (xa X 46)), (1, .int (nI it)), (2, .int yr), (3, .int d), (4, .int zq_), (5, .int ((vmF f63 f64 f65 f66 (nI it) yr d (tbV it) k).2)), (6, .int (nI (k + 1)))] : List (Nat × Value))) (show ((vmF f63 f64 f65 f66 (nI it) yr d (tbV it) k).1 : Int32) = (vmF f63 f64 f65 f66 (nI it) yr d (tbV it) (k + 1)).1 from (by first | rfl | omega | (simp [vmF, c_2, c_7, c_39, c_50, c_61, c_72, c_84]; done) | (simp [vmF, c_2, c_7, c_39, c_50, c_61, c_72, c_84]; omega) | (simp [vmF, c_2, c_7, c_39, c_50, c_61, c_72, c_84]; intros; exfalso; omega) | grind [vmF]))).trans (congrArg (fun zq_ : Int32 => ([(0, .ref (xa X 46)), (1, .int (nI it)), (2, .int yr), (3, .int d), (4, .int ((vmF f63 f64 f65 f66 (nI it) yr d (tbV it) (k + 1)).1)), (5, .int zq_), (6, .int (nI (k + 1)))] : List (Nat × Value))) (show ((vmF f63 f64 f65 f66 (nI it) yr d (tbV it) k).2 : Int32) = (vmF f63 f64 f65 f66 (nI it) yr d (tbV it) (k + 1)).2 from (by first | rfl | omega | (simp [vmF, c_2, c_7, c_39, c_50, c_61, c_72, c_84]; done) | (simp [vmF, c_2, c_7, c_39, c_50, c_61, c_72, c_84]; omega) | (simp [vmF, c_2, c_7, c_39, c_50, c_61, c_72, c_84]; intros; exfalso; omega) | grind [vmF])))) rfl rfl ?_
                      exact ih_33 (k + 1) (by omega) (by omega)
                    · refine g_aload_n (pc' := 88) C dX10_valueOf_87 0 rfl rfl rfl ?_
                      refine g_get (pc' := 91) C hi_X10 0 22 rfl rfl (by decide) (List.mem_of_getElem? (i := 4) rfl) rfl dX10_valueOf_88 rfl ?_
                      refine g_iload (pc' := 93) C dX10_valueOf_91 6 rfl rfl ?_
                      refine g_iald (pc' := 94) C 2 k rfl rfl (by omega) (by decide) dX10_valueOf_93 rfl ?_
                      refine g_istore (pc' := 96) (lv' := [(5, .int (f64 k)), (0, .ref (xa X 46)), (1, .int (nI it)), (2, .int yr), (3, .int d), (4, .int ((vmF f63 f64 f65 f66 (nI it) yr d (tbV it) k).1)), (6, .int (nI k))]) C dX10_valueOf_94 (by decide) rfl rfl ?_
                      refine g_aload_n (pc' := 97) C dX10_valueOf_96 1 rfl rfl rfl ?_
                      refine g_get (pc' := 100) C hi_X10 0 23 rfl rfl (by decide) (List.mem_of_getElem? (i := 5) rfl) rfl dX10_valueOf_97 rfl ?_
                      refine g_iload (pc' := 102) C dX10_valueOf_100 6 rfl rfl ?_
                      refine g_iald (pc' := 103) C 3 k rfl rfl (by omega) (by decide) dX10_valueOf_102 rfl ?_
                      refine g_istore (pc' := 105) (lv' := [(4, .int (f65 k)), (5, .int (f64 k)), (0, .ref (xa X 46)), (1, .int (nI it)), (2, .int yr), (3, .int d), (6, .int (nI k))]) C dX10_valueOf_103 (by decide) rfl rfl ?_
                      refine g_iinc (pc' := 108) (v := nI (k + 1)) (lv' := [(6, .int (nI (k + 1))), (4, .int (f65 k)), (5, .int (f64 k)), (0, .ref (xa X 46)), (1, .int (nI it)), (2, .int yr), (3, .int d)]) C dX10_valueOf_105 6 rfl (nI_1 _) (by decide) rfl rfl ?_
                      refine g_goto (tgt := 33) C dX10_valueOf_108 (by decide) ?_
                      refine g_lv (lv2 := [(0, .ref (xa X 46)), (1, .int (nI it)), (2, .int yr), (3, .int d), (4, .int (f65 k)), (5, .int (f64 k)), (6, .int (nI (k + 1)))]) [3, 4, 5, 6, 1, 2, 0] rfl ?_
                      refine g_eq (lv2 := [(0, .ref (xa X 46)), (1, .int (nI it)), (2, .int yr), (3, .int d), (4, .int ((vmF f63 f64 f65 f66 (nI it) yr d (tbV it) (k + 1)).1)), (5, .int ((vmF f63 f64 f65 f66 (nI it) yr d (tbV it) (k + 1)).2)), (6, .int (nI (k + 1)))]) (ws2 := [oMdl X mtd (nI mtl) (nI mln) (nI mwn) (nI mdn) (nI mon) (nI mat) (nI mfr) (nI mlg) (nI mfd), kA X 63 40 f63, kA X 64 40 f64, kA X 65 40 f65, kA X 66 40 f66]) (st2 := []) ((congrArg (fun zq_ : Int32 => ([(0, .ref (xa X 46)), (1, .int (nI it)), (2, .int yr), (3, .int d), (4, .int zq_), (5, .int (f64 k)), (6, .int (nI (k + 1)))] : List (Nat × Value))) (show (f65 k : Int32) = (vmF f63 f64 f65 f66 (nI it) yr d (tbV it) (k + 1)).1 from (by first | rfl | omega | (simp [vmF, c_2, c_7, c_39, c_50, c_61, c_72, c_84]; done) | (simp [vmF, c_2, c_7, c_39, c_50, c_61, c_72, c_84]; omega) | (simp [vmF, c_2, c_7, c_39, c_50, c_61, c_72, c_84]; intros; exfalso; omega) | grind [vmF]))).trans (congrArg (fun zq_ : Int32 => ([(0, .ref (xa X 46)), (1, .int (nI it)), (2, .int yr), (3, .int d), (4, .int ((vmF f63 f64 f65 f66 (nI it) yr d (tbV it) (k + 1)).1)), (5, .int zq_), (6, .int (nI (k + 1)))] : List (Nat × Value))) (show (f64 k : Int32) = (vmF f63 f64 f65 f66 (nI it) yr d (tbV it) (k + 1)).2 from (by first | rfl | omega | (simp [vmF, c_2, c_7, c_39, c_50, c_61, c_72, c_84]; done) | (simp [vmF, c_2, c_7, c_39, c_50, c_61, c_72, c_84]; omega) | (simp [vmF, c_2, c_7, c_39, c_50, c_61, c_72, c_84]; intros; exfalso; omega) | grind [vmF])))) rfl rfl ?_
                      exact ih_33 (k + 1) (by omega) (by omega)
        refine g_lv (lv2 := [(0, .ref (xa X 46)), (1, .int (nI it)), (2, .int yr), (3, .int d), (4, .int (tbV it)), (5, .int (-1)), (6, .int 0)]) [3, 4, 5, 6, 2, 1, 0] rfl ?_
        refine g_eq (lv2 := [(0, .ref (xa X 46)), (1, .int (nI it)), (2, .int yr), (3, .int d), (4, .int ((vmF f63 f64 f65 f66 (nI it) yr d (tbV it) 0).1)), (5, .int ((vmF f63 f64 f65 f66 (nI it) yr d (tbV it) 0).2)), (6, .int 0)]) (ws2 := [oMdl X mtd (nI mtl) (nI mln) (nI mwn) (nI mdn) (nI mon) (nI mat) (nI mfr) (nI mlg) (nI mfd), kA X 63 40 f63, kA X 64 40 f64, kA X 65 40 f65, kA X 66 40 f66]) (st2 := []) ((congrArg (fun zq_ : Int32 => ([(0, .ref (xa X 46)), (1, .int (nI it)), (2, .int yr), (3, .int d), (4, .int zq_), (5, .int (-1)), (6, .int 0)] : List (Nat × Value))) (show (tbV it : Int32) = (vmF f63 f64 f65 f66 (nI it) yr d (tbV it) 0).1 from (by first | rfl | omega | (simp [vmF, c_2, c_7]; done) | (simp [vmF, c_2, c_7]; omega) | (simp [vmF, c_2, c_7]; intros; exfalso; omega) | grind [vmF]))).trans (congrArg (fun zq_ : Int32 => ([(0, .ref (xa X 46)), (1, .int (nI it)), (2, .int yr), (3, .int d), (4, .int ((vmF f63 f64 f65 f66 (nI it) yr d (tbV it) 0).1)), (5, .int zq_), (6, .int 0)] : List (Nat × Value))) (show ((-1) : Int32) = (vmF f63 f64 f65 f66 (nI it) yr d (tbV it) 0).2 from (by first | rfl | omega | (simp [vmF, c_2, c_7]; done) | (simp [vmF, c_2, c_7]; omega) | (simp [vmF, c_2, c_7]; intros; exfalso; omega) | grind [vmF])))) rfl rfl ?_
        exact lp_33 (mdn - 0 + 1) 0 (Nat.zero_le _) (by omega)
      refine g_eq (lv2 := [(0, .ref (xa X 46)), (1, .int (nI it)), (2, .int yr), (3, .int d)]) (ws2 := [oMdl X mtd (nI mtl) (nI mln) (nI mwn) (nI mdn) (nI mon) (nI mat) (nI mfr) (nI mlg) (nI mfd), kA X 63 40 f63, kA X 64 40 f64, kA X 65 40 f65, kA X 66 40 f66]) (st2 := [.int (tbV it)]) rfl rfl (congrArg (fun zq_ : Int32 => ([.int zq_] : List Value)) (show (1 : Int32) = tbV it from (by have h9 : it = 0 ∨ it = 1 ∨ it = 2 ∨ it = 3 ∨ it = 4 ∨ it = 5 := (by omega); rcases h9 with e | e | e | e | e | e <;> subst e <;> first | rfl | omega))) ?_
      exact jn_25  

set_option maxHeartbeats 1000000 in
set_option maxRecDepth 20000 in
theorem c_X10_holds (l : Launch) (X : gX) (mtd : Int32) (mtl : Nat) (mln : Nat) (mwn : Nat) (mdn : Nat) (mon : Nat) (mat : Nat) (mfr : Nat) (mlg : Nat) (mfd : Nat) (f63 : Nat → Int32) (f64 : Nat → Int32) (f65 : Nat → Int32) (f66 : Nat → Int32) (i : Int32) (y : Int32) (d : Int32) (hdn : mdn ≤ 40) : KC l yX10_holds wsX10_holds ⟨2, 0, 0, 42⟩ [.ref (xa X 46), .int i, .int y, .int d] X [oMdl X mtd (nI mtl) (nI mln) (nI mwn) (nI mdn) (nI mon) (nI mat) (nI mfr) (nI mlg) (nI mfd), kA X 63 40 f63, kA X 64 40 f64, kA X 65 40 f65, kA X 66 40 f66] (some (.int (hoR f63 f64 f65 f66 mdn i y d))) [oMdl X mtd (nI mtl) (nI mln) (nI mwn) (nI mdn) (nI mon) (nI mat) (nI mfr) (nI mlg) (nI mfd), kA X 63 40 f63, kA X 64 40 f64, kA X 65 40 f65, kA X 66 40 f66] := by
  have hi_X10 : ∀ w ∈ u_ws RX10 TX10 41, w ∈ wsX10_holds := fun w h => List.mem_cons_of_mem _ (List.mem_append_right _ h)
  refine KC.of cX10_holds 4 (some .int) RX10 rfl (by decide) rfl (lv := [(0, .ref (xa X 46)), (1, .int i), (2, .int y), (3, .int d)]) rfl (Nat.le_of_ble_eq_true rfl) ?_
  intro p e s m args below meth c A C hr
  refine g_iload_n (pc' := 1) C dX10_holds_0 1 rfl rfl rfl ?_
  refine g_iconst (pc' := 2) (v := 0) C dX10_holds_1 rfl rfl ?_
  refine g_iconst (pc' := 3) (v := 5) C dX10_holds_2 rfl rfl ?_
  refine g_callS (pc' := 6) (st := []) (ws2 := [oMdl X mtd (nI mtl) (nI mln) (nI mwn) (nI mdn) (nI mon) (nI mat) (nI mfr) (nI mlg) (nI mfd), kA X 63 40 f63, kA X 64 40 f64, kA X 65 40 f65, kA X 66 40 f66]) C [.int i, .int 0, .int 5] 3 rfl (c_X10_isIn l X i 0 5 ) [] [0, 1, 2, 3, 4] [0, 1, 2, 3, 4] gX10_holds_X10_isIn rfl ⟨rfl, rfl⟩ (by decide +kernel) ⟨by decide, by decide⟩ ⟨by decide, by decide⟩ rfl (wr := [oMdl X mtd (nI mtl) (nI mln) (nI mwn) (nI mdn) (nI mon) (nI mat) (nI mfr) (nI mlg) (nI mfd), kA X 63 40 f63, kA X 64 40 f64, kA X 65 40 f65, kA X 66 40 f66]) rfl ⟨by decide, by decide, by decide, by decide⟩ rfl (Nat.le_of_ble_eq_true rfl) dX10_holds_3 rfl rfl ?_
  by_cases b_3 : 0 ≤ i ∧ i ≤ 5
  · refine g_top (bz_t b_3) ?_
    refine g_if_eq (pc' := 9) (tgt := 33) C dX10_holds_6 (by decide) rfl (fun h => absurd h (by decide)) (fun _ => ?_)
    refine g_iload_n (pc' := 10) C dX10_holds_9 2 rfl rfl rfl ?_
    refine g_callS (pc' := 13) (st := []) (ws2 := [oMdl X mtd (nI mtl) (nI mln) (nI mwn) (nI mdn) (nI mon) (nI mat) (nI mfr) (nI mlg) (nI mfd), kA X 63 40 f63, kA X 64 40 f64, kA X 65 40 f65, kA X 66 40 f66]) C [.int y] 1 rfl (c_X10_isYear l X y ) [] [0, 1, 2, 3, 4] [0, 1, 2, 3, 4] gX10_holds_X10_isYear rfl ⟨rfl, rfl⟩ (by decide +kernel) ⟨by decide, by decide⟩ ⟨by decide, by decide⟩ rfl (wr := [oMdl X mtd (nI mtl) (nI mln) (nI mwn) (nI mdn) (nI mon) (nI mat) (nI mfr) (nI mlg) (nI mfd), kA X 63 40 f63, kA X 64 40 f64, kA X 65 40 f65, kA X 66 40 f66]) rfl ⟨by decide, by decide, by decide, by decide⟩ rfl (Nat.le_of_ble_eq_true rfl) dX10_holds_10 rfl rfl ?_
    by_cases b_10 : 0 ≤ y ∧ y ≤ 30
    · refine g_top (bz_t b_10) ?_
      refine g_if_eq (pc' := 16) (tgt := 33) C dX10_holds_13 (by decide) rfl (fun h => absurd h (by decide)) (fun _ => ?_)
      refine g_iload_n (pc' := 17) C dX10_holds_16 3 rfl rfl rfl ?_
      refine g_callS (pc' := 20) (st := []) (ws2 := [oMdl X mtd (nI mtl) (nI mln) (nI mwn) (nI mdn) (nI mon) (nI mat) (nI mfr) (nI mlg) (nI mfd), kA X 63 40 f63, kA X 64 40 f64, kA X 65 40 f65, kA X 66 40 f66]) C [.int d] 1 rfl (c_X10_isDay l X d ) [] [0, 1, 2, 3, 4] [0, 1, 2, 3, 4] gX10_holds_X10_isDay rfl ⟨rfl, rfl⟩ (by decide +kernel) ⟨by decide, by decide⟩ ⟨by decide, by decide⟩ rfl (wr := [oMdl X mtd (nI mtl) (nI mln) (nI mwn) (nI mdn) (nI mon) (nI mat) (nI mfr) (nI mlg) (nI mfd), kA X 63 40 f63, kA X 64 40 f64, kA X 65 40 f65, kA X 66 40 f66]) rfl ⟨by decide, by decide, by decide, by decide⟩ rfl (Nat.le_of_ble_eq_true rfl) dX10_holds_17 rfl rfl ?_
      by_cases b_17 : 0 ≤ d ∧ d ≤ 100000
      · refine g_top (bz_t b_17) ?_
        refine g_if_eq (pc' := 23) (tgt := 33) C dX10_holds_20 (by decide) rfl (fun h => absurd h (by decide)) (fun _ => ?_)
        refine g_aload_n (pc' := 24) C dX10_holds_23 0 rfl rfl rfl ?_
        have ok0 := okN_le (m := 5) b_3.1 b_3.2 (by decide) (by decide)
        have ok1 := ok0.2
        refine g_iload_n (pc' := 25) C dX10_holds_24 1 rfl rfl rfl ?_
        refine g_top (y := nI (cN i)) ok0.1 ?_
        refine g_iload_n (pc' := 26) C dX10_holds_25 2 rfl rfl rfl ?_
        refine g_iload_n (pc' := 27) C dX10_holds_26 3 rfl rfl rfl ?_
        refine g_callV (pc' := 30) (st := []) (ws2 := [oMdl X mtd (nI mtl) (nI mln) (nI mwn) (nI mdn) (nI mon) (nI mat) (nI mfr) (nI mlg) (nI mfd), kA X 63 40 f63, kA X 64 40 f64, kA X 65 40 f65, kA X 66 40 f66]) C [.int (nI (cN i)), .int y, .int d] 3 rfl (c_X10_valueOf l X mtd mtl mln mwn mdn mon mat mfr mlg mfd f63 f64 f65 f66 (cN i) y d (by first | assumption | omega) (by first | assumption | omega)) [0, 1, 2, 3, 4] [] [0, 1, 2, 3, 4] gX10_holds_X10_valueOf 0 rfl rfl rfl ⟨rfl, rfl⟩ (by decide +kernel) ⟨by decide, by decide⟩ ⟨by decide, by decide⟩ rfl (wr := []) rfl ⟨by decide, by decide, by decide, by decide⟩ rfl (Nat.le_of_ble_eq_true rfl) dX10_holds_27 rfl rfl ?_
        refine g_goto (tgt := 35) C dX10_holds_30 (by decide) ?_
        exact g_iret C hr dX10_holds_35 (by first | rfl | omega | (simp [hoR, b_3, b_10, b_17]; done) | (simp [hoR, b_3, b_10, b_17]; omega) | (simp [hoR, b_3, b_10, b_17]; intros; exfalso; omega) | grind [hoR]) rfl
      · refine g_top (bz_f b_17) ?_
        refine g_if_eq (pc' := 23) (tgt := 33) C dX10_holds_20 (by decide) rfl (fun _ => ?_) (fun h => absurd h (by decide))
        refine g_ldc (pc' := 35) (v := (-1000000001)) C (List.mem_of_getElem? (i := 1) rfl) dX10_holds_33 rfl ?_
        exact g_iret C hr dX10_holds_35 (by first | rfl | omega | (simp [hoR, b_3, b_10, b_17]; done) | (simp [hoR, b_3, b_10, b_17]; omega) | (simp [hoR, b_3, b_10, b_17]; intros; exfalso; omega) | grind [hoR]) rfl
    · refine g_top (bz_f b_10) ?_
      refine g_if_eq (pc' := 16) (tgt := 33) C dX10_holds_13 (by decide) rfl (fun _ => ?_) (fun h => absurd h (by decide))
      refine g_ldc (pc' := 35) (v := (-1000000001)) C (List.mem_of_getElem? (i := 1) rfl) dX10_holds_33 rfl ?_
      exact g_iret C hr dX10_holds_35 (by first | rfl | omega | (simp [hoR, b_3, b_10]; done) | (simp [hoR, b_3, b_10]; omega) | (simp [hoR, b_3, b_10]; intros; exfalso; omega) | grind [hoR]) rfl
  · refine g_top (bz_f b_3) ?_
    refine g_if_eq (pc' := 9) (tgt := 33) C dX10_holds_6 (by decide) rfl (fun _ => ?_) (fun h => absurd h (by decide))
    refine g_ldc (pc' := 35) (v := (-1000000001)) C (List.mem_of_getElem? (i := 1) rfl) dX10_holds_33 rfl ?_
    exact g_iret C hr dX10_holds_35 (by first | rfl | omega | (simp [hoR, b_3]; done) | (simp [hoR, b_3]; omega) | (simp [hoR, b_3]; intros; exfalso; omega) | grind [hoR]) rfl

