def bz (P : Prop) [Decidable P] : Int32 := if P then 1 else 0
theorem bz_t {P : Prop} [Decidable P] (h : P) : bz P = 1 := if_pos h
theorem bz_f {P : Prop} [Decidable P] (h : ¬ P) : bz P = 0 := if_neg h
theorem bz_nar (P : Prop) [Decidable P] : narrow .boolean (.int (bz P)) = .int (bz P) := by unfold bz; split <;> rfl
def jshr (x y : Int32) : Int32 := x >>> (y &&& 31)
def jushr (x y : Int32) : Int32 := (x.toUInt32 >>> (y.toUInt32 &&& Int32.toUInt32 31)).toInt32
abbrev oHall (X : gX) : Nat × va_E := (xa X 0, .inr (9, [.ref (xa X 1), .ref (xa X 2), .ref (xa X 3), .ref (xa X 4), .ref (xa X 5), .ref (xa X 6), .ref (xa X 7), .ref (xa X 8), .ref (xa X 9), .ref (xa X 45)]))
abbrev oCal (X : gX) (cg td : Int32) : Nat × va_E := (xa X 1, .inr (0, [.ref (xa X 10), .int cg, .int td]))
abbrev oPlt (X : gX) : Nat × va_E := (xa X 2, .inr (4, [.ref (xa X 27), .ref (xa X 28)]))
abbrev oTap (X : gX) (tl : Int32) : Nat × va_E := (xa X 3, .inr (7, [.ref (xa X 38), .int tl]))
abbrev oRdr (X : gX) (rc ts te ft : Int32) : Nat × va_E := (xa X 4, .inr (5, [.ref (xa X 3), .ref (xa X 29), .ref (xa X 30), .ref (xa X 31), .int rc, .int ts, .int te, .int ft]))
abbrev oLns (X : gX) (ln : Int32) : Nat × va_E := (xa X 5, .inr (2, [.ref (xa X 15), .ref (xa X 16), .ref (xa X 17), .ref (xa X 18), .ref (xa X 19), .ref (xa X 20), .ref (xa X 21), .ref (xa X 22), .int ln]))
abbrev oWds (X : gX) (wn : Int32) : Nat × va_E := (xa X 6, .inr (8, [.ref (xa X 39), .ref (xa X 40), .ref (xa X 41), .ref (xa X 42), .ref (xa X 43), .ref (xa X 44), .int wn]))
abbrev oDcr (X : gX) (dn : Int32) : Nat × va_E := (xa X 7, .inr (1, [.ref (xa X 11), .ref (xa X 12), .ref (xa X 13), .ref (xa X 14), .int dn]))
abbrev oRck (X : gX) : Nat × va_E := (xa X 8, .inr (6, [.ref (xa X 2), .ref (xa X 5), .ref (xa X 6), .ref (xa X 7), .ref (xa X 32), .ref (xa X 33), .ref (xa X 34), .ref (xa X 35), .ref (xa X 36), .ref (xa X 37)]))
abbrev oLon (X : gX) (on : Int32) : Nat × va_E := (xa X 9, .inr (3, [.ref (xa X 23), .ref (xa X 24), .ref (xa X 25), .ref (xa X 26), .int on]))
abbrev oMdl (X : gX) (mtd mtl mln mwn mdn mon mat mfr mlg mfd : Int32) : Nat × va_E := (xa X 46, .inr (10, [.int mtd, .ref (xa X 47), .ref (xa X 48), .ref (xa X 49), .int mtl, .int mln, .ref (xa X 50), .ref (xa X 51), .ref (xa X 52), .ref (xa X 53), .ref (xa X 54), .ref (xa X 55), .ref (xa X 56), .ref (xa X 57), .ref (xa X 58), .int mwn, .ref (xa X 59), .ref (xa X 60), .ref (xa X 61), .ref (xa X 62), .int mdn, .ref (xa X 63), .ref (xa X 64), .ref (xa X 65), .ref (xa X 66), .int mon, .ref (xa X 67), .ref (xa X 68), .ref (xa X 69), .int mat, .int mfr, .int mlg, .int mfd, .ref (xa X 70), .ref (xa X 71), .ref (xa X 72), .ref (xa X 73), .ref (xa X 74), .ref (xa X 75), .ref (xa X 76), .ref (xa X 77)]))

set_option maxHeartbeats 1000000 in
set_option maxRecDepth 20000 in
theorem c_X9_isWithin (l : Launch) (X : gX) (x : Int32) (a : Int32) (b : Int32) : KC l yX9_isWithin wsX9_isWithin ⟨0, 0, 0, 0⟩ [.int x, .int a, .int b] X [] (some (.int (bz (a ≤ x ∧ x ≤ b)))) [] := by
  refine KC.of cX9_isWithin 3 (some .boolean) RX9 rfl (by decide) rfl (lv := [(0, .int x), (1, .int a), (2, .int b)]) rfl (Nat.le_of_ble_eq_true rfl) ?_
  intro p e s m args below meth c A C hr
  refine g_iload_n (pc' := 1) C dX9_isWithin_0 0 rfl rfl rfl ?_
  refine g_iload_n (pc' := 2) C dX9_isWithin_1 1 rfl rfl rfl ?_
  refine g_icmp_lt (pc' := 5) (tgt := 14) C dX9_isWithin_2 (by decide) rfl (fun c_2 => ?_) (fun c_2 => ?_)
  · refine g_iconst (pc' := 15) (v := 0) C dX9_isWithin_14 rfl rfl ?_
    exact g_zret C hr rfl dX9_isWithin_15 (by first | rfl | omega | (simp [bz, ← Int32.not_lt, c_2]; done) | (simp [bz, ← Int32.not_lt, c_2]; omega) | (simp [bz, ← Int32.not_lt, c_2]; intros; exfalso; omega) | grind [bz]) rfl
  · refine g_iload_n (pc' := 6) C dX9_isWithin_5 0 rfl rfl rfl ?_
    refine g_iload_n (pc' := 7) C dX9_isWithin_6 2 rfl rfl rfl ?_
    refine g_icmp_gt (pc' := 10) (tgt := 14) C dX9_isWithin_7 (by decide) rfl (fun c_7 => ?_) (fun c_7 => ?_)
    · refine g_iconst (pc' := 15) (v := 0) C dX9_isWithin_14 rfl rfl ?_
      exact g_zret C hr rfl dX9_isWithin_15 (by first | rfl | omega | (simp [bz, ← Int32.not_lt, c_2, c_7]; done) | (simp [bz, ← Int32.not_lt, c_2, c_7]; omega) | (simp [bz, ← Int32.not_lt, c_2, c_7]; intros; exfalso; omega) | grind [bz]) rfl
    · refine g_iconst (pc' := 11) (v := 1) C dX9_isWithin_10 rfl rfl ?_
      refine g_goto (tgt := 15) C dX9_isWithin_11 (by decide) ?_
      exact g_zret C hr rfl dX9_isWithin_15 (by first | rfl | omega | (simp [bz, ← Int32.not_lt, c_2, c_7]; done) | (simp [bz, ← Int32.not_lt, c_2, c_7]; omega) | (simp [bz, ← Int32.not_lt, c_2, c_7]; intros; exfalso; omega) | grind [bz]) rfl

set_option maxHeartbeats 1000000 in
set_option maxRecDepth 20000 in
theorem c_X10_isIn (l : Launch) (X : gX) (x : Int32) (a : Int32) (b : Int32) : KC l yX10_isIn wsX10_isIn ⟨0, 0, 0, 0⟩ [.int x, .int a, .int b] X [] (some (.int (bz (a ≤ x ∧ x ≤ b)))) [] := by
  refine KC.of cX10_isIn 3 (some .boolean) RX10 rfl (by decide) rfl (lv := [(0, .int x), (1, .int a), (2, .int b)]) rfl (Nat.le_of_ble_eq_true rfl) ?_
  intro p e s m args below meth c A C hr
  refine g_iload_n (pc' := 1) C dX10_isIn_0 0 rfl rfl rfl ?_
  refine g_iload_n (pc' := 2) C dX10_isIn_1 1 rfl rfl rfl ?_
  refine g_icmp_lt (pc' := 5) (tgt := 14) C dX10_isIn_2 (by decide) rfl (fun c_2 => ?_) (fun c_2 => ?_)
  · refine g_iconst (pc' := 15) (v := 0) C dX10_isIn_14 rfl rfl ?_
    exact g_zret C hr rfl dX10_isIn_15 (by first | rfl | omega | (simp [bz, ← Int32.not_lt, c_2]; done) | (simp [bz, ← Int32.not_lt, c_2]; omega) | (simp [bz, ← Int32.not_lt, c_2]; intros; exfalso; omega) | grind [bz]) rfl
  · refine g_iload_n (pc' := 6) C dX10_isIn_5 0 rfl rfl rfl ?_
    refine g_iload_n (pc' := 7) C dX10_isIn_6 2 rfl rfl rfl ?_
    refine g_icmp_gt (pc' := 10) (tgt := 14) C dX10_isIn_7 (by decide) rfl (fun c_7 => ?_) (fun c_7 => ?_)
    · refine g_iconst (pc' := 15) (v := 0) C dX10_isIn_14 rfl rfl ?_
      exact g_zret C hr rfl dX10_isIn_15 (by first | rfl | omega | (simp [bz, ← Int32.not_lt, c_2, c_7]; done) | (simp [bz, ← Int32.not_lt, c_2, c_7]; omega) | (simp [bz, ← Int32.not_lt, c_2, c_7]; intros; exfalso; omega) | grind [bz]) rfl
    · refine g_iconst (pc' := 11) (v := 1) C dX10_isIn_10 rfl rfl ?_
      refine g_goto (tgt := 15) C dX10_isIn_11 (by decide) ?_
      exact g_zret C hr rfl dX10_isIn_15 (by first | rfl | omega | (simp [bz, ← Int32.not_lt, c_2, c_7]; done) | (simp [bz, ← Int32.not_lt, c_2, c_7]; omega) | (simp [bz, ← Int32.not_lt, c_2, c_7]; intros; exfalso; omega) | grind [bz]) rfl

set_option maxHeartbeats 1000000 in
set_option maxRecDepth 20000 in
theorem c_X9_isHouse (l : Launch) (X : gX) (x : Int32) : KC l yX9_isHouse wsX9_isHouse ⟨1, 0, 0, 22⟩ [.int x] X [] (some (.int (bz (0 ≤ x ∧ x ≤ 9)))) [] := by
  refine KC.of cX9_isHouse 1 (some .boolean) RX9 rfl (by decide) rfl (lv := [(0, .int x)]) rfl (Nat.le_of_ble_eq_true rfl) ?_
  intro p e s m args below meth c A C hr
  refine g_iload_n (pc' := 1) C dX9_isHouse_0 0 rfl rfl rfl ?_
  refine g_iconst (pc' := 2) (v := 0) C dX9_isHouse_1 rfl rfl ?_
  refine g_bipush (pc' := 4) (v := 9) C dX9_isHouse_2 (by decide) rfl ?_
  refine g_callS (pc' := 7) (st := []) (ws2 := []) C [.int x, .int 0, .int 9] 3 rfl (c_X9_isWithin l X x 0 9 ) [] [] [] gX9_isHouse_X9_isWithin rfl ⟨rfl, rfl⟩ (by decide +kernel) ⟨by decide, by decide⟩ ⟨by decide, by decide⟩ rfl (wr := []) rfl ⟨by decide, by decide, by decide, by decide⟩ rfl (Nat.le_of_ble_eq_true rfl) dX9_isHouse_4 rfl rfl ?_
  by_cases b_4 : 0 ≤ x ∧ x ≤ 9
  · refine g_top (bz_t b_4) ?_
    exact g_zret C hr rfl dX9_isHouse_7 (by first | rfl | omega | (simp [bz, b_4]; done) | (simp [bz, b_4]; omega) | (simp [bz, b_4]; intros; exfalso; omega) | grind [bz]) rfl
  · refine g_top (bz_f b_4) ?_
    exact g_zret C hr rfl dX9_isHouse_7 (by first | rfl | omega | (simp [bz, b_4]; done) | (simp [bz, b_4]; omega) | (simp [bz, b_4]; intros; exfalso; omega) | grind [bz]) rfl

set_option maxHeartbeats 1000000 in
set_option maxRecDepth 20000 in
theorem c_X9_isPlot (l : Launch) (X : gX) (x : Int32) : KC l yX9_isPlot wsX9_isPlot ⟨1, 0, 0, 22⟩ [.int x] X [] (some (.int (bz (0 ≤ x ∧ x ≤ 11)))) [] := by
  refine KC.of cX9_isPlot 1 (some .boolean) RX9 rfl (by decide) rfl (lv := [(0, .int x)]) rfl (Nat.le_of_ble_eq_true rfl) ?_
  intro p e s m args below meth c A C hr
  refine g_iload_n (pc' := 1) C dX9_isPlot_0 0 rfl rfl rfl ?_
  refine g_iconst (pc' := 2) (v := 0) C dX9_isPlot_1 rfl rfl ?_
  refine g_bipush (pc' := 4) (v := 11) C dX9_isPlot_2 (by decide) rfl ?_
  refine g_callS (pc' := 7) (st := []) (ws2 := []) C [.int x, .int 0, .int 11] 3 rfl (c_X9_isWithin l X x 0 11 ) [] [] [] gX9_isPlot_X9_isWithin rfl ⟨rfl, rfl⟩ (by decide +kernel) ⟨by decide, by decide⟩ ⟨by decide, by decide⟩ rfl (wr := []) rfl ⟨by decide, by decide, by decide, by decide⟩ rfl (Nat.le_of_ble_eq_true rfl) dX9_isPlot_4 rfl rfl ?_
  by_cases b_4 : 0 ≤ x ∧ x ≤ 11
  · refine g_top (bz_t b_4) ?_
    exact g_zret C hr rfl dX9_isPlot_7 (by first | rfl | omega | (simp [bz, b_4]; done) | (simp [bz, b_4]; omega) | (simp [bz, b_4]; intros; exfalso; omega) | grind [bz]) rfl
  · refine g_top (bz_f b_4) ?_
    exact g_zret C hr rfl dX9_isPlot_7 (by first | rfl | omega | (simp [bz, b_4]; done) | (simp [bz, b_4]; omega) | (simp [bz, b_4]; intros; exfalso; omega) | grind [bz]) rfl

set_option maxHeartbeats 1000000 in
set_option maxRecDepth 20000 in
theorem c_X9_isYear (l : Launch) (X : gX) (x : Int32) : KC l yX9_isYear wsX9_isYear ⟨1, 0, 0, 22⟩ [.int x] X [] (some (.int (bz (0 ≤ x ∧ x ≤ 30)))) [] := by
  refine KC.of cX9_isYear 1 (some .boolean) RX9 rfl (by decide) rfl (lv := [(0, .int x)]) rfl (Nat.le_of_ble_eq_true rfl) ?_
  intro p e s m args below meth c A C hr
  refine g_iload_n (pc' := 1) C dX9_isYear_0 0 rfl rfl rfl ?_
  refine g_iconst (pc' := 2) (v := 0) C dX9_isYear_1 rfl rfl ?_
  refine g_bipush (pc' := 4) (v := 30) C dX9_isYear_2 (by decide) rfl ?_
  refine g_callS (pc' := 7) (st := []) (ws2 := []) C [.int x, .int 0, .int 30] 3 rfl (c_X9_isWithin l X x 0 30 ) [] [] [] gX9_isYear_X9_isWithin rfl ⟨rfl, rfl⟩ (by decide +kernel) ⟨by decide, by decide⟩ ⟨by decide, by decide⟩ rfl (wr := []) rfl ⟨by decide, by decide, by decide, by decide⟩ rfl (Nat.le_of_ble_eq_true rfl) dX9_isYear_4 rfl rfl ?_
  by_cases b_4 : 0 ≤ x ∧ x ≤ 30
  · refine g_top (bz_t b_4) ?_
    exact g_zret C hr rfl dX9_isYear_7 (by first | rfl | omega | (simp [bz, b_4]; done) | (simp [bz, b_4]; omega) | (simp [bz, b_4]; intros; exfalso; omega) | grind [bz]) rfl
  · refine g_top (bz_f b_4) ?_
    exact g_zret C hr rfl dX9_isYear_7 (by first | rfl | omega | (simp [bz, b_4]; done) | (simp [bz, b_4]; omega) | (simp [bz, b_4]; intros; exfalso; omega) | grind [bz]) rfl

set_option maxHeartbeats 1000000 in
set_option maxRecDepth 20000 in
theorem c_X9_isDay (l : Launch) (X : gX) (x : Int32) : KC l yX9_isDay wsX9_isDay ⟨1, 0, 0, 22⟩ [.int x] X [] (some (.int (bz (0 ≤ x ∧ x ≤ 100000)))) [] := by
  refine KC.of cX9_isDay 1 (some .boolean) RX9 rfl (by decide) rfl (lv := [(0, .int x)]) rfl (Nat.le_of_ble_eq_true rfl) ?_
  intro p e s m args below meth c A C hr
  refine g_iload_n (pc' := 1) C dX9_isDay_0 0 rfl rfl rfl ?_
  refine g_iconst (pc' := 2) (v := 0) C dX9_isDay_1 rfl rfl ?_
  refine g_ldc (pc' := 4) (v := 100000) C (List.mem_of_getElem? (i := 1) rfl) dX9_isDay_2 rfl ?_
  refine g_callS (pc' := 7) (st := []) (ws2 := []) C [.int x, .int 0, .int 100000] 3 rfl (c_X9_isWithin l X x 0 100000 ) [] [] [] gX9_isDay_X9_isWithin rfl ⟨rfl, rfl⟩ (by decide +kernel) ⟨by decide, by decide⟩ ⟨by decide, by decide⟩ rfl (wr := []) rfl ⟨by decide, by decide, by decide, by decide⟩ rfl (Nat.le_of_ble_eq_true rfl) dX9_isDay_4 rfl rfl ?_
  by_cases b_4 : 0 ≤ x ∧ x ≤ 100000
  · refine g_top (bz_t b_4) ?_
    exact g_zret C hr rfl dX9_isDay_7 (by first | rfl | omega | (simp [bz, b_4]; done) | (simp [bz, b_4]; omega) | (simp [bz, b_4]; intros; exfalso; omega) | grind [bz]) rfl
  · refine g_top (bz_f b_4) ?_
    exact g_zret C hr rfl dX9_isDay_7 (by first | rfl | omega | (simp [bz, b_4]; done) | (simp [bz, b_4]; omega) | (simp [bz, b_4]; intros; exfalso; omega) | grind [bz]) rfl

set_option maxHeartbeats 1000000 in
set_option maxRecDepth 20000 in
theorem c_X9_isItem (l : Launch) (X : gX) (x : Int32) : KC l yX9_isItem wsX9_isItem ⟨1, 0, 0, 22⟩ [.int x] X [] (some (.int (bz (0 ≤ x ∧ x ≤ 5)))) [] := by
  refine KC.of cX9_isItem 1 (some .boolean) RX9 rfl (by decide) rfl (lv := [(0, .int x)]) rfl (Nat.le_of_ble_eq_true rfl) ?_
  intro p e s m args below meth c A C hr
  refine g_iload_n (pc' := 1) C dX9_isItem_0 0 rfl rfl rfl ?_
  refine g_iconst (pc' := 2) (v := 0) C dX9_isItem_1 rfl rfl ?_
  refine g_iconst (pc' := 3) (v := 5) C dX9_isItem_2 rfl rfl ?_
  refine g_callS (pc' := 6) (st := []) (ws2 := []) C [.int x, .int 0, .int 5] 3 rfl (c_X9_isWithin l X x 0 5 ) [] [] [] gX9_isItem_X9_isWithin rfl ⟨rfl, rfl⟩ (by decide +kernel) ⟨by decide, by decide⟩ ⟨by decide, by decide⟩ rfl (wr := []) rfl ⟨by decide, by decide, by decide, by decide⟩ rfl (Nat.le_of_ble_eq_true rfl) dX9_isItem_3 rfl rfl ?_
  by_cases b_3 : 0 ≤ x ∧ x ≤ 5
  · refine g_top (bz_t b_3) ?_
    exact g_zret C hr rfl dX9_isItem_6 (by first | rfl | omega | (simp [bz, b_3]; done) | (simp [bz, b_3]; omega) | (simp [bz, b_3]; intros; exfalso; omega) | grind [bz]) rfl
  · refine g_top (bz_f b_3) ?_
    exact g_zret C hr rfl dX9_isItem_6 (by first | rfl | omega | (simp [bz, b_3]; done) | (simp [bz, b_3]; omega) | (simp [bz, b_3]; intros; exfalso; omega) | grind [bz]) rfl

set_option maxHeartbeats 1000000 in
set_option maxRecDepth 20000 in
theorem c_X10_isHouse (l : Launch) (X : gX) (x : Int32) : KC l yX10_isHouse wsX10_isHouse ⟨1, 0, 0, 22⟩ [.int x] X [] (some (.int (bz (0 ≤ x ∧ x ≤ 9)))) [] := by
  refine KC.of cX10_isHouse 1 (some .boolean) RX10 rfl (by decide) rfl (lv := [(0, .int x)]) rfl (Nat.le_of_ble_eq_true rfl) ?_
  intro p e s m args below meth c A C hr
  refine g_iload_n (pc' := 1) C dX10_isHouse_0 0 rfl rfl rfl ?_
  refine g_iconst (pc' := 2) (v := 0) C dX10_isHouse_1 rfl rfl ?_
  refine g_bipush (pc' := 4) (v := 9) C dX10_isHouse_2 (by decide) rfl ?_
  refine g_callS (pc' := 7) (st := []) (ws2 := []) C [.int x, .int 0, .int 9] 3 rfl (c_X10_isIn l X x 0 9 ) [] [] [] gX10_isHouse_X10_isIn rfl ⟨rfl, rfl⟩ (by decide +kernel) ⟨by decide, by decide⟩ ⟨by decide, by decide⟩ rfl (wr := []) rfl ⟨by decide, by decide, by decide, by decide⟩ rfl (Nat.le_of_ble_eq_true rfl) dX10_isHouse_4 rfl rfl ?_
  by_cases b_4 : 0 ≤ x ∧ x ≤ 9
  · refine g_top (bz_t b_4) ?_
    exact g_zret C hr rfl dX10_isHouse_7 (by first | rfl | omega | (simp [bz, b_4]; done) | (simp [bz, b_4]; omega) | (simp [bz, b_4]; intros; exfalso; omega) | grind [bz]) rfl
  · refine g_top (bz_f b_4) ?_
    exact g_zret C hr rfl dX10_isHouse_7 (by first | rfl | omega | (simp [bz, b_4]; done) | (simp [bz, b_4]; omega) | (simp [bz, b_4]; intros; exfalso; omega) | grind [bz]) rfl

set_option maxHeartbeats 1000000 in
set_option maxRecDepth 20000 in
theorem c_X10_isYear (l : Launch) (X : gX) (x : Int32) : KC l yX10_isYear wsX10_isYear ⟨1, 0, 0, 22⟩ [.int x] X [] (some (.int (bz (0 ≤ x ∧ x ≤ 30)))) [] := by
  refine KC.of cX10_isYear 1 (some .boolean) RX10 rfl (by decide) rfl (lv := [(0, .int x)]) rfl (Nat.le_of_ble_eq_true rfl) ?_
  intro p e s m args below meth c A C hr
  refine g_iload_n (pc' := 1) C dX10_isYear_0 0 rfl rfl rfl ?_
  refine g_iconst (pc' := 2) (v := 0) C dX10_isYear_1 rfl rfl ?_
  refine g_bipush (pc' := 4) (v := 30) C dX10_isYear_2 (by decide) rfl ?_
  refine g_callS (pc' := 7) (st := []) (ws2 := []) C [.int x, .int 0, .int 30] 3 rfl (c_X10_isIn l X x 0 30 ) [] [] [] gX10_isYear_X10_isIn rfl ⟨rfl, rfl⟩ (by decide +kernel) ⟨by decide, by decide⟩ ⟨by decide, by decide⟩ rfl (wr := []) rfl ⟨by decide, by decide, by decide, by decide⟩ rfl (Nat.le_of_ble_eq_true rfl) dX10_isYear_4 rfl rfl ?_
  by_cases b_4 : 0 ≤ x ∧ x ≤ 30
  · refine g_top (bz_t b_4) ?_
    exact g_zret C hr rfl dX10_isYear_7 (by first | rfl | omega | (simp [bz, b_4]; done) | (simp [bz, b_4]; omega) | (simp [bz, b_4]; intros; exfalso; omega) | grind [bz]) rfl
  · refine g_top (bz_f b_4) ?_
    exact g_zret C hr rfl dX10_isYear_7 (by first | rfl | omega | (simp [bz, b_4]; done) | (simp [bz, b_4]; omega) | (simp [bz, b_4]; intros; exfalso; omega) | grind [bz]) rfl

set_option maxHeartbeats 1000000 in
set_option maxRecDepth 20000 in
theorem c_X10_isDay (l : Launch) (X : gX) (x : Int32) : KC l yX10_isDay wsX10_isDay ⟨1, 0, 0, 22⟩ [.int x] X [] (some (.int (bz (0 ≤ x ∧ x ≤ 100000)))) [] := by
  refine KC.of cX10_isDay 1 (some .boolean) RX10 rfl (by decide) rfl (lv := [(0, .int x)]) rfl (Nat.le_of_ble_eq_true rfl) ?_
  intro p e s m args below meth c A C hr
  refine g_iload_n (pc' := 1) C dX10_isDay_0 0 rfl rfl rfl ?_
  refine g_iconst (pc' := 2) (v := 0) C dX10_isDay_1 rfl rfl ?_
  refine g_ldc (pc' := 4) (v := 100000) C (List.mem_of_getElem? (i := 1) rfl) dX10_isDay_2 rfl ?_
  refine g_callS (pc' := 7) (st := []) (ws2 := []) C [.int x, .int 0, .int 100000] 3 rfl (c_X10_isIn l X x 0 100000 ) [] [] [] gX10_isDay_X10_isIn rfl ⟨rfl, rfl⟩ (by decide +kernel) ⟨by decide, by decide⟩ ⟨by decide, by decide⟩ rfl (wr := []) rfl ⟨by decide, by decide, by decide, by decide⟩ rfl (Nat.le_of_ble_eq_true rfl) dX10_isDay_4 rfl rfl ?_
  by_cases b_4 : 0 ≤ x ∧ x ≤ 100000
  · refine g_top (bz_t b_4) ?_
    exact g_zret C hr rfl dX10_isDay_7 (by first | rfl | omega | (simp [bz, b_4]; done) | (simp [bz, b_4]; omega) | (simp [bz, b_4]; intros; exfalso; omega) | grind [bz]) rfl
  · refine g_top (bz_f b_4) ?_
    exact g_zret C hr rfl dX10_isDay_7 (by first | rfl | omega | (simp [bz, b_4]; done) | (simp [bz, b_4]; omega) | (simp [bz, b_4]; intros; exfalso; omega) | grind [bz]) rfl

