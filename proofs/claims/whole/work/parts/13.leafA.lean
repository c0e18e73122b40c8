set_option maxHeartbeats 1000000 in
set_option maxRecDepth 20000 in
theorem c_J7_fill_53178 (l : Launch) (X : gX) (a n : Nat) (f : Nat → Int32) (v : Int32) (hn : n < 2 ^ 31) : KC l yJ7_fill_53178 wsJ7_fill_53178 ⟨0, 0, 0, 0⟩ [.ref a, .int v] X [(a, .inl (xI X, n, .inl f))] none [(a, .inl (xI X, n, .inl (fun _ => v)))] := by
  refine KC.of cJ7_fill_53178 4 none RJ7 rfl (by decide) rfl (lv := [(0, .ref a), (1, .int v)]) rfl (Nat.le_of_ble_eq_true rfl) ?_
  intro p e s m args below meth c A C hr
  refine g_iconst (v := 0) C dJ7_fill_53178_0 rfl rfl ?_
  refine g_istore_n (lv' := [(2, .int 0), (0, .ref a), (1, .int v)]) C dJ7_fill_53178_1 rfl (by decide) rfl rfl ?_
  refine g_aload_n C dJ7_fill_53178_2 1 rfl rfl rfl ?_
  refine g_alen C 0 rfl dJ7_fill_53178_3 rfl ?_
  refine g_istore_n (lv' := [(3, .int (nI n)), (2, .int 0), (0, .ref a), (1, .int v)]) C dJ7_fill_53178_4 rfl (by decide) rfl rfl ?_
  have lp : ∀ (q k : Nat) (g : Nat → Int32) (hk : k ≤ n) (hg : ∀ j, j < k → g j = v) (hm : n - k < q), gG p l e ⟨0, 0, 0, 0⟩ s m args below meth c X A 4 0 0 (MQ below (QA X A none [(a, .inl (xI X, n, .inl (fun _ => v)))]) args s 0 0 A) [(2, .int (nI k)), (3, .int (nI n)), (0, .ref a), (1, .int v)] [(a, .inl (xI X, n, .inl g))] 5 [] := by
    intro q
    induction q with
    | zero => intro k g hk hg hm; exact absurd hm (Nat.not_lt_zero _)
    | succ q ih =>
      intro k g hk hg hm
      refine g_iload_n C dJ7_fill_53178_5 0 rfl rfl rfl ?_
      refine g_iload_n C dJ7_fill_53178_6 1 rfl rfl rfl ?_
      refine g_icmp_geN (tgt := 20) C k n rfl rfl (by omega) hn dJ7_fill_53178_7 (by decide) rfl (fun c7 => ?_) (fun c7 => ?_)
      · refine g_ext (ws2 := [(a, .inl (xI X, n, .inl (fun _ => v)))]) (fun _ => v) 0 rfl (fun j hj => hg j (by omega)) rfl ?_
        exact g_vret C hr dJ7_fill_53178_20 rfl
      · refine g_aload_n C dJ7_fill_53178_10 2 rfl rfl rfl ?_
        refine g_iload_n C dJ7_fill_53178_11 0 rfl rfl rfl ?_
        refine g_iload_n C dJ7_fill_53178_12 3 rfl rfl rfl ?_
        refine g_iast (ws2 := [(a, .inl (xI X, n, .inl (upd g k v)))]) C 0 k rfl rfl c7 hn dJ7_fill_53178_13 rfl rfl ?_
        refine g_iinc (v := nI (k + 1)) (lv' := [(2, .int (nI (k + 1))), (3, .int (nI n)), (0, .ref a), (1, .int v)]) C dJ7_fill_53178_14 0 rfl (nI_1 _) (by decide) rfl rfl ?_
        refine g_goto (tgt := 5) C dJ7_fill_53178_17 (by decide) ?_
        refine ih (k + 1) (upd g k v) (by omega) (fun j hj => ?_) (by omega)
        by_cases e : j = k
        · subst e; exact pk_us
        · rw [pk_un e]; exact hg j (by omega)
  refine g_lv (lv2 := [(2, .int 0), (3, .int (nI n)), (0, .ref a), (1, .int v)]) [1, 0, 2, 3] rfl ?_
  exact lp (n - 0 + 1) 0 f (Nat.zero_le _) (fun j hj => absurd hj (Nat.not_lt_zero _)) (by omega)
set_option maxHeartbeats 1000000 in
set_option maxRecDepth 20000 in
theorem c_X9_sumOf (l : Launch) (X : gX) (a n : Nat) (f : Nat → Int32) (hn : n < 2 ^ 31) : KC l yX9_sumOf wsX9_sumOf ⟨0, 0, 0, 0⟩ [.ref a] X [(a, .inl (xI X, n, .inl f))] (some (.int (sumI f n))) [(a, .inl (xI X, n, .inl f))] := by
  refine KC.of cX9_sumOf 6 (some .int) RX9 rfl (by decide) rfl (lv := [(0, .ref a)]) rfl (Nat.le_of_ble_eq_true rfl) ?_
  intro p e s m args below meth c A C hr
  refine g_iconst (v := 0) C dX9_sumOf_0 rfl rfl ?_
  refine g_istore_n (lv' := [(1, .int 0), (0, .ref a)]) C dX9_sumOf_1 rfl (by decide) rfl rfl ?_
  refine g_aload_n C dX9_sumOf_2 1 rfl rfl rfl ?_
  refine g_astore_n (lv' := [(2, .ref a), (1, .int 0), (0, .ref a)]) C dX9_sumOf_3 rfl (by decide) rfl rfl ?_
  refine g_aload_n C dX9_sumOf_4 0 rfl rfl rfl ?_
  refine g_alen C 0 rfl dX9_sumOf_5 rfl ?_
  refine g_istore_n (lv' := [(3, .int (nI n)), (2, .ref a), (1, .int 0), (0, .ref a)]) C dX9_sumOf_6 rfl (by decide) rfl rfl ?_
  refine g_iconst (v := 0) C dX9_sumOf_7 rfl rfl ?_
  refine g_istore (lv' := [(4, .int 0), (3, .int (nI n)), (2, .ref a), (1, .int 0), (0, .ref a)]) C dX9_sumOf_8 (by decide) rfl rfl ?_
  have lp : ∀ (q k : Nat) (hk : k ≤ n) (hm : n - k < q), gG p l e ⟨0, 0, 0, 0⟩ s m args below meth c X A 6 0 0 (MQ below (QA X A (some (.int (sumI f n))) [(a, .inl (xI X, n, .inl f))]) args s 0 0 A) [(4, .int (nI k)), (3, .int (nI n)), (2, .ref a), (1, .int (sumI f k))] [(a, .inl (xI X, n, .inl f))] 10 [] := by
    intro q
    induction q with
    | zero => intro k hk hm; exact absurd hm (Nat.not_lt_zero _)
    | succ q ih =>
      intro k hk hm
      refine g_iload C dX9_sumOf_10 0 rfl rfl ?_
      refine g_iload_n C dX9_sumOf_12 1 rfl rfl rfl ?_
      refine g_icmp_geN (tgt := 33) C k n rfl rfl (by omega) hn dX9_sumOf_13 (by decide) rfl (fun c7 => ?_) (fun c7 => ?_)
      · refine g_iload_n C dX9_sumOf_33 3 rfl rfl rfl ?_
        exact g_iret C hr dX9_sumOf_34 (by rw [show k = n by omega]) rfl
      · refine g_aload_n C dX9_sumOf_16 2 rfl rfl rfl ?_
        refine g_iload C dX9_sumOf_17 0 rfl rfl ?_
        refine g_iald C 0 k rfl rfl c7 hn dX9_sumOf_19 rfl ?_
        refine g_istore (lv' := [(5, .int (f k)), (4, .int (nI k)), (3, .int (nI n)), (2, .ref a), (1, .int (sumI f k))]) C dX9_sumOf_20 (by decide) rfl rfl ?_
        refine g_iload_n C dX9_sumOf_22 4 rfl rfl rfl ?_
        refine g_iload C dX9_sumOf_23 0 rfl rfl ?_
        refine g_iadd C dX9_sumOf_25 rfl ?_
        refine g_istore_n (lv' := [(1, .int (sumI f k + f k)), (5, .int (f k)), (4, .int (nI k)), (3, .int (nI n)), (2, .ref a)]) C dX9_sumOf_26 rfl (by decide) rfl rfl ?_
        refine g_iinc (v := nI (k + 1)) (lv' := [(4, .int (nI (k + 1))), (1, .int (sumI f k + f k)), (5, .int (f k)), (3, .int (nI n)), (2, .ref a)]) C dX9_sumOf_27 2 rfl (nI_1 _) (by decide) rfl rfl ?_
        refine g_goto (tgt := 10) C dX9_sumOf_30 (by decide) ?_
        refine g_lv (lv2 := [(4, .int (nI (k + 1))), (3, .int (nI n)), (2, .ref a), (1, .int (sumI f (k + 1)))]) [0, 3, 4, 1] rfl ?_
        exact ih (k + 1) (by omega) (by omega)
  refine g_lv (lv2 := [(4, .int 0), (3, .int (nI n)), (2, .ref a), (1, .int 0)]) [0, 1, 2, 3] rfl ?_
  exact lp (n - 0 + 1) 0 (Nat.zero_le _) (by omega)

set_option maxHeartbeats 1000000 in
set_option maxRecDepth 20000 in
theorem c_X4_measuredCount (l : Launch) (X : gX) (f27 : Nat → Int32) : KC l yX4_measuredCount wsX4_measuredCount ⟨0, 0, 0, 0⟩ [.ref (xa X 2)] X [oPlt X, kA X 27 12 f27] (some (.int (nI (cntP f27 12)))) [oPlt X, kA X 27 12 f27] := by
  have hi_X4 : ∀ w ∈ u_ws RX4 TX4 2, w ∈ wsX4_measuredCount := fun w h => List.mem_cons_of_mem _ (List.mem_append_right _ h)
  refine KC.of cX4_measuredCount 6 (some .int) RX4 rfl (by decide) rfl (lv := [(0, .ref (xa X 2))]) rfl (Nat.le_of_ble_eq_true rfl) ?_
  intro p e s m args below meth c A C hr
  refine g_iconst (pc' := 1) (v := 0) C dX4_measuredCount_0 rfl rfl ?_
  refine g_istore_n (pc' := 2) (lv' := [(1, .int 0), (0, .ref (xa X 2))]) C dX4_measuredCount_1 rfl (by decide) rfl rfl ?_
  refine g_aload_n (pc' := 3) C dX4_measuredCount_2 1 rfl rfl rfl ?_
  refine g_get (pc' := 6) C hi_X4 0 0 rfl rfl (by decide) (List.mem_of_getElem? (i := 1) rfl) rfl dX4_measuredCount_3 rfl ?_
  refine g_astore_n (pc' := 7) (lv' := [(2, .ref (xa X 27)), (1, .int 0), (0, .ref (xa X 2))]) C dX4_measuredCount_6 rfl (by decide) rfl rfl ?_
  refine g_aload_n (pc' := 8) C dX4_measuredCount_7 0 rfl rfl rfl ?_
  refine g_alen (pc' := 9) C 1 rfl dX4_measuredCount_8 rfl ?_
  refine g_top (y := 12) rfl ?_
  refine g_istore_n (pc' := 10) (lv' := [(3, .int 12), (2, .ref (xa X 27)), (1, .int 0), (0, .ref (xa X 2))]) C dX4_measuredCount_9 rfl (by decide) rfl rfl ?_
  refine g_iconst (pc' := 11) (v := 0) C dX4_measuredCount_10 rfl rfl ?_
  refine g_istore (pc' := 13) (lv' := [(4, .int 0), (3, .int 12), (2, .ref (xa X 27)), (1, .int 0), (0, .ref (xa X 2))]) C dX4_measuredCount_11 (by decide) rfl rfl ?_
  have lp_13 : ∀ (n_13 : Nat) (k : Nat) (hk : k ≤ 12) (hm_13 : 12 - k < n_13), gG p l e ⟨0, 0, 0, 0⟩ s m args below meth c X A 6 0 0 (MQ below (QA X A (some (.int (nI (cntP f27 12)))) [oPlt X, kA X 27 12 f27]) args s 0 0 A) [(0, .ref (xa X 2)), (1, .int (nI (cntP f27 k))), (2, .ref (xa X 27)), (3, .int 12), (4, .int (nI k))] [oPlt X, kA X 27 12 f27] 13 [] := by
    intro n_13
    induction n_13 with
    | zero => intro k hk hm_13; exact absurd hm_13 (Nat.not_lt_zero _)
    | succ n_13 ih_13 =>
      intro k hk hm_13
      refine g_iload (pc' := 15) C dX4_measuredCount_13 4 rfl rfl ?_
      refine g_iload_n (pc' := 16) C dX4_measuredCount_15 3 rfl rfl rfl ?_
      refine g_icmp_geN (pc' := 19) (tgt := 39) C k 12 rfl rfl (by omega) (by omega) dX4_measuredCount_16 (by decide) rfl (fun c_16 => ?_) (fun c_16 => ?_)
      · refine g_iload_n (pc' := 40) C dX4_measuredCount_39 1 rfl rfl rfl ?_
        exact g_iret C hr dX4_measuredCount_40 (by rw [show k = 12 by omega]) rfl
      · refine g_aload_n (pc' := 20) C dX4_measuredCount_19 2 rfl rfl rfl ?_
        refine g_iload (pc' := 22) C dX4_measuredCount_20 4 rfl rfl ?_
        refine g_iald (pc' := 23) C 1 k rfl rfl (by omega) (by decide) dX4_measuredCount_22 rfl ?_
        refine g_istore (pc' := 25) (lv' := [(5, .int (f27 k)), (0, .ref (xa X 2)), (1, .int (nI (cntP f27 k))), (2, .ref (xa X 27)), (3, .int 12), (4, .int (nI k))]) C dX4_measuredCount_23 (by decide) rfl rfl ?_
        refine g_iload (pc' := 27) C dX4_measuredCount_25 0 rfl rfl ?_
        refine g_if_le (pc' := 30) (tgt := 33) C dX4_measuredCount_27 (by decide) rfl (fun c_27 => ?_) (fun c_27 => ?_)
        · refine g_iinc (pc' := 36) (v := nI (k + 1)) (lv' := [(4, .int (nI (k + 1))), (5, .int (f27 k)), (0, .ref (xa X 2)), (1, .int (nI (cntP f27 k))), (2, .ref (xa X 27)), (3, .int 12)]) C dX4_measuredCount_33 5 rfl (nI_1 _) (by decide) rfl rfl ?_
          refine g_goto (tgt := 13) C dX4_measuredCount_36 (by decide) ?_
          refine g_lv (lv2 := [(0, .ref (xa X 2)), (1, .int (nI (cntP f27 k))), (2, .ref (xa X 27)), (3, .int 12), (4, .int (nI (k + 1)))]) [2, 3, 4, 5, 0] rfl ?_
          refine g_eq (lv2 := [(0, .ref (xa X 2)), (1, .int (nI (cntP f27 (k + 1)))), (2, .ref (xa X 27)), (3, .int 12), (4, .int (nI (k + 1)))]) (ws2 := [oPlt X, kA X 27 12 f27]) (st2 := []) (congrArg (fun zq_ : Int32 => ([(0, .ref (xa X 2)), (1, .int zq_), (2, .ref (xa X 27)), (3, .int 12), (4, .int (nI (k + 1)))] : List (Nat × Value))) (show (nI (cntP f27 k) : Int32) = nI (cntP f27 (k + 1)) from (by first | rfl | omega | (simp [cntP, c_16, c_27]; done) | (simp [cntP, c_16, c_27]; omega) | (simp [cntP, c_16, c_27]; intros; exfalso; omega) | grind [cntP]))) rfl rfl ?_
          exact ih_13 (k + 1) (by omega) (by omega)
        · refine g_iinc (pc' := 33) (v := nI ((cntP f27 k) + 1)) (lv' := [(1, .int (nI ((cntP f27 k) + 1))), (5, .int (f27 k)), (0, .ref (xa X 2)), (2, .ref (xa X 27)), (3, .int 12), (4, .int (nI k))]) C dX4_measuredCount_30 2 rfl (nI_1 _) (by decide) rfl rfl ?_
          refine g_iinc (pc' := 36) (v := nI (k + 1)) (lv' := [(4, .int (nI (k + 1))), (1, .int (nI ((cntP f27 k) + 1))), (5, .int (f27 k)), (0, .ref (xa X 2)), (2, .ref (xa X 27)), (3, .int 12)]) C dX4_measuredCount_33 5 rfl (nI_1 _) (by decide) rfl rfl ?_
          refine g_goto (tgt := 13) C dX4_measuredCount_36 (by decide) ?_
          refine g_lv (lv2 := [(0, .ref (xa X 2)), (1, .int (nI ((cntP f27 k) + 1))), (2, .ref (xa X 27)), (3, .int 12), (4, .int (nI (k + 1)))]) [3, 1, 4, 5, 0] rfl ?_
          refine g_eq (lv2 := [(0, .ref (xa X 2)), (1, .int (nI (cntP f27 (k + 1)))), (2, .ref (xa X 27)), (3, .int 12), (4, .int (nI (k + 1)))]) (ws2 := [oPlt X, kA X 27 12 f27]) (st2 := []) (congrArg (fun zq_ : Int32 => ([(0, .ref (xa X 2)), (1, .int zq_), (2, .ref (xa X 27)), (3, .int 12), (4, .int (nI (k + 1)))] : List (Nat × Value))) (show (nI ((cntP f27 k) + 1) : Int32) = nI (cntP f27 (k + 1)) from (by first | rfl | omega | (simp [cntP, c_16, c_27]; done) | (simp [cntP, c_16, c_27]; omega) | (simp [cntP, c_16, c_27]; intros; exfalso; omega) | grind [cntP]))) rfl rfl ?_
          exact ih_13 (k + 1) (by omega) (by omega)
  refine g_lv (lv2 := [(0, .ref (xa X 2)), (1, .int 0), (2, .ref (xa X 27)), (3, .int 12), (4, .int 0)]) [4, 3, 2, 1, 0] rfl ?_
  refine g_eq (lv2 := [(0, .ref (xa X 2)), (1, .int (nI (cntP f27 0))), (2, .ref (xa X 27)), (3, .int 12), (4, .int 0)]) (ws2 := [oPlt X, kA X 27 12 f27]) (st2 := []) (congrArg (fun zq_ : Int32 => ([(0, .ref (xa X 2)), (1, .int zq_), (2, .ref (xa X 27)), (3, .int 12), (4, .int 0)] : List (Nat × Value))) (show (0 : Int32) = nI (cntP f27 0) from (by first | rfl | omega | (simp [cntP]; done) | (simp [cntP]; omega) | (simp [cntP]; intros; exfalso; omega) | grind [cntP]))) rfl rfl ?_
  exact lp_13 (12 - 0 + 1) 0 (by first | rfl | assumption | omega | (simp [cntP]; done) | (simp [cntP]; omega) | (simp [cntP]; intros; exfalso; omega) | grind [cntP]) (by omega)

set_option maxHeartbeats 1000000 in
set_option maxRecDepth 20000 in
theorem c_X7_append (l : Launch) (X : gX) (tl : Nat) (f38 : Nat → Int32) (v : Int32) (ht : tl + 4 ≤ 60) : KC l yX7_append wsX7_append ⟨0, 0, 0, 0⟩ [.ref (xa X 3), .int v] X [oTap X (nI tl), kA X 38 60 f38] none [oTap X (nI (tl + 4)), kA X 38 60 (ap4 f38 tl v)] := by
  have hi_X7 : ∀ w ∈ u_ws RX7 TX7 2, w ∈ wsX7_append := fun w h => List.mem_cons_of_mem _ (List.mem_append_right _ h)
  refine KC.of cX7_append 3 none RX7 rfl (by decide) rfl (lv := [(0, .ref (xa X 3)), (1, .int v)]) rfl (Nat.le_of_ble_eq_true rfl) ?_
  intro p e s m args below meth c A C hr
  refine g_bipush (pc' := 2) (v := 24) C dX7_append_0 (by decide) rfl ?_
  refine g_istore_n (pc' := 3) (lv' := [(2, .int 24), (0, .ref (xa X 3)), (1, .int v)]) C dX7_append_2 rfl (by decide) rfl rfl ?_
  refine g_iload_n (pc' := 4) C dX7_append_3 0 rfl rfl rfl ?_
  refine g_if_lt (pc' := 7) (tgt := 48) C dX7_append_4 (by decide) rfl (fun h => absurd h (by decide)) (fun _ => ?_)
  refine g_aload_n (pc' := 8) C dX7_append_7 1 rfl rfl rfl ?_
  refine g_get (pc' := 11) C hi_X7 0 1 rfl rfl (by decide) (List.mem_of_getElem? (i := 1) rfl) rfl dX7_append_8 rfl ?_
  refine g_bipush (pc' := 13) (v := 60) C dX7_append_11 (by decide) rfl ?_
  refine g_icmp_geN (pc' := 16) (tgt := 42) C tl 60 rfl rfl (by omega) (by omega) dX7_append_13 (by decide) rfl (fun c_13 => ?_) (fun c_13 => ?_)
  · exact absurd c_13 (by omega)
  · refine g_aload_n (pc' := 17) C dX7_append_16 1 rfl rfl rfl ?_
    refine g_get (pc' := 20) C hi_X7 0 0 rfl rfl (by decide) (List.mem_of_getElem? (i := 2) rfl) rfl dX7_append_17 rfl ?_
    refine g_aload_n (pc' := 21) C dX7_append_20 1 rfl rfl rfl ?_
    refine g_get (pc' := 24) C hi_X7 0 1 rfl rfl (by decide) (List.mem_of_getElem? (i := 1) rfl) rfl dX7_append_21 rfl ?_
    refine g_iload_n (pc' := 25) C dX7_append_24 2 rfl rfl rfl ?_
    refine g_iload_n (pc' := 26) C dX7_append_25 0 rfl rfl rfl ?_
    refine g_iushr (pc' := 27) (v := jushr v 24) C dX7_append_26 rfl rfl ?_
    refine g_sipush (pc' := 30) (v := 255) C dX7_append_27 (by decide) rfl ?_
    refine g_iand (pc' := 31) C dX7_append_30 rfl ?_
    refine g_iast (pc' := 32) (ws2 := [oTap X (nI tl), kA X 38 60 (upd f38 tl ((jushr v 24) &&& 255))]) C 1 tl rfl rfl (by omega) (by decide) dX7_append_31 rfl rfl ?_
    refine g_aload_n (pc' := 33) C dX7_append_32 1 rfl rfl rfl ?_
    refine g_dup (pc' := 34) C dX7_append_33 rfl rfl ?_
    refine g_get (pc' := 37) C hi_X7 0 1 rfl rfl (by decide) (List.mem_of_getElem? (i := 1) rfl) rfl dX7_append_34 rfl ?_
    refine g_iconst (pc' := 38) (v := 1) C dX7_append_37 rfl rfl ?_
    refine g_iaddV (pc' := 39) (v := nI (tl + 1)) C dX7_append_38 (by first | exact (nI_add _ _) | rfl) rfl ?_
    refine g_put (pc' := 42) (ws2 := [oTap X (nI (tl + 1)), kA X 38 60 (upd f38 tl ((jushr v 24) &&& 255))]) C hi_X7 tyX7 tyX7_ok nmX7 0 1 rfl rfl (by decide) (Nat.le_of_ble_eq_true rfl) rfl rfl (List.mem_of_getElem? (i := 1) rfl) dX7_append_39 rfl rfl ?_
    refine g_iinc (pc' := 45) (v := 16) (lv' := [(2, .int 16), (0, .ref (xa X 3)), (1, .int v)]) C dX7_append_42 0 rfl (by decide) (by decide) rfl rfl ?_
    refine g_goto (tgt := 3) C dX7_append_45 (by decide) ?_
    refine g_iload_n (pc' := 4) C dX7_append_3 0 rfl rfl rfl ?_
    refine g_if_lt (pc' := 7) (tgt := 48) C dX7_append_4 (by decide) rfl (fun h => absurd h (by decide)) (fun _ => ?_)
    refine g_aload_n (pc' := 8) C dX7_append_7 1 rfl rfl rfl ?_
    refine g_get (pc' := 11) C hi_X7 0 1 rfl rfl (by decide) (List.mem_of_getElem? (i := 1) rfl) rfl dX7_append_8 rfl ?_
    refine g_bipush (pc' := 13) (v := 60) C dX7_append_11 (by decide) rfl ?_
    refine g_icmp_geN (pc' := 16) (tgt := 42) C (tl + 1) 60 rfl rfl (by omega) (by omega) dX7_append_13 (by decide) rfl (fun c_13 => ?_) (fun c_13 => ?_)
    · exact absurd c_13 (by omega)
    · refine g_aload_n (pc' := 17) C dX7_append_16 1 rfl rfl rfl ?_
      refine g_get (pc' := 20) C hi_X7 0 0 rfl rfl (by decide) (List.mem_of_getElem? (i := 2) rfl) rfl dX7_append_17 rfl ?_
      refine g_aload_n (pc' := 21) C dX7_append_20 1 rfl rfl rfl ?_
      refine g_get (pc' := 24) C hi_X7 0 1 rfl rfl (by decide) (List.mem_of_getElem? (i := 1) rfl) rfl dX7_append_21 rfl ?_
      refine g_iload_n (pc' := 25) C dX7_append_24 2 rfl rfl rfl ?_
      refine g_iload_n (pc' := 26) C dX7_append_25 0 rfl rfl rfl ?_
      refine g_iushr (pc' := 27) (v := jushr v 16) C dX7_append_26 rfl rfl ?_
      refine g_sipush (pc' := 30) (v := 255) C dX7_append_27 (by decide) rfl ?_
      refine g_iand (pc' := 31) C dX7_append_30 rfl ?_
      refine g_iast (pc' := 32) (ws2 := [oTap X (nI (tl + 1)), kA X 38 60 (upd (upd f38 tl ((jushr v 24) &&& 255)) (tl + 1) ((jushr v 16) &&& 255))]) C 1 (tl + 1) rfl rfl (by omega) (by decide) dX7_append_31 rfl rfl ?_
      refine g_aload_n (pc' := 33) C dX7_append_32 1 rfl rfl rfl ?_
      refine g_dup (pc' := 34) C dX7_append_33 rfl rfl ?_
      refine g_get (pc' := 37) C hi_X7 0 1 rfl rfl (by decide) (List.mem_of_getElem? (i := 1) rfl) rfl dX7_append_34 rfl ?_
      refine g_iconst (pc' := 38) (v := 1) C dX7_append_37 rfl rfl ?_
      refine g_iaddV (pc' := 39) (v := nI (tl + 2)) C dX7_append_38 (by first | exact (nI_add _ _) | rfl) rfl ?_
      refine g_put (pc' := 42) (ws2 := [oTap X (nI (tl + 2)), kA X 38 60 (upd (upd f38 tl ((jushr v 24) &&& 255)) (tl + 1) ((jushr v 16) &&& 255))]) C hi_X7 tyX7 tyX7_ok nmX7 0 1 rfl rfl (by decide) (Nat.le_of_ble_eq_true rfl) rfl rfl (List.mem_of_getElem? (i := 1) rfl) dX7_append_39 rfl rfl ?_
      refine g_iinc (pc' := 45) (v := 8) (lv' := [(2, .int 8), (0, .ref (xa X 3)), (1, .int v)]) C dX7_append_42 0 rfl (by decide) (by decide) rfl rfl ?_
      refine g_goto (tgt := 3) C dX7_append_45 (by decide) ?_
      refine g_iload_n (pc' := 4) C dX7_append_3 0 rfl rfl rfl ?_
      refine g_if_lt (pc' := 7) (tgt := 48) C dX7_append_4 (by decide) rfl (fun h => absurd h (by decide)) (fun _ => ?_)
      refine g_aload_n (pc' := 8) C dX7_append_7 1 rfl rfl rfl ?_
      refine g_get (pc' := 11) C hi_X7 0 1 rfl rfl (by decide) (List.mem_of_getElem? (i := 1) rfl) rfl dX7_append_8 rfl ?_
      refine g_bipush (pc' := 13) (v := 60) C dX7_append_11 (by decide) rfl ?_
      refine g_icmp_geN (pc' := 16) (tgt := 42) C (tl + 2) 60 rfl rfl (by omega) (by omega) dX7_append_13 (by decide) rfl (fun c_13 => ?_) (fun c_13 => ?_)
      · exact absurd c_13 (by omega)
      · refine g_aload_n (pc' := 17) C dX7_append_16 1 rfl rfl rfl ?_
        refine g_get (pc' := 20) C hi_X7 0 0 rfl rfl (by decide) (List.mem_of_getElem? (i := 2) rfl) rfl dX7_append_17 rfl ?_
        refine g_aload_n (pc' := 21) C dX7_append_20 1 rfl rfl rfl ?_
        refine g_get (pc' := 24) C hi_X7 0 1 rfl rfl (by decide) (List.mem_of_getElem? (i := 1) rfl) rfl dX7_append_21 rfl ?_
        refine g_iload_n (pc' := 25) C dX7_append_24 2 rfl rfl rfl ?_
        refine g_iload_n (pc' := 26) C dX7_append_25 0 rfl rfl rfl ?_
        refine g_iushr (pc' := 27) (v := jushr v 8) C dX7_append_26 rfl rfl ?_
        refine g_sipush (pc' := 30) (v := 255) C dX7_append_27 (by decide) rfl ?_
        refine g_iand (pc' := 31) C dX7_append_30 rfl ?_
        refine g_iast (pc' := 32) (ws2 := [oTap X (nI (tl + 2)), kA X 38 60 (upd (upd (upd f38 tl ((jushr v 24) &&& 255)) (tl + 1) ((jushr v 16) &&& 255)) (tl + 2) ((jushr v 8) &&& 255))]) C 1 (tl + 2) rfl rfl (by omega) (by decide) dX7_append_31 rfl rfl ?_
        refine g_aload_n (pc' := 33) C dX7_append_32 1 rfl rfl rfl ?_
        refine g_dup (pc' := 34) C dX7_append_33 rfl rfl ?_
        refine g_get (pc' := 37) C hi_X7 0 1 rfl rfl (by decide) (List.mem_of_getElem? (i := 1) rfl) rfl dX7_append_34 rfl ?_
        refine g_iconst (pc' := 38) (v := 1) C dX7_append_37 rfl rfl ?_
        refine g_iaddV (pc' := 39) (v := nI (tl + 3)) C dX7_append_38 (by first | exact (nI_add _ _) | rfl) rfl ?_
        refine g_put (pc' := 42) (ws2 := [oTap X (nI (tl + 3)), kA X 38 60 (upd (upd (upd f38 tl ((jushr v 24) &&& 255)) (tl + 1) ((jushr v 16) &&& 255)) (tl + 2) ((jushr v 8) &&& 255))]) C hi_X7 tyX7 tyX7_ok nmX7 0 1 rfl rfl (by decide) (Nat.le_of_ble_eq_true rfl) rfl rfl (List.mem_of_getElem? (i := 1) rfl) dX7_append_39 rfl rfl ?_
        refine g_iinc (pc' := 45) (v := 0) (lv' := [(2, .int 0), (0, .ref (xa X 3)), (1, .int v)]) C dX7_append_42 0 rfl (by decide) (by decide) rfl rfl ?_
        refine g_goto (tgt := 3) C dX7_append_45 (by decide) ?_
        refine g_iload_n (pc' := 4) C dX7_append_3 0 rfl rfl rfl ?_
        refine g_if_lt (pc' := 7) (tgt := 48) C dX7_append_4 (by decide) rfl (fun h => absurd h (by decide)) (fun _ => ?_)
        refine g_aload_n (pc' := 8) C dX7_append_7 1 rfl rfl rfl ?_
        refine g_get (pc' := 11) C hi_X7 0 1 rfl rfl (by decide) (List.mem_of_getElem? (i := 1) rfl) rfl dX7_append_8 rfl ?_
        refine g_bipush (pc' := 13) (v := 60) C dX7_append_11 (by decide) rfl ?_
        refine g_icmp_geN (pc' := 16) (tgt := 42) C (tl + 3) 60 rfl rfl (by omega) (by omega) dX7_append_13 (by decide) rfl (fun c_13 => ?_) (fun c_13 => ?_)
        · exact absurd c_13 (by omega)
        · refine g_aload_n (pc' := 17) C dX7_append_16 1 rfl rfl rfl ?_
          refine g_get (pc' := 20) C hi_X7 0 0 rfl rfl (by decide) (List.mem_of_getElem? (i := 2) rfl) rfl dX7_append_17 rfl ?_
          refine g_aload_n (pc' := 21) C dX7_append_20 1 rfl rfl rfl ?_
          refine g_get (pc' := 24) C hi_X7 0 1 rfl rfl (by decide) (List.mem_of_getElem? (i := 1) rfl) rfl dX7_append_21 rfl ?_
          refine g_iload_n (pc' := 25) C dX7_append_24 2 rfl rfl rfl ?_
          refine g_iload_n (pc' := 26) C dX7_append_25 0 rfl rfl rfl ?_
          refine g_iushr (pc' := 27) (v := jushr v 0) C dX7_append_26 rfl rfl ?_
          refine g_sipush (pc' := 30) (v := 255) C dX7_append_27 (by decide) rfl ?_
          refine g_iand (pc' := 31) C dX7_append_30 rfl ?_
          refine g_iast (pc' := 32) (ws2 := [oTap X (nI (tl + 3)), kA X 38 60 (upd (upd (upd (upd f38 tl ((jushr v 24) &&& 255)) (tl + 1) ((jushr v 16) &&& 255)) (tl + 2) ((jushr v 8) &&& 255)) (tl + 3) ((jushr v 0) &&& 255))]) C 1 (tl + 3) rfl rfl (by omega) (by decide) dX7_append_31 rfl rfl ?_
          refine g_aload_n (pc' := 33) C dX7_append_32 1 rfl rfl rfl ?_
          refine g_dup (pc' := 34) C dX7_append_33 rfl rfl ?_
          refine g_get (pc' := 37) C hi_X7 0 1 rfl rfl (by decide) (List.mem_of_getElem? (i := 1) rfl) rfl dX7_append_34 rfl ?_
          refine g_iconst (pc' := 38) (v := 1) C dX7_append_37 rfl rfl ?_
          refine g_iaddV (pc' := 39) (v := nI (tl + 4)) C dX7_append_38 (by first | exact (nI_add _ _) | rfl) rfl ?_
          refine g_put (pc' := 42) (ws2 := [oTap X (nI (tl + 4)), kA X 38 60 (upd (upd (upd (upd f38 tl ((jushr v 24) &&& 255)) (tl + 1) ((jushr v 16) &&& 255)) (tl + 2) ((jushr v 8) &&& 255)) (tl + 3) ((jushr v 0) &&& 255))]) C hi_X7 tyX7 tyX7_ok nmX7 0 1 rfl rfl (by decide) (Nat.le_of_ble_eq_true rfl) rfl rfl (List.mem_of_getElem? (i := 1) rfl) dX7_append_39 rfl rfl ?_
          refine g_iinc (pc' := 45) (v := (-8)) (lv' := [(2, .int (-8)), (0, .ref (xa X 3)), (1, .int v)]) C dX7_append_42 0 rfl (by decide) (by decide) rfl rfl ?_
          refine g_goto (tgt := 3) C dX7_append_45 (by decide) ?_
          refine g_iload_n (pc' := 4) C dX7_append_3 0 rfl rfl rfl ?_
          refine g_if_lt (pc' := 7) (tgt := 48) C dX7_append_4 (by decide) rfl (fun _ => ?_) (fun h => absurd h (by decide))
          exact g_vret C hr dX7_append_48 (congrArg (fun zq_ : Nat → Int32 => ([oTap X (nI (tl + 4)), kA X 38 60 zq_] : va_W)) (show (upd (upd (upd (upd f38 tl ((jushr v 24) &&& 255)) (tl + 1) ((jushr v 16) &&& 255)) (tl + 2) ((jushr v 8) &&& 255)) (tl + 3) ((jushr v 0) &&& 255) : Nat → Int32) = ap4 f38 tl v from (by first | rfl | omega | (simp [c_13, c_13, c_13, c_13]; done) | (simp [c_13, c_13, c_13, c_13]; omega) | (simp [c_13, c_13, c_13, c_13]; intros; exfalso; omega) | grind [])))

set_option maxHeartbeats 1000000 in
set_option maxRecDepth 20000 in
theorem c_X7_isPartOfWord (l : Launch) (X : gX) (tl : Nat) (f38 : Nat → Int32) (k : Nat) (hk : k < 60) : KC l yX7_isPartOfWord wsX7_isPartOfWord ⟨0, 0, 0, 0⟩ [.ref (xa X 3), .int (nI k)] X [oTap X (nI tl), kA X 38 60 f38] (some (.int (bz (¬ f38 k = 32 ∧ ¬ f38 k = 44)))) [oTap X (nI tl), kA X 38 60 f38] := by
  have hi_X7 : ∀ w ∈ u_ws RX7 TX7 2, w ∈ wsX7_isPartOfWord := fun w h => List.mem_cons_of_mem _ (List.mem_append_right _ h)
  refine KC.of cX7_isPartOfWord 2 (some .boolean) RX7 rfl (by decide) rfl (lv := [(0, .ref (xa X 3)), (1, .int (nI k))]) rfl (Nat.le_of_ble_eq_true rfl) ?_
  intro p e s m args below meth c A C hr
  refine g_aload_n (pc' := 1) C dX7_isPartOfWord_0 0 rfl rfl rfl ?_
  refine g_get (pc' := 4) C hi_X7 0 0 rfl rfl (by decide) (List.mem_of_getElem? (i := 1) rfl) rfl dX7_isPartOfWord_1 rfl ?_
  refine g_iload_n (pc' := 5) C dX7_isPartOfWord_4 1 rfl rfl rfl ?_
  refine g_iald (pc' := 6) C 1 k rfl rfl (by omega) (by decide) dX7_isPartOfWord_5 rfl ?_
  refine g_bipush (pc' := 8) (v := 32) C dX7_isPartOfWord_6 (by decide) rfl ?_
  refine g_icmp_eq (pc' := 11) (tgt := 26) C dX7_isPartOfWord_8 (by decide) rfl (fun c_8 => ?_) (fun c_8 => ?_)
  · refine g_iconst (pc' := 27) (v := 0) C dX7_isPartOfWord_26 rfl rfl ?_
    exact g_zret C hr rfl dX7_isPartOfWord_27 (by first | rfl | omega | (simp [bz, c_8]; done) | (simp [bz, c_8]; omega) | (simp [bz, c_8]; intros; exfalso; omega) | grind [bz]) rfl
  · refine g_aload_n (pc' := 12) C dX7_isPartOfWord_11 0 rfl rfl rfl ?_
    refine g_get (pc' := 15) C hi_X7 0 0 rfl rfl (by decide) (List.mem_of_getElem? (i := 1) rfl) rfl dX7_isPartOfWord_12 rfl ?_
    refine g_iload_n (pc' := 16) C dX7_isPartOfWord_15 1 rfl rfl rfl ?_
    refine g_iald (pc' := 17) C 1 k rfl rfl (by omega) (by decide) dX7_isPartOfWord_16 rfl ?_
    refine g_bipush (pc' := 19) (v := 44) C dX7_isPartOfWord_17 (by decide) rfl ?_
    refine g_icmp_eq (pc' := 22) (tgt := 26) C dX7_isPartOfWord_19 (by decide) rfl (fun c_19 => ?_) (fun c_19 => ?_)
    · refine g_iconst (pc' := 27) (v := 0) C dX7_isPartOfWord_26 rfl rfl ?_
      exact g_zret C hr rfl dX7_isPartOfWord_27 (by first | rfl | omega | (simp [bz, c_8, c_19]; done) | (simp [bz, c_8, c_19]; omega) | (simp [bz, c_8, c_19]; intros; exfalso; omega) | grind [bz]) rfl
    · refine g_iconst (pc' := 23) (v := 1) C dX7_isPartOfWord_22 rfl rfl ?_
      refine g_goto (tgt := 27) C dX7_isPartOfWord_23 (by decide) ?_
      exact g_zret C hr rfl dX7_isPartOfWord_27 (by first | rfl | omega | (simp [bz, c_8, c_19]; done) | (simp [bz, c_8, c_19]; omega) | (simp [bz, c_8, c_19]; intros; exfalso; omega) | grind [bz]) rfl

set_option maxHeartbeats 1000000 in
set_option maxRecDepth 20000 in
theorem c_X0_noteChange (l : Launch) (X : gX) (cg : Nat) (td : Int32) (f10 : Nat → Int32) (hc : cg < 980) : KC l yX0_noteChange wsX0_noteChange ⟨0, 0, 0, 0⟩ [.ref (xa X 1)] X [oCal X (nI cg) td, kA X 10 980 f10] none [oCal X (nI (ncN f10 cg td)) td, kA X 10 980 (ncA f10 cg td)] := by
  have hi_X0 : ∀ w ∈ u_ws RX0 TX0 3, w ∈ wsX0_noteChange := fun w h => List.mem_cons_of_mem _ (List.mem_append_right _ h)
  refine KC.of cX0_noteChange 2 none RX0 rfl (by decide) rfl (lv := [(0, .ref (xa X 1))]) rfl (Nat.le_of_ble_eq_true rfl) ?_
  intro p e s m args below meth c A C hr
  refine g_aload_n (pc' := 1) C dX0_noteChange_0 0 rfl rfl rfl ?_
  refine g_get (pc' := 4) C hi_X0 0 1 rfl rfl (by decide) (List.mem_of_getElem? (i := 1) rfl) rfl dX0_noteChange_1 rfl ?_
  refine g_if_leN (pc' := 7) (tgt := 29) C cg rfl (by omega) dX0_noteChange_4 (by decide) rfl (fun c_4 => ?_) (fun c_4 => ?_)
  · refine g_iconst (pc' := 30) (v := 0) C dX0_noteChange_29 rfl rfl ?_
    refine g_istore_n (pc' := 31) (lv' := [(1, .int 0), (0, .ref (xa X 1))]) C dX0_noteChange_30 rfl (by decide) rfl rfl ?_
    refine g_iload_n (pc' := 32) C dX0_noteChange_31 0 rfl rfl rfl ?_
    refine g_if_ne (pc' := 35) (tgt := 68) C dX0_noteChange_32 (by decide) rfl (fun h => absurd h (by decide)) (fun _ => ?_)
    refine g_aload_n (pc' := 36) C dX0_noteChange_35 1 rfl rfl rfl ?_
    refine g_get (pc' := 39) C hi_X0 0 1 rfl rfl (by decide) (List.mem_of_getElem? (i := 1) rfl) rfl dX0_noteChange_36 rfl ?_
    refine g_sipush (pc' := 42) (v := 980) C dX0_noteChange_39 (by decide) rfl ?_
    refine g_icmp_geN (pc' := 45) (tgt := 68) C cg 980 rfl rfl (by omega) (by omega) dX0_noteChange_42 (by decide) rfl (fun c_42 => ?_) (fun c_42 => ?_)
    · exact absurd c_42 (by omega)
    · refine g_aload_n (pc' := 46) C dX0_noteChange_45 1 rfl rfl rfl ?_
      refine g_get (pc' := 49) C hi_X0 0 0 rfl rfl (by decide) (List.mem_of_getElem? (i := 2) rfl) rfl dX0_noteChange_46 rfl ?_
      refine g_aload_n (pc' := 50) C dX0_noteChange_49 1 rfl rfl rfl ?_
      refine g_get (pc' := 53) C hi_X0 0 1 rfl rfl (by decide) (List.mem_of_getElem? (i := 1) rfl) rfl dX0_noteChange_50 rfl ?_
      refine g_aload_n (pc' := 54) C dX0_noteChange_53 1 rfl rfl rfl ?_
      refine g_get (pc' := 57) C hi_X0 0 2 rfl rfl (by decide) (List.mem_of_getElem? (i := 3) rfl) rfl dX0_noteChange_54 rfl ?_
      refine g_iast (pc' := 58) (ws2 := [oCal X (nI cg) td, kA X 10 980 (upd f10 cg td)]) C 1 cg rfl rfl (by omega) (by decide) dX0_noteChange_57 rfl rfl ?_
      refine g_aload_n (pc' := 59) C dX0_noteChange_58 1 rfl rfl rfl ?_
      refine g_dup (pc' := 60) C dX0_noteChange_59 rfl rfl ?_
      refine g_get (pc' := 63) C hi_X0 0 1 rfl rfl (by decide) (List.mem_of_getElem? (i := 1) rfl) rfl dX0_noteChange_60 rfl ?_
      refine g_iconst (pc' := 64) (v := 1) C dX0_noteChange_63 rfl rfl ?_
      refine g_iaddV (pc' := 65) (v := nI (cg + 1)) C dX0_noteChange_64 (by first | exact (nI_add _ _) | rfl) rfl ?_
      refine g_put (pc' := 68) (ws2 := [oCal X (nI (cg + 1)) td, kA X 10 980 (upd f10 cg td)]) C hi_X0 tyX0 tyX0_ok nmX0 0 1 rfl rfl (by decide) (Nat.le_of_ble_eq_true rfl) rfl rfl (List.mem_of_getElem? (i := 1) rfl) dX0_noteChange_65 rfl rfl ?_
      exact g_vret C hr dX0_noteChange_68 ((congrArg (fun zq_ : Int32 => ([oCal X zq_ td, kA X 10 980 (upd f10 cg td)] : va_W)) (show (nI (cg + 1) : Int32) = nI (ncN f10 cg td) from (by first | rfl | omega | (simp [ncA, ncN, ncB, c_4, c_42]; done) | (simp [ncA, ncN, ncB, c_4, c_42]; omega) | (simp [ncA, ncN, ncB, c_4, c_42]; intros; exfalso; omega) | grind [ncA, ncN, ncB]))).trans (congrArg (fun zq_ : Nat → Int32 => ([oCal X (nI (ncN f10 cg td)) td, kA X 10 980 zq_] : va_W)) (show (upd f10 cg td : Nat → Int32) = ncA f10 cg td from (by first | rfl | omega | (simp [ncA, ncN, ncB, c_4, c_42]; done) | (simp [ncA, ncN, ncB, c_4, c_42]; omega) | (simp [ncA, ncN, ncB, c_4, c_42]; intros; exfalso; omega) | grind [ncA, ncN, ncB]))))
  · refine g_aload_n (pc' := 8) C dX0_noteChange_7 0 rfl rfl rfl ?_
    refine g_get (pc' := 11) C hi_X0 0 0 rfl rfl (by decide) (List.mem_of_getElem? (i := 2) rfl) rfl dX0_noteChange_8 rfl ?_
    refine g_aload_n (pc' := 12) C dX0_noteChange_11 0 rfl rfl rfl ?_
    refine g_get (pc' := 15) C hi_X0 0 1 rfl rfl (by decide) (List.mem_of_getElem? (i := 1) rfl) rfl dX0_noteChange_12 rfl ?_
    refine g_iconst (pc' := 16) (v := 1) C dX0_noteChange_15 rfl rfl ?_
    refine g_isubV (pc' := 17) (v := nI (cg - 1)) C dX0_noteChange_16 (pk_sub (a := cg) (b := 1) (by omega)) rfl ?_
    refine g_iald (pc' := 18) C 1 (cg - 1) rfl rfl (by omega) (by decide) dX0_noteChange_17 rfl ?_
    refine g_aload_n (pc' := 19) C dX0_noteChange_18 0 rfl rfl rfl ?_
    refine g_get (pc' := 22) C hi_X0 0 2 rfl rfl (by decide) (List.mem_of_getElem? (i := 3) rfl) rfl dX0_noteChange_19 rfl ?_
    refine g_icmp_ne (pc' := 25) (tgt := 29) C dX0_noteChange_22 (by decide) rfl (fun c_22 => ?_) (fun c_22 => ?_)
    · refine g_iconst (pc' := 30) (v := 0) C dX0_noteChange_29 rfl rfl ?_
      refine g_istore_n (pc' := 31) (lv' := [(1, .int 0), (0, .ref (xa X 1))]) C dX0_noteChange_30 rfl (by decide) rfl rfl ?_
      refine g_iload_n (pc' := 32) C dX0_noteChange_31 0 rfl rfl rfl ?_
      refine g_if_ne (pc' := 35) (tgt := 68) C dX0_noteChange_32 (by decide) rfl (fun h => absurd h (by decide)) (fun _ => ?_)
      refine g_aload_n (pc' := 36) C dX0_noteChange_35 1 rfl rfl rfl ?_
      refine g_get (pc' := 39) C hi_X0 0 1 rfl rfl (by decide) (List.mem_of_getElem? (i := 1) rfl) rfl dX0_noteChange_36 rfl ?_
      refine g_sipush (pc' := 42) (v := 980) C dX0_noteChange_39 (by decide) rfl ?_
      refine g_icmp_geN (pc' := 45) (tgt := 68) C cg 980 rfl rfl (by omega) (by omega) dX0_noteChange_42 (by decide) rfl (fun c_42 => ?_) (fun c_42 => ?_)
      · exact absurd c_42 (by omega)
      · refine g_aload_n (pc' := 46) C dX0_noteChange_45 1 rfl rfl rfl ?_
        refine g_get (pc' := 49) C hi_X0 0 0 rfl rfl (by decide) (List.mem_of_getElem? (i := 2) rfl) rfl dX0_noteChange_46 rfl ?_
        refine g_aload_n (pc' := 50) C dX0_noteChange_49 1 rfl rfl rfl ?_
        refine g_get (pc' := 53) C hi_X0 0 1 rfl rfl (by decide) (List.mem_of_getElem? (i := 1) rfl) rfl dX0_noteChange_50 rfl ?_
        refine g_aload_n (pc' := 54) C dX0_noteChange_53 1 rfl rfl rfl ?_
        refine g_get (pc' := 57) C hi_X0 0 2 rfl rfl (by decide) (List.mem_of_getElem? (i := 3) rfl) rfl dX0_noteChange_54 rfl ?_
        refine g_iast (pc' := 58) (ws2 := [oCal X (nI cg) td, kA X 10 980 (upd f10 cg td)]) C 1 cg rfl rfl (by omega) (by decide) dX0_noteChange_57 rfl rfl ?_
        refine g_aload_n (pc' := 59) C dX0_noteChange_58 1 rfl rfl rfl ?_
        refine g_dup (pc' := 60) C dX0_noteChange_59 rfl rfl ?_
        refine g_get (pc' := 63) C hi_X0 0 1 rfl rfl (by decide) (List.mem_of_getElem? (i := 1) rfl) rfl dX0_noteChange_60 rfl ?_
        refine g_iconst (pc' := 64) (v := 1) C dX0_noteChange_63 rfl rfl ?_
        refine g_iaddV (pc' := 65) (v := nI (cg + 1)) C dX0_noteChange_64 (by first | exact (nI_add _ _) | rfl) rfl ?_
        refine g_put (pc' := 68) (ws2 := [oCal X (nI (cg + 1)) td, kA X 10 980 (upd f10 cg td)]) C hi_X0 tyX0 tyX0_ok nmX0 0 1 rfl rfl (by decide) (Nat.le_of_ble_eq_true rfl) rfl rfl (List.mem_of_getElem? (i := 1) rfl) dX0_noteChange_65 rfl rfl ?_
        exact g_vret C hr dX0_noteChange_68 ((congrArg (fun zq_ : Int32 => ([oCal X zq_ td, kA X 10 980 (upd f10 cg td)] : va_W)) (show (nI (cg + 1) : Int32) = nI (ncN f10 cg td) from (by first | rfl | omega | (simp [ncA, ncN, ncB, c_4, c_22, c_42]; done) | (simp [ncA, ncN, ncB, c_4, c_22, c_42]; omega) | (simp [ncA, ncN, ncB, c_4, c_22, c_42]; intros; exfalso; omega) | grind [ncA, ncN, ncB]))).trans (congrArg (fun zq_ : Nat → Int32 => ([oCal X (nI (ncN f10 cg td)) td, kA X 10 980 zq_] : va_W)) (show (upd f10 cg td : Nat → Int32) = ncA f10 cg td from (by first | rfl | omega | (simp [ncA, ncN, ncB, c_4, c_22, c_42]; done) | (simp [ncA, ncN, ncB, c_4, c_22, c_42]; omega) | (simp [ncA, ncN, ncB, c_4, c_22, c_42]; intros; exfalso; omega) | grind [ncA, ncN, ncB]))))
    · refine g_iconst (pc' := 26) (v := 1) C dX0_noteChange_25 rfl rfl ?_
      refine g_goto (tgt := 30) C dX0_noteChange_26 (by decide) ?_
      refine g_istore_n (pc' := 31) (lv' := [(1, .int 1), (0, .ref (xa X 1))]) C dX0_noteChange_30 rfl (by decide) rfl rfl ?_
      refine g_iload_n (pc' := 32) C dX0_noteChange_31 0 rfl rfl rfl ?_
      refine g_if_ne (pc' := 35) (tgt := 68) C dX0_noteChange_32 (by decide) rfl (fun _ => ?_) (fun h => absurd h (by decide))
      exact g_vret C hr dX0_noteChange_68 ((congrArg (fun zq_ : Int32 => ([oCal X zq_ td, kA X 10 980 f10] : va_W)) (show (nI cg : Int32) = nI (ncN f10 cg td) from (by first | rfl | omega | (simp [ncA, ncN, ncB, c_4, c_22]; done) | (simp [ncA, ncN, ncB, c_4, c_22]; omega) | (simp [ncA, ncN, ncB, c_4, c_22]; intros; exfalso; omega) | grind [ncA, ncN, ncB]))).trans (congrArg (fun zq_ : Nat → Int32 => ([oCal X (nI (ncN f10 cg td)) td, kA X 10 980 zq_] : va_W)) (show (f10 : Nat → Int32) = ncA f10 cg td from (by first | rfl | omega | (simp [ncA, ncN, ncB, c_4, c_22]; done) | (simp [ncA, ncN, ncB, c_4, c_22]; omega) | (simp [ncA, ncN, ncB, c_4, c_22]; intros; exfalso; omega) | grind [ncA, ncN, ncB]))))

set_option maxHeartbeats 1000000 in
set_option maxRecDepth 20000 in
theorem c_X8_add (l : Launch) (X : gX) (wn : Nat) (f39 : Nat → Int32) (f40 : Nat → Int32) (f41 : Nat → Int32) (f42 : Nat → Int32) (a0 : Int32) (a1 : Int32) (a2 : Int32) (a3 : Int32) (hn : wn < 40) : KC l yX8_add wsX8_add ⟨0, 0, 0, 0⟩ [.ref (xa X 6), .int a0, .int a1, .int a2, .int a3] X [oWds X (nI wn), kA X 39 40 f39, kA X 40 40 f40, kA X 41 40 f41, kA X 42 40 f42] none [oWds X (nI (wn + 1)), kA X 39 40 (upd f39 wn a0), kA X 40 40 (upd f40 wn a1), kA X 41 40 (upd f41 wn a2), kA X 42 40 (upd f42 wn a3)] := by
  have hi_X8 : ∀ w ∈ u_ws RX8 TX8 7, w ∈ wsX8_add := fun w h => List.mem_cons_of_mem _ (List.mem_append_right _ h)
  refine KC.of cX8_add 5 none RX8 rfl (by decide) rfl (lv := [(0, .ref (xa X 6)), (1, .int a0), (2, .int a1), (3, .int a2), (4, .int a3)]) rfl (Nat.le_of_ble_eq_true rfl) ?_
  intro p e s m args below meth c A C hr
  refine g_aload_n (pc' := 1) C dX8_add_0 0 rfl rfl rfl ?_
  refine g_get (pc' := 4) C hi_X8 0 6 rfl rfl (by decide) (List.mem_of_getElem? (i := 1) rfl) rfl dX8_add_1 rfl ?_
  refine g_bipush (pc' := 6) (v := 40) C dX8_add_4 (by decide) rfl ?_
  refine g_icmp_geN (pc' := 9) (tgt := 60) C wn 40 rfl rfl (by omega) (by omega) dX8_add_6 (by decide) rfl (fun c_6 => ?_) (fun c_6 => ?_)
  · exact absurd c_6 (by omega)
  · refine g_aload_n (pc' := 10) C dX8_add_9 0 rfl rfl rfl ?_
    refine g_get (pc' := 13) C hi_X8 0 0 rfl rfl (by decide) (List.mem_of_getElem? (i := 2) rfl) rfl dX8_add_10 rfl ?_
    refine g_aload_n (pc' := 14) C dX8_add_13 0 rfl rfl rfl ?_
    refine g_get (pc' := 17) C hi_X8 0 6 rfl rfl (by decide) (List.mem_of_getElem? (i := 1) rfl) rfl dX8_add_14 rfl ?_
    refine g_iload_n (pc' := 18) C dX8_add_17 1 rfl rfl rfl ?_
    refine g_iast (pc' := 19) (ws2 := [oWds X (nI wn), kA X 39 40 (upd f39 wn a0), kA X 40 40 f40, kA X 41 40 f41, kA X 42 40 f42]) C 1 wn rfl rfl (by omega) (by decide) dX8_add_18 rfl rfl ?_
    refine g_aload_n (pc' := 20) C dX8_add_19 0 rfl rfl rfl ?_
    refine g_get (pc' := 23) C hi_X8 0 1 rfl rfl (by decide) (List.mem_of_getElem? (i := 3) rfl) rfl dX8_add_20 rfl ?_
    refine g_aload_n (pc' := 24) C dX8_add_23 0 rfl rfl rfl ?_
    refine g_get (pc' := 27) C hi_X8 0 6 rfl rfl (by decide) (List.mem_of_getElem? (i := 1) rfl) rfl dX8_add_24 rfl ?_
    refine g_iload_n (pc' := 28) C dX8_add_27 2 rfl rfl rfl ?_
    refine g_iast (pc' := 29) (ws2 := [oWds X (nI wn), kA X 39 40 (upd f39 wn a0), kA X 40 40 (upd f40 wn a1), kA X 41 40 f41, kA X 42 40 f42]) C 2 wn rfl rfl (by omega) (by decide) dX8_add_28 rfl rfl ?_
    refine g_aload_n (pc' := 30) C dX8_add_29 0 rfl rfl rfl ?_
    refine g_get (pc' := 33) C hi_X8 0 2 rfl rfl (by decide) (List.mem_of_getElem? (i := 4) rfl) rfl dX8_add_30 rfl ?_
    refine g_aload_n (pc' := 34) C dX8_add_33 0 rfl rfl rfl ?_
    refine g_get (pc' := 37) C hi_X8 0 6 rfl rfl (by decide) (List.mem_of_getElem? (i := 1) rfl) rfl dX8_add_34 rfl ?_
    refine g_iload_n (pc' := 38) C dX8_add_37 3 rfl rfl rfl ?_
    refine g_iast (pc' := 39) (ws2 := [oWds X (nI wn), kA X 39 40 (upd f39 wn a0), kA X 40 40 (upd f40 wn a1), kA X 41 40 (upd f41 wn a2), kA X 42 40 f42]) C 3 wn rfl rfl (by omega) (by decide) dX8_add_38 rfl rfl ?_
    refine g_aload_n (pc' := 40) C dX8_add_39 0 rfl rfl rfl ?_
    refine g_get (pc' := 43) C hi_X8 0 3 rfl rfl (by decide) (List.mem_of_getElem? (i := 5) rfl) rfl dX8_add_40 rfl ?_
    refine g_aload_n (pc' := 44) C dX8_add_43 0 rfl rfl rfl ?_
    refine g_get (pc' := 47) C hi_X8 0 6 rfl rfl (by decide) (List.mem_of_getElem? (i := 1) rfl) rfl dX8_add_44 rfl ?_
    refine g_iload (pc' := 49) C dX8_add_47 4 rfl rfl ?_
    refine g_iast (pc' := 50) (ws2 := [oWds X (nI wn), kA X 39 40 (upd f39 wn a0), kA X 40 40 (upd f40 wn a1), kA X 41 40 (upd f41 wn a2), kA X 42 40 (upd f42 wn a3)]) C 4 wn rfl rfl (by omega) (by decide) dX8_add_49 rfl rfl ?_
    refine g_aload_n (pc' := 51) C dX8_add_50 0 rfl rfl rfl ?_
    refine g_dup (pc' := 52) C dX8_add_51 rfl rfl ?_
    refine g_get (pc' := 55) C hi_X8 0 6 rfl rfl (by decide) (List.mem_of_getElem? (i := 1) rfl) rfl dX8_add_52 rfl ?_
    refine g_iconst (pc' := 56) (v := 1) C dX8_add_55 rfl rfl ?_
    refine g_iaddV (pc' := 57) (v := nI (wn + 1)) C dX8_add_56 (by first | exact (nI_add _ _) | rfl) rfl ?_
    refine g_put (pc' := 60) (ws2 := [oWds X (nI (wn + 1)), kA X 39 40 (upd f39 wn a0), kA X 40 40 (upd f40 wn a1), kA X 41 40 (upd f41 wn a2), kA X 42 40 (upd f42 wn a3)]) C hi_X8 tyX8 tyX8_ok nmX8 0 6 rfl rfl (by decide) (Nat.le_of_ble_eq_true rfl) rfl rfl (List.mem_of_getElem? (i := 1) rfl) dX8_add_57 rfl rfl ?_
    exact g_vret C hr dX8_add_60 rfl

set_option maxHeartbeats 1000000 in
set_option maxRecDepth 20000 in
theorem c_X1_add (l : Launch) (X : gX) (dn : Nat) (f11 : Nat → Int32) (f12 : Nat → Int32) (f13 : Nat → Int32) (f14 : Nat → Int32) (a0 : Int32) (a1 : Int32) (a2 : Int32) (a3 : Int32) (hn : dn < 40) : KC l yX1_add wsX1_add ⟨0, 0, 0, 0⟩ [.ref (xa X 7), .int a0, .int a1, .int a2, .int a3] X [oDcr X (nI dn), kA X 11 40 f11, kA X 12 40 f12, kA X 13 40 f13, kA X 14 40 f14] none [oDcr X (nI (dn + 1)), kA X 11 40 (upd f11 dn a0), kA X 12 40 (upd f12 dn a1), kA X 13 40 (upd f13 dn a2), kA X 14 40 (upd f14 dn a3)] := by
  have hi_X1 : ∀ w ∈ u_ws RX1 TX1 5, w ∈ wsX1_add := fun w h => List.mem_cons_of_mem _ (List.mem_append_right _ h)
  refine KC.of cX1_add 5 none RX1 rfl (by decide) rfl (lv := [(0, .ref (xa X 7)), (1, .int a0), (2, .int a1), (3, .int a2), (4, .int a3)]) rfl (Nat.le_of_ble_eq_true rfl) ?_
  intro p e s m args below meth c A C hr
  refine g_aload_n (pc' := 1) C dX1_add_0 0 rfl rfl rfl ?_
  refine g_get (pc' := 4) C hi_X1 0 4 rfl rfl (by decide) (List.mem_of_getElem? (i := 1) rfl) rfl dX1_add_1 rfl ?_
  refine g_bipush (pc' := 6) (v := 40) C dX1_add_4 (by decide) rfl ?_
  refine g_icmp_geN (pc' := 9) (tgt := 60) C dn 40 rfl rfl (by omega) (by omega) dX1_add_6 (by decide) rfl (fun c_6 => ?_) (fun c_6 => ?_)
  · exact absurd c_6 (by omega)
  · refine g_aload_n (pc' := 10) C dX1_add_9 0 rfl rfl rfl ?_
    refine g_get (pc' := 13) C hi_X1 0 0 rfl rfl (by decide) (List.mem_of_getElem? (i := 2) rfl) rfl dX1_add_10 rfl ?_
    refine g_aload_n (pc' := 14) C dX1_add_13 0 rfl rfl rfl ?_
    refine g_get (pc' := 17) C hi_X1 0 4 rfl rfl (by decide) (List.mem_of_getElem? (i := 1) rfl) rfl dX1_add_14 rfl ?_
    refine g_iload_n (pc' := 18) C dX1_add_17 1 rfl rfl rfl ?_
    refine g_iast (pc' := 19) (ws2 := [oDcr X (nI dn), kA X 11 40 (upd f11 dn a0), kA X 12 40 f12, kA X 13 40 f13, kA X 14 40 f14]) C 1 dn rfl rfl (by omega) (by decide) dX1_add_18 rfl rfl ?_
    refine g_aload_n (pc' := 20) C dX1_add_19 0 rfl rfl rfl ?_
    refine g_get (pc' := 23) C hi_X1 0 1 rfl rfl (by decide) (List.mem_of_getElem? (i := 3) rfl) rfl dX1_add_20 rfl ?_
    refine g_aload_n (pc' := 24) C dX1_add_23 0 rfl rfl rfl ?_
    refine g_get (pc' := 27) C hi_X1 0 4 rfl rfl (by decide) (List.mem_of_getElem? (i := 1) rfl) rfl dX1_add_24 rfl ?_
    refine g_iload_n (pc' := 28) C dX1_add_27 2 rfl rfl rfl ?_
    refine g_iast (pc' := 29) (ws2 := [oDcr X (nI dn), kA X 11 40 (upd f11 dn a0), kA X 12 40 (upd f12 dn a1), kA X 13 40 f13, kA X 14 40 f14]) C 2 dn rfl rfl (by omega) (by decide) dX1_add_28 rfl rfl ?_
    refine g_aload_n (pc' := 30) C dX1_add_29 0 rfl rfl rfl ?_
    refine g_get (pc' := 33) C hi_X1 0 2 rfl rfl (by decide) (List.mem_of_getElem? (i := 4) rfl) rfl dX1_add_30 rfl ?_
    refine g_aload_n (pc' := 34) C dX1_add_33 0 rfl rfl rfl ?_
    refine g_get (pc' := 37) C hi_X1 0 4 rfl rfl (by decide) (List.mem_of_getElem? (i := 1) rfl) rfl dX1_add_34 rfl ?_
    refine g_iload_n (pc' := 38) C dX1_add_37 3 rfl rfl rfl ?_
    refine g_iast (pc' := 39) (ws2 := [oDcr X (nI dn), kA X 11 40 (upd f11 dn a0), kA X 12 40 (upd f12 dn a1), kA X 13 40 (upd f13 dn a2), kA X 14 40 f14]) C 3 dn rfl rfl (by omega) (by decide) dX1_add_38 rfl rfl ?_
    refine g_aload_n (pc' := 40) C dX1_add_39 0 rfl rfl rfl ?_
    refine g_get (pc' := 43) C hi_X1 0 3 rfl rfl (by decide) (List.mem_of_getElem? (i := 5) rfl) rfl dX1_add_40 rfl ?_
    refine g_aload_n (pc' := 44) C dX1_add_43 0 rfl rfl rfl ?_
    refine g_get (pc' := 47) C hi_X1 0 4 rfl rfl (by decide) (List.mem_of_getElem? (i := 1) rfl) rfl dX1_add_44 rfl ?_
    refine g_iload (pc' := 49) C dX1_add_47 4 rfl rfl ?_
    refine g_iast (pc' := 50) (ws2 := [oDcr X (nI dn), kA X 11 40 (upd f11 dn a0), kA X 12 40 (upd f12 dn a1), kA X 13 40 (upd f13 dn a2), kA X 14 40 (upd f14 dn a3)]) C 4 dn rfl rfl (by omega) (by decide) dX1_add_49 rfl rfl ?_
    refine g_aload_n (pc' := 51) C dX1_add_50 0 rfl rfl rfl ?_
    refine g_dup (pc' := 52) C dX1_add_51 rfl rfl ?_
    refine g_get (pc' := 55) C hi_X1 0 4 rfl rfl (by decide) (List.mem_of_getElem? (i := 1) rfl) rfl dX1_add_52 rfl ?_
    refine g_iconst (pc' := 56) (v := 1) C dX1_add_55 rfl rfl ?_
    refine g_iaddV (pc' := 57) (v := nI (dn + 1)) C dX1_add_56 (by first | exact (nI_add _ _) | rfl) rfl ?_
    refine g_put (pc' := 60) (ws2 := [oDcr X (nI (dn + 1)), kA X 11 40 (upd f11 dn a0), kA X 12 40 (upd f12 dn a1), kA X 13 40 (upd f13 dn a2), kA X 14 40 (upd f14 dn a3)]) C hi_X1 tyX1 tyX1_ok nmX1 0 4 rfl rfl (by decide) (Nat.le_of_ble_eq_true rfl) rfl rfl (List.mem_of_getElem? (i := 1) rfl) dX1_add_57 rfl rfl ?_
    exact g_vret C hr dX1_add_60 rfl

set_option maxHeartbeats 1000000 in
set_option maxRecDepth 20000 in
theorem c_X2_add (l : Launch) (X : gX) (ln : Nat) (f16 : Nat → Int32) (f17 : Nat → Int32) (f18 : Nat → Int32) (a0 : Int32) (a1 : Int32) (a2 : Int32) (hn : ln < 100) : KC l yX2_add wsX2_add ⟨0, 0, 0, 0⟩ [.ref (xa X 5), .int a0, .int a1, .int a2] X [oLns X (nI ln), kA X 16 100 f16, kA X 17 100 f17, kA X 18 100 f18] none [oLns X (nI (ln + 1)), kA X 16 100 (upd f16 ln a0), kA X 17 100 (upd f17 ln a1), kA X 18 100 (upd f18 ln a2)] := by
  have hi_X2 : ∀ w ∈ u_ws RX2 TX2 9, w ∈ wsX2_add := fun w h => List.mem_cons_of_mem _ (List.mem_append_right _ h)
  refine KC.of cX2_add 4 none RX2 rfl (by decide) rfl (lv := [(0, .ref (xa X 5)), (1, .int a0), (2, .int a1), (3, .int a2)]) rfl (Nat.le_of_ble_eq_true rfl) ?_
  intro p e s m args below meth c A C hr
  refine g_aload_n (pc' := 1) C dX2_add_0 0 rfl rfl rfl ?_
  refine g_get (pc' := 4) C hi_X2 0 8 rfl rfl (by decide) (List.mem_of_getElem? (i := 1) rfl) rfl dX2_add_1 rfl ?_
  refine g_bipush (pc' := 6) (v := 100) C dX2_add_4 (by decide) rfl ?_
  refine g_icmp_geN (pc' := 9) (tgt := 49) C ln 100 rfl rfl (by omega) (by omega) dX2_add_6 (by decide) rfl (fun c_6 => ?_) (fun c_6 => ?_)
  · exact absurd c_6 (by omega)
  · refine g_aload_n (pc' := 10) C dX2_add_9 0 rfl rfl rfl ?_
    refine g_get (pc' := 13) C hi_X2 0 1 rfl rfl (by decide) (List.mem_of_getElem? (i := 2) rfl) rfl dX2_add_10 rfl ?_
    refine g_aload_n (pc' := 14) C dX2_add_13 0 rfl rfl rfl ?_
    refine g_get (pc' := 17) C hi_X2 0 8 rfl rfl (by decide) (List.mem_of_getElem? (i := 1) rfl) rfl dX2_add_14 rfl ?_
    refine g_iload_n (pc' := 18) C dX2_add_17 1 rfl rfl rfl ?_
    refine g_iast (pc' := 19) (ws2 := [oLns X (nI ln), kA X 16 100 (upd f16 ln a0), kA X 17 100 f17, kA X 18 100 f18]) C 1 ln rfl rfl (by omega) (by decide) dX2_add_18 rfl rfl ?_
    refine g_aload_n (pc' := 20) C dX2_add_19 0 rfl rfl rfl ?_
    refine g_get (pc' := 23) C hi_X2 0 2 rfl rfl (by decide) (List.mem_of_getElem? (i := 3) rfl) rfl dX2_add_20 rfl ?_
    refine g_aload_n (pc' := 24) C dX2_add_23 0 rfl rfl rfl ?_
    refine g_get (pc' := 27) C hi_X2 0 8 rfl rfl (by decide) (List.mem_of_getElem? (i := 1) rfl) rfl dX2_add_24 rfl ?_
    refine g_iload_n (pc' := 28) C dX2_add_27 2 rfl rfl rfl ?_
    refine g_iast (pc' := 29) (ws2 := [oLns X (nI ln), kA X 16 100 (upd f16 ln a0), kA X 17 100 (upd f17 ln a1), kA X 18 100 f18]) C 2 ln rfl rfl (by omega) (by decide) dX2_add_28 rfl rfl ?_
    refine g_aload_n (pc' := 30) C dX2_add_29 0 rfl rfl rfl ?_
    refine g_get (pc' := 33) C hi_X2 0 3 rfl rfl (by decide) (List.mem_of_getElem? (i := 4) rfl) rfl dX2_add_30 rfl ?_
    refine g_aload_n (pc' := 34) C dX2_add_33 0 rfl rfl rfl ?_
    refine g_get (pc' := 37) C hi_X2 0 8 rfl rfl (by decide) (List.mem_of_getElem? (i := 1) rfl) rfl dX2_add_34 rfl ?_
    refine g_iload_n (pc' := 38) C dX2_add_37 3 rfl rfl rfl ?_
    refine g_iast (pc' := 39) (ws2 := [oLns X (nI ln), kA X 16 100 (upd f16 ln a0), kA X 17 100 (upd f17 ln a1), kA X 18 100 (upd f18 ln a2)]) C 3 ln rfl rfl (by omega) (by decide) dX2_add_38 rfl rfl ?_
    refine g_aload_n (pc' := 40) C dX2_add_39 0 rfl rfl rfl ?_
    refine g_dup (pc' := 41) C dX2_add_40 rfl rfl ?_
    refine g_get (pc' := 44) C hi_X2 0 8 rfl rfl (by decide) (List.mem_of_getElem? (i := 1) rfl) rfl dX2_add_41 rfl ?_
    refine g_iconst (pc' := 45) (v := 1) C dX2_add_44 rfl rfl ?_
    refine g_iaddV (pc' := 46) (v := nI (ln + 1)) C dX2_add_45 (by first | exact (nI_add _ _) | rfl) rfl ?_
    refine g_put (pc' := 49) (ws2 := [oLns X (nI (ln + 1)), kA X 16 100 (upd f16 ln a0), kA X 17 100 (upd f17 ln a1), kA X 18 100 (upd f18 ln a2)]) C hi_X2 tyX2 tyX2_ok nmX2 0 8 rfl rfl (by decide) (Nat.le_of_ble_eq_true rfl) rfl rfl (List.mem_of_getElem? (i := 1) rfl) dX2_add_46 rfl rfl ?_
    exact g_vret C hr dX2_add_49 rfl

set_option maxHeartbeats 1000000 in
set_option maxRecDepth 20000 in
theorem c_X2_tell (l : Launch) (X : gX) (ln : Nat) (f15 : Nat → Int32) (f19 : Nat → Int32) (f20 : Nat → Int32) (a0 : Int32) (a1 : Int32) (a2 : Int32) (h0 : 0 < ln) (hn : ln ≤ 100) : KC l yX2_tell wsX2_tell ⟨0, 0, 0, 0⟩ [.ref (xa X 5), .int a0, .int a1, .int a2] X [oLns X (nI ln), kA X 15 100 f15, kA X 19 100 f19, kA X 20 100 f20] none [oLns X (nI ln), kA X 15 100 (upd f15 (ln - 1) a0), kA X 19 100 (upd f19 (ln - 1) a1), kA X 20 100 (upd f20 (ln - 1) a2)] := by
  have hi_X2 : ∀ w ∈ u_ws RX2 TX2 9, w ∈ wsX2_tell := fun w h => List.mem_cons_of_mem _ (List.mem_append_right _ h)
  refine KC.of cX2_tell 4 none RX2 rfl (by decide) rfl (lv := [(0, .ref (xa X 5)), (1, .int a0), (2, .int a1), (3, .int a2)]) rfl (Nat.le_of_ble_eq_true rfl) ?_
  intro p e s m args below meth c A C hr
  refine g_aload_n (pc' := 1) C dX2_tell_0 0 rfl rfl rfl ?_
  refine g_get (pc' := 4) C hi_X2 0 8 rfl rfl (by decide) (List.mem_of_getElem? (i := 1) rfl) rfl dX2_tell_1 rfl ?_
  refine g_if_leN (pc' := 7) (tgt := 43) C ln rfl (by omega) dX2_tell_4 (by decide) rfl (fun c_4 => ?_) (fun c_4 => ?_)
  · exact absurd c_4 (by omega)
  · refine g_aload_n (pc' := 8) C dX2_tell_7 0 rfl rfl rfl ?_
    refine g_get (pc' := 11) C hi_X2 0 0 rfl rfl (by decide) (List.mem_of_getElem? (i := 2) rfl) rfl dX2_tell_8 rfl ?_
    refine g_aload_n (pc' := 12) C dX2_tell_11 0 rfl rfl rfl ?_
    refine g_get (pc' := 15) C hi_X2 0 8 rfl rfl (by decide) (List.mem_of_getElem? (i := 1) rfl) rfl dX2_tell_12 rfl ?_
    refine g_iconst (pc' := 16) (v := 1) C dX2_tell_15 rfl rfl ?_
    refine g_isubV (pc' := 17) (v := nI (ln - 1)) C dX2_tell_16 (pk_sub (a := ln) (b := 1) (by omega)) rfl ?_
    refine g_iload_n (pc' := 18) C dX2_tell_17 1 rfl rfl rfl ?_
    refine g_iast (pc' := 19) (ws2 := [oLns X (nI ln), kA X 15 100 (upd f15 (ln - 1) a0), kA X 19 100 f19, kA X 20 100 f20]) C 1 (ln - 1) rfl rfl (by omega) (by decide) dX2_tell_18 rfl rfl ?_
    refine g_aload_n (pc' := 20) C dX2_tell_19 0 rfl rfl rfl ?_
    refine g_get (pc' := 23) C hi_X2 0 4 rfl rfl (by decide) (List.mem_of_getElem? (i := 3) rfl) rfl dX2_tell_20 rfl ?_
    refine g_aload_n (pc' := 24) C dX2_tell_23 0 rfl rfl rfl ?_
    refine g_get (pc' := 27) C hi_X2 0 8 rfl rfl (by decide) (List.mem_of_getElem? (i := 1) rfl) rfl dX2_tell_24 rfl ?_
    refine g_iconst (pc' := 28) (v := 1) C dX2_tell_27 rfl rfl ?_
    refine g_isubV (pc' := 29) (v := nI (ln - 1)) C dX2_tell_28 (pk_sub (a := ln) (b := 1) (by omega)) rfl ?_
    refine g_iload_n (pc' := 30) C dX2_tell_29 2 rfl rfl rfl ?_
    refine g_iast (pc' := 31) (ws2 := [oLns X (nI ln), kA X 15 100 (upd f15 (ln - 1) a0), kA X 19 100 (upd f19 (ln - 1) a1), kA X 20 100 f20]) C 2 (ln - 1) rfl rfl (by omega) (by decide) dX2_tell_30 rfl rfl ?_
    refine g_aload_n (pc' := 32) C dX2_tell_31 0 rfl rfl rfl ?_
    refine g_get (pc' := 35) C hi_X2 0 5 rfl rfl (by decide) (List.mem_of_getElem? (i := 4) rfl) rfl dX2_tell_32 rfl ?_
    refine g_aload_n (pc' := 36) C dX2_tell_35 0 rfl rfl rfl ?_
    refine g_get (pc' := 39) C hi_X2 0 8 rfl rfl (by decide) (List.mem_of_getElem? (i := 1) rfl) rfl dX2_tell_36 rfl ?_
    refine g_iconst (pc' := 40) (v := 1) C dX2_tell_39 rfl rfl ?_
    refine g_isubV (pc' := 41) (v := nI (ln - 1)) C dX2_tell_40 (pk_sub (a := ln) (b := 1) (by omega)) rfl ?_
    refine g_iload_n (pc' := 42) C dX2_tell_41 3 rfl rfl rfl ?_
    refine g_iast (pc' := 43) (ws2 := [oLns X (nI ln), kA X 15 100 (upd f15 (ln - 1) a0), kA X 19 100 (upd f19 (ln - 1) a1), kA X 20 100 (upd f20 (ln - 1) a2)]) C 3 (ln - 1) rfl rfl (by omega) (by decide) dX2_tell_42 rfl rfl ?_
    exact g_vret C hr dX2_tell_43 rfl

set_option maxHeartbeats 1000000 in
set_option maxRecDepth 20000 in
theorem c_X2_has (l : Launch) (X : gX) (ln : Nat) (x : Int32) : KC l yX2_has wsX2_has ⟨1, 0, 0, 22⟩ [.ref (xa X 5), .int x] X [oLns X (nI ln)] (some (.int (bz (0 ≤ x ∧ x ≤ nI ln - 1)))) [oLns X (nI ln)] := by
  have hi_X2 : ∀ w ∈ u_ws RX2 TX2 9, w ∈ wsX2_has := fun w h => List.mem_cons_of_mem _ (List.mem_append_right _ h)
  refine KC.of cX2_has 2 (some .boolean) RX2 rfl (by decide) rfl (lv := [(0, .ref (xa X 5)), (1, .int x)]) rfl (Nat.le_of_ble_eq_true rfl) ?_
  intro p e s m args below meth c A C hr
  refine g_iload_n (pc' := 1) C dX2_has_0 1 rfl rfl rfl ?_
  refine g_iconst (pc' := 2) (v := 0) C dX2_has_1 rfl rfl ?_
  refine g_aload_n (pc' := 3) C dX2_has_2 0 rfl rfl rfl ?_
  refine g_get (pc' := 6) C hi_X2 0 8 rfl rfl (by decide) (List.mem_of_getElem? (i := 1) rfl) rfl dX2_has_3 rfl ?_
  refine g_iconst (pc' := 7) (v := 1) C dX2_has_6 rfl rfl ?_
  refine g_isub (pc' := 8) C dX2_has_7 rfl ?_
  refine g_callSN (pc' := 11) (st := []) (ws2 := [oLns X (nI ln)]) C [.int x, .int 0, .int ((nI ln) - 1)] 3 rfl (c_X9_isWithin l X x 0 ((nI ln) - 1) ) [] [0] [0] gX2_has_X9_isWithin_n40 (List.mem_of_getElem? (i := 46) rfl) (List.mem_of_getElem? (i := 2) rfl) (List.mem_of_getElem? (i := 3) rfl) rfl ⟨rfl, rfl⟩ (by decide +kernel) ⟨by decide, by decide⟩ ⟨by decide, by decide⟩ rfl (wr := [oLns X (nI ln)]) rfl ⟨by decide, by decide, by decide, by decide⟩ rfl (Nat.le_of_ble_eq_true rfl) dX2_has_8 rfl rfl ?_
  by_cases b_8 : 0 ≤ x ∧ x ≤ ((nI ln) - 1)
  · refine g_top (bz_t b_8) ?_
    exact g_zret C hr rfl dX2_has_11 (by first | rfl | omega | (simp [bz, b_8]; done) | (simp [bz, b_8]; omega) | (simp [bz, b_8]; intros; exfalso; omega) | grind [bz]) rfl
  · refine g_top (bz_f b_8) ?_
    exact g_zret C hr rfl dX2_has_11 (by first | rfl | omega | (simp [bz, b_8]; done) | (simp [bz, b_8]; omega) | (simp [bz, b_8]; intros; exfalso; omega) | grind [bz]) rfl

set_option maxHeartbeats 1000000 in
set_option maxRecDepth 20000 in
theorem c_X2_standsOn (l : Launch) (X : gX) (ln : Nat) (f18 : Nat → Int32) (f21 : Nat → Int32) (f22 : Nat → Int32) (k : Nat) (d : Int32) (hk : k < 100) (hap : okN (f21 k) 9) : KC l yX2_standsOn wsX2_standsOn ⟨0, 0, 0, 0⟩ [.ref (xa X 5), .int (nI k), .int d] X [oLns X (nI ln), kA X 18 100 f18, kA X 21 100 f21, kA X 22 800 f22] (some (.int (bz (stCl f18 f21 f22 k d)))) [oLns X (nI ln), kA X 18 100 f18, kA X 21 100 f21, kA X 22 800 f22] := by
  have hi_X2 : ∀ w ∈ u_ws RX2 TX2 9, w ∈ wsX2_standsOn := fun w h => List.mem_cons_of_mem _ (List.mem_append_right _ h)
  refine KC.of cX2_standsOn 5 (some .boolean) RX2 rfl (by decide) rfl (lv := [(0, .ref (xa X 5)), (1, .int (nI k)), (2, .int d)]) rfl (Nat.le_of_ble_eq_true rfl) ?_
  intro p e s m args below meth c A C hr
  have hap2 := hap.2
  refine g_aload_n (pc' := 1) C dX2_standsOn_0 0 rfl rfl rfl ?_
  refine g_get (pc' := 4) C hi_X2 0 3 rfl rfl (by decide) (List.mem_of_getElem? (i := 1) rfl) rfl dX2_standsOn_1 rfl ?_
  refine g_iload_n (pc' := 5) C dX2_standsOn_4 1 rfl rfl rfl ?_
  refine g_iald (pc' := 6) C 1 k rfl rfl (by omega) (by decide) dX2_standsOn_5 rfl ?_
  refine g_iload_n (pc' := 7) C dX2_standsOn_6 2 rfl rfl rfl ?_
  refine g_icmp_le (pc' := 10) (tgt := 12) C dX2_standsOn_7 (by decide) rfl (fun c_7 => ?_) (fun c_7 => ?_)
  · refine g_iconst (pc' := 13) (v := 1) C dX2_standsOn_12 rfl rfl ?_
    refine g_istore_n (pc' := 14) (lv' := [(3, .int 1), (0, .ref (xa X 5)), (1, .int (nI k)), (2, .int d)]) C dX2_standsOn_13 rfl (by decide) rfl rfl ?_
    refine g_iconst (pc' := 15) (v := 0) C dX2_standsOn_14 rfl rfl ?_
    refine g_istore (pc' := 17) (lv' := [(4, .int 0), (3, .int 1), (0, .ref (xa X 5)), (1, .int (nI k)), (2, .int d)]) C dX2_standsOn_15 (by decide) rfl rfl ?_
    have lp_17 : ∀ (n_17 : Nat) (j : Nat) (hj : j ≤ cN (f21 k)) (hm_17 : cN (f21 k) - j < n_17), gG p l e ⟨0, 0, 0, 0⟩ s m args below meth c X A 5 0 0 (MQ below (QA X A (some (.int (bz (stCl f18 f21 f22 k d)))) [oLns X (nI ln), kA X 18 100 f18, kA X 21 100 f21, kA X 22 800 f22]) args s 0 0 A) [(0, .ref (xa X 5)), (1, .int (nI k)), (2, .int d), (3, .int (bz (stC f22 (k * 8) d j = true))), (4, .int (nI j))] [oLns X (nI ln), kA X 18 100 f18, kA X 21 100 f21, kA X 22 800 f22] 17 [] := by
      intro n_17
      induction n_17 with
      | zero => intro j hj hm_17; exact absurd hm_17 (Nat.not_lt_zero _)
      | succ n_17 ih_17 =>
        intro j hj hm_17
        refine g_iload (pc' := 19) C dX2_standsOn_17 4 rfl rfl ?_
        refine g_aload_n (pc' := 20) C dX2_standsOn_19 0 rfl rfl rfl ?_
        refine g_get (pc' := 23) C hi_X2 0 6 rfl rfl (by decide) (List.mem_of_getElem? (i := 2) rfl) rfl dX2_standsOn_20 rfl ?_
        refine g_iload_n (pc' := 24) C dX2_standsOn_23 1 rfl rfl rfl ?_
        refine g_iald (pc' := 25) C 2 k rfl rfl (by omega) (by decide) dX2_standsOn_24 rfl ?_
        refine g_top (y := nI (cN (f21 k))) hap.1 ?_
        refine g_icmp_geN (pc' := 28) (tgt := 60) C j (cN (f21 k)) rfl rfl (by omega) (by omega) dX2_standsOn_25 (by decide) rfl (fun c_25 => ?_) (fun c_25 => ?_)
        · refine g_iload_n (pc' := 61) C dX2_standsOn_60 3 rfl rfl rfl ?_
          exact g_zret C hr (by first | rfl | exact bz_nar _) dX2_standsOn_61 (by rw [show j = cN (f21 k) by omega]; simp [stCl, bz, c_7]) rfl
        · refine g_aload_n (pc' := 29) C dX2_standsOn_28 0 rfl rfl rfl ?_
          refine g_get (pc' := 32) C hi_X2 0 7 rfl rfl (by decide) (List.mem_of_getElem? (i := 3) rfl) rfl dX2_standsOn_29 rfl ?_
          refine g_iload_n (pc' := 33) C dX2_standsOn_32 1 rfl rfl rfl ?_
          refine g_bipush (pc' := 35) (v := 8) C dX2_standsOn_33 (by decide) rfl ?_
          refine g_imulV (pc' := 36) (v := nI (k * 8)) C dX2_standsOn_35 (by first | exact (pk_mul _ _) | rfl) rfl ?_
          refine g_iload (pc' := 38) C dX2_standsOn_36 4 rfl rfl ?_
          refine g_iaddV (pc' := 39) (v := nI ((k * 8) + j)) C dX2_standsOn_38 (by first | exact (nI_add _ _) | rfl) rfl ?_
          refine g_iald (pc' := 40) C 3 ((k * 8) + j) rfl rfl (by omega) (by decide) dX2_standsOn_39 rfl ?_
          refine g_iload_n (pc' := 41) C dX2_standsOn_40 2 rfl rfl rfl ?_
          refine g_icmp_gt (pc' := 44) (tgt := 54) C dX2_standsOn_41 (by decide) rfl (fun c_41 => ?_) (fun c_41 => ?_)
          · refine g_iinc (pc' := 57) (v := nI (j + 1)) (lv' := [(4, .int (nI (j + 1))), (0, .ref (xa X 5)), (1, .int (nI k)), (2, .int d), (3, .int (bz (stC f22 (k * 8) d j = true)))]) C dX2_standsOn_54 4 rfl (nI_1 _) (by decide) rfl rfl ?_
            refine g_goto (tgt := 17) C dX2_standsOn_57 (by decide) ?_
            refine g_lv (lv2 := [(0, .ref (xa X 5)), (1, .int (nI k)), (2, .int d), (3, .int (bz (stC f22 (k * 8) d j = true))), (4, .int (nI (j + 1)))]) [1, 2, 3, 4, 0] rfl ?_
            refine g_eq (lv2 := [(0, .ref (xa X 5)), (1, .int (nI k)), (2, .int d), (3, .int (bz (stC f22 (k * 8) d (j + 1) = true))), (4, .int (nI (j + 1)))]) (ws2 := [oLns X (nI ln), kA X 18 100 f18, kA X 21 100 f21, kA X 22 800 f22]) (st2 := []) (congrArg (fun zq_ : Int32 => ([(0, .ref (xa X 5)), (1, .int (nI k)), (2, .int d), (3, .int zq_), (4, .int (nI (j + 1)))] : List (Nat × Value))) (show (bz (stC f22 (k * 8) d j = true) : Int32) = bz (stC f22 (k * 8) d (j + 1) = true) from (by cases hq : stC f22 (k * 8) d j <;> simp_all [stC, bz]))) rfl rfl ?_
            exact ih_17 (j + 1) (by omega) (by omega)
          · refine g_iload_n (pc' := 45) C dX2_standsOn_44 3 rfl rfl rfl ?_
            refine g_if_ne (pc' := 48) (tgt := 52) C dX2_standsOn_45 (by decide) rfl (fun c_45 => ?_) (fun c_45 => ?_)
            · refine g_iconst (pc' := 53) (v := 0) C dX2_standsOn_52 rfl rfl ?_
              refine g_istore_n (pc' := 54) (lv' := [(3, .int 0), (0, .ref (xa X 5)), (1, .int (nI k)), (2, .int d), (4, .int (nI j))]) C dX2_standsOn_53 rfl (by decide) rfl rfl ?_
              refine g_iinc (pc' := 57) (v := nI (j + 1)) (lv' := [(4, .int (nI (j + 1))), (3, .int 0), (0, .ref (xa X 5)), (1, .int (nI k)), (2, .int d)]) C dX2_standsOn_54 4 rfl (nI_1 _) (by decide) rfl rfl ?_
              refine g_goto (tgt := 17) C dX2_standsOn_57 (by decide) ?_
              refine g_lv (lv2 := [(0, .ref (xa X 5)), (1, .int (nI k)), (2, .int d), (3, .int 0), (4, .int (nI (j + 1)))]) [2, 3, 4, 1, 0] rfl ?_
              refine g_eq (lv2 := [(0, .ref (xa X 5)), (1, .int (nI k)), (2, .int d), (3, .int (bz (stC f22 (k * 8) d (j + 1) = true))), (4, .int (nI (j + 1)))]) (ws2 := [oLns X (nI ln), kA X 18 100 f18, kA X 21 100 f21, kA X 22 800 f22]) (st2 := []) (congrArg (fun zq_ : Int32 => ([(0, .ref (xa X 5)), (1, .int (nI k)), (2, .int d), (3, .int zq_), (4, .int (nI (j + 1)))] : List (Nat × Value))) (show (0 : Int32) = bz (stC f22 (k * 8) d (j + 1) = true) from (by cases hq : stC f22 (k * 8) d j <;> simp_all [stC, bz]))) rfl rfl ?_
              exact ih_17 (j + 1) (by omega) (by omega)
            · refine g_iconst (pc' := 49) (v := 1) C dX2_standsOn_48 rfl rfl ?_
              refine g_goto (tgt := 53) C dX2_standsOn_49 (by decide) ?_
              refine g_istore_n (pc' := 54) (lv' := [(3, .int 1), (0, .ref (xa X 5)), (1, .int (nI k)), (2, .int d), (4, .int (nI j))]) C dX2_standsOn_53 rfl (by decide) rfl rfl ?_
              refine g_iinc (pc' := 57) (v := nI (j + 1)) (lv' := [(4, .int (nI (j + 1))), (3, .int 1), (0, .ref (xa X 5)), (1, .int (nI k)), (2, .int d)]) C dX2_standsOn_54 4 rfl (nI_1 _) (by decide) rfl rfl ?_
              refine g_goto (tgt := 17) C dX2_standsOn_57 (by decide) ?_
              refine g_lv (lv2 := [(0, .ref (xa X 5)), (1, .int (nI k)), (2, .int d), (3, .int 1), (4, .int (nI (j + 1)))]) [2, 3, 4, 1, 0] rfl ?_
              refine g_eq (lv2 := [(0, .ref (xa X 5)), (1, .int (nI k)), (2, .int d), (3, .int (bz (stC f22 (k * 8) d (j + 1) = true))), (4, .int (nI (j + 1)))]) (ws2 := [oLns X (nI ln), kA X 18 100 f18, kA X 21 100 f21, kA X 22 800 f22]) (st2 := []) (congrArg (fun zq_ : Int32 => ([(0, .ref (xa X 5)), (1, .int (nI k)), (2, .int d), (3, .int zq_), (4, .int (nI (j + 1)))] : List (Nat × Value))) (show (1 : Int32) = bz (stC f22 (k * 8) d (j + 1) = true) from (by cases hq : stC f22 (k * 8) d j <;> simp_all [stC, bz]))) rfl rfl ?_
              exact ih_17 (j + 1) (by omega) (by omega)
    refine g_lv (lv2 := [(0, .ref (xa X 5)), (1, .int (nI k)), (2, .int d), (3, .int 1), (4, .int 0)]) [2, 3, 4, 1, 0] rfl ?_
    refine g_eq (lv2 := [(0, .ref (xa X 5)), (1, .int (nI k)), (2, .int d), (3, .int (bz (stC f22 (k * 8) d 0 = true))), (4, .int 0)]) (ws2 := [oLns X (nI ln), kA X 18 100 f18, kA X 21 100 f21, kA X 22 800 f22]) (st2 := []) (congrArg (fun zq_ : Int32 => ([(0, .ref (xa X 5)), (1, .int (nI k)), (2, .int d), (3, .int zq_), (4, .int 0)] : List (Nat × Value))) (show (1 : Int32) = bz (stC f22 (k * 8) d 0 = true) from rfl)) rfl rfl ?_
    exact lp_17 (cN (f21 k) - 0 + 1) 0 (by first | rfl | assumption | omega | (simp [bz, stCl, c_7]; done) | (simp [bz, stCl, c_7]; omega) | (simp [bz, stCl, c_7]; intros; exfalso; omega) | grind [bz]) (by omega)
  · refine g_iconst (pc' := 11) (v := 0) C dX2_standsOn_10 rfl rfl ?_
    exact g_zret C hr rfl dX2_standsOn_11 (by first | rfl | omega | (simp [bz, stCl, c_7]; done) | (simp [bz, stCl, c_7]; omega) | (simp [bz, stCl, c_7]; intros; exfalso; omega) | grind [bz]) rfl

set_option maxHeartbeats 1000000 in
set_option maxRecDepth 20000 in
theorem c_X2_addAppeal (l : Launch) (X : gX) (ln : Nat) (f21 : Nat → Int32) (f22 : Nat → Int32) (k : Nat) (d : Int32) (hk : k < 100) (hap : okN (f21 k) 8) : KC l yX2_addAppeal wsX2_addAppeal ⟨0, 0, 0, 0⟩ [.ref (xa X 5), .int (nI k), .int d] X [oLns X (nI ln), kA X 21 100 f21, kA X 22 800 f22] none [oLns X (nI ln), kA X 21 100 (upd f21 k (nI (cN (f21 k) + 1))), kA X 22 800 (upd f22 (k * 8 + cN (f21 k)) d)] := by
  have hi_X2 : ∀ w ∈ u_ws RX2 TX2 9, w ∈ wsX2_addAppeal := fun w h => List.mem_cons_of_mem _ (List.mem_append_right _ h)
  refine KC.of cX2_addAppeal 3 none RX2 rfl (by decide) rfl (lv := [(0, .ref (xa X 5)), (1, .int (nI k)), (2, .int d)]) rfl (Nat.le_of_ble_eq_true rfl) ?_
  intro p e s m args below meth c A C hr
  have hap2 := hap.2
  refine g_aload_n (pc' := 1) C dX2_addAppeal_0 0 rfl rfl rfl ?_
  refine g_get (pc' := 4) C hi_X2 0 6 rfl rfl (by decide) (List.mem_of_getElem? (i := 1) rfl) rfl dX2_addAppeal_1 rfl ?_
  refine g_iload_n (pc' := 5) C dX2_addAppeal_4 1 rfl rfl rfl ?_
  refine g_iald (pc' := 6) C 1 k rfl rfl (by omega) (by decide) dX2_addAppeal_5 rfl ?_
  refine g_top (y := nI (cN (f21 k))) hap.1 ?_
  refine g_bipush (pc' := 8) (v := 8) C dX2_addAppeal_6 (by decide) rfl ?_
  refine g_icmp_geN (pc' := 11) (tgt := 38) C (cN (f21 k)) 8 rfl rfl (by omega) (by omega) dX2_addAppeal_8 (by decide) rfl (fun c_8 => ?_) (fun c_8 => ?_)
  · exact absurd c_8 (by omega)
  · refine g_aload_n (pc' := 12) C dX2_addAppeal_11 0 rfl rfl rfl ?_
    refine g_get (pc' := 15) C hi_X2 0 7 rfl rfl (by decide) (List.mem_of_getElem? (i := 2) rfl) rfl dX2_addAppeal_12 rfl ?_
    refine g_iload_n (pc' := 16) C dX2_addAppeal_15 1 rfl rfl rfl ?_
    refine g_bipush (pc' := 18) (v := 8) C dX2_addAppeal_16 (by decide) rfl ?_
    refine g_imulV (pc' := 19) (v := nI (k * 8)) C dX2_addAppeal_18 (by first | exact (pk_mul _ _) | rfl) rfl ?_
    refine g_aload_n (pc' := 20) C dX2_addAppeal_19 0 rfl rfl rfl ?_
    refine g_get (pc' := 23) C hi_X2 0 6 rfl rfl (by decide) (List.mem_of_getElem? (i := 1) rfl) rfl dX2_addAppeal_20 rfl ?_
    refine g_iload_n (pc' := 24) C dX2_addAppeal_23 1 rfl rfl rfl ?_
    refine g_iald (pc' := 25) C 1 k rfl rfl (by omega) (by decide) dX2_addAppeal_24 rfl ?_
    refine g_top (y := nI (cN (f21 k))) hap.1 ?_
    refine g_iaddV (pc' := 26) (v := nI ((k * 8) + (cN (f21 k)))) C dX2_addAppeal_25 (by first | exact (nI_add _ _) | rfl) rfl ?_
    refine g_iload_n (pc' := 27) C dX2_addAppeal_26 2 rfl rfl rfl ?_
    refine g_iast (pc' := 28) (ws2 := [oLns X (nI ln), kA X 21 100 f21, kA X 22 800 (upd f22 ((k * 8) + (cN (f21 k))) d)]) C 2 ((k * 8) + (cN (f21 k))) rfl rfl (by omega) (by decide) dX2_addAppeal_27 rfl rfl ?_
    refine g_aload_n (pc' := 29) C dX2_addAppeal_28 0 rfl rfl rfl ?_
    refine g_get (pc' := 32) C hi_X2 0 6 rfl rfl (by decide) (List.mem_of_getElem? (i := 1) rfl) rfl dX2_addAppeal_29 rfl ?_
    refine g_iload_n (pc' := 33) C dX2_addAppeal_32 1 rfl rfl rfl ?_
    refine g_dup2 (pc' := 34) C dX2_addAppeal_33 rfl rfl rfl ?_
    refine g_iald (pc' := 35) C 1 k rfl rfl (by omega) (by decide) dX2_addAppeal_34 rfl ?_
    refine g_top (y := nI (cN (f21 k))) hap.1 ?_
    refine g_iconst (pc' := 36) (v := 1) C dX2_addAppeal_35 rfl rfl ?_
    refine g_iaddV (pc' := 37) (v := nI ((cN (f21 k)) + 1)) C dX2_addAppeal_36 (by first | exact (nI_add _ _) | rfl) rfl ?_
    refine g_iast (pc' := 38) (ws2 := [oLns X (nI ln), kA X 21 100 (upd f21 k (nI ((cN (f21 k)) + 1))), kA X 22 800 (upd f22 ((k * 8) + (cN (f21 k))) d)]) C 1 k rfl rfl (by omega) (by decide) dX2_addAppeal_37 rfl rfl ?_
    exact g_vret C hr dX2_addAppeal_38 ((congrArg (fun zq_ : Nat → Int32 => ([oLns X (nI ln), kA X 21 100 zq_, kA X 22 800 (upd f22 ((k * 8) + (cN (f21 k))) d)] : va_W)) (show (upd f21 k (nI ((cN (f21 k)) + 1)) : Nat → Int32) = upd f21 k (nI (cN (f21 k) + 1)) from (by first | rfl | omega | (simp [c_8]; done) | (simp [c_8]; omega) | (simp [c_8]; intros; exfalso; omega) | grind []))).trans (congrArg (fun zq_ : Nat → Int32 => ([oLns X (nI ln), kA X 21 100 (upd f21 k (nI (cN (f21 k) + 1))), kA X 22 800 zq_] : va_W)) (show (upd f22 ((k * 8) + (cN (f21 k))) d : Nat → Int32) = upd f22 (k * 8 + cN (f21 k)) d from (by first | rfl | omega | (simp [c_8]; done) | (simp [c_8]; omega) | (simp [c_8]; intros; exfalso; omega) | grind []))))

