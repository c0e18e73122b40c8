set_option maxHeartbeats 1000000 in
set_option maxRecDepth 20000 in
theorem c_X5_nextToken (l : Launch) (X : gX) (tl : Nat) (rc : Nat) (ts : Nat) (te : Nat) (ft : Int32) (f38 : Nat → Int32) (hte : te ≤ tl) (htl : tl ≤ 60) : KC l yX5_nextToken wsX5_nextToken ⟨1, 0, 0, 21⟩ [.ref (xa X 4)] X [oTap X (nI tl), oRdr X (nI rc) (nI ts) (nI te) ft, kA X 38 60 f38] none [oTap X (nI tl), oRdr X (nI rc) (nI (nxS f38 tl te)) (nI (nxE f38 tl te)) ft, kA X 38 60 f38] := by
  have hi_X5 : ∀ w ∈ u_ws RX5 TX5 8, w ∈ wsX5_nextToken := fun w h => List.mem_cons_of_mem _ (List.mem_append_left _ (List.mem_append_right _ h))
  have hi_X7 : ∀ w ∈ u_ws RX7 TX7 2, w ∈ wsX5_nextToken := fun w h => List.mem_cons_of_mem _ (List.mem_append_right _ h)
  refine KC.of cX5_nextToken 3 none RX5 rfl (by decide) rfl (lv := [(0, .ref (xa X 4))]) rfl (Nat.le_of_ble_eq_true rfl) ?_
  intro p e s m args below meth c A C hr
  refine g_aload_n (pc' := 1) C dX5_nextToken_0 0 rfl rfl rfl ?_
  refine g_get (pc' := 4) C hi_X5 1 6 rfl rfl (by decide) (List.mem_of_getElem? (i := 1) rfl) rfl dX5_nextToken_1 rfl ?_
  refine g_istore_n (pc' := 5) (lv' := [(1, .int (nI te)), (0, .ref (xa X 4))]) C dX5_nextToken_4 rfl (by decide) rfl rfl ?_
  have lp_5 : ∀ (n_5 : Nat) (k : Nat) (hk : k ≤ tl) (hf : nxS f38 tl te = skB f38 tl (tl - k) k) (hm_5 : tl - k < n_5), gG p l e ⟨1, 0, 0, 21⟩ s m args below meth c X A 3 0 0 (MQ below (QA X A none [oTap X (nI tl), oRdr X (nI rc) (nI (nxS f38 tl te)) (nI (nxE f38 tl te)) ft, kA X 38 60 f38]) args s 0 0 A) [(0, .ref (xa X 4)), (1, .int (nI k))] [oTap X (nI tl), oRdr X (nI rc) (nI ts) (nI te) ft, kA X 38 60 f38] 5 [] := by
    intro n_5
    induction n_5 with
    | zero => intro k hk hf hm_5; exact absurd hm_5 (Nat.not_lt_zero _)
    | succ n_5 ih_5 =>
      intro k hk hf hm_5
      refine g_iload_n (pc' := 6) C dX5_nextToken_5 1 rfl rfl rfl ?_
      refine g_aload_n (pc' := 7) C dX5_nextToken_6 0 rfl rfl rfl ?_
      refine g_get (pc' := 10) C hi_X5 1 0 rfl rfl (by decide) (List.mem_of_getElem? (i := 2) rfl) rfl dX5_nextToken_7 rfl ?_
      refine g_getN (pc' := 13) C hi_X7 0 1 rfl rfl (by decide) (List.mem_of_getElem? (i := 9) rfl) rfl dX5_nextToken_10 rfl ?_
      refine g_icmp_geN (pc' := 16) (tgt := 36) C k tl rfl rfl (by omega) (by omega) dX5_nextToken_13 (by decide) rfl (fun c_13 => ?_) (fun c_13 => ?_)
      · refine g_aload_n (pc' := 37) C dX5_nextToken_36 0 rfl rfl rfl ?_
        have hs0 : nxS f38 tl te = k := hf.trans (skB_at (Or.inl c_13))
        refine g_iload_n (pc' := 38) C dX5_nextToken_37 1 rfl rfl rfl ?_
        refine g_put (pc' := 41) (ws2 := [oTap X (nI tl), oRdr X (nI rc) (nI k) (nI te) ft, kA X 38 60 f38]) C hi_X5 tyX5 tyX5_ok nmX5 1 5 rfl rfl (by decide) (Nat.le_of_ble_eq_true rfl) rfl rfl (List.mem_of_getElem? (i := 3) rfl) dX5_nextToken_38 rfl rfl ?_
        have lp_41 : ∀ (n_41 : Nat) (j : Nat) (hj : j ≤ tl) (hw : skW f38 tl (tl - k) k = skW f38 tl (tl - j) j) (hm_41 : tl - j < n_41), gG p l e ⟨1, 0, 0, 21⟩ s m args below meth c X A 3 0 0 (MQ below (QA X A none [oTap X (nI tl), oRdr X (nI rc) (nI (nxS f38 tl te)) (nI (nxE f38 tl te)) ft, kA X 38 60 f38]) args s 0 0 A) [(0, .ref (xa X 4)), (1, .int (nI j))] [oTap X (nI tl), oRdr X (nI rc) (nI k) (nI te) ft, kA X 38 60 f38] 41 [] := by
          intro n_41
          induction n_41 with
          | zero => intro j hj hw hm_41; exact absurd hm_41 (Nat.not_lt_zero _)
          | succ n_41 ih_41 =>
            intro j hj hw hm_41
            refine g_iload_n (pc' := 42) C dX5_nextToken_41 1 rfl rfl rfl ?_
            refine g_aload_n (pc' := 43) C dX5_nextToken_42 0 rfl rfl rfl ?_
            refine g_get (pc' := 46) C hi_X5 1 0 rfl rfl (by decide) (List.mem_of_getElem? (i := 2) rfl) rfl dX5_nextToken_43 rfl ?_
            refine g_getN (pc' := 49) C hi_X7 0 1 rfl rfl (by decide) (List.mem_of_getElem? (i := 9) rfl) rfl dX5_nextToken_46 rfl ?_
            refine g_icmp_geN (pc' := 52) (tgt := 69) C j tl rfl rfl (by omega) (by omega) dX5_nextToken_49 (by decide) rfl (fun c_49 => ?_) (fun c_49 => ?_)
            · refine g_iload_n (pc' := 70) C dX5_nextToken_69 1 rfl rfl rfl ?_
              have hw2 : skW f38 tl (tl - k) k = j := hw.trans (skW_at (Or.inl c_49))
              refine g_aload_n (pc' := 71) C dX5_nextToken_70 0 rfl rfl rfl ?_
              refine g_get (pc' := 74) C hi_X5 1 5 rfl rfl (by decide) (List.mem_of_getElem? (i := 3) rfl) rfl dX5_nextToken_71 rfl ?_
              refine g_icmp_neN (pc' := 77) (tgt := 92) C j k rfl rfl (by omega) (by omega) dX5_nextToken_74 (by decide) rfl (fun c_74 => ?_) (fun c_74 => ?_)
              · refine g_iconst (pc' := 93) (v := 0) C dX5_nextToken_92 rfl rfl ?_
                refine g_istore_n (pc' := 94) (lv' := [(2, .int 0), (0, .ref (xa X 4)), (1, .int (nI j))]) C dX5_nextToken_93 rfl (by decide) rfl rfl ?_
                refine g_aload_n (pc' := 95) C dX5_nextToken_94 1 rfl rfl rfl ?_
                refine g_iload_n (pc' := 96) C dX5_nextToken_95 0 rfl rfl rfl ?_
                refine g_if_eq (pc' := 99) (tgt := 105) C dX5_nextToken_96 (by decide) rfl (fun _ => ?_) (fun h => absurd h (by decide))
                refine g_iload_n (pc' := 106) C dX5_nextToken_105 2 rfl rfl rfl ?_
                refine g_put (pc' := 109) (ws2 := [oTap X (nI tl), oRdr X (nI rc) (nI k) (nI j) ft, kA X 38 60 f38]) C hi_X5 tyX5 tyX5_ok nmX5 1 6 rfl rfl (by decide) (Nat.le_of_ble_eq_true rfl) rfl rfl (List.mem_of_getElem? (i := 1) rfl) dX5_nextToken_106 rfl rfl ?_
                exact g_vret C hr dX5_nextToken_109 ((congrArg (fun zq_ : Int32 => ([oTap X (nI tl), oRdr X (nI rc) zq_ (nI j) ft, kA X 38 60 f38] : va_W)) (show (nI k : Int32) = nI (nxS f38 tl te) from (by rw [hs0]))).trans (congrArg (fun zq_ : Int32 => ([oTap X (nI tl), oRdr X (nI rc) (nI (nxS f38 tl te)) zq_ ft, kA X 38 60 f38] : va_W)) (show (nI j : Int32) = nI (nxE f38 tl te) from (by rw [nxE, hs0, hw2, if_neg (fun z => c_74 z.1)]))))
              · refine g_iload_n (pc' := 78) C dX5_nextToken_77 1 rfl rfl rfl ?_
                refine g_aload_n (pc' := 79) C dX5_nextToken_78 0 rfl rfl rfl ?_
                refine g_get (pc' := 82) C hi_X5 1 0 rfl rfl (by decide) (List.mem_of_getElem? (i := 2) rfl) rfl dX5_nextToken_79 rfl ?_
                refine g_getN (pc' := 85) C hi_X7 0 1 rfl rfl (by decide) (List.mem_of_getElem? (i := 9) rfl) rfl dX5_nextToken_82 rfl ?_
                refine g_icmp_geN (pc' := 88) (tgt := 92) C j tl rfl rfl (by omega) (by omega) dX5_nextToken_85 (by decide) rfl (fun c_85 => ?_) (fun c_85 => ?_)
                · refine g_iconst (pc' := 93) (v := 0) C dX5_nextToken_92 rfl rfl ?_
                  refine g_istore_n (pc' := 94) (lv' := [(2, .int 0), (0, .ref (xa X 4)), (1, .int (nI j))]) C dX5_nextToken_93 rfl (by decide) rfl rfl ?_
                  refine g_aload_n (pc' := 95) C dX5_nextToken_94 1 rfl rfl rfl ?_
                  refine g_iload_n (pc' := 96) C dX5_nextToken_95 0 rfl rfl rfl ?_
                  refine g_if_eq (pc' := 99) (tgt := 105) C dX5_nextToken_96 (by decide) rfl (fun _ => ?_) (fun h => absurd h (by decide))
                  refine g_iload_n (pc' := 106) C dX5_nextToken_105 2 rfl rfl rfl ?_
                  refine g_put (pc' := 109) (ws2 := [oTap X (nI tl), oRdr X (nI rc) (nI k) (nI j) ft, kA X 38 60 f38]) C hi_X5 tyX5 tyX5_ok nmX5 1 6 rfl rfl (by decide) (Nat.le_of_ble_eq_true rfl) rfl rfl (List.mem_of_getElem? (i := 1) rfl) dX5_nextToken_106 rfl rfl ?_
                  exact g_vret C hr dX5_nextToken_109 ((congrArg (fun zq_ : Int32 => ([oTap X (nI tl), oRdr X (nI rc) zq_ (nI j) ft, kA X 38 60 f38] : va_W)) (show (nI k : Int32) = nI (nxS f38 tl te) from (by rw [hs0]))).trans (congrArg (fun zq_ : Int32 => ([oTap X (nI tl), oRdr X (nI rc) (nI (nxS f38 tl te)) zq_ ft, kA X 38 60 f38] : va_W)) (show (nI j : Int32) = nI (nxE f38 tl te) from (by rw [nxE, hs0, hw2, if_neg (fun z => by omega)]))))
                · refine g_iconst (pc' := 89) (v := 1) C dX5_nextToken_88 rfl rfl ?_
                  skip
                  refine g_goto (tgt := 93) C dX5_nextToken_89 (by decide) ?_
                  refine g_istore_n (pc' := 94) (lv' := [(2, .int 1), (0, .ref (xa X 4)), (1, .int (nI j))]) C dX5_nextToken_93 rfl (by decide) rfl rfl ?_
                  refine g_aload_n (pc' := 95) C dX5_nextToken_94 1 rfl rfl rfl ?_
                  refine g_iload_n (pc' := 96) C dX5_nextToken_95 0 rfl rfl rfl ?_
                  refine g_if_eq (pc' := 99) (tgt := 105) C dX5_nextToken_96 (by decide) rfl (fun h => absurd h (by decide)) (fun _ => ?_)
                  refine g_iload_n (pc' := 100) C dX5_nextToken_99 2 rfl rfl rfl ?_
                  refine g_iconst (pc' := 101) (v := 1) C dX5_nextToken_100 rfl rfl ?_
                  refine g_iaddV (pc' := 102) (v := nI (j + 1)) C dX5_nextToken_101 (by first | exact (nI_add _ _) | rfl) rfl ?_
                  refine g_goto (tgt := 106) C dX5_nextToken_102 (by decide) ?_
                  refine g_put (pc' := 109) (ws2 := [oTap X (nI tl), oRdr X (nI rc) (nI k) (nI (j + 1)) ft, kA X 38 60 f38]) C hi_X5 tyX5 tyX5_ok nmX5 1 6 rfl rfl (by decide) (Nat.le_of_ble_eq_true rfl) rfl rfl (List.mem_of_getElem? (i := 1) rfl) dX5_nextToken_106 rfl rfl ?_
                  exact g_vret C hr dX5_nextToken_109 ((congrArg (fun zq_ : Int32 => ([oTap X (nI tl), oRdr X (nI rc) zq_ (nI (j + 1)) ft, kA X 38 60 f38] : va_W)) (show (nI k : Int32) = nI (nxS f38 tl te) from (by rw [hs0]))).trans (congrArg (fun zq_ : Int32 => ([oTap X (nI tl), oRdr X (nI rc) (nI (nxS f38 tl te)) zq_ ft, kA X 38 60 f38] : va_W)) (show (nI (j + 1) : Int32) = nI (nxE f38 tl te) from (by rw [nxE, hs0, hw2, if_pos ⟨c_74, by omega⟩, c_74]))))
            · refine g_aload_n (pc' := 53) C dX5_nextToken_52 0 rfl rfl rfl ?_
              refine g_get (pc' := 56) C hi_X5 1 0 rfl rfl (by decide) (List.mem_of_getElem? (i := 2) rfl) rfl dX5_nextToken_53 rfl ?_
              refine g_iload_n (pc' := 57) C dX5_nextToken_56 1 rfl rfl rfl ?_
              refine g_callV (pc' := 60) (st := []) (ws2 := [oTap X (nI tl), oRdr X (nI rc) (nI k) (nI te) ft, kA X 38 60 f38]) C [.int (nI j)] 1 rfl (c_X7_isPartOfWord l X tl f38 j (by first | assumption | omega)) [0, 2] [1] [1, 0, 2] gX5_nextToken_X7_isPartOfWord 0 rfl rfl rfl ⟨rfl, rfl⟩ (by decide +kernel) ⟨by decide, by decide⟩ ⟨by decide, by decide⟩ rfl (wr := [oRdr X (nI rc) (nI k) (nI te) ft]) rfl ⟨by decide, by decide, by decide, by decide⟩ rfl (Nat.le_of_ble_eq_true rfl) dX5_nextToken_57 rfl rfl ?_
              by_cases b_57 : ¬ f38 j = 32 ∧ ¬ f38 j = 44
              · refine g_top (bz_t b_57) ?_
                refine g_if_eq (pc' := 63) (tgt := 69) C dX5_nextToken_60 (by decide) rfl (fun h => absurd h (by decide)) (fun _ => ?_)
                refine g_iinc (pc' := 66) (v := nI (j + 1)) (lv' := [(1, .int (nI (j + 1))), (0, .ref (xa X 4))]) C dX5_nextToken_63 1 rfl (nI_1 _) (by decide) rfl rfl ?_
                refine g_goto (tgt := 41) C dX5_nextToken_66 (by decide) ?_
                refine g_lv (lv2 := [(0, .ref (xa X 4)), (1, .int (nI (j + 1)))]) [1, 0] rfl ?_
                exact ih_41 (j + 1) (by omega) (hw.trans (skW_go (by omega) b_57)) (by omega)
              · refine g_top (bz_f b_57) ?_
                refine g_if_eq (pc' := 63) (tgt := 69) C dX5_nextToken_60 (by decide) rfl (fun _ => ?_) (fun h => absurd h (by decide))
                refine g_iload_n (pc' := 70) C dX5_nextToken_69 1 rfl rfl rfl ?_
                have hw2 : skW f38 tl (tl - k) k = j := hw.trans (skW_at (Or.inr b_57))
                refine g_aload_n (pc' := 71) C dX5_nextToken_70 0 rfl rfl rfl ?_
                refine g_get (pc' := 74) C hi_X5 1 5 rfl rfl (by decide) (List.mem_of_getElem? (i := 3) rfl) rfl dX5_nextToken_71 rfl ?_
                refine g_icmp_neN (pc' := 77) (tgt := 92) C j k rfl rfl (by omega) (by omega) dX5_nextToken_74 (by decide) rfl (fun c_74 => ?_) (fun c_74 => ?_)
                · refine g_iconst (pc' := 93) (v := 0) C dX5_nextToken_92 rfl rfl ?_
                  refine g_istore_n (pc' := 94) (lv' := [(2, .int 0), (0, .ref (xa X 4)), (1, .int (nI j))]) C dX5_nextToken_93 rfl (by decide) rfl rfl ?_
                  refine g_aload_n (pc' := 95) C dX5_nextToken_94 1 rfl rfl rfl ?_
                  refine g_iload_n (pc' := 96) C dX5_nextToken_95 0 rfl rfl rfl ?_
                  refine g_if_eq (pc' := 99) (tgt := 105) C dX5_nextToken_96 (by decide) rfl (fun _ => ?_) (fun h => absurd h (by decide))
                  refine g_iload_n (pc' := 106) C dX5_nextToken_105 2 rfl rfl rfl ?_
                  refine g_put (pc' := 109) (ws2 := [oTap X (nI tl), oRdr X (nI rc) (nI k) (nI j) ft, kA X 38 60 f38]) C hi_X5 tyX5 tyX5_ok nmX5 1 6 rfl rfl (by decide) (Nat.le_of_ble_eq_true rfl) rfl rfl (List.mem_of_getElem? (i := 1) rfl) dX5_nextToken_106 rfl rfl ?_
                  exact g_vret C hr dX5_nextToken_109 ((congrArg (fun zq_ : Int32 => ([oTap X (nI tl), oRdr X (nI rc) zq_ (nI j) ft, kA X 38 60 f38] : va_W)) (show (nI k : Int32) = nI (nxS f38 tl te) from (by rw [hs0]))).trans (congrArg (fun zq_ : Int32 => ([oTap X (nI tl), oRdr X (nI rc) (nI (nxS f38 tl te)) zq_ ft, kA X 38 60 f38] : va_W)) (show (nI j : Int32) = nI (nxE f38 tl te) from (by rw [nxE, hs0, hw2, if_neg (fun z => c_74 z.1)]))))
                · refine g_iload_n (pc' := 78) C dX5_nextToken_77 1 rfl rfl rfl ?_
                  refine g_aload_n (pc' := 79) C dX5_nextToken_78 0 rfl rfl rfl ?_
                  refine g_get (pc' := 82) C hi_X5 1 0 rfl rfl (by decide) (List.mem_of_getElem? (i := 2) rfl) rfl dX5_nextToken_79 rfl ?_
                  refine g_getN (pc' := 85) C hi_X7 0 1 rfl rfl (by decide) (List.mem_of_getElem? (i := 9) rfl) rfl dX5_nextToken_82 rfl ?_
                  refine g_icmp_geN (pc' := 88) (tgt := 92) C j tl rfl rfl (by omega) (by omega) dX5_nextToken_85 (by decide) rfl (fun c_85 => ?_) (fun c_85 => ?_)
                  · refine g_iconst (pc' := 93) (v := 0) C dX5_nextToken_92 rfl rfl ?_
                    refine g_istore_n (pc' := 94) (lv' := [(2, .int 0), (0, .ref (xa X 4)), (1, .int (nI j))]) C dX5_nextToken_93 rfl (by decide) rfl rfl ?_
                    refine g_aload_n (pc' := 95) C dX5_nextToken_94 1 rfl rfl rfl ?_
                    refine g_iload_n (pc' := 96) C dX5_nextToken_95 0 rfl rfl rfl ?_
                    refine g_if_eq (pc' := 99) (tgt := 105) C dX5_nextToken_96 (by decide) rfl (fun _ => ?_) (fun h => absurd h (by decide))
                    refine g_iload_n (pc' := 106) C dX5_nextToken_105 2 rfl rfl rfl ?_
                    refine g_put (pc' := 109) (ws2 := [oTap X (nI tl), oRdr X (nI rc) (nI k) (nI j) ft, kA X 38 60 f38]) C hi_X5 tyX5 tyX5_ok nmX5 1 6 rfl rfl (by decide) (Nat.le_of_ble_eq_true rfl) rfl rfl (List.mem_of_getElem? (i := 1) rfl) dX5_nextToken_106 rfl rfl ?_
                    exact g_vret C hr dX5_nextToken_109 ((congrArg (fun zq_ : Int32 => ([oTap X (nI tl), oRdr X (nI rc) zq_ (nI j) ft, kA X 38 60 f38] : va_W)) (show (nI k : Int32) = nI (nxS f38 tl te) from (by rw [hs0]))).trans (congrArg (fun zq_ : Int32 => ([oTap X (nI tl), oRdr X (nI rc) (nI (nxS f38 tl te)) zq_ ft, kA X 38 60 f38] : va_W)) (show (nI j : Int32) = nI (nxE f38 tl te) from (by rw [nxE, hs0, hw2, if_neg (fun z => by omega)]))))
                  · refine g_iconst (pc' := 89) (v := 1) C dX5_nextToken_88 rfl rfl ?_
                    skip
                    refine g_goto (tgt := 93) C dX5_nextToken_89 (by decide) ?_
                    refine g_istore_n (pc' := 94) (lv' := [(2, .int 1), (0, .ref (xa X 4)), (1, .int (nI j))]) C dX5_nextToken_93 rfl (by decide) rfl rfl ?_
                    refine g_aload_n (pc' := 95) C dX5_nextToken_94 1 rfl rfl rfl ?_
                    refine g_iload_n (pc' := 96) C dX5_nextToken_95 0 rfl rfl rfl ?_
                    refine g_if_eq (pc' := 99) (tgt := 105) C dX5_nextToken_96 (by decide) rfl (fun h => absurd h (by decide)) (fun _ => ?_)
                    refine g_iload_n (pc' := 100) C dX5_nextToken_99 2 rfl rfl rfl ?_
                    refine g_iconst (pc' := 101) (v := 1) C dX5_nextToken_100 rfl rfl ?_
                    refine g_iaddV (pc' := 102) (v := nI (j + 1)) C dX5_nextToken_101 (by first | exact (nI_add _ _) | rfl) rfl ?_
                    refine g_goto (tgt := 106) C dX5_nextToken_102 (by decide) ?_
                    refine g_put (pc' := 109) (ws2 := [oTap X (nI tl), oRdr X (nI rc) (nI k) (nI (j + 1)) ft, kA X 38 60 f38]) C hi_X5 tyX5 tyX5_ok nmX5 1 6 rfl rfl (by decide) (Nat.le_of_ble_eq_true rfl) rfl rfl (List.mem_of_getElem? (i := 1) rfl) dX5_nextToken_106 rfl rfl ?_
                    exact g_vret C hr dX5_nextToken_109 ((congrArg (fun zq_ : Int32 => ([oTap X (nI tl), oRdr X (nI rc) zq_ (nI (j + 1)) ft, kA X 38 60 f38] : va_W)) (show (nI k : Int32) = nI (nxS f38 tl te) from (by rw [hs0]))).trans (congrArg (fun zq_ : Int32 => ([oTap X (nI tl), oRdr X (nI rc) (nI (nxS f38 tl te)) zq_ ft, kA X 38 60 f38] : va_W)) (show (nI (j + 1) : Int32) = nI (nxE f38 tl te) from (by rw [nxE, hs0, hw2, if_pos ⟨c_74, by omega⟩, c_74]))))
        exact lp_41 (tl - k + 1) k (by omega) rfl (by omega)
      · refine g_aload_n (pc' := 17) C dX5_nextToken_16 0 rfl rfl rfl ?_
        refine g_get (pc' := 20) C hi_X5 1 0 rfl rfl (by decide) (List.mem_of_getElem? (i := 2) rfl) rfl dX5_nextToken_17 rfl ?_
        refine g_getN (pc' := 23) C hi_X7 0 0 rfl rfl (by decide) (List.mem_of_getElem? (i := 7) rfl) rfl dX5_nextToken_20 rfl ?_
        refine g_iload_n (pc' := 24) C dX5_nextToken_23 1 rfl rfl rfl ?_
        refine g_iald (pc' := 25) C 2 k rfl rfl (by omega) (by decide) dX5_nextToken_24 rfl ?_
        refine g_bipush (pc' := 27) (v := 32) C dX5_nextToken_25 (by decide) rfl ?_
        refine g_icmp_ne (pc' := 30) (tgt := 36) C dX5_nextToken_27 (by decide) rfl (fun c_27 => ?_) (fun c_27 => ?_)
        · refine g_aload_n (pc' := 37) C dX5_nextToken_36 0 rfl rfl rfl ?_
          have hs0 : nxS f38 tl te = k := hf.trans (skB_at (Or.inr c_27))
          refine g_iload_n (pc' := 38) C dX5_nextToken_37 1 rfl rfl rfl ?_
          refine g_put (pc' := 41) (ws2 := [oTap X (nI tl), oRdr X (nI rc) (nI k) (nI te) ft, kA X 38 60 f38]) C hi_X5 tyX5 tyX5_ok nmX5 1 5 rfl rfl (by decide) (Nat.le_of_ble_eq_true rfl) rfl rfl (List.mem_of_getElem? (i := 3) rfl) dX5_nextToken_38 rfl rfl ?_
          have lp_41 : ∀ (n_41 : Nat) (j : Nat) (hj : j ≤ tl) (hw : skW f38 tl (tl - k) k = skW f38 tl (tl - j) j) (hm_41 : tl - j < n_41), gG p l e ⟨1, 0, 0, 21⟩ s m args below meth c X A 3 0 0 (MQ below (QA X A none [oTap X (nI tl), oRdr X (nI rc) (nI (nxS f38 tl te)) (nI (nxE f38 tl te)) ft, kA X 38 60 f38]) args s 0 0 A) [(0, .ref (xa X 4)), (1, .int (nI j))] [oTap X (nI tl), oRdr X (nI rc) (nI k) (nI te) ft, kA X 38 60 f38] 41 [] := by
            intro n_41
            induction n_41 with
            | zero => intro j hj hw hm_41; exact absurd hm_41 (Nat.not_lt_zero _)
            | succ n_41 ih_41 =>
              intro j hj hw hm_41
              refine g_iload_n (pc' := 42) C dX5_nextToken_41 1 rfl rfl rfl ?_
              refine g_aload_n (pc' := 43) C dX5_nextToken_42 0 rfl rfl rfl ?_
              refine g_get (pc' := 46) C hi_X5 1 0 rfl rfl (by decide) (List.mem_of_getElem? (i := 2) rfl) rfl dX5_nextToken_43 rfl ?_
              refine g_getN (pc' := 49) C hi_X7 0 1 rfl rfl (by decide) (List.mem_of_getElem? (i := 9) rfl) rfl dX5_nextToken_46 rfl ?_
              refine g_icmp_geN (pc' := 52) (tgt := 69) C j tl rfl rfl (by omega) (by omega) dX5_nextToken_49 (by decide) rfl (fun c_49 => ?_) (fun c_49 => ?_)
              · refine g_iload_n (pc' := 70) C dX5_nextToken_69 1 rfl rfl rfl ?_
                have hw2 : skW f38 tl (tl - k) k = j := hw.trans (skW_at (Or.inl c_49))
                refine g_aload_n (pc' := 71) C dX5_nextToken_70 0 rfl rfl rfl ?_
                refine g_get (pc' := 74) C hi_X5 1 5 rfl rfl (by decide) (List.mem_of_getElem? (i := 3) rfl) rfl dX5_nextToken_71 rfl ?_
                refine g_icmp_neN (pc' := 77) (tgt := 92) C j k rfl rfl (by omega) (by omega) dX5_nextToken_74 (by decide) rfl (fun c_74 => ?_) (fun c_74 => ?_)
                · refine g_iconst (pc' := 93) (v := 0) C dX5_nextToken_92 rfl rfl ?_
                  refine g_istore_n (pc' := 94) (lv' := [(2, .int 0), (0, .ref (xa X 4)), (1, .int (nI j))]) C dX5_nextToken_93 rfl (by decide) rfl rfl ?_
                  refine g_aload_n (pc' := 95) C dX5_nextToken_94 1 rfl rfl rfl ?_
                  refine g_iload_n (pc' := 96) C dX5_nextToken_95 0 rfl rfl rfl ?_
                  refine g_if_eq (pc' := 99) (tgt := 105) C dX5_nextToken_96 (by decide) rfl (fun _ => ?_) (fun h => absurd h (by decide))
                  refine g_iload_n (pc' := 106) C dX5_nextToken_105 2 rfl rfl rfl ?_
                  refine g_put (pc' := 109) (ws2 := [oTap X (nI tl), oRdr X (nI rc) (nI k) (nI j) ft, kA X 38 60 f38]) C hi_X5 tyX5 tyX5_ok nmX5 1 6 rfl rfl (by decide) (Nat.le_of_ble_eq_true rfl) rfl rfl (List.mem_of_getElem? (i := 1) rfl) dX5_nextToken_106 rfl rfl ?_
                  exact g_vret C hr dX5_nextToken_109 ((congrArg (fun zq_ : Int32 => ([oTap X (nI tl), oRdr X (nI rc) zq_ (nI j) ft, kA X 38 60 f38] : va_W)) (show (nI k : Int32) = nI (nxS f38 tl te) from (by rw [hs0]))).trans (congrArg (fun zq_ : Int32 => ([oTap X (nI tl), oRdr X (nI rc) (nI (nxS f38 tl te)) zq_ ft, kA X 38 60 f38] : va_W)) (show (nI j : Int32) = nI (nxE f38 tl te) from (by rw [nxE, hs0, hw2, if_neg (fun z => c_74 z.1)]))))
                · refine g_iload_n (pc' := 78) C dX5_nextToken_77 1 rfl rfl rfl ?_
                  refine g_aload_n (pc' := 79) C dX5_nextToken_78 0 rfl rfl rfl ?_
                  refine g_get (pc' := 82) C hi_X5 1 0 rfl rfl (by decide) (List.mem_of_getElem? (i := 2) rfl) rfl dX5_nextToken_79 rfl ?_
                  refine g_getN (pc' := 85) C hi_X7 0 1 rfl rfl (by decide) (List.mem_of_getElem? (i := 9) rfl) rfl dX5_nextToken_82 rfl ?_
                  refine g_icmp_geN (pc' := 88) (tgt := 92) C j tl rfl rfl (by omega) (by omega) dX5_nextToken_85 (by decide) rfl (fun c_85 => ?_) (fun c_85 => ?_)
                  · refine g_iconst (pc' := 93) (v := 0) C dX5_nextToken_92 rfl rfl ?_
                    refine g_istore_n (pc' := 94) (lv' := [(2, .int 0), (0, .ref (xa X 4)), (1, .int (nI j))]) C dX5_nextToken_93 rfl (by decide) rfl rfl ?_
                    refine g_aload_n (pc' := 95) C dX5_nextToken_94 1 rfl rfl rfl ?_
                    refine g_iload_n (pc' := 96) C dX5_nextToken_95 0 rfl rfl rfl ?_
                    refine g_if_eq (pc' := 99) (tgt := 105) C dX5_nextToken_96 (by decide) rfl (fun _ => ?_) (fun h => absurd h (by decide))
                    refine g_iload_n (pc' := 106) C dX5_nextToken_105 2 rfl rfl rfl ?_
                    refine g_put (pc' := 109) (ws2 := [oTap X (nI tl), oRdr X (nI rc) (nI k) (nI j) ft, kA X 38 60 f38]) C hi_X5 tyX5 tyX5_ok nmX5 1 6 rfl rfl (by decide) (Nat.le_of_ble_eq_true rfl) rfl rfl (List.mem_of_getElem? (i := 1) rfl) dX5_nextToken_106 rfl rfl ?_
                    exact g_vret C hr dX5_nextToken_109 ((congrArg (fun zq_ : Int32 => ([oTap X (nI tl), oRdr X (nI rc) zq_ (nI j) ft, kA X 38 60 f38] : va_W)) (show (nI k : Int32) = nI (nxS f38 tl te) from (by rw [hs0]))).trans (congrArg (fun zq_ : Int32 => ([oTap X (nI tl), oRdr X (nI rc) (nI (nxS f38 tl te)) zq_ ft, kA X 38 60 f38] : va_W)) (show (nI j : Int32) = nI (nxE f38 tl te) from (by rw [nxE, hs0, hw2, if_neg (fun z => by omega)]))))
                  · refine g_iconst (pc' := 89) (v := 1) C dX5_nextToken_88 rfl rfl ?_
                    skip
                    refine g_goto (tgt := 93) C dX5_nextToken_89 (by decide) ?_
                    refine g_istore_n (pc' := 94) (lv' := [(2, .int 1), (0, .ref (xa X 4)), (1, .int (nI j))]) C dX5_nextToken_93 rfl (by decide) rfl rfl ?_
                    refine g_aload_n (pc' := 95) C dX5_nextToken_94 1 rfl rfl rfl ?_
                    refine g_iload_n (pc' := 96) C dX5_nextToken_95 0 rfl rfl rfl ?_
                    refine g_if_eq (pc' := 99) (tgt := 105) C dX5_nextToken_96 (by decide) rfl (fun h => absurd h (by decide)) (fun _ => ?_)
                    refine g_iload_n (pc' := 100) C dX5_nextToken_99 2 rfl rfl rfl ?_
                    refine g_iconst (pc' := 101) (v := 1) C dX5_nextToken_100 rfl rfl ?_
                    refine g_iaddV (pc' := 102) (v := nI (j + 1)) C dX5_nextToken_101 (by first | exact (nI_add _ _) | rfl) rfl ?_
                    refine g_goto (tgt := 106) C dX5_nextToken_102 (by decide) ?_
                    refine g_put (pc' := 109) (ws2 := [oTap X (nI tl), oRdr X (nI rc) (nI k) (nI (j + 1)) ft, kA X 38 60 f38]) C hi_X5 tyX5 tyX5_ok nmX5 1 6 rfl rfl (by decide) (Nat.le_of_ble_eq_true rfl) rfl rfl (List.mem_of_getElem? (i := 1) rfl) dX5_nextToken_106 rfl rfl ?_
                    exact g_vret C hr dX5_nextToken_109 ((congrArg (fun zq_ : Int32 => ([oTap X (nI tl), oRdr X (nI rc) zq_ (nI (j + 1)) ft, kA X 38 60 f38] : va_W)) (show (nI k : Int32) = nI (nxS f38 tl te) from (by rw [hs0]))).trans (congrArg (fun zq_ : Int32 => ([oTap X (nI tl), oRdr X (nI rc) (nI (nxS f38 tl te)) zq_ ft, kA X 38 60 f38] : va_W)) (show (nI (j + 1) : Int32) = nI (nxE f38 tl te) from (by rw [nxE, hs0, hw2, if_pos ⟨c_74, by omega⟩, c_74]))))
              · refine g_aload_n (pc' := 53) C dX5_nextToken_52 0 rfl rfl rfl ?_
                refine g_get (pc' := 56) C hi_X5 1 0 rfl rfl (by decide) (List.mem_of_getElem? (i := 2) rfl) rfl dX5_nextToken_53 rfl ?_
                refine g_iload_n (pc' := 57) C dX5_nextToken_56 1 rfl rfl rfl ?_
                refine g_callV (pc' := 60) (st := []) (ws2 := [oTap X (nI tl), oRdr X (nI rc) (nI k) (nI te) ft, kA X 38 60 f38]) C [.int (nI j)] 1 rfl (c_X7_isPartOfWord l X tl f38 j (by first | assumption | omega)) [0, 2] [1] [1, 0, 2] gX5_nextToken_X7_isPartOfWord 0 rfl rfl rfl ⟨rfl, rfl⟩ (by decide +kernel) ⟨by decide, by decide⟩ ⟨by decide, by decide⟩ rfl (wr := [oRdr X (nI rc) (nI k) (nI te) ft]) rfl ⟨by decide, by decide, by decide, by decide⟩ rfl (Nat.le_of_ble_eq_true rfl) dX5_nextToken_57 rfl rfl ?_
                by_cases b_57 : ¬ f38 j = 32 ∧ ¬ f38 j = 44
                · refine g_top (bz_t b_57) ?_
                  refine g_if_eq (pc' := 63) (tgt := 69) C dX5_nextToken_60 (by decide) rfl (fun h => absurd h (by decide)) (fun _ => ?_)
                  refine g_iinc (pc' := 66) (v := nI (j + 1)) (lv' := [(1, .int (nI (j + 1))), (0, .ref (xa X 4))]) C dX5_nextToken_63 1 rfl (nI_1 _) (by decide) rfl rfl ?_
                  refine g_goto (tgt := 41) C dX5_nextToken_66 (by decide) ?_
                  refine g_lv (lv2 := [(0, .ref (xa X 4)), (1, .int (nI (j + 1)))]) [1, 0] rfl ?_
                  exact ih_41 (j + 1) (by omega) (hw.trans (skW_go (by omega) b_57)) (by omega)
                · refine g_top (bz_f b_57) ?_
                  refine g_if_eq (pc' := 63) (tgt := 69) C dX5_nextToken_60 (by decide) rfl (fun _ => ?_) (fun h => absurd h (by decide))
                  refine g_iload_n (pc' := 70) C dX5_nextToken_69 1 rfl rfl rfl ?_
                  have hw2 : skW f38 tl (tl - k) k = j := hw.trans (skW_at (Or.inr b_57))
                  refine g_aload_n (pc' := 71) C dX5_nextToken_70 0 rfl rfl rfl ?_
                  refine g_get (pc' := 74) C hi_X5 1 5 rfl rfl (by decide) (List.mem_of_getElem? (i := 3) rfl) rfl dX5_nextToken_71 rfl ?_
                  refine g_icmp_neN (pc' := 77) (tgt := 92) C j k rfl rfl (by omega) (by omega) dX5_nextToken_74 (by decide) rfl (fun c_74 => ?_) (fun c_74 => ?_)
                  · refine g_iconst (pc' := 93) (v := 0) C dX5_nextToken_92 rfl rfl ?_
                    refine g_istore_n (pc' := 94) (lv' := [(2, .int 0), (0, .ref (xa X 4)), (1, .int (nI j))]) C dX5_nextToken_93 rfl (by decide) rfl rfl ?_
                    refine g_aload_n (pc' := 95) C dX5_nextToken_94 1 rfl rfl rfl ?_
                    refine g_iload_n (pc' := 96) C dX5_nextToken_95 0 rfl rfl rfl ?_
                    refine g_if_eq (pc' := 99) (tgt := 105) C dX5_nextToken_96 (by decide) rfl (fun _ => ?_) (fun h => absurd h (by decide))
                    refine g_iload_n (pc' := 106) C dX5_nextToken_105 2 rfl rfl rfl ?_
                    refine g_put (pc' := 109) (ws2 := [oTap X (nI tl), oRdr X (nI rc) (nI k) (nI j) ft, kA X 38 60 f38]) C hi_X5 tyX5 tyX5_ok nmX5 1 6 rfl rfl (by decide) (Nat.le_of_ble_eq_true rfl) rfl rfl (List.mem_of_getElem? (i := 1) rfl) dX5_nextToken_106 rfl rfl ?_
                    exact g_vret C hr dX5_nextToken_109 ((congrArg (fun zq_ : Int32 => ([oTap X (nI tl), oRdr X (nI rc) zq_ (nI j) ft, kA X 38 60 f38] : va_W)) (show (nI k : Int32) = nI (nxS f38 tl te) from (by rw [hs0]))).trans (congrArg (fun zq_ : Int32 => ([oTap X (nI tl), oRdr X (nI rc) (nI (nxS f38 tl te)) zq_ ft, kA X 38 60 f38] : va_W)) (show (nI j : Int32) = nI (nxE f38 tl te) from (by rw [nxE, hs0, hw2, if_neg (fun z => c_74 z.1)]))))
                  · refine g_iload_n (pc' := 78) C dX5_nextToken_77 1 rfl rfl rfl ?_
                    refine g_aload_n (pc' := 79) C dX5_nextToken_78 0 rfl rfl rfl ?_
                    refine g_get (pc' := 82) C hi_X5 1 0 rfl rfl (by decide) (List.mem_of_getElem? (i := 2) rfl) rfl dX5_nextToken_79 rfl ?_
                    refine g_getN (pc' := 85) C hi_X7 0 1 rfl rfl (by decide) (List.mem_of_getElem? (i := 9) rfl) rfl dX5_nextToken_82 rfl ?_
                    refine g_icmp_geN (pc' := 88) (tgt := 92) C j tl rfl rfl (by omega) (by omega) dX5_nextToken_85 (by decide) rfl (fun c_85 => ?_) (fun c_85 => ?_)
                    · refine g_iconst (pc' := 93) (v := 0) C dX5_nextToken_92 rfl rfl ?_
                      refine g_istore_n (pc' := 94) (lv' := [(2, .int 0), (0, .ref (xa X 4)), (1, .int (nI j))]) C dX5_nextToken_93 rfl (by decide) rfl rfl ?_
                      refine g_aload_n (pc' := 95) C dX5_nextToken_94 1 rfl rfl rfl ?_
                      refine g_iload_n (pc' := 96) C dX5_nextToken_95 0 rfl rfl rfl ?_
                      refine g_if_eq (pc' := 99) (tgt := 105) C dX5_nextToken_96 (by decide) rfl (fun _ => ?_) (fun h => absurd h (by decide))
                      refine g_iload_n (pc' := 106) C dX5_nextToken_105 2 rfl rfl rfl ?_
                      refine g_put (pc' := 109) (ws2 := [oTap X (nI tl), oRdr X (nI rc) (nI k) (nI j) ft, kA X 38 60 f38]) C hi_X5 tyX5 tyX5_ok nmX5 1 6 rfl rfl (by decide) (Nat.le_of_ble_eq_true rfl) rfl rfl (List.mem_of_getElem? (i := 1) rfl) dX5_nextToken_106 rfl rfl ?_
                      exact g_vret C hr dX5_nextToken_109 ((congrArg (fun zq_ : Int32 => ([oTap X (nI tl), oRdr X (nI rc) zq_ (nI j) ft, kA X 38 60 f38] : va_W)) (show (nI k : Int32) = nI (nxS f38 tl te) from (by rw [hs0]))).trans (congrArg (fun zq_ : Int32 => ([oTap X (nI tl), oRdr X (nI rc) (nI (nxS f38 tl te)) zq_ ft, kA X 38 60 f38] : va_W)) (show (nI j : Int32) = nI (nxE f38 tl te) from (by rw [nxE, hs0, hw2, if_neg (fun z => by omega)]))))
                    · refine g_iconst (pc' := 89) (v := 1) C dX5_nextToken_88 rfl rfl ?_
                      skip
                      refine g_goto (tgt := 93) C dX5_nextToken_89 (by decide) ?_
                      refine g_istore_n (pc' := 94) (lv' := [(2, .int 1), (0, .ref (xa X 4)), (1, .int (nI j))]) C dX5_nextToken_93 rfl (by decide) rfl rfl ?_
                      refine g_aload_n (pc' := 95) C dX5_nextToken_94 1 rfl rfl rfl ?_
                      refine g_iload_n (pc' := 96) C dX5_nextToken_95 0 rfl rfl rfl ?_
                      refine g_if_eq (pc' := 99) (tgt := 105) C dX5_nextToken_96 (by decide) rfl (fun h => absurd h (by decide)) (fun _ => ?_)
                      refine g_iload_n (pc' := 100) C dX5_nextToken_99 2 rfl rfl rfl ?_
                      refine g_iconst (pc' := 101) (v := 1) C dX5_nextToken_100 rfl rfl ?_
                      refine g_iaddV (pc' := 102) (v := nI (j + 1)) C dX5_nextToken_101 (by first | exact (nI_add _ _) | rfl) rfl ?_
                      refine g_goto (tgt := 106) C dX5_nextToken_102 (by decide) ?_
                      refine g_put (pc' := 109) (ws2 := [oTap X (nI tl), oRdr X (nI rc) (nI k) (nI (j + 1)) ft, kA X 38 60 f38]) C hi_X5 tyX5 tyX5_ok nmX5 1 6 rfl rfl (by decide) (Nat.le_of_ble_eq_true rfl) rfl rfl (List.mem_of_getElem? (i := 1) rfl) dX5_nextToken_106 rfl rfl ?_
                      exact g_vret C hr dX5_nextToken_109 ((congrArg (fun zq_ : Int32 => ([oTap X (nI tl), oRdr X (nI rc) zq_ (nI (j + 1)) ft, kA X 38 60 f38] : va_W)) (show (nI k : Int32) = nI (nxS f38 tl te) from (by rw [hs0]))).trans (congrArg (fun zq_ : Int32 => ([oTap X (nI tl), oRdr X (nI rc) (nI (nxS f38 tl te)) zq_ ft, kA X 38 60 f38] : va_W)) (show (nI (j + 1) : Int32) = nI (nxE f38 tl te) from (by rw [nxE, hs0, hw2, if_pos ⟨c_74, by omega⟩, c_74]))))
          exact lp_41 (tl - k + 1) k (by omega) rfl (by omega)
        · refine g_iinc (pc' := 33) (v := nI (k + 1)) (lv' := [(1, .int (nI (k + 1))), (0, .ref (xa X 4))]) C dX5_nextToken_30 1 rfl (nI_1 _) (by decide) rfl rfl ?_
          refine g_goto (tgt := 5) C dX5_nextToken_33 (by decide) ?_
          refine g_lv (lv2 := [(0, .ref (xa X 4)), (1, .int (nI (k + 1)))]) [1, 0] rfl ?_
          exact ih_5 (k + 1) (by omega) (hf.trans (skB_go (by omega) c_27)) (by omega)
  refine g_lv (lv2 := [(0, .ref (xa X 4)), (1, .int (nI te))]) [1, 0] rfl ?_
  exact lp_5 (tl - te + 1) te hte rfl (by omega)

set_option maxHeartbeats 1000000 in
set_option maxRecDepth 20000 in
theorem c_X5_tokenValue (l : Launch) (X : gX) (tl : Nat) (rc : Nat) (ts : Nat) (te : Nat) (ft : Int32) (f38 : Nat → Int32) (hte6 : te ≤ 60) (hts6 : ts ≤ 60) (hby : ∀ i, i < 60 → 0 ≤ f38 i ∧ f38 i ≤ 255) : KC l yX5_tokenValue wsX5_tokenValue ⟨1, 0, 0, 13⟩ [.ref (xa X 4)] X [oTap X (nI tl), oRdr X (nI rc) (nI ts) (nI te) ft, kA X 38 60 f38] (some (.int (nmV f38 ts te))) [oTap X (nI tl), oRdr X (nI rc) (nI ts) (nI te) ft, kA X 38 60 f38] := by
  have hi_X5 : ∀ w ∈ u_ws RX5 TX5 8, w ∈ wsX5_tokenValue := fun w h => List.mem_cons_of_mem _ (List.mem_append_left _ (List.mem_append_right _ h))
  have hi_X7 : ∀ w ∈ u_ws RX7 TX7 2, w ∈ wsX5_tokenValue := fun w h => List.mem_cons_of_mem _ (List.mem_append_right _ h)
  refine KC.of cX5_tokenValue 4 (some .int) RX5 rfl (by decide) rfl (lv := [(0, .ref (xa X 4))]) rfl (Nat.le_of_ble_eq_true rfl) ?_
  intro p e s m args below meth c A C hr
  refine g_aload_n (pc' := 1) C dX5_tokenValue_0 0 rfl rfl rfl ?_
  refine g_get (pc' := 4) C hi_X5 1 5 rfl rfl (by decide) (List.mem_of_getElem? (i := 1) rfl) rfl dX5_tokenValue_1 rfl ?_
  refine g_aload_n (pc' := 5) C dX5_tokenValue_4 0 rfl rfl rfl ?_
  refine g_get (pc' := 8) C hi_X5 1 6 rfl rfl (by decide) (List.mem_of_getElem? (i := 2) rfl) rfl dX5_tokenValue_5 rfl ?_
  refine g_icmp_ltN (pc' := 11) (tgt := 13) C ts te rfl rfl (by omega) (by omega) dX5_tokenValue_8 (by decide) rfl (fun c_8 => ?_) (fun c_8 => ?_)
  · refine g_iconst (pc' := 14) (v := 0) C dX5_tokenValue_13 rfl rfl ?_
    refine g_istore_n (pc' := 15) (lv' := [(1, .int 0), (0, .ref (xa X 4))]) C dX5_tokenValue_14 rfl (by decide) rfl rfl ?_
    refine g_aload_n (pc' := 16) C dX5_tokenValue_15 1 rfl rfl rfl ?_
    refine g_get (pc' := 19) C hi_X5 1 5 rfl rfl (by decide) (List.mem_of_getElem? (i := 1) rfl) rfl dX5_tokenValue_16 rfl ?_
    refine g_istore_n (pc' := 20) (lv' := [(2, .int (nI ts)), (1, .int 0), (0, .ref (xa X 4))]) C dX5_tokenValue_19 rfl (by decide) rfl rfl ?_
    have lp_20 : ∀ (n_20 : Nat) (k : Nat) (v : Int32) (hk : ts ≤ k ∧ k ≤ te) (hf : tvF f38 (te - ts) ts 0 = tvF f38 (te - k) k v) (hm_20 : te - k < n_20), gG p l e ⟨1, 0, 0, 13⟩ s m args below meth c X A 4 0 0 (MQ below (QA X A (some (.int (nmV f38 ts te))) [oTap X (nI tl), oRdr X (nI rc) (nI ts) (nI te) ft, kA X 38 60 f38]) args s 0 0 A) [(0, .ref (xa X 4)), (1, .int v), (2, .int (nI k))] [oTap X (nI tl), oRdr X (nI rc) (nI ts) (nI te) ft, kA X 38 60 f38] 20 [] := by
      intro n_20
      induction n_20 with
      | zero => intro k v hk hf hm_20; exact absurd hm_20 (Nat.not_lt_zero _)
      | succ n_20 ih_20 =>
        intro k v hk hf hm_20
        refine g_iload_n (pc' := 21) C dX5_tokenValue_20 2 rfl rfl rfl ?_
        refine g_aload_n (pc' := 22) C dX5_tokenValue_21 0 rfl rfl rfl ?_
        refine g_get (pc' := 25) C hi_X5 1 6 rfl rfl (by decide) (List.mem_of_getElem? (i := 2) rfl) rfl dX5_tokenValue_22 rfl ?_
        refine g_icmp_geN (pc' := 28) (tgt := 71) C k te rfl rfl (by omega) (by omega) dX5_tokenValue_25 (by decide) rfl (fun c_25 => ?_) (fun c_25 => ?_)
        · refine g_iload_n (pc' := 72) C dX5_tokenValue_71 1 rfl rfl rfl ?_
          exact g_iret C hr dX5_tokenValue_72 (by rw [nmV, if_pos c_8, hf, show te - k = 0 by omega]; rfl) rfl
        · refine g_aload_n (pc' := 29) C dX5_tokenValue_28 0 rfl rfl rfl ?_
          refine g_get (pc' := 32) C hi_X5 1 0 rfl rfl (by decide) (List.mem_of_getElem? (i := 3) rfl) rfl dX5_tokenValue_29 rfl ?_
          refine g_getN (pc' := 35) C hi_X7 0 0 rfl rfl (by decide) (List.mem_of_getElem? (i := 7) rfl) rfl dX5_tokenValue_32 rfl ?_
          refine g_iload_n (pc' := 36) C dX5_tokenValue_35 2 rfl rfl rfl ?_
          refine g_iald (pc' := 37) C 2 k rfl rfl (by omega) (by decide) dX5_tokenValue_36 rfl ?_
          have by9 := byte_sub (hby k (by omega))
          refine g_bipush (pc' := 39) (v := 48) C dX5_tokenValue_37 (by decide) rfl ?_
          refine g_isub (pc' := 40) C dX5_tokenValue_39 rfl ?_
          refine g_istore_n (pc' := 41) (lv' := [(3, .int ((f38 k) - 48)), (0, .ref (xa X 4)), (1, .int v), (2, .int (nI k))]) C dX5_tokenValue_40 rfl (by decide) rfl rfl ?_
          refine g_iload_n (pc' := 42) C dX5_tokenValue_41 0 rfl rfl rfl ?_
          refine g_if_lt (pc' := 45) (tgt := 51) C dX5_tokenValue_42 (by decide) rfl (fun c_42 => ?_) (fun c_42 => ?_)
          · refine g_iconst (pc' := 52) (v := (-1)) C dX5_tokenValue_51 rfl rfl ?_
            have dg9 : ¬ (48 ≤ f38 k ∧ f38 k ≤ 57) := fun z => (by9.1.mp c_42) z.1
            exact g_iret C hr dX5_tokenValue_52 (by rw [nmV, if_pos c_8, hf, show te - k = (te - (k + 1)) + 1 by omega, tvF, if_neg dg9]) rfl
          · refine g_iload_n (pc' := 46) C dX5_tokenValue_45 0 rfl rfl rfl ?_
            refine g_bipush (pc' := 48) (v := 9) C dX5_tokenValue_46 (by decide) rfl ?_
            refine g_icmp_le (pc' := 51) (tgt := 53) C dX5_tokenValue_48 (by decide) rfl (fun c_48 => ?_) (fun c_48 => ?_)
            · refine g_iload_n (pc' := 54) C dX5_tokenValue_53 2 rfl rfl rfl ?_
              have dg9 : 48 ≤ f38 k ∧ f38 k ≤ 57 := ⟨Decidable.byContradiction (fun z => c_42 (by9.1.mpr z)), by9.2.mp c_48⟩
              refine g_bipush (pc' := 56) (v := 10) C dX5_tokenValue_54 (by decide) rfl ?_
              refine g_imul (pc' := 57) C dX5_tokenValue_56 rfl ?_
              refine g_iload_n (pc' := 58) C dX5_tokenValue_57 0 rfl rfl rfl ?_
              refine g_iadd (pc' := 59) C dX5_tokenValue_58 rfl ?_
              refine g_ldc (pc' := 61) (v := 100000) C (List.mem_of_getElem? (i := 4) rfl) dX5_tokenValue_59 rfl ?_
              refine g_mmin (pc' := 64) C (List.mem_of_getElem? (i := 5) rfl) (List.mem_of_getElem? (i := 6) rfl) (List.mem_of_getElem? (i := 7) rfl) (List.mem_of_getElem? (i := 8) rfl) (by decide) (Nat.le_of_ble_eq_true rfl) (by decide) (by decide) dX5_tokenValue_61 rfl ?_
              refine g_istore_n (pc' := 65) (lv' := [(1, .int (if 100000 < ((v * 10) + ((f38 k) - 48)) then 100000 else ((v * 10) + ((f38 k) - 48)))), (3, .int ((f38 k) - 48)), (0, .ref (xa X 4)), (2, .int (nI k))]) C dX5_tokenValue_64 rfl (by decide) rfl rfl ?_
              refine g_iinc (pc' := 68) (v := nI (k + 1)) (lv' := [(2, .int (nI (k + 1))), (1, .int (if 100000 < ((v * 10) + ((f38 k) - 48)) then 100000 else ((v * 10) + ((f38 k) - 48)))), (3, .int ((f38 k) - 48)), (0, .ref (xa X 4))]) C dX5_tokenValue_65 3 rfl (nI_1 _) (by decide) rfl rfl ?_
              refine g_goto (tgt := 20) C dX5_tokenValue_68 (by decide) ?_
              refine g_lv (lv2 := [(0, .ref (xa X 4)), (1, .int (if 100000 < ((v * 10) + ((f38 k) - 48)) then 100000 else ((v * 10) + ((f38 k) - 48)))), (2, .int (nI (k + 1)))]) [3, 1, 0] rfl ?_
              refine g_eq (lv2 := [(0, .ref (xa X 4)), (1, .int (if 100000 < ((v * 10) + ((f38 k) - 48)) then 100000 else ((v * 10) + ((f38 k) - 48)))), (2, .int (nI (k + 1)))]) (ws2 := [oTap X (nI tl), oRdr X (nI rc) (nI ts) (nI te) ft, kA X 38 60 f38]) (st2 := []) (congrArg (fun zq_ : Int32 => ([(0, .ref (xa X 4)), (1, .int zq_), (2, .int (nI (k + 1)))] : List (Nat × Value))) (show (if 100000 < ((v * 10) + ((f38 k) - 48)) then 100000 else ((v * 10) + ((f38 k) - 48)) : Int32) = (if 100000 < ((v * 10) + ((f38 k) - 48)) then 100000 else ((v * 10) + ((f38 k) - 48))) from (by first | rfl | omega | (simp [c_8, c_25, c_42, c_48]; done) | (simp [c_8, c_25, c_42, c_48]; omega) | (simp [c_8, c_25, c_42, c_48]; intros; exfalso; omega) | grind []))) rfl rfl ?_
              exact ih_20 (k + 1) (if 100000 < ((v * 10) + ((f38 k) - 48)) then 100000 else ((v * 10) + ((f38 k) - 48))) (by omega) (hf.trans (by rw [show te - k = (te - (k + 1)) + 1 by omega, tvF, if_pos dg9]; rfl)) (by omega)
            · refine g_iconst (pc' := 52) (v := (-1)) C dX5_tokenValue_51 rfl rfl ?_
              have dg9 : ¬ (48 ≤ f38 k ∧ f38 k ≤ 57) := fun z => c_48 (by9.2.mpr z.2)
              exact g_iret C hr dX5_tokenValue_52 (by rw [nmV, if_pos c_8, hf, show te - k = (te - (k + 1)) + 1 by omega, tvF, if_neg dg9]) rfl
    refine g_lv (lv2 := [(0, .ref (xa X 4)), (1, .int 0), (2, .int (nI ts))]) [2, 1, 0] rfl ?_
    exact lp_20 (te - ts + 1) ts 0 ⟨Nat.le_refl _, Nat.le_of_lt c_8⟩ rfl (by omega)
  · refine g_iconst (pc' := 12) (v := (-1)) C dX5_tokenValue_11 rfl rfl ?_
    exact g_iret C hr dX5_tokenValue_12 (by rw [nmV, if_neg (by omega)]) rfl

set_option maxHeartbeats 1000000 in
set_option maxRecDepth 20000 in
theorem c_X5_tokenIs (l : Launch) (X : gX) (tl : Nat) (rc : Nat) (ts : Nat) (te : Nat) (ft : Int32) (f38 : Nat → Int32) (i : Nat) (hi : i < 5) (hse : ts ≤ te) (hte6 : te ≤ 60) : KC l yX5_tokenIs wsX5_tokenIs ⟨4, 0, 0, 85⟩ [.ref (xa X 4), .ref (xK X i)] X [oTap X (nI tl), oRdr X (nI rc) (nI ts) (nI te) ft, kA X 38 60 f38] (some (.int (bz (wmB f38 ts te i = true)))) [oTap X (nI tl), oRdr X (nI rc) (nI ts) (nI te) ft, kA X 38 60 f38] := by
  have hi_X5 : ∀ w ∈ u_ws RX5 TX5 8, w ∈ wsX5_tokenIs := fun w h => List.mem_cons_of_mem _ (List.mem_append_left _ (List.mem_append_right _ h))
  have hi_X7 : ∀ w ∈ u_ws RX7 TX7 2, w ∈ wsX5_tokenIs := fun w h => List.mem_cons_of_mem _ (List.mem_append_right _ h)
  refine KC.of cX5_tokenIs 3 (some .boolean) RX5 rfl (by decide) rfl (lv := [(0, .ref (xa X 4)), (1, .ref (xK X i))]) rfl (Nat.le_of_ble_eq_true rfl) ?_
  intro p e s m args below meth c A C hr
  have hjl := jsL_lt i hi
  refine g_aload_n (pc' := 1) C dX5_tokenIs_0 0 rfl rfl rfl ?_
  refine g_get (pc' := 4) C hi_X5 1 6 rfl rfl (by decide) (List.mem_of_getElem? (i := 1) rfl) rfl dX5_tokenIs_1 rfl ?_
  refine g_aload_n (pc' := 5) C dX5_tokenIs_4 0 rfl rfl rfl ?_
  refine g_get (pc' := 8) C hi_X5 1 5 rfl rfl (by decide) (List.mem_of_getElem? (i := 2) rfl) rfl dX5_tokenIs_5 rfl ?_
  refine g_isubV (pc' := 9) (v := nI (te - ts)) C dX5_tokenIs_8 (pk_sub (a := te) (b := ts) (by omega)) rfl ?_
  refine g_aload_n (pc' := 10) C dX5_tokenIs_9 1 rfl rfl rfl ?_
  refine g_callVR (pc' := 13) (st := [.int (nI (te - ts))]) (ws2 := [oTap X (nI tl), oRdr X (nI rc) (nI ts) (nI te) ft, kA X 38 60 f38]) C [] 0 rfl (c_J0_length_8abf5 l X i hi) [] [0, 1, 2] [0, 1, 2] gX5_tokenIs_J0_length_8abf5 (fun H locs hS => vk_recv C.2.2.2.2.2.2.2.1.2.2.2.2.1 hi hS) rfl ⟨rfl, rfl⟩ (by decide +kernel) ⟨by decide, by decide⟩ ⟨by decide, by decide⟩ rfl (wr := [oTap X (nI tl), oRdr X (nI rc) (nI ts) (nI te) ft, kA X 38 60 f38]) rfl ⟨by decide, by decide, by decide, by decide⟩ rfl (Nat.le_of_ble_eq_true rfl) dX5_tokenIs_10 rfl rfl ?_
  refine g_icmp_eqN (pc' := 16) (tgt := 18) C (te - ts) (jsL.getD i 0) rfl rfl (by omega) (by omega) dX5_tokenIs_13 (by decide) rfl (fun c_13 => ?_) (fun c_13 => ?_)
  · refine g_iconst (pc' := 19) (v := 0) C dX5_tokenIs_18 rfl rfl ?_
    refine g_istore_n (pc' := 20) (lv' := [(2, .int 0), (0, .ref (xa X 4)), (1, .ref (xK X i))]) C dX5_tokenIs_19 rfl (by decide) rfl rfl ?_
    have lp_20 : ∀ (n_20 : Nat) (k : Nat) (hk : k ≤ jsL.getD i 0) (ha : ∀ j, j < k → f38 (ts + j) = jch i j) (hm_20 : jsL.getD i 0 - k < n_20), gG p l e ⟨4, 0, 0, 85⟩ s m args below meth c X A 3 0 0 (MQ below (QA X A (some (.int (bz (wmB f38 ts te i = true)))) [oTap X (nI tl), oRdr X (nI rc) (nI ts) (nI te) ft, kA X 38 60 f38]) args s 0 0 A) [(0, .ref (xa X 4)), (1, .ref (xK X i)), (2, .int (nI k))] [oTap X (nI tl), oRdr X (nI rc) (nI ts) (nI te) ft, kA X 38 60 f38] 20 [] := by
      intro n_20
      induction n_20 with
      | zero => intro k hk ha hm_20; exact absurd hm_20 (Nat.not_lt_zero _)
      | succ n_20 ih_20 =>
        intro k hk ha hm_20
        refine g_iload_n (pc' := 21) C dX5_tokenIs_20 2 rfl rfl rfl ?_
        refine g_aload_n (pc' := 22) C dX5_tokenIs_21 1 rfl rfl rfl ?_
        refine g_callVR (pc' := 25) (st := [.int (nI k)]) (ws2 := [oTap X (nI tl), oRdr X (nI rc) (nI ts) (nI te) ft, kA X 38 60 f38]) C [] 0 rfl (c_J0_length_8abf5 l X i hi) [] [0, 1, 2] [0, 1, 2] gX5_tokenIs_J0_length_8abf5 (fun H locs hS => vk_recv C.2.2.2.2.2.2.2.1.2.2.2.2.1 hi hS) rfl ⟨rfl, rfl⟩ (by decide +kernel) ⟨by decide, by decide⟩ ⟨by decide, by decide⟩ rfl (wr := [oTap X (nI tl), oRdr X (nI rc) (nI ts) (nI te) ft, kA X 38 60 f38]) rfl ⟨by decide, by decide, by decide, by decide⟩ rfl (Nat.le_of_ble_eq_true rfl) dX5_tokenIs_22 rfl rfl ?_
        refine g_icmp_geN (pc' := 28) (tgt := 58) C k (jsL.getD i 0) rfl rfl (by omega) (by omega) dX5_tokenIs_25 (by decide) rfl (fun c_25 => ?_) (fun c_25 => ?_)
        · refine g_iconst (pc' := 59) (v := 1) C dX5_tokenIs_58 rfl rfl ?_
          exact g_zret C hr rfl dX5_tokenIs_59 (bz_t (wmB_iff.mpr ⟨c_13, fun j hj => ha j (by omega)⟩)).symm rfl
        · refine g_aload_n (pc' := 29) C dX5_tokenIs_28 0 rfl rfl rfl ?_
          refine g_get (pc' := 32) C hi_X5 1 0 rfl rfl (by decide) (List.mem_of_getElem? (i := 3) rfl) rfl dX5_tokenIs_29 rfl ?_
          refine g_getN (pc' := 35) C hi_X7 0 0 rfl rfl (by decide) (List.mem_of_getElem? (i := 7) rfl) rfl dX5_tokenIs_32 rfl ?_
          refine g_aload_n (pc' := 36) C dX5_tokenIs_35 0 rfl rfl rfl ?_
          refine g_get (pc' := 39) C hi_X5 1 5 rfl rfl (by decide) (List.mem_of_getElem? (i := 2) rfl) rfl dX5_tokenIs_36 rfl ?_
          refine g_iload_n (pc' := 40) C dX5_tokenIs_39 2 rfl rfl rfl ?_
          refine g_iaddV (pc' := 41) (v := nI (ts + k)) C dX5_tokenIs_40 (by first | exact (nI_add _ _) | rfl) rfl ?_
          refine g_iald (pc' := 42) C 2 (ts + k) rfl rfl (by omega) (by decide) dX5_tokenIs_41 rfl ?_
          refine g_aload_n (pc' := 43) C dX5_tokenIs_42 1 rfl rfl rfl ?_
          refine g_iload_n (pc' := 44) C dX5_tokenIs_43 2 rfl rfl rfl ?_
          refine g_callVR (pc' := 47) (st := [.int (f38 (ts + k))]) (ws2 := [oTap X (nI tl), oRdr X (nI rc) (nI ts) (nI te) ft, kA X 38 60 f38]) C [.int (nI k)] 1 rfl (c_J0_charAt_5068e l X i k hi (by omega)) [] [0, 1, 2] [0, 1, 2] gX5_tokenIs_J0_charAt_5068e (fun H locs hS => vk_recv C.2.2.2.2.2.2.2.1.2.2.2.2.1 hi hS) rfl ⟨rfl, rfl⟩ (by decide +kernel) ⟨by decide, by decide⟩ ⟨by decide, by decide⟩ rfl (wr := [oTap X (nI tl), oRdr X (nI rc) (nI ts) (nI te) ft, kA X 38 60 f38]) rfl ⟨by decide, by decide, by decide, by decide⟩ rfl (Nat.le_of_ble_eq_true rfl) dX5_tokenIs_44 rfl rfl ?_
          refine g_icmp_eq (pc' := 50) (tgt := 52) C dX5_tokenIs_47 (by decide) rfl (fun c_47 => ?_) (fun c_47 => ?_)
          · refine g_iinc (pc' := 55) (v := nI (k + 1)) (lv' := [(2, .int (nI (k + 1))), (0, .ref (xa X 4)), (1, .ref (xK X i))]) C dX5_tokenIs_52 2 rfl (nI_1 _) (by decide) rfl rfl ?_
            refine g_goto (tgt := 20) C dX5_tokenIs_55 (by decide) ?_
            refine g_lv (lv2 := [(0, .ref (xa X 4)), (1, .ref (xK X i)), (2, .int (nI (k + 1)))]) [1, 2, 0] rfl ?_
            exact ih_20 (k + 1) (by omega) (lt_s ha c_47) (by omega)
          · refine g_iconst (pc' := 51) (v := 0) C dX5_tokenIs_50 rfl rfl ?_
            exact g_zret C hr rfl dX5_tokenIs_51 (bz_f (fun z => c_47 ((wmB_iff.mp z).2 k (by omega)))).symm rfl
    refine g_lv (lv2 := [(0, .ref (xa X 4)), (1, .ref (xK X i)), (2, .int 0)]) [1, 2, 0] rfl ?_
    exact lp_20 (jsL.getD i 0 - 0 + 1) 0 (Nat.zero_le _) (fun j hj => absurd hj (Nat.not_lt_zero _)) (by omega)
  · refine g_iconst (pc' := 17) (v := 0) C dX5_tokenIs_16 rfl rfl ?_
    exact g_zret C hr rfl dX5_tokenIs_17 (bz_f (fun z => c_13 (wmB_iff.mp z).1)).symm rfl

theorem oh_ne {v h ft s N : Int32} {P : Prop} [Decidable P] (c : ¬ (if P then v else N) = h) : (if P then ft else s) = if P ∧ ¬ v = h then ft else s := by
  by_cases q : P
  · rw [if_pos q] at c; rw [if_pos q, if_pos ⟨q, c⟩]
  · rw [if_neg q, if_neg (fun z => q z.1)]
theorem oh_eq {v h ft s N : Int32} {P : Prop} [Decidable P] (c : (if P then v else N) = h) (hh : ¬ N = h) : s = if P ∧ ¬ v = h then ft else s := by
  by_cases q : P
  · rw [if_pos q] at c; rw [if_neg (fun z => z.2 c)]
  · rw [if_neg q] at c; exact absurd c hh

set_option maxHeartbeats 1000000 in
set_option maxRecDepth 20000 in
theorem c_X5_readKind (l : Launch) (X : gX) (tl : Nat) (rc : Nat) (ts : Nat) (te : Nat) (ft : Int32) (f38 : Nat → Int32) (hte : te ≤ tl) (htl : tl ≤ 60) : KC l yX5_readKind wsX5_readKind ⟨5, 0, 0, 107⟩ [.ref (xa X 4)] X [oTap X (nI tl), oRdr X (nI rc) (nI ts) (nI te) ft, kA X 38 60 f38] (some (.int (kdX f38 (nxS f38 tl te) (nxE f38 tl te)))) [oTap X (nI tl), oRdr X (nI rc) (nI (nxS f38 tl te)) (nI (nxE f38 tl te)) (if kdX f38 (nxS f38 tl te) (nxE f38 tl te) = (-1) then nI (nxS f38 tl te) else ft), kA X 38 60 f38] := by
  have hi_X5 : ∀ w ∈ u_ws RX5 TX5 8, w ∈ wsX5_readKind := fun w h => List.mem_cons_of_mem _ (List.mem_append_left _ (List.mem_append_right _ h))
  have hi_X7 : ∀ w ∈ u_ws RX7 TX7 2, w ∈ wsX5_readKind := fun w h => List.mem_cons_of_mem _ (List.mem_append_right _ h)
  refine KC.of cX5_readKind 2 (some .int) RX5 rfl (by decide) rfl (lv := [(0, .ref (xa X 4))]) rfl (Nat.le_of_ble_eq_true rfl) ?_
  intro p e s m args below meth c A C hr
  have nb1 := nxE_b (t := f38) hte
  refine g_aload_n (pc' := 1) C dX5_readKind_0 0 rfl rfl rfl ?_
  refine g_callV (pc' := 4) (st := []) (ws2 := [oTap X (nI tl), oRdr X (nI rc) (nI (nxS f38 tl te)) (nI (nxE f38 tl te)) ft, kA X 38 60 f38]) C [] 0 rfl (c_X5_nextToken l X tl rc ts te ft f38 (by first | assumption | omega) (by first | assumption | omega)) [0, 1, 2] [] [0, 1, 2] gX5_readKind_X5_nextToken 1 rfl rfl rfl ⟨rfl, rfl⟩ (by decide +kernel) ⟨by decide, by decide⟩ ⟨by decide, by decide⟩ rfl (wr := []) rfl ⟨by decide, by decide, by decide, by decide⟩ rfl (Nat.le_of_ble_eq_true rfl) dX5_readKind_1 rfl rfl ?_
  refine g_iconst (pc' := 5) (v := 1) C dX5_readKind_4 rfl rfl ?_
  refine g_istore_n (pc' := 6) (lv' := [(1, .int 1), (0, .ref (xa X 4))]) C dX5_readKind_5 rfl (by decide) rfl rfl ?_
  refine g_iload_n (pc' := 7) C dX5_readKind_6 0 rfl rfl rfl ?_
  refine g_iconst (pc' := 8) (v := 5) C dX5_readKind_7 rfl rfl ?_
  refine g_icmp_gtN (pc' := 11) (tgt := 30) C 1 5 rfl rfl (by omega) (by omega) dX5_readKind_8 (by decide) rfl (fun h => absurd h (by decide)) (fun _ => ?_)
  refine g_aload_n (pc' := 12) C dX5_readKind_11 1 rfl rfl rfl ?_
  refine g_iload_n (pc' := 13) C dX5_readKind_12 0 rfl rfl rfl ?_
  refine g_callS (pc' := 16) (st := [.ref (xa X 4)]) (ws2 := [oTap X (nI tl), oRdr X (nI rc) (nI (nxS f38 tl te)) (nI (nxE f38 tl te)) ft, kA X 38 60 f38]) C [.int 1] 1 rfl (c_X5_wordOfKind l X 1 (by decide)) [] [0, 1, 2] [0, 1, 2] gX5_readKind_X5_wordOfKind rfl ⟨rfl, rfl⟩ (by decide +kernel) ⟨by decide, by decide⟩ ⟨by decide, by decide⟩ rfl (wr := [oTap X (nI tl), oRdr X (nI rc) (nI (nxS f38 tl te)) (nI (nxE f38 tl te)) ft, kA X 38 60 f38]) rfl ⟨by decide, by decide, by decide, by decide⟩ rfl (Nat.le_of_ble_eq_true rfl) dX5_readKind_13 rfl rfl ?_
  refine g_callV (pc' := 19) (st := []) (ws2 := [oTap X (nI tl), oRdr X (nI rc) (nI (nxS f38 tl te)) (nI (nxE f38 tl te)) ft, kA X 38 60 f38]) C [.ref (xK X (1 - 1))] 1 rfl (c_X5_tokenIs l X tl rc (nxS f38 tl te) (nxE f38 tl te) ft f38 0 (by decide) (by first | assumption | omega) (by first | assumption | omega)) [0, 1, 2] [] [0, 1, 2] gX5_readKind_X5_tokenIs 1 rfl rfl rfl ⟨rfl, rfl⟩ (by decide +kernel) ⟨by decide, by decide⟩ ⟨by decide, by decide⟩ rfl (wr := []) rfl ⟨by decide, by decide, by decide, by decide⟩ rfl (Nat.le_of_ble_eq_true rfl) dX5_readKind_16 rfl rfl ?_
  by_cases b_16 : wmB f38 (nxS f38 tl te) (nxE f38 tl te) 0 = true
  · refine g_top (bz_t b_16) ?_
    refine g_if_eq (pc' := 22) (tgt := 24) C dX5_readKind_19 (by decide) rfl (fun h => absurd h (by decide)) (fun _ => ?_)
    refine g_iload_n (pc' := 23) C dX5_readKind_22 0 rfl rfl rfl ?_
    have kx : kdX f38 (nxS f38 tl te) (nxE f38 tl te) = 1 := by rw [kdX, if_pos b_16]
    exact g_iret C hr dX5_readKind_23 (by rw [kx]) (congrArg (fun zq_ : Int32 => ([oTap X (nI tl), oRdr X (nI rc) (nI (nxS f38 tl te)) (nI (nxE f38 tl te)) zq_, kA X 38 60 f38] : va_W)) (show (ft : Int32) = if kdX f38 (nxS f38 tl te) (nxE f38 tl te) = (-1) then nI (nxS f38 tl te) else ft from (by rw [kx, if_neg (by decide)])))
  · refine g_top (bz_f b_16) ?_
    refine g_if_eq (pc' := 22) (tgt := 24) C dX5_readKind_19 (by decide) rfl (fun _ => ?_) (fun h => absurd h (by decide))
    refine g_iinc (pc' := 27) (v := 2) (lv' := [(1, .int 2), (0, .ref (xa X 4))]) C dX5_readKind_24 0 rfl (by decide) (by decide) rfl rfl ?_
    refine g_goto (tgt := 6) C dX5_readKind_27 (by decide) ?_
    refine g_iload_n (pc' := 7) C dX5_readKind_6 0 rfl rfl rfl ?_
    refine g_iconst (pc' := 8) (v := 5) C dX5_readKind_7 rfl rfl ?_
    refine g_icmp_gtN (pc' := 11) (tgt := 30) C 2 5 rfl rfl (by omega) (by omega) dX5_readKind_8 (by decide) rfl (fun h => absurd h (by decide)) (fun _ => ?_)
    refine g_aload_n (pc' := 12) C dX5_readKind_11 1 rfl rfl rfl ?_
    refine g_iload_n (pc' := 13) C dX5_readKind_12 0 rfl rfl rfl ?_
    refine g_callS (pc' := 16) (st := [.ref (xa X 4)]) (ws2 := [oTap X (nI tl), oRdr X (nI rc) (nI (nxS f38 tl te)) (nI (nxE f38 tl te)) ft, kA X 38 60 f38]) C [.int 2] 1 rfl (c_X5_wordOfKind l X 2 (by decide)) [] [0, 1, 2] [0, 1, 2] gX5_readKind_X5_wordOfKind rfl ⟨rfl, rfl⟩ (by decide +kernel) ⟨by decide, by decide⟩ ⟨by decide, by decide⟩ rfl (wr := [oTap X (nI tl), oRdr X (nI rc) (nI (nxS f38 tl te)) (nI (nxE f38 tl te)) ft, kA X 38 60 f38]) rfl ⟨by decide, by decide, by decide, by decide⟩ rfl (Nat.le_of_ble_eq_true rfl) dX5_readKind_13 rfl rfl ?_
    refine g_callV (pc' := 19) (st := []) (ws2 := [oTap X (nI tl), oRdr X (nI rc) (nI (nxS f38 tl te)) (nI (nxE f38 tl te)) ft, kA X 38 60 f38]) C [.ref (xK X (2 - 1))] 1 rfl (c_X5_tokenIs l X tl rc (nxS f38 tl te) (nxE f38 tl te) ft f38 1 (by decide) (by first | assumption | omega) (by first | assumption | omega)) [0, 1, 2] [] [0, 1, 2] gX5_readKind_X5_tokenIs 1 rfl rfl rfl ⟨rfl, rfl⟩ (by decide +kernel) ⟨by decide, by decide⟩ ⟨by decide, by decide⟩ rfl (wr := []) rfl ⟨by decide, by decide, by decide, by decide⟩ rfl (Nat.le_of_ble_eq_true rfl) dX5_readKind_16 rfl rfl ?_
    by_cases b_16' : wmB f38 (nxS f38 tl te) (nxE f38 tl te) 1 = true
    · refine g_top (bz_t b_16') ?_
      refine g_if_eq (pc' := 22) (tgt := 24) C dX5_readKind_19 (by decide) rfl (fun h => absurd h (by decide)) (fun _ => ?_)
      refine g_iload_n (pc' := 23) C dX5_readKind_22 0 rfl rfl rfl ?_
      have kx : kdX f38 (nxS f38 tl te) (nxE f38 tl te) = 2 := by rw [kdX, if_neg b_16, if_pos b_16']
      exact g_iret C hr dX5_readKind_23 (by rw [kx]) (congrArg (fun zq_ : Int32 => ([oTap X (nI tl), oRdr X (nI rc) (nI (nxS f38 tl te)) (nI (nxE f38 tl te)) zq_, kA X 38 60 f38] : va_W)) (show (ft : Int32) = if kdX f38 (nxS f38 tl te) (nxE f38 tl te) = (-1) then nI (nxS f38 tl te) else ft from (by rw [kx, if_neg (by decide)])))
    · refine g_top (bz_f b_16') ?_
      refine g_if_eq (pc' := 22) (tgt := 24) C dX5_readKind_19 (by decide) rfl (fun _ => ?_) (fun h => absurd h (by decide))
      refine g_iinc (pc' := 27) (v := 3) (lv' := [(1, .int 3), (0, .ref (xa X 4))]) C dX5_readKind_24 0 rfl (by decide) (by decide) rfl rfl ?_
      refine g_goto (tgt := 6) C dX5_readKind_27 (by decide) ?_
      refine g_iload_n (pc' := 7) C dX5_readKind_6 0 rfl rfl rfl ?_
      refine g_iconst (pc' := 8) (v := 5) C dX5_readKind_7 rfl rfl ?_
      refine g_icmp_gtN (pc' := 11) (tgt := 30) C 3 5 rfl rfl (by omega) (by omega) dX5_readKind_8 (by decide) rfl (fun h => absurd h (by decide)) (fun _ => ?_)
      refine g_aload_n (pc' := 12) C dX5_readKind_11 1 rfl rfl rfl ?_
      refine g_iload_n (pc' := 13) C dX5_readKind_12 0 rfl rfl rfl ?_
      refine g_callS (pc' := 16) (st := [.ref (xa X 4)]) (ws2 := [oTap X (nI tl), oRdr X (nI rc) (nI (nxS f38 tl te)) (nI (nxE f38 tl te)) ft, kA X 38 60 f38]) C [.int 3] 1 rfl (c_X5_wordOfKind l X 3 (by decide)) [] [0, 1, 2] [0, 1, 2] gX5_readKind_X5_wordOfKind rfl ⟨rfl, rfl⟩ (by decide +kernel) ⟨by decide, by decide⟩ ⟨by decide, by decide⟩ rfl (wr := [oTap X (nI tl), oRdr X (nI rc) (nI (nxS f38 tl te)) (nI (nxE f38 tl te)) ft, kA X 38 60 f38]) rfl ⟨by decide, by decide, by decide, by decide⟩ rfl (Nat.le_of_ble_eq_true rfl) dX5_readKind_13 rfl rfl ?_
      refine g_callV (pc' := 19) (st := []) (ws2 := [oTap X (nI tl), oRdr X (nI rc) (nI (nxS f38 tl te)) (nI (nxE f38 tl te)) ft, kA X 38 60 f38]) C [.ref (xK X (3 - 1))] 1 rfl (c_X5_tokenIs l X tl rc (nxS f38 tl te) (nxE f38 tl te) ft f38 2 (by decide) (by first | assumption | omega) (by first | assumption | omega)) [0, 1, 2] [] [0, 1, 2] gX5_readKind_X5_tokenIs 1 rfl rfl rfl ⟨rfl, rfl⟩ (by decide +kernel) ⟨by decide, by decide⟩ ⟨by decide, by decide⟩ rfl (wr := []) rfl ⟨by decide, by decide, by decide, by decide⟩ rfl (Nat.le_of_ble_eq_true rfl) dX5_readKind_16 rfl rfl ?_
      by_cases b_16'' : wmB f38 (nxS f38 tl te) (nxE f38 tl te) 2 = true
      · refine g_top (bz_t b_16'') ?_
        refine g_if_eq (pc' := 22) (tgt := 24) C dX5_readKind_19 (by decide) rfl (fun h => absurd h (by decide)) (fun _ => ?_)
        refine g_iload_n (pc' := 23) C dX5_readKind_22 0 rfl rfl rfl ?_
        have kx : kdX f38 (nxS f38 tl te) (nxE f38 tl te) = 3 := by rw [kdX, if_neg b_16, if_neg b_16', if_pos b_16'']
        exact g_iret C hr dX5_readKind_23 (by rw [kx]) (congrArg (fun zq_ : Int32 => ([oTap X (nI tl), oRdr X (nI rc) (nI (nxS f38 tl te)) (nI (nxE f38 tl te)) zq_, kA X 38 60 f38] : va_W)) (show (ft : Int32) = if kdX f38 (nxS f38 tl te) (nxE f38 tl te) = (-1) then nI (nxS f38 tl te) else ft from (by rw [kx, if_neg (by decide)])))
      · refine g_top (bz_f b_16'') ?_
        refine g_if_eq (pc' := 22) (tgt := 24) C dX5_readKind_19 (by decide) rfl (fun _ => ?_) (fun h => absurd h (by decide))
        refine g_iinc (pc' := 27) (v := 4) (lv' := [(1, .int 4), (0, .ref (xa X 4))]) C dX5_readKind_24 0 rfl (by decide) (by decide) rfl rfl ?_
        refine g_goto (tgt := 6) C dX5_readKind_27 (by decide) ?_
        refine g_iload_n (pc' := 7) C dX5_readKind_6 0 rfl rfl rfl ?_
        refine g_iconst (pc' := 8) (v := 5) C dX5_readKind_7 rfl rfl ?_
        refine g_icmp_gtN (pc' := 11) (tgt := 30) C 4 5 rfl rfl (by omega) (by omega) dX5_readKind_8 (by decide) rfl (fun h => absurd h (by decide)) (fun _ => ?_)
        refine g_aload_n (pc' := 12) C dX5_readKind_11 1 rfl rfl rfl ?_
        refine g_iload_n (pc' := 13) C dX5_readKind_12 0 rfl rfl rfl ?_
        refine g_callS (pc' := 16) (st := [.ref (xa X 4)]) (ws2 := [oTap X (nI tl), oRdr X (nI rc) (nI (nxS f38 tl te)) (nI (nxE f38 tl te)) ft, kA X 38 60 f38]) C [.int 4] 1 rfl (c_X5_wordOfKind l X 4 (by decide)) [] [0, 1, 2] [0, 1, 2] gX5_readKind_X5_wordOfKind rfl ⟨rfl, rfl⟩ (by decide +kernel) ⟨by decide, by decide⟩ ⟨by decide, by decide⟩ rfl (wr := [oTap X (nI tl), oRdr X (nI rc) (nI (nxS f38 tl te)) (nI (nxE f38 tl te)) ft, kA X 38 60 f38]) rfl ⟨by decide, by decide, by decide, by decide⟩ rfl (Nat.le_of_ble_eq_true rfl) dX5_readKind_13 rfl rfl ?_
        refine g_callV (pc' := 19) (st := []) (ws2 := [oTap X (nI tl), oRdr X (nI rc) (nI (nxS f38 tl te)) (nI (nxE f38 tl te)) ft, kA X 38 60 f38]) C [.ref (xK X (4 - 1))] 1 rfl (c_X5_tokenIs l X tl rc (nxS f38 tl te) (nxE f38 tl te) ft f38 3 (by decide) (by first | assumption | omega) (by first | assumption | omega)) [0, 1, 2] [] [0, 1, 2] gX5_readKind_X5_tokenIs 1 rfl rfl rfl ⟨rfl, rfl⟩ (by decide +kernel) ⟨by decide, by decide⟩ ⟨by decide, by decide⟩ rfl (wr := []) rfl ⟨by decide, by decide, by decide, by decide⟩ rfl (Nat.le_of_ble_eq_true rfl) dX5_readKind_16 rfl rfl ?_
        by_cases b_16''' : wmB f38 (nxS f38 tl te) (nxE f38 tl te) 3 = true
        · refine g_top (bz_t b_16''') ?_
          refine g_if_eq (pc' := 22) (tgt := 24) C dX5_readKind_19 (by decide) rfl (fun h => absurd h (by decide)) (fun _ => ?_)
          refine g_iload_n (pc' := 23) C dX5_readKind_22 0 rfl rfl rfl ?_
          have kx : kdX f38 (nxS f38 tl te) (nxE f38 tl te) = 4 := by rw [kdX, if_neg b_16, if_neg b_16', if_neg b_16'', if_pos b_16''']
          exact g_iret C hr dX5_readKind_23 (by rw [kx]) (congrArg (fun zq_ : Int32 => ([oTap X (nI tl), oRdr X (nI rc) (nI (nxS f38 tl te)) (nI (nxE f38 tl te)) zq_, kA X 38 60 f38] : va_W)) (show (ft : Int32) = if kdX f38 (nxS f38 tl te) (nxE f38 tl te) = (-1) then nI (nxS f38 tl te) else ft from (by rw [kx, if_neg (by decide)])))
        · refine g_top (bz_f b_16''') ?_
          refine g_if_eq (pc' := 22) (tgt := 24) C dX5_readKind_19 (by decide) rfl (fun _ => ?_) (fun h => absurd h (by decide))
          refine g_iinc (pc' := 27) (v := 5) (lv' := [(1, .int 5), (0, .ref (xa X 4))]) C dX5_readKind_24 0 rfl (by decide) (by decide) rfl rfl ?_
          refine g_goto (tgt := 6) C dX5_readKind_27 (by decide) ?_
          refine g_iload_n (pc' := 7) C dX5_readKind_6 0 rfl rfl rfl ?_
          refine g_iconst (pc' := 8) (v := 5) C dX5_readKind_7 rfl rfl ?_
          refine g_icmp_gtN (pc' := 11) (tgt := 30) C 5 5 rfl rfl (by omega) (by omega) dX5_readKind_8 (by decide) rfl (fun h => absurd h (by decide)) (fun _ => ?_)
          refine g_aload_n (pc' := 12) C dX5_readKind_11 1 rfl rfl rfl ?_
          refine g_iload_n (pc' := 13) C dX5_readKind_12 0 rfl rfl rfl ?_
          refine g_callS (pc' := 16) (st := [.ref (xa X 4)]) (ws2 := [oTap X (nI tl), oRdr X (nI rc) (nI (nxS f38 tl te)) (nI (nxE f38 tl te)) ft, kA X 38 60 f38]) C [.int 5] 1 rfl (c_X5_wordOfKind l X 5 (by decide)) [] [0, 1, 2] [0, 1, 2] gX5_readKind_X5_wordOfKind rfl ⟨rfl, rfl⟩ (by decide +kernel) ⟨by decide, by decide⟩ ⟨by decide, by decide⟩ rfl (wr := [oTap X (nI tl), oRdr X (nI rc) (nI (nxS f38 tl te)) (nI (nxE f38 tl te)) ft, kA X 38 60 f38]) rfl ⟨by decide, by decide, by decide, by decide⟩ rfl (Nat.le_of_ble_eq_true rfl) dX5_readKind_13 rfl rfl ?_
          refine g_callV (pc' := 19) (st := []) (ws2 := [oTap X (nI tl), oRdr X (nI rc) (nI (nxS f38 tl te)) (nI (nxE f38 tl te)) ft, kA X 38 60 f38]) C [.ref (xK X (5 - 1))] 1 rfl (c_X5_tokenIs l X tl rc (nxS f38 tl te) (nxE f38 tl te) ft f38 4 (by decide) (by first | assumption | omega) (by first | assumption | omega)) [0, 1, 2] [] [0, 1, 2] gX5_readKind_X5_tokenIs 1 rfl rfl rfl ⟨rfl, rfl⟩ (by decide +kernel) ⟨by decide, by decide⟩ ⟨by decide, by decide⟩ rfl (wr := []) rfl ⟨by decide, by decide, by decide, by decide⟩ rfl (Nat.le_of_ble_eq_true rfl) dX5_readKind_16 rfl rfl ?_
          by_cases b_16'''' : wmB f38 (nxS f38 tl te) (nxE f38 tl te) 4 = true
          · refine g_top (bz_t b_16'''') ?_
            refine g_if_eq (pc' := 22) (tgt := 24) C dX5_readKind_19 (by decide) rfl (fun h => absurd h (by decide)) (fun _ => ?_)
            refine g_iload_n (pc' := 23) C dX5_readKind_22 0 rfl rfl rfl ?_
            have kx : kdX f38 (nxS f38 tl te) (nxE f38 tl te) = 5 := by rw [kdX, if_neg b_16, if_neg b_16', if_neg b_16'', if_neg b_16''', if_pos b_16'''']
            exact g_iret C hr dX5_readKind_23 (by rw [kx]) (congrArg (fun zq_ : Int32 => ([oTap X (nI tl), oRdr X (nI rc) (nI (nxS f38 tl te)) (nI (nxE f38 tl te)) zq_, kA X 38 60 f38] : va_W)) (show (ft : Int32) = if kdX f38 (nxS f38 tl te) (nxE f38 tl te) = (-1) then nI (nxS f38 tl te) else ft from (by rw [kx, if_neg (by decide)])))
          · refine g_top (bz_f b_16'''') ?_
            refine g_if_eq (pc' := 22) (tgt := 24) C dX5_readKind_19 (by decide) rfl (fun _ => ?_) (fun h => absurd h (by decide))
            refine g_iinc (pc' := 27) (v := 6) (lv' := [(1, .int 6), (0, .ref (xa X 4))]) C dX5_readKind_24 0 rfl (by decide) (by decide) rfl rfl ?_
            refine g_goto (tgt := 6) C dX5_readKind_27 (by decide) ?_
            refine g_iload_n (pc' := 7) C dX5_readKind_6 0 rfl rfl rfl ?_
            refine g_iconst (pc' := 8) (v := 5) C dX5_readKind_7 rfl rfl ?_
            refine g_icmp_gtN (pc' := 11) (tgt := 30) C 6 5 rfl rfl (by omega) (by omega) dX5_readKind_8 (by decide) rfl (fun _ => ?_) (fun h => absurd h (by decide))
            refine g_aload_n (pc' := 31) C dX5_readKind_30 1 rfl rfl rfl ?_
            have kx : kdX f38 (nxS f38 tl te) (nxE f38 tl te) = (-1) := by rw [kdX, if_neg b_16, if_neg b_16', if_neg b_16'', if_neg b_16''', if_neg b_16'''']
            refine g_aload_n (pc' := 32) C dX5_readKind_31 1 rfl rfl rfl ?_
            refine g_get (pc' := 35) C hi_X5 1 5 rfl rfl (by decide) (List.mem_of_getElem? (i := 1) rfl) rfl dX5_readKind_32 rfl ?_
            refine g_put (pc' := 38) (ws2 := [oTap X (nI tl), oRdr X (nI rc) (nI (nxS f38 tl te)) (nI (nxE f38 tl te)) (nI (nxS f38 tl te)), kA X 38 60 f38]) C hi_X5 tyX5 tyX5_ok nmX5 1 7 rfl rfl (by decide) (Nat.le_of_ble_eq_true rfl) rfl rfl (List.mem_of_getElem? (i := 2) rfl) dX5_readKind_35 rfl rfl ?_
            refine g_iconst (pc' := 39) (v := (-1)) C dX5_readKind_38 rfl rfl ?_
            exact g_iret C hr dX5_readKind_39 (by rw [kx]) (congrArg (fun zq_ : Int32 => ([oTap X (nI tl), oRdr X (nI rc) (nI (nxS f38 tl te)) (nI (nxE f38 tl te)) zq_, kA X 38 60 f38] : va_W)) (show (nI (nxS f38 tl te) : Int32) = if kdX f38 (nxS f38 tl te) (nxE f38 tl te) = (-1) then nI (nxS f38 tl te) else ft from (by rw [kx, if_pos rfl])))

set_option maxHeartbeats 1000000 in
set_option maxRecDepth 20000 in
theorem c_X5_readNumber (l : Launch) (X : gX) (tl : Nat) (rc : Nat) (ts : Nat) (te : Nat) (ft : Int32) (f38 : Nat → Int32) (a : Int32) (b : Int32) (hte : te ≤ tl) (htl : tl ≤ 60) (hby : ∀ i, i < 60 → 0 ≤ f38 i ∧ f38 i ≤ 255) : KC l yX5_readNumber wsX5_readNumber ⟨2, 0, 0, 43⟩ [.ref (xa X 4), .int a, .int b] X [oTap X (nI tl), oRdr X (nI rc) (nI ts) (nI te) ft, kA X 38 60 f38] (some (.int (if inR (nmV f38 (nxS f38 tl te) (nxE f38 tl te)) a b then nmV f38 (nxS f38 tl te) (nxE f38 tl te) else (-1000000005)))) [oTap X (nI tl), oRdr X (nI rc) (nI (nxS f38 tl te)) (nI (nxE f38 tl te)) (if inR (nmV f38 (nxS f38 tl te) (nxE f38 tl te)) a b then ft else nI (nxS f38 tl te)), kA X 38 60 f38] := by
  have hi_X5 : ∀ w ∈ u_ws RX5 TX5 8, w ∈ wsX5_readNumber := fun w h => List.mem_cons_of_mem _ (List.mem_append_left _ (List.mem_append_right _ h))
  have hi_X7 : ∀ w ∈ u_ws RX7 TX7 2, w ∈ wsX5_readNumber := fun w h => List.mem_cons_of_mem _ (List.mem_append_right _ h)
  refine KC.of cX5_readNumber 4 (some .int) RX5 rfl (by decide) rfl (lv := [(0, .ref (xa X 4)), (1, .int a), (2, .int b)]) rfl (Nat.le_of_ble_eq_true rfl) ?_
  intro p e s m args below meth c A C hr
  have nb1 := nxE_b (t := f38) hte
  refine g_aload_n (pc' := 1) C dX5_readNumber_0 0 rfl rfl rfl ?_
  refine g_callV (pc' := 4) (st := []) (ws2 := [oTap X (nI tl), oRdr X (nI rc) (nI (nxS f38 tl te)) (nI (nxE f38 tl te)) ft, kA X 38 60 f38]) C [] 0 rfl (c_X5_nextToken l X tl rc ts te ft f38 (by first | assumption | omega) (by first | assumption | omega)) [0, 1, 2] [] [0, 1, 2] gX5_readNumber_X5_nextToken 1 rfl rfl rfl ⟨rfl, rfl⟩ (by decide +kernel) ⟨by decide, by decide⟩ ⟨by decide, by decide⟩ rfl (wr := []) rfl ⟨by decide, by decide, by decide, by decide⟩ rfl (Nat.le_of_ble_eq_true rfl) dX5_readNumber_1 rfl rfl ?_
  refine g_aload_n (pc' := 5) C dX5_readNumber_4 0 rfl rfl rfl ?_
  refine g_callV (pc' := 8) (st := []) (ws2 := [oTap X (nI tl), oRdr X (nI rc) (nI (nxS f38 tl te)) (nI (nxE f38 tl te)) ft, kA X 38 60 f38]) C [] 0 rfl (c_X5_tokenValue l X tl rc (nxS f38 tl te) (nxE f38 tl te) ft f38 (by first | assumption | omega) (by first | assumption | omega) (by first | assumption | omega)) [0, 1, 2] [] [0, 1, 2] gX5_readNumber_X5_tokenValue 1 rfl rfl rfl ⟨rfl, rfl⟩ (by decide +kernel) ⟨by decide, by decide⟩ ⟨by decide, by decide⟩ rfl (wr := []) rfl ⟨by decide, by decide, by decide, by decide⟩ rfl (Nat.le_of_ble_eq_true rfl) dX5_readNumber_5 rfl rfl ?_
  refine g_istore_n (pc' := 9) (lv' := [(3, .int (nmV f38 (nxS f38 tl te) (nxE f38 tl te))), (0, .ref (xa X 4)), (1, .int a), (2, .int b)]) C dX5_readNumber_8 rfl (by decide) rfl rfl ?_
  refine g_iload_n (pc' := 10) C dX5_readNumber_9 0 rfl rfl rfl ?_
  refine g_iload_n (pc' := 11) C dX5_readNumber_10 2 rfl rfl rfl ?_
  refine g_icmp_lt (pc' := 14) (tgt := 19) C dX5_readNumber_11 (by decide) rfl (fun c_11 => ?_) (fun c_11 => ?_)
  · refine g_aload_n (pc' := 20) C dX5_readNumber_19 1 rfl rfl rfl ?_
    have nr : ¬ inR (nmV f38 (nxS f38 tl te) (nxE f38 tl te)) a b := fun z => absurd z.1 (Int32.not_le.mpr c_11)
    refine g_aload_n (pc' := 21) C dX5_readNumber_20 1 rfl rfl rfl ?_
    refine g_get (pc' := 24) C hi_X5 1 5 rfl rfl (by decide) (List.mem_of_getElem? (i := 1) rfl) rfl dX5_readNumber_21 rfl ?_
    refine g_put (pc' := 27) (ws2 := [oTap X (nI tl), oRdr X (nI rc) (nI (nxS f38 tl te)) (nI (nxE f38 tl te)) (nI (nxS f38 tl te)), kA X 38 60 f38]) C hi_X5 tyX5 tyX5_ok nmX5 1 7 rfl rfl (by decide) (Nat.le_of_ble_eq_true rfl) rfl rfl (List.mem_of_getElem? (i := 2) rfl) dX5_readNumber_24 rfl rfl ?_
    refine g_ldc (pc' := 29) (v := (-1000000005)) C (List.mem_of_getElem? (i := 3) rfl) dX5_readNumber_27 rfl ?_
    exact g_iret C hr dX5_readNumber_29 (by rw [if_neg nr]) (congrArg (fun zq_ : Int32 => ([oTap X (nI tl), oRdr X (nI rc) (nI (nxS f38 tl te)) (nI (nxE f38 tl te)) zq_, kA X 38 60 f38] : va_W)) (show (nI (nxS f38 tl te) : Int32) = if inR (nmV f38 (nxS f38 tl te) (nxE f38 tl te)) a b then ft else nI (nxS f38 tl te) from (by rw [if_neg nr])))
  · refine g_iload_n (pc' := 15) C dX5_readNumber_14 0 rfl rfl rfl ?_
    refine g_iload_n (pc' := 16) C dX5_readNumber_15 3 rfl rfl rfl ?_
    refine g_icmp_le (pc' := 19) (tgt := 30) C dX5_readNumber_16 (by decide) rfl (fun c_16 => ?_) (fun c_16 => ?_)
    · refine g_iload_n (pc' := 31) C dX5_readNumber_30 0 rfl rfl rfl ?_
      have nr : inR (nmV f38 (nxS f38 tl te) (nxE f38 tl te)) a b := ⟨Int32.not_lt.mp c_11, c_16⟩
      exact g_iret C hr dX5_readNumber_31 (by rw [if_pos nr]) (congrArg (fun zq_ : Int32 => ([oTap X (nI tl), oRdr X (nI rc) (nI (nxS f38 tl te)) (nI (nxE f38 tl te)) zq_, kA X 38 60 f38] : va_W)) (show (ft : Int32) = if inR (nmV f38 (nxS f38 tl te) (nxE f38 tl te)) a b then ft else nI (nxS f38 tl te) from (by rw [if_pos nr])))
    · refine g_aload_n (pc' := 20) C dX5_readNumber_19 1 rfl rfl rfl ?_
      have nr : ¬ inR (nmV f38 (nxS f38 tl te) (nxE f38 tl te)) a b := fun z => c_16 z.2
      refine g_aload_n (pc' := 21) C dX5_readNumber_20 1 rfl rfl rfl ?_
      refine g_get (pc' := 24) C hi_X5 1 5 rfl rfl (by decide) (List.mem_of_getElem? (i := 1) rfl) rfl dX5_readNumber_21 rfl ?_
      refine g_put (pc' := 27) (ws2 := [oTap X (nI tl), oRdr X (nI rc) (nI (nxS f38 tl te)) (nI (nxE f38 tl te)) (nI (nxS f38 tl te)), kA X 38 60 f38]) C hi_X5 tyX5 tyX5_ok nmX5 1 7 rfl rfl (by decide) (Nat.le_of_ble_eq_true rfl) rfl rfl (List.mem_of_getElem? (i := 2) rfl) dX5_readNumber_24 rfl rfl ?_
      refine g_ldc (pc' := 29) (v := (-1000000005)) C (List.mem_of_getElem? (i := 3) rfl) dX5_readNumber_27 rfl ?_
      exact g_iret C hr dX5_readNumber_29 (by rw [if_neg nr]) (congrArg (fun zq_ : Int32 => ([oTap X (nI tl), oRdr X (nI rc) (nI (nxS f38 tl te)) (nI (nxE f38 tl te)) zq_, kA X 38 60 f38] : va_W)) (show (nI (nxS f38 tl te) : Int32) = if inR (nmV f38 (nxS f38 tl te) (nxE f38 tl te)) a b then ft else nI (nxS f38 tl te) from (by rw [if_neg nr])))

set_option maxHeartbeats 1000000 in
set_option maxRecDepth 20000 in
theorem c_X5_readOtherHouse (l : Launch) (X : gX) (tl : Nat) (rc : Nat) (ts : Nat) (te : Nat) (ft : Int32) (f38 : Nat → Int32) (h : Int32) (hte : te ≤ tl) (htl : tl ≤ 60) (hby : ∀ i, i < 60 → 0 ≤ f38 i ∧ f38 i ≤ 255) (hh : ¬ (-1000000005) = h) : KC l yX5_readOtherHouse wsX5_readOtherHouse ⟨3, 0, 0, 66⟩ [.ref (xa X 4), .int h] X [oTap X (nI tl), oRdr X (nI rc) (nI ts) (nI te) ft, kA X 38 60 f38] (some (.int (if inR (nmV f38 (nxS f38 tl te) (nxE f38 tl te)) 0 9 then nmV f38 (nxS f38 tl te) (nxE f38 tl te) else (-1000000005)))) [oTap X (nI tl), oRdr X (nI rc) (nI (nxS f38 tl te)) (nI (nxE f38 tl te)) (if inR (nmV f38 (nxS f38 tl te) (nxE f38 tl te)) 0 9 ∧ ¬ nmV f38 (nxS f38 tl te) (nxE f38 tl te) = h then ft else nI (nxS f38 tl te)), kA X 38 60 f38] := by
  have hi_X5 : ∀ w ∈ u_ws RX5 TX5 8, w ∈ wsX5_readOtherHouse := fun w h => List.mem_cons_of_mem _ (List.mem_append_left _ (List.mem_append_right _ h))
  have hi_X7 : ∀ w ∈ u_ws RX7 TX7 2, w ∈ wsX5_readOtherHouse := fun w h => List.mem_cons_of_mem _ (List.mem_append_right _ h)
  refine KC.of cX5_readOtherHouse 3 (some .int) RX5 rfl (by decide) rfl (lv := [(0, .ref (xa X 4)), (1, .int h)]) rfl (Nat.le_of_ble_eq_true rfl) ?_
  intro p e s m args below meth c A C hr
  refine g_aload_n (pc' := 1) C dX5_readOtherHouse_0 0 rfl rfl rfl ?_
  refine g_iconst (pc' := 2) (v := 0) C dX5_readOtherHouse_1 rfl rfl ?_
  refine g_bipush (pc' := 4) (v := 9) C dX5_readOtherHouse_2 (by decide) rfl ?_
  refine g_callV (pc' := 7) (st := []) (ws2 := [oTap X (nI tl), oRdr X (nI rc) (nI (nxS f38 tl te)) (nI (nxE f38 tl te)) (if inR (nmV f38 (nxS f38 tl te) (nxE f38 tl te)) 0 9 then ft else nI (nxS f38 tl te)), kA X 38 60 f38]) C [.int 0, .int 9] 2 rfl (c_X5_readNumber l X tl rc ts te ft f38 0 9 (by first | assumption | omega) (by first | assumption | omega) (by first | assumption | omega)) [0, 1, 2] [] [0, 1, 2] gX5_readOtherHouse_X5_readNumber 1 rfl rfl rfl ⟨rfl, rfl⟩ (by decide +kernel) ⟨by decide, by decide⟩ ⟨by decide, by decide⟩ rfl (wr := []) rfl ⟨by decide, by decide, by decide, by decide⟩ rfl (Nat.le_of_ble_eq_true rfl) dX5_readOtherHouse_4 rfl rfl ?_
  refine g_istore_n (pc' := 8) (lv' := [(2, .int (if inR (nmV f38 (nxS f38 tl te) (nxE f38 tl te)) 0 9 then nmV f38 (nxS f38 tl te) (nxE f38 tl te) else (-1000000005))), (0, .ref (xa X 4)), (1, .int h)]) C dX5_readOtherHouse_7 rfl (by decide) rfl rfl ?_
  refine g_iload_n (pc' := 9) C dX5_readOtherHouse_8 0 rfl rfl rfl ?_
  refine g_iload_n (pc' := 10) C dX5_readOtherHouse_9 2 rfl rfl rfl ?_
  refine g_icmp_ne (pc' := 13) (tgt := 21) C dX5_readOtherHouse_10 (by decide) rfl (fun c_10 => ?_) (fun c_10 => ?_)
  · refine g_iload_n (pc' := 22) C dX5_readOtherHouse_21 0 rfl rfl rfl ?_
    exact g_iret C hr dX5_readOtherHouse_22 rfl (congrArg (fun zq_ : Int32 => ([oTap X (nI tl), oRdr X (nI rc) (nI (nxS f38 tl te)) (nI (nxE f38 tl te)) zq_, kA X 38 60 f38] : va_W)) (show (if inR (nmV f38 (nxS f38 tl te) (nxE f38 tl te)) 0 9 then ft else nI (nxS f38 tl te) : Int32) = if inR (nmV f38 (nxS f38 tl te) (nxE f38 tl te)) 0 9 ∧ ¬ nmV f38 (nxS f38 tl te) (nxE f38 tl te) = h then ft else nI (nxS f38 tl te) from (oh_ne c_10)))
  · refine g_aload_n (pc' := 14) C dX5_readOtherHouse_13 1 rfl rfl rfl ?_
    refine g_aload_n (pc' := 15) C dX5_readOtherHouse_14 1 rfl rfl rfl ?_
    refine g_get (pc' := 18) C hi_X5 1 5 rfl rfl (by decide) (List.mem_of_getElem? (i := 1) rfl) rfl dX5_readOtherHouse_15 rfl ?_
    refine g_put (pc' := 21) (ws2 := [oTap X (nI tl), oRdr X (nI rc) (nI (nxS f38 tl te)) (nI (nxE f38 tl te)) (nI (nxS f38 tl te)), kA X 38 60 f38]) C hi_X5 tyX5 tyX5_ok nmX5 1 7 rfl rfl (by decide) (Nat.le_of_ble_eq_true rfl) rfl rfl (List.mem_of_getElem? (i := 2) rfl) dX5_readOtherHouse_18 rfl rfl ?_
    skip
    refine g_iload_n (pc' := 22) C dX5_readOtherHouse_21 0 rfl rfl rfl ?_
    exact g_iret C hr dX5_readOtherHouse_22 rfl (congrArg (fun zq_ : Int32 => ([oTap X (nI tl), oRdr X (nI rc) (nI (nxS f38 tl te)) (nI (nxE f38 tl te)) zq_, kA X 38 60 f38] : va_W)) (show (nI (nxS f38 tl te) : Int32) = if inR (nmV f38 (nxS f38 tl te) (nxE f38 tl te)) 0 9 ∧ ¬ nmV f38 (nxS f38 tl te) (nxE f38 tl te) = h then ft else nI (nxS f38 tl te) from (oh_eq c_10 hh)))

set_option maxHeartbeats 1000000 in
set_option maxRecDepth 20000 in
theorem c_X5_mostOfKind (l : Launch) (X : gX) (x : Int32) : KC l yX5_mostOfKind wsX5_mostOfKind ⟨0, 0, 0, 0⟩ [.int x] X [] (some (.int (mok x))) [] := by
  refine KC.of cX5_mostOfKind 1 (some .int) RX5 rfl (by decide) rfl (lv := [(0, .int x)]) rfl (Nat.le_of_ble_eq_true rfl) ?_
  intro p e s m args below meth c A C hr
  refine g_iload_n (pc' := 1) C dX5_mostOfKind_0 0 rfl rfl rfl ?_
  by_cases s_1_1 : x = 1
  · refine g_top s_1_1 ?_
    refine g_lookup (off := 27) (tgt := 28) C dX5_mostOfKind_1 (by decide) (by decide) (by decide) ?_
    refine g_sipush (pc' := 31) (v := 500) C dX5_mostOfKind_28 (by decide) rfl ?_
    exact g_iret C hr dX5_mostOfKind_31 (by first | rfl | omega | (simp [mok, s_1_1]; done) | (simp [mok, s_1_1]; omega) | (simp [mok, s_1_1]; intros; exfalso; omega) | grind [mok]) rfl
  · skip
    by_cases s_1_3 : x = 3
    · refine g_top s_1_3 ?_
      refine g_lookup (off := 31) (tgt := 32) C dX5_mostOfKind_1 (by decide) (by decide) (by decide) ?_
      refine g_bipush (pc' := 34) (v := 50) C dX5_mostOfKind_32 (by decide) rfl ?_
      exact g_iret C hr dX5_mostOfKind_34 (by first | rfl | omega | (simp [mok, s_1_1, s_1_3]; done) | (simp [mok, s_1_1, s_1_3]; omega) | (simp [mok, s_1_1, s_1_3]; intros; exfalso; omega) | grind [mok]) rfl
    · skip
      refine g_lookup (off := 34) (tgt := 35) C dX5_mostOfKind_1 (by decide) (by have q0 : ¬ (1 : Int) = x.toInt := fun z => s_1_1 (Int32.toInt_inj.mp z.symm); have q1 : ¬ (3 : Int) = x.toInt := fun z => s_1_3 (Int32.toInt_inj.mp z.symm); simp [Op.lookupswitch.offset_cons, Op.lookupswitch.offset, *]) (by decide) ?_
      refine g_sipush (pc' := 38) (v := 9999) C dX5_mostOfKind_35 (by decide) rfl ?_
      exact g_iret C hr dX5_mostOfKind_38 (by first | rfl | omega | (simp [mok, s_1_1, s_1_3]; done) | (simp [mok, s_1_1, s_1_3]; omega) | (simp [mok, s_1_1, s_1_3]; intros; exfalso; omega) | grind [mok]) rfl

set_option maxHeartbeats 1000000 in
set_option maxRecDepth 20000 in
theorem c_X5_isAnotherAhead (l : Launch) (X : gX) (tl : Nat) (rc : Nat) (ts : Nat) (te : Nat) (ft : Int32) (f38 : Nat → Int32) (hte : te ≤ tl) (htl : tl ≤ 60) : KC l yX5_isAnotherAhead wsX5_isAnotherAhead ⟨2, 0, 0, 43⟩ [.ref (xa X 4)] X [oTap X (nI tl), oRdr X (nI rc) (nI ts) (nI te) ft, kA X 38 60 f38] (some (.int (bz (nxS f38 tl te < tl ∧ f38 (nxS f38 tl te) = 44)))) [oTap X (nI tl), oRdr X (nI rc) (nI (nxS f38 tl te)) (nI (nxE f38 tl te)) (if nxS f38 tl te < tl ∧ ¬ f38 (nxS f38 tl te) = 44 then nI (nxS f38 tl te) else ft), kA X 38 60 f38] := by
  have hi_X5 : ∀ w ∈ u_ws RX5 TX5 8, w ∈ wsX5_isAnotherAhead := fun w h => List.mem_cons_of_mem _ (List.mem_append_left _ (List.mem_append_right _ h))
  have hi_X7 : ∀ w ∈ u_ws RX7 TX7 2, w ∈ wsX5_isAnotherAhead := fun w h => List.mem_cons_of_mem _ (List.mem_append_right _ h)
  refine KC.of cX5_isAnotherAhead 1 (some .boolean) RX5 rfl (by decide) rfl (lv := [(0, .ref (xa X 4))]) rfl (Nat.le_of_ble_eq_true rfl) ?_
  intro p e s m args below meth c A C hr
  have nb1 := nxS_b (t := f38) hte
  refine g_aload_n (pc' := 1) C dX5_isAnotherAhead_0 0 rfl rfl rfl ?_
  refine g_callV (pc' := 4) (st := []) (ws2 := [oTap X (nI tl), oRdr X (nI rc) (nI (nxS f38 tl te)) (nI (nxE f38 tl te)) ft, kA X 38 60 f38]) C [] 0 rfl (c_X5_nextToken l X tl rc ts te ft f38 (by first | assumption | omega) (by first | assumption | omega)) [0, 1, 2] [] [0, 1, 2] gX5_isAnotherAhead_X5_nextToken 1 rfl rfl rfl ⟨rfl, rfl⟩ (by decide +kernel) ⟨by decide, by decide⟩ ⟨by decide, by decide⟩ rfl (wr := []) rfl ⟨by decide, by decide, by decide, by decide⟩ rfl (Nat.le_of_ble_eq_true rfl) dX5_isAnotherAhead_1 rfl rfl ?_
  refine g_aload_n (pc' := 5) C dX5_isAnotherAhead_4 0 rfl rfl rfl ?_
  refine g_get (pc' := 8) C hi_X5 1 5 rfl rfl (by decide) (List.mem_of_getElem? (i := 1) rfl) rfl dX5_isAnotherAhead_5 rfl ?_
  refine g_aload_n (pc' := 9) C dX5_isAnotherAhead_8 0 rfl rfl rfl ?_
  refine g_get (pc' := 12) C hi_X5 1 0 rfl rfl (by decide) (List.mem_of_getElem? (i := 2) rfl) rfl dX5_isAnotherAhead_9 rfl ?_
  refine g_getN (pc' := 15) C hi_X7 0 1 rfl rfl (by decide) (List.mem_of_getElem? (i := 9) rfl) rfl dX5_isAnotherAhead_12 rfl ?_
  refine g_icmp_ltN (pc' := 18) (tgt := 20) C (nxS f38 tl te) tl rfl rfl (by omega) (by omega) dX5_isAnotherAhead_15 (by decide) rfl (fun c_15 => ?_) (fun c_15 => ?_)
  · refine g_aload_n (pc' := 21) C dX5_isAnotherAhead_20 0 rfl rfl rfl ?_
    have st1 := nxS_stop (t := f38) (n := tl) (p := te) c_15
    refine g_get (pc' := 24) C hi_X5 1 0 rfl rfl (by decide) (List.mem_of_getElem? (i := 2) rfl) rfl dX5_isAnotherAhead_21 rfl ?_
    refine g_aload_n (pc' := 25) C dX5_isAnotherAhead_24 0 rfl rfl rfl ?_
    refine g_get (pc' := 28) C hi_X5 1 5 rfl rfl (by decide) (List.mem_of_getElem? (i := 1) rfl) rfl dX5_isAnotherAhead_25 rfl ?_
    refine g_callV (pc' := 31) (st := []) (ws2 := [oTap X (nI tl), oRdr X (nI rc) (nI (nxS f38 tl te)) (nI (nxE f38 tl te)) ft, kA X 38 60 f38]) C [.int (nI (nxS f38 tl te))] 1 rfl (c_X7_isPartOfWord l X tl f38 (nxS f38 tl te) (by first | assumption | omega)) [0, 2] [1] [1, 0, 2] gX5_isAnotherAhead_X7_isPartOfWord 0 rfl rfl rfl ⟨rfl, rfl⟩ (by decide +kernel) ⟨by decide, by decide⟩ ⟨by decide, by decide⟩ rfl (wr := [oRdr X (nI rc) (nI (nxS f38 tl te)) (nI (nxE f38 tl te)) ft]) rfl ⟨by decide, by decide, by decide, by decide⟩ rfl (Nat.le_of_ble_eq_true rfl) dX5_isAnotherAhead_28 rfl rfl ?_
    by_cases b_28 : ¬ f38 (nxS f38 tl te) = 32 ∧ ¬ f38 (nxS f38 tl te) = 44
    · refine g_top (bz_t b_28) ?_
      refine g_if_eq (pc' := 34) (tgt := 44) C dX5_isAnotherAhead_31 (by decide) rfl (fun h => absurd h (by decide)) (fun _ => ?_)
      refine g_aload_n (pc' := 35) C dX5_isAnotherAhead_34 0 rfl rfl rfl ?_
      refine g_aload_n (pc' := 36) C dX5_isAnotherAhead_35 0 rfl rfl rfl ?_
      refine g_get (pc' := 39) C hi_X5 1 5 rfl rfl (by decide) (List.mem_of_getElem? (i := 1) rfl) rfl dX5_isAnotherAhead_36 rfl ?_
      refine g_put (pc' := 42) (ws2 := [oTap X (nI tl), oRdr X (nI rc) (nI (nxS f38 tl te)) (nI (nxE f38 tl te)) (nI (nxS f38 tl te)), kA X 38 60 f38]) C hi_X5 tyX5 tyX5_ok nmX5 1 7 rfl rfl (by decide) (Nat.le_of_ble_eq_true rfl) rfl rfl (List.mem_of_getElem? (i := 3) rfl) dX5_isAnotherAhead_39 rfl rfl ?_
      refine g_iconst (pc' := 43) (v := 0) C dX5_isAnotherAhead_42 rfl rfl ?_
      exact g_zret C hr rfl dX5_isAnotherAhead_43 (bz_f (fun z => b_28.2 z.2)).symm (congrArg (fun zq_ : Int32 => ([oTap X (nI tl), oRdr X (nI rc) (nI (nxS f38 tl te)) (nI (nxE f38 tl te)) zq_, kA X 38 60 f38] : va_W)) (show (nI (nxS f38 tl te) : Int32) = if nxS f38 tl te < tl ∧ ¬ f38 (nxS f38 tl te) = 44 then nI (nxS f38 tl te) else ft from (by rw [if_pos ⟨c_15, b_28.2⟩])))
    · refine g_top (bz_f b_28) ?_
      refine g_if_eq (pc' := 34) (tgt := 44) C dX5_isAnotherAhead_31 (by decide) rfl (fun _ => ?_) (fun h => absurd h (by decide))
      refine g_iconst (pc' := 45) (v := 1) C dX5_isAnotherAhead_44 rfl rfl ?_
      exact g_zret C hr rfl dX5_isAnotherAhead_45 (bz_t ⟨c_15, Decidable.byContradiction (fun z => b_28 ⟨st1, z⟩)⟩).symm (congrArg (fun zq_ : Int32 => ([oTap X (nI tl), oRdr X (nI rc) (nI (nxS f38 tl te)) (nI (nxE f38 tl te)) zq_, kA X 38 60 f38] : va_W)) (show (ft : Int32) = if nxS f38 tl te < tl ∧ ¬ f38 (nxS f38 tl te) = 44 then nI (nxS f38 tl te) else ft from (by rw [if_neg (fun z => b_28 ⟨st1, z.2⟩)])))
  · refine g_iconst (pc' := 19) (v := 0) C dX5_isAnotherAhead_18 rfl rfl ?_
    exact g_zret C hr rfl dX5_isAnotherAhead_19 (bz_f (fun z => by omega)).symm (congrArg (fun zq_ : Int32 => ([oTap X (nI tl), oRdr X (nI rc) (nI (nxS f38 tl te)) (nI (nxE f38 tl te)) zq_, kA X 38 60 f38] : va_W)) (show (ft : Int32) = if nxS f38 tl te < tl ∧ ¬ f38 (nxS f38 tl te) = 44 then nI (nxS f38 tl te) else ft from (by rw [if_neg (fun z => by omega)])))

