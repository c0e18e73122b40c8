theorem max_put {g w a : Nat → Int32} {j : Nat} (hg : ∀ h, h < 10 → g h = if h < j then w h else a h) (hj : j < 10) (e : w j = if a j < 0 then 0 else a j) : ∀ h, h < 10 → upd g j (if g j < 0 then 0 else g j) h = if h < j + 1 then w h else a h := by
  intro h hh
  have ej : g j = a j := by rw [hg j hj, if_neg (Nat.lt_irrefl j)]
  by_cases c : h = j
  · subst c; rw [pk_us, ej, ← e, if_pos (Nat.lt_succ_self h)]
  · rw [pk_un c, hg h hh]
    by_cases q : h < j
    · rw [if_pos q, if_pos (by omega)]
    · rw [if_neg q, if_neg (by omega)]

set_option maxHeartbeats 1000000 in
set_option maxRecDepth 20000 in
theorem c_X6_takeLines (l : Launch) (X : gX) (ln : Nat) (f17 : Nat → Int32) (f18 : Nat → Int32) (f21 : Nat → Int32) (f22 : Nat → Int32) (f32 : Nat → Int32) (f33 : Nat → Int32) (yr : Int32) (d : Int32) (hn : ln ≤ 100) (hap : ∀ i, i < ln → okN (f21 i) 9) (hz32 : ∀ j, ln ≤ j → f32 j = 0) (hz33 : ∀ j, ln ≤ j → f33 j = 0) : KC l yX6_takeLines wsX6_takeLines ⟨1, 0, 0, 24⟩ [.ref (xa X 8), .int yr, .int d] X [oLns X (nI ln), oRck X, kA X 17 100 f17, kA X 18 100 f18, kA X 21 100 f21, kA X 22 800 f22, kA X 32 100 f32, kA X 33 100 f33] none [oLns X (nI ln), oRck X, kA X 17 100 f17, kA X 18 100 f18, kA X 21 100 f21, kA X 22 800 f22, kA X 32 100 (cut ln Nf Zf), kA X 33 100 (cut ln (tkF f17 f18 f21 f22 yr d) Zf)] := by
  have hi_X6 : ∀ w ∈ u_ws RX6 TX6 10, w ∈ wsX6_takeLines := fun w h => List.mem_cons_of_mem _ (List.mem_append_left _ (List.mem_append_right _ h))
  have hi_X2 : ∀ w ∈ u_ws RX2 TX2 9, w ∈ wsX6_takeLines := fun w h => List.mem_cons_of_mem _ (List.mem_append_right _ h)
  refine KC.of cX6_takeLines 5 none RX6 rfl (by decide) rfl (lv := [(0, .ref (xa X 8)), (1, .int yr), (2, .int d)]) rfl (Nat.le_of_ble_eq_true rfl) ?_
  intro p e s m args below meth c A C hr
  refine g_iconst (pc' := 1) (v := 0) C dX6_takeLines_0 rfl rfl ?_
  refine g_istore_n (pc' := 2) (lv' := [(3, .int 0), (0, .ref (xa X 8)), (1, .int yr), (2, .int d)]) C dX6_takeLines_1 rfl (by decide) rfl rfl ?_
  have lp_2 : ∀ (n_2 : Nat) (k : Nat) (hk : k ≤ ln) (hm_2 : ln - k < n_2), gG p l e ⟨1, 0, 0, 24⟩ s m args below meth c X A 5 0 0 (MQ below (QA X A none [oLns X (nI ln), oRck X, kA X 17 100 f17, kA X 18 100 f18, kA X 21 100 f21, kA X 22 800 f22, kA X 32 100 (cut ln Nf Zf), kA X 33 100 (cut ln (tkF f17 f18 f21 f22 yr d) Zf)]) args s 0 0 A) [(0, .ref (xa X 8)), (1, .int yr), (2, .int d), (3, .int (nI k))] [oLns X (nI ln), oRck X, kA X 17 100 f17, kA X 18 100 f18, kA X 21 100 f21, kA X 22 800 f22, kA X 32 100 (cut k Nf f32), kA X 33 100 (cut k (tkF f17 f18 f21 f22 yr d) f33)] 2 [] := by
    intro n_2
    induction n_2 with
    | zero => intro k hk hm_2; exact absurd hm_2 (Nat.not_lt_zero _)
    | succ n_2 ih_2 =>
      intro k hk hm_2
      refine g_iload_n (pc' := 3) C dX6_takeLines_2 3 rfl rfl rfl ?_
      refine g_aload_n (pc' := 4) C dX6_takeLines_3 0 rfl rfl rfl ?_
      refine g_get (pc' := 7) C hi_X6 1 1 rfl rfl (by decide) (List.mem_of_getElem? (i := 1) rfl) rfl dX6_takeLines_4 rfl ?_
      refine g_getN (pc' := 10) C hi_X2 0 8 rfl rfl (by decide) (List.mem_of_getElem? (i := 26) rfl) rfl dX6_takeLines_7 rfl ?_
      refine g_icmp_geN (pc' := 13) (tgt := 76) C k ln rfl rfl (by omega) (by omega) dX6_takeLines_10 (by decide) rfl (fun c_10 => ?_) (fun c_10 => ?_)
      · exact g_vret C hr dX6_takeLines_76 ((congrArg (fun zq_ : Nat → Int32 => ([oLns X (nI ln), oRck X, kA X 17 100 f17, kA X 18 100 f18, kA X 21 100 f21, kA X 22 800 f22, kA X 32 100 zq_, kA X 33 100 (cut k (tkF f17 f18 f21 f22 yr d) f33)] : va_W)) (show (cut k Nf f32 : Nat → Int32) = cut ln Nf Zf from (by rw [show k = ln by omega]; exact cut_z hz32))).trans (congrArg (fun zq_ : Nat → Int32 => ([oLns X (nI ln), oRck X, kA X 17 100 f17, kA X 18 100 f18, kA X 21 100 f21, kA X 22 800 f22, kA X 32 100 (cut ln Nf Zf), kA X 33 100 zq_] : va_W)) (show (cut k (tkF f17 f18 f21 f22 yr d) f33 : Nat → Int32) = cut ln (tkF f17 f18 f21 f22 yr d) Zf from (by rw [show k = ln by omega]; exact cut_z hz33))))
      · refine g_aload_n (pc' := 14) C dX6_takeLines_13 0 rfl rfl rfl ?_
        refine g_get (pc' := 17) C hi_X6 1 1 rfl rfl (by decide) (List.mem_of_getElem? (i := 1) rfl) rfl dX6_takeLines_14 rfl ?_
        refine g_getN (pc' := 20) C hi_X2 0 2 rfl rfl (by decide) (List.mem_of_getElem? (i := 18) rfl) rfl dX6_takeLines_17 rfl ?_
        refine g_iload_n (pc' := 21) C dX6_takeLines_20 3 rfl rfl rfl ?_
        refine g_iald (pc' := 22) C 2 k rfl rfl (by omega) (by decide) dX6_takeLines_21 rfl ?_
        refine g_iload_n (pc' := 23) C dX6_takeLines_22 1 rfl rfl rfl ?_
        refine g_icmp_ne (pc' := 26) (tgt := 42) C dX6_takeLines_23 (by decide) rfl (fun c_23 => ?_) (fun c_23 => ?_)
        · refine g_iconst (pc' := 43) (v := 0) C dX6_takeLines_42 rfl rfl ?_
          refine g_istore (pc' := 45) (lv' := [(4, .int 0), (0, .ref (xa X 8)), (1, .int yr), (2, .int d), (3, .int (nI k))]) C dX6_takeLines_43 (by decide) rfl rfl ?_
          refine g_aload_n (pc' := 46) C dX6_takeLines_45 1 rfl rfl rfl ?_
          refine g_get (pc' := 49) C hi_X6 1 5 rfl rfl (by decide) (List.mem_of_getElem? (i := 2) rfl) rfl dX6_takeLines_46 rfl ?_
          refine g_iload_n (pc' := 50) C dX6_takeLines_49 4 rfl rfl rfl ?_
          refine g_iload (pc' := 52) C dX6_takeLines_50 0 rfl rfl ?_
          refine g_if_eq (pc' := 55) (tgt := 59) C dX6_takeLines_52 (by decide) rfl (fun _ => ?_) (fun h => absurd h (by decide))
          refine g_ldc (pc' := 61) (v := (-1000000005)) C (List.mem_of_getElem? (i := 3) rfl) dX6_takeLines_59 rfl ?_
          refine g_iast (pc' := 62) (ws2 := [oLns X (nI ln), oRck X, kA X 17 100 f17, kA X 18 100 f18, kA X 21 100 f21, kA X 22 800 f22, kA X 32 100 (cut k Nf f32), kA X 33 100 (upd (cut k (tkF f17 f18 f21 f22 yr d) f33) k (-1000000005))]) C 7 k rfl rfl (by omega) (by decide) dX6_takeLines_61 rfl rfl ?_
          refine g_aload_n (pc' := 63) C dX6_takeLines_62 1 rfl rfl rfl ?_
          refine g_get (pc' := 66) C hi_X6 1 4 rfl rfl (by decide) (List.mem_of_getElem? (i := 4) rfl) rfl dX6_takeLines_63 rfl ?_
          refine g_iload_n (pc' := 67) C dX6_takeLines_66 4 rfl rfl rfl ?_
          refine g_ldc (pc' := 69) (v := (-1000000005)) C (List.mem_of_getElem? (i := 3) rfl) dX6_takeLines_67 rfl ?_
          refine g_iast (pc' := 70) (ws2 := [oLns X (nI ln), oRck X, kA X 17 100 f17, kA X 18 100 f18, kA X 21 100 f21, kA X 22 800 f22, kA X 32 100 (upd (cut k Nf f32) k (-1000000005)), kA X 33 100 (upd (cut k (tkF f17 f18 f21 f22 yr d) f33) k (-1000000005))]) C 6 k rfl rfl (by omega) (by decide) dX6_takeLines_69 rfl rfl ?_
          refine g_iinc (pc' := 73) (v := nI (k + 1)) (lv' := [(3, .int (nI (k + 1))), (4, .int 0), (0, .ref (xa X 8)), (1, .int yr), (2, .int d)]) C dX6_takeLines_70 4 rfl (nI_1 _) (by decide) rfl rfl ?_
          refine g_goto (tgt := 2) C dX6_takeLines_73 (by decide) ?_
          refine g_lv (lv2 := [(0, .ref (xa X 8)), (1, .int yr), (2, .int d), (3, .int (nI (k + 1)))]) [2, 3, 4, 0] rfl ?_
          refine g_eq (lv2 := [(0, .ref (xa X 8)), (1, .int yr), (2, .int d), (3, .int (nI (k + 1)))]) (ws2 := [oLns X (nI ln), oRck X, kA X 17 100 f17, kA X 18 100 f18, kA X 21 100 f21, kA X 22 800 f22, kA X 32 100 (cut (k + 1) Nf f32), kA X 33 100 (cut (k + 1) (tkF f17 f18 f21 f22 yr d) f33)]) (st2 := []) rfl ((congrArg (fun zq_ : Nat → Int32 => ([oLns X (nI ln), oRck X, kA X 17 100 f17, kA X 18 100 f18, kA X 21 100 f21, kA X 22 800 f22, kA X 32 100 zq_, kA X 33 100 (upd (cut k (tkF f17 f18 f21 f22 yr d) f33) k (-1000000005))] : va_W)) (show (upd (cut k Nf f32) k (-1000000005) : Nat → Int32) = cut (k + 1) Nf f32 from (cut_put rfl))).trans (congrArg (fun zq_ : Nat → Int32 => ([oLns X (nI ln), oRck X, kA X 17 100 f17, kA X 18 100 f18, kA X 21 100 f21, kA X 22 800 f22, kA X 32 100 (cut (k + 1) Nf f32), kA X 33 100 zq_] : va_W)) (show (upd (cut k (tkF f17 f18 f21 f22 yr d) f33) k (-1000000005) : Nat → Int32) = cut (k + 1) (tkF f17 f18 f21 f22 yr d) f33 from (cut_put (by simp [tkF, c_10, c_23]))))) rfl ?_
          exact ih_2 (k + 1) (by omega) (by omega)
        · refine g_aload_n (pc' := 27) C dX6_takeLines_26 0 rfl rfl rfl ?_
          refine g_get (pc' := 30) C hi_X6 1 1 rfl rfl (by decide) (List.mem_of_getElem? (i := 1) rfl) rfl dX6_takeLines_27 rfl ?_
          refine g_iload_n (pc' := 31) C dX6_takeLines_30 3 rfl rfl rfl ?_
          refine g_iload_n (pc' := 32) C dX6_takeLines_31 2 rfl rfl rfl ?_
          refine g_callV (pc' := 35) (st := []) (ws2 := [oLns X (nI ln), oRck X, kA X 17 100 f17, kA X 18 100 f18, kA X 21 100 f21, kA X 22 800 f22, kA X 32 100 (cut k Nf f32), kA X 33 100 (cut k (tkF f17 f18 f21 f22 yr d) f33)]) C [.int (nI k), .int d] 2 rfl (c_X2_standsOn l X ln f18 f21 f22 k d (by first | assumption | omega) (hap k (by omega))) [0, 3, 4, 5] [1, 2, 6, 7] [4, 0, 1, 5, 6, 7, 2, 3] gX6_takeLines_X2_standsOn 0 rfl rfl rfl ⟨rfl, rfl⟩ (by decide +kernel) ⟨by decide, by decide⟩ ⟨by decide, by decide⟩ rfl (wr := [oRck X, kA X 17 100 f17, kA X 32 100 (cut k Nf f32), kA X 33 100 (cut k (tkF f17 f18 f21 f22 yr d) f33)]) rfl ⟨by decide, by decide, by decide, by decide⟩ rfl (Nat.le_of_ble_eq_true rfl) dX6_takeLines_32 rfl rfl ?_
          by_cases b_32 : stCl f18 f21 f22 k d
          · refine g_top (bz_t b_32) ?_
            refine g_if_eq (pc' := 38) (tgt := 42) C dX6_takeLines_35 (by decide) rfl (fun h => absurd h (by decide)) (fun _ => ?_)
            refine g_iconst (pc' := 39) (v := 1) C dX6_takeLines_38 rfl rfl ?_
            refine g_goto (tgt := 43) C dX6_takeLines_39 (by decide) ?_
            refine g_istore (pc' := 45) (lv' := [(4, .int 1), (0, .ref (xa X 8)), (1, .int yr), (2, .int d), (3, .int (nI k))]) C dX6_takeLines_43 (by decide) rfl rfl ?_
            refine g_aload_n (pc' := 46) C dX6_takeLines_45 1 rfl rfl rfl ?_
            refine g_get (pc' := 49) C hi_X6 1 5 rfl rfl (by decide) (List.mem_of_getElem? (i := 2) rfl) rfl dX6_takeLines_46 rfl ?_
            refine g_iload_n (pc' := 50) C dX6_takeLines_49 4 rfl rfl rfl ?_
            refine g_iload (pc' := 52) C dX6_takeLines_50 0 rfl rfl ?_
            refine g_if_eq (pc' := 55) (tgt := 59) C dX6_takeLines_52 (by decide) rfl (fun h => absurd h (by decide)) (fun _ => ?_)
            refine g_iconst (pc' := 56) (v := 0) C dX6_takeLines_55 rfl rfl ?_
            refine g_goto (tgt := 61) C dX6_takeLines_56 (by decide) ?_
            refine g_iast (pc' := 62) (ws2 := [oLns X (nI ln), oRck X, kA X 17 100 f17, kA X 18 100 f18, kA X 21 100 f21, kA X 22 800 f22, kA X 32 100 (cut k Nf f32), kA X 33 100 (upd (cut k (tkF f17 f18 f21 f22 yr d) f33) k 0)]) C 7 k rfl rfl (by omega) (by decide) dX6_takeLines_61 rfl rfl ?_
            refine g_aload_n (pc' := 63) C dX6_takeLines_62 1 rfl rfl rfl ?_
            refine g_get (pc' := 66) C hi_X6 1 4 rfl rfl (by decide) (List.mem_of_getElem? (i := 4) rfl) rfl dX6_takeLines_63 rfl ?_
            refine g_iload_n (pc' := 67) C dX6_takeLines_66 4 rfl rfl rfl ?_
            refine g_ldc (pc' := 69) (v := (-1000000005)) C (List.mem_of_getElem? (i := 3) rfl) dX6_takeLines_67 rfl ?_
            refine g_iast (pc' := 70) (ws2 := [oLns X (nI ln), oRck X, kA X 17 100 f17, kA X 18 100 f18, kA X 21 100 f21, kA X 22 800 f22, kA X 32 100 (upd (cut k Nf f32) k (-1000000005)), kA X 33 100 (upd (cut k (tkF f17 f18 f21 f22 yr d) f33) k 0)]) C 6 k rfl rfl (by omega) (by decide) dX6_takeLines_69 rfl rfl ?_
            refine g_iinc (pc' := 73) (v := nI (k + 1)) (lv' := [(3, .int (nI (k + 1))), (4, .int 1), (0, .ref (xa X 8)), (1, .int yr), (2, .int d)]) C dX6_takeLines_70 4 rfl (nI_1 _) (by decide) rfl rfl ?_
            refine g_goto (tgt := 2) C dX6_takeLines_73 (by decide) ?_
            refine g_lv (lv2 := [(0, .ref (xa X 8)), (1, .int yr), (2, .int d), (3, .int (nI (k + 1)))]) [2, 3, 4, 0] rfl ?_
            refine g_eq (lv2 := [(0, .ref (xa X 8)), (1, .int yr), (2, .int d), (3, .int (nI (k + 1)))]) (ws2 := [oLns X (nI ln), oRck X, kA X 17 100 f17, kA X 18 100 f18, kA X 21 100 f21, kA X 22 800 f22, kA X 32 100 (cut (k + 1) Nf f32), kA X 33 100 (cut (k + 1) (tkF f17 f18 f21 f22 yr d) f33)]) (st2 := []) rfl ((congrArg (fun zq_ : Nat → Int32 => ([oLns X (nI ln), oRck X, kA X 17 100 f17, kA X 18 100 f18, kA X 21 100 f21, kA X 22 800 f22, kA X 32 100 zq_, kA X 33 100 (upd (cut k (tkF f17 f18 f21 f22 yr d) f33) k 0)] : va_W)) (show (upd (cut k Nf f32) k (-1000000005) : Nat → Int32) = cut (k + 1) Nf f32 from (cut_put rfl))).trans (congrArg (fun zq_ : Nat → Int32 => ([oLns X (nI ln), oRck X, kA X 17 100 f17, kA X 18 100 f18, kA X 21 100 f21, kA X 22 800 f22, kA X 32 100 (cut (k + 1) Nf f32), kA X 33 100 zq_] : va_W)) (show (upd (cut k (tkF f17 f18 f21 f22 yr d) f33) k 0 : Nat → Int32) = cut (k + 1) (tkF f17 f18 f21 f22 yr d) f33 from (cut_put (by simp [tkF, c_10, c_23, b_32]))))) rfl ?_
            exact ih_2 (k + 1) (by omega) (by omega)
          · refine g_top (bz_f b_32) ?_
            refine g_if_eq (pc' := 38) (tgt := 42) C dX6_takeLines_35 (by decide) rfl (fun _ => ?_) (fun h => absurd h (by decide))
            refine g_iconst (pc' := 43) (v := 0) C dX6_takeLines_42 rfl rfl ?_
            refine g_istore (pc' := 45) (lv' := [(4, .int 0), (0, .ref (xa X 8)), (1, .int yr), (2, .int d), (3, .int (nI k))]) C dX6_takeLines_43 (by decide) rfl rfl ?_
            refine g_aload_n (pc' := 46) C dX6_takeLines_45 1 rfl rfl rfl ?_
            refine g_get (pc' := 49) C hi_X6 1 5 rfl rfl (by decide) (List.mem_of_getElem? (i := 2) rfl) rfl dX6_takeLines_46 rfl ?_
            refine g_iload_n (pc' := 50) C dX6_takeLines_49 4 rfl rfl rfl ?_
            refine g_iload (pc' := 52) C dX6_takeLines_50 0 rfl rfl ?_
            refine g_if_eq (pc' := 55) (tgt := 59) C dX6_takeLines_52 (by decide) rfl (fun _ => ?_) (fun h => absurd h (by decide))
            refine g_ldc (pc' := 61) (v := (-1000000005)) C (List.mem_of_getElem? (i := 3) rfl) dX6_takeLines_59 rfl ?_
            refine g_iast (pc' := 62) (ws2 := [oLns X (nI ln), oRck X, kA X 17 100 f17, kA X 18 100 f18, kA X 21 100 f21, kA X 22 800 f22, kA X 32 100 (cut k Nf f32), kA X 33 100 (upd (cut k (tkF f17 f18 f21 f22 yr d) f33) k (-1000000005))]) C 7 k rfl rfl (by omega) (by decide) dX6_takeLines_61 rfl rfl ?_
            refine g_aload_n (pc' := 63) C dX6_takeLines_62 1 rfl rfl rfl ?_
            refine g_get (pc' := 66) C hi_X6 1 4 rfl rfl (by decide) (List.mem_of_getElem? (i := 4) rfl) rfl dX6_takeLines_63 rfl ?_
            refine g_iload_n (pc' := 67) C dX6_takeLines_66 4 rfl rfl rfl ?_
            refine g_ldc (pc' := 69) (v := (-1000000005)) C (List.mem_of_getElem? (i := 3) rfl) dX6_takeLines_67 rfl ?_
            refine g_iast (pc' := 70) (ws2 := [oLns X (nI ln), oRck X, kA X 17 100 f17, kA X 18 100 f18, kA X 21 100 f21, kA X 22 800 f22, kA X 32 100 (upd (cut k Nf f32) k (-1000000005)), kA X 33 100 (upd (cut k (tkF f17 f18 f21 f22 yr d) f33) k (-1000000005))]) C 6 k rfl rfl (by omega) (by decide) dX6_takeLines_69 rfl rfl ?_
            refine g_iinc (pc' := 73) (v := nI (k + 1)) (lv' := [(3, .int (nI (k + 1))), (4, .int 0), (0, .ref (xa X 8)), (1, .int yr), (2, .int d)]) C dX6_takeLines_70 4 rfl (nI_1 _) (by decide) rfl rfl ?_
            refine g_goto (tgt := 2) C dX6_takeLines_73 (by decide) ?_
            refine g_lv (lv2 := [(0, .ref (xa X 8)), (1, .int yr), (2, .int d), (3, .int (nI (k + 1)))]) [2, 3, 4, 0] rfl ?_
            refine g_eq (lv2 := [(0, .ref (xa X 8)), (1, .int yr), (2, .int d), (3, .int (nI (k + 1)))]) (ws2 := [oLns X (nI ln), oRck X, kA X 17 100 f17, kA X 18 100 f18, kA X 21 100 f21, kA X 22 800 f22, kA X 32 100 (cut (k + 1) Nf f32), kA X 33 100 (cut (k + 1) (tkF f17 f18 f21 f22 yr d) f33)]) (st2 := []) rfl ((congrArg (fun zq_ : Nat → Int32 => ([oLns X (nI ln), oRck X, kA X 17 100 f17, kA X 18 100 f18, kA X 21 100 f21, kA X 22 800 f22, kA X 32 100 zq_, kA X 33 100 (upd (cut k (tkF f17 f18 f21 f22 yr d) f33) k (-1000000005))] : va_W)) (show (upd (cut k Nf f32) k (-1000000005) : Nat → Int32) = cut (k + 1) Nf f32 from (cut_put rfl))).trans (congrArg (fun zq_ : Nat → Int32 => ([oLns X (nI ln), oRck X, kA X 17 100 f17, kA X 18 100 f18, kA X 21 100 f21, kA X 22 800 f22, kA X 32 100 (cut (k + 1) Nf f32), kA X 33 100 zq_] : va_W)) (show (upd (cut k (tkF f17 f18 f21 f22 yr d) f33) k (-1000000005) : Nat → Int32) = cut (k + 1) (tkF f17 f18 f21 f22 yr d) f33 from (cut_put (by simp [tkF, c_10, c_23, b_32]))))) rfl ?_
            exact ih_2 (k + 1) (by omega) (by omega)
  refine g_lv (lv2 := [(0, .ref (xa X 8)), (1, .int yr), (2, .int d), (3, .int 0)]) [1, 2, 3, 0] rfl ?_
  refine g_eq (lv2 := [(0, .ref (xa X 8)), (1, .int yr), (2, .int d), (3, .int 0)]) (ws2 := [oLns X (nI ln), oRck X, kA X 17 100 f17, kA X 18 100 f18, kA X 21 100 f21, kA X 22 800 f22, kA X 32 100 (cut 0 Nf f32), kA X 33 100 (cut 0 (tkF f17 f18 f21 f22 yr d) f33)]) (st2 := []) rfl ((congrArg (fun zq_ : Nat → Int32 => ([oLns X (nI ln), oRck X, kA X 17 100 f17, kA X 18 100 f18, kA X 21 100 f21, kA X 22 800 f22, kA X 32 100 zq_, kA X 33 100 f33] : va_W)) (show (f32 : Nat → Int32) = cut 0 Nf f32 from (cut_0 _ _).symm)).trans (congrArg (fun zq_ : Nat → Int32 => ([oLns X (nI ln), oRck X, kA X 17 100 f17, kA X 18 100 f18, kA X 21 100 f21, kA X 22 800 f22, kA X 32 100 (cut 0 Nf f32), kA X 33 100 zq_] : va_W)) (show (f33 : Nat → Int32) = cut 0 (tkF f17 f18 f21 f22 yr d) f33 from (cut_0 _ _).symm))) rfl ?_
  exact lp_2 (ln - 0 + 1) 0 (Nat.zero_le _) (by omega)

set_option maxHeartbeats 1000000 in
set_option maxRecDepth 20000 in
theorem c_X6_isFreeLentOf (l : Launch) (X : gX) (ln : Nat) (f15 : Nat → Int32) (f16 : Nat → Int32) (f19 : Nat → Int32) (f20 : Nat → Int32) (f32 : Nat → Int32) (f33 : Nat → Int32) (i : Nat) (w : Nat) (hi : i < 100) (hw : w < 100) (hq : f33 i = 0 ∨ f33 i = (-1000000005)) : KC l yX6_isFreeLentOf wsX6_isFreeLentOf ⟨0, 0, 0, 0⟩ [.ref (xa X 8), .int (nI i), .int (nI w)] X [oLns X (nI ln), oRck X, kA X 15 100 f15, kA X 16 100 f16, kA X 19 100 f19, kA X 20 100 f20, kA X 32 100 f32, kA X 33 100 f33] (some (.int (bz (freeB f33 f32 f15 f16 f19 f20 w i = true)))) [oLns X (nI ln), oRck X, kA X 15 100 f15, kA X 16 100 f16, kA X 19 100 f19, kA X 20 100 f20, kA X 32 100 f32, kA X 33 100 f33] := by
  have hi_X6 : ∀ w ∈ u_ws RX6 TX6 10, w ∈ wsX6_isFreeLentOf := fun w h => List.mem_cons_of_mem _ (List.mem_append_left _ (List.mem_append_right _ h))
  have hi_X2 : ∀ w ∈ u_ws RX2 TX2 9, w ∈ wsX6_isFreeLentOf := fun w h => List.mem_cons_of_mem _ (List.mem_append_right _ h)
  refine KC.of cX6_isFreeLentOf 3 (some .boolean) RX6 rfl (by decide) rfl (lv := [(0, .ref (xa X 8)), (1, .int (nI i)), (2, .int (nI w))]) rfl (Nat.le_of_ble_eq_true rfl) ?_
  intro p e s m args below meth c A C hr
  refine g_aload_n (pc' := 1) C dX6_isFreeLentOf_0 0 rfl rfl rfl ?_
  refine g_get (pc' := 4) C hi_X6 1 5 rfl rfl (by decide) (List.mem_of_getElem? (i := 1) rfl) rfl dX6_isFreeLentOf_1 rfl ?_
  refine g_iload_n (pc' := 5) C dX6_isFreeLentOf_4 1 rfl rfl rfl ?_
  refine g_iald (pc' := 6) C 7 i rfl rfl (by omega) (by decide) dX6_isFreeLentOf_5 rfl ?_
  refine g_ldc (pc' := 8) (v := (-1000000005)) C (List.mem_of_getElem? (i := 2) rfl) dX6_isFreeLentOf_6 rfl ?_
  refine g_icmp_eq (pc' := 11) (tgt := 102) C dX6_isFreeLentOf_8 (by decide) rfl (fun c_8 => ?_) (fun c_8 => ?_)
  · refine g_iconst (pc' := 103) (v := 0) C dX6_isFreeLentOf_102 rfl rfl ?_
    exact g_zret C hr rfl dX6_isFreeLentOf_103 (by first | rfl | omega | (simp [freeB, bz, c_8]; done) | (simp [freeB, bz, c_8]; omega) | (simp [freeB, bz, c_8]; intros; exfalso; omega) | grind [freeB, bz]) rfl
  · refine g_aload_n (pc' := 12) C dX6_isFreeLentOf_11 0 rfl rfl rfl ?_
    have q0 := hq.resolve_right c_8
    refine g_get (pc' := 15) C hi_X6 1 1 rfl rfl (by decide) (List.mem_of_getElem? (i := 3) rfl) rfl dX6_isFreeLentOf_12 rfl ?_
    refine g_getN (pc' := 18) C hi_X2 0 0 rfl rfl (by decide) (List.mem_of_getElem? (i := 14) rfl) rfl dX6_isFreeLentOf_15 rfl ?_
    refine g_iload_n (pc' := 19) C dX6_isFreeLentOf_18 1 rfl rfl rfl ?_
    refine g_iald (pc' := 20) C 2 i rfl rfl (by omega) (by decide) dX6_isFreeLentOf_19 rfl ?_
    refine g_iconst (pc' := 21) (v := 5) C dX6_isFreeLentOf_20 rfl rfl ?_
    refine g_icmp_ne (pc' := 24) (tgt := 102) C dX6_isFreeLentOf_21 (by decide) rfl (fun c_21 => ?_) (fun c_21 => ?_)
    · refine g_iconst (pc' := 103) (v := 0) C dX6_isFreeLentOf_102 rfl rfl ?_
      exact g_zret C hr rfl dX6_isFreeLentOf_103 (by first | rfl | omega | (simp [freeB, bz, c_8, q0, c_21]; done) | (simp [freeB, bz, c_8, q0, c_21]; omega) | (simp [freeB, bz, c_8, q0, c_21]; intros; exfalso; omega) | grind [freeB, bz]) rfl
    · refine g_aload_n (pc' := 25) C dX6_isFreeLentOf_24 0 rfl rfl rfl ?_
      refine g_get (pc' := 28) C hi_X6 1 4 rfl rfl (by decide) (List.mem_of_getElem? (i := 4) rfl) rfl dX6_isFreeLentOf_25 rfl ?_
      refine g_iload_n (pc' := 29) C dX6_isFreeLentOf_28 1 rfl rfl rfl ?_
      refine g_iald (pc' := 30) C 6 i rfl rfl (by omega) (by decide) dX6_isFreeLentOf_29 rfl ?_
      refine g_ldc (pc' := 32) (v := (-1000000005)) C (List.mem_of_getElem? (i := 2) rfl) dX6_isFreeLentOf_30 rfl ?_
      refine g_icmp_ne (pc' := 35) (tgt := 102) C dX6_isFreeLentOf_32 (by decide) rfl (fun c_32 => ?_) (fun c_32 => ?_)
      · refine g_iconst (pc' := 103) (v := 0) C dX6_isFreeLentOf_102 rfl rfl ?_
        exact g_zret C hr rfl dX6_isFreeLentOf_103 (by first | rfl | omega | (simp [freeB, bz, c_8, q0, c_21, c_32]; done) | (simp [freeB, bz, c_8, q0, c_21, c_32]; omega) | (simp [freeB, bz, c_8, q0, c_21, c_32]; intros; exfalso; omega) | grind [freeB, bz]) rfl
      · refine g_aload_n (pc' := 36) C dX6_isFreeLentOf_35 0 rfl rfl rfl ?_
        refine g_get (pc' := 39) C hi_X6 1 1 rfl rfl (by decide) (List.mem_of_getElem? (i := 3) rfl) rfl dX6_isFreeLentOf_36 rfl ?_
        refine g_getN (pc' := 42) C hi_X2 0 1 rfl rfl (by decide) (List.mem_of_getElem? (i := 17) rfl) rfl dX6_isFreeLentOf_39 rfl ?_
        refine g_iload_n (pc' := 43) C dX6_isFreeLentOf_42 1 rfl rfl rfl ?_
        refine g_iald (pc' := 44) C 3 i rfl rfl (by omega) (by decide) dX6_isFreeLentOf_43 rfl ?_
        refine g_aload_n (pc' := 45) C dX6_isFreeLentOf_44 0 rfl rfl rfl ?_
        refine g_get (pc' := 48) C hi_X6 1 1 rfl rfl (by decide) (List.mem_of_getElem? (i := 3) rfl) rfl dX6_isFreeLentOf_45 rfl ?_
        refine g_getN (pc' := 51) C hi_X2 0 4 rfl rfl (by decide) (List.mem_of_getElem? (i := 22) rfl) rfl dX6_isFreeLentOf_48 rfl ?_
        refine g_iload_n (pc' := 52) C dX6_isFreeLentOf_51 2 rfl rfl rfl ?_
        refine g_iald (pc' := 53) C 4 w rfl rfl (by omega) (by decide) dX6_isFreeLentOf_52 rfl ?_
        refine g_icmp_ne (pc' := 56) (tgt := 102) C dX6_isFreeLentOf_53 (by decide) rfl (fun c_53 => ?_) (fun c_53 => ?_)
        · refine g_iconst (pc' := 103) (v := 0) C dX6_isFreeLentOf_102 rfl rfl ?_
          exact g_zret C hr rfl dX6_isFreeLentOf_103 (by first | rfl | omega | (simp [freeB, bz, c_8, q0, c_21, c_32, c_53]; done) | (simp [freeB, bz, c_8, q0, c_21, c_32, c_53]; omega) | (simp [freeB, bz, c_8, q0, c_21, c_32, c_53]; intros; exfalso; omega) | grind [freeB, bz]) rfl
        · refine g_aload_n (pc' := 57) C dX6_isFreeLentOf_56 0 rfl rfl rfl ?_
          refine g_get (pc' := 60) C hi_X6 1 1 rfl rfl (by decide) (List.mem_of_getElem? (i := 3) rfl) rfl dX6_isFreeLentOf_57 rfl ?_
          refine g_getN (pc' := 63) C hi_X2 0 4 rfl rfl (by decide) (List.mem_of_getElem? (i := 22) rfl) rfl dX6_isFreeLentOf_60 rfl ?_
          refine g_iload_n (pc' := 64) C dX6_isFreeLentOf_63 1 rfl rfl rfl ?_
          refine g_iald (pc' := 65) C 4 i rfl rfl (by omega) (by decide) dX6_isFreeLentOf_64 rfl ?_
          refine g_aload_n (pc' := 66) C dX6_isFreeLentOf_65 0 rfl rfl rfl ?_
          refine g_get (pc' := 69) C hi_X6 1 1 rfl rfl (by decide) (List.mem_of_getElem? (i := 3) rfl) rfl dX6_isFreeLentOf_66 rfl ?_
          refine g_getN (pc' := 72) C hi_X2 0 1 rfl rfl (by decide) (List.mem_of_getElem? (i := 17) rfl) rfl dX6_isFreeLentOf_69 rfl ?_
          refine g_iload_n (pc' := 73) C dX6_isFreeLentOf_72 2 rfl rfl rfl ?_
          refine g_iald (pc' := 74) C 3 w rfl rfl (by omega) (by decide) dX6_isFreeLentOf_73 rfl ?_
          refine g_icmp_ne (pc' := 77) (tgt := 102) C dX6_isFreeLentOf_74 (by decide) rfl (fun c_74 => ?_) (fun c_74 => ?_)
          · refine g_iconst (pc' := 103) (v := 0) C dX6_isFreeLentOf_102 rfl rfl ?_
            exact g_zret C hr rfl dX6_isFreeLentOf_103 (by first | rfl | omega | (simp [freeB, bz, c_8, q0, c_21, c_32, c_53, c_74]; done) | (simp [freeB, bz, c_8, q0, c_21, c_32, c_53, c_74]; omega) | (simp [freeB, bz, c_8, q0, c_21, c_32, c_53, c_74]; intros; exfalso; omega) | grind [freeB, bz]) rfl
          · refine g_aload_n (pc' := 78) C dX6_isFreeLentOf_77 0 rfl rfl rfl ?_
            refine g_get (pc' := 81) C hi_X6 1 1 rfl rfl (by decide) (List.mem_of_getElem? (i := 3) rfl) rfl dX6_isFreeLentOf_78 rfl ?_
            refine g_getN (pc' := 84) C hi_X2 0 5 rfl rfl (by decide) (List.mem_of_getElem? (i := 24) rfl) rfl dX6_isFreeLentOf_81 rfl ?_
            refine g_iload_n (pc' := 85) C dX6_isFreeLentOf_84 1 rfl rfl rfl ?_
            refine g_iald (pc' := 86) C 5 i rfl rfl (by omega) (by decide) dX6_isFreeLentOf_85 rfl ?_
            refine g_aload_n (pc' := 87) C dX6_isFreeLentOf_86 0 rfl rfl rfl ?_
            refine g_get (pc' := 90) C hi_X6 1 1 rfl rfl (by decide) (List.mem_of_getElem? (i := 3) rfl) rfl dX6_isFreeLentOf_87 rfl ?_
            refine g_getN (pc' := 93) C hi_X2 0 5 rfl rfl (by decide) (List.mem_of_getElem? (i := 24) rfl) rfl dX6_isFreeLentOf_90 rfl ?_
            refine g_iload_n (pc' := 94) C dX6_isFreeLentOf_93 2 rfl rfl rfl ?_
            refine g_iald (pc' := 95) C 5 w rfl rfl (by omega) (by decide) dX6_isFreeLentOf_94 rfl ?_
            refine g_icmp_ne (pc' := 98) (tgt := 102) C dX6_isFreeLentOf_95 (by decide) rfl (fun c_95 => ?_) (fun c_95 => ?_)
            · refine g_iconst (pc' := 103) (v := 0) C dX6_isFreeLentOf_102 rfl rfl ?_
              exact g_zret C hr rfl dX6_isFreeLentOf_103 (by first | rfl | omega | (simp [freeB, bz, c_8, q0, c_21, c_32, c_53, c_74, c_95]; done) | (simp [freeB, bz, c_8, q0, c_21, c_32, c_53, c_74, c_95]; omega) | (simp [freeB, bz, c_8, q0, c_21, c_32, c_53, c_74, c_95]; intros; exfalso; omega) | grind [freeB, bz]) rfl
            · refine g_iconst (pc' := 99) (v := 1) C dX6_isFreeLentOf_98 rfl rfl ?_
              refine g_goto (tgt := 103) C dX6_isFreeLentOf_99 (by decide) ?_
              exact g_zret C hr rfl dX6_isFreeLentOf_103 (by first | rfl | omega | (simp [freeB, bz, c_8, q0, c_21, c_32, c_53, c_74, c_95]; done) | (simp [freeB, bz, c_8, q0, c_21, c_32, c_53, c_74, c_95]; omega) | (simp [freeB, bz, c_8, q0, c_21, c_32, c_53, c_74, c_95]; intros; exfalso; omega) | grind [freeB, bz]) rfl

set_option maxHeartbeats 1000000 in
set_option maxRecDepth 20000 in
theorem c_X6_matchOwes (l : Launch) (X : gX) (ln : Nat) (f15 : Nat → Int32) (f16 : Nat → Int32) (f19 : Nat → Int32) (f20 : Nat → Int32) (f32 : Nat → Int32) (f33 : Nat → Int32) (w : Nat) (hn : ln ≤ 100) (hw : w < ln) (hq : ∀ i, i < ln → f33 i = 0 ∨ f33 i = (-1000000005)) : KC l yX6_matchOwes wsX6_matchOwes ⟨1, 0, 0, 22⟩ [.ref (xa X 8), .int (nI w)] X [oLns X (nI ln), oRck X, kA X 15 100 f15, kA X 16 100 f16, kA X 19 100 f19, kA X 20 100 f20, kA X 32 100 f32, kA X 33 100 f33] none [oLns X (nI ln), oRck X, kA X 15 100 f15, kA X 16 100 f16, kA X 19 100 f19, kA X 20 100 f20, kA X 32 100 (mtPut f32 w (firstI (freeB f33 f32 f15 f16 f19 f20 w) ln 0)), kA X 33 100 f33] := by
  have hi_X6 : ∀ w ∈ u_ws RX6 TX6 10, w ∈ wsX6_matchOwes := fun w h => List.mem_cons_of_mem _ (List.mem_append_left _ (List.mem_append_right _ h))
  have hi_X2 : ∀ w ∈ u_ws RX2 TX2 9, w ∈ wsX6_matchOwes := fun w h => List.mem_cons_of_mem _ (List.mem_append_right _ h)
  refine KC.of cX6_matchOwes 3 none RX6 rfl (by decide) rfl (lv := [(0, .ref (xa X 8)), (1, .int (nI w))]) rfl (Nat.le_of_ble_eq_true rfl) ?_
  intro p e s m args below meth c A C hr
  refine g_iconst (pc' := 1) (v := 0) C dX6_matchOwes_0 rfl rfl ?_
  refine g_istore_n (pc' := 2) (lv' := [(2, .int 0), (0, .ref (xa X 8)), (1, .int (nI w))]) C dX6_matchOwes_1 rfl (by decide) rfl rfl ?_
  have lp_2 : ∀ (n_2 : Nat) (k : Nat) (hk : k ≤ ln) (hf : firstI (freeB f33 f32 f15 f16 f19 f20 w) ln 0 = firstI (freeB f33 f32 f15 f16 f19 f20 w) (ln - k) k) (hm_2 : ln - k < n_2), gG p l e ⟨1, 0, 0, 22⟩ s m args below meth c X A 3 0 0 (MQ below (QA X A none [oLns X (nI ln), oRck X, kA X 15 100 f15, kA X 16 100 f16, kA X 19 100 f19, kA X 20 100 f20, kA X 32 100 (mtPut f32 w (firstI (freeB f33 f32 f15 f16 f19 f20 w) ln 0)), kA X 33 100 f33]) args s 0 0 A) [(0, .ref (xa X 8)), (1, .int (nI w)), (2, .int (nI k))] [oLns X (nI ln), oRck X, kA X 15 100 f15, kA X 16 100 f16, kA X 19 100 f19, kA X 20 100 f20, kA X 32 100 f32, kA X 33 100 f33] 2 [] := by
    intro n_2
    induction n_2 with
    | zero => intro k hk hf hm_2; exact absurd hm_2 (Nat.not_lt_zero _)
    | succ n_2 ih_2 =>
      intro k hk hf hm_2
      refine g_iload_n (pc' := 3) C dX6_matchOwes_2 2 rfl rfl rfl ?_
      refine g_aload_n (pc' := 4) C dX6_matchOwes_3 0 rfl rfl rfl ?_
      refine g_get (pc' := 7) C hi_X6 1 1 rfl rfl (by decide) (List.mem_of_getElem? (i := 1) rfl) rfl dX6_matchOwes_4 rfl ?_
      refine g_getN (pc' := 10) C hi_X2 0 8 rfl rfl (by decide) (List.mem_of_getElem? (i := 26) rfl) rfl dX6_matchOwes_7 rfl ?_
      refine g_icmp_geN (pc' := 13) (tgt := 43) C k ln rfl rfl (by omega) (by omega) dX6_matchOwes_10 (by decide) rfl (fun c_10 => ?_) (fun c_10 => ?_)
      · exact g_vret C hr dX6_matchOwes_43 (congrArg (fun zq_ : Nat → Int32 => ([oLns X (nI ln), oRck X, kA X 15 100 f15, kA X 16 100 f16, kA X 19 100 f19, kA X 20 100 f20, kA X 32 100 zq_, kA X 33 100 f33] : va_W)) (show (f32 : Nat → Int32) = mtPut f32 w (firstI (freeB f33 f32 f15 f16 f19 f20 w) ln 0) from (by rw [hf, show ln - k = 0 by omega]; exact mtPut_no.symm)))
      · refine g_aload_n (pc' := 14) C dX6_matchOwes_13 0 rfl rfl rfl ?_
        refine g_iload_n (pc' := 15) C dX6_matchOwes_14 2 rfl rfl rfl ?_
        refine g_iload_n (pc' := 16) C dX6_matchOwes_15 1 rfl rfl rfl ?_
        refine g_callV (pc' := 19) (st := []) (ws2 := [oLns X (nI ln), oRck X, kA X 15 100 f15, kA X 16 100 f16, kA X 19 100 f19, kA X 20 100 f20, kA X 32 100 f32, kA X 33 100 f33]) C [.int (nI k), .int (nI w)] 2 rfl (c_X6_isFreeLentOf l X ln f15 f16 f19 f20 f32 f33 k w (by first | assumption | omega) (by first | assumption | omega) (hq k (by omega))) [0, 1, 2, 3, 4, 5, 6, 7] [] [0, 1, 2, 3, 4, 5, 6, 7] gX6_matchOwes_X6_isFreeLentOf 1 rfl rfl rfl ⟨rfl, rfl⟩ (by decide +kernel) ⟨by decide, by decide⟩ ⟨by decide, by decide⟩ rfl (wr := []) rfl ⟨by decide, by decide, by decide, by decide⟩ rfl (Nat.le_of_ble_eq_true rfl) dX6_matchOwes_16 rfl rfl ?_
        by_cases b_16 : freeB f33 f32 f15 f16 f19 f20 w k = true
        · refine g_top (bz_t b_16) ?_
          refine g_if_eq (pc' := 22) (tgt := 37) C dX6_matchOwes_19 (by decide) rfl (fun h => absurd h (by decide)) (fun _ => ?_)
          refine g_aload_n (pc' := 23) C dX6_matchOwes_22 0 rfl rfl rfl ?_
          refine g_get (pc' := 26) C hi_X6 1 4 rfl rfl (by decide) (List.mem_of_getElem? (i := 2) rfl) rfl dX6_matchOwes_23 rfl ?_
          refine g_iload_n (pc' := 27) C dX6_matchOwes_26 1 rfl rfl rfl ?_
          refine g_iload_n (pc' := 28) C dX6_matchOwes_27 2 rfl rfl rfl ?_
          refine g_iast (pc' := 29) (ws2 := [oLns X (nI ln), oRck X, kA X 15 100 f15, kA X 16 100 f16, kA X 19 100 f19, kA X 20 100 f20, kA X 32 100 (upd f32 w (nI k)), kA X 33 100 f33]) C 6 w rfl rfl (by omega) (by decide) dX6_matchOwes_28 rfl rfl ?_
          refine g_aload_n (pc' := 30) C dX6_matchOwes_29 0 rfl rfl rfl ?_
          refine g_get (pc' := 33) C hi_X6 1 4 rfl rfl (by decide) (List.mem_of_getElem? (i := 2) rfl) rfl dX6_matchOwes_30 rfl ?_
          refine g_iload_n (pc' := 34) C dX6_matchOwes_33 2 rfl rfl rfl ?_
          refine g_iload_n (pc' := 35) C dX6_matchOwes_34 1 rfl rfl rfl ?_
          refine g_iast (pc' := 36) (ws2 := [oLns X (nI ln), oRck X, kA X 15 100 f15, kA X 16 100 f16, kA X 19 100 f19, kA X 20 100 f20, kA X 32 100 (upd (upd f32 w (nI k)) k (nI w)), kA X 33 100 f33]) C 6 k rfl rfl (by omega) (by decide) dX6_matchOwes_35 rfl rfl ?_
          exact g_vret C hr dX6_matchOwes_36 (congrArg (fun zq_ : Nat → Int32 => ([oLns X (nI ln), oRck X, kA X 15 100 f15, kA X 16 100 f16, kA X 19 100 f19, kA X 20 100 f20, kA X 32 100 zq_, kA X 33 100 f33] : va_W)) (show (upd (upd f32 w (nI k)) k (nI w) : Nat → Int32) = mtPut f32 w (firstI (freeB f33 f32 f15 f16 f19 f20 w) ln 0) from (by rw [hf, firstI_yes b_16 (by omega)]; exact (mtPut_yes (by omega)).symm)))
        · refine g_top (bz_f b_16) ?_
          refine g_if_eq (pc' := 22) (tgt := 37) C dX6_matchOwes_19 (by decide) rfl (fun _ => ?_) (fun h => absurd h (by decide))
          refine g_iinc (pc' := 40) (v := nI (k + 1)) (lv' := [(2, .int (nI (k + 1))), (0, .ref (xa X 8)), (1, .int (nI w))]) C dX6_matchOwes_37 2 rfl (nI_1 _) (by decide) rfl rfl ?_
          refine g_goto (tgt := 2) C dX6_matchOwes_40 (by decide) ?_
          refine g_lv (lv2 := [(0, .ref (xa X 8)), (1, .int (nI w)), (2, .int (nI (k + 1)))]) [1, 2, 0] rfl ?_
          exact ih_2 (k + 1) (by omega) (hf.trans (firstI_no b_16 (by omega))) (by omega)
  refine g_lv (lv2 := [(0, .ref (xa X 8)), (1, .int (nI w)), (2, .int 0)]) [1, 2, 0] rfl ?_
  exact lp_2 (ln - 0 + 1) 0 (Nat.zero_le _) rfl (by omega)

set_option maxHeartbeats 1000000 in
set_option maxRecDepth 20000 in
theorem c_X6_matchDebts (l : Launch) (X : gX) (ln : Nat) (f15 : Nat → Int32) (f16 : Nat → Int32) (f19 : Nat → Int32) (f20 : Nat → Int32) (f32 : Nat → Int32) (f33 : Nat → Int32) (hn : ln ≤ 100) (hq : ∀ i, i < ln → f33 i = 0 ∨ f33 i = (-1000000005)) : KC l yX6_matchDebts wsX6_matchDebts ⟨2, 0, 0, 44⟩ [.ref (xa X 8)] X [oLns X (nI ln), oRck X, kA X 15 100 f15, kA X 16 100 f16, kA X 19 100 f19, kA X 20 100 f20, kA X 32 100 f32, kA X 33 100 f33] none [oLns X (nI ln), oRck X, kA X 15 100 f15, kA X 16 100 f16, kA X 19 100 f19, kA X 20 100 f20, kA X 32 100 (mtF f33 f15 f16 f19 f20 ln f32 ln), kA X 33 100 f33] := by
  have hi_X6 : ∀ w ∈ u_ws RX6 TX6 10, w ∈ wsX6_matchDebts := fun w h => List.mem_cons_of_mem _ (List.mem_append_left _ (List.mem_append_right _ h))
  have hi_X2 : ∀ w ∈ u_ws RX2 TX2 9, w ∈ wsX6_matchDebts := fun w h => List.mem_cons_of_mem _ (List.mem_append_right _ h)
  refine KC.of cX6_matchDebts 2 none RX6 rfl (by decide) rfl (lv := [(0, .ref (xa X 8))]) rfl (Nat.le_of_ble_eq_true rfl) ?_
  intro p e s m args below meth c A C hr
  refine g_iconst (pc' := 1) (v := 0) C dX6_matchDebts_0 rfl rfl ?_
  refine g_istore_n (pc' := 2) (lv' := [(1, .int 0), (0, .ref (xa X 8))]) C dX6_matchDebts_1 rfl (by decide) rfl rfl ?_
  have lp_2 : ∀ (n_2 : Nat) (k : Nat) (hk : k ≤ ln) (hm_2 : ln - k < n_2), gG p l e ⟨2, 0, 0, 44⟩ s m args below meth c X A 2 0 0 (MQ below (QA X A none [oLns X (nI ln), oRck X, kA X 15 100 f15, kA X 16 100 f16, kA X 19 100 f19, kA X 20 100 f20, kA X 32 100 (mtF f33 f15 f16 f19 f20 ln f32 ln), kA X 33 100 f33]) args s 0 0 A) [(0, .ref (xa X 8)), (1, .int (nI k))] [oLns X (nI ln), oRck X, kA X 15 100 f15, kA X 16 100 f16, kA X 19 100 f19, kA X 20 100 f20, kA X 32 100 (mtF f33 f15 f16 f19 f20 ln f32 k), kA X 33 100 f33] 2 [] := by
    intro n_2
    induction n_2 with
    | zero => intro k hk hm_2; exact absurd hm_2 (Nat.not_lt_zero _)
    | succ n_2 ih_2 =>
      intro k hk hm_2
      refine g_iload_n (pc' := 3) C dX6_matchDebts_2 1 rfl rfl rfl ?_
      refine g_aload_n (pc' := 4) C dX6_matchDebts_3 0 rfl rfl rfl ?_
      refine g_get (pc' := 7) C hi_X6 1 1 rfl rfl (by decide) (List.mem_of_getElem? (i := 1) rfl) rfl dX6_matchDebts_4 rfl ?_
      refine g_getN (pc' := 10) C hi_X2 0 8 rfl rfl (by decide) (List.mem_of_getElem? (i := 26) rfl) rfl dX6_matchDebts_7 rfl ?_
      refine g_icmp_geN (pc' := 13) (tgt := 48) C k ln rfl rfl (by omega) (by omega) dX6_matchDebts_10 (by decide) rfl (fun c_10 => ?_) (fun c_10 => ?_)
      · exact g_vret C hr dX6_matchDebts_48 (congrArg (fun zq_ : Nat → Int32 => ([oLns X (nI ln), oRck X, kA X 15 100 f15, kA X 16 100 f16, kA X 19 100 f19, kA X 20 100 f20, kA X 32 100 zq_, kA X 33 100 f33] : va_W)) (show (mtF f33 f15 f16 f19 f20 ln f32 k : Nat → Int32) = mtF f33 f15 f16 f19 f20 ln f32 ln from (by rw [show k = ln by omega])))
      · refine g_aload_n (pc' := 14) C dX6_matchDebts_13 0 rfl rfl rfl ?_
        refine g_get (pc' := 17) C hi_X6 1 5 rfl rfl (by decide) (List.mem_of_getElem? (i := 2) rfl) rfl dX6_matchDebts_14 rfl ?_
        refine g_iload_n (pc' := 18) C dX6_matchDebts_17 1 rfl rfl rfl ?_
        refine g_iald (pc' := 19) C 7 k rfl rfl (by omega) (by decide) dX6_matchDebts_18 rfl ?_
        refine g_ldc (pc' := 21) (v := (-1000000005)) C (List.mem_of_getElem? (i := 3) rfl) dX6_matchDebts_19 rfl ?_
        refine g_icmp_eq (pc' := 24) (tgt := 42) C dX6_matchDebts_21 (by decide) rfl (fun c_21 => ?_) (fun c_21 => ?_)
        · refine g_iinc (pc' := 45) (v := nI (k + 1)) (lv' := [(1, .int (nI (k + 1))), (0, .ref (xa X 8))]) C dX6_matchDebts_42 1 rfl (nI_1 _) (by decide) rfl rfl ?_
          refine g_goto (tgt := 2) C dX6_matchDebts_45 (by decide) ?_
          refine g_lv (lv2 := [(0, .ref (xa X 8)), (1, .int (nI (k + 1)))]) [1, 0] rfl ?_
          refine g_eq (lv2 := [(0, .ref (xa X 8)), (1, .int (nI (k + 1)))]) (ws2 := [oLns X (nI ln), oRck X, kA X 15 100 f15, kA X 16 100 f16, kA X 19 100 f19, kA X 20 100 f20, kA X 32 100 (mtF f33 f15 f16 f19 f20 ln f32 (k + 1)), kA X 33 100 f33]) (st2 := []) rfl (congrArg (fun zq_ : Nat → Int32 => ([oLns X (nI ln), oRck X, kA X 15 100 f15, kA X 16 100 f16, kA X 19 100 f19, kA X 20 100 f20, kA X 32 100 zq_, kA X 33 100 f33] : va_W)) (show (mtF f33 f15 f16 f19 f20 ln f32 k : Nat → Int32) = mtF f33 f15 f16 f19 f20 ln f32 (k + 1) from (by rw [mtF, if_neg (fun z => by rw [c_21] at z; exact absurd z.1 (by decide))]))) rfl ?_
          exact ih_2 (k + 1) (by omega) (by omega)
        · refine g_aload_n (pc' := 25) C dX6_matchDebts_24 0 rfl rfl rfl ?_
          refine g_get (pc' := 28) C hi_X6 1 1 rfl rfl (by decide) (List.mem_of_getElem? (i := 1) rfl) rfl dX6_matchDebts_25 rfl ?_
          refine g_getN (pc' := 31) C hi_X2 0 0 rfl rfl (by decide) (List.mem_of_getElem? (i := 14) rfl) rfl dX6_matchDebts_28 rfl ?_
          refine g_iload_n (pc' := 32) C dX6_matchDebts_31 1 rfl rfl rfl ?_
          refine g_iald (pc' := 33) C 2 k rfl rfl (by omega) (by decide) dX6_matchDebts_32 rfl ?_
          refine g_iconst (pc' := 34) (v := 4) C dX6_matchDebts_33 rfl rfl ?_
          refine g_icmp_ne (pc' := 37) (tgt := 42) C dX6_matchDebts_34 (by decide) rfl (fun c_34 => ?_) (fun c_34 => ?_)
          · refine g_iinc (pc' := 45) (v := nI (k + 1)) (lv' := [(1, .int (nI (k + 1))), (0, .ref (xa X 8))]) C dX6_matchDebts_42 1 rfl (nI_1 _) (by decide) rfl rfl ?_
            refine g_goto (tgt := 2) C dX6_matchDebts_45 (by decide) ?_
            refine g_lv (lv2 := [(0, .ref (xa X 8)), (1, .int (nI (k + 1)))]) [1, 0] rfl ?_
            refine g_eq (lv2 := [(0, .ref (xa X 8)), (1, .int (nI (k + 1)))]) (ws2 := [oLns X (nI ln), oRck X, kA X 15 100 f15, kA X 16 100 f16, kA X 19 100 f19, kA X 20 100 f20, kA X 32 100 (mtF f33 f15 f16 f19 f20 ln f32 (k + 1)), kA X 33 100 f33]) (st2 := []) rfl (congrArg (fun zq_ : Nat → Int32 => ([oLns X (nI ln), oRck X, kA X 15 100 f15, kA X 16 100 f16, kA X 19 100 f19, kA X 20 100 f20, kA X 32 100 zq_, kA X 33 100 f33] : va_W)) (show (mtF f33 f15 f16 f19 f20 ln f32 k : Nat → Int32) = mtF f33 f15 f16 f19 f20 ln f32 (k + 1) from (by rw [mtF, if_neg (fun z => c_34 z.2)]))) rfl ?_
            exact ih_2 (k + 1) (by omega) (by omega)
          · refine g_aload_n (pc' := 38) C dX6_matchDebts_37 0 rfl rfl rfl ?_
            refine g_iload_n (pc' := 39) C dX6_matchDebts_38 1 rfl rfl rfl ?_
            refine g_callV (pc' := 42) (st := []) (ws2 := [oLns X (nI ln), oRck X, kA X 15 100 f15, kA X 16 100 f16, kA X 19 100 f19, kA X 20 100 f20, kA X 32 100 (mtPut (mtF f33 f15 f16 f19 f20 ln f32 k) k (firstI (freeB f33 (mtF f33 f15 f16 f19 f20 ln f32 k) f15 f16 f19 f20 k) ln 0)), kA X 33 100 f33]) C [.int (nI k)] 1 rfl (c_X6_matchOwes l X ln f15 f16 f19 f20 (mtF f33 f15 f16 f19 f20 ln f32 k) f33 k (by first | assumption | omega) (by first | assumption | omega) (by first | assumption | omega)) [0, 1, 2, 3, 4, 5, 6, 7] [] [0, 1, 2, 3, 4, 5, 6, 7] gX6_matchDebts_X6_matchOwes 1 rfl rfl rfl ⟨rfl, rfl⟩ (by decide +kernel) ⟨by decide, by decide⟩ ⟨by decide, by decide⟩ rfl (wr := []) rfl ⟨by decide, by decide, by decide, by decide⟩ rfl (Nat.le_of_ble_eq_true rfl) dX6_matchDebts_39 rfl rfl ?_
            skip
            refine g_iinc (pc' := 45) (v := nI (k + 1)) (lv' := [(1, .int (nI (k + 1))), (0, .ref (xa X 8))]) C dX6_matchDebts_42 1 rfl (nI_1 _) (by decide) rfl rfl ?_
            refine g_goto (tgt := 2) C dX6_matchDebts_45 (by decide) ?_
            refine g_lv (lv2 := [(0, .ref (xa X 8)), (1, .int (nI (k + 1)))]) [1, 0] rfl ?_
            refine g_eq (lv2 := [(0, .ref (xa X 8)), (1, .int (nI (k + 1)))]) (ws2 := [oLns X (nI ln), oRck X, kA X 15 100 f15, kA X 16 100 f16, kA X 19 100 f19, kA X 20 100 f20, kA X 32 100 (mtF f33 f15 f16 f19 f20 ln f32 (k + 1)), kA X 33 100 f33]) (st2 := []) rfl (congrArg (fun zq_ : Nat → Int32 => ([oLns X (nI ln), oRck X, kA X 15 100 f15, kA X 16 100 f16, kA X 19 100 f19, kA X 20 100 f20, kA X 32 100 zq_, kA X 33 100 f33] : va_W)) (show (mtPut (mtF f33 f15 f16 f19 f20 ln f32 k) k (firstI (freeB f33 (mtF f33 f15 f16 f19 f20 ln f32 k) f15 f16 f19 f20 k) ln 0) : Nat → Int32) = mtF f33 f15 f16 f19 f20 ln f32 (k + 1) from (by rw [mtF, if_pos ⟨(hq k (by omega)).resolve_right c_21, c_34⟩]))) rfl ?_
            exact ih_2 (k + 1) (by omega) (by omega)
  refine g_lv (lv2 := [(0, .ref (xa X 8)), (1, .int 0)]) [1, 0] rfl ?_
  refine g_eq (lv2 := [(0, .ref (xa X 8)), (1, .int 0)]) (ws2 := [oLns X (nI ln), oRck X, kA X 15 100 f15, kA X 16 100 f16, kA X 19 100 f19, kA X 20 100 f20, kA X 32 100 (mtF f33 f15 f16 f19 f20 ln f32 0), kA X 33 100 f33]) (st2 := []) rfl (congrArg (fun zq_ : Nat → Int32 => ([oLns X (nI ln), oRck X, kA X 15 100 f15, kA X 16 100 f16, kA X 19 100 f19, kA X 20 100 f20, kA X 32 100 zq_, kA X 33 100 f33] : va_W)) (show (f32 : Nat → Int32) = mtF f33 f15 f16 f19 f20 ln f32 0 from (by first | rfl | omega | (simp []; done) | (simp []; omega) | (simp []; intros; exfalso; omega) | grind []))) rfl ?_
  exact lp_2 (ln - 0 + 1) 0 (Nat.zero_le _) (by omega)

set_option maxHeartbeats 1000000 in
set_option maxRecDepth 20000 in
theorem c_X6_quarrelOfUnmatched (l : Launch) (X : gX) (x : Int32) : KC l yX6_quarrelOfUnmatched wsX6_quarrelOfUnmatched ⟨0, 0, 0, 0⟩ [.int x] X [] (some (.int (qun x))) [] := by
  refine KC.of cX6_quarrelOfUnmatched 1 (some .int) RX6 rfl (by decide) rfl (lv := [(0, .int x)]) rfl (Nat.le_of_ble_eq_true rfl) ?_
  intro p e s m args below meth c A C hr
  refine g_iload_n (pc' := 1) C dX6_quarrelOfUnmatched_0 0 rfl rfl rfl ?_
  by_cases s_1_4 : x = 4
  · refine g_top s_1_4 ?_
    refine g_lookup (off := 27) (tgt := 28) C dX6_quarrelOfUnmatched_1 (by decide) (by decide) (by decide) ?_
    refine g_iconst (pc' := 29) (v := 4) C dX6_quarrelOfUnmatched_28 rfl rfl ?_
    exact g_iret C hr dX6_quarrelOfUnmatched_29 (by first | rfl | omega | (simp [qun, s_1_4]; done) | (simp [qun, s_1_4]; omega) | (simp [qun, s_1_4]; intros; exfalso; omega) | grind [qun]) rfl
  · skip
    by_cases s_1_5 : x = 5
    · refine g_top s_1_5 ?_
      refine g_lookup (off := 29) (tgt := 30) C dX6_quarrelOfUnmatched_1 (by decide) (by decide) (by decide) ?_
      refine g_iconst (pc' := 31) (v := 5) C dX6_quarrelOfUnmatched_30 rfl rfl ?_
      exact g_iret C hr dX6_quarrelOfUnmatched_31 (by first | rfl | omega | (simp [qun, s_1_4, s_1_5]; done) | (simp [qun, s_1_4, s_1_5]; omega) | (simp [qun, s_1_4, s_1_5]; intros; exfalso; omega) | grind [qun]) rfl
    · skip
      refine g_lookup (off := 31) (tgt := 32) C dX6_quarrelOfUnmatched_1 (by decide) (by have q0 : ¬ (4 : Int) = x.toInt := fun z => s_1_4 (Int32.toInt_inj.mp z.symm); have q1 : ¬ (5 : Int) = x.toInt := fun z => s_1_5 (Int32.toInt_inj.mp z.symm); simp [Op.lookupswitch.offset_cons, Op.lookupswitch.offset, *]) (by decide) ?_
      refine g_iconst (pc' := 33) (v := 0) C dX6_quarrelOfUnmatched_32 rfl rfl ?_
      exact g_iret C hr dX6_quarrelOfUnmatched_33 (by first | rfl | omega | (simp [qun, s_1_4, s_1_5]; done) | (simp [qun, s_1_4, s_1_5]; omega) | (simp [qun, s_1_4, s_1_5]; intros; exfalso; omega) | grind [qun]) rfl

set_option maxHeartbeats 1000000 in
set_option maxRecDepth 20000 in
theorem c_X6_findDebtQuarrels (l : Launch) (X : gX) (ln : Nat) (f15 : Nat → Int32) (f32 : Nat → Int32) (f33 : Nat → Int32) (hn : ln ≤ 100) : KC l yX6_findDebtQuarrels wsX6_findDebtQuarrels ⟨1, 0, 0, 20⟩ [.ref (xa X 8)] X [oLns X (nI ln), oRck X, kA X 15 100 f15, kA X 32 100 f32, kA X 33 100 f33] none [oLns X (nI ln), oRck X, kA X 15 100 f15, kA X 32 100 f32, kA X 33 100 (cut ln (q1F f33 f32 f15) f33)] := by
  have hi_X6 : ∀ w ∈ u_ws RX6 TX6 10, w ∈ wsX6_findDebtQuarrels := fun w h => List.mem_cons_of_mem _ (List.mem_append_left _ (List.mem_append_right _ h))
  have hi_X2 : ∀ w ∈ u_ws RX2 TX2 9, w ∈ wsX6_findDebtQuarrels := fun w h => List.mem_cons_of_mem _ (List.mem_append_right _ h)
  refine KC.of cX6_findDebtQuarrels 2 none RX6 rfl (by decide) rfl (lv := [(0, .ref (xa X 8))]) rfl (Nat.le_of_ble_eq_true rfl) ?_
  intro p e s m args below meth c A C hr
  refine g_iconst (pc' := 1) (v := 0) C dX6_findDebtQuarrels_0 rfl rfl ?_
  refine g_istore_n (pc' := 2) (lv' := [(1, .int 0), (0, .ref (xa X 8))]) C dX6_findDebtQuarrels_1 rfl (by decide) rfl rfl ?_
  have lp_2 : ∀ (n_2 : Nat) (k : Nat) (hk : k ≤ ln) (hm_2 : ln - k < n_2), gG p l e ⟨1, 0, 0, 20⟩ s m args below meth c X A 2 0 0 (MQ below (QA X A none [oLns X (nI ln), oRck X, kA X 15 100 f15, kA X 32 100 f32, kA X 33 100 (cut ln (q1F f33 f32 f15) f33)]) args s 0 0 A) [(0, .ref (xa X 8)), (1, .int (nI k))] [oLns X (nI ln), oRck X, kA X 15 100 f15, kA X 32 100 f32, kA X 33 100 (cut k (q1F f33 f32 f15) f33)] 2 [] := by
    intro n_2
    induction n_2 with
    | zero => intro k hk hm_2; exact absurd hm_2 (Nat.not_lt_zero _)
    | succ n_2 ih_2 =>
      intro k hk hm_2
      refine g_iload_n (pc' := 3) C dX6_findDebtQuarrels_2 1 rfl rfl rfl ?_
      refine g_aload_n (pc' := 4) C dX6_findDebtQuarrels_3 0 rfl rfl rfl ?_
      refine g_get (pc' := 7) C hi_X6 1 1 rfl rfl (by decide) (List.mem_of_getElem? (i := 1) rfl) rfl dX6_findDebtQuarrels_4 rfl ?_
      refine g_getN (pc' := 10) C hi_X2 0 8 rfl rfl (by decide) (List.mem_of_getElem? (i := 26) rfl) rfl dX6_findDebtQuarrels_7 rfl ?_
      refine g_icmp_geN (pc' := 13) (tgt := 59) C k ln rfl rfl (by omega) (by omega) dX6_findDebtQuarrels_10 (by decide) rfl (fun c_10 => ?_) (fun c_10 => ?_)
      · exact g_vret C hr dX6_findDebtQuarrels_59 (congrArg (fun zq_ : Nat → Int32 => ([oLns X (nI ln), oRck X, kA X 15 100 f15, kA X 32 100 f32, kA X 33 100 zq_] : va_W)) (show (cut k (q1F f33 f32 f15) f33 : Nat → Int32) = cut ln (q1F f33 f32 f15) f33 from (by rw [show k = ln by omega])))
      · refine g_aload_n (pc' := 14) C dX6_findDebtQuarrels_13 0 rfl rfl rfl ?_
        refine g_get (pc' := 17) C hi_X6 1 5 rfl rfl (by decide) (List.mem_of_getElem? (i := 2) rfl) rfl dX6_findDebtQuarrels_14 rfl ?_
        refine g_iload_n (pc' := 18) C dX6_findDebtQuarrels_17 1 rfl rfl rfl ?_
        refine g_iald (pc' := 19) C 4 k rfl rfl (by omega) (by decide) dX6_findDebtQuarrels_18 rfl ?_
        refine g_top (y := f33 k) cut_at ?_
        refine g_ldc (pc' := 21) (v := (-1000000005)) C (List.mem_of_getElem? (i := 3) rfl) dX6_findDebtQuarrels_19 rfl ?_
        refine g_icmp_eq (pc' := 24) (tgt := 53) C dX6_findDebtQuarrels_21 (by decide) rfl (fun c_21 => ?_) (fun c_21 => ?_)
        · refine g_iinc (pc' := 56) (v := nI (k + 1)) (lv' := [(1, .int (nI (k + 1))), (0, .ref (xa X 8))]) C dX6_findDebtQuarrels_53 1 rfl (nI_1 _) (by decide) rfl rfl ?_
          refine g_goto (tgt := 2) C dX6_findDebtQuarrels_56 (by decide) ?_
          refine g_lv (lv2 := [(0, .ref (xa X 8)), (1, .int (nI (k + 1)))]) [1, 0] rfl ?_
          refine g_eq (lv2 := [(0, .ref (xa X 8)), (1, .int (nI (k + 1)))]) (ws2 := [oLns X (nI ln), oRck X, kA X 15 100 f15, kA X 32 100 f32, kA X 33 100 (cut (k + 1) (q1F f33 f32 f15) f33)]) (st2 := []) rfl (congrArg (fun zq_ : Nat → Int32 => ([oLns X (nI ln), oRck X, kA X 15 100 f15, kA X 32 100 f32, kA X 33 100 zq_] : va_W)) (show (cut k (q1F f33 f32 f15) f33 : Nat → Int32) = cut (k + 1) (q1F f33 f32 f15) f33 from (cut_skip (by unfold q1F; rw [if_pos c_21])))) rfl ?_
          exact ih_2 (k + 1) (by omega) (by omega)
        · refine g_aload_n (pc' := 25) C dX6_findDebtQuarrels_24 0 rfl rfl rfl ?_
          refine g_get (pc' := 28) C hi_X6 1 4 rfl rfl (by decide) (List.mem_of_getElem? (i := 4) rfl) rfl dX6_findDebtQuarrels_25 rfl ?_
          refine g_iload_n (pc' := 29) C dX6_findDebtQuarrels_28 1 rfl rfl rfl ?_
          refine g_iald (pc' := 30) C 3 k rfl rfl (by omega) (by decide) dX6_findDebtQuarrels_29 rfl ?_
          refine g_ldc (pc' := 32) (v := (-1000000005)) C (List.mem_of_getElem? (i := 3) rfl) dX6_findDebtQuarrels_30 rfl ?_
          refine g_icmp_ne (pc' := 35) (tgt := 53) C dX6_findDebtQuarrels_32 (by decide) rfl (fun c_32 => ?_) (fun c_32 => ?_)
          · refine g_iinc (pc' := 56) (v := nI (k + 1)) (lv' := [(1, .int (nI (k + 1))), (0, .ref (xa X 8))]) C dX6_findDebtQuarrels_53 1 rfl (nI_1 _) (by decide) rfl rfl ?_
            refine g_goto (tgt := 2) C dX6_findDebtQuarrels_56 (by decide) ?_
            refine g_lv (lv2 := [(0, .ref (xa X 8)), (1, .int (nI (k + 1)))]) [1, 0] rfl ?_
            refine g_eq (lv2 := [(0, .ref (xa X 8)), (1, .int (nI (k + 1)))]) (ws2 := [oLns X (nI ln), oRck X, kA X 15 100 f15, kA X 32 100 f32, kA X 33 100 (cut (k + 1) (q1F f33 f32 f15) f33)]) (st2 := []) rfl (congrArg (fun zq_ : Nat → Int32 => ([oLns X (nI ln), oRck X, kA X 15 100 f15, kA X 32 100 f32, kA X 33 100 zq_] : va_W)) (show (cut k (q1F f33 f32 f15) f33 : Nat → Int32) = cut (k + 1) (q1F f33 f32 f15) f33 from (cut_skip (by unfold q1F; rw [if_neg c_21, if_neg c_32])))) rfl ?_
            exact ih_2 (k + 1) (by omega) (by omega)
          · refine g_aload_n (pc' := 36) C dX6_findDebtQuarrels_35 0 rfl rfl rfl ?_
            refine g_get (pc' := 39) C hi_X6 1 5 rfl rfl (by decide) (List.mem_of_getElem? (i := 2) rfl) rfl dX6_findDebtQuarrels_36 rfl ?_
            refine g_iload_n (pc' := 40) C dX6_findDebtQuarrels_39 1 rfl rfl rfl ?_
            refine g_aload_n (pc' := 41) C dX6_findDebtQuarrels_40 0 rfl rfl rfl ?_
            refine g_get (pc' := 44) C hi_X6 1 1 rfl rfl (by decide) (List.mem_of_getElem? (i := 1) rfl) rfl dX6_findDebtQuarrels_41 rfl ?_
            refine g_getN (pc' := 47) C hi_X2 0 0 rfl rfl (by decide) (List.mem_of_getElem? (i := 14) rfl) rfl dX6_findDebtQuarrels_44 rfl ?_
            refine g_iload_n (pc' := 48) C dX6_findDebtQuarrels_47 1 rfl rfl rfl ?_
            refine g_iald (pc' := 49) C 2 k rfl rfl (by omega) (by decide) dX6_findDebtQuarrels_48 rfl ?_
            refine g_callS (pc' := 52) (st := [.int (nI k), .ref (xa X 33)]) (ws2 := [oLns X (nI ln), oRck X, kA X 15 100 f15, kA X 32 100 f32, kA X 33 100 (cut k (q1F f33 f32 f15) f33)]) C [.int (f15 k)] 1 rfl (c_X6_quarrelOfUnmatched l X (f15 k) ) [] [0, 1, 2, 3, 4] [0, 1, 2, 3, 4] gX6_findDebtQuarrels_X6_quarrelOfUnmatched rfl ⟨rfl, rfl⟩ (by decide +kernel) ⟨by decide, by decide⟩ ⟨by decide, by decide⟩ rfl (wr := [oLns X (nI ln), oRck X, kA X 15 100 f15, kA X 32 100 f32, kA X 33 100 (cut k (q1F f33 f32 f15) f33)]) rfl ⟨by decide, by decide, by decide, by decide⟩ rfl (Nat.le_of_ble_eq_true rfl) dX6_findDebtQuarrels_49 rfl rfl ?_
            skip
            refine g_iast (pc' := 53) (ws2 := [oLns X (nI ln), oRck X, kA X 15 100 f15, kA X 32 100 f32, kA X 33 100 (upd (cut k (q1F f33 f32 f15) f33) k (qun (f15 k)))]) C 4 k rfl rfl (by omega) (by decide) dX6_findDebtQuarrels_52 rfl rfl ?_
            refine g_iinc (pc' := 56) (v := nI (k + 1)) (lv' := [(1, .int (nI (k + 1))), (0, .ref (xa X 8))]) C dX6_findDebtQuarrels_53 1 rfl (nI_1 _) (by decide) rfl rfl ?_
            refine g_goto (tgt := 2) C dX6_findDebtQuarrels_56 (by decide) ?_
            refine g_lv (lv2 := [(0, .ref (xa X 8)), (1, .int (nI (k + 1)))]) [1, 0] rfl ?_
            refine g_eq (lv2 := [(0, .ref (xa X 8)), (1, .int (nI (k + 1)))]) (ws2 := [oLns X (nI ln), oRck X, kA X 15 100 f15, kA X 32 100 f32, kA X 33 100 (cut (k + 1) (q1F f33 f32 f15) f33)]) (st2 := []) rfl (congrArg (fun zq_ : Nat → Int32 => ([oLns X (nI ln), oRck X, kA X 15 100 f15, kA X 32 100 f32, kA X 33 100 zq_] : va_W)) (show (upd (cut k (q1F f33 f32 f15) f33) k (qun (f15 k)) : Nat → Int32) = cut (k + 1) (q1F f33 f32 f15) f33 from (cut_put (by unfold q1F; rw [if_neg c_21, if_pos c_32])))) rfl ?_
            exact ih_2 (k + 1) (by omega) (by omega)
  refine g_lv (lv2 := [(0, .ref (xa X 8)), (1, .int 0)]) [1, 0] rfl ?_
  refine g_eq (lv2 := [(0, .ref (xa X 8)), (1, .int 0)]) (ws2 := [oLns X (nI ln), oRck X, kA X 15 100 f15, kA X 32 100 f32, kA X 33 100 (cut 0 (q1F f33 f32 f15) f33)]) (st2 := []) rfl (congrArg (fun zq_ : Nat → Int32 => ([oLns X (nI ln), oRck X, kA X 15 100 f15, kA X 32 100 f32, kA X 33 100 zq_] : va_W)) (show (f33 : Nat → Int32) = cut 0 (q1F f33 f32 f15) f33 from (cut_0 _ _).symm)) rfl ?_
  exact lp_2 (ln - 0 + 1) 0 (Nat.zero_le _) (by omega)

set_option maxHeartbeats 1000000 in
set_option maxRecDepth 20000 in
theorem c_X6_tellLand (l : Launch) (X : gX) (f27 : Nat → Int32) (f34 : Nat → Int32) (f35 : Nat → Int32) (pl : Nat) (nm : Int32) (hs : Int32) (hp : pl < 12) : KC l yX6_tellLand wsX6_tellLand ⟨2, 0, 0, 42⟩ [.ref (xa X 8), .int (nI pl), .int nm, .int hs] X [oPlt X, oRck X, kA X 27 12 f27, kA X 34 12 f34, kA X 35 12 f35] (some (.int (lq (f27 pl) (f34 pl) nm (f35 pl) hs))) [oPlt X, oRck X, kA X 27 12 f27, kA X 34 12 (if lq (f27 pl) (f34 pl) nm (f35 pl) hs = 0 then upd f34 pl (f34 pl + nm) else f34), kA X 35 12 f35] := by
  have hi_X6 : ∀ w ∈ u_ws RX6 TX6 10, w ∈ wsX6_tellLand := fun w h => List.mem_cons_of_mem _ (List.mem_append_left _ (List.mem_append_right _ h))
  have hi_X4 : ∀ w ∈ u_ws RX4 TX4 2, w ∈ wsX6_tellLand := fun w h => List.mem_cons_of_mem _ (List.mem_append_right _ h)
  refine KC.of cX6_tellLand 4 (some .int) RX6 rfl (by decide) rfl (lv := [(0, .ref (xa X 8)), (1, .int (nI pl)), (2, .int nm), (3, .int hs)]) rfl (Nat.le_of_ble_eq_true rfl) ?_
  intro p e s m args below meth c A C hr
  refine g_iload_n (pc' := 1) C dX6_tellLand_0 1 rfl rfl rfl ?_
  refine g_callSN (pc' := 4) (st := []) (ws2 := [oPlt X, oRck X, kA X 27 12 f27, kA X 34 12 f34, kA X 35 12 f35]) C [.int (nI pl)] 1 rfl (c_X9_isPlot l X (nI pl) ) [] [0, 1, 2, 3, 4] [0, 1, 2, 3, 4] gX6_tellLand_X9_isPlot_n122 (List.mem_of_getElem? (i := 48) rfl) (List.mem_of_getElem? (i := 5) rfl) (List.mem_of_getElem? (i := 6) rfl) rfl ⟨rfl, rfl⟩ (by decide +kernel) ⟨by decide, by decide⟩ ⟨by decide, by decide⟩ rfl (wr := [oPlt X, oRck X, kA X 27 12 f27, kA X 34 12 f34, kA X 35 12 f35]) rfl ⟨by decide, by decide, by decide, by decide⟩ rfl (Nat.le_of_ble_eq_true rfl) dX6_tellLand_1 rfl rfl ?_
  by_cases b_1 : 0 ≤ (nI pl) ∧ (nI pl) ≤ 11
  · refine g_top (bz_t b_1) ?_
    refine g_if_eq (pc' := 7) (tgt := 19) C dX6_tellLand_4 (by decide) rfl (fun h => absurd h (by decide)) (fun _ => ?_)
    refine g_aload_n (pc' := 8) C dX6_tellLand_7 0 rfl rfl rfl ?_
    refine g_get (pc' := 11) C hi_X6 1 0 rfl rfl (by decide) (List.mem_of_getElem? (i := 1) rfl) rfl dX6_tellLand_8 rfl ?_
    refine g_getN (pc' := 14) C hi_X4 0 0 rfl rfl (by decide) (List.mem_of_getElem? (i := 4) rfl) rfl dX6_tellLand_11 rfl ?_
    refine g_iload_n (pc' := 15) C dX6_tellLand_14 1 rfl rfl rfl ?_
    refine g_iald (pc' := 16) C 2 pl rfl rfl (by omega) (by decide) dX6_tellLand_15 rfl ?_
    refine g_if_ne (pc' := 19) (tgt := 21) C dX6_tellLand_16 (by decide) rfl (fun c_16 => ?_) (fun c_16 => ?_)
    · refine g_aload_n (pc' := 22) C dX6_tellLand_21 0 rfl rfl rfl ?_
      refine g_get (pc' := 25) C hi_X6 1 6 rfl rfl (by decide) (List.mem_of_getElem? (i := 2) rfl) rfl dX6_tellLand_22 rfl ?_
      refine g_iload_n (pc' := 26) C dX6_tellLand_25 1 rfl rfl rfl ?_
      refine g_iald (pc' := 27) C 3 pl rfl rfl (by omega) (by decide) dX6_tellLand_26 rfl ?_
      refine g_iload_n (pc' := 28) C dX6_tellLand_27 2 rfl rfl rfl ?_
      refine g_iadd (pc' := 29) C dX6_tellLand_28 rfl ?_
      refine g_aload_n (pc' := 30) C dX6_tellLand_29 0 rfl rfl rfl ?_
      refine g_get (pc' := 33) C hi_X6 1 0 rfl rfl (by decide) (List.mem_of_getElem? (i := 1) rfl) rfl dX6_tellLand_30 rfl ?_
      refine g_getN (pc' := 36) C hi_X4 0 0 rfl rfl (by decide) (List.mem_of_getElem? (i := 4) rfl) rfl dX6_tellLand_33 rfl ?_
      refine g_iload_n (pc' := 37) C dX6_tellLand_36 1 rfl rfl rfl ?_
      refine g_iald (pc' := 38) C 2 pl rfl rfl (by omega) (by decide) dX6_tellLand_37 rfl ?_
      refine g_icmp_le (pc' := 41) (tgt := 43) C dX6_tellLand_38 (by decide) rfl (fun c_38 => ?_) (fun c_38 => ?_)
      · refine g_aload_n (pc' := 44) C dX6_tellLand_43 0 rfl rfl rfl ?_
        refine g_get (pc' := 47) C hi_X6 1 7 rfl rfl (by decide) (List.mem_of_getElem? (i := 3) rfl) rfl dX6_tellLand_44 rfl ?_
        refine g_iload_n (pc' := 48) C dX6_tellLand_47 1 rfl rfl rfl ?_
        refine g_iald (pc' := 49) C 4 pl rfl rfl (by omega) (by decide) dX6_tellLand_48 rfl ?_
        refine g_ldc (pc' := 51) (v := (-1000000005)) C (List.mem_of_getElem? (i := 4) rfl) dX6_tellLand_49 rfl ?_
        refine g_icmp_eq (pc' := 54) (tgt := 66) C dX6_tellLand_51 (by decide) rfl (fun c_51 => ?_) (fun c_51 => ?_)
        · refine g_aload_n (pc' := 67) C dX6_tellLand_66 0 rfl rfl rfl ?_
          refine g_get (pc' := 70) C hi_X6 1 6 rfl rfl (by decide) (List.mem_of_getElem? (i := 2) rfl) rfl dX6_tellLand_67 rfl ?_
          refine g_iload_n (pc' := 71) C dX6_tellLand_70 1 rfl rfl rfl ?_
          refine g_dup2 (pc' := 72) C dX6_tellLand_71 rfl rfl rfl ?_
          refine g_iald (pc' := 73) C 3 pl rfl rfl (by omega) (by decide) dX6_tellLand_72 rfl ?_
          refine g_iload_n (pc' := 74) C dX6_tellLand_73 2 rfl rfl rfl ?_
          refine g_iadd (pc' := 75) C dX6_tellLand_74 rfl ?_
          refine g_iast (pc' := 76) (ws2 := [oPlt X, oRck X, kA X 27 12 f27, kA X 34 12 (upd f34 pl ((f34 pl) + nm)), kA X 35 12 f35]) C 3 pl rfl rfl (by omega) (by decide) dX6_tellLand_75 rfl rfl ?_
          refine g_iconst (pc' := 77) (v := 0) C dX6_tellLand_76 rfl rfl ?_
          exact g_iret C hr dX6_tellLand_77 (by first | rfl | omega | (simp [lq, b_1, c_16, c_38, c_51]; done) | (simp [lq, b_1, c_16, c_38, c_51]; omega) | (simp [lq, b_1, c_16, c_38, c_51]; intros; exfalso; omega) | grind [lq]) (congrArg (fun zq_ : Nat → Int32 => ([oPlt X, oRck X, kA X 27 12 f27, kA X 34 12 zq_, kA X 35 12 f35] : va_W)) (show (upd f34 pl ((f34 pl) + nm) : Nat → Int32) = if lq (f27 pl) (f34 pl) nm (f35 pl) hs = 0 then upd f34 pl (f34 pl + nm) else f34 from (by first | rfl | omega | (simp [lq, b_1, c_16, c_38, c_51]; done) | (simp [lq, b_1, c_16, c_38, c_51]; omega) | (simp [lq, b_1, c_16, c_38, c_51]; intros; exfalso; omega) | grind [lq])))
        · refine g_aload_n (pc' := 55) C dX6_tellLand_54 0 rfl rfl rfl ?_
          refine g_get (pc' := 58) C hi_X6 1 7 rfl rfl (by decide) (List.mem_of_getElem? (i := 3) rfl) rfl dX6_tellLand_55 rfl ?_
          refine g_iload_n (pc' := 59) C dX6_tellLand_58 1 rfl rfl rfl ?_
          refine g_iald (pc' := 60) C 4 pl rfl rfl (by omega) (by decide) dX6_tellLand_59 rfl ?_
          refine g_iload_n (pc' := 61) C dX6_tellLand_60 3 rfl rfl rfl ?_
          refine g_icmp_eq (pc' := 64) (tgt := 66) C dX6_tellLand_61 (by decide) rfl (fun c_61 => ?_) (fun c_61 => ?_)
          · refine g_aload_n (pc' := 67) C dX6_tellLand_66 0 rfl rfl rfl ?_
            refine g_get (pc' := 70) C hi_X6 1 6 rfl rfl (by decide) (List.mem_of_getElem? (i := 2) rfl) rfl dX6_tellLand_67 rfl ?_
            refine g_iload_n (pc' := 71) C dX6_tellLand_70 1 rfl rfl rfl ?_
            refine g_dup2 (pc' := 72) C dX6_tellLand_71 rfl rfl rfl ?_
            refine g_iald (pc' := 73) C 3 pl rfl rfl (by omega) (by decide) dX6_tellLand_72 rfl ?_
            refine g_iload_n (pc' := 74) C dX6_tellLand_73 2 rfl rfl rfl ?_
            refine g_iadd (pc' := 75) C dX6_tellLand_74 rfl ?_
            refine g_iast (pc' := 76) (ws2 := [oPlt X, oRck X, kA X 27 12 f27, kA X 34 12 (upd f34 pl ((f34 pl) + nm)), kA X 35 12 f35]) C 3 pl rfl rfl (by omega) (by decide) dX6_tellLand_75 rfl rfl ?_
            refine g_iconst (pc' := 77) (v := 0) C dX6_tellLand_76 rfl rfl ?_
            exact g_iret C hr dX6_tellLand_77 (by first | rfl | omega | (simp [lq, b_1, c_16, c_38, c_51, c_61]; done) | (simp [lq, b_1, c_16, c_38, c_51, c_61]; omega) | (simp [lq, b_1, c_16, c_38, c_51, c_61]; intros; exfalso; omega) | grind [lq]) (congrArg (fun zq_ : Nat → Int32 => ([oPlt X, oRck X, kA X 27 12 f27, kA X 34 12 zq_, kA X 35 12 f35] : va_W)) (show (upd f34 pl ((f34 pl) + nm) : Nat → Int32) = if lq (f27 pl) (f34 pl) nm (f35 pl) hs = 0 then upd f34 pl (f34 pl + nm) else f34 from (by first | rfl | omega | (simp [lq, b_1, c_16, c_38, c_51, c_61]; done) | (simp [lq, b_1, c_16, c_38, c_51, c_61]; omega) | (simp [lq, b_1, c_16, c_38, c_51, c_61]; intros; exfalso; omega) | grind [lq])))
          · refine g_iconst (pc' := 65) (v := 3) C dX6_tellLand_64 rfl rfl ?_
            exact g_iret C hr dX6_tellLand_65 (by first | rfl | omega | (simp [lq, b_1, c_16, c_38, c_51, c_61]; done) | (simp [lq, b_1, c_16, c_38, c_51, c_61]; omega) | (simp [lq, b_1, c_16, c_38, c_51, c_61]; intros; exfalso; omega) | grind [lq]) (congrArg (fun zq_ : Nat → Int32 => ([oPlt X, oRck X, kA X 27 12 f27, kA X 34 12 zq_, kA X 35 12 f35] : va_W)) (show (f34 : Nat → Int32) = if lq (f27 pl) (f34 pl) nm (f35 pl) hs = 0 then upd f34 pl (f34 pl + nm) else f34 from (by first | rfl | omega | (simp [lq, b_1, c_16, c_38, c_51, c_61]; done) | (simp [lq, b_1, c_16, c_38, c_51, c_61]; omega) | (simp [lq, b_1, c_16, c_38, c_51, c_61]; intros; exfalso; omega) | grind [lq])))
      · refine g_iconst (pc' := 42) (v := 2) C dX6_tellLand_41 rfl rfl ?_
        exact g_iret C hr dX6_tellLand_42 (by first | rfl | omega | (simp [lq, b_1, c_16, c_38]; done) | (simp [lq, b_1, c_16, c_38]; omega) | (simp [lq, b_1, c_16, c_38]; intros; exfalso; omega) | grind [lq]) (congrArg (fun zq_ : Nat → Int32 => ([oPlt X, oRck X, kA X 27 12 f27, kA X 34 12 zq_, kA X 35 12 f35] : va_W)) (show (f34 : Nat → Int32) = if lq (f27 pl) (f34 pl) nm (f35 pl) hs = 0 then upd f34 pl (f34 pl + nm) else f34 from (by first | rfl | omega | (simp [lq, b_1, c_16, c_38]; done) | (simp [lq, b_1, c_16, c_38]; omega) | (simp [lq, b_1, c_16, c_38]; intros; exfalso; omega) | grind [lq])))
    · refine g_iconst (pc' := 20) (v := 1) C dX6_tellLand_19 rfl rfl ?_
      exact g_iret C hr dX6_tellLand_20 (by first | rfl | omega | (simp [lq, b_1, c_16]; done) | (simp [lq, b_1, c_16]; omega) | (simp [lq, b_1, c_16]; intros; exfalso; omega) | grind [lq]) (congrArg (fun zq_ : Nat → Int32 => ([oPlt X, oRck X, kA X 27 12 f27, kA X 34 12 zq_, kA X 35 12 f35] : va_W)) (show (f34 : Nat → Int32) = if lq (f27 pl) (f34 pl) nm (f35 pl) hs = 0 then upd f34 pl (f34 pl + nm) else f34 from (by first | rfl | omega | (simp [lq, b_1, c_16]; done) | (simp [lq, b_1, c_16]; omega) | (simp [lq, b_1, c_16]; intros; exfalso; omega) | grind [lq])))
  · exact absurd ⟨nI_pos' (by omega), (nI_leI (a := pl) (b := 11) (by omega) (by decide)).mpr (by omega)⟩ b_1

set_option maxHeartbeats 1000000 in
set_option maxRecDepth 20000 in
theorem c_X6_findLandQuarrels (l : Launch) (X : gX) (ln : Nat) (f15 : Nat → Int32) (f16 : Nat → Int32) (f19 : Nat → Int32) (f20 : Nat → Int32) (f27 : Nat → Int32) (f33 : Nat → Int32) (f34 : Nat → Int32) (f35 : Nat → Int32) (hn : ln ≤ 100) (hLd : ∀ i, i < ln → f15 i = 1 → okN (f19 i) 12) : KC l yX6_findLandQuarrels wsX6_findLandQuarrels ⟨3, 0, 0, 65⟩ [.ref (xa X 8)] X [oPlt X, oLns X (nI ln), oRck X, kA X 15 100 f15, kA X 16 100 f16, kA X 19 100 f19, kA X 20 100 f20, kA X 27 12 f27, kA X 33 100 f33, kA X 34 12 f34, kA X 35 12 f35] none [oPlt X, oLns X (nI ln), oRck X, kA X 15 100 f15, kA X 16 100 f16, kA X 19 100 f19, kA X 20 100 f20, kA X 27 12 f27, kA X 33 100 (cut ln (q2F f33 f15 f16 f19 f20 f27 f35) f33), kA X 34 12 (usC f33 f15 f16 f19 f20 f27 f35 ln), kA X 35 12 f35] := by
  have hi_X6 : ∀ w ∈ u_ws RX6 TX6 10, w ∈ wsX6_findLandQuarrels := fun w h => List.mem_cons_of_mem _ (List.mem_append_left _ (List.mem_append_left _ (List.mem_append_right _ h)))
  have hi_X2 : ∀ w ∈ u_ws RX2 TX2 9, w ∈ wsX6_findLandQuarrels := fun w h => List.mem_cons_of_mem _ (List.mem_append_left _ (List.mem_append_right _ h))
  have hi_X4 : ∀ w ∈ u_ws RX4 TX4 2, w ∈ wsX6_findLandQuarrels := fun w h => List.mem_cons_of_mem _ (List.mem_append_right _ h)
  refine KC.of cX6_findLandQuarrels 2 none RX6 rfl (by decide) rfl (lv := [(0, .ref (xa X 8))]) rfl (Nat.le_of_ble_eq_true rfl) ?_
  intro p e s m args below meth c A C hr
  refine g_aload_n (pc' := 1) C dX6_findLandQuarrels_0 0 rfl rfl rfl ?_
  refine g_get (pc' := 4) C hi_X6 2 6 rfl rfl (by decide) (List.mem_of_getElem? (i := 1) rfl) rfl dX6_findLandQuarrels_1 rfl ?_
  refine g_iconst (pc' := 5) (v := 0) C dX6_findLandQuarrels_4 rfl rfl ?_
  refine g_callS (pc' := 8) (st := []) (ws2 := [oPlt X, oLns X (nI ln), oRck X, kA X 15 100 f15, kA X 16 100 f16, kA X 19 100 f19, kA X 20 100 f20, kA X 27 12 f27, kA X 33 100 f33, kA X 34 12 (fun _ => 0), kA X 35 12 f35]) C [.ref (xa X 34), .int 0] 2 rfl (c_J7_fill_53178 l X (xa X 34) 12 f34 0 (by decide)) [9] [0, 1, 2, 3, 4, 5, 6, 7, 8, 10] [0, 1, 2, 3, 4, 5, 6, 7, 8, 10, 9] gX6_findLandQuarrels_J7_fill_53178 rfl ⟨rfl, rfl⟩ (by decide +kernel) ⟨by decide, by decide⟩ ⟨by decide, by decide⟩ rfl (wr := [oPlt X, oLns X (nI ln), oRck X, kA X 15 100 f15, kA X 16 100 f16, kA X 19 100 f19, kA X 20 100 f20, kA X 27 12 f27, kA X 33 100 f33, kA X 35 12 f35]) rfl ⟨by decide, by decide, by decide, by decide⟩ rfl (Nat.le_of_ble_eq_true rfl) dX6_findLandQuarrels_5 rfl rfl ?_
  refine g_iconst (pc' := 9) (v := 0) C dX6_findLandQuarrels_8 rfl rfl ?_
  refine g_istore_n (pc' := 10) (lv' := [(1, .int 0), (0, .ref (xa X 8))]) C dX6_findLandQuarrels_9 rfl (by decide) rfl rfl ?_
  have lp_10 : ∀ (n_10 : Nat) (k : Nat) (hk : k ≤ ln) (hm_10 : ln - k < n_10), gG p l e ⟨3, 0, 0, 65⟩ s m args below meth c X A 2 0 0 (MQ below (QA X A none [oPlt X, oLns X (nI ln), oRck X, kA X 15 100 f15, kA X 16 100 f16, kA X 19 100 f19, kA X 20 100 f20, kA X 27 12 f27, kA X 33 100 (cut ln (q2F f33 f15 f16 f19 f20 f27 f35) f33), kA X 34 12 (usC f33 f15 f16 f19 f20 f27 f35 ln), kA X 35 12 f35]) args s 0 0 A) [(0, .ref (xa X 8)), (1, .int (nI k))] [oPlt X, oLns X (nI ln), oRck X, kA X 15 100 f15, kA X 16 100 f16, kA X 19 100 f19, kA X 20 100 f20, kA X 27 12 f27, kA X 33 100 (cut k (q2F f33 f15 f16 f19 f20 f27 f35) f33), kA X 34 12 (usC f33 f15 f16 f19 f20 f27 f35 k), kA X 35 12 f35] 10 [] := by
    intro n_10
    induction n_10 with
    | zero => intro k hk hm_10; exact absurd hm_10 (Nat.not_lt_zero _)
    | succ n_10 ih_10 =>
      intro k hk hm_10
      refine g_iload_n (pc' := 11) C dX6_findLandQuarrels_10 1 rfl rfl rfl ?_
      refine g_aload_n (pc' := 12) C dX6_findLandQuarrels_11 0 rfl rfl rfl ?_
      refine g_get (pc' := 15) C hi_X6 2 1 rfl rfl (by decide) (List.mem_of_getElem? (i := 2) rfl) rfl dX6_findLandQuarrels_12 rfl ?_
      refine g_getN (pc' := 18) C hi_X2 1 8 rfl rfl (by decide) (List.mem_of_getElem? (i := 26) rfl) rfl dX6_findLandQuarrels_15 rfl ?_
      refine g_icmp_geN (pc' := 21) (tgt := 88) C k ln rfl rfl (by omega) (by omega) dX6_findLandQuarrels_18 (by decide) rfl (fun c_18 => ?_) (fun c_18 => ?_)
      · exact g_vret C hr dX6_findLandQuarrels_88 ((congrArg (fun zq_ : Nat → Int32 => ([oPlt X, oLns X (nI ln), oRck X, kA X 15 100 f15, kA X 16 100 f16, kA X 19 100 f19, kA X 20 100 f20, kA X 27 12 f27, kA X 33 100 zq_, kA X 34 12 (usC f33 f15 f16 f19 f20 f27 f35 k), kA X 35 12 f35] : va_W)) (show (cut k (q2F f33 f15 f16 f19 f20 f27 f35) f33 : Nat → Int32) = cut ln (q2F f33 f15 f16 f19 f20 f27 f35) f33 from (by rw [show k = ln by omega]))).trans (congrArg (fun zq_ : Nat → Int32 => ([oPlt X, oLns X (nI ln), oRck X, kA X 15 100 f15, kA X 16 100 f16, kA X 19 100 f19, kA X 20 100 f20, kA X 27 12 f27, kA X 33 100 (cut ln (q2F f33 f15 f16 f19 f20 f27 f35) f33), kA X 34 12 zq_, kA X 35 12 f35] : va_W)) (show (usC f33 f15 f16 f19 f20 f27 f35 k : Nat → Int32) = usC f33 f15 f16 f19 f20 f27 f35 ln from (by rw [show k = ln by omega]))))
      · refine g_aload_n (pc' := 22) C dX6_findLandQuarrels_21 0 rfl rfl rfl ?_
        refine g_get (pc' := 25) C hi_X6 2 5 rfl rfl (by decide) (List.mem_of_getElem? (i := 3) rfl) rfl dX6_findLandQuarrels_22 rfl ?_
        refine g_iload_n (pc' := 26) C dX6_findLandQuarrels_25 1 rfl rfl rfl ?_
        refine g_iald (pc' := 27) C 8 k rfl rfl (by omega) (by decide) dX6_findLandQuarrels_26 rfl ?_
        refine g_top (y := f33 k) cut_at ?_
        refine g_ldc (pc' := 29) (v := (-1000000005)) C (List.mem_of_getElem? (i := 4) rfl) dX6_findLandQuarrels_27 rfl ?_
        refine g_icmp_eq (pc' := 32) (tgt := 82) C dX6_findLandQuarrels_29 (by decide) rfl (fun c_29 => ?_) (fun c_29 => ?_)
        · refine g_iinc (pc' := 85) (v := nI (k + 1)) (lv' := [(1, .int (nI (k + 1))), (0, .ref (xa X 8))]) C dX6_findLandQuarrels_82 1 rfl (nI_1 _) (by decide) rfl rfl ?_
          refine g_goto (tgt := 10) C dX6_findLandQuarrels_85 (by decide) ?_
          refine g_lv (lv2 := [(0, .ref (xa X 8)), (1, .int (nI (k + 1)))]) [1, 0] rfl ?_
          refine g_eq (lv2 := [(0, .ref (xa X 8)), (1, .int (nI (k + 1)))]) (ws2 := [oPlt X, oLns X (nI ln), oRck X, kA X 15 100 f15, kA X 16 100 f16, kA X 19 100 f19, kA X 20 100 f20, kA X 27 12 f27, kA X 33 100 (cut (k + 1) (q2F f33 f15 f16 f19 f20 f27 f35) f33), kA X 34 12 (usC f33 f15 f16 f19 f20 f27 f35 (k + 1)), kA X 35 12 f35]) (st2 := []) rfl ((congrArg (fun zq_ : Nat → Int32 => ([oPlt X, oLns X (nI ln), oRck X, kA X 15 100 f15, kA X 16 100 f16, kA X 19 100 f19, kA X 20 100 f20, kA X 27 12 f27, kA X 33 100 zq_, kA X 34 12 (usC f33 f15 f16 f19 f20 f27 f35 k), kA X 35 12 f35] : va_W)) (show (cut k (q2F f33 f15 f16 f19 f20 f27 f35) f33 : Nat → Int32) = cut (k + 1) (q2F f33 f15 f16 f19 f20 f27 f35) f33 from (cut_skip (by unfold q2F; rw [if_neg (fun z => z.1 c_29)])))).trans (congrArg (fun zq_ : Nat → Int32 => ([oPlt X, oLns X (nI ln), oRck X, kA X 15 100 f15, kA X 16 100 f16, kA X 19 100 f19, kA X 20 100 f20, kA X 27 12 f27, kA X 33 100 (cut (k + 1) (q2F f33 f15 f16 f19 f20 f27 f35) f33), kA X 34 12 zq_, kA X 35 12 f35] : va_W)) (show (usC f33 f15 f16 f19 f20 f27 f35 k : Nat → Int32) = usC f33 f15 f16 f19 f20 f27 f35 (k + 1) from (by rw [usC, if_neg (fun z => z.1 c_29)])))) rfl ?_
          exact ih_10 (k + 1) (by omega) (by omega)
        · refine g_aload_n (pc' := 33) C dX6_findLandQuarrels_32 0 rfl rfl rfl ?_
          refine g_get (pc' := 36) C hi_X6 2 1 rfl rfl (by decide) (List.mem_of_getElem? (i := 2) rfl) rfl dX6_findLandQuarrels_33 rfl ?_
          refine g_getN (pc' := 39) C hi_X2 1 0 rfl rfl (by decide) (List.mem_of_getElem? (i := 14) rfl) rfl dX6_findLandQuarrels_36 rfl ?_
          refine g_iload_n (pc' := 40) C dX6_findLandQuarrels_39 1 rfl rfl rfl ?_
          refine g_iald (pc' := 41) C 3 k rfl rfl (by omega) (by decide) dX6_findLandQuarrels_40 rfl ?_
          refine g_iconst (pc' := 42) (v := 1) C dX6_findLandQuarrels_41 rfl rfl ?_
          refine g_icmp_ne (pc' := 45) (tgt := 82) C dX6_findLandQuarrels_42 (by decide) rfl (fun c_42 => ?_) (fun c_42 => ?_)
          · refine g_iinc (pc' := 85) (v := nI (k + 1)) (lv' := [(1, .int (nI (k + 1))), (0, .ref (xa X 8))]) C dX6_findLandQuarrels_82 1 rfl (nI_1 _) (by decide) rfl rfl ?_
            refine g_goto (tgt := 10) C dX6_findLandQuarrels_85 (by decide) ?_
            refine g_lv (lv2 := [(0, .ref (xa X 8)), (1, .int (nI (k + 1)))]) [1, 0] rfl ?_
            refine g_eq (lv2 := [(0, .ref (xa X 8)), (1, .int (nI (k + 1)))]) (ws2 := [oPlt X, oLns X (nI ln), oRck X, kA X 15 100 f15, kA X 16 100 f16, kA X 19 100 f19, kA X 20 100 f20, kA X 27 12 f27, kA X 33 100 (cut (k + 1) (q2F f33 f15 f16 f19 f20 f27 f35) f33), kA X 34 12 (usC f33 f15 f16 f19 f20 f27 f35 (k + 1)), kA X 35 12 f35]) (st2 := []) rfl ((congrArg (fun zq_ : Nat → Int32 => ([oPlt X, oLns X (nI ln), oRck X, kA X 15 100 f15, kA X 16 100 f16, kA X 19 100 f19, kA X 20 100 f20, kA X 27 12 f27, kA X 33 100 zq_, kA X 34 12 (usC f33 f15 f16 f19 f20 f27 f35 k), kA X 35 12 f35] : va_W)) (show (cut k (q2F f33 f15 f16 f19 f20 f27 f35) f33 : Nat → Int32) = cut (k + 1) (q2F f33 f15 f16 f19 f20 f27 f35) f33 from (cut_skip (by unfold q2F; rw [if_neg (fun z => c_42 z.2)])))).trans (congrArg (fun zq_ : Nat → Int32 => ([oPlt X, oLns X (nI ln), oRck X, kA X 15 100 f15, kA X 16 100 f16, kA X 19 100 f19, kA X 20 100 f20, kA X 27 12 f27, kA X 33 100 (cut (k + 1) (q2F f33 f15 f16 f19 f20 f27 f35) f33), kA X 34 12 zq_, kA X 35 12 f35] : va_W)) (show (usC f33 f15 f16 f19 f20 f27 f35 k : Nat → Int32) = usC f33 f15 f16 f19 f20 f27 f35 (k + 1) from (by rw [usC, if_neg (fun z => c_42 z.2.1)])))) rfl ?_
            exact ih_10 (k + 1) (by omega) (by omega)
          · refine g_aload_n (pc' := 46) C dX6_findLandQuarrels_45 0 rfl rfl rfl ?_
            refine g_get (pc' := 49) C hi_X6 2 5 rfl rfl (by decide) (List.mem_of_getElem? (i := 3) rfl) rfl dX6_findLandQuarrels_46 rfl ?_
            refine g_iload_n (pc' := 50) C dX6_findLandQuarrels_49 1 rfl rfl rfl ?_
            refine g_aload_n (pc' := 51) C dX6_findLandQuarrels_50 0 rfl rfl rfl ?_
            refine g_aload_n (pc' := 52) C dX6_findLandQuarrels_51 0 rfl rfl rfl ?_
            refine g_get (pc' := 55) C hi_X6 2 1 rfl rfl (by decide) (List.mem_of_getElem? (i := 2) rfl) rfl dX6_findLandQuarrels_52 rfl ?_
            refine g_getN (pc' := 58) C hi_X2 1 4 rfl rfl (by decide) (List.mem_of_getElem? (i := 22) rfl) rfl dX6_findLandQuarrels_55 rfl ?_
            refine g_iload_n (pc' := 59) C dX6_findLandQuarrels_58 1 rfl rfl rfl ?_
            have okk := hLd k (by omega) c_42
            have okk2 := okk.2
            refine g_iald (pc' := 60) C 5 k rfl rfl (by omega) (by decide) dX6_findLandQuarrels_59 rfl ?_
            refine g_top (y := nI (cN (f19 k))) okk.1 ?_
            refine g_aload_n (pc' := 61) C dX6_findLandQuarrels_60 0 rfl rfl rfl ?_
            refine g_get (pc' := 64) C hi_X6 2 1 rfl rfl (by decide) (List.mem_of_getElem? (i := 2) rfl) rfl dX6_findLandQuarrels_61 rfl ?_
            refine g_getN (pc' := 67) C hi_X2 1 5 rfl rfl (by decide) (List.mem_of_getElem? (i := 24) rfl) rfl dX6_findLandQuarrels_64 rfl ?_
            refine g_iload_n (pc' := 68) C dX6_findLandQuarrels_67 1 rfl rfl rfl ?_
            refine g_iald (pc' := 69) C 6 k rfl rfl (by omega) (by decide) dX6_findLandQuarrels_68 rfl ?_
            refine g_aload_n (pc' := 70) C dX6_findLandQuarrels_69 0 rfl rfl rfl ?_
            refine g_get (pc' := 73) C hi_X6 2 1 rfl rfl (by decide) (List.mem_of_getElem? (i := 2) rfl) rfl dX6_findLandQuarrels_70 rfl ?_
            refine g_getN (pc' := 76) C hi_X2 1 1 rfl rfl (by decide) (List.mem_of_getElem? (i := 17) rfl) rfl dX6_findLandQuarrels_73 rfl ?_
            refine g_iload_n (pc' := 77) C dX6_findLandQuarrels_76 1 rfl rfl rfl ?_
            refine g_iald (pc' := 78) C 4 k rfl rfl (by omega) (by decide) dX6_findLandQuarrels_77 rfl ?_
            refine g_callV (pc' := 81) (st := [.int (nI k), .ref (xa X 33)]) (ws2 := [oPlt X, oLns X (nI ln), oRck X, kA X 15 100 f15, kA X 16 100 f16, kA X 19 100 f19, kA X 20 100 f20, kA X 27 12 f27, kA X 33 100 (cut k (q2F f33 f15 f16 f19 f20 f27 f35) f33), kA X 34 12 (if lq (f27 (cN (f19 k))) ((usC f33 f15 f16 f19 f20 f27 f35 k) (cN (f19 k))) (f20 k) (f35 (cN (f19 k))) (f16 k) = 0 then upd (usC f33 f15 f16 f19 f20 f27 f35 k) (cN (f19 k)) ((usC f33 f15 f16 f19 f20 f27 f35 k) (cN (f19 k)) + (f20 k)) else (usC f33 f15 f16 f19 f20 f27 f35 k)), kA X 35 12 f35]) C [.int (nI (cN (f19 k))), .int (f20 k), .int (f16 k)] 3 rfl (c_X6_tellLand l X f27 (usC f33 f15 f16 f19 f20 f27 f35 k) f35 (cN (f19 k)) (f20 k) (f16 k) (by first | assumption | omega)) [0, 2, 7, 9, 10] [1, 3, 4, 5, 6, 8] [6, 0, 7, 1, 2, 3, 4, 8, 5, 9, 10] gX6_findLandQuarrels_X6_tellLand 2 rfl rfl rfl ⟨rfl, rfl⟩ (by decide +kernel) ⟨by decide, by decide⟩ ⟨by decide, by decide⟩ rfl (wr := [oLns X (nI ln), kA X 15 100 f15, kA X 16 100 f16, kA X 19 100 f19, kA X 20 100 f20, kA X 33 100 (cut k (q2F f33 f15 f16 f19 f20 f27 f35) f33)]) rfl ⟨by decide, by decide, by decide, by decide⟩ rfl (Nat.le_of_ble_eq_true rfl) dX6_findLandQuarrels_78 rfl rfl ?_
            skip
            refine g_iast (pc' := 82) (ws2 := [oPlt X, oLns X (nI ln), oRck X, kA X 15 100 f15, kA X 16 100 f16, kA X 19 100 f19, kA X 20 100 f20, kA X 27 12 f27, kA X 33 100 (upd (cut k (q2F f33 f15 f16 f19 f20 f27 f35) f33) k (lq (f27 (cN (f19 k))) ((usC f33 f15 f16 f19 f20 f27 f35 k) (cN (f19 k))) (f20 k) (f35 (cN (f19 k))) (f16 k))), kA X 34 12 (if lq (f27 (cN (f19 k))) ((usC f33 f15 f16 f19 f20 f27 f35 k) (cN (f19 k))) (f20 k) (f35 (cN (f19 k))) (f16 k) = 0 then upd (usC f33 f15 f16 f19 f20 f27 f35 k) (cN (f19 k)) ((usC f33 f15 f16 f19 f20 f27 f35 k) (cN (f19 k)) + (f20 k)) else (usC f33 f15 f16 f19 f20 f27 f35 k)), kA X 35 12 f35]) C 8 k rfl rfl (by omega) (by decide) dX6_findLandQuarrels_81 rfl rfl ?_
            refine g_iinc (pc' := 85) (v := nI (k + 1)) (lv' := [(1, .int (nI (k + 1))), (0, .ref (xa X 8))]) C dX6_findLandQuarrels_82 1 rfl (nI_1 _) (by decide) rfl rfl ?_
            refine g_goto (tgt := 10) C dX6_findLandQuarrels_85 (by decide) ?_
            refine g_lv (lv2 := [(0, .ref (xa X 8)), (1, .int (nI (k + 1)))]) [1, 0] rfl ?_
            refine g_eq (lv2 := [(0, .ref (xa X 8)), (1, .int (nI (k + 1)))]) (ws2 := [oPlt X, oLns X (nI ln), oRck X, kA X 15 100 f15, kA X 16 100 f16, kA X 19 100 f19, kA X 20 100 f20, kA X 27 12 f27, kA X 33 100 (cut (k + 1) (q2F f33 f15 f16 f19 f20 f27 f35) f33), kA X 34 12 (usC f33 f15 f16 f19 f20 f27 f35 (k + 1)), kA X 35 12 f35]) (st2 := []) rfl ((congrArg (fun zq_ : Nat → Int32 => ([oPlt X, oLns X (nI ln), oRck X, kA X 15 100 f15, kA X 16 100 f16, kA X 19 100 f19, kA X 20 100 f20, kA X 27 12 f27, kA X 33 100 zq_, kA X 34 12 (if lq (f27 (cN (f19 k))) ((usC f33 f15 f16 f19 f20 f27 f35 k) (cN (f19 k))) (f20 k) (f35 (cN (f19 k))) (f16 k) = 0 then upd (usC f33 f15 f16 f19 f20 f27 f35 k) (cN (f19 k)) ((usC f33 f15 f16 f19 f20 f27 f35 k) (cN (f19 k)) + (f20 k)) else (usC f33 f15 f16 f19 f20 f27 f35 k)), kA X 35 12 f35] : va_W)) (show (upd (cut k (q2F f33 f15 f16 f19 f20 f27 f35) f33) k (lq (f27 (cN (f19 k))) ((usC f33 f15 f16 f19 f20 f27 f35 k) (cN (f19 k))) (f20 k) (f35 (cN (f19 k))) (f16 k)) : Nat → Int32) = cut (k + 1) (q2F f33 f15 f16 f19 f20 f27 f35) f33 from (cut_put (by unfold q2F; rw [if_pos ⟨c_29, c_42⟩])))).trans (congrArg (fun zq_ : Nat → Int32 => ([oPlt X, oLns X (nI ln), oRck X, kA X 15 100 f15, kA X 16 100 f16, kA X 19 100 f19, kA X 20 100 f20, kA X 27 12 f27, kA X 33 100 (cut (k + 1) (q2F f33 f15 f16 f19 f20 f27 f35) f33), kA X 34 12 zq_, kA X 35 12 f35] : va_W)) (show (if lq (f27 (cN (f19 k))) ((usC f33 f15 f16 f19 f20 f27 f35 k) (cN (f19 k))) (f20 k) (f35 (cN (f19 k))) (f16 k) = 0 then upd (usC f33 f15 f16 f19 f20 f27 f35 k) (cN (f19 k)) ((usC f33 f15 f16 f19 f20 f27 f35 k) (cN (f19 k)) + (f20 k)) else (usC f33 f15 f16 f19 f20 f27 f35 k) : Nat → Int32) = usC f33 f15 f16 f19 f20 f27 f35 (k + 1) from (by rw [usC]; simp [c_29, c_42])))) rfl ?_
            exact ih_10 (k + 1) (by omega) (by omega)
  refine g_lv (lv2 := [(0, .ref (xa X 8)), (1, .int 0)]) [1, 0] rfl ?_
  refine g_eq (lv2 := [(0, .ref (xa X 8)), (1, .int 0)]) (ws2 := [oPlt X, oLns X (nI ln), oRck X, kA X 15 100 f15, kA X 16 100 f16, kA X 19 100 f19, kA X 20 100 f20, kA X 27 12 f27, kA X 33 100 (cut 0 (q2F f33 f15 f16 f19 f20 f27 f35) f33), kA X 34 12 (usC f33 f15 f16 f19 f20 f27 f35 0), kA X 35 12 f35]) (st2 := []) rfl ((congrArg (fun zq_ : Nat → Int32 => ([oPlt X, oLns X (nI ln), oRck X, kA X 15 100 f15, kA X 16 100 f16, kA X 19 100 f19, kA X 20 100 f20, kA X 27 12 f27, kA X 33 100 zq_, kA X 34 12 (fun _ => 0), kA X 35 12 f35] : va_W)) (show (f33 : Nat → Int32) = cut 0 (q2F f33 f15 f16 f19 f20 f27 f35) f33 from (cut_0 _ _).symm)).trans (congrArg (fun zq_ : Nat → Int32 => ([oPlt X, oLns X (nI ln), oRck X, kA X 15 100 f15, kA X 16 100 f16, kA X 19 100 f19, kA X 20 100 f20, kA X 27 12 f27, kA X 33 100 (cut 0 (q2F f33 f15 f16 f19 f20 f27 f35) f33), kA X 34 12 zq_, kA X 35 12 f35] : va_W)) (show (fun _ => 0 : Nat → Int32) = usC f33 f15 f16 f19 f20 f27 f35 0 from rfl))) rfl ?_
  exact lp_10 (ln - 0 + 1) 0 (Nat.zero_le _) (by omega)

set_option maxHeartbeats 1000000 in
set_option maxRecDepth 20000 in
theorem c_X6_valueOfLine (l : Launch) (X : gX) (ln : Nat) (f15 : Nat → Int32) (f19 : Nat → Int32) (f20 : Nat → Int32) (f28 : Nat → Int32) (f36 : Nat → Int32) (k : Nat) (hk : k < 100) (hLd : f15 k = 1 → okN (f19 k) 12) (hC : ∀ p, p < 12 → okN (f28 p) 3) : KC l yX6_valueOfLine wsX6_valueOfLine ⟨2, 0, 0, 42⟩ [.ref (xa X 8), .int (nI k)] X [oPlt X, oLns X (nI ln), oRck X, kA X 15 100 f15, kA X 19 100 f19, kA X 20 100 f20, kA X 28 12 f28, kA X 36 6 f36] (some (.int (vlF f15 f20 f19 f28 f36 k))) [oPlt X, oLns X (nI ln), oRck X, kA X 15 100 f15, kA X 19 100 f19, kA X 20 100 f20, kA X 28 12 f28, kA X 36 6 f36] := by
  have hi_X6 : ∀ w ∈ u_ws RX6 TX6 10, w ∈ wsX6_valueOfLine := fun w h => List.mem_cons_of_mem _ (List.mem_append_left _ (List.mem_append_left _ (List.mem_append_right _ h)))
  have hi_X2 : ∀ w ∈ u_ws RX2 TX2 9, w ∈ wsX6_valueOfLine := fun w h => List.mem_cons_of_mem _ (List.mem_append_left _ (List.mem_append_right _ h))
  have hi_X4 : ∀ w ∈ u_ws RX4 TX4 2, w ∈ wsX6_valueOfLine := fun w h => List.mem_cons_of_mem _ (List.mem_append_right _ h)
  refine KC.of cX6_valueOfLine 4 (some .int) RX6 rfl (by decide) rfl (lv := [(0, .ref (xa X 8)), (1, .int (nI k))]) rfl (Nat.le_of_ble_eq_true rfl) ?_
  intro p e s m args below meth c A C hr
  refine g_aload_n (pc' := 1) C dX6_valueOfLine_0 0 rfl rfl rfl ?_
  refine g_get (pc' := 4) C hi_X6 2 1 rfl rfl (by decide) (List.mem_of_getElem? (i := 1) rfl) rfl dX6_valueOfLine_1 rfl ?_
  refine g_getN (pc' := 7) C hi_X2 1 5 rfl rfl (by decide) (List.mem_of_getElem? (i := 24) rfl) rfl dX6_valueOfLine_4 rfl ?_
  refine g_iload_n (pc' := 8) C dX6_valueOfLine_7 1 rfl rfl rfl ?_
  refine g_iald (pc' := 9) C 5 k rfl rfl (by omega) (by decide) dX6_valueOfLine_8 rfl ?_
  refine g_istore_n (pc' := 10) (lv' := [(2, .int (f20 k)), (0, .ref (xa X 8)), (1, .int (nI k))]) C dX6_valueOfLine_9 rfl (by decide) rfl rfl ?_
  refine g_aload_n (pc' := 11) C dX6_valueOfLine_10 1 rfl rfl rfl ?_
  refine g_get (pc' := 14) C hi_X6 2 1 rfl rfl (by decide) (List.mem_of_getElem? (i := 1) rfl) rfl dX6_valueOfLine_11 rfl ?_
  refine g_getN (pc' := 17) C hi_X2 1 4 rfl rfl (by decide) (List.mem_of_getElem? (i := 22) rfl) rfl dX6_valueOfLine_14 rfl ?_
  refine g_iload_n (pc' := 18) C dX6_valueOfLine_17 2 rfl rfl rfl ?_
  refine g_iald (pc' := 19) C 4 k rfl rfl (by omega) (by decide) dX6_valueOfLine_18 rfl ?_
  refine g_istore_n (pc' := 20) (lv' := [(3, .int (f19 k)), (2, .int (f20 k)), (0, .ref (xa X 8)), (1, .int (nI k))]) C dX6_valueOfLine_19 rfl (by decide) rfl rfl ?_
  refine g_aload_n (pc' := 21) C dX6_valueOfLine_20 2 rfl rfl rfl ?_
  refine g_get (pc' := 24) C hi_X6 2 1 rfl rfl (by decide) (List.mem_of_getElem? (i := 1) rfl) rfl dX6_valueOfLine_21 rfl ?_
  refine g_getN (pc' := 27) C hi_X2 1 0 rfl rfl (by decide) (List.mem_of_getElem? (i := 14) rfl) rfl dX6_valueOfLine_24 rfl ?_
  refine g_iload_n (pc' := 28) C dX6_valueOfLine_27 3 rfl rfl rfl ?_
  refine g_iald (pc' := 29) C 3 k rfl rfl (by omega) (by decide) dX6_valueOfLine_28 rfl ?_
  by_cases s_29_1 : (f15 k) = 1
  · refine g_top s_29_1 ?_
    refine g_tableIn (off := 35) (tgt := 64) C dX6_valueOfLine_29 (by decide) (by decide) (by decide) (by decide) ?_
    refine g_iload_n (pc' := 65) C dX6_valueOfLine_64 0 rfl rfl rfl ?_
    have ok1 := hLd s_29_1
    have ok2 := ok1.2
    have ok3 := hC _ ok2
    have ok4 := ok3.2
    refine g_top (y := nI (cN (f19 k))) ok1.1 ?_
    refine g_callSN (pc' := 68) (st := []) (ws2 := [oPlt X, oLns X (nI ln), oRck X, kA X 15 100 f15, kA X 19 100 f19, kA X 20 100 f20, kA X 28 12 f28, kA X 36 6 f36]) C [.int (nI (cN (f19 k)))] 1 rfl (c_X9_isPlot l X (nI (cN (f19 k))) ) [] [0, 1, 2, 3, 4, 5, 6, 7] [0, 1, 2, 3, 4, 5, 6, 7] gX6_valueOfLine_X9_isPlot_n122 (List.mem_of_getElem? (i := 48) rfl) (List.mem_of_getElem? (i := 4) rfl) (List.mem_of_getElem? (i := 5) rfl) rfl ⟨rfl, rfl⟩ (by decide +kernel) ⟨by decide, by decide⟩ ⟨by decide, by decide⟩ rfl (wr := [oPlt X, oLns X (nI ln), oRck X, kA X 15 100 f15, kA X 19 100 f19, kA X 20 100 f20, kA X 28 12 f28, kA X 36 6 f36]) rfl ⟨by decide, by decide, by decide, by decide⟩ rfl (Nat.le_of_ble_eq_true rfl) dX6_valueOfLine_65 rfl rfl ?_
    by_cases b_65 : 0 ≤ (nI (cN (f19 k))) ∧ (nI (cN (f19 k))) ≤ 11
    · refine g_top (bz_t b_65) ?_
      refine g_if_eq (pc' := 71) (tgt := 90) C dX6_valueOfLine_68 (by decide) rfl (fun h => absurd h (by decide)) (fun _ => ?_)
      refine g_iload_n (pc' := 72) C dX6_valueOfLine_71 1 rfl rfl rfl ?_
      refine g_aload_n (pc' := 73) C dX6_valueOfLine_72 2 rfl rfl rfl ?_
      refine g_get (pc' := 76) C hi_X6 2 8 rfl rfl (by decide) (List.mem_of_getElem? (i := 2) rfl) rfl dX6_valueOfLine_73 rfl ?_
      refine g_aload_n (pc' := 77) C dX6_valueOfLine_76 2 rfl rfl rfl ?_
      refine g_get (pc' := 80) C hi_X6 2 0 rfl rfl (by decide) (List.mem_of_getElem? (i := 3) rfl) rfl dX6_valueOfLine_77 rfl ?_
      refine g_getN (pc' := 83) C hi_X4 0 1 rfl rfl (by decide) (List.mem_of_getElem? (i := 6) rfl) rfl dX6_valueOfLine_80 rfl ?_
      refine g_iload_n (pc' := 84) C dX6_valueOfLine_83 0 rfl rfl rfl ?_
      refine g_iald (pc' := 85) C 6 (cN (f19 k)) rfl ok1.1 (by omega) (by decide) dX6_valueOfLine_84 rfl ?_
      refine g_top (y := nI (cN (f28 (cN (f19 k))))) ok3.1 ?_
      refine g_iald (pc' := 86) C 7 (cN (f28 (cN (f19 k)))) rfl rfl (by omega) (by decide) dX6_valueOfLine_85 rfl ?_
      refine g_imul (pc' := 87) C dX6_valueOfLine_86 rfl ?_
      refine g_goto (tgt := 91) C dX6_valueOfLine_87 (by decide) ?_
      exact g_iret C hr dX6_valueOfLine_91 (by first | rfl | omega | (simp [vlF, s_29_1, b_65]; done) | (simp [vlF, s_29_1, b_65]; omega) | (simp [vlF, s_29_1, b_65]; intros; exfalso; omega) | grind [vlF]) rfl
    · exact absurd ⟨nI_pos' (by omega), (nI_leI (a := cN (f19 k)) (b := 11) (by omega) (by decide)).mpr (by omega)⟩ b_65
  · skip
    by_cases s_29_2 : (f15 k) = 2
    · refine g_top s_29_2 ?_
      refine g_tableIn (off := 92) (tgt := 121) C dX6_valueOfLine_29 (by decide) (by decide) (by decide) (by decide) ?_
      refine g_iload_n (pc' := 122) C dX6_valueOfLine_121 1 rfl rfl rfl ?_
      exact g_iret C hr dX6_valueOfLine_122 (by first | rfl | omega | (simp [vlF, s_29_1, s_29_2]; done) | (simp [vlF, s_29_1, s_29_2]; omega) | (simp [vlF, s_29_1, s_29_2]; intros; exfalso; omega) | grind [vlF]) rfl
    · skip
      by_cases s_29_3 : (f15 k) = 3
      · refine g_top s_29_3 ?_
        refine g_tableIn (off := 63) (tgt := 92) C dX6_valueOfLine_29 (by decide) (by decide) (by decide) (by decide) ?_
        refine g_iload_n (pc' := 93) C dX6_valueOfLine_92 1 rfl rfl rfl ?_
        refine g_ineg (pc' := 94) C dX6_valueOfLine_93 rfl ?_
        refine g_aload_n (pc' := 95) C dX6_valueOfLine_94 2 rfl rfl rfl ?_
        refine g_get (pc' := 98) C hi_X6 2 8 rfl rfl (by decide) (List.mem_of_getElem? (i := 2) rfl) rfl dX6_valueOfLine_95 rfl ?_
        refine g_iconst (pc' := 99) (v := 3) C dX6_valueOfLine_98 rfl rfl ?_
        refine g_iald (pc' := 100) C 7 3 rfl rfl (by omega) (by decide) dX6_valueOfLine_99 rfl ?_
        refine g_imul (pc' := 101) C dX6_valueOfLine_100 rfl ?_
        exact g_iret C hr dX6_valueOfLine_101 (by first | rfl | omega | (simp [vlF, s_29_1, s_29_2, s_29_3]; done) | (simp [vlF, s_29_1, s_29_2, s_29_3]; omega) | (simp [vlF, s_29_1, s_29_2, s_29_3]; intros; exfalso; omega) | grind [vlF]) rfl
      · skip
        by_cases s_29_4 : (f15 k) = 4
        · refine g_top s_29_4 ?_
          refine g_tableIn (off := 73) (tgt := 102) C dX6_valueOfLine_29 (by decide) (by decide) (by decide) (by decide) ?_
          refine g_iload_n (pc' := 103) C dX6_valueOfLine_102 1 rfl rfl rfl ?_
          refine g_ineg (pc' := 104) C dX6_valueOfLine_103 rfl ?_
          refine g_aload_n (pc' := 105) C dX6_valueOfLine_104 2 rfl rfl rfl ?_
          refine g_get (pc' := 108) C hi_X6 2 8 rfl rfl (by decide) (List.mem_of_getElem? (i := 2) rfl) rfl dX6_valueOfLine_105 rfl ?_
          refine g_iconst (pc' := 109) (v := 4) C dX6_valueOfLine_108 rfl rfl ?_
          refine g_iald (pc' := 110) C 7 4 rfl rfl (by omega) (by decide) dX6_valueOfLine_109 rfl ?_
          refine g_imul (pc' := 111) C dX6_valueOfLine_110 rfl ?_
          exact g_iret C hr dX6_valueOfLine_111 (by first | rfl | omega | (simp [vlF, s_29_1, s_29_2, s_29_3, s_29_4]; done) | (simp [vlF, s_29_1, s_29_2, s_29_3, s_29_4]; omega) | (simp [vlF, s_29_1, s_29_2, s_29_3, s_29_4]; intros; exfalso; omega) | grind [vlF]) rfl
        · skip
          by_cases s_29_5 : (f15 k) = 5
          · refine g_top s_29_5 ?_
            refine g_tableIn (off := 83) (tgt := 112) C dX6_valueOfLine_29 (by decide) (by decide) (by decide) (by decide) ?_
            refine g_iload_n (pc' := 113) C dX6_valueOfLine_112 1 rfl rfl rfl ?_
            refine g_aload_n (pc' := 114) C dX6_valueOfLine_113 2 rfl rfl rfl ?_
            refine g_get (pc' := 117) C hi_X6 2 8 rfl rfl (by decide) (List.mem_of_getElem? (i := 2) rfl) rfl dX6_valueOfLine_114 rfl ?_
            refine g_iconst (pc' := 118) (v := 4) C dX6_valueOfLine_117 rfl rfl ?_
            refine g_iald (pc' := 119) C 7 4 rfl rfl (by omega) (by decide) dX6_valueOfLine_118 rfl ?_
            refine g_imul (pc' := 120) C dX6_valueOfLine_119 rfl ?_
            exact g_iret C hr dX6_valueOfLine_120 (by first | rfl | omega | (simp [vlF, s_29_1, s_29_2, s_29_3, s_29_4, s_29_5]; done) | (simp [vlF, s_29_1, s_29_2, s_29_3, s_29_4, s_29_5]; omega) | (simp [vlF, s_29_1, s_29_2, s_29_3, s_29_4, s_29_5]; intros; exfalso; omega) | grind [vlF]) rfl
          · skip
            refine g_tableOut (tgt := 121) C dX6_valueOfLine_29 (by have q0 : (f15 k).toInt ≠ 1 := fun z => s_29_1 (Int32.toInt_inj.mp z); have q1 : (f15 k).toInt ≠ 2 := fun z => s_29_2 (Int32.toInt_inj.mp z); have q2 : (f15 k).toInt ≠ 3 := fun z => s_29_3 (Int32.toInt_inj.mp z); have q3 : (f15 k).toInt ≠ 4 := fun z => s_29_4 (Int32.toInt_inj.mp z); have q4 : (f15 k).toInt ≠ 5 := fun z => s_29_5 (Int32.toInt_inj.mp z); omega) (by decide) ?_
            refine g_iload_n (pc' := 122) C dX6_valueOfLine_121 1 rfl rfl rfl ?_
            exact g_iret C hr dX6_valueOfLine_122 (by first | rfl | omega | (simp [vlF, s_29_1, s_29_2, s_29_3, s_29_4, s_29_5]; done) | (simp [vlF, s_29_1, s_29_2, s_29_3, s_29_4, s_29_5]; omega) | (simp [vlF, s_29_1, s_29_2, s_29_3, s_29_4, s_29_5]; intros; exfalso; omega) | grind [vlF]) rfl

set_option maxHeartbeats 1000000 in
set_option maxRecDepth 20000 in
theorem c_X6_sumWorths (l : Launch) (X : gX) (ln : Nat) (f15 : Nat → Int32) (f16 : Nat → Int32) (f19 : Nat → Int32) (f20 : Nat → Int32) (f28 : Nat → Int32) (f33 : Nat → Int32) (f36 : Nat → Int32) (f37 : Nat → Int32) (hn : ln ≤ 100) (hLd : ∀ i, i < ln → f15 i = 1 → okN (f19 i) 12) (hH : ∀ i, i < ln → okN (f16 i) 10) (hC : ∀ p, p < 12 → okN (f28 p) 3) : KC l yX6_sumWorths wsX6_sumWorths ⟨3, 0, 0, 65⟩ [.ref (xa X 8)] X [oPlt X, oLns X (nI ln), oRck X, kA X 15 100 f15, kA X 16 100 f16, kA X 19 100 f19, kA X 20 100 f20, kA X 28 12 f28, kA X 33 100 f33, kA X 36 6 f36, kA X 37 10 f37] none [oPlt X, oLns X (nI ln), oRck X, kA X 15 100 f15, kA X 16 100 f16, kA X 19 100 f19, kA X 20 100 f20, kA X 28 12 f28, kA X 33 100 f33, kA X 36 6 f36, kA X 37 10 (woF f33 f15 f16 f19 f20 f28 f36 ln)] := by
  have hi_X6 : ∀ w ∈ u_ws RX6 TX6 10, w ∈ wsX6_sumWorths := fun w h => List.mem_cons_of_mem _ (List.mem_append_left _ (List.mem_append_left _ (List.mem_append_right _ h)))
  have hi_X2 : ∀ w ∈ u_ws RX2 TX2 9, w ∈ wsX6_sumWorths := fun w h => List.mem_cons_of_mem _ (List.mem_append_left _ (List.mem_append_right _ h))
  have hi_X4 : ∀ w ∈ u_ws RX4 TX4 2, w ∈ wsX6_sumWorths := fun w h => List.mem_cons_of_mem _ (List.mem_append_right _ h)
  refine KC.of cX6_sumWorths 2 none RX6 rfl (by decide) rfl (lv := [(0, .ref (xa X 8))]) rfl (Nat.le_of_ble_eq_true rfl) ?_
  intro p e s m args below meth c A C hr
  refine g_aload_n (pc' := 1) C dX6_sumWorths_0 0 rfl rfl rfl ?_
  refine g_get (pc' := 4) C hi_X6 2 9 rfl rfl (by decide) (List.mem_of_getElem? (i := 1) rfl) rfl dX6_sumWorths_1 rfl ?_
  refine g_iconst (pc' := 5) (v := 0) C dX6_sumWorths_4 rfl rfl ?_
  refine g_callS (pc' := 8) (st := []) (ws2 := [oPlt X, oLns X (nI ln), oRck X, kA X 15 100 f15, kA X 16 100 f16, kA X 19 100 f19, kA X 20 100 f20, kA X 28 12 f28, kA X 33 100 f33, kA X 36 6 f36, kA X 37 10 (fun _ => 0)]) C [.ref (xa X 37), .int 0] 2 rfl (c_J7_fill_53178 l X (xa X 37) 10 f37 0 (by decide)) [10] [0, 1, 2, 3, 4, 5, 6, 7, 8, 9] [0, 1, 2, 3, 4, 5, 6, 7, 8, 9, 10] gX6_sumWorths_J7_fill_53178 rfl ⟨rfl, rfl⟩ (by decide +kernel) ⟨by decide, by decide⟩ ⟨by decide, by decide⟩ rfl (wr := [oPlt X, oLns X (nI ln), oRck X, kA X 15 100 f15, kA X 16 100 f16, kA X 19 100 f19, kA X 20 100 f20, kA X 28 12 f28, kA X 33 100 f33, kA X 36 6 f36]) rfl ⟨by decide, by decide, by decide, by decide⟩ rfl (Nat.le_of_ble_eq_true rfl) dX6_sumWorths_5 rfl rfl ?_
  refine g_iconst (pc' := 9) (v := 0) C dX6_sumWorths_8 rfl rfl ?_
  refine g_istore_n (pc' := 10) (lv' := [(1, .int 0), (0, .ref (xa X 8))]) C dX6_sumWorths_9 rfl (by decide) rfl rfl ?_
  have lp_10 : ∀ (n_10 : Nat) (k : Nat) (g : Nat → Int32) (hk : k ≤ ln) (hg : ∀ h, h < 10 → g h = wsF f33 f15 f16 f19 f20 f28 f36 h k) (hm_10 : ln - k < n_10), gG p l e ⟨3, 0, 0, 65⟩ s m args below meth c X A 2 0 0 (MQ below (QA X A none [oPlt X, oLns X (nI ln), oRck X, kA X 15 100 f15, kA X 16 100 f16, kA X 19 100 f19, kA X 20 100 f20, kA X 28 12 f28, kA X 33 100 f33, kA X 36 6 f36, kA X 37 10 (woF f33 f15 f16 f19 f20 f28 f36 ln)]) args s 0 0 A) [(0, .ref (xa X 8)), (1, .int (nI k))] [oPlt X, oLns X (nI ln), oRck X, kA X 15 100 f15, kA X 16 100 f16, kA X 19 100 f19, kA X 20 100 f20, kA X 28 12 f28, kA X 33 100 f33, kA X 36 6 f36, kA X 37 10 g] 10 [] := by
    intro n_10
    induction n_10 with
    | zero => intro k g hk hg hm_10; exact absurd hm_10 (Nat.not_lt_zero _)
    | succ n_10 ih_10 =>
      intro k g hk hg hm_10
      refine g_iload_n (pc' := 11) C dX6_sumWorths_10 1 rfl rfl rfl ?_
      refine g_aload_n (pc' := 12) C dX6_sumWorths_11 0 rfl rfl rfl ?_
      refine g_get (pc' := 15) C hi_X6 2 1 rfl rfl (by decide) (List.mem_of_getElem? (i := 2) rfl) rfl dX6_sumWorths_12 rfl ?_
      refine g_getN (pc' := 18) C hi_X2 1 8 rfl rfl (by decide) (List.mem_of_getElem? (i := 26) rfl) rfl dX6_sumWorths_15 rfl ?_
      refine g_icmp_geN (pc' := 21) (tgt := 58) C k ln rfl rfl (by omega) (by omega) dX6_sumWorths_18 (by decide) rfl (fun c_18 => ?_) (fun c_18 => ?_)
      · refine g_iconst (pc' := 59) (v := 0) C dX6_sumWorths_58 rfl rfl ?_
        refine g_istore_n (pc' := 60) (lv' := [(1, .int 0), (0, .ref (xa X 8))]) C dX6_sumWorths_59 rfl (by decide) rfl rfl ?_
        have lp_60 : ∀ (n_60 : Nat) (j : Nat) (g2 : Nat → Int32) (hj : j ≤ 10) (hg2 : ∀ h, h < 10 → g2 h = if h < j then woF f33 f15 f16 f19 f20 f28 f36 ln h else wsF f33 f15 f16 f19 f20 f28 f36 h ln) (hm_60 : 10 - j < n_60), gG p l e ⟨3, 0, 0, 65⟩ s m args below meth c X A 2 0 0 (MQ below (QA X A none [oPlt X, oLns X (nI ln), oRck X, kA X 15 100 f15, kA X 16 100 f16, kA X 19 100 f19, kA X 20 100 f20, kA X 28 12 f28, kA X 33 100 f33, kA X 36 6 f36, kA X 37 10 (woF f33 f15 f16 f19 f20 f28 f36 ln)]) args s 0 0 A) [(0, .ref (xa X 8)), (1, .int (nI j))] [oPlt X, oLns X (nI ln), oRck X, kA X 15 100 f15, kA X 16 100 f16, kA X 19 100 f19, kA X 20 100 f20, kA X 28 12 f28, kA X 33 100 f33, kA X 36 6 f36, kA X 37 10 g2] 60 [] := by
          intro n_60
          induction n_60 with
          | zero => intro j g2 hj hg2 hm_60; exact absurd hm_60 (Nat.not_lt_zero _)
          | succ n_60 ih_60 =>
            intro j g2 hj hg2 hm_60
            refine g_iload_n (pc' := 61) C dX6_sumWorths_60 1 rfl rfl rfl ?_
            refine g_bipush (pc' := 63) (v := 10) C dX6_sumWorths_61 (by decide) rfl ?_
            refine g_icmp_geN (pc' := 66) (tgt := 88) C j 10 rfl rfl (by omega) (by omega) dX6_sumWorths_63 (by decide) rfl (fun c_63 => ?_) (fun c_63 => ?_)
            · refine g_ext (ws2 := [oPlt X, oLns X (nI ln), oRck X, kA X 15 100 f15, kA X 16 100 f16, kA X 19 100 f19, kA X 20 100 f20, kA X 28 12 f28, kA X 33 100 f33, kA X 36 6 f36, kA X 37 10 (woF f33 f15 f16 f19 f20 f28 f36 ln)]) (woF f33 f15 f16 f19 f20 f28 f36 ln) 10 rfl (fun h hh => by rw [hg2 h hh, if_pos (by omega)]) rfl ?_
              exact g_vret C hr dX6_sumWorths_88 rfl
            · refine g_aload_n (pc' := 67) C dX6_sumWorths_66 0 rfl rfl rfl ?_
              refine g_get (pc' := 70) C hi_X6 2 9 rfl rfl (by decide) (List.mem_of_getElem? (i := 1) rfl) rfl dX6_sumWorths_67 rfl ?_
              refine g_iload_n (pc' := 71) C dX6_sumWorths_70 1 rfl rfl rfl ?_
              refine g_aload_n (pc' := 72) C dX6_sumWorths_71 0 rfl rfl rfl ?_
              refine g_get (pc' := 75) C hi_X6 2 9 rfl rfl (by decide) (List.mem_of_getElem? (i := 1) rfl) rfl dX6_sumWorths_72 rfl ?_
              refine g_iload_n (pc' := 76) C dX6_sumWorths_75 1 rfl rfl rfl ?_
              refine g_iald (pc' := 77) C 10 j rfl rfl (by omega) (by decide) dX6_sumWorths_76 rfl ?_
              refine g_iconst (pc' := 78) (v := 0) C dX6_sumWorths_77 rfl rfl ?_
              refine g_mmax (pc' := 81) C (List.mem_of_getElem? (i := 4) rfl) (List.mem_of_getElem? (i := 5) rfl) (List.mem_of_getElem? (i := 6) rfl) (List.mem_of_getElem? (i := 7) rfl) (by decide) (Nat.le_of_ble_eq_true rfl) (by decide) (by decide) dX6_sumWorths_78 rfl ?_
              refine g_iast (pc' := 82) (ws2 := [oPlt X, oLns X (nI ln), oRck X, kA X 15 100 f15, kA X 16 100 f16, kA X 19 100 f19, kA X 20 100 f20, kA X 28 12 f28, kA X 33 100 f33, kA X 36 6 f36, kA X 37 10 (upd g2 j (if (g2 j) < 0 then 0 else (g2 j)))]) C 10 j rfl rfl (by omega) (by decide) dX6_sumWorths_81 rfl rfl ?_
              refine g_iinc (pc' := 85) (v := nI (j + 1)) (lv' := [(1, .int (nI (j + 1))), (0, .ref (xa X 8))]) C dX6_sumWorths_82 1 rfl (nI_1 _) (by decide) rfl rfl ?_
              refine g_goto (tgt := 60) C dX6_sumWorths_85 (by decide) ?_
              refine g_lv (lv2 := [(0, .ref (xa X 8)), (1, .int (nI (j + 1)))]) [1, 0] rfl ?_
              refine g_eq (lv2 := [(0, .ref (xa X 8)), (1, .int (nI (j + 1)))]) (ws2 := [oPlt X, oLns X (nI ln), oRck X, kA X 15 100 f15, kA X 16 100 f16, kA X 19 100 f19, kA X 20 100 f20, kA X 28 12 f28, kA X 33 100 f33, kA X 36 6 f36, kA X 37 10 (upd g2 j (if (g2 j) < 0 then 0 else (g2 j)))]) (st2 := []) rfl (congrArg (fun zq_ : Nat → Int32 => ([oPlt X, oLns X (nI ln), oRck X, kA X 15 100 f15, kA X 16 100 f16, kA X 19 100 f19, kA X 20 100 f20, kA X 28 12 f28, kA X 33 100 f33, kA X 36 6 f36, kA X 37 10 zq_] : va_W)) (show (upd g2 j (if (g2 j) < 0 then 0 else (g2 j)) : Nat → Int32) = (upd g2 j (if (g2 j) < 0 then 0 else (g2 j))) from (by first | rfl | omega | (simp [c_18, c_63]; done) | (simp [c_18, c_63]; omega) | (simp [c_18, c_63]; intros; exfalso; omega) | grind []))) rfl ?_
              exact ih_60 (j + 1) (upd g2 j (if (g2 j) < 0 then 0 else (g2 j))) (by omega) (max_put hg2 (by omega) rfl) (by omega)
        refine g_lv (lv2 := [(0, .ref (xa X 8)), (1, .int 0)]) [1, 0] rfl ?_
        exact lp_60 (10 - 0 + 1) 0 g (Nat.zero_le _) (fun h hh => by rw [if_neg (Nat.not_lt_zero _), hg h hh, show k = ln by omega]) (by omega)
      · refine g_aload_n (pc' := 22) C dX6_sumWorths_21 0 rfl rfl rfl ?_
        refine g_get (pc' := 25) C hi_X6 2 5 rfl rfl (by decide) (List.mem_of_getElem? (i := 3) rfl) rfl dX6_sumWorths_22 rfl ?_
        refine g_iload_n (pc' := 26) C dX6_sumWorths_25 1 rfl rfl rfl ?_
        refine g_iald (pc' := 27) C 8 k rfl rfl (by omega) (by decide) dX6_sumWorths_26 rfl ?_
        refine g_if_ne (pc' := 30) (tgt := 52) C dX6_sumWorths_27 (by decide) rfl (fun c_27 => ?_) (fun c_27 => ?_)
        · refine g_iinc (pc' := 55) (v := nI (k + 1)) (lv' := [(1, .int (nI (k + 1))), (0, .ref (xa X 8))]) C dX6_sumWorths_52 1 rfl (nI_1 _) (by decide) rfl rfl ?_
          refine g_goto (tgt := 10) C dX6_sumWorths_55 (by decide) ?_
          refine g_lv (lv2 := [(0, .ref (xa X 8)), (1, .int (nI (k + 1)))]) [1, 0] rfl ?_
          exact ih_10 (k + 1) g (by omega) (wsF_no hg c_27) (by omega)
        · refine g_aload_n (pc' := 31) C dX6_sumWorths_30 0 rfl rfl rfl ?_
          refine g_get (pc' := 34) C hi_X6 2 9 rfl rfl (by decide) (List.mem_of_getElem? (i := 1) rfl) rfl dX6_sumWorths_31 rfl ?_
          refine g_aload_n (pc' := 35) C dX6_sumWorths_34 0 rfl rfl rfl ?_
          refine g_get (pc' := 38) C hi_X6 2 1 rfl rfl (by decide) (List.mem_of_getElem? (i := 2) rfl) rfl dX6_sumWorths_35 rfl ?_
          refine g_getN (pc' := 41) C hi_X2 1 1 rfl rfl (by decide) (List.mem_of_getElem? (i := 17) rfl) rfl dX6_sumWorths_38 rfl ?_
          refine g_iload_n (pc' := 42) C dX6_sumWorths_41 1 rfl rfl rfl ?_
          have okk := hH k (by omega)
          have okk2 := okk.2
          refine g_iald (pc' := 43) C 4 k rfl rfl (by omega) (by decide) dX6_sumWorths_42 rfl ?_
          refine g_top (y := nI (cN (f16 k))) okk.1 ?_
          refine g_dup2 (pc' := 44) C dX6_sumWorths_43 rfl rfl rfl ?_
          refine g_iald (pc' := 45) C 10 (cN (f16 k)) rfl rfl (by omega) (by decide) dX6_sumWorths_44 rfl ?_
          refine g_aload_n (pc' := 46) C dX6_sumWorths_45 0 rfl rfl rfl ?_
          refine g_iload_n (pc' := 47) C dX6_sumWorths_46 1 rfl rfl rfl ?_
          refine g_callV (pc' := 50) (st := [.int (g (cN (f16 k))), .int (nI (cN (f16 k))), .ref (xa X 37)]) (ws2 := [oPlt X, oLns X (nI ln), oRck X, kA X 15 100 f15, kA X 16 100 f16, kA X 19 100 f19, kA X 20 100 f20, kA X 28 12 f28, kA X 33 100 f33, kA X 36 6 f36, kA X 37 10 g]) C [.int (nI k)] 1 rfl (c_X6_valueOfLine l X ln f15 f19 f20 f28 f36 k (by first | assumption | omega) (hLd k (by omega)) hC) [0, 1, 2, 3, 5, 6, 7, 9] [4, 8, 10] [3, 4, 5, 6, 0, 7, 8, 9, 1, 10, 2] gX6_sumWorths_X6_valueOfLine 2 rfl rfl rfl ⟨rfl, rfl⟩ (by decide +kernel) ⟨by decide, by decide⟩ ⟨by decide, by decide⟩ rfl (wr := [kA X 16 100 f16, kA X 33 100 f33, kA X 37 10 g]) rfl ⟨by decide, by decide, by decide, by decide⟩ rfl (Nat.le_of_ble_eq_true rfl) dX6_sumWorths_47 rfl rfl ?_
          refine g_iadd (pc' := 51) C dX6_sumWorths_50 rfl ?_
          refine g_iast (pc' := 52) (ws2 := [oPlt X, oLns X (nI ln), oRck X, kA X 15 100 f15, kA X 16 100 f16, kA X 19 100 f19, kA X 20 100 f20, kA X 28 12 f28, kA X 33 100 f33, kA X 36 6 f36, kA X 37 10 (upd g (cN (f16 k)) ((g (cN (f16 k))) + (vlF f15 f20 f19 f28 f36 k)))]) C 10 (cN (f16 k)) rfl rfl (by omega) (by decide) dX6_sumWorths_51 rfl rfl ?_
          refine g_iinc (pc' := 55) (v := nI (k + 1)) (lv' := [(1, .int (nI (k + 1))), (0, .ref (xa X 8))]) C dX6_sumWorths_52 1 rfl (nI_1 _) (by decide) rfl rfl ?_
          refine g_goto (tgt := 10) C dX6_sumWorths_55 (by decide) ?_
          refine g_lv (lv2 := [(0, .ref (xa X 8)), (1, .int (nI (k + 1)))]) [1, 0] rfl ?_
          refine g_eq (lv2 := [(0, .ref (xa X 8)), (1, .int (nI (k + 1)))]) (ws2 := [oPlt X, oLns X (nI ln), oRck X, kA X 15 100 f15, kA X 16 100 f16, kA X 19 100 f19, kA X 20 100 f20, kA X 28 12 f28, kA X 33 100 f33, kA X 36 6 f36, kA X 37 10 (upd g (cN (f16 k)) ((g (cN (f16 k))) + (vlF f15 f20 f19 f28 f36 k)))]) (st2 := []) rfl (congrArg (fun zq_ : Nat → Int32 => ([oPlt X, oLns X (nI ln), oRck X, kA X 15 100 f15, kA X 16 100 f16, kA X 19 100 f19, kA X 20 100 f20, kA X 28 12 f28, kA X 33 100 f33, kA X 36 6 f36, kA X 37 10 zq_] : va_W)) (show (upd g (cN (f16 k)) ((g (cN (f16 k))) + (vlF f15 f20 f19 f28 f36 k)) : Nat → Int32) = (upd g (cN (f16 k)) ((g (cN (f16 k))) + (vlF f15 f20 f19 f28 f36 k))) from (by first | rfl | omega | (simp [c_18, c_27]; done) | (simp [c_18, c_27]; omega) | (simp [c_18, c_27]; intros; exfalso; omega) | grind []))) rfl ?_
          exact ih_10 (k + 1) (upd g (cN (f16 k)) ((g (cN (f16 k))) + (vlF f15 f20 f19 f28 f36 k))) (by omega) (wsF_put hg okk c_27) (by omega)
  refine g_lv (lv2 := [(0, .ref (xa X 8)), (1, .int 0)]) [1, 0] rfl ?_
  refine g_eq (lv2 := [(0, .ref (xa X 8)), (1, .int 0)]) (ws2 := [oPlt X, oLns X (nI ln), oRck X, kA X 15 100 f15, kA X 16 100 f16, kA X 19 100 f19, kA X 20 100 f20, kA X 28 12 f28, kA X 33 100 f33, kA X 36 6 f36, kA X 37 10 (fun _ => 0)]) (st2 := []) rfl (congrArg (fun zq_ : Nat → Int32 => ([oPlt X, oLns X (nI ln), oRck X, kA X 15 100 f15, kA X 16 100 f16, kA X 19 100 f19, kA X 20 100 f20, kA X 28 12 f28, kA X 33 100 f33, kA X 36 6 f36, kA X 37 10 zq_] : va_W)) (show (fun _ => 0 : Nat → Int32) = (fun _ => 0) from (by first | rfl | omega | (simp []; done) | (simp []; omega) | (simp []; intros; exfalso; omega) | grind []))) rfl ?_
  exact lp_10 (ln - 0 + 1) 0 (fun _ => 0) (Nat.zero_le _) (fun _ _ => rfl) (by omega)

