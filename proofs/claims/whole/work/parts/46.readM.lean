theorem nx_add {t : Nat → Int32} {n p : Nat} (h : p ≤ n) : nxS t n p + (nxE t n p - nxS t n p) = nxE t n p := by have := nxE_b (t := t) h; omega
theorem nx_emp {t : Nat → Int32} {n p : Nat} (h : p ≤ n) (z : nxE t n p - nxS t n p = 0) : nxS t n p = n ∧ nxE t n p = n := by
  have h1 := nxS_b (t := t) h
  have h2 := skW_b (t := t) (n - nxS t n p) (nxS t n p) h1.2
  have h3 := nxE_b (t := t) h
  have : nxS t n p = n := by
    unfold nxE at z
    split at z
    · omega
    · rename_i c; omega
  omega
theorem nx_lt {t : Nat → Int32} {n p : Nat} (h : p ≤ n) (z : ¬ nxE t n p - nxS t n p = 0) : nxS t n p < n := by have := nxE_b (t := t) h; omega
theorem nx_com {t : Nat → Int32} {n p : Nat} (h : p ≤ n) (hl : nxS t n p < n) (z : ¬ (nxE t n p - nxS t n p = 1 ∧ t (nxS t n p) = 44)) : ¬ t (nxS t n p) = 44 := by
  intro q
  apply z
  refine ⟨?_, q⟩
  unfold nxE
  rw [if_pos ⟨skW_at (Or.inr (fun z => z.2 q)), hl⟩]; omega
def kdN (t : Nat → Int32) (s e : Nat) : Int32 := if kdX t s e = (-1) then 0 else kdX t s e
theorem kdX_cases (t : Nat → Int32) (s e : Nat) : kdX t s e = 1 ∨ kdX t s e = 2 ∨ kdX t s e = 3 ∨ kdX t s e = 4 ∨ kdX t s e = 5 ∨ kdX t s e = (-1) := by
  unfold kdX
  repeat' split
  all_goals decide
theorem kdN_0 {t : Nat → Int32} {s e : Nat} (h : kdN t s e = 0) : kdX t s e = (-1) := by
  unfold kdN at h
  by_cases c : kdX t s e = (-1)
  · exact c
  · rw [if_neg c] at h
    rcases kdX_cases t s e with q | q | q | q | q | q <;> rw [q] at h <;> first | exact q | exact absurd h (by decide)
theorem kdN_n {t : Nat → Int32} {s e : Nat} (h : ¬ kdN t s e = 0) : ¬ kdX t s e = (-1) := fun z => h (by rw [kdN, if_pos z])
theorem kdN_e {t : Nat → Int32} {s e : Nat} (h : ¬ kdN t s e = 0) : kdN t s e = kdX t s e := by rw [kdN, if_neg (kdN_n h)]
theorem kdX_emp {t : Nat → Int32} {s e : Nat} (h : e - s = 0) : kdX t s e = (-1) := Decidable.byContradiction (fun z => by have := (kdX_len z).1; omega)
theorem wm5 {t : Nat → Int32} {s g i : Nat} (hi : i < 5) : wmB t s (s + g) i = true ↔ g = (if jch i 4 = 0 then 4 else 5) ∧ t s = jch i 0 ∧ t (s + 1) = jch i 1 ∧ t (s + 2) = jch i 2 ∧ t (s + 3) = jch i 3 ∧ (jch i 4 = 0 ∨ t (s + 4) = jch i 4) := by
  rw [wmB_iff, show s + g - s = g by omega]
  have h9 : i = 0 ∨ i = 1 ∨ i = 2 ∨ i = 3 ∨ i = 4 := by omega
  have f4 : ∀ P : Nat → Prop, (∀ j, j < 4 → P j) ↔ P 0 ∧ P 1 ∧ P 2 ∧ P 3 := fun P => ⟨fun h => ⟨h 0 (by decide), h 1 (by decide), h 2 (by decide), h 3 (by decide)⟩, fun h j hj => by
    have : j = 0 ∨ j = 1 ∨ j = 2 ∨ j = 3 := by omega
    rcases this with q | q | q | q <;> subst q
    · exact h.1
    · exact h.2.1
    · exact h.2.2.1
    · exact h.2.2.2⟩
  have f5 : ∀ P : Nat → Prop, (∀ j, j < 5 → P j) ↔ P 0 ∧ P 1 ∧ P 2 ∧ P 3 ∧ P 4 := fun P => ⟨fun h => ⟨h 0 (by decide), h 1 (by decide), h 2 (by decide), h 3 (by decide), h 4 (by decide)⟩, fun h j hj => by
    have : j = 0 ∨ j = 1 ∨ j = 2 ∨ j = 3 ∨ j = 4 := by omega
    rcases this with q | q | q | q | q <;> subst q
    · exact h.1
    · exact h.2.1
    · exact h.2.2.1
    · exact h.2.2.2.1
    · exact h.2.2.2.2⟩
  rcases h9 with e9 | e9 | e9 | e9 | e9 <;> subst e9
  · rw [show jsL.getD 0 0 = 4 from rfl, f4, if_pos (by decide)]
    exact ⟨fun h => ⟨h.1, h.2.1, h.2.2.1, h.2.2.2.1, h.2.2.2.2, Or.inl (by decide)⟩, fun h => ⟨h.1, h.2.1, h.2.2.1, h.2.2.2.1, h.2.2.2.2.1⟩⟩
  · rw [show jsL.getD 1 0 = 5 from rfl, f5, if_neg (by decide)]
    exact ⟨fun h => ⟨h.1, h.2.1, h.2.2.1, h.2.2.2.1, h.2.2.2.2.1, Or.inr h.2.2.2.2.2⟩, fun h => ⟨h.1, h.2.1, h.2.2.1, h.2.2.2.1, h.2.2.2.2.1, h.2.2.2.2.2.resolve_left (by decide)⟩⟩
  · rw [show jsL.getD 2 0 = 5 from rfl, f5, if_neg (by decide)]
    exact ⟨fun h => ⟨h.1, h.2.1, h.2.2.1, h.2.2.2.1, h.2.2.2.2.1, Or.inr h.2.2.2.2.2⟩, fun h => ⟨h.1, h.2.1, h.2.2.1, h.2.2.2.1, h.2.2.2.2.1, h.2.2.2.2.2.resolve_left (by decide)⟩⟩
  · rw [show jsL.getD 3 0 = 4 from rfl, f4, if_pos (by decide)]
    exact ⟨fun h => ⟨h.1, h.2.1, h.2.2.1, h.2.2.2.1, h.2.2.2.2, Or.inl (by decide)⟩, fun h => ⟨h.1, h.2.1, h.2.2.1, h.2.2.2.1, h.2.2.2.2.1⟩⟩
  · rw [show jsL.getD 4 0 = 4 from rfl, f4, if_pos (by decide)]
    exact ⟨fun h => ⟨h.1, h.2.1, h.2.2.1, h.2.2.2.1, h.2.2.2.2, Or.inl (by decide)⟩, fun h => ⟨h.1, h.2.1, h.2.2.1, h.2.2.2.1, h.2.2.2.2.1⟩⟩
theorem nI_nm1 {q : Nat} (h : q ≤ 60) : ¬ nI q = (-1) := fun z => absurd (show (0 : Int32) ≤ -1 from z ▸ nI_pos' (by omega)) (by decide)
section FA
variable {t : Nat → Int32} {n : Nat} {h : Int32} {p : Nat}
theorem fa1 (hp : p ≤ n) (hn : n ≤ 60) (k : lnK t n p = (-1)) : ¬ lnF3 t n h p = (-1) ∧ lnF3 t n h p = nI (nxS t n p) ∧ lnS t n h p = nxS t n p ∧ lnE t n h p = nxE t n p := by
  have b := nxS_b (t := t) hp
  have e : lnF2 t n h p = nI (nxS t n p) := by rw [lnF2, if_pos k]
  have ne : ¬ lnF2 t n h p = (-1) := by rw [e]; exact nI_nm1 (by omega)
  have e3 : lnF3 t n h p = nI (nxS t n p) := by rw [lnF3, if_neg ne, e]
  exact ⟨by rw [e3]; exact nI_nm1 (by omega), e3, by rw [lnS, if_neg ne, if_pos k], by rw [lnE, if_neg ne, if_pos k]⟩
theorem fa2 (hp : p ≤ n) (hn : n ≤ 60) (k : ¬ lnK t n p = (-1)) (e : lnF2 t n h p = nI (nxS t n (nxE t n p))) : ¬ lnF3 t n h p = (-1) ∧ lnF3 t n h p = nI (nxS t n (nxE t n p)) ∧ lnS t n h p = nxS t n (nxE t n p) ∧ lnE t n h p = nxE t n (nxE t n p) := by
  have b := nxS_b (t := t) (nxE_b (t := t) hp).2
  have ne : ¬ lnF2 t n h p = (-1) := by rw [e]; exact nI_nm1 (by omega)
  have e3 : lnF3 t n h p = nI (nxS t n (nxE t n p)) := by rw [lnF3, if_neg ne, e]
  exact ⟨by rw [e3]; exact nI_nm1 (by omega), e3, by rw [lnS, if_neg ne, if_neg k], by rw [lnE, if_neg ne, if_neg k]⟩
theorem fa3 (hp : p ≤ n) (hn : n ≤ 60) (e : lnF2 t n h p = (-1)) (c : ¬ inR (lnN t n p) 1 (mok (lnK t n p))) : ¬ lnF3 t n h p = (-1) ∧ lnF3 t n h p = nI (nxS t n (lnA t n p)) ∧ lnS t n h p = nxS t n (lnA t n p) ∧ lnE t n h p = nxE t n (lnA t n p) := by
  have b := nxS_b (t := t) (lnA_b (t := t) hp)
  have e3 : lnF3 t n h p = nI (nxS t n (lnA t n p)) := by rw [lnF3, if_pos e, if_neg c]
  exact ⟨by rw [e3]; exact nI_nm1 (by omega), e3, by rw [lnS, if_pos e], by rw [lnE, if_pos e]⟩
theorem fa4 (e : lnF2 t n h p = (-1)) (c : inR (lnN t n p) 1 (mok (lnK t n p))) : lnF3 t n h p = (-1) := by rw [lnF3, if_pos e, if_pos c]
end FA
/-- a fault is a place -/
theorem lnF3_sg {t : Nat → Int32} {n : Nat} {h : Int32} {p : Nat} (hp : p ≤ n) : lnF3 t n h p = (-1) ∨ ∃ q, q ≤ n ∧ lnF3 t n h p = nI q := by
  have b1 := (nxS_b (t := t) hp).2
  have b2 := (nxS_b (t := t) (nxE_b (t := t) hp).2).2
  have b3 := (nxS_b (t := t) (lnA_b (t := t) hp)).2
  unfold lnF3 lnF2
  repeat' split
  all_goals first | exact Or.inl rfl | exact Or.inr ⟨_, b1, rfl⟩ | exact Or.inr ⟨_, b2, rfl⟩ | exact Or.inr ⟨_, b3, rfl⟩ | contradiction
theorem pa_sg {t : Nat → Int32} {n : Nat} {h : Int32} : ∀ f q, q ≤ n → (paF t n h f q).1 = (-1) ∨ ∃ k, k ≤ n ∧ (paF t n h f q).1 = nI k := by
  intro f
  induction f with
  | zero => intro q _; exact Or.inl rfl
  | succ f ih =>
    intro q hq
    have hE := lnE_b (t := t) (h := h) hq
    have hs := lnF3_sg (t := t) (h := h) hq
    rw [paF]
    split
    · split
      · split
        · exact ih _ (nxE_b hE).2
        · exact Or.inr ⟨_, (nxS_b hE).2, rfl⟩
      · exact Or.inl rfl
    · exact hs
theorem paR_neg {t : Nat → Int32} {n : Nat} {h : Int32} (hn : n ≤ 60) (z : paR t n h < 0) : paR t n h = (-1) := by
  rcases pa_sg (t := t) (n := n) (h := h) 8 0 (Nat.zero_le _) with q | ⟨k, hk, q⟩
  · exact q
  · exact absurd z (Int32.not_lt.mpr (by rw [paR, q]; exact nI_pos' (by omega)))
theorem paR_pos {t : Nat → Int32} {n : Nat} {h : Int32} (z : ¬ paR t n h < 0) : ¬ paR t n h = (-1) := fun q => z (by rw [q]; decide)

set_option maxHeartbeats 2000000 in
set_option maxRecDepth 20000 in
theorem c_X10_next (l : Launch) (X : gX) (mtd : Int32) (mtl : Nat) (mln : Nat) (mwn : Nat) (mdn : Nat) (mon : Nat) (mat : Nat) (mfr : Nat) (mlg : Nat) (mfd : Nat) (f49 : Nat → Int32) (hma : mat ≤ mtl) (hmt : mtl ≤ 60) : KC l yX10_next wsX10_next ⟨0, 0, 0, 0⟩ [.ref (xa X 46)] X [oMdl X mtd (nI mtl) (nI mln) (nI mwn) (nI mdn) (nI mon) (nI mat) (nI mfr) (nI mlg) (nI mfd), kA X 49 60 f49] none [oMdl X mtd (nI mtl) (nI mln) (nI mwn) (nI mdn) (nI mon) (nI (nxE f49 mtl mat)) (nI (nxS f49 mtl mat)) (nI ((nxE f49 mtl mat) - (nxS f49 mtl mat))) (nI mfd), kA X 49 60 f49] := by
  have hi_X10 : ∀ w ∈ u_ws RX10 TX10 41, w ∈ wsX10_next := fun w h => List.mem_cons_of_mem _ (List.mem_append_right _ h)
  refine KC.of cX10_next 1 none RX10 rfl (by decide) rfl (lv := [(0, .ref (xa X 46))]) rfl (Nat.le_of_ble_eq_true rfl) ?_
  intro p e s m args below meth c A C hr
  have lp_0 : ∀ (n_0 : Nat) (k : Nat) (hk : k ≤ mtl) (hf : nxS f49 mtl mat = skB f49 mtl (mtl - k) k) (hm_0 : mtl - k < n_0), gG p l e ⟨0, 0, 0, 0⟩ s m args below meth c X A 1 0 0 (MQ below (QA X A none [oMdl X mtd (nI mtl) (nI mln) (nI mwn) (nI mdn) (nI mon) (nI (nxE f49 mtl mat)) (nI (nxS f49 mtl mat)) (nI ((nxE f49 mtl mat) - (nxS f49 mtl mat))) (nI mfd), kA X 49 60 f49]) args s 0 0 A) [(0, .ref (xa X 46))] [oMdl X mtd (nI mtl) (nI mln) (nI mwn) (nI mdn) (nI mon) (nI k) (nI mfr) (nI mlg) (nI mfd), kA X 49 60 f49] 0 [] := by
    intro n_0
    induction n_0 with
    | zero => intro k hk hf hm_0; exact absurd hm_0 (Nat.not_lt_zero _)
    | succ n_0 ih_0 =>
      intro k hk hf hm_0
      refine g_aload_n (pc' := 1) C dX10_next_0 0 rfl rfl rfl ?_
      refine g_get (pc' := 4) C hi_X10 0 29 rfl rfl (by decide) (List.mem_of_getElem? (i := 1) rfl) rfl dX10_next_1 rfl ?_
      refine g_aload_n (pc' := 5) C dX10_next_4 0 rfl rfl rfl ?_
      refine g_get (pc' := 8) C hi_X10 0 4 rfl rfl (by decide) (List.mem_of_getElem? (i := 2) rfl) rfl dX10_next_5 rfl ?_
      refine g_icmp_geN (pc' := 11) (tgt := 38) C k mtl rfl rfl (by omega) (by omega) dX10_next_8 (by decide) rfl (fun c_8 => ?_) (fun c_8 => ?_)
      · refine g_aload_n (pc' := 39) C dX10_next_38 0 rfl rfl rfl ?_
        have hs0 : nxS f49 mtl mat = k := hf.trans (skB_at (Or.inl c_8))
        refine g_aload_n (pc' := 40) C dX10_next_39 0 rfl rfl rfl ?_
        refine g_get (pc' := 43) C hi_X10 0 29 rfl rfl (by decide) (List.mem_of_getElem? (i := 1) rfl) rfl dX10_next_40 rfl ?_
        refine g_put (pc' := 46) (ws2 := [oMdl X mtd (nI mtl) (nI mln) (nI mwn) (nI mdn) (nI mon) (nI k) (nI k) (nI mlg) (nI mfd), kA X 49 60 f49]) C hi_X10 tyX10 tyX10_ok nmX10 0 30 rfl rfl (by decide) (Nat.le_of_ble_eq_true rfl) rfl rfl (List.mem_of_getElem? (i := 4) rfl) dX10_next_43 rfl rfl ?_
        refine g_aload_n (pc' := 47) C dX10_next_46 0 rfl rfl rfl ?_
        refine g_get (pc' := 50) C hi_X10 0 29 rfl rfl (by decide) (List.mem_of_getElem? (i := 1) rfl) rfl dX10_next_47 rfl ?_
        refine g_aload_n (pc' := 51) C dX10_next_50 0 rfl rfl rfl ?_
        refine g_get (pc' := 54) C hi_X10 0 4 rfl rfl (by decide) (List.mem_of_getElem? (i := 2) rfl) rfl dX10_next_51 rfl ?_
        refine g_icmp_geN (pc' := 57) (tgt := 84) C k mtl rfl rfl (by omega) (by omega) dX10_next_54 (by decide) rfl (fun c_54 => ?_) (fun c_54 => ?_)
        · have lp_84 : ∀ (n_84 : Nat) (j : Nat) (hj : k ≤ j ∧ j ≤ mtl) (hw : skW f49 mtl (mtl - k) k = skW f49 mtl (mtl - j) j) (hm_84 : mtl - j < n_84), gG p l e ⟨0, 0, 0, 0⟩ s m args below meth c X A 1 0 0 (MQ below (QA X A none [oMdl X mtd (nI mtl) (nI mln) (nI mwn) (nI mdn) (nI mon) (nI (nxE f49 mtl mat)) (nI (nxS f49 mtl mat)) (nI ((nxE f49 mtl mat) - (nxS f49 mtl mat))) (nI mfd), kA X 49 60 f49]) args s 0 0 A) [(0, .ref (xa X 46))] [oMdl X mtd (nI mtl) (nI mln) (nI mwn) (nI mdn) (nI mon) (nI j) (nI k) (nI mlg) (nI mfd), kA X 49 60 f49] 84 [] := by
            intro n_84
            induction n_84 with
            | zero => intro j hj hw hm_84; exact absurd hm_84 (Nat.not_lt_zero _)
            | succ n_84 ih_84 =>
              intro j hj hw hm_84
              refine g_aload_n (pc' := 85) C dX10_next_84 0 rfl rfl rfl ?_
              refine g_get (pc' := 88) C hi_X10 0 29 rfl rfl (by decide) (List.mem_of_getElem? (i := 1) rfl) rfl dX10_next_85 rfl ?_
              refine g_aload_n (pc' := 89) C dX10_next_88 0 rfl rfl rfl ?_
              refine g_get (pc' := 92) C hi_X10 0 4 rfl rfl (by decide) (List.mem_of_getElem? (i := 2) rfl) rfl dX10_next_89 rfl ?_
              refine g_icmp_geN (pc' := 95) (tgt := 136) C j mtl rfl rfl (by omega) (by omega) dX10_next_92 (by decide) rfl (fun c_92 => ?_) (fun c_92 => ?_)
              · refine g_aload_n (pc' := 137) C dX10_next_136 0 rfl rfl rfl ?_
                have hw2 : skW f49 mtl (mtl - k) k = j := hw.trans (skW_at (Or.inl c_92))
                have nn : ¬ (j = k ∧ k < mtl) := fun z => by omega
                refine g_aload_n (pc' := 138) C dX10_next_137 0 rfl rfl rfl ?_
                refine g_get (pc' := 141) C hi_X10 0 29 rfl rfl (by decide) (List.mem_of_getElem? (i := 1) rfl) rfl dX10_next_138 rfl ?_
                refine g_aload_n (pc' := 142) C dX10_next_141 0 rfl rfl rfl ?_
                refine g_get (pc' := 145) C hi_X10 0 30 rfl rfl (by decide) (List.mem_of_getElem? (i := 4) rfl) rfl dX10_next_142 rfl ?_
                refine g_isubV (pc' := 146) (v := nI (j - k)) C dX10_next_145 (pk_sub (a := j) (b := k) (by omega)) rfl ?_
                refine g_put (pc' := 149) (ws2 := [oMdl X mtd (nI mtl) (nI mln) (nI mwn) (nI mdn) (nI mon) (nI j) (nI k) (nI (j - k)) (nI mfd), kA X 49 60 f49]) C hi_X10 tyX10 tyX10_ok nmX10 0 31 rfl rfl (by decide) (Nat.le_of_ble_eq_true rfl) rfl rfl (List.mem_of_getElem? (i := 5) rfl) dX10_next_146 rfl rfl ?_
                exact g_vret C hr dX10_next_149 (((congrArg (fun zq_ : Int32 => ([oMdl X mtd (nI mtl) (nI mln) (nI mwn) (nI mdn) (nI mon) zq_ (nI k) (nI (j - k)) (nI mfd), kA X 49 60 f49] : va_W)) (show (nI j : Int32) = nI (nxE f49 mtl mat) from (by rw [nxE, hs0, hw2, if_neg nn]))).trans (congrArg (fun zq_ : Int32 => ([oMdl X mtd (nI mtl) (nI mln) (nI mwn) (nI mdn) (nI mon) (nI (nxE f49 mtl mat)) zq_ (nI (j - k)) (nI mfd), kA X 49 60 f49] : va_W)) (show (nI k : Int32) = nI (nxS f49 mtl mat) from (by rw [hs0])))).trans (congrArg (fun zq_ : Int32 => ([oMdl X mtd (nI mtl) (nI mln) (nI mwn) (nI mdn) (nI mon) (nI (nxE f49 mtl mat)) (nI (nxS f49 mtl mat)) zq_ (nI mfd), kA X 49 60 f49] : va_W)) (show (nI (j - k) : Int32) = nI ((nxE f49 mtl mat) - (nxS f49 mtl mat)) from (by rw [nxE, hs0, hw2, if_neg nn]))))
              · omega
          exact lp_84 (mtl - k + 1) k (by omega) rfl (by omega)
        · omega
      · refine g_aload_n (pc' := 12) C dX10_next_11 0 rfl rfl rfl ?_
        refine g_get (pc' := 15) C hi_X10 0 3 rfl rfl (by decide) (List.mem_of_getElem? (i := 3) rfl) rfl dX10_next_12 rfl ?_
        refine g_aload_n (pc' := 16) C dX10_next_15 0 rfl rfl rfl ?_
        refine g_get (pc' := 19) C hi_X10 0 29 rfl rfl (by decide) (List.mem_of_getElem? (i := 1) rfl) rfl dX10_next_16 rfl ?_
        refine g_iald (pc' := 20) C 1 k rfl rfl (by omega) (by decide) dX10_next_19 rfl ?_
        refine g_bipush (pc' := 22) (v := 32) C dX10_next_20 (by decide) rfl ?_
        refine g_icmp_ne (pc' := 25) (tgt := 38) C dX10_next_22 (by decide) rfl (fun c_22 => ?_) (fun c_22 => ?_)
        · refine g_aload_n (pc' := 39) C dX10_next_38 0 rfl rfl rfl ?_
          have hs0 : nxS f49 mtl mat = k := hf.trans (skB_at (Or.inr c_22))
          refine g_aload_n (pc' := 40) C dX10_next_39 0 rfl rfl rfl ?_
          refine g_get (pc' := 43) C hi_X10 0 29 rfl rfl (by decide) (List.mem_of_getElem? (i := 1) rfl) rfl dX10_next_40 rfl ?_
          refine g_put (pc' := 46) (ws2 := [oMdl X mtd (nI mtl) (nI mln) (nI mwn) (nI mdn) (nI mon) (nI k) (nI k) (nI mlg) (nI mfd), kA X 49 60 f49]) C hi_X10 tyX10 tyX10_ok nmX10 0 30 rfl rfl (by decide) (Nat.le_of_ble_eq_true rfl) rfl rfl (List.mem_of_getElem? (i := 4) rfl) dX10_next_43 rfl rfl ?_
          refine g_aload_n (pc' := 47) C dX10_next_46 0 rfl rfl rfl ?_
          refine g_get (pc' := 50) C hi_X10 0 29 rfl rfl (by decide) (List.mem_of_getElem? (i := 1) rfl) rfl dX10_next_47 rfl ?_
          refine g_aload_n (pc' := 51) C dX10_next_50 0 rfl rfl rfl ?_
          refine g_get (pc' := 54) C hi_X10 0 4 rfl rfl (by decide) (List.mem_of_getElem? (i := 2) rfl) rfl dX10_next_51 rfl ?_
          refine g_icmp_geN (pc' := 57) (tgt := 84) C k mtl rfl rfl (by omega) (by omega) dX10_next_54 (by decide) rfl (fun c_54 => ?_) (fun c_54 => ?_)
          · omega
          · refine g_aload_n (pc' := 58) C dX10_next_57 0 rfl rfl rfl ?_
            refine g_get (pc' := 61) C hi_X10 0 3 rfl rfl (by decide) (List.mem_of_getElem? (i := 3) rfl) rfl dX10_next_58 rfl ?_
            refine g_aload_n (pc' := 62) C dX10_next_61 0 rfl rfl rfl ?_
            refine g_get (pc' := 65) C hi_X10 0 29 rfl rfl (by decide) (List.mem_of_getElem? (i := 1) rfl) rfl dX10_next_62 rfl ?_
            refine g_iald (pc' := 66) C 1 k rfl rfl (by omega) (by decide) dX10_next_65 rfl ?_
            refine g_bipush (pc' := 68) (v := 44) C dX10_next_66 (by decide) rfl ?_
            refine g_icmp_ne (pc' := 71) (tgt := 84) C dX10_next_68 (by decide) rfl (fun c_68 => ?_) (fun c_68 => ?_)
            · have lp_84 : ∀ (n_84 : Nat) (j : Nat) (hj : k ≤ j ∧ j ≤ mtl) (hw : skW f49 mtl (mtl - k) k = skW f49 mtl (mtl - j) j) (hm_84 : mtl - j < n_84), gG p l e ⟨0, 0, 0, 0⟩ s m args below meth c X A 1 0 0 (MQ below (QA X A none [oMdl X mtd (nI mtl) (nI mln) (nI mwn) (nI mdn) (nI mon) (nI (nxE f49 mtl mat)) (nI (nxS f49 mtl mat)) (nI ((nxE f49 mtl mat) - (nxS f49 mtl mat))) (nI mfd), kA X 49 60 f49]) args s 0 0 A) [(0, .ref (xa X 46))] [oMdl X mtd (nI mtl) (nI mln) (nI mwn) (nI mdn) (nI mon) (nI j) (nI k) (nI mlg) (nI mfd), kA X 49 60 f49] 84 [] := by
                intro n_84
                induction n_84 with
                | zero => intro j hj hw hm_84; exact absurd hm_84 (Nat.not_lt_zero _)
                | succ n_84 ih_84 =>
                  intro j hj hw hm_84
                  refine g_aload_n (pc' := 85) C dX10_next_84 0 rfl rfl rfl ?_
                  refine g_get (pc' := 88) C hi_X10 0 29 rfl rfl (by decide) (List.mem_of_getElem? (i := 1) rfl) rfl dX10_next_85 rfl ?_
                  refine g_aload_n (pc' := 89) C dX10_next_88 0 rfl rfl rfl ?_
                  refine g_get (pc' := 92) C hi_X10 0 4 rfl rfl (by decide) (List.mem_of_getElem? (i := 2) rfl) rfl dX10_next_89 rfl ?_
                  refine g_icmp_geN (pc' := 95) (tgt := 136) C j mtl rfl rfl (by omega) (by omega) dX10_next_92 (by decide) rfl (fun c_92 => ?_) (fun c_92 => ?_)
                  · refine g_aload_n (pc' := 137) C dX10_next_136 0 rfl rfl rfl ?_
                    have hw2 : skW f49 mtl (mtl - k) k = j := hw.trans (skW_at (Or.inl c_92))
                    have nn : ¬ (j = k ∧ k < mtl) := fun z => by omega
                    refine g_aload_n (pc' := 138) C dX10_next_137 0 rfl rfl rfl ?_
                    refine g_get (pc' := 141) C hi_X10 0 29 rfl rfl (by decide) (List.mem_of_getElem? (i := 1) rfl) rfl dX10_next_138 rfl ?_
                    refine g_aload_n (pc' := 142) C dX10_next_141 0 rfl rfl rfl ?_
                    refine g_get (pc' := 145) C hi_X10 0 30 rfl rfl (by decide) (List.mem_of_getElem? (i := 4) rfl) rfl dX10_next_142 rfl ?_
                    refine g_isubV (pc' := 146) (v := nI (j - k)) C dX10_next_145 (pk_sub (a := j) (b := k) (by omega)) rfl ?_
                    refine g_put (pc' := 149) (ws2 := [oMdl X mtd (nI mtl) (nI mln) (nI mwn) (nI mdn) (nI mon) (nI j) (nI k) (nI (j - k)) (nI mfd), kA X 49 60 f49]) C hi_X10 tyX10 tyX10_ok nmX10 0 31 rfl rfl (by decide) (Nat.le_of_ble_eq_true rfl) rfl rfl (List.mem_of_getElem? (i := 5) rfl) dX10_next_146 rfl rfl ?_
                    exact g_vret C hr dX10_next_149 (((congrArg (fun zq_ : Int32 => ([oMdl X mtd (nI mtl) (nI mln) (nI mwn) (nI mdn) (nI mon) zq_ (nI k) (nI (j - k)) (nI mfd), kA X 49 60 f49] : va_W)) (show (nI j : Int32) = nI (nxE f49 mtl mat) from (by rw [nxE, hs0, hw2, if_neg nn]))).trans (congrArg (fun zq_ : Int32 => ([oMdl X mtd (nI mtl) (nI mln) (nI mwn) (nI mdn) (nI mon) (nI (nxE f49 mtl mat)) zq_ (nI (j - k)) (nI mfd), kA X 49 60 f49] : va_W)) (show (nI k : Int32) = nI (nxS f49 mtl mat) from (by rw [hs0])))).trans (congrArg (fun zq_ : Int32 => ([oMdl X mtd (nI mtl) (nI mln) (nI mwn) (nI mdn) (nI mon) (nI (nxE f49 mtl mat)) (nI (nxS f49 mtl mat)) zq_ (nI mfd), kA X 49 60 f49] : va_W)) (show (nI (j - k) : Int32) = nI ((nxE f49 mtl mat) - (nxS f49 mtl mat)) from (by rw [nxE, hs0, hw2, if_neg nn]))))
                  · refine g_aload_n (pc' := 96) C dX10_next_95 0 rfl rfl rfl ?_
                    refine g_get (pc' := 99) C hi_X10 0 3 rfl rfl (by decide) (List.mem_of_getElem? (i := 3) rfl) rfl dX10_next_96 rfl ?_
                    refine g_aload_n (pc' := 100) C dX10_next_99 0 rfl rfl rfl ?_
                    refine g_get (pc' := 103) C hi_X10 0 29 rfl rfl (by decide) (List.mem_of_getElem? (i := 1) rfl) rfl dX10_next_100 rfl ?_
                    refine g_iald (pc' := 104) C 1 j rfl rfl (by omega) (by decide) dX10_next_103 rfl ?_
                    refine g_bipush (pc' := 106) (v := 32) C dX10_next_104 (by decide) rfl ?_
                    refine g_icmp_eq (pc' := 109) (tgt := 136) C dX10_next_106 (by decide) rfl (fun c_106 => ?_) (fun c_106 => ?_)
                    · refine g_aload_n (pc' := 137) C dX10_next_136 0 rfl rfl rfl ?_
                      have hw2 : skW f49 mtl (mtl - k) k = j := hw.trans (skW_at (Or.inr (fun z => z.1 c_106)))
                      have nn : ¬ (j = k ∧ k < mtl) := fun z => by exact c_22 (z.1 ▸ c_106)
                      refine g_aload_n (pc' := 138) C dX10_next_137 0 rfl rfl rfl ?_
                      refine g_get (pc' := 141) C hi_X10 0 29 rfl rfl (by decide) (List.mem_of_getElem? (i := 1) rfl) rfl dX10_next_138 rfl ?_
                      refine g_aload_n (pc' := 142) C dX10_next_141 0 rfl rfl rfl ?_
                      refine g_get (pc' := 145) C hi_X10 0 30 rfl rfl (by decide) (List.mem_of_getElem? (i := 4) rfl) rfl dX10_next_142 rfl ?_
                      refine g_isubV (pc' := 146) (v := nI (j - k)) C dX10_next_145 (pk_sub (a := j) (b := k) (by omega)) rfl ?_
                      refine g_put (pc' := 149) (ws2 := [oMdl X mtd (nI mtl) (nI mln) (nI mwn) (nI mdn) (nI mon) (nI j) (nI k) (nI (j - k)) (nI mfd), kA X 49 60 f49]) C hi_X10 tyX10 tyX10_ok nmX10 0 31 rfl rfl (by decide) (Nat.le_of_ble_eq_true rfl) rfl rfl (List.mem_of_getElem? (i := 5) rfl) dX10_next_146 rfl rfl ?_
                      exact g_vret C hr dX10_next_149 (((congrArg (fun zq_ : Int32 => ([oMdl X mtd (nI mtl) (nI mln) (nI mwn) (nI mdn) (nI mon) zq_ (nI k) (nI (j - k)) (nI mfd), kA X 49 60 f49] : va_W)) (show (nI j : Int32) = nI (nxE f49 mtl mat) from (by rw [nxE, hs0, hw2, if_neg nn]))).trans (congrArg (fun zq_ : Int32 => ([oMdl X mtd (nI mtl) (nI mln) (nI mwn) (nI mdn) (nI mon) (nI (nxE f49 mtl mat)) zq_ (nI (j - k)) (nI mfd), kA X 49 60 f49] : va_W)) (show (nI k : Int32) = nI (nxS f49 mtl mat) from (by rw [hs0])))).trans (congrArg (fun zq_ : Int32 => ([oMdl X mtd (nI mtl) (nI mln) (nI mwn) (nI mdn) (nI mon) (nI (nxE f49 mtl mat)) (nI (nxS f49 mtl mat)) zq_ (nI mfd), kA X 49 60 f49] : va_W)) (show (nI (j - k) : Int32) = nI ((nxE f49 mtl mat) - (nxS f49 mtl mat)) from (by rw [nxE, hs0, hw2, if_neg nn]))))
                    · refine g_aload_n (pc' := 110) C dX10_next_109 0 rfl rfl rfl ?_
                      refine g_get (pc' := 113) C hi_X10 0 3 rfl rfl (by decide) (List.mem_of_getElem? (i := 3) rfl) rfl dX10_next_110 rfl ?_
                      refine g_aload_n (pc' := 114) C dX10_next_113 0 rfl rfl rfl ?_
                      refine g_get (pc' := 117) C hi_X10 0 29 rfl rfl (by decide) (List.mem_of_getElem? (i := 1) rfl) rfl dX10_next_114 rfl ?_
                      refine g_iald (pc' := 118) C 1 j rfl rfl (by omega) (by decide) dX10_next_117 rfl ?_
                      refine g_bipush (pc' := 120) (v := 44) C dX10_next_118 (by decide) rfl ?_
                      refine g_icmp_eq (pc' := 123) (tgt := 136) C dX10_next_120 (by decide) rfl (fun c_120 => ?_) (fun c_120 => ?_)
                      · refine g_aload_n (pc' := 137) C dX10_next_136 0 rfl rfl rfl ?_
                        have hw2 : skW f49 mtl (mtl - k) k = j := hw.trans (skW_at (Or.inr (fun z => z.2 c_120)))
                        have nn : ¬ (j = k ∧ k < mtl) := fun z => by exact c_68 (z.1 ▸ c_120)
                        refine g_aload_n (pc' := 138) C dX10_next_137 0 rfl rfl rfl ?_
                        refine g_get (pc' := 141) C hi_X10 0 29 rfl rfl (by decide) (List.mem_of_getElem? (i := 1) rfl) rfl dX10_next_138 rfl ?_
                        refine g_aload_n (pc' := 142) C dX10_next_141 0 rfl rfl rfl ?_
                        refine g_get (pc' := 145) C hi_X10 0 30 rfl rfl (by decide) (List.mem_of_getElem? (i := 4) rfl) rfl dX10_next_142 rfl ?_
                        refine g_isubV (pc' := 146) (v := nI (j - k)) C dX10_next_145 (pk_sub (a := j) (b := k) (by omega)) rfl ?_
                        refine g_put (pc' := 149) (ws2 := [oMdl X mtd (nI mtl) (nI mln) (nI mwn) (nI mdn) (nI mon) (nI j) (nI k) (nI (j - k)) (nI mfd), kA X 49 60 f49]) C hi_X10 tyX10 tyX10_ok nmX10 0 31 rfl rfl (by decide) (Nat.le_of_ble_eq_true rfl) rfl rfl (List.mem_of_getElem? (i := 5) rfl) dX10_next_146 rfl rfl ?_
                        exact g_vret C hr dX10_next_149 (((congrArg (fun zq_ : Int32 => ([oMdl X mtd (nI mtl) (nI mln) (nI mwn) (nI mdn) (nI mon) zq_ (nI k) (nI (j - k)) (nI mfd), kA X 49 60 f49] : va_W)) (show (nI j : Int32) = nI (nxE f49 mtl mat) from (by rw [nxE, hs0, hw2, if_neg nn]))).trans (congrArg (fun zq_ : Int32 => ([oMdl X mtd (nI mtl) (nI mln) (nI mwn) (nI mdn) (nI mon) (nI (nxE f49 mtl mat)) zq_ (nI (j - k)) (nI mfd), kA X 49 60 f49] : va_W)) (show (nI k : Int32) = nI (nxS f49 mtl mat) from (by rw [hs0])))).trans (congrArg (fun zq_ : Int32 => ([oMdl X mtd (nI mtl) (nI mln) (nI mwn) (nI mdn) (nI mon) (nI (nxE f49 mtl mat)) (nI (nxS f49 mtl mat)) zq_ (nI mfd), kA X 49 60 f49] : va_W)) (show (nI (j - k) : Int32) = nI ((nxE f49 mtl mat) - (nxS f49 mtl mat)) from (by rw [nxE, hs0, hw2, if_neg nn]))))
                      · refine g_aload_n (pc' := 124) C dX10_next_123 0 rfl rfl rfl ?_
                        refine g_dup (pc' := 125) C dX10_next_124 rfl rfl ?_
                        refine g_get (pc' := 128) C hi_X10 0 29 rfl rfl (by decide) (List.mem_of_getElem? (i := 1) rfl) rfl dX10_next_125 rfl ?_
                        refine g_iconst (pc' := 129) (v := 1) C dX10_next_128 rfl rfl ?_
                        refine g_iaddV (pc' := 130) (v := nI (j + 1)) C dX10_next_129 (by first | exact (nI_add _ _) | rfl) rfl ?_
                        refine g_put (pc' := 133) (ws2 := [oMdl X mtd (nI mtl) (nI mln) (nI mwn) (nI mdn) (nI mon) (nI (j + 1)) (nI k) (nI mlg) (nI mfd), kA X 49 60 f49]) C hi_X10 tyX10 tyX10_ok nmX10 0 29 rfl rfl (by decide) (Nat.le_of_ble_eq_true rfl) rfl rfl (List.mem_of_getElem? (i := 1) rfl) dX10_next_130 rfl rfl ?_
                        refine g_goto (tgt := 84) C dX10_next_133 (by decide) ?_
                        exact ih_84 (j + 1) (by omega) (hw.trans (skW_go (by omega) ⟨c_106, c_120⟩)) (by omega)
              exact lp_84 (mtl - k + 1) k (by omega) rfl (by omega)
            · refine g_aload_n (pc' := 72) C dX10_next_71 0 rfl rfl rfl ?_
              skip
              refine g_dup (pc' := 73) C dX10_next_72 rfl rfl ?_
              refine g_get (pc' := 76) C hi_X10 0 29 rfl rfl (by decide) (List.mem_of_getElem? (i := 1) rfl) rfl dX10_next_73 rfl ?_
              refine g_iconst (pc' := 77) (v := 1) C dX10_next_76 rfl rfl ?_
              refine g_iaddV (pc' := 78) (v := nI (k + 1)) C dX10_next_77 (by first | exact (nI_add _ _) | rfl) rfl ?_
              refine g_put (pc' := 81) (ws2 := [oMdl X mtd (nI mtl) (nI mln) (nI mwn) (nI mdn) (nI mon) (nI (k + 1)) (nI k) (nI mlg) (nI mfd), kA X 49 60 f49]) C hi_X10 tyX10 tyX10_ok nmX10 0 29 rfl rfl (by decide) (Nat.le_of_ble_eq_true rfl) rfl rfl (List.mem_of_getElem? (i := 1) rfl) dX10_next_78 rfl rfl ?_
              refine g_goto (tgt := 136) C dX10_next_81 (by decide) ?_
              refine g_aload_n (pc' := 137) C dX10_next_136 0 rfl rfl rfl ?_
              skip
              skip
              refine g_aload_n (pc' := 138) C dX10_next_137 0 rfl rfl rfl ?_
              refine g_get (pc' := 141) C hi_X10 0 29 rfl rfl (by decide) (List.mem_of_getElem? (i := 1) rfl) rfl dX10_next_138 rfl ?_
              refine g_aload_n (pc' := 142) C dX10_next_141 0 rfl rfl rfl ?_
              refine g_get (pc' := 145) C hi_X10 0 30 rfl rfl (by decide) (List.mem_of_getElem? (i := 4) rfl) rfl dX10_next_142 rfl ?_
              refine g_isubV (pc' := 146) (v := nI ((k + 1) - k)) C dX10_next_145 (pk_sub (a := k + 1) (b := k) (by omega)) rfl ?_
              refine g_put (pc' := 149) (ws2 := [oMdl X mtd (nI mtl) (nI mln) (nI mwn) (nI mdn) (nI mon) (nI (k + 1)) (nI k) (nI ((k + 1) - k)) (nI mfd), kA X 49 60 f49]) C hi_X10 tyX10 tyX10_ok nmX10 0 31 rfl rfl (by decide) (Nat.le_of_ble_eq_true rfl) rfl rfl (List.mem_of_getElem? (i := 5) rfl) dX10_next_146 rfl rfl ?_
              exact g_vret C hr dX10_next_149 (((congrArg (fun zq_ : Int32 => ([oMdl X mtd (nI mtl) (nI mln) (nI mwn) (nI mdn) (nI mon) zq_ (nI k) (nI ((k + 1) - k)) (nI mfd), kA X 49 60 f49] : va_W)) (show (nI (k + 1) : Int32) = nI (nxE f49 mtl mat) from (by rw [nxE, hs0, show skW f49 mtl (mtl - k) k = k from skW_at (Or.inr (fun z => z.2 c_68)), if_pos ⟨rfl, c_8⟩]))).trans (congrArg (fun zq_ : Int32 => ([oMdl X mtd (nI mtl) (nI mln) (nI mwn) (nI mdn) (nI mon) (nI (nxE f49 mtl mat)) zq_ (nI ((k + 1) - k)) (nI mfd), kA X 49 60 f49] : va_W)) (show (nI k : Int32) = nI (nxS f49 mtl mat) from (by rw [hs0])))).trans (congrArg (fun zq_ : Int32 => ([oMdl X mtd (nI mtl) (nI mln) (nI mwn) (nI mdn) (nI mon) (nI (nxE f49 mtl mat)) (nI (nxS f49 mtl mat)) zq_ (nI mfd), kA X 49 60 f49] : va_W)) (show (nI ((k + 1) - k) : Int32) = nI ((nxE f49 mtl mat) - (nxS f49 mtl mat)) from (by rw [nxE, hs0, show skW f49 mtl (mtl - k) k = k from skW_at (Or.inr (fun z => z.2 c_68)), if_pos ⟨rfl, c_8⟩]))))
        · refine g_aload_n (pc' := 26) C dX10_next_25 0 rfl rfl rfl ?_
          refine g_dup (pc' := 27) C dX10_next_26 rfl rfl ?_
          refine g_get (pc' := 30) C hi_X10 0 29 rfl rfl (by decide) (List.mem_of_getElem? (i := 1) rfl) rfl dX10_next_27 rfl ?_
          refine g_iconst (pc' := 31) (v := 1) C dX10_next_30 rfl rfl ?_
          refine g_iaddV (pc' := 32) (v := nI (k + 1)) C dX10_next_31 (by first | exact (nI_add _ _) | rfl) rfl ?_
          refine g_put (pc' := 35) (ws2 := [oMdl X mtd (nI mtl) (nI mln) (nI mwn) (nI mdn) (nI mon) (nI (k + 1)) (nI mfr) (nI mlg) (nI mfd), kA X 49 60 f49]) C hi_X10 tyX10 tyX10_ok nmX10 0 29 rfl rfl (by decide) (Nat.le_of_ble_eq_true rfl) rfl rfl (List.mem_of_getElem? (i := 1) rfl) dX10_next_32 rfl rfl ?_
          refine g_goto (tgt := 0) C dX10_next_35 (by decide) ?_
          exact ih_0 (k + 1) (by omega) (hf.trans (skB_go (by omega) c_22)) (by omega)
  exact lp_0 (mtl - mat + 1) mat hma rfl (by omega)

set_option maxHeartbeats 1000000 in
set_option maxRecDepth 20000 in
theorem c_X10_isComma (l : Launch) (X : gX) (mtd : Int32) (mtl : Nat) (mln : Nat) (mwn : Nat) (mdn : Nat) (mon : Nat) (mat : Nat) (mfr : Nat) (mlg : Nat) (mfd : Nat) (f49 : Nat → Int32) (hfl : mfr + mlg ≤ 60) : KC l yX10_isComma wsX10_isComma ⟨0, 0, 0, 0⟩ [.ref (xa X 46)] X [oMdl X mtd (nI mtl) (nI mln) (nI mwn) (nI mdn) (nI mon) (nI mat) (nI mfr) (nI mlg) (nI mfd), kA X 49 60 f49] (some (.int (bz (mlg = 1 ∧ f49 mfr = 44)))) [oMdl X mtd (nI mtl) (nI mln) (nI mwn) (nI mdn) (nI mon) (nI mat) (nI mfr) (nI mlg) (nI mfd), kA X 49 60 f49] := by
  have hi_X10 : ∀ w ∈ u_ws RX10 TX10 41, w ∈ wsX10_isComma := fun w h => List.mem_cons_of_mem _ (List.mem_append_right _ h)
  refine KC.of cX10_isComma 1 (some .boolean) RX10 rfl (by decide) rfl (lv := [(0, .ref (xa X 46))]) rfl (Nat.le_of_ble_eq_true rfl) ?_
  intro p e s m args below meth c A C hr
  refine g_aload_n (pc' := 1) C dX10_isComma_0 0 rfl rfl rfl ?_
  refine g_get (pc' := 4) C hi_X10 0 31 rfl rfl (by decide) (List.mem_of_getElem? (i := 1) rfl) rfl dX10_isComma_1 rfl ?_
  refine g_iconst (pc' := 5) (v := 1) C dX10_isComma_4 rfl rfl ?_
  refine g_icmp_neN (pc' := 8) (tgt := 26) C mlg 1 rfl rfl (by omega) (by omega) dX10_isComma_5 (by decide) rfl (fun c_5 => ?_) (fun c_5 => ?_)
  · refine g_iconst (pc' := 27) (v := 0) C dX10_isComma_26 rfl rfl ?_
    exact g_zret C hr rfl dX10_isComma_27 (by first | rfl | omega | (simp [bz, c_5]; done) | (simp [bz, c_5]; omega) | (simp [bz, c_5]; intros; exfalso; omega) | grind [bz]) rfl
  · refine g_aload_n (pc' := 9) C dX10_isComma_8 0 rfl rfl rfl ?_
    refine g_get (pc' := 12) C hi_X10 0 3 rfl rfl (by decide) (List.mem_of_getElem? (i := 2) rfl) rfl dX10_isComma_9 rfl ?_
    refine g_aload_n (pc' := 13) C dX10_isComma_12 0 rfl rfl rfl ?_
    refine g_get (pc' := 16) C hi_X10 0 30 rfl rfl (by decide) (List.mem_of_getElem? (i := 3) rfl) rfl dX10_isComma_13 rfl ?_
    refine g_iald (pc' := 17) C 1 mfr rfl rfl (by omega) (by decide) dX10_isComma_16 rfl ?_
    refine g_bipush (pc' := 19) (v := 44) C dX10_isComma_17 (by decide) rfl ?_
    refine g_icmp_ne (pc' := 22) (tgt := 26) C dX10_isComma_19 (by decide) rfl (fun c_19 => ?_) (fun c_19 => ?_)
    · refine g_iconst (pc' := 27) (v := 0) C dX10_isComma_26 rfl rfl ?_
      exact g_zret C hr rfl dX10_isComma_27 (by first | rfl | omega | (simp [bz, c_5, c_19]; done) | (simp [bz, c_5, c_19]; omega) | (simp [bz, c_5, c_19]; intros; exfalso; omega) | grind [bz]) rfl
    · refine g_iconst (pc' := 23) (v := 1) C dX10_isComma_22 rfl rfl ?_
      refine g_goto (tgt := 27) C dX10_isComma_23 (by decide) ?_
      exact g_zret C hr rfl dX10_isComma_27 (by first | rfl | omega | (simp [bz, c_5, c_19]; done) | (simp [bz, c_5, c_19]; omega) | (simp [bz, c_5, c_19]; intros; exfalso; omega) | grind [bz]) rfl

set_option maxHeartbeats 1000000 in
set_option maxRecDepth 20000 in
theorem c_X10_isWord (l : Launch) (X : gX) (mtd : Int32) (mtl : Nat) (mln : Nat) (mwn : Nat) (mdn : Nat) (mon : Nat) (mat : Nat) (mfr : Nat) (mlg : Nat) (mfd : Nat) (f49 : Nat → Int32) (i : Nat) (wa : Int32) (wb : Int32) (w3 : Int32) (w4 : Int32) (w5 : Int32) (hfl : mfr + mlg ≤ 60) (hi : i < 5) (hwd : wa = jch i 0 ∧ wb = jch i 1 ∧ w3 = jch i 2 ∧ w4 = jch i 3 ∧ w5 = jch i 4) : KC l yX10_isWord wsX10_isWord ⟨0, 0, 0, 0⟩ [.ref (xa X 46), .int wa, .int wb, .int w3, .int w4, .int w5] X [oMdl X mtd (nI mtl) (nI mln) (nI mwn) (nI mdn) (nI mon) (nI mat) (nI mfr) (nI mlg) (nI mfd), kA X 49 60 f49] (some (.int (bz (wmB f49 mfr (mfr + mlg) i = true)))) [oMdl X mtd (nI mtl) (nI mln) (nI mwn) (nI mdn) (nI mon) (nI mat) (nI mfr) (nI mlg) (nI mfd), kA X 49 60 f49] := by
  have hi_X10 : ∀ w ∈ u_ws RX10 TX10 41, w ∈ wsX10_isWord := fun w h => List.mem_cons_of_mem _ (List.mem_append_right _ h)
  refine KC.of cX10_isWord 7 (some .boolean) RX10 rfl (by decide) rfl (lv := [(0, .ref (xa X 46)), (1, .int wa), (2, .int wb), (3, .int w3), (4, .int w4), (5, .int w5)]) rfl (Nat.le_of_ble_eq_true rfl) ?_
  intro p e s m args below meth c A C hr
  have wm := wm5 (t := f49) (s := mfr) (g := mlg) hi
  obtain ⟨r1, r2, r3, r4, r5⟩ := hwd
  rw [← r1, ← r2, ← r3, ← r4, ← r5] at wm
  refine g_iload (pc' := 2) C dX10_isWord_0 5 rfl rfl ?_
  refine g_if_ne (pc' := 5) (tgt := 9) C dX10_isWord_2 (by decide) rfl (fun c_2 => ?_) (fun c_2 => ?_)
  · refine g_iconst (pc' := 10) (v := 5) C dX10_isWord_9 rfl rfl ?_
    refine g_istore (pc' := 12) (lv' := [(6, .int 5), (0, .ref (xa X 46)), (1, .int wa), (2, .int wb), (3, .int w3), (4, .int w4), (5, .int w5)]) C dX10_isWord_10 (by decide) rfl rfl ?_
    refine g_aload_n (pc' := 13) C dX10_isWord_12 1 rfl rfl rfl ?_
    refine g_get (pc' := 16) C hi_X10 0 31 rfl rfl (by decide) (List.mem_of_getElem? (i := 1) rfl) rfl dX10_isWord_13 rfl ?_
    refine g_iload (pc' := 18) C dX10_isWord_16 0 rfl rfl ?_
    refine g_icmp_neN (pc' := 21) (tgt := 105) C mlg 5 rfl rfl (by omega) (by omega) dX10_isWord_18 (by decide) rfl (fun c_18 => ?_) (fun c_18 => ?_)
    · refine g_iconst (pc' := 106) (v := 0) C dX10_isWord_105 rfl rfl ?_
      exact g_zret C hr rfl dX10_isWord_106 (by simp only [bz, wm]; simp [c_2, c_18]) rfl
    · refine g_aload_n (pc' := 22) C dX10_isWord_21 1 rfl rfl rfl ?_
      refine g_get (pc' := 25) C hi_X10 0 3 rfl rfl (by decide) (List.mem_of_getElem? (i := 2) rfl) rfl dX10_isWord_22 rfl ?_
      refine g_aload_n (pc' := 26) C dX10_isWord_25 1 rfl rfl rfl ?_
      refine g_get (pc' := 29) C hi_X10 0 30 rfl rfl (by decide) (List.mem_of_getElem? (i := 3) rfl) rfl dX10_isWord_26 rfl ?_
      refine g_iald (pc' := 30) C 1 mfr rfl rfl (by omega) (by decide) dX10_isWord_29 rfl ?_
      refine g_iload_n (pc' := 31) C dX10_isWord_30 2 rfl rfl rfl ?_
      refine g_icmp_ne (pc' := 34) (tgt := 105) C dX10_isWord_31 (by decide) rfl (fun c_31 => ?_) (fun c_31 => ?_)
      · refine g_iconst (pc' := 106) (v := 0) C dX10_isWord_105 rfl rfl ?_
        exact g_zret C hr rfl dX10_isWord_106 (by simp only [bz, wm]; simp [c_2, c_18, c_31]) rfl
      · refine g_aload_n (pc' := 35) C dX10_isWord_34 1 rfl rfl rfl ?_
        refine g_get (pc' := 38) C hi_X10 0 3 rfl rfl (by decide) (List.mem_of_getElem? (i := 2) rfl) rfl dX10_isWord_35 rfl ?_
        refine g_aload_n (pc' := 39) C dX10_isWord_38 1 rfl rfl rfl ?_
        refine g_get (pc' := 42) C hi_X10 0 30 rfl rfl (by decide) (List.mem_of_getElem? (i := 3) rfl) rfl dX10_isWord_39 rfl ?_
        refine g_iconst (pc' := 43) (v := 1) C dX10_isWord_42 rfl rfl ?_
        refine g_iaddV (pc' := 44) (v := nI (mfr + 1)) C dX10_isWord_43 (by first | exact (nI_add _ _) | rfl) rfl ?_
        refine g_iald (pc' := 45) C 1 (mfr + 1) rfl rfl (by omega) (by decide) dX10_isWord_44 rfl ?_
        refine g_iload_n (pc' := 46) C dX10_isWord_45 3 rfl rfl rfl ?_
        refine g_icmp_ne (pc' := 49) (tgt := 105) C dX10_isWord_46 (by decide) rfl (fun c_46 => ?_) (fun c_46 => ?_)
        · refine g_iconst (pc' := 106) (v := 0) C dX10_isWord_105 rfl rfl ?_
          exact g_zret C hr rfl dX10_isWord_106 (by simp only [bz, wm]; simp [c_2, c_18, c_31, c_46]) rfl
        · refine g_aload_n (pc' := 50) C dX10_isWord_49 1 rfl rfl rfl ?_
          refine g_get (pc' := 53) C hi_X10 0 3 rfl rfl (by decide) (List.mem_of_getElem? (i := 2) rfl) rfl dX10_isWord_50 rfl ?_
          refine g_aload_n (pc' := 54) C dX10_isWord_53 1 rfl rfl rfl ?_
          refine g_get (pc' := 57) C hi_X10 0 30 rfl rfl (by decide) (List.mem_of_getElem? (i := 3) rfl) rfl dX10_isWord_54 rfl ?_
          refine g_iconst (pc' := 58) (v := 2) C dX10_isWord_57 rfl rfl ?_
          refine g_iaddV (pc' := 59) (v := nI (mfr + 2)) C dX10_isWord_58 (by first | exact (nI_add _ _) | rfl) rfl ?_
          refine g_iald (pc' := 60) C 1 (mfr + 2) rfl rfl (by omega) (by decide) dX10_isWord_59 rfl ?_
          refine g_iload_n (pc' := 61) C dX10_isWord_60 4 rfl rfl rfl ?_
          refine g_icmp_ne (pc' := 64) (tgt := 105) C dX10_isWord_61 (by decide) rfl (fun c_61 => ?_) (fun c_61 => ?_)
          · refine g_iconst (pc' := 106) (v := 0) C dX10_isWord_105 rfl rfl ?_
            exact g_zret C hr rfl dX10_isWord_106 (by simp only [bz, wm]; simp [c_2, c_18, c_31, c_46, c_61]) rfl
          · refine g_aload_n (pc' := 65) C dX10_isWord_64 1 rfl rfl rfl ?_
            refine g_get (pc' := 68) C hi_X10 0 3 rfl rfl (by decide) (List.mem_of_getElem? (i := 2) rfl) rfl dX10_isWord_65 rfl ?_
            refine g_aload_n (pc' := 69) C dX10_isWord_68 1 rfl rfl rfl ?_
            refine g_get (pc' := 72) C hi_X10 0 30 rfl rfl (by decide) (List.mem_of_getElem? (i := 3) rfl) rfl dX10_isWord_69 rfl ?_
            refine g_iconst (pc' := 73) (v := 3) C dX10_isWord_72 rfl rfl ?_
            refine g_iaddV (pc' := 74) (v := nI (mfr + 3)) C dX10_isWord_73 (by first | exact (nI_add _ _) | rfl) rfl ?_
            refine g_iald (pc' := 75) C 1 (mfr + 3) rfl rfl (by omega) (by decide) dX10_isWord_74 rfl ?_
            refine g_iload (pc' := 77) C dX10_isWord_75 5 rfl rfl ?_
            refine g_icmp_ne (pc' := 80) (tgt := 105) C dX10_isWord_77 (by decide) rfl (fun c_77 => ?_) (fun c_77 => ?_)
            · refine g_iconst (pc' := 106) (v := 0) C dX10_isWord_105 rfl rfl ?_
              exact g_zret C hr rfl dX10_isWord_106 (by simp only [bz, wm]; simp [c_2, c_18, c_31, c_46, c_61, c_77]) rfl
            · refine g_iload (pc' := 82) C dX10_isWord_80 6 rfl rfl ?_
              refine g_if_eq (pc' := 85) (tgt := 101) C dX10_isWord_82 (by decide) rfl (fun c_82 => ?_) (fun c_82 => ?_)
              · exact absurd c_82 c_2
              · refine g_aload_n (pc' := 86) C dX10_isWord_85 1 rfl rfl rfl ?_
                refine g_get (pc' := 89) C hi_X10 0 3 rfl rfl (by decide) (List.mem_of_getElem? (i := 2) rfl) rfl dX10_isWord_86 rfl ?_
                refine g_aload_n (pc' := 90) C dX10_isWord_89 1 rfl rfl rfl ?_
                refine g_get (pc' := 93) C hi_X10 0 30 rfl rfl (by decide) (List.mem_of_getElem? (i := 3) rfl) rfl dX10_isWord_90 rfl ?_
                refine g_iconst (pc' := 94) (v := 4) C dX10_isWord_93 rfl rfl ?_
                refine g_iaddV (pc' := 95) (v := nI (mfr + 4)) C dX10_isWord_94 (by first | exact (nI_add _ _) | rfl) rfl ?_
                refine g_iald (pc' := 96) C 1 (mfr + 4) rfl rfl (by omega) (by decide) dX10_isWord_95 rfl ?_
                refine g_iload (pc' := 98) C dX10_isWord_96 6 rfl rfl ?_
                refine g_icmp_ne (pc' := 101) (tgt := 105) C dX10_isWord_98 (by decide) rfl (fun c_98 => ?_) (fun c_98 => ?_)
                · refine g_iconst (pc' := 106) (v := 0) C dX10_isWord_105 rfl rfl ?_
                  exact g_zret C hr rfl dX10_isWord_106 (by simp only [bz, wm]; simp [c_2, c_18, c_31, c_46, c_61, c_77, c_82, c_98]) rfl
                · refine g_iconst (pc' := 102) (v := 1) C dX10_isWord_101 rfl rfl ?_
                  refine g_goto (tgt := 106) C dX10_isWord_102 (by decide) ?_
                  exact g_zret C hr rfl dX10_isWord_106 (by simp only [bz, wm]; simp [c_2, c_18, c_31, c_46, c_61, c_77, c_82, c_98]) rfl
  · refine g_iconst (pc' := 6) (v := 4) C dX10_isWord_5 rfl rfl ?_
    skip
    refine g_goto (tgt := 10) C dX10_isWord_6 (by decide) ?_
    refine g_istore (pc' := 12) (lv' := [(6, .int 4), (0, .ref (xa X 46)), (1, .int wa), (2, .int wb), (3, .int w3), (4, .int w4), (5, .int w5)]) C dX10_isWord_10 (by decide) rfl rfl ?_
    refine g_aload_n (pc' := 13) C dX10_isWord_12 1 rfl rfl rfl ?_
    refine g_get (pc' := 16) C hi_X10 0 31 rfl rfl (by decide) (List.mem_of_getElem? (i := 1) rfl) rfl dX10_isWord_13 rfl ?_
    refine g_iload (pc' := 18) C dX10_isWord_16 0 rfl rfl ?_
    refine g_icmp_neN (pc' := 21) (tgt := 105) C mlg 4 rfl rfl (by omega) (by omega) dX10_isWord_18 (by decide) rfl (fun c_18 => ?_) (fun c_18 => ?_)
    · refine g_iconst (pc' := 106) (v := 0) C dX10_isWord_105 rfl rfl ?_
      exact g_zret C hr rfl dX10_isWord_106 (by simp only [bz, wm]; simp [c_2, c_18]) rfl
    · refine g_aload_n (pc' := 22) C dX10_isWord_21 1 rfl rfl rfl ?_
      refine g_get (pc' := 25) C hi_X10 0 3 rfl rfl (by decide) (List.mem_of_getElem? (i := 2) rfl) rfl dX10_isWord_22 rfl ?_
      refine g_aload_n (pc' := 26) C dX10_isWord_25 1 rfl rfl rfl ?_
      refine g_get (pc' := 29) C hi_X10 0 30 rfl rfl (by decide) (List.mem_of_getElem? (i := 3) rfl) rfl dX10_isWord_26 rfl ?_
      refine g_iald (pc' := 30) C 1 mfr rfl rfl (by omega) (by decide) dX10_isWord_29 rfl ?_
      refine g_iload_n (pc' := 31) C dX10_isWord_30 2 rfl rfl rfl ?_
      refine g_icmp_ne (pc' := 34) (tgt := 105) C dX10_isWord_31 (by decide) rfl (fun c_31 => ?_) (fun c_31 => ?_)
      · refine g_iconst (pc' := 106) (v := 0) C dX10_isWord_105 rfl rfl ?_
        exact g_zret C hr rfl dX10_isWord_106 (by simp only [bz, wm]; simp [c_2, c_18, c_31]) rfl
      · refine g_aload_n (pc' := 35) C dX10_isWord_34 1 rfl rfl rfl ?_
        refine g_get (pc' := 38) C hi_X10 0 3 rfl rfl (by decide) (List.mem_of_getElem? (i := 2) rfl) rfl dX10_isWord_35 rfl ?_
        refine g_aload_n (pc' := 39) C dX10_isWord_38 1 rfl rfl rfl ?_
        refine g_get (pc' := 42) C hi_X10 0 30 rfl rfl (by decide) (List.mem_of_getElem? (i := 3) rfl) rfl dX10_isWord_39 rfl ?_
        refine g_iconst (pc' := 43) (v := 1) C dX10_isWord_42 rfl rfl ?_
        refine g_iaddV (pc' := 44) (v := nI (mfr + 1)) C dX10_isWord_43 (by first | exact (nI_add _ _) | rfl) rfl ?_
        refine g_iald (pc' := 45) C 1 (mfr + 1) rfl rfl (by omega) (by decide) dX10_isWord_44 rfl ?_
        refine g_iload_n (pc' := 46) C dX10_isWord_45 3 rfl rfl rfl ?_
        refine g_icmp_ne (pc' := 49) (tgt := 105) C dX10_isWord_46 (by decide) rfl (fun c_46 => ?_) (fun c_46 => ?_)
        · refine g_iconst (pc' := 106) (v := 0) C dX10_isWord_105 rfl rfl ?_
          exact g_zret C hr rfl dX10_isWord_106 (by simp only [bz, wm]; simp [c_2, c_18, c_31, c_46]) rfl
        · refine g_aload_n (pc' := 50) C dX10_isWord_49 1 rfl rfl rfl ?_
          refine g_get (pc' := 53) C hi_X10 0 3 rfl rfl (by decide) (List.mem_of_getElem? (i := 2) rfl) rfl dX10_isWord_50 rfl ?_
          refine g_aload_n (pc' := 54) C dX10_isWord_53 1 rfl rfl rfl ?_
          refine g_get (pc' := 57) C hi_X10 0 30 rfl rfl (by decide) (List.mem_of_getElem? (i := 3) rfl) rfl dX10_isWord_54 rfl ?_
          refine g_iconst (pc' := 58) (v := 2) C dX10_isWord_57 rfl rfl ?_
          refine g_iaddV (pc' := 59) (v := nI (mfr + 2)) C dX10_isWord_58 (by first | exact (nI_add _ _) | rfl) rfl ?_
          refine g_iald (pc' := 60) C 1 (mfr + 2) rfl rfl (by omega) (by decide) dX10_isWord_59 rfl ?_
          refine g_iload_n (pc' := 61) C dX10_isWord_60 4 rfl rfl rfl ?_
          refine g_icmp_ne (pc' := 64) (tgt := 105) C dX10_isWord_61 (by decide) rfl (fun c_61 => ?_) (fun c_61 => ?_)
          · refine g_iconst (pc' := 106) (v := 0) C dX10_isWord_105 rfl rfl ?_
            exact g_zret C hr rfl dX10_isWord_106 (by simp only [bz, wm]; simp [c_2, c_18, c_31, c_46, c_61]) rfl
          · refine g_aload_n (pc' := 65) C dX10_isWord_64 1 rfl rfl rfl ?_
            refine g_get (pc' := 68) C hi_X10 0 3 rfl rfl (by decide) (List.mem_of_getElem? (i := 2) rfl) rfl dX10_isWord_65 rfl ?_
            refine g_aload_n (pc' := 69) C dX10_isWord_68 1 rfl rfl rfl ?_
            refine g_get (pc' := 72) C hi_X10 0 30 rfl rfl (by decide) (List.mem_of_getElem? (i := 3) rfl) rfl dX10_isWord_69 rfl ?_
            refine g_iconst (pc' := 73) (v := 3) C dX10_isWord_72 rfl rfl ?_
            refine g_iaddV (pc' := 74) (v := nI (mfr + 3)) C dX10_isWord_73 (by first | exact (nI_add _ _) | rfl) rfl ?_
            refine g_iald (pc' := 75) C 1 (mfr + 3) rfl rfl (by omega) (by decide) dX10_isWord_74 rfl ?_
            refine g_iload (pc' := 77) C dX10_isWord_75 5 rfl rfl ?_
            refine g_icmp_ne (pc' := 80) (tgt := 105) C dX10_isWord_77 (by decide) rfl (fun c_77 => ?_) (fun c_77 => ?_)
            · refine g_iconst (pc' := 106) (v := 0) C dX10_isWord_105 rfl rfl ?_
              exact g_zret C hr rfl dX10_isWord_106 (by simp only [bz, wm]; simp [c_2, c_18, c_31, c_46, c_61, c_77]) rfl
            · refine g_iload (pc' := 82) C dX10_isWord_80 6 rfl rfl ?_
              refine g_if_eq (pc' := 85) (tgt := 101) C dX10_isWord_82 (by decide) rfl (fun c_82 => ?_) (fun c_82 => ?_)
              · refine g_iconst (pc' := 102) (v := 1) C dX10_isWord_101 rfl rfl ?_
                refine g_goto (tgt := 106) C dX10_isWord_102 (by decide) ?_
                exact g_zret C hr rfl dX10_isWord_106 (by simp only [bz, wm]; simp [c_2, c_18, c_31, c_46, c_61, c_77, c_82]) rfl
              · exact absurd c_2 c_82

set_option maxHeartbeats 1000000 in
set_option maxRecDepth 20000 in
theorem c_X10_kindOf (l : Launch) (X : gX) (mtd : Int32) (mtl : Nat) (mln : Nat) (mwn : Nat) (mdn : Nat) (mon : Nat) (mat : Nat) (mfr : Nat) (mlg : Nat) (mfd : Nat) (f49 : Nat → Int32) (hfl : mfr + mlg ≤ 60) : KC l yX10_kindOf wsX10_kindOf ⟨1, 0, 0, 26⟩ [.ref (xa X 46)] X [oMdl X mtd (nI mtl) (nI mln) (nI mwn) (nI mdn) (nI mon) (nI mat) (nI mfr) (nI mlg) (nI mfd), kA X 49 60 f49] (some (.int (kdN f49 mfr (mfr + mlg)))) [oMdl X mtd (nI mtl) (nI mln) (nI mwn) (nI mdn) (nI mon) (nI mat) (nI mfr) (nI mlg) (nI mfd), kA X 49 60 f49] := by
  have hi_X10 : ∀ w ∈ u_ws RX10 TX10 41, w ∈ wsX10_kindOf := fun w h => List.mem_cons_of_mem _ (List.mem_append_right _ h)
  refine KC.of cX10_kindOf 1 (some .int) RX10 rfl (by decide) rfl (lv := [(0, .ref (xa X 46))]) rfl (Nat.le_of_ble_eq_true rfl) ?_
  intro p e s m args below meth c A C hr
  refine g_aload_n (pc' := 1) C dX10_kindOf_0 0 rfl rfl rfl ?_
  refine g_bipush (pc' := 3) (v := 108) C dX10_kindOf_1 (by decide) rfl ?_
  refine g_bipush (pc' := 5) (v := 97) C dX10_kindOf_3 (by decide) rfl ?_
  refine g_bipush (pc' := 7) (v := 110) C dX10_kindOf_5 (by decide) rfl ?_
  refine g_bipush (pc' := 9) (v := 100) C dX10_kindOf_7 (by decide) rfl ?_
  refine g_iconst (pc' := 10) (v := 0) C dX10_kindOf_9 rfl rfl ?_
  refine g_callV (pc' := 13) (st := []) (ws2 := [oMdl X mtd (nI mtl) (nI mln) (nI mwn) (nI mdn) (nI mon) (nI mat) (nI mfr) (nI mlg) (nI mfd), kA X 49 60 f49]) C [.int 108, .int 97, .int 110, .int 100, .int 0] 5 rfl (c_X10_isWord l X mtd mtl mln mwn mdn mon mat mfr mlg mfd f49 0 108 97 110 100 0 (by first | assumption | omega) (by decide) (by decide)) [0, 1] [] [0, 1] gX10_kindOf_X10_isWord 0 rfl rfl rfl ⟨rfl, rfl⟩ (by decide +kernel) ⟨by decide, by decide⟩ ⟨by decide, by decide⟩ rfl (wr := []) rfl ⟨by decide, by decide, by decide, by decide⟩ rfl (Nat.le_of_ble_eq_true rfl) dX10_kindOf_10 rfl rfl ?_
  by_cases b_10 : wmB f49 mfr (mfr + mlg) 0 = true
  · refine g_top (bz_t b_10) ?_
    refine g_if_eq (pc' := 16) (tgt := 18) C dX10_kindOf_13 (by decide) rfl (fun h => absurd h (by decide)) (fun _ => ?_)
    refine g_iconst (pc' := 17) (v := 1) C dX10_kindOf_16 rfl rfl ?_
    have kx : kdX f49 mfr (mfr + mlg) = 1 := by rw [kdX, if_pos b_10]
    exact g_iret C hr dX10_kindOf_17 (by rw [kdN, kx]; decide) rfl
  · refine g_top (bz_f b_10) ?_
    refine g_if_eq (pc' := 16) (tgt := 18) C dX10_kindOf_13 (by decide) rfl (fun _ => ?_) (fun h => absurd h (by decide))
    refine g_aload_n (pc' := 19) C dX10_kindOf_18 0 rfl rfl rfl ?_
    refine g_bipush (pc' := 21) (v := 103) C dX10_kindOf_19 (by decide) rfl ?_
    refine g_bipush (pc' := 23) (v := 111) C dX10_kindOf_21 (by decide) rfl ?_
    refine g_bipush (pc' := 25) (v := 111) C dX10_kindOf_23 (by decide) rfl ?_
    refine g_bipush (pc' := 27) (v := 100) C dX10_kindOf_25 (by decide) rfl ?_
    refine g_bipush (pc' := 29) (v := 115) C dX10_kindOf_27 (by decide) rfl ?_
    refine g_callV (pc' := 32) (st := []) (ws2 := [oMdl X mtd (nI mtl) (nI mln) (nI mwn) (nI mdn) (nI mon) (nI mat) (nI mfr) (nI mlg) (nI mfd), kA X 49 60 f49]) C [.int 103, .int 111, .int 111, .int 100, .int 115] 5 rfl (c_X10_isWord l X mtd mtl mln mwn mdn mon mat mfr mlg mfd f49 1 103 111 111 100 115 (by first | assumption | omega) (by decide) (by decide)) [0, 1] [] [0, 1] gX10_kindOf_X10_isWord 0 rfl rfl rfl ⟨rfl, rfl⟩ (by decide +kernel) ⟨by decide, by decide⟩ ⟨by decide, by decide⟩ rfl (wr := []) rfl ⟨by decide, by decide, by decide, by decide⟩ rfl (Nat.le_of_ble_eq_true rfl) dX10_kindOf_29 rfl rfl ?_
    by_cases b_29 : wmB f49 mfr (mfr + mlg) 1 = true
    · refine g_top (bz_t b_29) ?_
      refine g_if_eq (pc' := 35) (tgt := 37) C dX10_kindOf_32 (by decide) rfl (fun h => absurd h (by decide)) (fun _ => ?_)
      refine g_iconst (pc' := 36) (v := 2) C dX10_kindOf_35 rfl rfl ?_
      have kx : kdX f49 mfr (mfr + mlg) = 2 := by rw [kdX, if_neg b_10, if_pos b_29]
      exact g_iret C hr dX10_kindOf_36 (by rw [kdN, kx]; decide) rfl
    · refine g_top (bz_f b_29) ?_
      refine g_if_eq (pc' := 35) (tgt := 37) C dX10_kindOf_32 (by decide) rfl (fun _ => ?_) (fun h => absurd h (by decide))
      refine g_aload_n (pc' := 38) C dX10_kindOf_37 0 rfl rfl rfl ?_
      refine g_bipush (pc' := 40) (v := 104) C dX10_kindOf_38 (by decide) rfl ?_
      refine g_bipush (pc' := 42) (v := 101) C dX10_kindOf_40 (by decide) rfl ?_
      refine g_bipush (pc' := 44) (v := 97) C dX10_kindOf_42 (by decide) rfl ?_
      refine g_bipush (pc' := 46) (v := 100) C dX10_kindOf_44 (by decide) rfl ?_
      refine g_bipush (pc' := 48) (v := 115) C dX10_kindOf_46 (by decide) rfl ?_
      refine g_callV (pc' := 51) (st := []) (ws2 := [oMdl X mtd (nI mtl) (nI mln) (nI mwn) (nI mdn) (nI mon) (nI mat) (nI mfr) (nI mlg) (nI mfd), kA X 49 60 f49]) C [.int 104, .int 101, .int 97, .int 100, .int 115] 5 rfl (c_X10_isWord l X mtd mtl mln mwn mdn mon mat mfr mlg mfd f49 2 104 101 97 100 115 (by first | assumption | omega) (by decide) (by decide)) [0, 1] [] [0, 1] gX10_kindOf_X10_isWord 0 rfl rfl rfl ⟨rfl, rfl⟩ (by decide +kernel) ⟨by decide, by decide⟩ ⟨by decide, by decide⟩ rfl (wr := []) rfl ⟨by decide, by decide, by decide, by decide⟩ rfl (Nat.le_of_ble_eq_true rfl) dX10_kindOf_48 rfl rfl ?_
      by_cases b_48 : wmB f49 mfr (mfr + mlg) 2 = true
      · refine g_top (bz_t b_48) ?_
        refine g_if_eq (pc' := 54) (tgt := 56) C dX10_kindOf_51 (by decide) rfl (fun h => absurd h (by decide)) (fun _ => ?_)
        refine g_iconst (pc' := 55) (v := 3) C dX10_kindOf_54 rfl rfl ?_
        have kx : kdX f49 mfr (mfr + mlg) = 3 := by rw [kdX, if_neg b_10, if_neg b_29, if_pos b_48]
        exact g_iret C hr dX10_kindOf_55 (by rw [kdN, kx]; decide) rfl
      · refine g_top (bz_f b_48) ?_
        refine g_if_eq (pc' := 54) (tgt := 56) C dX10_kindOf_51 (by decide) rfl (fun _ => ?_) (fun h => absurd h (by decide))
        refine g_aload_n (pc' := 57) C dX10_kindOf_56 0 rfl rfl rfl ?_
        refine g_bipush (pc' := 59) (v := 111) C dX10_kindOf_57 (by decide) rfl ?_
        refine g_bipush (pc' := 61) (v := 119) C dX10_kindOf_59 (by decide) rfl ?_
        refine g_bipush (pc' := 63) (v := 101) C dX10_kindOf_61 (by decide) rfl ?_
        refine g_bipush (pc' := 65) (v := 115) C dX10_kindOf_63 (by decide) rfl ?_
        refine g_iconst (pc' := 66) (v := 0) C dX10_kindOf_65 rfl rfl ?_
        refine g_callV (pc' := 69) (st := []) (ws2 := [oMdl X mtd (nI mtl) (nI mln) (nI mwn) (nI mdn) (nI mon) (nI mat) (nI mfr) (nI mlg) (nI mfd), kA X 49 60 f49]) C [.int 111, .int 119, .int 101, .int 115, .int 0] 5 rfl (c_X10_isWord l X mtd mtl mln mwn mdn mon mat mfr mlg mfd f49 3 111 119 101 115 0 (by first | assumption | omega) (by decide) (by decide)) [0, 1] [] [0, 1] gX10_kindOf_X10_isWord 0 rfl rfl rfl ⟨rfl, rfl⟩ (by decide +kernel) ⟨by decide, by decide⟩ ⟨by decide, by decide⟩ rfl (wr := []) rfl ⟨by decide, by decide, by decide, by decide⟩ rfl (Nat.le_of_ble_eq_true rfl) dX10_kindOf_66 rfl rfl ?_
        by_cases b_66 : wmB f49 mfr (mfr + mlg) 3 = true
        · refine g_top (bz_t b_66) ?_
          refine g_if_eq (pc' := 72) (tgt := 74) C dX10_kindOf_69 (by decide) rfl (fun h => absurd h (by decide)) (fun _ => ?_)
          refine g_iconst (pc' := 73) (v := 4) C dX10_kindOf_72 rfl rfl ?_
          have kx : kdX f49 mfr (mfr + mlg) = 4 := by rw [kdX, if_neg b_10, if_neg b_29, if_neg b_48, if_pos b_66]
          exact g_iret C hr dX10_kindOf_73 (by rw [kdN, kx]; decide) rfl
        · refine g_top (bz_f b_66) ?_
          refine g_if_eq (pc' := 72) (tgt := 74) C dX10_kindOf_69 (by decide) rfl (fun _ => ?_) (fun h => absurd h (by decide))
          refine g_aload_n (pc' := 75) C dX10_kindOf_74 0 rfl rfl rfl ?_
          refine g_bipush (pc' := 77) (v := 108) C dX10_kindOf_75 (by decide) rfl ?_
          refine g_bipush (pc' := 79) (v := 101) C dX10_kindOf_77 (by decide) rfl ?_
          refine g_bipush (pc' := 81) (v := 110) C dX10_kindOf_79 (by decide) rfl ?_
          refine g_bipush (pc' := 83) (v := 116) C dX10_kindOf_81 (by decide) rfl ?_
          refine g_iconst (pc' := 84) (v := 0) C dX10_kindOf_83 rfl rfl ?_
          refine g_callV (pc' := 87) (st := []) (ws2 := [oMdl X mtd (nI mtl) (nI mln) (nI mwn) (nI mdn) (nI mon) (nI mat) (nI mfr) (nI mlg) (nI mfd), kA X 49 60 f49]) C [.int 108, .int 101, .int 110, .int 116, .int 0] 5 rfl (c_X10_isWord l X mtd mtl mln mwn mdn mon mat mfr mlg mfd f49 4 108 101 110 116 0 (by first | assumption | omega) (by decide) (by decide)) [0, 1] [] [0, 1] gX10_kindOf_X10_isWord 0 rfl rfl rfl ⟨rfl, rfl⟩ (by decide +kernel) ⟨by decide, by decide⟩ ⟨by decide, by decide⟩ rfl (wr := []) rfl ⟨by decide, by decide, by decide, by decide⟩ rfl (Nat.le_of_ble_eq_true rfl) dX10_kindOf_84 rfl rfl ?_
          by_cases b_84 : wmB f49 mfr (mfr + mlg) 4 = true
          · refine g_top (bz_t b_84) ?_
            refine g_if_eq (pc' := 90) (tgt := 94) C dX10_kindOf_87 (by decide) rfl (fun h => absurd h (by decide)) (fun _ => ?_)
            refine g_iconst (pc' := 91) (v := 5) C dX10_kindOf_90 rfl rfl ?_
            have kx : kdX f49 mfr (mfr + mlg) = 5 := by rw [kdX, if_neg b_10, if_neg b_29, if_neg b_48, if_neg b_66, if_pos b_84]
            refine g_goto (tgt := 95) C dX10_kindOf_91 (by decide) ?_
            exact g_iret C hr dX10_kindOf_95 (by rw [kdN, kx]; decide) rfl
          · refine g_top (bz_f b_84) ?_
            refine g_if_eq (pc' := 90) (tgt := 94) C dX10_kindOf_87 (by decide) rfl (fun _ => ?_) (fun h => absurd h (by decide))
            refine g_iconst (pc' := 95) (v := 0) C dX10_kindOf_94 rfl rfl ?_
            have kx : kdX f49 mfr (mfr + mlg) = (-1) := by rw [kdX, if_neg b_10, if_neg b_29, if_neg b_48, if_neg b_66, if_neg b_84]
            exact g_iret C hr dX10_kindOf_95 (by rw [kdN, kx]; decide) rfl

set_option maxHeartbeats 1000000 in
set_option maxRecDepth 20000 in
theorem c_X10_numberOf (l : Launch) (X : gX) (mtd : Int32) (mtl : Nat) (mln : Nat) (mwn : Nat) (mdn : Nat) (mon : Nat) (mat : Nat) (mfr : Nat) (mlg : Nat) (mfd : Nat) (f49 : Nat → Int32) (hfl : mfr + mlg ≤ 60) : KC l yX10_numberOf wsX10_numberOf ⟨1, 0, 0, 22⟩ [.ref (xa X 46)] X [oMdl X mtd (nI mtl) (nI mln) (nI mwn) (nI mdn) (nI mon) (nI mat) (nI mfr) (nI mlg) (nI mfd), kA X 49 60 f49] (some (.int (nmV f49 mfr (mfr + mlg)))) [oMdl X mtd (nI mtl) (nI mln) (nI mwn) (nI mdn) (nI mon) (nI mat) (nI mfr) (nI mlg) (nI mfd), kA X 49 60 f49] := by
  have hi_X10 : ∀ w ∈ u_ws RX10 TX10 41, w ∈ wsX10_numberOf := fun w h => List.mem_cons_of_mem _ (List.mem_append_right _ h)
  refine KC.of cX10_numberOf 3 (some .int) RX10 rfl (by decide) rfl (lv := [(0, .ref (xa X 46))]) rfl (Nat.le_of_ble_eq_true rfl) ?_
  intro p e s m args below meth c A C hr
  refine g_iconst (pc' := 1) (v := 0) C dX10_numberOf_0 rfl rfl ?_
  refine g_istore_n (pc' := 2) (lv' := [(1, .int 0), (0, .ref (xa X 46))]) C dX10_numberOf_1 rfl (by decide) rfl rfl ?_
  refine g_aload_n (pc' := 3) C dX10_numberOf_2 1 rfl rfl rfl ?_
  refine g_get (pc' := 6) C hi_X10 0 30 rfl rfl (by decide) (List.mem_of_getElem? (i := 1) rfl) rfl dX10_numberOf_3 rfl ?_
  refine g_istore_n (pc' := 7) (lv' := [(2, .int (nI mfr)), (1, .int 0), (0, .ref (xa X 46))]) C dX10_numberOf_6 rfl (by decide) rfl rfl ?_
  have lp_7 : ∀ (n_7 : Nat) (k : Nat) (v : Int32) (hk : mfr ≤ k ∧ k ≤ mfr + mlg) (hf : tvF f49 mlg mfr 0 = tvF f49 (mfr + mlg - k) k v) (hm_7 : mfr + mlg - k < n_7), gG p l e ⟨1, 0, 0, 22⟩ s m args below meth c X A 3 0 0 (MQ below (QA X A (some (.int (nmV f49 mfr (mfr + mlg)))) [oMdl X mtd (nI mtl) (nI mln) (nI mwn) (nI mdn) (nI mon) (nI mat) (nI mfr) (nI mlg) (nI mfd), kA X 49 60 f49]) args s 0 0 A) [(0, .ref (xa X 46)), (1, .int v), (2, .int (nI k))] [oMdl X mtd (nI mtl) (nI mln) (nI mwn) (nI mdn) (nI mon) (nI mat) (nI mfr) (nI mlg) (nI mfd), kA X 49 60 f49] 7 [] := by
    intro n_7
    induction n_7 with
    | zero => intro k v hk hf hm_7; exact absurd hm_7 (Nat.not_lt_zero _)
    | succ n_7 ih_7 =>
      intro k v hk hf hm_7
      refine g_iload_n (pc' := 8) C dX10_numberOf_7 2 rfl rfl rfl ?_
      refine g_aload_n (pc' := 9) C dX10_numberOf_8 0 rfl rfl rfl ?_
      refine g_get (pc' := 12) C hi_X10 0 30 rfl rfl (by decide) (List.mem_of_getElem? (i := 1) rfl) rfl dX10_numberOf_9 rfl ?_
      refine g_aload_n (pc' := 13) C dX10_numberOf_12 0 rfl rfl rfl ?_
      refine g_get (pc' := 16) C hi_X10 0 31 rfl rfl (by decide) (List.mem_of_getElem? (i := 2) rfl) rfl dX10_numberOf_13 rfl ?_
      refine g_iaddV (pc' := 17) (v := nI (mfr + mlg)) C dX10_numberOf_16 (by first | exact (nI_add _ _) | rfl) rfl ?_
      refine g_icmp_geN (pc' := 20) (tgt := 72) C k (mfr + mlg) rfl rfl (by omega) (by omega) dX10_numberOf_17 (by decide) rfl (fun c_17 => ?_) (fun c_17 => ?_)
      · refine g_aload_n (pc' := 73) C dX10_numberOf_72 0 rfl rfl rfl ?_
        refine g_get (pc' := 76) C hi_X10 0 31 rfl rfl (by decide) (List.mem_of_getElem? (i := 2) rfl) rfl dX10_numberOf_73 rfl ?_
        refine g_if_neN (pc' := 79) (tgt := 83) C mlg rfl (by omega) dX10_numberOf_76 (by decide) rfl (fun c_76 => ?_) (fun c_76 => ?_)
        · refine g_iload_n (pc' := 84) C dX10_numberOf_83 1 rfl rfl rfl ?_
          skip
          exact g_iret C hr dX10_numberOf_84 (by rw [nmV, if_pos (by omega), show mfr + mlg - mfr = mlg by omega, hf, show mfr + mlg - k = 0 by omega]; rfl) rfl
        · refine g_iconst (pc' := 80) (v := (-1)) C dX10_numberOf_79 rfl rfl ?_
          refine g_goto (tgt := 84) C dX10_numberOf_80 (by decide) ?_
          exact g_iret C hr dX10_numberOf_84 (by rw [nmV, if_neg (by omega)]) rfl
      · refine g_aload_n (pc' := 21) C dX10_numberOf_20 0 rfl rfl rfl ?_
        refine g_get (pc' := 24) C hi_X10 0 3 rfl rfl (by decide) (List.mem_of_getElem? (i := 3) rfl) rfl dX10_numberOf_21 rfl ?_
        refine g_iload_n (pc' := 25) C dX10_numberOf_24 2 rfl rfl rfl ?_
        refine g_iald (pc' := 26) C 1 k rfl rfl (by omega) (by decide) dX10_numberOf_25 rfl ?_
        refine g_bipush (pc' := 28) (v := 48) C dX10_numberOf_26 (by decide) rfl ?_
        refine g_bipush (pc' := 30) (v := 57) C dX10_numberOf_28 (by decide) rfl ?_
        refine g_callS (pc' := 33) (st := []) (ws2 := [oMdl X mtd (nI mtl) (nI mln) (nI mwn) (nI mdn) (nI mon) (nI mat) (nI mfr) (nI mlg) (nI mfd), kA X 49 60 f49]) C [.int (f49 k), .int 48, .int 57] 3 rfl (c_X10_isIn l X (f49 k) 48 57 ) [] [0, 1] [0, 1] gX10_numberOf_X10_isIn rfl ⟨rfl, rfl⟩ (by decide +kernel) ⟨by decide, by decide⟩ ⟨by decide, by decide⟩ rfl (wr := [oMdl X mtd (nI mtl) (nI mln) (nI mwn) (nI mdn) (nI mon) (nI mat) (nI mfr) (nI mlg) (nI mfd), kA X 49 60 f49]) rfl ⟨by decide, by decide, by decide, by decide⟩ rfl (Nat.le_of_ble_eq_true rfl) dX10_numberOf_30 rfl rfl ?_
        by_cases b_30 : 48 ≤ (f49 k) ∧ (f49 k) ≤ 57
        · refine g_top (bz_t b_30) ?_
          refine g_if_ne (pc' := 36) (tgt := 38) C dX10_numberOf_33 (by decide) rfl (fun _ => ?_) (fun h => absurd h (by decide))
          refine g_bipush (pc' := 40) (v := 10) C dX10_numberOf_38 (by decide) rfl ?_
          refine g_iload_n (pc' := 41) C dX10_numberOf_40 1 rfl rfl rfl ?_
          refine g_imul (pc' := 42) C dX10_numberOf_41 rfl ?_
          refine g_aload_n (pc' := 43) C dX10_numberOf_42 0 rfl rfl rfl ?_
          refine g_get (pc' := 46) C hi_X10 0 3 rfl rfl (by decide) (List.mem_of_getElem? (i := 3) rfl) rfl dX10_numberOf_43 rfl ?_
          refine g_iload_n (pc' := 47) C dX10_numberOf_46 2 rfl rfl rfl ?_
          refine g_iald (pc' := 48) C 1 k rfl rfl (by omega) (by decide) dX10_numberOf_47 rfl ?_
          refine g_iadd (pc' := 49) C dX10_numberOf_48 rfl ?_
          refine g_bipush (pc' := 51) (v := 48) C dX10_numberOf_49 (by decide) rfl ?_
          refine g_isub (pc' := 52) C dX10_numberOf_51 rfl ?_
          refine g_top (y := v * 10 + (f49 k - 48)) (by grind) ?_
          refine g_istore_n (pc' := 53) (lv' := [(1, .int (v * 10 + (f49 k - 48))), (0, .ref (xa X 46)), (2, .int (nI k))]) C dX10_numberOf_52 rfl (by decide) rfl rfl ?_
          refine g_iload_n (pc' := 54) C dX10_numberOf_53 0 rfl rfl rfl ?_
          refine g_ldc (pc' := 56) (v := 100000) C (List.mem_of_getElem? (i := 4) rfl) dX10_numberOf_54 rfl ?_
          refine g_icmp_le (pc' := 59) (tgt := 64) C dX10_numberOf_56 (by decide) rfl (fun c_56 => ?_) (fun c_56 => ?_)
          · refine g_iload_n (pc' := 65) C dX10_numberOf_64 0 rfl rfl rfl ?_
            have c9 : ¬ 100000 < v * 10 + (f49 k - 48) := Int32.not_lt.mpr c_56
            refine g_istore_n (pc' := 66) (lv' := [(1, .int (v * 10 + (f49 k - 48))), (0, .ref (xa X 46)), (2, .int (nI k))]) C dX10_numberOf_65 rfl (by decide) rfl rfl ?_
            refine g_iinc (pc' := 69) (v := nI (k + 1)) (lv' := [(2, .int (nI (k + 1))), (1, .int (v * 10 + (f49 k - 48))), (0, .ref (xa X 46))]) C dX10_numberOf_66 2 rfl (nI_1 _) (by decide) rfl rfl ?_
            refine g_goto (tgt := 7) C dX10_numberOf_69 (by decide) ?_
            refine g_lv (lv2 := [(0, .ref (xa X 46)), (1, .int (v * 10 + (f49 k - 48))), (2, .int (nI (k + 1)))]) [2, 1, 0] rfl ?_
            refine g_eq (lv2 := [(0, .ref (xa X 46)), (1, .int (v * 10 + (f49 k - 48))), (2, .int (nI (k + 1)))]) (ws2 := [oMdl X mtd (nI mtl) (nI mln) (nI mwn) (nI mdn) (nI mon) (nI mat) (nI mfr) (nI mlg) (nI mfd), kA X 49 60 f49]) (st2 := []) (congrArg (fun zq_ : Int32 => ([(0, .ref (xa X 46)), (1, .int zq_), (2, .int (nI (k + 1)))] : List (Nat × Value))) (show (v * 10 + (f49 k - 48) : Int32) = (v * 10 + (f49 k - 48)) from (by first | rfl | omega | (simp [c_17, b_30, c_56]; done) | (simp [c_17, b_30, c_56]; omega) | (simp [c_17, b_30, c_56]; intros; exfalso; omega) | grind []))) rfl rfl ?_
            exact ih_7 (k + 1) (v * 10 + (f49 k - 48)) (by omega) (hf.trans (by rw [show mfr + mlg - k = (mfr + mlg - (k + 1)) + 1 by omega, tvF, if_pos b_30, dgS, if_neg c9])) (by omega)
          · refine g_ldc (pc' := 61) (v := 100000) C (List.mem_of_getElem? (i := 4) rfl) dX10_numberOf_59 rfl ?_
            have c9 : 100000 < v * 10 + (f49 k - 48) := by first | exact c_56 | exact Int32.not_le.mp c_56
            refine g_goto (tgt := 65) C dX10_numberOf_61 (by decide) ?_
            refine g_istore_n (pc' := 66) (lv' := [(1, .int 100000), (0, .ref (xa X 46)), (2, .int (nI k))]) C dX10_numberOf_65 rfl (by decide) rfl rfl ?_
            refine g_iinc (pc' := 69) (v := nI (k + 1)) (lv' := [(2, .int (nI (k + 1))), (1, .int 100000), (0, .ref (xa X 46))]) C dX10_numberOf_66 2 rfl (nI_1 _) (by decide) rfl rfl ?_
            refine g_goto (tgt := 7) C dX10_numberOf_69 (by decide) ?_
            refine g_lv (lv2 := [(0, .ref (xa X 46)), (1, .int 100000), (2, .int (nI (k + 1)))]) [2, 1, 0] rfl ?_
            exact ih_7 (k + 1) 100000 (by omega) (hf.trans (by rw [show mfr + mlg - k = (mfr + mlg - (k + 1)) + 1 by omega, tvF, if_pos b_30, dgS, if_pos c9])) (by omega)
        · refine g_top (bz_f b_30) ?_
          refine g_if_ne (pc' := 36) (tgt := 38) C dX10_numberOf_33 (by decide) rfl (fun h => absurd h (by decide)) (fun _ => ?_)
          refine g_iconst (pc' := 37) (v := (-1)) C dX10_numberOf_36 rfl rfl ?_
          exact g_iret C hr dX10_numberOf_37 (by rw [nmV, if_pos (by omega), show mfr + mlg - mfr = mlg by omega, hf, show mfr + mlg - k = (mfr + mlg - (k + 1)) + 1 by omega, tvF, if_neg b_30]) rfl
  refine g_lv (lv2 := [(0, .ref (xa X 46)), (1, .int 0), (2, .int (nI mfr))]) [2, 1, 0] rfl ?_
  exact lp_7 (mfr + mlg - mfr + 1) mfr 0 (by omega) (by rw [show mfr + mlg - mfr = mlg by omega]) (by omega)

