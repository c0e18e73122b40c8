def skB (t : Nat → Int32) (n : Nat) : Nat → Nat → Nat
  | 0, p => p
  | f + 1, p => if p < n ∧ t p = 32 then skB t n f (p + 1) else p
def skW (t : Nat → Int32) (n : Nat) : Nat → Nat → Nat
  | 0, p => p
  | f + 1, p => if p < n ∧ (¬ t p = 32 ∧ ¬ t p = 44) then skW t n f (p + 1) else p
def nxS (t : Nat → Int32) (n p : Nat) : Nat := skB t n (n - p) p
def nxE (t : Nat → Int32) (n p : Nat) : Nat := if skW t n (n - nxS t n p) (nxS t n p) = nxS t n p ∧ nxS t n p < n then nxS t n p + 1 else skW t n (n - nxS t n p) (nxS t n p)
theorem skB_go {t : Nat → Int32} {n p : Nat} (h : p < n) (h1 : t p = 32) : skB t n (n - p) p = skB t n (n - (p + 1)) (p + 1) := by
  rw [show n - p = (n - (p + 1)) + 1 by omega, skB, if_pos ⟨h, h1⟩]
theorem skB_at {t : Nat → Int32} {n p : Nat} (h : n ≤ p ∨ ¬ t p = 32) : skB t n (n - p) p = p := by
  cases e : n - p with
  | zero => rfl
  | succ f =>
    rw [skB, if_neg]
    intro z
    rcases h with h | h
    · omega
    · exact h z.2
theorem skW_go {t : Nat → Int32} {n p : Nat} (h : p < n) (h1 : ¬ t p = 32 ∧ ¬ t p = 44) : skW t n (n - p) p = skW t n (n - (p + 1)) (p + 1) := by
  rw [show n - p = (n - (p + 1)) + 1 by omega, skW, if_pos ⟨h, h1⟩]
theorem skW_at {t : Nat → Int32} {n p : Nat} (h : n ≤ p ∨ ¬ (¬ t p = 32 ∧ ¬ t p = 44)) : skW t n (n - p) p = p := by
  cases e : n - p with
  | zero => rfl
  | succ f =>
    rw [skW, if_neg]
    intro z
    rcases h with h | h
    · omega
    · exact h z.2
theorem skB_b {t : Nat → Int32} {n : Nat} : ∀ f p, p ≤ n → p ≤ skB t n f p ∧ skB t n f p ≤ n := by
  intro f
  induction f with
  | zero => intro p h; exact ⟨Nat.le_refl _, h⟩
  | succ f ih =>
    intro p h
    rw [skB]
    split
    · rename_i c
      have := ih (p + 1) (by omega)
      omega
    · exact ⟨Nat.le_refl _, h⟩
theorem skW_b {t : Nat → Int32} {n : Nat} : ∀ f p, p ≤ n → p ≤ skW t n f p ∧ skW t n f p ≤ n := by
  intro f
  induction f with
  | zero => intro p h; exact ⟨Nat.le_refl _, h⟩
  | succ f ih =>
    intro p h
    rw [skW]
    split
    · rename_i c
      have := ih (p + 1) (by omega)
      omega
    · exact ⟨Nat.le_refl _, h⟩
theorem nxS_b {t : Nat → Int32} {n p : Nat} (h : p ≤ n) : p ≤ nxS t n p ∧ nxS t n p ≤ n := skB_b _ p h
theorem nxE_b {t : Nat → Int32} {n p : Nat} (h : p ≤ n) : nxS t n p ≤ nxE t n p ∧ nxE t n p ≤ n := by
  have h1 := nxS_b (t := t) h
  have h2 := skW_b (t := t) (n - nxS t n p) (nxS t n p) h1.2
  unfold nxE
  split
  · rename_i c; omega
  · exact h2
/-- where blanks end there is none -/
theorem skB_stop {t : Nat → Int32} {n : Nat} : ∀ f p, n - p ≤ f → skB t n f p < n → ¬ t (skB t n f p) = 32 := by
  intro f
  induction f with
  | zero => intro p h1 h2; rw [skB] at h2; omega
  | succ f ih =>
    intro p h1 h2
    rw [skB] at h2 ⊢
    split
    · rename_i c
      rw [if_pos c] at h2
      exact ih (p + 1) (by omega) h2
    · rename_i c
      rw [if_neg c] at h2
      exact fun z => c ⟨h2, z⟩
theorem nxS_stop {t : Nat → Int32} {n p : Nat} (h : nxS t n p < n) : ¬ t (nxS t n p) = 32 := skB_stop _ p (Nat.le_refl _) h
theorem skW_stop {t : Nat → Int32} {n : Nat} : ∀ f p, n - p ≤ f → skW t n f p < n → ¬ (¬ t (skW t n f p) = 32 ∧ ¬ t (skW t n f p) = 44) := by
  intro f
  induction f with
  | zero => intro p h1 h2; rw [skW] at h2; omega
  | succ f ih =>
    intro p h1 h2
    rw [skW] at h2 ⊢
    split
    · rename_i c
      rw [if_pos c] at h2
      exact ih (p + 1) (by omega) h2
    · rename_i c
      rw [if_neg c] at h2
      exact fun z => c ⟨h2, z⟩
theorem skW_in {t : Nat → Int32} {n : Nat} : ∀ f p i, p ≤ i → i < skW t n f p → ¬ t i = 32 ∧ ¬ t i = 44 := by
  intro f
  induction f with
  | zero => intro p i h1 h2; rw [skW] at h2; omega
  | succ f ih =>
    intro p i h1 h2
    rw [skW] at h2
    split at h2
    · rename_i c
      by_cases e : i = p
      · subst e; exact c.2
      · exact ih (p + 1) i (by omega) h2
    · omega
def dgS (v x : Int32) : Int32 := if 100000 < v * 10 + (x - 48) then 100000 else v * 10 + (x - 48)
def tvF (t : Nat → Int32) : Nat → Nat → Int32 → Int32
  | 0, _, v => v
  | c + 1, i, v => if 48 ≤ t i ∧ t i ≤ 57 then tvF t c (i + 1) (dgS v (t i)) else (-1)
def nmV (t : Nat → Int32) (s e : Nat) : Int32 := if s < e then tvF t (e - s) s 0 else (-1)
theorem byte_sub {x : Int32} (h : 0 ≤ x ∧ x ≤ 255) : (x - 48 < 0 ↔ ¬ 48 ≤ x) ∧ (x - 48 ≤ 9 ↔ x ≤ 57) := by
  have a := Int32.le_iff_toInt_le.mp h.1
  have b := Int32.le_iff_toInt_le.mp h.2
  have e0 : (0 : Int32).toInt = 0 := by decide
  have e9 : (9 : Int32).toInt = 9 := by decide
  have e48 : (48 : Int32).toInt = 48 := by decide
  have e57 : (57 : Int32).toInt = 57 := by decide
  have e255 : (255 : Int32).toInt = 255 := by decide
  have e : (x - 48).toInt = x.toInt - 48 := by
    rw [Int32.toInt_sub, e48]
    exact Int.bmod_eq_of_le (by omega) (by omega)
  rw [Int32.lt_iff_toInt_lt, Int32.le_iff_toInt_le, Int32.le_iff_toInt_le, Int32.le_iff_toInt_le, e]
  omega
def wmB (t : Nat → Int32) (s e i : Nat) : Bool := decide (e - s = jsL.getD i 0) && (List.range (jsL.getD i 0)).all (fun j => decide (t (s + j) = jch i j))
theorem wmB_iff {t : Nat → Int32} {s e i : Nat} : wmB t s e i = true ↔ e - s = jsL.getD i 0 ∧ ∀ j, j < jsL.getD i 0 → t (s + j) = jch i j := by
  unfold wmB
  simp
def kdX (t : Nat → Int32) (s e : Nat) : Int32 := if wmB t s e 0 = true then 1 else if wmB t s e 1 = true then 2 else if wmB t s e 2 = true then 3 else if wmB t s e 3 = true then 4 else if wmB t s e 4 = true then 5 else (-1)
def mok (k : Int32) : Int32 := if k = 1 then 500 else if k = 3 then 50 else 9999
section LN
variable (t : Nat → Int32) (n : Nat) (h : Int32) (p : Nat)
def lnK : Int32 := kdX t (nxS t n p) (nxE t n p)
def lnV2 : Int32 := nmV t (nxS t n (nxE t n p)) (nxE t n (nxE t n p))
def lnA : Nat := if lnK t n p = 1 ∨ lnK t n p = 4 ∨ lnK t n p = 5 then nxE t n (nxE t n p) else nxE t n p
def lnOf : Int32 := if lnK t n p = 1 then (if inR (lnV2 t n p) 0 11 then lnV2 t n p else (-1000000005)) else if lnK t n p = 4 ∨ lnK t n p = 5 then (if inR (lnV2 t n p) 0 9 then lnV2 t n p else (-1000000005)) else (-1000000005)
def lnF2 : Int32 := if lnK t n p = (-1) then nI (nxS t n p) else if lnK t n p = 1 then (if inR (lnV2 t n p) 0 11 then (-1) else nI (nxS t n (nxE t n p))) else if lnK t n p = 4 ∨ lnK t n p = 5 then (if inR (lnV2 t n p) 0 9 ∧ ¬ lnV2 t n p = h then (-1) else nI (nxS t n (nxE t n p))) else (-1)
def lnN : Int32 := nmV t (nxS t n (lnA t n p)) (nxE t n (lnA t n p))
def lnF3 : Int32 := if lnF2 t n h p = (-1) then (if inR (lnN t n p) 1 (mok (lnK t n p)) then (-1) else nI (nxS t n (lnA t n p))) else lnF2 t n h p
def lnS : Nat := if lnF2 t n h p = (-1) then nxS t n (lnA t n p) else if lnK t n p = (-1) then nxS t n p else nxS t n (nxE t n p)
def lnE : Nat := if lnF2 t n h p = (-1) then nxE t n (lnA t n p) else if lnK t n p = (-1) then nxE t n p else nxE t n (nxE t n p)
def paF : Nat → Nat → Int32 × Nat × Nat × Nat
  | 0, q => (-1, 0, 0, q)
  | f + 1, q => if lnF3 t n h q = (-1) then (if nxS t n (lnE t n h q) < n then (if t (nxS t n (lnE t n h q)) = 44 then ((paF f (nxE t n (lnE t n h q))).1, (paF f (nxE t n (lnE t n h q))).2.1 + 1, (paF f (nxE t n (lnE t n h q))).2.2.1, (paF f (nxE t n (lnE t n h q))).2.2.2) else (nI (nxS t n (lnE t n h q)), 1, nxS t n (lnE t n h q), nxE t n (lnE t n h q))) else (-1, 1, nxS t n (lnE t n h q), nxE t n (lnE t n h q))) else (lnF3 t n h q, 0, lnS t n h q, lnE t n h q)
def poF : Nat → Nat
  | 0 => 0
  | j + 1 => nxE t n (lnE t n h (poF j))
end LN
theorem lnE_b {t : Nat → Int32} {n : Nat} {h : Int32} {p : Nat} (hp : p ≤ n) : lnE t n h p ≤ n := by
  have h1 := nxE_b (t := t) hp
  have h2 := nxE_b (t := t) h1.2
  have h3 : lnA t n p ≤ n := by unfold lnA; split; exact h2.2; exact h1.2
  have h4 := nxE_b (t := t) h3
  unfold lnE
  split
  · exact h4.2
  · split
    · exact h1.2
    · exact h2.2
theorem wm_len {t : Nat → Int32} {s e i : Nat} (h : wmB t s e i = true) (hi : i < 5) : s + 4 ≤ e ∧ (i = 1 ∨ i = 2 → s + 5 ≤ e) := by
  have h1 := (wmB_iff.mp h).1
  have h9 : i = 0 ∨ i = 1 ∨ i = 2 ∨ i = 3 ∨ i = 4 := by omega
  rcases h9 with e9 | e9 | e9 | e9 | e9 <;> subst e9 <;> simp [jsL] at h1 <;> omega
theorem kdX_len {t : Nat → Int32} {s e : Nat} (h : ¬ kdX t s e = (-1)) : s + 4 ≤ e ∧ (kdX t s e = 1 ∨ kdX t s e = 4 ∨ kdX t s e = 5 ∨ s + 5 ≤ e) := by
  unfold kdX at h ⊢
  by_cases c0 : wmB t s e 0 = true
  · rw [if_pos c0]; exact ⟨(wm_len c0 (by decide)).1, Or.inl rfl⟩
  · rw [if_neg c0] at h ⊢
    by_cases c1 : wmB t s e 1 = true
    · rw [if_pos c1]; have := wm_len c1 (by decide); exact ⟨this.1, Or.inr (Or.inr (Or.inr (this.2 (Or.inl rfl))))⟩
    · rw [if_neg c1] at h ⊢
      by_cases c2 : wmB t s e 2 = true
      · rw [if_pos c2]; have := wm_len c2 (by decide); exact ⟨this.1, Or.inr (Or.inr (Or.inr (this.2 (Or.inr rfl))))⟩
      · rw [if_neg c2] at h ⊢
        by_cases c3 : wmB t s e 3 = true
        · rw [if_pos c3]; exact ⟨(wm_len c3 (by decide)).1, Or.inr (Or.inl rfl)⟩
        · rw [if_neg c3] at h ⊢
          by_cases c4 : wmB t s e 4 = true
          · rw [if_pos c4]; exact ⟨(wm_len c4 (by decide)).1, Or.inr (Or.inr (Or.inl rfl))⟩
          · rw [if_neg c4] at h; exact absurd rfl h
/-- a number's first byte is a digit -/
theorem nmV_dg {t : Nat → Int32} {s e : Nat} {v : Int32} (h : nmV t s e = v) (hv : 0 ≤ v) : s < e ∧ 48 ≤ t s := by
  unfold nmV at h
  by_cases c : s < e
  · refine ⟨c, ?_⟩
    rw [if_pos c, show e - s = (e - s - 1) + 1 by omega, tvF] at h
    by_cases d : 48 ≤ t s ∧ t s ≤ 57
    · exact d.1
    · rw [if_neg d] at h; rw [← h] at hv; exact absurd hv (by decide)
  · rw [if_neg c] at h; rw [← h] at hv; exact absurd hv (by decide)
/-- a token behind a word, that is a number: a blank lies between -/
theorem num_gap {t : Nat → Int32} {n q : Nat} (hq : q ≤ n) (hw : q < n → t q = 32 ∨ t q = 44) {v : Int32} (hn : nmV t (nxS t n q) (nxE t n q) = v) (hv : 0 ≤ v) : q + 2 ≤ nxE t n q := by
  obtain ⟨h1, h2⟩ := nmV_dg hn hv
  have hb := nxS_b (t := t) hq
  have hc := nxE_b (t := t) hq
  by_cases e : nxS t n q = q
  · rw [e] at h1 h2
    rcases hw (by omega) with z | z
    · exact absurd h2 (by rw [z]; decide)
    · exact absurd h2 (by rw [z]; decide)
  · omega
/-- a token that is no comma ends at a blank, a comma, or the end -/
theorem nxE_stop {t : Nat → Int32} {n p : Nat} (hp : p ≤ n) (h : nxS t n p < n → ¬ t (nxS t n p) = 44) : nxE t n p < n → t (nxE t n p) = 32 ∨ t (nxE t n p) = 44 := by
  intro hl
  have hb := nxS_b (t := t) hp
  have hw := skW_b (t := t) (n - nxS t n p) (nxS t n p) hb.2
  have hst := skW_stop (t := t) (n := n) (n - nxS t n p) (nxS t n p) (Nat.le_refl _)
  have key : nxE t n p = skW t n (n - nxS t n p) (nxS t n p) := by
    unfold nxE
    by_cases c : skW t n (n - nxS t n p) (nxS t n p) = nxS t n p ∧ nxS t n p < n
    · exfalso
      have h1 := hst (by omega)
      rw [c.1] at h1
      exact h1 ⟨nxS_stop c.2, h c.2⟩
    · rw [if_neg c]
  rw [key] at hl ⊢
  have h1 := hst hl
  by_cases z : t (skW t n (n - nxS t n p) (nxS t n p)) = 32
  · exact Or.inl z
  · by_cases z2 : t (skW t n (n - nxS t n p) (nxS t n p)) = 44
    · exact Or.inr z2
    · exact absurd ⟨z, z2⟩ h1
theorem wm_first {t : Nat → Int32} {s e i : Nat} (h : wmB t s e i = true) (hi : i < 5) : ¬ t s = 44 := by
  have h1 := (wmB_iff.mp h).2 0 (by have h9 : i = 0 ∨ i = 1 ∨ i = 2 ∨ i = 3 ∨ i = 4 := by omega
                                    rcases h9 with e9 | e9 | e9 | e9 | e9 <;> subst e9 <;> decide)
  rw [Nat.add_zero] at h1
  rw [h1]
  have h9 : i = 0 ∨ i = 1 ∨ i = 2 ∨ i = 3 ∨ i = 4 := by omega
  rcases h9 with e9 | e9 | e9 | e9 | e9 <;> subst e9 <;> decide
theorem kdX_first {t : Nat → Int32} {s e : Nat} (h : ¬ kdX t s e = (-1)) : ¬ t s = 44 := by
  unfold kdX at h
  by_cases c0 : wmB t s e 0 = true
  · exact wm_first c0 (by decide)
  · rw [if_neg c0] at h
    by_cases c1 : wmB t s e 1 = true
    · exact wm_first c1 (by decide)
    · rw [if_neg c1] at h
      by_cases c2 : wmB t s e 2 = true
      · exact wm_first c2 (by decide)
      · rw [if_neg c2] at h
        by_cases c3 : wmB t s e 3 = true
        · exact wm_first c3 (by decide)
        · rw [if_neg c3] at h
          by_cases c4 : wmB t s e 4 = true
          · exact wm_first c4 (by decide)
          · rw [if_neg c4] at h; exact absurd rfl h
theorem ln_len {t : Nat → Int32} {n : Nat} {h : Int32} {p : Nat} (hp : p ≤ n) (hn : n ≤ 60) (hf : lnF3 t n h p = (-1)) : p + 7 ≤ lnE t n h p := by
  have hb1 := nxS_b (t := t) hp
  have he1 := nxE_b (t := t) hp
  have ne : ∀ q : Nat, q ≤ n → ¬ nI q = (-1) := fun q hq z => absurd (show (0 : Int32) ≤ -1 from z ▸ nI_pos' (by omega)) (by decide)
  have h2 : lnF2 t n h p = (-1) := by
    unfold lnF3 at hf
    by_cases c : lnF2 t n h p = (-1)
    · exact c
    · rw [if_neg c] at hf; exact absurd hf c
  have h3 : inR (lnN t n p) 1 (mok (lnK t n p)) := by
    unfold lnF3 at hf
    rw [if_pos h2] at hf
    by_cases c : inR (lnN t n p) 1 (mok (lnK t n p))
    · exact c
    · rw [if_neg c] at hf
      have hA : lnA t n p ≤ n := by unfold lnA; split; exact (nxE_b he1.2).2; exact he1.2
      exact absurd hf (ne _ (nxS_b hA).2)
  have hk : ¬ lnK t n p = (-1) := by
    intro c
    unfold lnF2 at h2
    rw [if_pos c] at h2
    exact absurd h2 (ne _ hb1.2)
  have hk2 := kdX_len (t := t) (s := nxS t n p) (e := nxE t n p) hk
  have hst1 := nxE_stop (t := t) hp (fun _ => kdX_first hk)
  have hE : lnE t n h p = nxE t n (lnA t n p) := by unfold lnE; rw [if_pos h2]
  have h01 : (0 : Int32) ≤ lnN t n p := Int32.le_trans (by decide) h3.1
  rw [hE]
  by_cases ck : lnK t n p = 1 ∨ lnK t n p = 4 ∨ lnK t n p = 5
  · have hA : lnA t n p = nxE t n (nxE t n p) := by unfold lnA; rw [if_pos ck]
    have hv2 : (0 : Int32) ≤ lnV2 t n p := by
      unfold lnF2 at h2
      rw [if_neg hk] at h2
      by_cases c1 : lnK t n p = 1
      · rw [if_pos c1] at h2
        by_cases c : inR (lnV2 t n p) 0 11
        · exact c.1
        · rw [if_neg c] at h2; exact absurd h2 (ne _ (nxS_b he1.2).2)
      · rw [if_neg c1] at h2
        have c45 : lnK t n p = 4 ∨ lnK t n p = 5 := ck.resolve_left c1
        rw [if_pos c45] at h2
        by_cases c : inR (lnV2 t n p) 0 9 ∧ ¬ lnV2 t n p = h
        · exact c.1.1
        · rw [if_neg c] at h2; exact absurd h2 (ne _ (nxS_b he1.2).2)
    have g1 := num_gap (t := t) he1.2 hst1 (v := lnV2 t n p) rfl hv2
    have he2 := nxE_b (t := t) he1.2
    have hd2 := nmV_dg (t := t) (v := lnV2 t n p) rfl hv2
    have hst2 := nxE_stop (t := t) he1.2 (fun _ z => absurd hd2.2 (by rw [z]; decide))
    unfold lnN at h01
    rw [hA] at h01 ⊢
    have g2 := num_gap (t := t) he2.2 hst2 rfl h01
    omega
  · have hA : lnA t n p = nxE t n p := by unfold lnA; rw [if_neg ck]
    have h5 : nxS t n p + 5 ≤ nxE t n p := by
      rcases hk2.2 with c | c | c | c
      · exact absurd (Or.inl c) ck
      · exact absurd (Or.inr (Or.inl c)) ck
      · exact absurd (Or.inr (Or.inr c)) ck
      · exact c
    unfold lnN at h01
    rw [hA] at h01 ⊢
    have g2 := num_gap (t := t) he1.2 hst1 rfl h01
    omega
/-- behind a good line and a comma -/
theorem po_len {t : Nat → Int32} {n : Nat} {h : Int32} {p : Nat} (hp : p ≤ n) (hn : n ≤ 60) (hf : lnF3 t n h p = (-1)) (hs : nxS t n (lnE t n h p) < n) (hc : t (nxS t n (lnE t n h p)) = 44) : p + 8 ≤ nxE t n (lnE t n h p) ∧ nxE t n (lnE t n h p) ≤ n := by
  have h1 := ln_len hp hn hf
  have h2 := lnE_b (t := t) (h := h) hp
  have h3 := nxS_b (t := t) h2
  have h4 := nxE_b (t := t) h2
  have h5 : nxE t n (lnE t n h p) = nxS t n (lnE t n h p) + 1 := by
    unfold nxE
    rw [if_pos]
    exact ⟨skW_at (Or.inr (fun z => z.2 hc)), hs⟩
  omega

