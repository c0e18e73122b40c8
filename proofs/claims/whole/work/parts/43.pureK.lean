theorem ln_in {t : Nat → Int32} {n : Nat} {h : Int32} {p : Nat} (hp : p ≤ n) (hn : n ≤ 60) (h2 : lnF2 t n h p = (-1)) (h3 : lnF3 t n h p = (-1)) : inR (lnN t n p) 1 (mok (lnK t n p)) := by
  unfold lnF3 at h3
  rw [if_pos h2] at h3
  by_cases c : inR (lnN t n p) 1 (mok (lnK t n p))
  · exact c
  · rw [if_neg c] at h3
    have he1 := nxE_b (t := t) hp
    have hA : lnA t n p ≤ n := by unfold lnA; split; exact (nxE_b he1.2).2; exact he1.2
    have hq := (nxS_b (t := t) hA).2
    exact absurd (show (0 : Int32) ≤ -1 from h3 ▸ nI_pos' (by omega)) (by decide)
theorem lnA_b {t : Nat → Int32} {n p : Nat} (hp : p ≤ n) : lnA t n p ≤ n := by
  have he1 := nxE_b (t := t) hp
  unfold lnA; split; exact (nxE_b he1.2).2; exact he1.2
theorem kof6 {o : Int32} (h : kofB o 6 = true) : o = 4 ∨ o = 5 := by simpa [kofB] using h
theorem kof6n {o : Int32} (h : ¬ kofB o 6 = true) : ¬ (o = 4 ∨ o = 5) := by simpa [kofB] using h
/-- what follows a good line -/
theorem pa_bad {t : Nat → Int32} {n : Nat} {h : Int32} {f q : Nat} (h1 : ¬ lnF3 t n h q = (-1)) : paF t n h (f + 1) q = (lnF3 t n h q, 0, lnS t n h q, lnE t n h q) := by rw [paF, if_neg h1]
theorem pa_end {t : Nat → Int32} {n : Nat} {h : Int32} {f q : Nat} (h1 : lnF3 t n h q = (-1)) (h2 : ¬ nxS t n (lnE t n h q) < n) : paF t n h (f + 1) q = (-1, 1, nxS t n (lnE t n h q), nxE t n (lnE t n h q)) := by rw [paF, if_pos h1, if_neg h2]
theorem pa_no {t : Nat → Int32} {n : Nat} {h : Int32} {f q : Nat} (h1 : lnF3 t n h q = (-1)) (h2 : nxS t n (lnE t n h q) < n) (h3 : ¬ t (nxS t n (lnE t n h q)) = 44) : paF t n h (f + 1) q = (nI (nxS t n (lnE t n h q)), 1, nxS t n (lnE t n h q), nxE t n (lnE t n h q)) := by rw [paF, if_pos h1, if_pos h2, if_neg h3]
theorem pa_go {t : Nat → Int32} {n : Nat} {h : Int32} {f q : Nat} (h1 : lnF3 t n h q = (-1)) (h2 : nxS t n (lnE t n h q) < n) (h3 : t (nxS t n (lnE t n h q)) = 44) : paF t n h (f + 1) q = ((paF t n h f (nxE t n (lnE t n h q))).1, (paF t n h f (nxE t n (lnE t n h q))).2.1 + 1, (paF t n h f (nxE t n (lnE t n h q))).2.2.1, (paF t n h f (nxE t n (lnE t n h q))).2.2.2) := by rw [paF, if_pos h1, if_pos h2, if_pos h3]
/-- i lines were good, and a comma stood behind each -/
def paI (t : Nat → Int32) (n : Nat) (h : Int32) (i : Nat) : Prop :=
  paF t n h 8 0 = ((paF t n h (8 - i) (poF t n h i)).1, i + (paF t n h (8 - i) (poF t n h i)).2.1, (paF t n h (8 - i) (poF t n h i)).2.2.1, (paF t n h (8 - i) (poF t n h i)).2.2.2) ∧ 8 * i ≤ poF t n h i ∧ poF t n h i ≤ n
theorem paI_0 {t : Nat → Int32} {n : Nat} {h : Int32} : paI t n h 0 := ⟨by simp [poF], by simp [poF], by simp [poF]⟩
theorem paI_lt {t : Nat → Int32} {n : Nat} {h : Int32} {i : Nat} (H : paI t n h i) (hn : n ≤ 60) : i < 8 := by have := H.2; omega
theorem paI_go {t : Nat → Int32} {n : Nat} {h : Int32} {i : Nat} (H : paI t n h i) (hn : n ≤ 60) (h1 : lnF3 t n h (poF t n h i) = (-1)) (h2 : nxS t n (lnE t n h (poF t n h i)) < n) (h3 : t (nxS t n (lnE t n h (poF t n h i))) = 44) : paI t n h (i + 1) := by
  have hl := paI_lt H hn
  have hp := po_len H.2.2 hn h1 h2 h3
  refine ⟨?_, ?_, hp.2⟩
  · rw [H.1, show 8 - i = (8 - (i + 1)) + 1 by omega, pa_go h1 h2 h3]
    rw [show poF t n h (i + 1) = nxE t n (lnE t n h (poF t n h i)) from rfl]
    simp
    omega
  · have := H.2.1
    have := hp.1
    show 8 * (i + 1) ≤ nxE t n (lnE t n h (poF t n h i))
    omega
theorem paI_bad {t : Nat → Int32} {n : Nat} {h : Int32} {i : Nat} (H : paI t n h i) (hn : n ≤ 60) (h1 : ¬ lnF3 t n h (poF t n h i) = (-1)) : paF t n h 8 0 = (lnF3 t n h (poF t n h i), i, lnS t n h (poF t n h i), lnE t n h (poF t n h i)) := by
  have hl := paI_lt H hn
  rw [H.1, show 8 - i = (8 - (i + 1)) + 1 by omega, pa_bad h1]; rfl
theorem paI_end {t : Nat → Int32} {n : Nat} {h : Int32} {i : Nat} (H : paI t n h i) (hn : n ≤ 60) (h1 : lnF3 t n h (poF t n h i) = (-1)) (h2 : ¬ nxS t n (lnE t n h (poF t n h i)) < n) : paF t n h 8 0 = ((-1), i + 1, nxS t n (lnE t n h (poF t n h i)), nxE t n (lnE t n h (poF t n h i))) := by
  have hl := paI_lt H hn
  rw [H.1, show 8 - i = (8 - (i + 1)) + 1 by omega, pa_end h1 h2]
theorem paI_no {t : Nat → Int32} {n : Nat} {h : Int32} {i : Nat} (H : paI t n h i) (hn : n ≤ 60) (h1 : lnF3 t n h (poF t n h i) = (-1)) (h2 : nxS t n (lnE t n h (poF t n h i)) < n) (h3 : ¬ t (nxS t n (lnE t n h (poF t n h i))) = 44) : paF t n h 8 0 = (nI (nxS t n (lnE t n h (poF t n h i))), i + 1, nxS t n (lnE t n h (poF t n h i)), nxE t n (lnE t n h (poF t n h i))) := by
  have hl := paI_lt H hn
  rw [H.1, show 8 - i = (8 - (i + 1)) + 1 by omega, pa_no h1 h2 h3]
theorem paI_stop {t : Nat → Int32} {n : Nat} {h : Int32} {i : Nat} (H : paI t n h i) (hn : n ≤ 60) (h1 : lnF3 t n h (poF t n h i) = (-1)) (h2 : ¬ (nxS t n (lnE t n h (poF t n h i)) < n ∧ t (nxS t n (lnE t n h (poF t n h i))) = 44)) : paF t n h 8 0 = (if nxS t n (lnE t n h (poF t n h i)) < n ∧ ¬ t (nxS t n (lnE t n h (poF t n h i))) = 44 then nI (nxS t n (lnE t n h (poF t n h i))) else (-1), i + 1, nxS t n (lnE t n h (poF t n h i)), nxE t n (lnE t n h (poF t n h i))) := by
  by_cases c : nxS t n (lnE t n h (poF t n h i)) < n
  · have c2 : ¬ t (nxS t n (lnE t n h (poF t n h i))) = 44 := fun z => h2 ⟨c, z⟩
    rw [if_pos ⟨c, c2⟩]; exact paI_no H hn h1 c c2
  · rw [if_neg (fun z => c z.1)]; exact paI_end H hn h1 c
def kG (t : Nat → Int32) (n : Nat) (h : Int32) (j : Nat) : Int32 := lnK t n (poF t n h j)
def oG (t : Nat → Int32) (n : Nat) (h : Int32) (j : Nat) : Int32 := lnOf t n (poF t n h j)
def nG (t : Nat → Int32) (n : Nat) (h : Int32) (j : Nat) : Int32 := lnN t n (poF t n h j)
def paN (t : Nat → Int32) (n : Nat) (h : Int32) : Nat := (paF t n h 8 0).2.1
def paR (t : Nat → Int32) (n : Nat) (h : Int32) : Int32 := (paF t n h 8 0).1
/-- c of g, put behind the first ln of f -/
def apF (f g : Nat → Int32) (ln c : Nat) : Nat → Int32 := fun i => if ln ≤ i ∧ i < ln + c then g (i - ln) else f i
theorem apF_0 (f g : Nat → Int32) (ln : Nat) : apF f g ln 0 = f := by funext i; unfold apF; rw [if_neg (by omega)]
theorem apF_put {f g : Nat → Int32} {ln j : Nat} {v : Int32} (h : v = g j) : upd (apF f g ln j) (ln + j) v = apF f g ln (j + 1) := by
  funext i
  by_cases e : i = ln + j
  · subst e; rw [pk_us]; unfold apF; rw [if_pos (by omega), show ln + j - ln = j by omega]; exact h
  · rw [pk_un e]; unfold apF
    by_cases c : ln ≤ i ∧ i < ln + j
    · rw [if_pos c, if_pos (by omega)]
    · rw [if_neg c, if_neg (by omega)]
abbrev dcV (t : Nat → Int32) (n ln : Nat) (h y : Int32) : Prop := (inR h 0 9 ∧ inR y 0 30) ∧ paR t n h = (-1) ∧ ln + paN t n h ≤ 100
def dcR (t : Nat → Int32) (n ln : Nat) (h y : Int32) : Int32 := if inR h 0 9 ∧ inR y 0 30 then (if paR t n h = (-1) then (if ln + paN t n h ≤ 100 then nI (paN t n h) else (-1000000003)) else (-100) - paR t n h) else (-1000000001)
def dcF (t : Nat → Int32) (n ln : Nat) (h y : Int32) (f g : Nat → Int32) : Nat → Int32 := if dcV t n ln h y then apF f g ln (paN t n h) else f
def dcN (t : Nat → Int32) (n ln : Nat) (h y : Int32) : Nat := if dcV t n ln h y then ln + paN t n h else ln

