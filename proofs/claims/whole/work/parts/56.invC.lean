theorem poF_le {t : Nat → Int32} {n : Nat} {h : Int32} : ∀ j, poF t n h j ≤ n := by
  intro j
  induction j with
  | zero => exact Nat.zero_le _
  | succ j ih => exact (nxE_b (lnE_b ih)).2
theorem pa_good {t : Nat → Int32} {n : Nat} {h : Int32} : ∀ f i, (paF t n h f (poF t n h i)).1 = (-1) → ∀ j, j < (paF t n h f (poF t n h i)).2.1 → lnF3 t n h (poF t n h (i + j)) = (-1) := by
  intro f
  induction f with
  | zero => intro i _ j hj; exact absurd hj (Nat.not_lt_zero _)
  | succ f ih =>
    intro i h0 j hj
    by_cases h1 : lnF3 t n h (poF t n h i) = (-1)
    · by_cases h2 : nxS t n (lnE t n h (poF t n h i)) < n
      · by_cases h3 : t (nxS t n (lnE t n h (poF t n h i))) = 44
        · rw [pa_go h1 h2 h3] at h0 hj
          cases j with
          | zero => exact h1
          | succ j =>
            have := ih (i + 1) h0 j (Nat.lt_of_succ_lt_succ hj)
            rwa [show i + 1 + j = i + (j + 1) by omega] at this
        · rw [pa_no h1 h2 h3] at hj
          have hj : j < 1 := hj
          rw [show i + j = i by omega]; exact h1
      · rw [pa_end h1 h2] at hj
        have hj : j < 1 := hj
        rw [show i + j = i by omega]; exact h1
    · rw [pa_bad h1] at hj; exact absurd hj (Nat.not_lt_zero _)
theorem paN_pos {t : Nat → Int32} {n : Nat} {h : Int32} (h0 : paR t n h = (-1)) : 1 ≤ paN t n h := by
  unfold paR at h0
  unfold paN
  by_cases h1 : lnF3 t n h 0 = (-1)
  · by_cases h2 : nxS t n (lnE t n h 0) < n
    · by_cases h3 : t (nxS t n (lnE t n h 0)) = 44
      · rw [show (8 : Nat) = 7 + 1 from rfl, pa_go h1 h2 h3]; exact Nat.succ_le_succ (Nat.zero_le _)
      · rw [show (8 : Nat) = 7 + 1 from rfl, pa_no h1 h2 h3]; exact Nat.le_refl _
    · rw [show (8 : Nat) = 7 + 1 from rfl, pa_end h1 h2]; exact Nat.le_refl _
  · rw [show (8 : Nat) = 7 + 1 from rfl, pa_bad h1] at h0; exact absurd h0 h1
theorem ln_ok {t : Nat → Int32} {n : Nat} {h : Int32} {p : Nat} (hp : p ≤ n) (hn : n ≤ 60) (h3 : lnF3 t n h p = (-1)) : (lnK t n p = 1 ∨ lnK t n p = 2 ∨ lnK t n p = 3 ∨ lnK t n p = 4 ∨ lnK t n p = 5) ∧ (lnK t n p = 1 → okN (lnOf t n p) 12) ∧ inR (lnN t n p) 1 (mok (lnK t n p)) := by
  have h2 : lnF2 t n h p = (-1) := by
    unfold lnF3 at h3
    by_cases c : lnF2 t n h p = (-1)
    · exact c
    · rw [if_neg c] at h3; exact absurd h3 c
  have hk : ¬ lnK t n p = (-1) := fun z => (fa1 (h := h) hp hn z).1 h3
  refine ⟨?_, ?_, ln_in hp hn h2 h3⟩
  · rcases kdX_cases t (nxS t n p) (nxE t n p) with q | q | q | q | q | q
    · exact Or.inl q
    · exact Or.inr (Or.inl q)
    · exact Or.inr (Or.inr (Or.inl q))
    · exact Or.inr (Or.inr (Or.inr (Or.inl q)))
    · exact Or.inr (Or.inr (Or.inr (Or.inr q)))
    · exact absurd q hk
  · intro k1
    by_cases c : inR (lnV2 t n p) 0 11
    · rw [lnOf, if_pos k1, if_pos c]; exact okN_le (m := 11) c.1 c.2 (by decide) (by decide)
    · rw [lnF2, if_neg hk, if_pos k1, if_neg c] at h2
      exact absurd h2 (nI_nm1 (by have := (nxS_b (t := t) (nxE_b (t := t) hp).2).2; omega))
theorem apF_lt {f g : Nat → Int32} {ln c i : Nat} (h : i < ln) : apF f g ln c i = f i := by unfold apF; rw [if_neg (by omega)]
theorem apF_ge {f g : Nat → Int32} {ln c i : Nat} (h : ln ≤ i) (h2 : i < ln + c) : apF f g ln c i = g (i - ln) := by unfold apF; rw [if_pos ⟨h, h2⟩]
theorem EV_l {dy ap ad wd dd : Nat → Int32} {ln wn dn c : Nat} {td x : Int32} (hc : 1 ≤ c) (hz : ∀ j, ln ≤ j → ap j = 0) : EV (apF dy (fun _ => td) ln c) ap ad (ln + c) wd wn dd dn x ↔ EV dy ap ad ln wd wn dd dn x ∨ x = td := by
  have k1 : (∃ i, i < ln + c ∧ apF dy (fun _ => td) ln c i = x) ↔ (∃ i, i < ln ∧ dy i = x) ∨ x = td := by
    constructor
    · rintro ⟨i, hi, e⟩
      by_cases q : i < ln
      · rw [apF_lt q] at e; exact Or.inl ⟨i, q, e⟩
      · rw [apF_ge (by omega) hi] at e; exact Or.inr e.symm
    · rintro (⟨i, hi, e⟩ | e)
      · exact ⟨i, by omega, by rw [apF_lt hi]; exact e⟩
      · exact ⟨ln, by omega, by rw [apF_ge (Nat.le_refl _) (by omega)]; exact e.symm⟩
  have k2 : (∃ i, i < ln + c ∧ ∃ j, j < cN (ap i) ∧ ad (i * 8 + j) = x) ↔ ∃ i, i < ln ∧ ∃ j, j < cN (ap i) ∧ ad (i * 8 + j) = x := by
    constructor
    · rintro ⟨i, hi, j, hj, e⟩
      by_cases q : i < ln
      · exact ⟨i, q, j, hj, e⟩
      · rw [hz i (by omega)] at hj; exact absurd hj (Nat.not_lt_zero _)
    · rintro ⟨i, hi, r⟩
      exact ⟨i, by omega, r⟩
  unfold EV
  rw [k1, k2]
  constructor
  · rintro ((a | e) | b | c | d)
    · exact Or.inl (Or.inl a)
    · exact Or.inr e
    · exact Or.inl (Or.inr (Or.inl b))
    · exact Or.inl (Or.inr (Or.inr (Or.inl c)))
    · exact Or.inl (Or.inr (Or.inr (Or.inr d)))
  · rintro ((a | b | c | d) | e)
    · exact Or.inl (Or.inl a)
    · exact Or.inr (Or.inl b)
    · exact Or.inr (Or.inr (Or.inl c))
    · exact Or.inr (Or.inr (Or.inr d))
    · exact Or.inl (Or.inr e)
theorem inv_declare {σ : RunS} {k : Nat} (h : Inv σ k) (a1 a2 : Int32) : Inv (s_declare σ a1 a2) (k + 1) := by
  by_cases o : dcV σ.f38 σ.tl σ.ln a1 a2
  · have e1 : ∀ a b : Nat, (if dcV σ.f38 σ.tl σ.ln a1 a2 then a else b) = a := fun a b => if_pos o
    have e2 : ∀ a b : Nat → Int32, (if dcV σ.f38 σ.tl σ.ln a1 a2 then a else b) = a := fun a b => if_pos o
    have e3 : dcN σ.f38 σ.tl σ.ln a1 a2 = σ.ln + paN σ.f38 σ.tl a1 := if_pos o
    have e4 : ∀ f g, dcF σ.f38 σ.tl σ.ln a1 a2 f g = apF f g σ.ln (paN σ.f38 σ.tl a1) := fun f g => if_pos o
    have hp := paN_pos o.2.1
    have h100 := o.2.2
    unfold s_declare
    rw [e1, e2, e3, e4, e4, e4, e4, e4, e4]
    refine ⟨Nat.le_trans (ncN_le _ _ _) (Nat.succ_le_succ h.cgk), h.td0, Nat.zero_le _, h.hby, h100, fun i hi => ?_, fun i hi => ?_, fun j hj => ?_, fun i hi => ?_, fun j hj => h.hz32 j ?_, fun j hj => h.hz33 j ?_, fun j hj => h.hz73 j ?_, fun j hj => h.hz74 j ?_, h.hwn, h.hWD, h.hdn, h.hDC, h.hC, h.ho, h.hz24, h.hz25, h.hsh, cd_note h.hcd h.td0.1, fun x => ((EV_l hp h.hz21).trans (or_congr (h.hES x) Iff.rfl)).trans es_note.symm⟩
    · show lnOk (apF σ.f15 (kG σ.f38 σ.tl a1) σ.ln (paN σ.f38 σ.tl a1) i) (apF σ.f16 (fun _ => a1) σ.ln (paN σ.f38 σ.tl a1) i) (apF σ.f19 (oG σ.f38 σ.tl a1) σ.ln (paN σ.f38 σ.tl a1) i) (apF σ.f20 (nG σ.f38 σ.tl a1) σ.ln (paN σ.f38 σ.tl a1) i)
      have hi : i < σ.ln + paN σ.f38 σ.tl a1 := hi
      by_cases q : i < σ.ln
      · rw [apF_lt q, apF_lt q, apF_lt q, apF_lt q]; exact h.hLN i q
      · rw [apF_ge (by omega) hi, apF_ge (by omega) hi, apF_ge (by omega) hi, apF_ge (by omega) hi]
        have g := pa_good (t := σ.f38) (n := σ.tl) (h := a1) 8 0 o.2.1 (i - σ.ln) (show i - σ.ln < paN σ.f38 σ.tl a1 by omega)
        rw [Nat.zero_add] at g
        have := ln_ok (poF_le _) h.htl g
        exact ⟨this.1, okN_le (m := 9) o.1.1.1 o.1.1.2 (by decide) (by decide), this.2.1, this.2.2⟩
    · by_cases q : i < σ.ln
      · exact h.hap i q
      · show okN (σ.f21 i) 9
        rw [h.hz21 i (by omega)]; exact okN_nI (k := 0) (by decide) (by decide)
    · have hj : σ.ln + paN σ.f38 σ.tl a1 ≤ j := hj
      exact h.hz21 j (by omega)
    · by_cases q : i < σ.ln
      · exact h.hao i q
      · show apOk σ.f21 σ.f22 σ.f58 i
        unfold apOk
        rw [h.hz21 i (by omega)]
        exact ⟨fun j hj => absurd hj (Nat.not_lt_zero _), fun x y _ hy => absurd hy (Nat.not_lt_zero _)⟩
    · have hj : σ.ln + paN σ.f38 σ.tl a1 ≤ j := hj
      omega
    · have hj : σ.ln + paN σ.f38 σ.tl a1 ≤ j := hj
      omega
    · have hj : σ.ln + paN σ.f38 σ.tl a1 ≤ j := hj
      omega
    · have hj : σ.ln + paN σ.f38 σ.tl a1 ≤ j := hj
      omega
  · have e1 : ∀ a b : Nat, (if dcV σ.f38 σ.tl σ.ln a1 a2 then a else b) = b := fun a b => if_neg o
    have e2 : ∀ a b : Nat → Int32, (if dcV σ.f38 σ.tl σ.ln a1 a2 then a else b) = b := fun a b => if_neg o
    have e3 : dcN σ.f38 σ.tl σ.ln a1 a2 = σ.ln := if_neg o
    have e4 : ∀ f g, dcF σ.f38 σ.tl σ.ln a1 a2 f g = f := fun f g => if_neg o
    unfold s_declare
    rw [e1, e2, e3, e4, e4, e4, e4, e4, e4]
    exact ⟨Nat.le_succ_of_le h.cgk, h.td0, Nat.zero_le _, h.hby, h.hln, h.hLN, h.hap, h.hz21, h.hao, h.hz32, h.hz33, h.hz73, h.hz74, h.hwn, h.hWD, h.hdn, h.hDC, h.hC, h.ho, h.hz24, h.hz25, h.hsh, h.hcd, h.hES⟩
theorem loI_lt {x h : Int32} {on : Nat} (hx : hasL x on) (hh : inR h 0 9) (ho : on ≤ 6) : loI x h < on * 10 := by
  have h1 := (hasL_ok hx (by omega)).2
  have h2 := (okN_le (m := 9) hh.1 hh.2 (by decide) (by decide)).2
  unfold loI
  omega
theorem pay_ok {sh pd n : Int32} (s1 : 0 ≤ pd) (s2 : pd ≤ sh) (s3 : sh ≤ 200000) (hn : 1 ≤ n) : 0 ≤ pd + (if sh - pd < n then sh - pd else n) ∧ pd + (if sh - pd < n then sh - pd else n) ≤ sh := by
  have q1 := Int32.le_iff_toInt_le.mp s1
  have q2 := Int32.le_iff_toInt_le.mp s2
  have q3 := Int32.le_iff_toInt_le.mp s3
  have q4 := Int32.le_iff_toInt_le.mp hn
  have i0 : (0 : Int32).toInt = 0 := by decide
  have i1 : (1 : Int32).toInt = 1 := by decide
  have i2 : (200000 : Int32).toInt = 200000 := by decide
  have e : (sh - pd).toInt = sh.toInt - pd.toInt := by
    rw [Int32.toInt_sub]; exact Int.bmod_eq_of_le (by omega) (by omega)
  split
  · have e2 : (pd + (sh - pd)).toInt = sh.toInt := by
      rw [Int32.toInt_add, e]; rw [Int.bmod_eq_of_le (by omega) (by omega)]; omega
    exact ⟨Int32.le_iff_toInt_le.mpr (by omega), Int32.le_iff_toInt_le.mpr (by omega)⟩
  · rename_i c
    have c := Int32.le_iff_toInt_le.mp (Int32.not_lt.mp c)
    have e2 : (pd + n).toInt = pd.toInt + n.toInt := by
      rw [Int32.toInt_add]; exact Int.bmod_eq_of_le (by omega) (by omega)
    exact ⟨Int32.le_iff_toInt_le.mpr (by omega), Int32.le_iff_toInt_le.mpr (by omega)⟩
theorem inv_pay {σ : RunS} {k : Nat} (h : Inv σ k) (a1 a2 a3 : Int32) : Inv (s_pay σ a1 a2 a3) (k + 1) := by
  by_cases o : pyO σ.f23 σ.f24 σ.on a1 a2 a3 = 0
  · have e1 : ∀ f, pyU f σ.f23 σ.f24 σ.on a1 a2 a3 = upd f (loI a1 a2) (f (loI a1 a2) + pyV σ.f23 σ.f24 a1 a2 a3) := fun f => if_pos o
    have v : (hasL a1 σ.on ∧ inR a2 0 9 ∧ inR a3 1 100000) ∧ 0 < σ.f23 (loI a1 a2) - σ.f24 (loI a1 a2) := by
      unfold pyO at o
      split at o
      · split at o
        · exact ⟨by assumption, by assumption⟩
        · exact absurd o (by decide)
      · exact absurd o (by decide)
    have hI := loI_lt v.1.1 v.1.2.1 h.ho
    have h60 : loI a1 a2 < 60 := by have := h.ho; omega
    obtain ⟨s1, s2, s3⟩ := h.hsh _ h60
    unfold s_pay
    rw [e1, e1]
    refine ⟨Nat.le_succ_of_le h.cgk, h.td0, h.htl, h.hby, h.hln, h.hLN, h.hap, h.hz21, h.hao, h.hz32, h.hz33, h.hz73, h.hz74, h.hwn, h.hWD, h.hdn, h.hDC, h.hC, h.ho, fun j hj => ?_, fun j hj => ?_, fun i hi => ?_, h.hcd, h.hES⟩
    · have hj : σ.on * 10 ≤ j := hj
      show upd σ.f24 (loI a1 a2) _ j = 0
      rw [pk_un (by omega)]; exact h.hz24 j hj
    · have hj : σ.on * 10 ≤ j := hj
      show upd σ.f25 (loI a1 a2) _ j = 0
      rw [pk_un (by omega)]; exact h.hz25 j hj
    · show 0 ≤ upd σ.f24 (loI a1 a2) (σ.f24 (loI a1 a2) + pyV σ.f23 σ.f24 a1 a2 a3) i ∧ upd σ.f24 (loI a1 a2) (σ.f24 (loI a1 a2) + pyV σ.f23 σ.f24 a1 a2 a3) i ≤ σ.f23 i ∧ σ.f23 i ≤ 200000
      by_cases c : i = loI a1 a2
      · rw [c, pk_us]
        have := pay_ok s1 s2 s3 v.1.2.2.1
        exact ⟨this.1, this.2, s3⟩
      · rw [pk_un c]; exact h.hsh i hi
  · have e1 : ∀ f, pyU f σ.f23 σ.f24 σ.on a1 a2 a3 = f := fun f => if_neg o
    unfold s_pay
    rw [e1, e1]
    exact h.mono
theorem inv_sell {σ : RunS} {k : Nat} (h : Inv σ k) (a1 a2 a3 a4 : Int32) : Inv (s_sell σ a1 a2 a3 a4) (k + 1) := by
  by_cases o : slO σ.f25 σ.on a1 a2 a3 a4 = 0
  · have e1 : slU σ.f25 σ.on a1 a2 a3 a4 = slF σ.f25 (loI a1 a2) (loI a1 a3) a4 := if_pos o
    have v : hasL a1 σ.on ∧ inR a2 0 9 ∧ inR a3 0 9 := by
      unfold slO at o
      split at o
      · rename_i c; exact ⟨c.1, c.2.1, c.2.2.1⟩
      · exact absurd o (by decide)
    have h1 := loI_lt v.1 v.2.1 h.ho
    have h2 := loI_lt v.1 v.2.2 h.ho
    unfold s_sell
    rw [e1]
    refine ⟨Nat.le_succ_of_le h.cgk, h.td0, h.htl, h.hby, h.hln, h.hLN, h.hap, h.hz21, h.hao, h.hz32, h.hz33, h.hz73, h.hz74, h.hwn, h.hWD, h.hdn, h.hDC, h.hC, h.ho, h.hz24, fun j hj => ?_, h.hsh, h.hcd, h.hES⟩
    have hj : σ.on * 10 ≤ j := hj
    show slF σ.f25 (loI a1 a2) (loI a1 a3) a4 j = 0
    unfold slF
    rw [pk_un (by omega), pk_un (by omega)]; exact h.hz25 j hj
  · have e1 : slU σ.f25 σ.on a1 a2 a3 a4 = σ.f25 := if_neg o
    unfold s_sell
    rw [e1]
    exact h.mono
