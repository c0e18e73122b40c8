theorem ex_succ {n : Nat} {P : Nat → Prop} : (∃ i, i < n + 1 ∧ P i) ↔ (∃ i, i < n ∧ P i) ∨ P n := by
  constructor
  · rintro ⟨i, hi, e⟩
    by_cases h : i = n
    · subst h; exact Or.inr e
    · exact Or.inl ⟨i, by omega, e⟩
  · rintro (⟨i, hi, e⟩ | e)
    · exact ⟨i, by omega, e⟩
    · exact ⟨n, by omega, e⟩
theorem EV_w {dy ap ad wd dd : Nat → Int32} {ln wn dn : Nat} {td x : Int32} : EV dy ap ad ln (upd wd wn td) (wn + 1) dd dn x ↔ EV dy ap ad ln wd wn dd dn x ∨ x = td := by
  unfold EV
  rw [ex_push]
  constructor
  · rintro (a | b | (c | e) | d)
    · exact Or.inl (Or.inl a)
    · exact Or.inl (Or.inr (Or.inl b))
    · exact Or.inl (Or.inr (Or.inr (Or.inl c)))
    · exact Or.inr e
    · exact Or.inl (Or.inr (Or.inr (Or.inr d)))
  · rintro ((a | b | c | d) | e)
    · exact Or.inl a
    · exact Or.inr (Or.inl b)
    · exact Or.inr (Or.inr (Or.inl (Or.inl c)))
    · exact Or.inr (Or.inr (Or.inr d))
    · exact Or.inr (Or.inr (Or.inl (Or.inr e)))
theorem EV_d {dy ap ad wd dd : Nat → Int32} {ln wn dn : Nat} {td x : Int32} : EV dy ap ad ln wd wn (upd dd dn td) (dn + 1) x ↔ EV dy ap ad ln wd wn dd dn x ∨ x = td := by
  unfold EV
  rw [ex_push]
  constructor
  · rintro (a | b | c | (d | e))
    · exact Or.inl (Or.inl a)
    · exact Or.inl (Or.inr (Or.inl b))
    · exact Or.inl (Or.inr (Or.inr (Or.inl c)))
    · exact Or.inl (Or.inr (Or.inr (Or.inr d)))
    · exact Or.inr e
  · rintro ((a | b | c | d) | e)
    · exact Or.inl a
    · exact Or.inr (Or.inl b)
    · exact Or.inr (Or.inr (Or.inl c))
    · exact Or.inr (Or.inr (Or.inr (Or.inl d)))
    · exact Or.inr (Or.inr (Or.inr (Or.inr e)))
theorem push2 {P : Int32 → Int32 → Prop} {f g : Nat → Int32} {n : Nat} {u v : Int32} (hf : ∀ i, i < n → P (f i) (g i)) (hp : P u v) : ∀ i, i < n + 1 → P (upd f n u i) (upd g n v i) := by
  intro i hi
  by_cases e : i = n
  · subst e; rw [pk_us, pk_us]; exact hp
  · rw [pk_un e, pk_un e]; exact hf i (by omega)
theorem push3 {P : Int32 → Int32 → Int32 → Prop} {f g r : Nat → Int32} {n : Nat} {u v w : Int32} (hf : ∀ i, i < n → P (f i) (g i) (r i)) (hp : P u v w) : ∀ i, i < n + 1 → P (upd f n u i) (upd g n v i) (upd r n w i) := by
  intro i hi
  by_cases e : i = n
  · subst e; rw [pk_us, pk_us, pk_us]; exact hp
  · rw [pk_un e, pk_un e, pk_un e]; exact hf i (by omega)
theorem inv_says {σ : RunS} {k : Nat} (h : Inv σ k) (a1 a2 a3 : Int32) : Inv (s_says σ a1 a2 a3) (k + 1) := by
  by_cases o : syO σ.wn a1 a2 a3 = 0
  · have e1 : ∀ f n d, ntN (syO σ.wn a1 a2 a3) f n d = ncN f n d := fun f n d => if_pos o
    have e2 : ∀ f n d, ntB (syO σ.wn a1 a2 a3) f n d = ncA f n d := fun f n d => if_pos o
    have e3 : syN σ.wn a1 a2 a3 = σ.wn + 1 := if_pos o
    have e4 : ∀ f v, syU f v σ.wn a1 a2 a3 = upd f σ.wn v := fun f v => if_pos o
    have v : (inR a1 0 9 ∧ inR a2 0 11 ∧ inR a3 0 9) ∧ σ.wn < 40 := by
      unfold syO at o
      split at o
      · split at o
        · exact ⟨by assumption, by assumption⟩
        · exact absurd o (by decide)
      · exact absurd o (by decide)
    unfold s_says
    rw [e1, e2, e3, e4, e4, e4, e4]
    exact ⟨Nat.le_trans (ncN_le _ _ _) (Nat.succ_le_succ h.cgk), h.td0, h.htl, h.hby, h.hln, h.hLN, h.hap, h.hz21, h.hao, h.hz32, h.hz33, h.hz73, h.hz74, v.2, push2 (P := fun a b => okN a 10 ∧ okN b 10) h.hWD ⟨okN_le (m := 9) v.1.1.1 v.1.1.2 (by decide) (by decide), okN_le (m := 9) v.1.2.2.1 v.1.2.2.2 (by decide) (by decide)⟩, h.hdn, h.hDC, h.hC, h.ho, h.hz24, h.hz25, h.hsh, cd_note h.hcd h.td0.1, fun x => (EV_w.trans (or_congr (h.hES x) Iff.rfl)).trans es_note.symm⟩
  · have e1 : ∀ f n d, ntN (syO σ.wn a1 a2 a3) f n d = n := fun f n d => if_neg o
    have e2 : ∀ f n d, ntB (syO σ.wn a1 a2 a3) f n d = f := fun f n d => if_neg o
    have e3 : syN σ.wn a1 a2 a3 = σ.wn := if_neg o
    have e4 : ∀ f v, syU f v σ.wn a1 a2 a3 = f := fun f v => if_neg o
    unfold s_says
    rw [e1, e2, e3, e4, e4, e4, e4]
    exact h.mono
theorem inv_decree {σ : RunS} {k : Nat} (h : Inv σ k) (a1 a2 a3 : Int32) : Inv (s_decree σ a1 a2 a3) (k + 1) := by
  by_cases o : deO σ.dn a1 a2 a3 = 0
  · have e1 : ∀ f n d, ntN (deO σ.dn a1 a2 a3) f n d = ncN f n d := fun f n d => if_pos o
    have e2 : ∀ f n d, ntB (deO σ.dn a1 a2 a3) f n d = ncA f n d := fun f n d => if_pos o
    have e3 : deN σ.dn a1 a2 a3 = σ.dn + 1 := if_pos o
    have e4 : ∀ f v, deU f v σ.dn a1 a2 a3 = upd f σ.dn v := fun f v => if_pos o
    have v : (inR a1 0 5 ∧ inR a2 0 30 ∧ inR a3 0 (tbM (cN a1))) ∧ σ.dn < 40 := by
      unfold deO at o
      split at o
      · split at o
        · exact ⟨by assumption, by assumption⟩
        · exact absurd o (by decide)
      · exact absurd o (by decide)
    unfold s_decree
    rw [e1, e2, e3, e4, e4, e4, e4]
    exact ⟨Nat.le_trans (ncN_le _ _ _) (Nat.succ_le_succ h.cgk), h.td0, h.htl, h.hby, h.hln, h.hLN, h.hap, h.hz21, h.hao, h.hz32, h.hz33, h.hz73, h.hz74, h.hwn, h.hWD, v.2, push3 (P := fun a b c => okN a 31 ∧ okN b 6 ∧ inR c 0 (tbM (cN b))) h.hDC ⟨okN_le (m := 30) v.1.2.1.1 v.1.2.1.2 (by decide) (by decide), okN_le (m := 5) v.1.1.1 v.1.1.2 (by decide) (by decide), v.1.2.2⟩, h.hC, h.ho, h.hz24, h.hz25, h.hsh, cd_note h.hcd h.td0.1, fun x => (EV_d.trans (or_congr (h.hES x) Iff.rfl)).trans es_note.symm⟩
  · have e1 : ∀ f n d, ntN (deO σ.dn a1 a2 a3) f n d = n := fun f n d => if_neg o
    have e2 : ∀ f n d, ntB (deO σ.dn a1 a2 a3) f n d = f := fun f n d => if_neg o
    have e3 : deN σ.dn a1 a2 a3 = σ.dn := if_neg o
    have e4 : ∀ f v, deU f v σ.dn a1 a2 a3 = f := fun f v => if_neg o
    unfold s_decree
    rw [e1, e2, e3, e4, e4, e4, e4]
    exact h.mono
/-- all appeals came up to today: the line stands if they are even in number -/
theorem stC_even {ad : Nat → Int32} {b : Nat} {d : Int32} : ∀ n, (∀ j, j < n → ad (b + j) ≤ d) → stC ad b d n = decide (n % 2 = 0) := by
  intro n
  induction n with
  | zero => intro _; rfl
  | succ n ih =>
    intro h
    rw [stC, if_pos (h n (by omega)), ih (fun j hj => h j (by omega))]
    by_cases e : n % 2 = 0
    · rw [decide_eq_true e, decide_eq_false (by omega)]; rfl
    · rw [decide_eq_false e, decide_eq_true (by omega)]; rfl
theorem ap_new {ap ad st : Nat → Int32} {q n : Nat} {td s : Int32} (hn : n = cN (ap q)) (h8 : n < 8) (ha : apOk ap ad st q) (hall : ∀ j, j < n → ad (q * 8 + j) ≤ td) (hs : s = if n % 2 = 0 then 1 else 0) : apOk (upd ap q (nI (n + 1))) (upd ad (q * 8 + n) td) (upd st (q * 8 + n) s) q := by
  unfold apOk at ha ⊢
  rw [pk_us, cN_nI (by omega)]
  rw [← hn] at ha
  refine ⟨?_, ?_⟩
  · intro j hj
    by_cases e : j = n
    · rw [e, pk_us]; exact hs
    · rw [pk_un (by omega)]; exact ha.1 j (by omega)
  · intro i j hij hj
    by_cases e : j = n
    · rw [e, pk_us]
      by_cases e2 : i = n
      · rw [e2, pk_us]; exact Int32.le_refl _
      · rw [pk_un (by omega)]; exact hall i (by omega)
    · rw [pk_un (by omega), pk_un (by omega)]; exact ha.2 i j hij (by omega)
theorem ap_old {ap ad st : Nat → Int32} {q n i : Nat} {td s v : Int32} (h8 : n < 8) (hi : ¬ i = q) (h9 : cN (ap i) ≤ 8) (ha : apOk ap ad st i) : apOk (upd ap q v) (upd ad (q * 8 + n) td) (upd st (q * 8 + n) s) i := by
  unfold apOk at ha ⊢
  rw [pk_un hi]
  refine ⟨fun j hj => ?_, fun x y hxy hy => ?_⟩
  · rw [pk_un (by omega)]; exact ha.1 j hj
  · rw [pk_un (by omega), pk_un (by omega)]; exact ha.2 x y hxy hy
theorem EV_a {dy ap ad wd dd : Nat → Int32} {ln wn dn q n : Nat} {td x : Int32} (hq : q < ln) (hn : n = cN (ap q)) (h8 : n < 8) (hap : ∀ i, i < ln → okN (ap i) 9) : EV dy (upd ap q (nI (n + 1))) (upd ad (q * 8 + n) td) ln wd wn dd dn x ↔ EV dy ap ad ln wd wn dd dn x ∨ x = td := by
  have key : (∃ i, i < ln ∧ ∃ j, j < cN (upd ap q (nI (n + 1)) i) ∧ upd ad (q * 8 + n) td (i * 8 + j) = x) ↔ (∃ i, i < ln ∧ ∃ j, j < cN (ap i) ∧ ad (i * 8 + j) = x) ∨ x = td := by
    constructor
    · rintro ⟨i, hi, j, hj, e⟩
      by_cases c : i = q
      · subst c
        rw [pk_us, cN_nI (by omega)] at hj
        by_cases c2 : j = n
        · subst c2; rw [pk_us] at e; exact Or.inr e.symm
        · rw [pk_un (by omega)] at e; exact Or.inl ⟨i, hi, j, by omega, e⟩
      · rw [pk_un c] at hj
        have := (hap i hi).2
        rw [pk_un (by omega)] at e
        exact Or.inl ⟨i, hi, j, hj, e⟩
    · rintro (⟨i, hi, j, hj, e⟩ | e)
      · have := (hap i hi).2
        by_cases c : i = q
        · subst c
          exact ⟨i, hi, j, by rw [pk_us, cN_nI (by omega)]; omega, by rw [pk_un (by omega)]; exact e⟩
        · exact ⟨i, hi, j, by rw [pk_un c]; exact hj, by rw [pk_un (by omega)]; exact e⟩
      · exact ⟨q, hq, n, by rw [pk_us, cN_nI (by omega)]; omega, by rw [pk_us]; exact e.symm⟩
  unfold EV
  rw [key]
  constructor
  · rintro (a | (b | e) | c | d)
    · exact Or.inl (Or.inl a)
    · exact Or.inl (Or.inr (Or.inl b))
    · exact Or.inr e
    · exact Or.inl (Or.inr (Or.inr (Or.inl c)))
    · exact Or.inl (Or.inr (Or.inr (Or.inr d)))
  · rintro ((a | b | c | d) | e)
    · exact Or.inl a
    · exact Or.inr (Or.inl (Or.inl b))
    · exact Or.inr (Or.inr (Or.inl c))
    · exact Or.inr (Or.inr (Or.inr d))
    · exact Or.inr (Or.inl (Or.inr e))
theorem Inv.ev {σ : RunS} {k : Nat} (h : Inv σ k) {x : Int32} (e : EV σ.f18 σ.f21 σ.f22 σ.ln σ.f42 σ.wn σ.f14 σ.dn x) : 0 ≤ x ∧ x ≤ σ.td := by
  obtain ⟨i, hi, rfl⟩ := (h.hES x).mp e
  exact h.hcd.2 i hi
theorem inv_appeal {σ : RunS} {k : Nat} (h : Inv σ k) (a1 a2 : Int32) : Inv (s_appeal σ a1 a2) (k + 1) := by
  by_cases o : aeO σ.f18 σ.f21 σ.f22 σ.ln σ.td a1 a2 = 0
  · have e1 : ∀ f n d, ntN (aeO σ.f18 σ.f21 σ.f22 σ.ln σ.td a1 a2) f n d = ncN f n d := fun f n d => if_pos o
    have e2 : ∀ f n d, ntB (aeO σ.f18 σ.f21 σ.f22 σ.ln σ.td a1 a2) f n d = ncA f n d := fun f n d => if_pos o
    have e3 : aeP σ.f18 σ.f21 σ.f22 σ.ln σ.td a1 a2 = upd σ.f21 (cN a1) (nI (cN (σ.f21 (cN a1)) + 1)) := if_pos o
    have e4 : aeD σ.f18 σ.f21 σ.f22 σ.ln σ.td a1 a2 = upd σ.f22 (cN a1 * 8 + cN (σ.f21 (cN a1))) σ.td := if_pos o
    have e5 : aeK σ.f18 σ.f21 σ.f22 σ.ln σ.td a1 a2 σ.f58 = upd σ.f58 (cN a1 * 8 + cN (σ.f21 (cN a1))) a2 := if_pos o
    have v : (hasL a1 σ.ln ∧ inR a2 0 1) ∧ (stCl σ.f18 σ.f21 σ.f22 (cN a1) σ.td ↔ a2 = 1) ∧ cN (σ.f21 (cN a1)) < 8 := by
      unfold aeO at o
      split at o
      · split at o
        · split at o
          · exact ⟨by assumption, by assumption, by assumption⟩
          · exact absurd o (by decide)
        · exact absurd o (by decide)
      · exact absurd o (by decide)
    have hq : cN a1 < σ.ln := (hasL_ok v.1.1 (by have := h.hln; omega)).2
    have hall : ∀ j, j < cN (σ.f21 (cN a1)) → σ.f22 (cN a1 * 8 + j) ≤ σ.td := fun j hj => (h.ev (Or.inr (Or.inl ⟨_, hq, j, hj, rfl⟩))).2
    have hdy : σ.f18 (cN a1) ≤ σ.td := (h.ev (Or.inl ⟨_, hq, rfl⟩)).2
    have hs : a2 = if cN (σ.f21 (cN a1)) % 2 = 0 then 1 else 0 := by
      have h2 := v.2.1
      unfold stCl at h2
      rw [stC_even _ hall] at h2
      by_cases c : cN (σ.f21 (cN a1)) % 2 = 0
      · rw [if_pos c]; exact h2.mp ⟨hdy, decide_eq_true c⟩
      · rw [if_neg c]
        have h3 : ¬ a2 = 1 := fun z => by have := (h2.mpr z).2; rw [decide_eq_false c] at this; cases this
        have q1 := Int32.le_iff_toInt_le.mp v.1.2.1
        have q2 := Int32.le_iff_toInt_le.mp v.1.2.2
        have i0 : (0 : Int32).toInt = 0 := by decide
        have i1 : (1 : Int32).toInt = 1 := by decide
        have q3 : ¬ a2.toInt = (1 : Int32).toInt := fun z => h3 (Int32.toInt_inj.mp z)
        exact Int32.toInt_inj.mp (by omega)
    unfold s_appeal
    rw [e1, e2, e3, e4, e5]
    refine ⟨Nat.le_trans (ncN_le _ _ _) (Nat.succ_le_succ h.cgk), h.td0, h.htl, h.hby, h.hln, h.hLN, fun i hi => ?_, fun j hj => ?_, fun i hi => ?_, h.hz32, h.hz33, h.hz73, h.hz74, h.hwn, h.hWD, h.hdn, h.hDC, h.hC, h.ho, h.hz24, h.hz25, h.hsh, cd_note h.hcd h.td0.1, fun x => ((EV_a hq rfl v.2.2 h.hap).trans (or_congr (h.hES x) Iff.rfl)).trans es_note.symm⟩
    · show okN (upd σ.f21 (cN a1) (nI (cN (σ.f21 (cN a1)) + 1)) i) 9
      by_cases c : i = cN a1
      · rw [c, pk_us]; exact okN_nI (by have := v.2.2; omega) (by decide)
      · rw [pk_un c]; exact h.hap i hi
    · show upd σ.f21 (cN a1) (nI (cN (σ.f21 (cN a1)) + 1)) j = 0
      have hj : σ.ln ≤ j := hj
      rw [pk_un (by omega)]; exact h.hz21 j hj
    · show apOk (upd σ.f21 (cN a1) (nI (cN (σ.f21 (cN a1)) + 1))) (upd σ.f22 (cN a1 * 8 + cN (σ.f21 (cN a1))) σ.td) (upd σ.f58 (cN a1 * 8 + cN (σ.f21 (cN a1))) a2) i
      by_cases c : i = cN a1
      · rw [c]; exact ap_new rfl v.2.2 (h.hao _ hq) hall hs
      · exact ap_old v.2.2 c (by have := (h.hap i hi).2; omega) (h.hao i hi)
  · have e1 : ∀ f n d, ntN (aeO σ.f18 σ.f21 σ.f22 σ.ln σ.td a1 a2) f n d = n := fun f n d => if_neg o
    have e2 : ∀ f n d, ntB (aeO σ.f18 σ.f21 σ.f22 σ.ln σ.td a1 a2) f n d = f := fun f n d => if_neg o
    have e3 : aeP σ.f18 σ.f21 σ.f22 σ.ln σ.td a1 a2 = σ.f21 := if_neg o
    have e4 : aeD σ.f18 σ.f21 σ.f22 σ.ln σ.td a1 a2 = σ.f22 := if_neg o
    have e5 : aeK σ.f18 σ.f21 σ.f22 σ.ln σ.td a1 a2 σ.f58 = σ.f58 := if_neg o
    unfold s_appeal
    rw [e1, e2, e3, e4, e5]
    exact h.mono
