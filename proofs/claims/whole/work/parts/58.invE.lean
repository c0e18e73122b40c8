theorem inv_levy {σ : RunS} {k : Nat} (h : Inv σ k) (a1 a2 : Int32) : Inv (s_levy σ a1 a2) (k + 1) := by
  obtain ⟨W, hW⟩ : ∃ W, W = kW σ.f15 σ.f16 σ.f17 σ.f18 σ.f19 σ.f20 σ.f21 σ.f22 σ.ln σ.f39 σ.f40 σ.f41 σ.f42 σ.wn σ.f27 σ.f28 σ.f11 σ.f12 σ.f13 σ.f14 σ.dn a2 σ.td := ⟨_, rfl⟩
  have wb := h.wb a2 σ.td
  unfold s_levy
  rw [← hW] at wb ⊢
  by_cases o : leO W σ.on a1 a2 = 0
  · have e1 : leN W σ.on a1 a2 = σ.on + 1 := if_pos o
    have e2 : leS W σ.on a1 a2 σ.f23 σ.f26 = (leX W σ.on a1 σ.f23 σ.f26).1 := if_pos o
    have e3 : leT W σ.on a1 a2 σ.f23 σ.f26 = (leX W σ.on a1 σ.f23 σ.f26).2 := if_pos o
    have v : (inR a1 1 100000 ∧ inR a2 0 30) ∧ ¬ sumI W 10 = 0 ∧ σ.on < 6 := by
      unfold leO at o
      split at o
      · split at o
        · exact absurd o (by decide)
        · split at o
          · exact ⟨by assumption, by assumption, by assumption⟩
          · exact absurd o (by decide)
      · exact absurd o (by decide)
    rw [e1, e2, e3]
    exact ⟨Nat.le_succ_of_le h.cgk, h.td0, h.htl, h.hby, h.hln, h.hLN, h.hap, h.hz21, h.hao, ite_z (kM_z9 h.hln) h.hz32, ite_z kQ_z9 h.hz33, ite_z (kM_z9 h.hln) h.hz73, ite_z kQ_z9 h.hz74, h.hwn, h.hWD, h.hdn, h.hDC, h.hC, v.2.2, fun j hj => h.hz24 j (by have hj : (σ.on + 1) * 10 ≤ j := hj; omega), fun j hj => h.hz25 j (by have hj : (σ.on + 1) * 10 ≤ j := hj; omega), sh_ok wb v.1.1 v.2.1 h.hz24 h.hsh, h.hcd, h.hES⟩
  · have e1 : leN W σ.on a1 a2 = σ.on := if_neg o
    have e2 : leS W σ.on a1 a2 σ.f23 σ.f26 = σ.f23 := if_neg o
    have e3 : leT W σ.on a1 a2 σ.f23 σ.f26 = σ.f26 := if_neg o
    rw [e1, e2, e3]
    exact ⟨Nat.le_succ_of_le h.cgk, h.td0, h.htl, h.hby, h.hln, h.hLN, h.hap, h.hz21, h.hao, ite_z (kM_z9 h.hln) h.hz32, ite_z kQ_z9 h.hz33, ite_z (kM_z9 h.hln) h.hz73, ite_z kQ_z9 h.hz74, h.hwn, h.hWD, h.hdn, h.hDC, h.hC, h.ho, h.hz24, h.hz25, h.hsh, h.hcd, h.hES⟩
/-- r is the latest of the days S up to m, or 0 -/
def IsL (S : Int32 → Prop) (m r : Int32) : Prop := (r = 0 ∨ (S r ∧ r ≤ m)) ∧ (∀ s, S s → s ≤ m → s ≤ r) ∧ 0 ≤ r
theorem IsL.cong {S T : Int32 → Prop} {m r : Int32} (e : ∀ s, S s ↔ T s) (h : IsL S m r) : IsL T m r :=
  ⟨h.1.imp id (fun z => ⟨(e r).mp z.1, z.2⟩), fun s hs => h.2.1 s ((e s).mpr hs), h.2.2⟩
theorem IsL.le {S : Int32 → Prop} {m r q : Int32} (h : IsL S m r) (g : IsL S m q) : r ≤ q := by
  rcases h.1 with e | ⟨a, b⟩
  · rw [e]; exact g.2.2
  · exact g.2.1 r a b
theorem IsL.uniq {S : Int32 → Prop} {m r q : Int32} (h : IsL S m r) (g : IsL S m q) : r = q := Int32.le_antisymm (h.le g) (g.le h)
theorem IsL.put {S : Int32 → Prop} {m r b : Int32} (h : IsL S m r) : IsL (fun s => S s ∨ s = b) m (ltr r b m) := by
  unfold ltr
  by_cases c : ¬ m < b ∧ ¬ b ≤ r
  · rw [if_pos c]
    have h1 : b ≤ m := Int32.not_lt.mp c.1
    have h2 : r ≤ b := Int32.le_of_lt (Int32.not_le.mp c.2)
    refine ⟨Or.inr ⟨Or.inr rfl, h1⟩, fun s hs hm => ?_, Int32.le_trans h.2.2 h2⟩
    rcases hs with a | e
    · exact Int32.le_trans (h.2.1 s a hm) h2
    · rw [e]; exact Int32.le_refl _
  · rw [if_neg c]
    refine ⟨h.1.imp id (fun z => ⟨Or.inl z.1, z.2⟩), fun s hs hm => ?_, h.2.2⟩
    rcases hs with a | e
    · exact h.2.1 s a hm
    · rw [e] at hm ⊢
      exact Decidable.byContradiction (fun z => c ⟨Int32.not_lt.mpr hm, z⟩)
theorem evA_L {S : Int32 → Prop} {ad : Nat → Int32} {m d : Int32} {b : Nat} (h : IsL S m d) : ∀ n, IsL (fun s => S s ∨ ∃ j, j < n ∧ ad (b + j) = s) m (evA ad m b d n) := by
  intro n
  induction n with
  | zero => exact h.cong (fun s => ⟨Or.inl, fun z => z.elim id (fun ⟨j, hj, _⟩ => absurd hj (Nat.not_lt_zero _))⟩)
  | succ n ih =>
    rw [evA]
    refine (ih.put (b := ad (b + n))).cong (fun s => ?_)
    rw [ex_succ (P := fun j => ad (b + j) = s)]
    constructor
    · rintro ((a | c) | e)
      · exact Or.inl a
      · exact Or.inr (Or.inl c)
      · exact Or.inr (Or.inr e.symm)
    · rintro (a | c | e)
      · exact Or.inl (Or.inl a)
      · exact Or.inl (Or.inr c)
      · exact Or.inr e.symm
theorem evW_L {S : Int32 → Prop} {wd : Nat → Int32} {m d : Int32} (h : IsL S m d) : ∀ n, IsL (fun s => S s ∨ ∃ j, j < n ∧ wd j = s) m (evW wd m d n) := by
  intro n
  induction n with
  | zero => exact h.cong (fun s => ⟨Or.inl, fun z => z.elim id (fun ⟨j, hj, _⟩ => absurd hj (Nat.not_lt_zero _))⟩)
  | succ n ih =>
    rw [evW]
    refine (ih.put (b := wd n)).cong (fun s => ?_)
    rw [ex_succ (P := fun j => wd j = s)]
    constructor
    · rintro ((a | c) | e)
      · exact Or.inl a
      · exact Or.inr (Or.inl c)
      · exact Or.inr (Or.inr e.symm)
    · rintro (a | c | e)
      · exact Or.inl (Or.inl a)
      · exact Or.inl (Or.inr c)
      · exact Or.inr e.symm
theorem evL_L {dy ap ad : Nat → Int32} {m : Int32} : ∀ n, IsL (fun s => (∃ i, i < n ∧ dy i = s) ∨ ∃ i, i < n ∧ ∃ j, j < cN (ap i) ∧ ad (i * 8 + j) = s) m (evL dy ap ad m n) := by
  intro n
  induction n with
  | zero => exact ⟨Or.inl rfl, fun s hs => hs.elim (fun ⟨j, hj, _⟩ => absurd hj (Nat.not_lt_zero _)) (fun ⟨j, hj, _⟩ => absurd hj (Nat.not_lt_zero _)), Int32.le_refl _⟩
  | succ n ih =>
    rw [evL]
    refine (evA_L (ad := ad) (b := n * 8) (ih.put (b := dy n)) (cN (ap n))).cong (fun s => ?_)
    rw [ex_succ (P := fun i => dy i = s), ex_succ (P := fun i => ∃ j, j < cN (ap i) ∧ ad (i * 8 + j) = s)]
    constructor
    · rintro (((a | c) | e) | f)
      · exact Or.inl (Or.inl a)
      · exact Or.inr (Or.inl c)
      · exact Or.inl (Or.inr e.symm)
      · exact Or.inr (Or.inr f)
    · rintro ((a | e) | (c | f))
      · exact Or.inl (Or.inl (Or.inl a))
      · exact Or.inl (Or.inr e.symm)
      · exact Or.inl (Or.inl (Or.inr c))
      · exact Or.inr f
theorem evF_L {dy ap ad wd dd : Nat → Int32} {ln wn dn : Nat} {m : Int32} : IsL (EV dy ap ad ln wd wn dd dn) m (evF dy ap ad ln wd wn dd dn m) := by
  unfold evF
  refine (evW_L (wd := dd) (evW_L (wd := wd) (evL_L (dy := dy) (ap := ap) (ad := ad) ln) wn) dn).cong (fun s => ?_)
  unfold EV
  constructor
  · rintro (((a | b) | c) | d)
    · exact Or.inl a
    · exact Or.inr (Or.inl b)
    · exact Or.inr (Or.inr (Or.inl c))
    · exact Or.inr (Or.inr (Or.inr d))
  · rintro (a | b | c | d)
    · exact Or.inl (Or.inl (Or.inl a))
    · exact Or.inl (Or.inl (Or.inr b))
    · exact Or.inl (Or.inr c)
    · exact Or.inr d
theorem leF_L {cd : Nat → Int32} {td m : Int32} : ∀ n, cdOk cd n td → IsL (fun s => ∃ i, i < n ∧ cd i = s) m (leF cd n m) := by
  intro n
  induction n with
  | zero => intro _; exact ⟨Or.inl rfl, fun s ⟨j, hj, _⟩ => absurd hj (Nat.not_lt_zero _), Int32.le_refl _⟩
  | succ n ih =>
    intro h
    have i := ih ⟨fun a b hab hb => h.1 a b hab (by omega), fun a ha => h.2 a (by omega)⟩
    rw [leF]
    by_cases c : ¬ m < cd n
    · rw [if_pos c]
      refine ⟨Or.inr ⟨⟨n, by omega, rfl⟩, Int32.not_lt.mp c⟩, ?_, (h.2 n (by omega)).1⟩
      rintro s ⟨j, hj, rfl⟩ _
      by_cases e : j = n
      · rw [e]; exact Int32.le_refl _
      · exact Int32.le_of_lt (h.1 j n (by omega) (by omega))
    · rw [if_neg c]
      refine ⟨i.1.imp id (fun ⟨⟨j, hj, e⟩, z⟩ => ⟨⟨j, by omega, e⟩, z⟩), ?_, i.2.2⟩
      rintro s ⟨j, hj, rfl⟩ hs
      by_cases e : j = n
      · rw [e] at hs; exact absurd (Int32.not_lt.mpr hs) c
      · exact i.2.1 _ ⟨j, by omega, rfl⟩ hs
theorem Inv.evle {σ : RunS} {k : Nat} (h : Inv σ k) : ∀ x : Int32, 0 ≤ x → evF σ.f18 σ.f21 σ.f22 σ.ln σ.f42 σ.wn σ.f14 σ.dn x = leF σ.f10 σ.cg x := fun _ _ =>
  IsL.uniq (evF_L.cong (fun s => h.hES s)) (leF_L _ h.hcd)
theorem Inv.pd {σ : RunS} {k : Nat} (h : Inv σ k) : ∀ i, i < 60 → 0 ≤ σ.f23 i - σ.f24 i := by
  intro i hi
  obtain ⟨a, b, c⟩ := h.hsh i hi
  have q1 := Int32.le_iff_toInt_le.mp a
  have q2 := Int32.le_iff_toInt_le.mp b
  have q3 := Int32.le_iff_toInt_le.mp c
  have i0 : (0 : Int32).toInt = 0 := by decide
  have i2 : (200000 : Int32).toInt = 200000 := by decide
  refine Int32.le_iff_toInt_le.mpr ?_
  rw [ti_sub (by omega) (by omega)]; omega
theorem inv_0 : Inv ls0 0 :=
  ⟨Nat.le_refl _, by decide, by decide, fun _ _ => (by show (0 : Int32) ≤ 0 ∧ (0 : Int32) ≤ 255; decide), by decide, fun _ h => absurd h (Nat.not_lt_zero _), fun _ h => absurd h (Nat.not_lt_zero _), fun _ _ => rfl, fun _ h => absurd h (Nat.not_lt_zero _), fun _ _ => rfl, fun _ _ => rfl, fun _ _ => rfl, fun _ _ => rfl, by decide, fun _ h => absurd h (Nat.not_lt_zero _), by decide, fun _ h => absurd h (Nat.not_lt_zero _), fun _ _ => okN_nI (k := 0) (by decide) (by decide), by decide, fun _ _ => rfl, fun _ _ => rfl, fun _ _ => (by show (0 : Int32) ≤ 0 ∧ (0 : Int32) ≤ 0 ∧ (0 : Int32) ≤ 200000; decide), ⟨fun _ _ _ h => absurd h (Nat.not_lt_zero _), fun _ h => absurd h (Nat.not_lt_zero _)⟩, fun x => ⟨fun z => by
    rcases z with ⟨i, h, _⟩ | ⟨i, h, _⟩ | ⟨i, h, _⟩ | ⟨i, h, _⟩ <;> exact absurd h (Nat.not_lt_zero _), fun ⟨i, h, _⟩ => absurd h (Nat.not_lt_zero _)⟩⟩
