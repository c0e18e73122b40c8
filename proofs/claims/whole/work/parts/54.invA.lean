theorem Inv.mono {σ : RunS} {k : Nat} (h : Inv σ k) : Inv σ (k + 1) := ⟨Nat.le_succ_of_le h.cgk, h.2⟩
theorem i32_lt {a b : Int32} (h : a ≤ b) (n : ¬ a = b) : a < b := by
  have h1 := Int32.le_iff_toInt_le.mp h
  refine Int32.lt_iff_toInt_lt.mpr ?_
  have h2 : ¬ a.toInt = b.toInt := fun z => n (Int32.toInt_inj.mp z)
  omega
theorem ex_push {f : Nat → Int32} {n : Nat} {v x : Int32} : (∃ i, i < n + 1 ∧ upd f n v i = x) ↔ (∃ i, i < n ∧ f i = x) ∨ x = v := by
  constructor
  · rintro ⟨i, hi, e⟩
    by_cases h : i = n
    · subst h; rw [pk_us] at e; exact Or.inr e.symm
    · rw [pk_un h] at e; exact Or.inl ⟨i, by omega, e⟩
  · rintro (⟨i, hi, e⟩ | e)
    · exact ⟨i, by omega, by rw [pk_un (by omega)]; exact e⟩
    · exact ⟨n, by omega, by rw [pk_us]; exact e.symm⟩
theorem ncB_iff {cd : Nat → Int32} {cg : Nat} {td : Int32} : ncB cd cg td = true ↔ 0 < cg ∧ cd (cg - 1) = td := by
  unfold ncB
  rw [Bool.and_eq_true, decide_eq_true_eq, decide_eq_true_eq]
theorem es_note {cd : Nat → Int32} {cg : Nat} {td x : Int32} : (∃ i, i < ncN cd cg td ∧ ncA cd cg td i = x) ↔ (∃ i, i < cg ∧ cd i = x) ∨ x = td := by
  unfold ncN ncA
  by_cases hB : ncB cd cg td = true
  · rw [if_pos hB, if_pos hB]
    constructor
    · exact Or.inl
    · rintro (h | e)
      · exact h
      · have hB := ncB_iff.mp hB
        exact ⟨cg - 1, by omega, by rw [hB.2, e]⟩
  · rw [if_neg hB, if_neg hB]; exact ex_push
theorem cd_note {cd : Nat → Int32} {cg : Nat} {td : Int32} (h : cdOk cd cg td) (h0 : 0 ≤ td) : cdOk (ncA cd cg td) (ncN cd cg td) td := by
  unfold ncN ncA
  by_cases hB : ncB cd cg td = true
  · rw [if_pos hB, if_pos hB]; exact h
  · rw [if_neg hB, if_neg hB]
    refine ⟨?_, ?_⟩
    · intro i j hij hj
      by_cases e : j = cg
      · subst e
        rw [pk_us, pk_un (by omega)]
        have hl : ¬ cd (j - 1) = td := fun z => hB (ncB_iff.mpr ⟨by omega, z⟩)
        have h1 : cd (j - 1) < td := i32_lt (h.2 (j - 1) (by omega)).2 hl
        by_cases e2 : i = j - 1
        · rw [e2]; exact h1
        · exact Int32.lt_trans (h.1 i (j - 1) (by omega) (by omega)) h1
      · rw [pk_un (by omega), pk_un e]; exact h.1 i j hij (by omega)
    · intro i hi
      by_cases e : i = cg
      · subst e; rw [pk_us]; exact ⟨h0, Int32.le_refl _⟩
      · rw [pk_un e]; exact h.2 i (by omega)
theorem ncN_le (cd : Nat → Int32) (cg : Nat) (td : Int32) : ncN cd cg td ≤ cg + 1 := by unfold ncN; split <;> omega
/-- the state of those that only reckon -/
theorem inv_scr {σ τ : RunS} {k : Nat} (h : Inv σ k) (hz32 : ∀ j, σ.ln ≤ j → τ.f32 j = 0) (hz33 : ∀ j, σ.ln ≤ j → τ.f33 j = 0) (hz73 : ∀ j, σ.ln ≤ j → τ.f73 j = 0) (hz74 : ∀ j, σ.ln ≤ j → τ.f74 j = 0)
    (e : τ = (σ.cg, σ.td, σ.tl, τ.rc, τ.ts, τ.te, τ.ft, σ.ln, σ.wn, σ.dn, σ.on, τ.mat, τ.mfr, τ.mlg, τ.mfd, σ.f10, σ.f11, σ.f12, σ.f13, σ.f14, σ.f15, σ.f16, σ.f17, σ.f18, σ.f19, σ.f20, σ.f21, σ.f22, σ.f23, σ.f24, σ.f25, τ.f26, σ.f27, σ.f28, τ.f29, τ.f30, τ.f31, τ.f32, τ.f33, τ.f34, τ.f35, τ.f36, τ.f37, σ.f38, σ.f39, σ.f40, σ.f41, σ.f42, τ.f43, τ.f44, τ.f45, σ.f58, τ.f70, τ.f71, τ.f72, τ.f73, τ.f74, τ.f75, τ.f76)) : Inv τ (k + 1) := by
  rw [e]
  exact ⟨Nat.le_succ_of_le h.cgk, h.td0, h.htl, h.hby, h.hln, h.hLN, h.hap, h.hz21, h.hao, hz32, hz33, hz73, hz74, h.hwn, h.hWD, h.hdn, h.hDC, h.hC, h.ho, h.hz24, h.hz25, h.hsh, h.hcd, h.hES⟩
theorem firstI_lt {p : Nat → Bool} {n : Nat} (hn : n ≤ 100) (h : ¬ firstI p n 0 = (-1000000005)) : cN (firstI p n 0) < n := by
  rcases firstI_or p n 0 with z | ⟨j, h1, h2, h3, h4⟩
  · exact absurd z h
  · rw [h4, cN_nI (by omega)]; omega
theorem mtF_z9 {q kd hs of nm m0 : Nat → Int32} {n : Nat} (hn : n ≤ 100) (hm : ∀ j, n ≤ j → m0 j = 0) : ∀ k, k ≤ n → ∀ j, n ≤ j → mtF q kd hs of nm n m0 k j = 0 := by
  intro k
  induction k with
  | zero => intro _ j hj; exact hm j hj
  | succ k ih =>
    intro hk j hj
    rw [mtF]
    split
    · unfold mtPut
      split
      · exact ih (by omega) j hj
      · rename_i hx
        have hi := firstI_lt hn hx
        rw [pk_un (by omega), pk_un (by omega)]
        exact ih (by omega) j hj
    · exact ih (by omega) j hj
theorem kM_z9 {kd hs yr dy of nm ap ad : Nat → Int32} {n : Nat} {y d : Int32} (hn : n ≤ 100) : ∀ j, n ≤ j → kM kd hs yr dy of nm ap ad n y d j = 0 := by
  intro j hj
  unfold kM
  exact mtF_z9 hn (fun i hi => by unfold cut; rw [if_neg (by omega)]; rfl) n (Nat.le_refl _) j hj
theorem kQ_z9 {kd hs yr dy of nm ap ad wh wp wo wd ar : Nat → Int32} {n wn : Nat} {y d : Int32} : ∀ j, n ≤ j → kQ kd hs yr dy of nm ap ad n wh wp wo wd wn ar y d j = 0 := by
  intro j hj
  unfold kQ cut
  rw [if_neg (by omega)]; rfl
theorem ite_z {P : Prop} [Decidable P] {a b : Nat → Int32} {n : Nat} (ha : ∀ j, n ≤ j → a j = 0) (hb : ∀ j, n ≤ j → b j = 0) : ∀ j, n ≤ j → (if P then a else b) j = 0 := by
  intro j hj
  split
  · exact ha j hj
  · exact hb j hj
theorem inv_line {σ : RunS} {k : Nat} (h : Inv σ k) (a1 a2 : Int32) : Inv (s_line σ a1 a2) (k + 1) := h.mono
theorem inv_isOf {σ : RunS} {k : Nat} (h : Inv σ k) (a1 a2 : Int32) : Inv (s_isOf σ a1 a2) (k + 1) := h.mono
theorem inv_stands {σ : RunS} {k : Nat} (h : Inv σ k) (a1 a2 : Int32) : Inv (s_stands σ a1 a2) (k + 1) := h.mono
theorem inv_holds {σ : RunS} {k : Nat} (h : Inv σ k) (a1 a2 a3 : Int32) : Inv (s_holds σ a1 a2 a3) (k + 1) := h.mono
theorem inv_loan {σ : RunS} {k : Nat} (h : Inv σ k) (a1 a2 a3 : Int32) : Inv (s_loan σ a1 a2 a3) (k + 1) := h.mono
theorem inv_count {σ : RunS} {k : Nat} (h : Inv σ k) (a1 : Int32) : Inv (s_count σ a1) (k + 1) := h.mono
theorem inv_toldOf {σ : RunS} {k : Nat} (h : Inv σ k) (a1 a2 : Int32) : Inv (s_toldOf σ a1 a2) (k + 1) := inv_scr h h.hz32 h.hz33 h.hz73 h.hz74 rfl
theorem inv_match {σ : RunS} {k : Nat} (h : Inv σ k) (a1 a2 : Int32) : Inv (s_match σ a1 a2) (k + 1) := inv_scr h (ite_z (kM_z9 h.hln) h.hz32) (ite_z kQ_z9 h.hz33) (ite_z (kM_z9 h.hln) h.hz73) (ite_z kQ_z9 h.hz74) rfl
theorem inv_quarrel {σ : RunS} {k : Nat} (h : Inv σ k) (a1 a2 : Int32) : Inv (s_quarrel σ a1 a2) (k + 1) := inv_scr h (ite_z (kM_z9 h.hln) h.hz32) (ite_z kQ_z9 h.hz33) (ite_z (kM_z9 h.hln) h.hz73) (ite_z kQ_z9 h.hz74) rfl
theorem inv_quarrels {σ : RunS} {k : Nat} (h : Inv σ k) (a1 a2 : Int32) : Inv (s_quarrels σ a1 a2) (k + 1) := inv_scr h (ite_z (kM_z9 h.hln) h.hz32) (ite_z kQ_z9 h.hz33) (ite_z (kM_z9 h.hln) h.hz73) (ite_z kQ_z9 h.hz74) rfl
theorem inv_worth {σ : RunS} {k : Nat} (h : Inv σ k) (a1 a2 a3 : Int32) : Inv (s_worth σ a1 a2 a3) (k + 1) := inv_scr h (ite_z (kM_z9 h.hln) h.hz32) (ite_z kQ_z9 h.hz33) (ite_z (kM_z9 h.hln) h.hz73) (ite_z kQ_z9 h.hz74) rfl
theorem inv_tax {σ : RunS} {k : Nat} (h : Inv σ k) (a1 a2 a3 : Int32) : Inv (s_tax σ a1 a2 a3) (k + 1) := inv_scr h (ite_z (kM_z9 h.hln) h.hz32) (ite_z kQ_z9 h.hz33) (ite_z (kM_z9 h.hln) h.hz73) (ite_z kQ_z9 h.hz74) rfl
theorem inv_taxes {σ : RunS} {k : Nat} (h : Inv σ k) (a1 a2 : Int32) : Inv (s_taxes σ a1 a2) (k + 1) := inv_scr h (ite_z (kM_z9 h.hln) h.hz32) (ite_z kQ_z9 h.hz33) (ite_z (kM_z9 h.hln) h.hz73) (ite_z kQ_z9 h.hz74) rfl
theorem inv_since {σ : RunS} {k : Nat} (h : Inv σ k) (a1 a2 : Int32) : Inv (s_since σ a1 a2) (k + 1) := inv_scr h (ite_z (kM_z9 h.hln) h.hz32) (ite_z kQ_z9 h.hz33) (ite_z (kM_z9 h.hln) h.hz73) (ite_z kQ_z9 h.hz74) rfl
theorem inv_differs {σ : RunS} {k : Nat} (h : Inv σ k) (a1 a2 a3 : Int32) : Inv (s_differs σ a1 a2 a3) (k + 1) := inv_scr h (ite_z (kM_z9 h.hln) h.hz32) (ite_z kQ_z9 h.hz33) (ite_z (kM_z9 h.hln) h.hz73) (ite_z kQ_z9 h.hz74) rfl
/-- a new day -/
theorem dy_ok {td n : Int32} (h : 0 ≤ td ∧ td ≤ 100000) : 0 ≤ dyN td n ∧ dyN td n ≤ 100000 ∧ td ≤ dyN td n := by
  unfold dyN
  by_cases c : dyV td n
  · rw [if_pos c]
    have c1 := c.1
    have q1 := Int32.le_iff_toInt_le.mp c1.1
    have q2 := Int32.le_iff_toInt_le.mp c1.2
    have q3 := Int32.le_iff_toInt_le.mp h.1
    have q4 := Int32.le_iff_toInt_le.mp h.2
    have e0 : (0 : Int32).toInt = 0 := by decide
    have e1 : (1000 : Int32).toInt = 1000 := by decide
    have e2 : (100000 : Int32).toInt = 100000 := by decide
    have e : (td + n).toInt = td.toInt + n.toInt := by
      rw [Int32.toInt_add]; exact Int.bmod_eq_of_le (by omega) (by omega)
    refine ⟨Int32.le_iff_toInt_le.mpr (by omega), c.2, Int32.le_iff_toInt_le.mpr (by omega)⟩
  · rw [if_neg c]; exact ⟨h.1, h.2, Int32.le_refl _⟩
theorem inv_days {σ : RunS} {k : Nat} (h : Inv σ k) (a1 : Int32) : Inv (s_days σ a1) (k + 1) := by
  have hd := dy_ok (n := a1) h.td0
  exact ⟨Nat.le_succ_of_le h.cgk, ⟨hd.1, hd.2.1⟩, h.htl, h.hby, h.hln, h.hLN, h.hap, h.hz21, h.hao, h.hz32, h.hz33, h.hz73, h.hz74, h.hwn, h.hWD, h.hdn, h.hDC, h.hC, h.ho, h.hz24, h.hz25, h.hsh, ⟨h.hcd.1, fun i hi => ⟨(h.hcd.2 i hi).1, Int32.le_trans (h.hcd.2 i hi).2 hd.2.2⟩⟩, h.hES⟩
theorem ms_ok {f : Nat → Int32} {p a c : Int32} (h : ∀ q, q < 12 → okN (f q) 3) : ∀ q, q < 12 → okN (msC f p a c q) 3 := by
  intro q hq
  unfold msC
  split
  · rename_i v
    by_cases e : q = cN p
    · rw [e, pk_us]; exact okN_le (m := 2) v.2.2.1 v.2.2.2 (by decide) (by decide)
    · rw [pk_un e]; exact h q hq
  · exact h q hq
theorem inv_measure {σ : RunS} {k : Nat} (h : Inv σ k) (a1 a2 a3 : Int32) : Inv (s_measure σ a1 a2 a3) (k + 1) :=
  ⟨Nat.le_succ_of_le h.cgk, h.td0, h.htl, h.hby, h.hln, h.hLN, h.hap, h.hz21, h.hao, h.hz32, h.hz33, h.hz73, h.hz74, h.hwn, h.hWD, h.hdn, h.hDC, ms_ok h.hC, h.ho, h.hz24, h.hz25, h.hsh, h.hcd, h.hES⟩
theorem by255 (x : Int32) : 0 ≤ x &&& 255 ∧ x &&& 255 ≤ 255 := by
  have h1 : (x &&& 255).toBitVec.toNat ≤ 255 := by
    rw [show (x &&& 255).toBitVec = x.toBitVec &&& 255#32 from rfl, BitVec.toNat_and]
    exact Nat.and_le_right
  have h2 : (x &&& 255).toInt = ((x &&& 255).toBitVec.toNat : Int) := by
    show (x &&& 255).toBitVec.toInt = _
    exact BitVec.toInt_eq_toNat_of_lt (by omega)
  have e0 : (0 : Int32).toInt = 0 := by decide
  have e1 : (255 : Int32).toInt = 255 := by decide
  exact ⟨Int32.le_iff_toInt_le.mpr (by omega), Int32.le_iff_toInt_le.mpr (by omega)⟩
theorem upd_by {f : Nat → Int32} {t : Nat} {v : Int32} (hf : ∀ i, i < 60 → 0 ≤ f i ∧ f i ≤ 255) (hv : 0 ≤ v ∧ v ≤ 255) : ∀ i, i < 60 → 0 ≤ upd f t v i ∧ upd f t v i ≤ 255 := by
  intro i hi
  by_cases e : i = t
  · rw [e, pk_us]; exact hv
  · rw [pk_un e]; exact hf i hi
theorem ap4_by {f : Nat → Int32} {t : Nat} {v : Int32} (hf : ∀ i, i < 60 → 0 ≤ f i ∧ f i ≤ 255) : ∀ i, i < 60 → 0 ≤ ap4 f t v i ∧ ap4 f t v i ≤ 255 := by
  unfold ap4
  exact upd_by (upd_by (upd_by (upd_by hf (by255 _)) (by255 _)) (by255 _)) (by255 _)
theorem fdT_by {f : Nat → Int32} {t : Nat} {a b c : Int32} (hf : ∀ i, i < 60 → 0 ≤ f i ∧ f i ≤ 255) : ∀ i, i < 60 → 0 ≤ fdT f t a b c i ∧ fdT f t a b c i ≤ 255 := by
  unfold fdT
  split
  · exact ap4_by (ap4_by (ap4_by hf))
  · exact hf
theorem inv_feed {σ : RunS} {k : Nat} (h : Inv σ k) (a1 a2 a3 : Int32) : Inv (s_feed σ a1 a2 a3) (k + 1) :=
  ⟨Nat.le_succ_of_le h.cgk, h.td0, (by show fdN σ.tl ≤ 60; have := h.htl; unfold fdN; split <;> omega), fdT_by h.hby, h.hln, h.hLN, h.hap, h.hz21, h.hao, h.hz32, h.hz33, h.hz73, h.hz74, h.hwn, h.hWD, h.hdn, h.hDC, h.hC, h.ho, h.hz24, h.hz25, h.hsh, h.hcd, h.hES⟩
theorem trN_le {t : Nat} {n : Int32} (h : t ≤ 60) : trN t n ≤ 60 := by
  unfold trN
  split
  · rename_i c
    have := (okN_le (m := t) c.1 c.2 (nI_toInt (by omega)) (by omega)).2
    omega
  · exact h
theorem inv_trim {σ : RunS} {k : Nat} (h : Inv σ k) (a1 : Int32) : Inv (s_trim σ a1) (k + 1) :=
  ⟨Nat.le_succ_of_le h.cgk, h.td0, trN_le h.htl, h.hby, h.hln, h.hLN, h.hap, h.hz21, h.hao, h.hz32, h.hz33, h.hz73, h.hz74, h.hwn, h.hWD, h.hdn, h.hDC, h.hC, h.ho, h.hz24, h.hz25, h.hsh, h.hcd, h.hES⟩
