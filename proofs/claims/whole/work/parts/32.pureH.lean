theorem freeB_kd {q mt kd hs of nm : Nat → Int32} {w i : Nat} (h : freeB q mt kd hs of nm w i = true) : kd i = 5 := by
  unfold freeB at h; exact (of_decide_eq_true h).2.1
theorem mtF_none {q kd hs of nm m0 : Nat → Int32} {n : Nat} (hn : n < 2 ^ 31) (h0 : ∀ j, j < n → m0 j = (-1000000005)) : ∀ a, a ≤ n → ∀ j, a ≤ j → j < n → kd j = 4 → mtF q kd hs of nm n m0 a j = (-1000000005) := by
  intro a
  induction a with
  | zero => intro _ j _ hj _; exact h0 j hj
  | succ a ih =>
    intro ha j h1 h2 h3
    rw [mtF]
    split
    · rcases firstI_or (freeB q (mtF q kd hs of nm n m0 a) kd hs of nm a) n 0 with e | ⟨i, g1, g2, g3, e⟩
      · rw [e, mtPut_no]; exact ih (by omega) j (by omega) h2 h3
      · have h5 := freeB_kd g3
        have hji : j ≠ i := fun z => by subst z; rw [h3] at h5; exact absurd h5 (by decide)
        rw [e, mtPut_yes (by omega), pk_un hji, pk_un (by omega)]; exact ih (by omega) j (by omega) h2 h3
    · exact ih (by omega) j (by omega) h2 h3
/-- the reference's inner loop: not found yet, or found -/
def mtI (q kd hs of nm : Nat → Int32) (n : Nat) (m0 : Nat → Int32) (a : Nat) (g : Nat → Int32) (o : Nat) : Prop :=
  (g = mtF q kd hs of nm n m0 a ∧ firstI (freeB q (mtF q kd hs of nm n m0 a) kd hs of nm a) n 0 = firstI (freeB q (mtF q kd hs of nm n m0 a) kd hs of nm a) (n - o) o) ∨
  (g = mtPut (mtF q kd hs of nm n m0 a) a (firstI (freeB q (mtF q kd hs of nm n m0 a) kd hs of nm a) n 0) ∧ ¬ g a = (-1000000005) ∧ kd a = 4 ∧ q a = 0)
theorem mtI_0 {q kd hs of nm : Nat → Int32} {n : Nat} {m0 : Nat → Int32} {a : Nat} : mtI q kd hs of nm n m0 a (mtF q kd hs of nm n m0 a) 0 := Or.inl ⟨rfl, rfl⟩
theorem mtI_no {q kd hs of nm : Nat → Int32} {n : Nat} {m0 : Nat → Int32} {a : Nat} {g : Nat → Int32} {o : Nat} (h : mtI q kd hs of nm n m0 a g o) (hg : g a = (-1000000005)) (ho : o < n) (hf : ¬ (q o = 0 ∧ kd o = 5 ∧ g o = (-1000000005) ∧ hs o = of a ∧ of o = hs a ∧ nm o = nm a)) : mtI q kd hs of nm n m0 a g (o + 1) := by
  rcases h with ⟨h1, h2⟩ | ⟨h1, h2, h3⟩
  · refine Or.inl ⟨h1, h2.trans (firstI_no ?_ ho)⟩
    rw [← h1]; unfold freeB; exact fun z => hf (of_decide_eq_true z)
  · exact absurd hg h2
theorem mtI_yes {q kd hs of nm : Nat → Int32} {n : Nat} {m0 : Nat → Int32} {a : Nat} {g : Nat → Int32} {o : Nat} (h : mtI q kd hs of nm n m0 a g o) (hg : g a = (-1000000005)) (ha : a < n) (ho : o < n) (hn : n < 2 ^ 31) (hk : kd a = 4) (hq : q a = 0) (hf : q o = 0 ∧ kd o = 5 ∧ g o = (-1000000005) ∧ hs o = of a ∧ of o = hs a ∧ nm o = nm a) : mtI q kd hs of nm n m0 a (upd (upd g a (nI o)) o (nI a)) (o + 1) := by
  rcases h with ⟨h1, h2⟩ | ⟨h1, h2, h3⟩
  · have hp : freeB q (mtF q kd hs of nm n m0 a) kd hs of nm a o = true := by rw [← h1]; unfold freeB; exact decide_eq_true hf
    refine Or.inr ⟨?_, ?_, hk, hq⟩
    · rw [h2, firstI_yes hp (by omega), mtPut_yes (by omega), h1]
    · by_cases e : a = o
      · rw [e, pk_us]; exact nI_ne (by omega)
      · rw [pk_un e, pk_us]; exact nI_ne (by omega)
  · exact absurd hg h2
theorem mtI_end {q kd hs of nm : Nat → Int32} {n : Nat} {m0 : Nat → Int32} {a : Nat} {g : Nat → Int32} {o : Nat} (h : mtI q kd hs of nm n m0 a g o) (hn : n < 2 ^ 31) (ha : a < n) (h0 : ∀ j, j < n → m0 j = (-1000000005)) (hx : n ≤ o ∨ ¬ kd a = 4 ∨ ¬ q a = 0 ∨ ¬ g a = (-1000000005)) : g = mtF q kd hs of nm n m0 (a + 1) := by
  rw [mtF]
  rcases h with ⟨h1, h2⟩ | ⟨h1, h2, h3, h4⟩
  · by_cases c : q a = 0 ∧ kd a = 4
    · rw [if_pos c]
      rcases hx with hx | hx | hx | hx
      · rw [h2, show n - o = 0 by omega]; exact h1.trans mtPut_no.symm
      · exact absurd c.2 hx
      · exact absurd c.1 hx
      · rw [h1] at hx
        exact absurd (mtF_none hn h0 a (by omega) a (Nat.le_refl _) ha c.2) hx
    · rw [if_neg c]; exact h1
  · rw [if_pos ⟨h4, h3⟩]; exact h1
theorem sub_mul' (w n v : Int32) : w - n * v = w + -n * v := by grind

