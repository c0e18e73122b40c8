/-! bounds of worths; a levy's shares; the days of events -/
theorem ti_add {a b : Int32} (h : -2147483648 ≤ a.toInt + b.toInt) (h2 : a.toInt + b.toInt < 2147483648) : (a + b).toInt = a.toInt + b.toInt := by
  rw [Int32.toInt_add]; exact Int.bmod_eq_of_le (by omega) (by omega)
theorem ti_sub {a b : Int32} (h : -2147483648 ≤ a.toInt - b.toInt) (h2 : a.toInt - b.toInt < 2147483648) : (a - b).toInt = a.toInt - b.toInt := by
  rw [Int32.toInt_sub]; exact Int.bmod_eq_of_le (by omega) (by omega)
theorem ti_mul {a b : Int32} {v : Int} (e : a.toInt * b.toInt = v) (h : -2147483648 ≤ v) (h2 : v < 2147483648) : (a * b).toInt = v := by
  rw [Int32.toInt_mul, e]; exact Int.bmod_eq_of_le (by omega) (by omega)
theorem ti_neg {a : Int32} (h : -2147483648 < a.toInt) (h2 : a.toInt < 2147483648) : (-a).toInt = -a.toInt := by
  rw [Int32.toInt_neg]; exact Int.bmod_eq_of_le (by omega) (by omega)
theorem mul_b {a b A B : Int} (h0 : 0 ≤ a) (h1 : a ≤ A) (h2 : 0 ≤ b) (h3 : b ≤ B) : 0 ≤ a * b ∧ a * b ≤ A * B := ⟨Int.mul_nonneg h0 h2, Int.mul_le_mul h1 h3 h2 (Int.le_trans h0 h1)⟩
theorem inR_ti {x a b : Int32} {p q : Int} (h : inR x a b) (ha : a.toInt = p) (hb : b.toInt = q) : p ≤ x.toInt ∧ x.toInt ≤ q := by
  have h1 := Int32.le_iff_toInt_le.mp h.1
  have h2 := Int32.le_iff_toInt_le.mp h.2
  rw [ha] at h1; rw [hb] at h2
  exact ⟨h1, h2⟩
theorem vm_or (di dy dv dd : Nat → Int32) (it yr d v0 : Int32) : ∀ n, (vmF di dy dv dd it yr d v0 n).1 = v0 ∨ ∃ j, j < n ∧ di j = it ∧ (vmF di dy dv dd it yr d v0 n).1 = dv j := by
  intro n
  induction n with
  | zero => exact Or.inl rfl
  | succ n ih =>
    rw [vmF]
    split
    · rename_i c; exact Or.inr ⟨n, by omega, c.1, rfl⟩
    · rcases ih with h | ⟨j, hj, h⟩
      · exact Or.inl h
      · exact Or.inr ⟨j, by omega, h⟩
theorem tb_ok : ∀ i, i < 6 → inR (tbV i) 0 (tbM i) := by decide
theorem kV_b {di dy dv dd : Nat → Int32} {n : Nat} {y d : Int32} (h : ∀ i, i < n → okN (dy i) 31 ∧ okN (di i) 6 ∧ inR (dv i) 0 (tbM (cN (di i)))) : ∀ i, i < 6 → inR (kV di dy dv dd n y d i) 0 (tbM i) := by
  intro i hi
  unfold kV
  rcases vm_or di dy dv dd (nI i) y d (tbV i) n with e | ⟨j, hj, e1, e2⟩
  · rw [e]; exact tb_ok i hi
  · rw [e2]
    have := (h j hj).2.2
    rwa [e1, cN_nI (by omega)] at this
theorem vl_b {kd nm of cl vh : Nat → Int32} {hs : Int32} {k : Nat} (hL : lnOk (kd k) hs (of k) (nm k)) (hC : ∀ p, p < 12 → okN (cl p) 3) (hv : ∀ i, i < 6 → inR (vh i) 0 (tbM i)) : -50000 ≤ (vlF kd nm of cl vh k).toInt ∧ (vlF kd nm of cl vh k).toInt ≤ 50000 := by
  obtain ⟨hk, -, ho, hn⟩ := hL
  have v3 := inR_ti (p := 0) (q := 1000) (hv 3 (by decide)) (by decide) (by decide)
  have v4 := inR_ti (p := 0) (q := 1) (hv 4 (by decide)) (by decide) (by decide)
  unfold vlF
  rcases hk with e | e | e | e | e
  · rw [if_pos e]
    rw [e] at hn ho
    have n1 := inR_ti (p := 1) (q := 500) hn (by decide) (by decide)
    have hc := (hC _ (ho rfl).2).2
    have vc : 0 ≤ (vh (cN (cl (cN (of k))))).toInt ∧ (vh (cN (cl (cN (of k))))).toInt ≤ 100 := by
      generalize cN (cl (cN (of k))) = c at hc
      have : c = 0 ∨ c = 1 ∨ c = 2 := by omega
      rcases this with z | z | z <;> subst z
      · exact inR_ti (hv 0 (by decide)) (by decide) (by decide)
      · exact inR_ti (hv 1 (by decide)) (by decide) (by decide)
      · exact inR_ti (hv 2 (by decide)) (by decide) (by decide)
    have m := mul_b (by omega) n1.2 vc.1 vc.2
    rw [ti_mul rfl (by omega) (by omega)]; omega
  · rw [e] at hn
    rw [if_neg (by rw [e]; decide), if_neg (by rw [e]; decide), if_neg (by rw [e]; decide), if_neg (by rw [e]; decide)]
    have n1 := inR_ti (p := 1) (q := 9999) hn (by decide) (by decide)
    omega
  · rw [e] at hn
    rw [if_neg (by rw [e]; decide), if_pos e]
    have n1 := inR_ti (p := 1) (q := 50) hn (by decide) (by decide)
    have m := mul_b (by omega) n1.2 v3.1 v3.2
    have en : (-nm k).toInt = -(nm k).toInt := ti_neg (by omega) (by omega)
    rw [ti_mul (v := -((nm k).toInt * (vh 3).toInt)) (by rw [en, Int.neg_mul]) (by omega) (by omega)]; omega
  · rw [e] at hn
    rw [if_neg (by rw [e]; decide), if_neg (by rw [e]; decide), if_pos e]
    have n1 := inR_ti (p := 1) (q := 9999) hn (by decide) (by decide)
    have m := mul_b (by omega) n1.2 v4.1 v4.2
    have en : (-nm k).toInt = -(nm k).toInt := ti_neg (by omega) (by omega)
    rw [ti_mul (v := -((nm k).toInt * (vh 4).toInt)) (by rw [en, Int.neg_mul]) (by omega) (by omega)]; omega
  · rw [e] at hn
    rw [if_neg (by rw [e]; decide), if_neg (by rw [e]; decide), if_neg (by rw [e]; decide), if_pos e]
    have n1 := inR_ti (p := 1) (q := 9999) hn (by decide) (by decide)
    have m := mul_b (by omega) n1.2 v4.1 v4.2
    rw [ti_mul rfl (by omega) (by omega)]; omega
theorem ws_b {q kd hs of nm cl vh : Nat → Int32} {h n : Nat} (hn : n ≤ 100) (hv : ∀ k, k < n → -50000 ≤ (vlF kd nm of cl vh k).toInt ∧ (vlF kd nm of cl vh k).toInt ≤ 50000) : -(50000 * n : Int) ≤ (wsF q kd hs of nm cl vh h n).toInt ∧ (wsF q kd hs of nm cl vh h n).toInt ≤ 50000 * n := by
  induction n with
  | zero => rw [wsF]; decide
  | succ n ih =>
    have i := ih (by omega) (fun k hk => hv k (by omega))
    have b := hv n (by omega)
    rw [wsF]
    split
    · rw [ti_add (by omega) (by omega)]; omega
    · omega
theorem wo_b {q kd hs of nm cl vh : Nat → Int32} {h n : Nat} (hn : n ≤ 100) (hv : ∀ k, k < n → -50000 ≤ (vlF kd nm of cl vh k).toInt ∧ (vlF kd nm of cl vh k).toInt ≤ 50000) : 0 ≤ (woF q kd hs of nm cl vh n h).toInt ∧ (woF q kd hs of nm cl vh n h).toInt ≤ 5000000 := by
  have b := ws_b (q := q) (hs := hs) (h := h) hn hv
  have i0 : (0 : Int32).toInt = 0 := by decide
  unfold woF
  split
  · rw [i0]; omega
  · rename_i c
    have c := Int32.le_iff_toInt_le.mp (Int32.not_lt.mp c)
    omega
/-- the sum, as it is -/
def sZ (w : Nat → Int32) : Nat → Int
  | 0 => 0
  | k + 1 => sZ w k + (w k).toInt
theorem sZ_b {w : Nat → Int32} (hw : ∀ h, h < 10 → 0 ≤ (w h).toInt ∧ (w h).toInt ≤ 5000000) : ∀ k, k ≤ 10 → 0 ≤ sZ w k ∧ sZ w k ≤ 5000000 * k := by
  intro k
  induction k with
  | zero => intro _; exact ⟨Int.le_refl _, Int.le_refl _⟩
  | succ k ih =>
    intro hk
    have i := ih (by omega)
    have b := hw k (by omega)
    rw [sZ]; omega
theorem sZ_mono {w : Nat → Int32} (hw : ∀ h, h < 10 → 0 ≤ (w h).toInt ∧ (w h).toInt ≤ 5000000) : ∀ n k, k + n ≤ 10 → sZ w k ≤ sZ w (k + n) := by
  intro n
  induction n with
  | zero => intro k _; exact Int.le_refl _
  | succ n ih =>
    intro k hk
    have i := ih k (by omega)
    have b := hw (k + n) (by omega)
    rw [show k + (n + 1) = (k + n) + 1 by omega, sZ]; omega
theorem sZ_one {w : Nat → Int32} (hw : ∀ h, h < 10 → 0 ≤ (w h).toInt ∧ (w h).toInt ≤ 5000000) {h : Nat} (hh : h < 10) : (w h).toInt ≤ sZ w 10 := by
  have a := sZ_mono hw (10 - (h + 1)) (h + 1) (by omega)
  rw [show h + 1 + (10 - (h + 1)) = 10 by omega, sZ] at a
  have := (sZ_b hw h (by omega)).1
  omega
theorem sumI_Z {w : Nat → Int32} (hw : ∀ h, h < 10 → 0 ≤ (w h).toInt ∧ (w h).toInt ≤ 5000000) : ∀ k, k ≤ 10 → (sumI w k).toInt = sZ w k := by
  intro k
  induction k with
  | zero => intro _; show (0 : Int32).toInt = 0; decide
  | succ k ih =>
    intro hk
    have i := ih (by omega)
    have b := hw k (by omega)
    have s := sZ_b hw k (by omega)
    rw [sumI, sZ, ti_add (by omega) (by omega), i]
theorem sumL_Z {w : Nat → Int32} (hw : ∀ h, h < 10 → 0 ≤ (w h).toInt ∧ (w h).toInt ≤ 5000000) : ∀ k, k ≤ 10 → (sumL w k).toInt = sZ w k := by
  intro k
  induction k with
  | zero => intro _; show (0 : Int64).toInt = 0; decide
  | succ k ih =>
    intro hk
    have i := ih (by omega)
    have b := hw k (by omega)
    have s := sZ_b hw k (by omega)
    rw [sumL, sZ, Int64.toInt_add, Int32.toInt_toInt64, i]
    exact Int.bmod_eq_of_le (by omega) (by omega)
theorem sum_ok {w : Nat → Int32} (hw : ∀ h, h < 10 → 0 ≤ (w h).toInt ∧ (w h).toInt ≤ 5000000) : sumL w 10 = (sumI w 10).toInt64 := by
  refine Int64.toInt_inj.mp ?_
  rw [sumL_Z hw 10 (Nat.le_refl _), Int32.toInt_toInt64, sumI_Z hw 10 (Nat.le_refl _)]
/-- a share, before the rests -/
theorem lvH_Z {w : Nat → Int32} {sm : Int32} (hw : ∀ h, h < 10 → 0 ≤ (w h).toInt ∧ (w h).toInt ≤ 5000000) (hs : inR sm 1 100000) (hS : 0 < sZ w 10) {h : Nat} (hh : h < 10) : (lvH sm w (sumI w 10).toInt64 h).toInt = sm.toInt * (w h).toInt / sZ w 10 ∧ 0 ≤ sm.toInt * (w h).toInt / sZ w 10 ∧ sm.toInt * (w h).toInt / sZ w 10 ≤ sm.toInt := by
  have s1 := inR_ti (p := 1) (q := 100000) hs (by decide) (by decide)
  have b := hw h hh
  have o := sZ_one hw hh
  have m := mul_b (a := sm.toInt) (b := (w h).toInt) (by omega) s1.2 b.1 b.2
  have m2 : sm.toInt * (w h).toInt ≤ sm.toInt * sZ w 10 := Int.mul_le_mul_of_nonneg_left o (by omega)
  have q0 : 0 ≤ sm.toInt * (w h).toInt / sZ w 10 := Int.ediv_nonneg m.1 (by omega)
  have q1 : sm.toInt * (w h).toInt / sZ w 10 ≤ sm.toInt := Int.ediv_le_of_le_mul hS m2
  refine ⟨?_, q0, q1⟩
  have e1 : (lvP sm w h).toInt = sm.toInt * (w h).toInt := by
    unfold lvP
    rw [Int64.toInt_mul, Int32.toInt_toInt64, Int32.toInt_toInt64]
    exact Int.bmod_eq_of_le (by omega) (by omega)
  unfold lvH
  rw [Int64.toInt_toInt32, Int64.toInt_div, e1, Int32.toInt_toInt64, sumI_Z hw 10 (Nat.le_refl _), Int.tdiv_eq_ediv_of_nonneg m.1]
  rw [Int.bmod_eq_of_le (n := sm.toInt * (w h).toInt / sZ w 10) (m := 2 ^ 64) (by omega) (by omega)]
  exact Int.bmod_eq_of_le (by omega) (by omega)
def qZ (w : Nat → Int32) (sm : Int32) : Nat → Int
  | 0 => 0
  | k + 1 => qZ w sm k + sm.toInt * (w k).toInt / sZ w 10
theorem qZ_b {w : Nat → Int32} {sm : Int32} (hw : ∀ h, h < 10 → 0 ≤ (w h).toInt ∧ (w h).toInt ≤ 5000000) (hs : inR sm 1 100000) (hS : 0 < sZ w 10) : ∀ k, k ≤ 10 → 0 ≤ qZ w sm k ∧ qZ w sm k * sZ w 10 ≤ sm.toInt * sZ w k ∧ sm.toInt * sZ w k ≤ (qZ w sm k + k) * sZ w 10 := by
  intro k
  induction k with
  | zero => intro _; simp [qZ, sZ]
  | succ k ih =>
    intro hk
    obtain ⟨i1, i2, i3⟩ := ih (by omega)
    have e := (lvH_Z hw hs hS (h := k) (by omega)).2.1
    have d1 := Int.ediv_mul_le (sm.toInt * (w k).toInt) (b := sZ w 10) (by omega)
    have d2 := Int.lt_ediv_add_one_mul_self (sm.toInt * (w k).toInt) hS
    rw [qZ, show sZ w (k + 1) = sZ w k + (w k).toInt from rfl]
    refine ⟨by omega, ?_, ?_⟩
    · rw [Int.add_mul, Int.mul_add]; omega
    · have r : (qZ w sm k + sm.toInt * (w k).toInt / sZ w 10 + ((k + 1 : Nat) : Int)) * sZ w 10 = (qZ w sm k + (k : Int)) * sZ w 10 + (sm.toInt * (w k).toInt / sZ w 10 + 1) * sZ w 10 := by
        rw [← Int.add_mul]; congr 1; omega
      rw [r, Int.mul_add]; omega
theorem qZ_le {w : Nat → Int32} {sm : Int32} (hw : ∀ h, h < 10 → 0 ≤ (w h).toInt ∧ (w h).toInt ≤ 5000000) (hs : inR sm 1 100000) (hS : 0 < sZ w 10) {k : Nat} (hk : k ≤ 10) : 0 ≤ qZ w sm k ∧ qZ w sm k ≤ sm.toInt := by
  have s1 := inR_ti (p := 1) (q := 100000) hs (by decide) (by decide)
  obtain ⟨i1, i2, i3⟩ := qZ_b hw hs hS k hk
  have m := sZ_mono hw (10 - k) k (by omega)
  rw [show k + (10 - k) = 10 by omega] at m
  have m2 : sm.toInt * sZ w k ≤ sm.toInt * sZ w 10 := Int.mul_le_mul_of_nonneg_left m (by omega)
  exact ⟨i1, Int.le_of_mul_le_mul_right (Int.le_trans i2 m2) hS⟩
theorem lvL_Z {w : Nat → Int32} {sm : Int32} (hw : ∀ h, h < 10 → 0 ≤ (w h).toInt ∧ (w h).toInt ≤ 5000000) (hs : inR sm 1 100000) (hS : 0 < sZ w 10) : ∀ k, k ≤ 10 → (lvL sm w (sumI w 10).toInt64 k).toInt = sm.toInt - qZ w sm k := by
  have s1 := inR_ti (p := 1) (q := 100000) hs (by decide) (by decide)
  intro k
  induction k with
  | zero => intro _; simp [lvL, qZ]
  | succ k ih =>
    intro hk
    have i := ih (by omega)
    have e := lvH_Z hw hs hS (h := k) (by omega)
    have b := qZ_le hw hs hS (k := k) (by omega)
    rw [lvL, qZ, ti_sub (by omega) (by omega), i, e.1]; omega
theorem lv_ok {w : Nat → Int32} {sm : Int32} (hw : ∀ h, h < 10 → 0 ≤ (w h).toInt ∧ (w h).toInt ≤ 5000000) (hs : inR sm 1 100000) (hz : ¬ sumI w 10 = 0) : lvOk sm w := by
  have s1 := inR_ti (p := 1) (q := 100000) hs (by decide) (by decide)
  have i0 : (0 : Int32).toInt = 0 := by decide
  have l0 : (0 : Int64).toInt = 0 := by decide
  have e := sumI_Z hw 10 (Nat.le_refl _)
  have b := sZ_b hw 10 (Nat.le_refl _)
  have hS : 0 < sZ w 10 := by
    have : ¬ (sumI w 10).toInt = (0 : Int32).toInt := fun z => hz (Int32.toInt_inj.mp z)
    omega
  refine ⟨fun z => ?_, fun z => ?_, ?_⟩
  · have := Int32.le_iff_toInt_le.mp z; omega
  · have := congrArg Int64.toInt z
    rw [Int32.toInt_toInt64] at this
    omega
  · have l := lvL_Z hw hs hS 10 (Nat.le_refl _)
    have q := qZ_le hw hs hS (k := 10) (Nat.le_refl _)
    obtain ⟨-, -, i3⟩ := qZ_b hw hs hS 10 (Nat.le_refl _)
    have q2 : sm.toInt ≤ qZ w sm 10 + 10 := Int.le_of_mul_le_mul_right i3 hS
    have i10 : (10 : Int32).toInt = 10 := by decide
    exact okN_le (M := 10) (m := 10) (Int32.le_iff_toInt_le.mpr (by omega)) (Int32.le_iff_toInt_le.mpr (by omega)) (by decide) (by decide)
theorem lvS_at {sm : Int32} {w : Nat → Int32} {al : Int64} {s0 : Nat → Int32} {b : Nat} : ∀ k i, lvS sm w al s0 b k i = if b ≤ i ∧ i < b + k then lvH sm w al (i - b) else s0 i := by
  intro k
  induction k with
  | zero => intro i; rw [lvS, if_neg (by omega)]
  | succ k ih =>
    intro i
    rw [lvS]
    by_cases e : i = b + k
    · subst e; rw [pk_us, if_pos (by omega), show b + k - b = k by omega]
    · rw [pk_un e, ih i]
      by_cases c : b ≤ i ∧ i < b + k
      · rw [if_pos c, if_pos (by omega)]
      · rw [if_neg c, if_neg (by omega)]
theorem sp_b {s0 : Nat → Int32} {r0 : Nat → Int64} {b : Nat} : ∀ m, m ≤ 10 → ∀ i, ((i < b ∨ b + 10 ≤ i) → (spF s0 r0 b m).1 i = s0 i) ∧ (0 ≤ (s0 i).toInt → (s0 i).toInt ≤ 100000 → (s0 i).toInt ≤ ((spF s0 r0 b m).1 i).toInt ∧ ((spF s0 r0 b m).1 i).toInt ≤ (s0 i).toInt + m) := by
  intro m
  induction m with
  | zero => intro _ i; exact ⟨fun _ => rfl, fun _ _ => ⟨Int.le_refl _, by simp [spF]⟩⟩
  | succ m ih =>
    intro hm i
    obtain ⟨i1, i2⟩ := ih (by omega) i
    have g := grF_le (spF s0 r0 b m).2 9
    rw [spF]
    by_cases e : i = b + grF (spF s0 r0 b m).2 9
    · refine ⟨fun z => by omega, fun h0 h1 => ?_⟩
      obtain ⟨j1, j2⟩ := i2 h0 h1
      have one : (1 : Int32).toInt = 1 := by decide
      show (s0 i).toInt ≤ (upd (spF s0 r0 b m).1 (b + grF (spF s0 r0 b m).2 9) ((spF s0 r0 b m).1 (b + grF (spF s0 r0 b m).2 9) + 1) i).toInt ∧ (upd (spF s0 r0 b m).1 (b + grF (spF s0 r0 b m).2 9) ((spF s0 r0 b m).1 (b + grF (spF s0 r0 b m).2 9) + 1) i).toInt ≤ (s0 i).toInt + ((m + 1 : Nat) : Int)
      rw [← e, pk_us, ti_add (by omega) (by omega), one]
      omega
    · refine ⟨fun z => ?_, fun h0 h1 => ?_⟩
      · show upd (spF s0 r0 b m).1 (b + grF (spF s0 r0 b m).2 9) ((spF s0 r0 b m).1 (b + grF (spF s0 r0 b m).2 9) + 1) i = s0 i
        rw [pk_un e]; exact i1 z
      · obtain ⟨j1, j2⟩ := i2 h0 h1
        show (s0 i).toInt ≤ (upd (spF s0 r0 b m).1 (b + grF (spF s0 r0 b m).2 9) ((spF s0 r0 b m).1 (b + grF (spF s0 r0 b m).2 9) + 1) i).toInt ∧ (upd (spF s0 r0 b m).1 (b + grF (spF s0 r0 b m).2 9) ((spF s0 r0 b m).1 (b + grF (spF s0 r0 b m).2 9) + 1) i).toInt ≤ (s0 i).toInt + ((m + 1 : Nat) : Int)
        rw [pk_un e]
        omega
/-- what an Inv says of worths -/
theorem Inv.wb {σ : RunS} {k : Nat} (h : Inv σ k) (y d : Int32) : ∀ q, q < 10 → 0 ≤ (kW σ.f15 σ.f16 σ.f17 σ.f18 σ.f19 σ.f20 σ.f21 σ.f22 σ.ln σ.f39 σ.f40 σ.f41 σ.f42 σ.wn σ.f27 σ.f28 σ.f11 σ.f12 σ.f13 σ.f14 σ.dn y d q).toInt ∧ (kW σ.f15 σ.f16 σ.f17 σ.f18 σ.f19 σ.f20 σ.f21 σ.f22 σ.ln σ.f39 σ.f40 σ.f41 σ.f42 σ.wn σ.f27 σ.f28 σ.f11 σ.f12 σ.f13 σ.f14 σ.dn y d q).toInt ≤ 5000000 := by
  intro q _
  unfold kW
  exact wo_b h.hln (fun i hi => vl_b (h.hLN i hi) h.hC (kV_b h.hDC))
theorem sh_ok {s f24 : Nat → Int32} {w : Nat → Int32} {on : Nat} {sm : Int32} {r : Nat → Int64} (hw : ∀ h, h < 10 → 0 ≤ (w h).toInt ∧ (w h).toInt ≤ 5000000) (hs : inR sm 1 100000) (hz : ¬ sumI w 10 = 0) (h24 : ∀ j, on * 10 ≤ j → f24 j = 0) (hsh : ∀ i, i < 60 → 0 ≤ f24 i ∧ f24 i ≤ s i ∧ s i ≤ 200000) : ∀ i, i < 60 → 0 ≤ f24 i ∧ f24 i ≤ (leX w on sm s r).1 i ∧ (leX w on sm s r).1 i ≤ 200000 := by
  intro i hi
  have hl := (lv_ok hw hs hz).2.2
  have s1 := inR_ti (p := 1) (q := 100000) hs (by decide) (by decide)
  have e := sumI_Z hw 10 (Nat.le_refl _)
  have b := sZ_b hw 10 (Nat.le_refl _)
  have i0 : (0 : Int32).toInt = 0 := by decide
  have i2 : (200000 : Int32).toInt = 200000 := by decide
  have hS : 0 < sZ w 10 := by
    have : ¬ (sumI w 10).toInt = (0 : Int32).toInt := fun z => hz (Int32.toInt_inj.mp z)
    omega
  unfold leX
  have sp := sp_b (s0 := lvS sm w (sumI w 10).toInt64 s (on * 10) 10) (r0 := lvR sm w (sumI w 10).toInt64 r 10) (b := on * 10) (cN (lvL sm w (sumI w 10).toInt64 10)) (by have := hl.2; omega) i
  by_cases c : i < on * 10 ∨ on * 10 + 10 ≤ i
  · rw [sp.1 c, lvS_at, if_neg (by omega)]; exact hsh i hi
  · have z := h24 i (by omega)
    have a : lvS sm w (sumI w 10).toInt64 s (on * 10) 10 i = lvH sm w (sumI w 10).toInt64 (i - on * 10) := by rw [lvS_at, if_pos (by omega)]
    have q := lvH_Z hw hs hS (h := i - on * 10) (by omega)
    have sp2 := sp.2
    rw [a] at sp2
    have sp3 := sp2 (by omega) (by omega)
    have hl2 := hl.2
    rw [z]
    exact ⟨Int32.le_refl _, Int32.le_iff_toInt_le.mpr (by omega), Int32.le_iff_toInt_le.mpr (by omega)⟩
