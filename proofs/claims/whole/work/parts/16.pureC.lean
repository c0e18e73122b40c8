/-- a below n, b from n on -/
def cut (n : Nat) (a b : Nat → Int32) : Nat → Int32 := fun k => if k < n then a k else b k
def Zf : Nat → Int32 := fun _ => 0
def Nf : Nat → Int32 := fun _ => (-1000000005)
theorem cut_0 (a b : Nat → Int32) : cut 0 a b = b := by funext k; simp [cut]
theorem cut_lt {n k : Nat} {a b : Nat → Int32} (h : k < n) : cut n a b k = a k := if_pos h
theorem cut_at {n : Nat} {a b : Nat → Int32} : cut n a b n = b n := if_neg (Nat.lt_irrefl n)
theorem cut_ge {n k : Nat} {a b : Nat → Int32} (h : n ≤ k) : cut n a b k = b k := if_neg (Nat.not_lt.mpr h)
theorem cut_put {k : Nat} {a b : Nat → Int32} {v : Int32} (h : v = a k) : upd (cut k a b) k v = cut (k + 1) a b := by
  funext j
  by_cases e : j = k
  · subst e; rw [pk_us, cut_lt (Nat.lt_succ_self j)]; exact h
  · rw [pk_un e]; unfold cut
    by_cases hj : j < k
    · rw [if_pos hj, if_pos (by omega)]
    · rw [if_neg hj, if_neg (by omega)]
theorem cut_skip {k : Nat} {a b : Nat → Int32} (h : b k = a k) : cut k a b = cut (k + 1) a b := by
  funext j
  unfold cut
  by_cases hj : j < k
  · rw [if_pos hj, if_pos (by omega)]
  · by_cases e : j = k
    · subst e; rw [if_neg hj, if_pos (by omega)]; exact h
    · rw [if_neg hj, if_neg (by omega)]
theorem cut_z {n : Nat} {a b : Nat → Int32} (h : ∀ j, n ≤ j → b j = 0) : cut n a b = cut n a Zf := by
  funext j
  unfold cut
  by_cases hj : j < n
  · rw [if_pos hj, if_pos hj]
  · rw [if_neg hj, if_neg hj]; exact h j (by omega)
theorem cut_eq {n : Nat} {a b c d : Nat → Int32} (h1 : ∀ j, j < n → a j = c j) (h2 : ∀ j, n ≤ j → b j = d j) : cut n a b = cut n c d := by
  funext j
  unfold cut
  by_cases hj : j < n
  · rw [if_pos hj, if_pos hj]; exact h1 j hj
  · rw [if_neg hj, if_neg hj]; exact h2 j (by omega)
def tkF (yr dy ap ad : Nat → Int32) (y d : Int32) (k : Nat) : Int32 := if yr k = y ∧ stCl dy ap ad k d then 0 else (-1000000005)
theorem tkF_or (yr dy ap ad : Nat → Int32) (y d : Int32) (k : Nat) : tkF yr dy ap ad y d k = 0 ∨ tkF yr dy ap ad y d k = (-1000000005) := by
  unfold tkF; split
  · exact Or.inl rfl
  · exact Or.inr rfl
def freeB (q mt kd hs of nm : Nat → Int32) (w i : Nat) : Bool := decide (q i = 0 ∧ kd i = 5 ∧ mt i = (-1000000005) ∧ hs i = of w ∧ of i = hs w ∧ nm i = nm w)
def mtPut (mt : Nat → Int32) (w : Nat) (x : Int32) : Nat → Int32 := if x = (-1000000005) then mt else upd (upd mt w x) (cN x) (nI w)
def mtF (q kd hs of nm : Nat → Int32) (n : Nat) (m0 : Nat → Int32) : Nat → Nat → Int32
  | 0 => m0
  | k + 1 => if q k = 0 ∧ kd k = 4 then mtPut (mtF q kd hs of nm n m0 k) k (firstI (freeB q (mtF q kd hs of nm n m0 k) kd hs of nm k) n 0) else mtF q kd hs of nm n m0 k
def qun (k : Int32) : Int32 := if k = 4 then 4 else if k = 5 then 5 else 0
def lq (ar us nm t hs : Int32) : Int32 := if ar = 0 then 1 else if ¬ us + nm ≤ ar then 2 else if ¬ t = (-1000000005) ∧ ¬ t = hs then 3 else 0
def quS (mt kd hs of nm ar tl us : Nat → Int32) (k : Nat) : Int32 := if kd k = 4 ∨ kd k = 5 then (if mt k = (-1000000005) then qun (kd k) else 0) else if kd k = 1 then lq (ar (cN (of k))) (us (cN (of k))) (nm k) (tl (cN (of k))) (hs k) else 0
def usF (q mt kd hs of nm ar tl : Nat → Int32) : Nat → Nat → Int32
  | 0 => Zf
  | k + 1 => if q k = 0 ∧ kd k = 1 ∧ quS mt kd hs of nm ar tl (usF q mt kd hs of nm ar tl k) k = 0 then upd (usF q mt kd hs of nm ar tl k) (cN (of k)) (usF q mt kd hs of nm ar tl k (cN (of k)) + nm k) else usF q mt kd hs of nm ar tl k
def qqF (q mt kd hs of nm ar tl : Nat → Int32) (k : Nat) : Int32 := if q k = 0 then quS mt kd hs of nm ar tl (usF q mt kd hs of nm ar tl k) k else q k
/-- the class's two passes -/
def q1F (q mt kd : Nat → Int32) (k : Nat) : Int32 := if q k = (-1000000005) then q k else if mt k = (-1000000005) then qun (kd k) else q k
def usC (q kd hs of nm ar tl : Nat → Int32) : Nat → Nat → Int32
  | 0 => Zf
  | k + 1 => if ¬ q k = (-1000000005) ∧ kd k = 1 ∧ lq (ar (cN (of k))) (usC q kd hs of nm ar tl k (cN (of k))) (nm k) (tl (cN (of k))) (hs k) = 0 then upd (usC q kd hs of nm ar tl k) (cN (of k)) (usC q kd hs of nm ar tl k (cN (of k)) + nm k) else usC q kd hs of nm ar tl k
def q2F (q kd hs of nm ar tl : Nat → Int32) (k : Nat) : Int32 := if ¬ q k = (-1000000005) ∧ kd k = 1 then lq (ar (cN (of k))) (usC q kd hs of nm ar tl k (cN (of k))) (nm k) (tl (cN (of k))) (hs k) else q k
def vlF (kd nm of cl vh : Nat → Int32) (k : Nat) : Int32 := if kd k = 1 then nm k * vh (cN (cl (cN (of k)))) else if kd k = 3 then -nm k * vh 3 else if kd k = 4 then -nm k * vh 4 else if kd k = 5 then nm k * vh 4 else nm k
def wsF (q kd hs of nm cl vh : Nat → Int32) (h : Nat) : Nat → Int32
  | 0 => 0
  | k + 1 => if hs k = nI h ∧ q k = 0 then wsF q kd hs of nm cl vh h k + vlF kd nm of cl vh k else wsF q kd hs of nm cl vh h k
def woF (q kd hs of nm cl vh : Nat → Int32) (n : Nat) (h : Nat) : Int32 := if wsF q kd hs of nm cl vh h n < 0 then 0 else wsF q kd hs of nm cl vh h n
theorem wsF_put {q kd hs of nm cl vh g : Nat → Int32} {k : Nat} (hg : ∀ h, h < 10 → g h = wsF q kd hs of nm cl vh h k) (ho : okN (hs k) 10) (h1 : q k = 0) : ∀ h, h < 10 → upd g (cN (hs k)) (g (cN (hs k)) + vlF kd nm of cl vh k) h = wsF q kd hs of nm cl vh h (k + 1) := by
  intro h hh
  rw [wsF]
  by_cases e : h = cN (hs k)
  · subst e; rw [pk_us, if_pos ⟨ho.1, h1⟩, hg _ ho.2]
  · rw [pk_un e, if_neg (fun z => e ?_)]
    · exact hg h hh
    · have h3 := z.1
      rw [ho.1] at h3
      exact (nI_inj (by have := ho.2; omega) (by omega) h3).symm
theorem wsF_no {q kd hs of nm cl vh g : Nat → Int32} {k : Nat} (hg : ∀ h, h < 10 → g h = wsF q kd hs of nm cl vh h k) (h1 : ¬ q k = 0) : ∀ h, h < 10 → g h = wsF q kd hs of nm cl vh h (k + 1) := by
  intro h hh
  rw [wsF, if_neg (fun z => h1 z.2)]
  exact hg h hh
theorem mtPut_yes {mt : Nat → Int32} {w i : Nat} (hi : i < 2 ^ 31) : mtPut mt w (nI i) = upd (upd mt w (nI i)) i (nI w) := by
  unfold mtPut; rw [if_neg (nI_ne hi), cN_nI hi]
theorem mtPut_no {mt : Nat → Int32} {w : Nat} : mtPut mt w (-1000000005) = mt := by
  unfold mtPut; rw [if_pos rfl]
theorem firstI_yes {p : Nat → Bool} {n i : Nat} (h : p i = true) (hn : 0 < n) : firstI p n i = nI i := by
  cases n with
  | zero => omega
  | succ n => rw [firstI, if_pos h]
theorem firstI_no {p : Nat → Bool} {n i : Nat} (h : ¬ p i = true) (hn : i < n) : firstI p (n - i) i = firstI p (n - (i + 1)) (i + 1) := by
  rw [show n - i = (n - (i + 1)) + 1 by omega, firstI, if_neg h]
/-- what the class's passes come to -/
theorem us_us {q mt kd hs of nm ar tl : Nat → Int32} {n : Nat} (hq : ∀ i, i < n → q i = 0 ∨ q i = (-1000000005)) : ∀ k, k ≤ n → usC (cut n (q1F q mt kd) q) kd hs of nm ar tl k = usF q mt kd hs of nm ar tl k := by
  intro k
  induction k with
  | zero => intro _; rfl
  | succ k ih =>
    intro hk
    rw [usC, usF, ih (by omega), cut_lt (show k < n by omega)]
    by_cases h1 : kd k = 1
    · have e1 : qun (kd k) = 0 := by rw [h1]; decide
      have e2 : ¬ (kd k = 4 ∨ kd k = 5) := by rw [h1]; decide
      have e3 : quS mt kd hs of nm ar tl (usF q mt kd hs of nm ar tl k) k = lq (ar (cN (of k))) (usF q mt kd hs of nm ar tl k (cN (of k))) (nm k) (tl (cN (of k))) (hs k) := by unfold quS; rw [if_neg e2, if_pos h1]
      rw [e3]
      rcases hq k (by omega) with h | h
      · have e4 : q1F q mt kd k = 0 := by unfold q1F; rw [h, if_neg (by decide), e1]; split <;> rfl
        simp [e4, h, h1]
      · have e4 : q1F q mt kd k = (-1000000005) := by unfold q1F; rw [h, if_pos rfl]
        simp [e4, h]
    · simp [h1]
theorem q2_qq {q mt kd hs of nm ar tl : Nat → Int32} {n : Nat} (hq : ∀ i, i < n → q i = 0 ∨ q i = (-1000000005)) (hz : ∀ j, n ≤ j → q j = 0) : cut n (q2F (cut n (q1F q mt kd) q) kd hs of nm ar tl) (cut n (q1F q mt kd) q) = cut n (qqF q mt kd hs of nm ar tl) Zf := by
  refine cut_eq (fun k hk => ?_) (fun k hk => by rw [cut_ge hk]; exact hz k hk)
  unfold q2F qqF
  rw [us_us hq k (by omega), cut_lt hk]
  rcases hq k hk with h | h
  · have e4 : q1F q mt kd k = if mt k = (-1000000005) then qun (kd k) else 0 := by unfold q1F; rw [h, if_neg (by decide)]
    by_cases h1 : kd k = 1
    · have e1 : qun (kd k) = 0 := by rw [h1]; decide
      have e5 : q1F q mt kd k = 0 := by rw [e4, e1]; split <;> rfl
      have e2 : ¬ (kd k = 4 ∨ kd k = 5) := by rw [h1]; decide
      rw [e5, if_pos ⟨by decide, h1⟩, if_pos h]
      unfold quS
      rw [if_neg e2, if_pos h1]
    · rw [if_neg (fun z => h1 z.2), if_pos h, e4]
      unfold quS
      by_cases h2 : kd k = 4 ∨ kd k = 5
      · rw [if_pos h2]
      · rw [if_neg h2, if_neg h1]
        have e1 : qun (kd k) = 0 := by
          unfold qun
          rw [if_neg (fun z => h2 (Or.inl z)), if_neg (fun z => h2 (Or.inr z))]
        rw [e1]; split <;> rfl
  · have e4 : q1F q mt kd k = (-1000000005) := by unfold q1F; rw [h, if_pos rfl]
    rw [e4, if_neg (fun z => z.1 rfl), if_neg (by rw [h]; decide), h]

