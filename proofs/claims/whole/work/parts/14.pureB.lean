/-- the latest word of house h of a plot up to a day, of the first k words -/
def lastF (wh wp wo wd : Nat → Int32) (h : Nat) (pl d : Int32) : Nat → Int32
  | 0 => (-1000000005)
  | k + 1 => if wh k = nI h ∧ wp k = pl ∧ ¬ d < wd k then wo k else lastF wh wp wo wd h pl d k
def effF (g : Nat → Int32) (h : Nat) : Int32 := if g h = nI h then (-1000000005) else g h
def tall (u : Nat → Int32) : Nat → Nat
  | 0 => 0
  | k + 1 => if u k = (-1000000005) then tall u k else tall u k + 1
def tcnt (u : Nat → Int32) (o : Nat) : Nat → Nat
  | 0 => 0
  | k + 1 => if u k = nI o then tcnt u o k + 1 else tcnt u o k
/-- the first i, i + 1 .. of n of which p says yes -/
def firstI (p : Nat → Bool) : Nat → Nat → Int32
  | 0, _ => (-1000000005)
  | n + 1, i => if p i = true then nI i else firstI p n (i + 1)
def uF (wh wp wo wd : Nat → Int32) (n : Nat) (pl d : Int32) : Nat → Int32 := effF (fun h => lastF wh wp wo wd h pl d n)
def toldP (wh wp wo wd : Nat → Int32) (n : Nat) (pl d : Int32) (o : Nat) : Bool := decide (tall (uF wh wp wo wd n pl d) 10 < 2 * tcnt (uF wh wp wo wd n pl d) o 10)
def toldF (wh wp wo wd : Nat → Int32) (n : Nat) (pl d : Int32) : Int32 := firstI (toldP wh wp wo wd n pl d) 10 0
theorem tall_le (u : Nat → Int32) (k : Nat) : tall u k ≤ k := by
  induction k with
  | zero => exact Nat.le_refl _
  | succ k ih => rw [tall]; split <;> omega
theorem tcnt_le (u : Nat → Int32) (o k : Nat) : tcnt u o k ≤ k := by
  induction k with
  | zero => exact Nat.le_refl _
  | succ k ih => rw [tcnt]; split <;> omega
theorem nI_inj {a b : Nat} (ha : a < 2 ^ 31) (hb : b < 2 ^ 31) (h : nI a = nI b) : a = b := (nI_eq ha hb).mp h
theorem nI_ne {a : Nat} (ha : a < 2 ^ 31) : ¬ nI a = (-1000000005) := by
  intro h
  have h1 := nI_pos ha
  rw [h] at h1
  exact h1 (by decide)
theorem okN_ne {x : Int32} {n : Nat} (h : okN x n) (hn : n ≤ 2 ^ 31) : ¬ x = (-1000000005) := by
  rw [h.1]; exact nI_ne (by have := h.2; omega)
theorem lastF_ok {wh wp wo wd : Nat → Int32} {h : Nat} {pl d : Int32} {n : Nat} (hw : ∀ i, i < n → okN (wo i) 10) : lastF wh wp wo wd h pl d n = (-1000000005) ∨ okN (lastF wh wp wo wd h pl d n) 10 := by
  induction n with
  | zero => exact Or.inl rfl
  | succ n ih =>
    rw [lastF]
    split
    · exact Or.inr (hw n (by omega))
    · exact ih (fun i hi => hw i (by omega))
theorem lastF_put {wh wp wo wd : Nat → Int32} {pl d : Int32} {k : Nat} {g : Nat → Int32} (hg : ∀ h, h < 10 → g h = lastF wh wp wo wd h pl d k) (ho : okN (wh k) 10) (h1 : wp k = pl) (h2 : ¬ d < wd k) : ∀ h, h < 10 → upd g (cN (wh k)) (wo k) h = lastF wh wp wo wd h pl d (k + 1) := by
  intro h hh
  rw [lastF]
  by_cases e : h = cN (wh k)
  · subst e; rw [pk_us, if_pos ⟨ho.1, h1, h2⟩]
  · rw [pk_un e, if_neg (fun z => e ?_)]
    · exact hg h hh
    · have h3 := z.1
      rw [ho.1] at h3
      exact (nI_inj (by have := ho.2; omega) (by omega) h3).symm
theorem lastF_no {wh wp wo wd : Nat → Int32} {pl d : Int32} {k : Nat} {g : Nat → Int32} (hg : ∀ h, h < 10 → g h = lastF wh wp wo wd h pl d k) (h1 : ¬ (wp k = pl ∧ ¬ d < wd k)) : ∀ h, h < 10 → g h = lastF wh wp wo wd h pl d (k + 1) := by
  intro h hh
  rw [lastF, if_neg (fun z => h1 z.2)]
  exact hg h hh
theorem tcnt_put {f g : Nat → Int32} {k : Nat} (hg : ∀ o, o < 10 → g o = nI (tcnt (effF f) o k)) (ho : okN (f k) 10) (h1 : ¬ f k = nI k) : ∀ o, o < 10 → upd g (cN (f k)) (g (cN (f k)) + 1) o = nI (tcnt (effF f) o (k + 1)) := by
  intro o hh
  rw [tcnt, effF, if_neg h1]
  by_cases e : o = cN (f k)
  · subst e; rw [pk_us, if_pos ho.1, hg _ ho.2, nI_1]
  · rw [pk_un e, if_neg (fun z => e ?_)]
    · exact hg o hh
    · rw [ho.1] at z
      exact (nI_inj (by have := ho.2; omega) (by omega) z).symm
theorem tcnt_no {f g : Nat → Int32} {k : Nat} (hg : ∀ o, o < 10 → g o = nI (tcnt (effF f) o k)) (h1 : effF f k = (-1000000005)) : ∀ o, o < 10 → g o = nI (tcnt (effF f) o (k + 1)) := by
  intro o hh
  rw [tcnt, h1, if_neg (fun z => nI_ne (by omega) z.symm)]
  exact hg o hh
/-- what holds of an item: the value, and the year that it is from, after k decrees -/
def vmF (di dy dv dd : Nat → Int32) (it yr d : Int32) (v0 : Int32) : Nat → Int32 × Int32
  | 0 => (v0, -1)
  | k + 1 => if di k = it ∧ ¬ d < dd k ∧ ¬ yr < dy k ∧ ¬ dy k < (vmF di dy dv dd it yr d v0 k).2 then (dv k, dy k) else vmF di dy dv dd it yr d v0 k
def vhF (di dy dv dd : Nat → Int32) (it yr d : Int32) (v0 : Int32) : Nat → Int32 × Int32
  | 0 => (v0, 0)
  | k + 1 => if (di k = it ∧ ¬ d < dd k) ∧ ((vhF di dy dv dd it yr d v0 k).2 ≤ dy k ∧ dy k ≤ yr) then (dv k, dy k) else vhF di dy dv dd it yr d v0 k
theorem okN_nn {x : Int32} {n : Nat} (h : okN x n) (hn : n ≤ 2 ^ 31) : 0 ≤ x := by
  rw [h.1]; exact nI_pos' (by have := h.2; omega)
theorem vh_vm {di dy dv dd : Nat → Int32} {it yr d v0 : Int32} {n : Nat} (hy : ∀ i, i < n → okN (dy i) 31) : (vhF di dy dv dd it yr d v0 n).1 = (vmF di dy dv dd it yr d v0 n).1 ∧ ((vhF di dy dv dd it yr d v0 n).2 = (vmF di dy dv dd it yr d v0 n).2 ∨ ((vhF di dy dv dd it yr d v0 n).2 = 0 ∧ (vmF di dy dv dd it yr d v0 n).2 = -1)) := by
  induction n with
  | zero => exact ⟨rfl, Or.inr ⟨rfl, rfl⟩⟩
  | succ n ih =>
    obtain ⟨h1, h2⟩ := ih (fun i hi => hy i (by omega))
    have h0 := okN_nn (hy n (by omega)) (by decide)
    have key : ((di n = it ∧ ¬ d < dd n) ∧ ((vhF di dy dv dd it yr d v0 n).2 ≤ dy n ∧ dy n ≤ yr)) ↔ (di n = it ∧ ¬ d < dd n ∧ ¬ yr < dy n ∧ ¬ dy n < (vmF di dy dv dd it yr d v0 n).2) := by
      have e : (vhF di dy dv dd it yr d v0 n).2 ≤ dy n ↔ ¬ dy n < (vmF di dy dv dd it yr d v0 n).2 := by
        rcases h2 with h2 | ⟨h2, h3⟩
        · rw [h2]; exact Int32.not_lt.symm
        · rw [h2, h3]
          refine ⟨fun _ => ?_, fun _ => h0⟩
          intro q
          have q1 := Int32.lt_iff_toInt_lt.mp q
          have q2 := Int32.le_iff_toInt_le.mp h0
          have e1 : (-1 : Int32).toInt = -1 := by decide
          have e2 : (0 : Int32).toInt = 0 := by decide
          omega
      rw [e, ← Int32.not_lt (a := yr) (b := dy n)]
      constructor
      · rintro ⟨⟨a, b⟩, c, f⟩; exact ⟨a, b, f, c⟩
      · rintro ⟨a, b, f, c⟩; exact ⟨⟨a, b⟩, c, f⟩
    rw [vhF, vmF]
    by_cases hc : (di n = it ∧ ¬ d < dd n) ∧ ((vhF di dy dv dd it yr d v0 n).2 ≤ dy n ∧ dy n ≤ yr)
    · rw [if_pos hc, if_pos (key.mp hc)]; exact ⟨rfl, Or.inl rfl⟩
    · rw [if_neg hc, if_neg (fun z => hc (key.mpr z))]; exact ⟨h1, h2⟩
/-- the first house of the greatest rest, of 0 .. k -/
def grF (r : Nat → Int64) : Nat → Nat
  | 0 => 0
  | k + 1 => if lg_cmp (r (k + 1)) (r (grF r k)) ≤ 0 then grF r k else k + 1
theorem grF_le (r : Nat → Int64) (k : Nat) : grF r k ≤ k := by
  induction k with
  | zero => exact Nat.le_refl _
  | succ k ih => rw [grF]; split <;> omega
def spF (s0 : Nat → Int32) (r0 : Nat → Int64) (b : Nat) : Nat → (Nat → Int32) × (Nat → Int64)
  | 0 => (s0, r0)
  | k + 1 => (upd (spF s0 r0 b k).1 (b + grF (spF s0 r0 b k).2 9) ((spF s0 r0 b k).1 (b + grF (spF s0 r0 b k).2 9) + 1), vp_updL (spF s0 r0 b k).2 (grF (spF s0 r0 b k).2 9) (-1))
/-- a loan's shares, rests and what is left, after k houses -/
def lvP (sm : Int32) (wo : Nat → Int32) (h : Nat) : Int64 := sm.toInt64 * (wo h).toInt64
def lvH (sm : Int32) (wo : Nat → Int32) (al : Int64) (h : Nat) : Int32 := (lvP sm wo h / al).toInt32
def lvS (sm : Int32) (wo : Nat → Int32) (al : Int64) (s0 : Nat → Int32) (b : Nat) : Nat → Nat → Int32
  | 0 => s0
  | k + 1 => upd (lvS sm wo al s0 b k) (b + k) (lvH sm wo al k)
def lvR (sm : Int32) (wo : Nat → Int32) (al : Int64) (r0 : Nat → Int64) : Nat → Nat → Int64
  | 0 => r0
  | k + 1 => vp_updL (lvR sm wo al r0 k) k (lvP sm wo k - lvP sm wo k / al * al)
theorem okN_at {f : Nat → Int32} {k n m : Nat} (e : k = n) (h : okN (f n) m) : f k = nI (cN (f n)) := by rw [e]; exact h.1
def lvL (sm : Int32) (wo : Nat → Int32) (al : Int64) : Nat → Int32
  | 0 => sm
  | k + 1 => lvL sm wo al k - lvH sm wo al k

