def cN (x : Int32) : Nat := x.toNatClampNeg
/-- x is a count below n -/
def okN (x : Int32) (n : Nat) : Prop := x = nI (cN x) ∧ cN x < n
theorem cN_nI {k : Nat} (h : k < 2 ^ 31) : cN (nI k) = k := nI_clamp h
theorem okN_nI {k n : Nat} (h : k < n) (hn : n ≤ 2 ^ 31) : okN (nI k) n := by
  have e : cN (nI k) = k := cN_nI (by omega)
  exact ⟨by rw [e], by rw [e]; exact h⟩
theorem bz_eq0 {P : Prop} [Decidable P] : bz P = 0 ↔ ¬ P := by
  by_cases h : P
  · rw [bz_t h]; exact ⟨fun q => absurd q (by decide), fun q => absurd h q⟩
  · rw [bz_f h]; exact ⟨fun _ => h, fun _ => rfl⟩
/-- how many of the first k are above 0 -/
def cntP (f : Nat → Int32) : Nat → Nat
  | 0 => 0
  | k + 1 => if f k ≤ 0 then cntP f k else cntP f k + 1
def sumI (f : Nat → Int32) : Nat → Int32
  | 0 => 0
  | k + 1 => sumI f k + f k
def ap4 (f : Nat → Int32) (t : Nat) (v : Int32) : Nat → Int32 := upd (upd (upd (upd f t (jushr v 24 &&& 255)) (t + 1) (jushr v 16 &&& 255)) (t + 2) (jushr v 8 &&& 255)) (t + 3) (jushr v 0 &&& 255)
def ncB (f : Nat → Int32) (n : Nat) (d : Int32) : Bool := decide (0 < n) && decide (f (n - 1) = d)
def ncA (f : Nat → Int32) (n : Nat) (d : Int32) : Nat → Int32 := if ncB f n d = true then f else upd f n d
def ncN (f : Nat → Int32) (n : Nat) (d : Int32) : Nat := if ncB f n d = true then n else n + 1
/-- whether a line stands, by its appeals that came up to the day, in turns -/
def stC (a : Nat → Int32) (b : Nat) (d : Int32) : Nat → Bool
  | 0 => true
  | j + 1 => if a (b + j) ≤ d then !stC a b d j else stC a b d j
abbrev stCl (dy ap ad : Nat → Int32) (k : Nat) (d : Int32) : Prop := dy k ≤ d ∧ stC ad (k * 8) d (cN (ap k)) = true

