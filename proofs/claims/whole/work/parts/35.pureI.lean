section GR3
variable {p : Program} {l : Launch} {e : Env} {R : Room} {s : State} {m : MethodId} {args : Array Value} {below : List Frame} {meth : Method} {c : Code} {X : gX} {A : Nat → Prop} {nL kc ks : Nat} {Q : State → Prop} {lv : List (Nat × Value)} {ws : va_W} {pc : Nat} {st : List Value}
theorem g_topl {x y : Int64} (h : x = y) (kk : gG p l e R s m args below meth c X A nL kc ks Q (lv) (ws) (pc) (.long y :: st)) : gG p l e R s m args below meth c X A nL kc ks Q (lv) (ws) (pc) (.long x :: st) := by subst h; exact kk
end GR3
def sumL (w : Nat → Int32) : Nat → Int64
  | 0 => 0
  | k + 1 => sumL w k + (w k).toInt64
theorem lgc0 {x : Int64} : lg_cmp x 0 = 0 ↔ x = 0 := by
  unfold lg_cmp
  constructor
  · intro h
    split at h
    · exact absurd h (by decide)
    · split at h
      · assumption
      · exact absurd h (by decide)
  · intro h
    subst h
    rfl
theorem i64_0 {x : Int32} : x.toInt64 = 0 ↔ x = 0 := by
  constructor
  · intro h
    have h1 := congrArg Int64.toInt h
    rw [Int32.toInt_toInt64] at h1
    have e : (0 : Int64).toInt = 0 := by decide
    have e2 : (0 : Int32).toInt = 0 := by decide
    exact Int32.toInt_inj.mp (by rw [h1, e, e2])
  · intro h; subst h; rfl
theorem upd_same {f : Nat → Int32} {k : Nat} {v : Int32} (h : f k = v) : upd f k v = f := by
  funext j
  by_cases e : j = k
  · subst e; rw [pk_us]; exact h.symm
  · exact pk_un e
def ltr (a b m : Int32) : Int32 := if ¬ m < b ∧ ¬ b ≤ a then b else a
def evA (ad : Nat → Int32) (m : Int32) (b : Nat) (d : Int32) : Nat → Int32
  | 0 => d
  | j + 1 => ltr (evA ad m b d j) (ad (b + j)) m
def evL (dy ap ad : Nat → Int32) (m : Int32) : Nat → Int32
  | 0 => 0
  | k + 1 => evA ad m (k * 8) (ltr (evL dy ap ad m k) (dy k) m) (cN (ap k))
def evW (wd : Nat → Int32) (m d : Int32) : Nat → Int32
  | 0 => d
  | k + 1 => ltr (evW wd m d k) (wd k) m
def evF (dy ap ad : Nat → Int32) (ln : Nat) (wd : Nat → Int32) (wn : Nat) (dd : Nat → Int32) (dn : Nat) (m : Int32) : Int32 := evW dd m (evW wd m (evL dy ap ad m ln) wn) dn
/-- the latest of the days of change up to x -/
def leF (cd : Nat → Int32) : Nat → Int32 → Int32
  | 0, _ => 0
  | k + 1, x => if ¬ x < cd k then cd k else leF cd k x
def dIx (cd : Nat → Int32) (i : Nat) : Int32 := if i = 0 then 0 else cd (i - 1)
def cdOk (cd : Nat → Int32) (cg : Nat) (td : Int32) : Prop := (∀ i j, i < j → j < cg → cd i < cd j) ∧ (∀ i, i < cg → 0 ≤ cd i ∧ cd i ≤ td)
theorem leF_all {cd : Nat → Int32} {x : Int32} : ∀ n, (∀ i, i < n → ¬ x < cd i) → leF cd n x = dIx cd n := by
  intro n h
  cases n with
  | zero => rfl
  | succ n => rw [leF, if_pos (h n (by omega))]; rfl
theorem leF_skip {cd : Nat → Int32} {x : Int32} {i : Nat} : ∀ n, i ≤ n → (∀ j, i ≤ j → j < n → x < cd j) → leF cd n x = leF cd i x := by
  intro n
  induction n with
  | zero => intro h _; rw [show i = 0 by omega]
  | succ n ih =>
    intro h1 h2
    by_cases e : i = n + 1
    · rw [e]
    · rw [leF, if_neg (fun z => z (h2 n (by omega) (by omega)))]
      exact ih (by omega) (fun j a b => h2 j a (by omega))
theorem i32_pred {x y : Int32} (h : 0 < x) : x - 1 < y ↔ x ≤ y := by
  have e : (x - 1).toInt = x.toInt - 1 := by
    have h1 := Int32.lt_iff_toInt_lt.mp h
    have e0 : (0 : Int32).toInt = 0 := by decide
    have b1 := Int32.toInt_lt x
    have b2 := Int32.le_toInt x
    rw [Int32.toInt_sub]
    have e1 : (1 : Int32).toInt = 1 := by decide
    rw [e1]
    exact Int.bmod_eq_of_le (by omega) (by omega)
  rw [Int32.lt_iff_toInt_lt, Int32.le_iff_toInt_le, e]
  omega
theorem i32_p0 {x : Int32} (h : 0 < x) : 0 ≤ x - 1 := by
  refine Int32.not_lt.mp (fun z => ?_)
  have := (i32_pred h).mp z
  exact absurd h (Int32.not_lt.mpr this)
theorem leF_top {cd : Nat → Int32} {cg : Nat} {td : Int32} (h : cdOk cd cg td) : leF cd cg td = dIx cd cg := leF_all cg (fun i hi => Int32.not_lt.mpr (h.2 i hi).2)
theorem leF_pred {cd : Nat → Int32} {cg i : Nat} {td : Int32} (h : cdOk cd cg td) (hi : i < cg) (hp : 0 < cd i) : leF cd cg (cd i - 1) = dIx cd i := by
  rw [leF_skip (i := i) cg (by omega) (fun j a b => (i32_pred hp).mpr (by
    by_cases e : i = j
    · rw [e]; exact Int32.le_refl _
    · exact Int32.le_of_lt (h.1 i j (by omega) b)))]
  exact leF_all i (fun j hj z => by
    have h1 := (i32_pred hp).mp z
    have h2 := h.1 j i hj hi
    exact absurd h2 (Int32.not_lt.mpr h1))
theorem siF_end {wk : Int32 → Int32} {w : Int32} {cd : Nat → Int32} {cg i : Nat} {td dl : Int32} (h : cdOk cd cg td) (hi : i ≤ cg) (h0 : dIx cd i ≤ 0) : siF wk w cd i dl = (dIx cd i, dl) := by
  cases i with
  | zero => rfl
  | succ i =>
    have e : dIx cd (i + 1) = cd i := rfl
    rw [e] at h0 ⊢
    have hz : cd i = 0 := Int32.le_antisymm h0 (h.2 i (by omega)).1
    rw [siF, if_pos h0]
    cases i with
    | zero => rw [siF, hz]
    | succ i =>
      have h1 := h.1 i (i + 1) (by omega) (by omega)
      rw [hz] at h1
      exact absurd h1 (Int32.not_lt.mpr (h.2 i (by omega)).1)
theorem dIx_pos {cd : Nat → Int32} {i : Nat} (h : ¬ dIx cd i ≤ 0) : 0 < i := by
  rcases Nat.eq_zero_or_pos i with e | e
  · subst e; exact absurd (show dIx cd 0 ≤ 0 from (by decide : (0 : Int32) ≤ 0)) h
  · exact e
theorem dIx_at {cd : Nat → Int32} {i : Nat} (h : 0 < i) : dIx cd i = cd (i - 1) := by unfold dIx; rw [if_neg (by omega)]

