def maO (kd : Nat → Int32) (ln : Nat) (k d : Int32) : Int32 := if hasL k ln ∧ inR d 0 100000 then (if kd (cN k) = 4 ∨ kd (cN k) = 5 then 0 else (-1000000002)) else (-1000000001)
abbrev hdV (k : Int32) (ln : Nat) (d : Int32) : Prop := hasL k ln ∧ inR d 0 100000
abbrev ydV (y d : Int32) : Prop := inR y 0 30 ∧ inR d 0 100000
abbrev wdV (h y d : Int32) : Prop := inR h 0 9 ∧ inR y 0 30 ∧ inR d 0 100000
/-- since: its answer, and the day that was looked at last -/
def siF (wk : Int32 → Int32) (w : Int32) (cd : Nat → Int32) : Nat → Int32 → Int32 × Int32
  | 0, dl => (0, dl)
  | k + 1, dl => if cd k ≤ 0 then siF wk w cd k dl else if wk (cd k - 1) = w then siF wk w cd k (cd k - 1) else (cd k, cd k - 1)
def lvOk (sm : Int32) (w : Nat → Int32) : Prop := ¬ sumI w 10 ≤ 0 ∧ ¬ (sumI w 10).toInt64 = 0 ∧ okN (lvL sm w (sumI w 10).toInt64 10) 11
def leO (w : Nat → Int32) (on : Nat) (sm y : Int32) : Int32 := if inR sm 1 100000 ∧ inR y 0 30 then (if sumI w 10 = 0 then (-1000000002) else if on < 6 then 0 else (-1000000003)) else (-1000000001)
def leR (w : Nat → Int32) (on : Nat) (sm y : Int32) : Int32 := if leO w on sm y = 0 then nI on else leO w on sm y
def leN (w : Nat → Int32) (on : Nat) (sm y : Int32) : Nat := if leO w on sm y = 0 then on + 1 else on
def leX (w : Nat → Int32) (on : Nat) (sm : Int32) (s : Nat → Int32) (r : Nat → Int64) : (Nat → Int32) × (Nat → Int64) := spF (lvS sm w (sumI w 10).toInt64 s (on * 10) 10) (lvR sm w (sumI w 10).toInt64 r 10) (on * 10) (cN (lvL sm w (sumI w 10).toInt64 10))
def leS (w : Nat → Int32) (on : Nat) (sm y : Int32) (s : Nat → Int32) (r : Nat → Int64) : Nat → Int32 := if leO w on sm y = 0 then (leX w on sm s r).1 else s
def leT (w : Nat → Int32) (on : Nat) (sm y : Int32) (s : Nat → Int32) (r : Nat → Int64) : Nat → Int64 := if leO w on sm y = 0 then (leX w on sm s r).2 else r
abbrev lhV (x : Int32) (on : Nat) (h : Int32) : Prop := hasL x on ∧ inR h 0 9
def loI (x h : Int32) : Nat := cN x * 10 + cN h
def loR (sh pd cr : Nat → Int32) (on : Nat) (x h w : Int32) : Int32 := if lhV x on h then (if w = 0 then sh (loI x h) else if w = 1 then pd (loI x h) else if w = 2 then cr (loI x h) else (-1000000001)) else (-1000000001)
def pyO (sh pd : Nat → Int32) (on : Nat) (x h n : Int32) : Int32 := if hasL x on ∧ inR h 0 9 ∧ inR n 1 100000 then (if 0 < sh (loI x h) - pd (loI x h) then 0 else (-1000000002)) else (-1000000001)
def pyV (sh pd : Nat → Int32) (x h n : Int32) : Int32 := if sh (loI x h) - pd (loI x h) < n then sh (loI x h) - pd (loI x h) else n
def pyR (sh pd : Nat → Int32) (on : Nat) (x h n : Int32) : Int32 := if pyO sh pd on x h n = 0 then pyV sh pd x h n else pyO sh pd on x h n
def pyU (f sh pd : Nat → Int32) (on : Nat) (x h n : Int32) : Nat → Int32 := if pyO sh pd on x h n = 0 then upd f (loI x h) (f (loI x h) + pyV sh pd x h n) else f
def slO (cr : Nat → Int32) (on : Nat) (x h t n : Int32) : Int32 := if hasL x on ∧ inR h 0 9 ∧ inR t 0 9 ∧ ¬ h = t ∧ inR n 1 100000 then (if n ≤ cr (loI x h) then 0 else (-1000000002)) else (-1000000001)
def slF (f : Nat → Int32) (a b : Nat) (n : Int32) : Nat → Int32 := upd (upd f a (f a - n)) b (upd f a (f a - n) b + n)
def slR (cr : Nat → Int32) (on : Nat) (x h t n : Int32) : Int32 := if slO cr on x h t n = 0 then slF cr (loI x h) (loI x t) n (loI x t) else slO cr on x h t n
def slU (cr : Nat → Int32) (on : Nat) (x h t n : Int32) : Nat → Int32 := if slO cr on x h t n = 0 then slF cr (loI x h) (loI x t) n else cr
def coR (ln wn dn on tl : Nat) (td : Int32) (ar cr : Nat → Int32) (w : Int32) : Int32 := if w = 0 then nI ln else if w = 1 then nI wn else if w = 2 then nI dn else if w = 3 then nI on else if w = 4 then nI tl else if w = 5 then td else if w = 6 then nI (cntP ar 12) else if w = 7 then sumI cr 60 else (-1000000001)
theorem pred_pos {i : Nat} (h : ¬ nI i - 1 < 0) : 0 < i := by
  rcases Nat.eq_zero_or_pos i with e | e
  · subst e; exact absurd (by decide) h
  · exact e
theorem pred_neg {i : Nat} (hi : i < 2 ^ 31) (h : nI i - 1 < 0) : i = 0 := by
  rcases Nat.eq_zero_or_pos i with e | e
  · exact e
  · have h2 : nI i - nI 1 < 0 := h
    rw [pk_sub (a := i) (b := 1) (by omega)] at h2
    exact absurd h2 (nI_pos (by omega))
theorem pred_2 {i : Nat} (h : 0 < i) : nI i - 1 + (-1) = nI (i - 1) - 1 := by
  have e : nI i - nI 1 = nI (i - 1) := pk_sub (a := i) (b := 1) (by omega)
  have e1 : nI i - 1 = nI (i - 1) := e
  rw [e1, Int32.sub_eq_add_neg]
def diB (a b : Nat → Int32) (h : Nat) : Bool := decide (¬ a h = b h)

