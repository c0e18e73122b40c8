theorem okN_le {x M : Int32} {m : Nat} (h0 : 0 ≤ x) (h1 : x ≤ M) (e : M.toInt = m) (hm : m < 2 ^ 31 - 1) : okN x (m + 1) := by
  obtain ⟨j, hj, rfl⟩ := nI_of2 e (Int32.not_lt.mpr h0) h1
  exact okN_nI (by omega) (by omega)
abbrev hasL (k : Int32) (n : Nat) : Prop := 0 ≤ k ∧ k ≤ nI n - 1
theorem hasL_ok {k : Int32} {n : Nat} (h : hasL k n) (hn : n ≤ 1000) : okN k n := by
  rcases Nat.eq_zero_or_pos n with e | e
  · subst e
    have h2 := h.2
    have h1 := h.1
    have q1 := Int32.le_iff_toInt_le.mp h1
    have q2 := Int32.le_iff_toInt_le.mp h2
    have e1 : (nI 0 - 1 : Int32).toInt = -1 := by decide
    have e2 : (0 : Int32).toInt = 0 := by decide
    omega
  · have h2 : k ≤ nI n - nI 1 := h.2
    rw [pk_sub (a := n) (b := 1) (by omega)] at h2
    have := okN_le (m := n - 1) h.1 h2 (nI_toInt (by omega)) (by omega)
    rwa [show n - 1 + 1 = n by omega] at this
abbrev inR (x a b : Int32) : Prop := a ≤ x ∧ x ≤ b
abbrev dyV (td n : Int32) : Prop := inR n 0 1000 ∧ td + n ≤ 100000
def dyR (td n : Int32) : Int32 := if dyV td n then td + n else (-1000000001)
def dyN (td n : Int32) : Int32 := if dyV td n then td + n else td
abbrev msV (p a k : Int32) : Prop := inR p 0 11 ∧ inR a 1 2000 ∧ inR k 0 2
def msR (ar : Nat → Int32) (p a k : Int32) : Int32 := if msV p a k then ar (cN p) else (-1000000001)
def msA (ar : Nat → Int32) (p a k : Int32) : Nat → Int32 := if msV p a k then upd ar (cN p) a else ar
def msC (cl : Nat → Int32) (p a k : Int32) : Nat → Int32 := if msV p a k then upd cl (cN p) k else cl
def fdR (tl : Nat) : Int32 := if tl + 12 ≤ 60 then nI (tl + 12) else (-1000000003)
def fdN (tl : Nat) : Nat := if tl + 12 ≤ 60 then tl + 12 else tl
def fdT (f : Nat → Int32) (tl : Nat) (a b c : Int32) : Nat → Int32 := if tl + 12 ≤ 60 then ap4 (ap4 (ap4 f tl a) (tl + 4) b) (tl + 8) c else f
def trR (tl : Nat) (n : Int32) : Int32 := if inR n 0 (nI tl) then n else (-1000000001)
def trN (tl : Nat) (n : Int32) : Nat := if inR n 0 (nI tl) then cN n else tl
def liR (kd hs yr dy of nm ap : Nat → Int32) (ln : Nat) (k w : Int32) : Int32 := if hasL k ln then (if w = 0 then kd (cN k) else if w = 1 then hs (cN k) else if w = 2 then yr (cN k) else if w = 3 then dy (cN k) else if w = 4 then of (cN k) else if w = 5 then nm (cN k) else if w = 6 then ap (cN k) else (-1000000001)) else (-1000000001)
def kofB (o k : Int32) : Bool := if k = 0 then true else if k = 6 then decide (o = 4 ∨ o = 5) else if k = 7 then decide (o = 1 ∨ o = 2 ∨ o = 5) else decide (o = k)
def ioR (kd : Nat → Int32) (ln : Nat) (k x : Int32) : Int32 := if hasL k ln ∧ inR x 0 7 then bz (kofB (kd (cN k)) x = true) else (-1000000001)
/-- an appeal: 0 if it is good, else what is answered -/
def aeO (dy ap ad : Nat → Int32) (ln : Nat) (td k s : Int32) : Int32 := if hasL k ln ∧ inR s 0 1 then (if (stCl dy ap ad (cN k) td ↔ s = 1) then (if cN (ap (cN k)) < 8 then 0 else (-1000000003)) else (-1000000002)) else (-1000000001)
def aeR (dy ap ad : Nat → Int32) (ln : Nat) (td k s : Int32) : Int32 := if aeO dy ap ad ln td k s = 0 then nI (cN (ap (cN k)) + 1) else aeO dy ap ad ln td k s
def aeP (dy ap ad : Nat → Int32) (ln : Nat) (td k s : Int32) : Nat → Int32 := if aeO dy ap ad ln td k s = 0 then upd ap (cN k) (nI (cN (ap (cN k)) + 1)) else ap
def aeD (dy ap ad : Nat → Int32) (ln : Nat) (td k s : Int32) : Nat → Int32 := if aeO dy ap ad ln td k s = 0 then upd ad (cN k * 8 + cN (ap (cN k))) td else ad
def sdR (dy ap ad : Nat → Int32) (ln : Nat) (k d : Int32) : Int32 := if hasL k ln ∧ inR d 0 100000 then bz (stCl dy ap ad (cN k) d) else (-1000000001)
def syO (wn : Nat) (h p o : Int32) : Int32 := if inR h 0 9 ∧ inR p 0 11 ∧ inR o 0 9 then (if wn < 40 then 0 else (-1000000003)) else (-1000000001)
def syR (wn : Nat) (h p o : Int32) : Int32 := if syO wn h p o = 0 then nI (wn + 1) else syO wn h p o
def syN (wn : Nat) (h p o : Int32) : Nat := if syO wn h p o = 0 then wn + 1 else wn
def syU (f : Nat → Int32) (v : Int32) (wn : Nat) (h p o : Int32) : Nat → Int32 := if syO wn h p o = 0 then upd f wn v else f
def toR (wh wp wo wd : Nat → Int32) (wn : Nat) (p d : Int32) : Int32 := if inR p 0 11 ∧ inR d 0 100000 then toldF wh wp wo wd wn p d else (-1000000001)
def deO (dn : Nat) (i y v : Int32) : Int32 := if inR i 0 5 ∧ inR y 0 30 ∧ inR v 0 (tbM (cN i)) then (if dn < 40 then 0 else (-1000000003)) else (-1000000001)
def deR (dn : Nat) (i y v : Int32) : Int32 := if deO dn i y v = 0 then nI (dn + 1) else deO dn i y v
def deN (dn : Nat) (i y v : Int32) : Nat := if deO dn i y v = 0 then dn + 1 else dn
def deU (f : Nat → Int32) (x : Int32) (dn : Nat) (i y v : Int32) : Nat → Int32 := if deO dn i y v = 0 then upd f dn x else f
def hoR (di dY dv dd : Nat → Int32) (dn : Nat) (i y d : Int32) : Int32 := if inR i 0 5 ∧ inR y 0 30 ∧ inR d 0 100000 then (vmF di dY dv dd (nI (cN i)) y d (tbV (cN i)) dn).1 else (-1000000001)
def ntB (o : Int32) (f : Nat → Int32) (n : Nat) (d : Int32) : Nat → Int32 := if o = 0 then ncA f n d else f
def ntN (o : Int32) (f : Nat → Int32) (n : Nat) (d : Int32) : Nat := if o = 0 then ncN f n d else n

