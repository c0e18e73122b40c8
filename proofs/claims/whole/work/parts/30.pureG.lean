theorem jsh_core {v w : Int32} {k : Nat} (hk : k = 24 ∨ k = 16 ∨ k = 8 ∨ k = 0) (h1 : w.toInt = v.toInt >>> k) : w.toBitVec.toNat % 256 = (v.toBitVec.toNat / 2 ^ k) % 256 := by
  have a1 : v.toInt = v.toBitVec.toInt := rfl
  have a2 : w.toInt = w.toBitVec.toInt := rfl
  have b1 := BitVec.toInt_eq_toNat_cond v.toBitVec
  have b2 := BitVec.toInt_eq_toNat_cond w.toBitVec
  have c1 := v.toBitVec.isLt
  have c2 := w.toBitVec.isLt
  rw [Int.shiftRight_eq_div_pow] at h1
  rw [a1, a2] at h1
  generalize v.toBitVec.toInt = T at *
  generalize w.toBitVec.toInt = S at *
  generalize v.toBitVec.toNat = N at *
  generalize w.toBitVec.toNat = M at *
  rcases hk with e | e | e | e <;> subst e <;> simp at * <;> split at b1 <;> split at b2 <;> omega
theorem jsh (v : Int32) (s : Int32) (k : Nat) (hk : k = 24 ∨ k = 16 ∨ k = 8 ∨ k = 0) (h1 : ((s &&& 31).toBitVec.smod 32).toNat = k) (h2 : ((s.toUInt32 &&& Int32.toUInt32 31).toBitVec % 32).toNat = k) : jshr v s &&& 255 = jushr v s &&& 255 := by
  rw [pk_and (jshr v s) 8 (by decide), pk_and (jushr v s) 8 (by decide)]
  have e1 := jsh_core (v := v) (w := jshr v s) hk (pk_shr v (s &&& 31) k h1)
  have e2 : (jushr v s).toBitVec.toNat = v.toBitVec.toNat / 2 ^ k := pk_ushr v s k h2
  rw [show (2 : Nat) ^ 8 = 256 from rfl, e1, e2]
theorem four_ap4 (f : Nat → Int32) (t : Nat) (v : Int32) : upd (upd (upd (upd f t (jshr v 24 &&& 255)) (t + 1) (jshr v 16 &&& 255)) (t + 2) (jshr v 8 &&& 255)) (t + 3) (jshr v 0 &&& 255) = ap4 f t v := by
  unfold ap4
  rw [jsh v 24 24 (by simp) (by decide) (by decide), jsh v 16 16 (by simp) (by decide) (by decide), jsh v 8 8 (by simp) (by decide) (by decide), jsh v 0 0 (by simp) (by decide) (by decide)]
/-- the reference's own way: the latest appeal decides -/
def smF (a st : Nat → Int32) (b : Nat) (d : Int32) : Nat → Bool
  | 0 => true
  | j + 1 => if ¬ d < a (b + j) then decide (st (b + j) = 0) else smF a st b d j
def apOk (ap ad st : Nat → Int32) (k : Nat) : Prop := (∀ j, j < cN (ap k) → st (k * 8 + j) = if j % 2 = 0 then 1 else 0) ∧ ∀ i j, i ≤ j → j < cN (ap k) → ad (k * 8 + i) ≤ ad (k * 8 + j)
theorem stC_all {a : Nat → Int32} {b : Nat} {d : Int32} {j : Nat} (h : ∀ i, i < j → a (b + i) ≤ d) : stC a b d j = decide (j % 2 = 0) := by
  induction j with
  | zero => rfl
  | succ j ih =>
    rw [stC, if_pos (h j (by omega)), ih (fun i hi => h i (by omega))]
    by_cases e : j % 2 = 0
    · rw [decide_eq_true e, decide_eq_false (by omega)]; rfl
    · rw [decide_eq_false e, decide_eq_true (by omega)]; rfl
theorem sm_st {ap ad st : Nat → Int32} {k : Nat} {d : Int32} (h : apOk ap ad st k) : ∀ j, j ≤ cN (ap k) → smF ad st (k * 8) d j = stC ad (k * 8) d j := by
  intro j
  induction j with
  | zero => intro _; rfl
  | succ j ih =>
    intro hj
    by_cases c : d < ad (k * 8 + j)
    · rw [smF, stC, if_neg (fun z => z c), if_neg (fun z => by have := Int32.not_lt.mpr z; exact this c)]
      exact ih (by omega)
    · have hall : ∀ i, i < j + 1 → ad (k * 8 + i) ≤ d := fun i hi => Int32.le_trans (h.2 i j (by omega) (by omega)) (Int32.not_lt.mp c)
      rw [smF, if_pos c, stC_all hall, h.1 j (by omega)]
      by_cases e : j % 2 = 0
      · rw [if_pos e, decide_eq_false (by decide), decide_eq_false (by omega)]
      · rw [if_neg e, decide_eq_true rfl, decide_eq_true (by omega)]
theorem tbV_eq {i : Nat} : tbV i = [1, 1, 1, 0, 1, 100].getD i 0 := rfl
def aeK (dy ap ad : Nat → Int32) (ln : Nat) (td k s : Int32) (f : Nat → Int32) : Nat → Int32 := if aeO dy ap ad ln td k s = 0 then upd f (cN k * 8 + cN (ap (cN k))) s else f

