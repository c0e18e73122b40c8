section GR2
variable {p : Program} {l : Launch} {e : Env} {R : Room} {s : State} {m : MethodId} {args : Array Value} {below : List Frame} {meth : Method} {c : Code} {X : gX} {A : Nat → Prop} {nL kc ks : Nat} {Q : State → Prop} {lv lv' : List (Nat × Value)} {ws ws2 : va_W} {pc pc' tgt : Nat} {st : List Value} {cc : ByteArray} {own : String} {Ts : List Cond}
theorem g_copyi (C : gC p s m args meth c X A nL cc own Ts) {index a0 a1 n0 n1 : Nat} {f g : Nat → Int32} {n : Int32} (h1 : Cond.methodLink own index arraycopyName ∈ Ts) (h2 : Cond.native arraycopyName ∈ Ts) (h3 : Cond.static arraycopyName ∈ Ts) (h4 : Cond.initialized "java/lang/System" ∈ Ts) (q0 q1 : Nat) (ha0 : ws[q0]? = some (a0, .inl (xI X, n0, .inl f))) (ha1 : ws[q1]? = some (a1, .inl (xI X, n1, .inl g))) (k : Nat) (hk : k ≤ n0 ∧ k ≤ n1 ∧ k < 2 ^ 31) (hnk : n = nI k) (hf : 1 ≤ R.frames) (hlo : (st.map fun v => v.category).sum + (nativeFrameWords "java/lang/System" "arraycopy" 5 + 11) ≤ R.locals) (hd : decode cc pc = .ok (.invokestatic index, 3)) (hs : ws.set q1 (a1, .inl (xI X, n1, .inl (va_cpy f g 0 0 k))) = ws2) (hp : pc + 3 = pc') (kk : gG p l e R s m args below meth c X A nL kc ks Q (lv) (ws2) (pc') (st)) : gG p l e R s m args below meth c X A nL kc ks Q (lv) (ws) (pc) (.int n :: .int 0 :: .ref a1 :: .int 0 :: .ref a0 :: st) := by
  intro H locs ls hP hD hS hl; subst hp; subst hnk; subst hs
  have e0 : (0 : Int32).toNatClampNeg = 0 := by decide
  have e1 : (nI k).toNatClampNeg = k := nI_clamp hk.2.2
  refine va_copyi (ty := .int) C.1 C.2.1 (C.2.2.1.trans hl.1.symm) C.2.2.2.1 (C.2.2.2.2.1 _ h1) (C.2.2.2.2.1 _ h2) (C.2.2.2.2.1 _ h3) (C.2.2.2.2.1 _ h4) C.2.2.2.2.2.1 hP hD hS q0 q1 0 0 ha0 ha1 rfl rfl rfl (by decide) (by decide) (nI_pos hk.2.2) (by rw [e0, e1]; omega) (by rw [e0, e1]; omega) (fun _ _ => rfl) hf hlo hd (fun H locs hP hD hS => ?_)
  rw [e0, e1] at hP hD
  exact kk H locs ls hP hD hS hl
end GR2

def kQ0 (yr dy ap ad : Nat → Int32) (n : Nat) (y d : Int32) : Nat → Int32 := cut n (tkF yr dy ap ad y d) Zf
def kM (kd hs yr dy of nm ap ad : Nat → Int32) (n : Nat) (y d : Int32) : Nat → Int32 := mtF (kQ0 yr dy ap ad n y d) kd hs of nm n (cut n Nf Zf) n
def kT (wh wp wo wd : Nat → Int32) (wn : Nat) (d : Int32) : Nat → Int32 := fun p => toldF wh wp wo wd wn (nI p) d
def kV (di dy dv dd : Nat → Int32) (dn : Nat) (y d : Int32) : Nat → Int32 := fun i => (vmF di dy dv dd (nI i) y d (tbV i) dn).1
def kU (kd hs yr dy of nm ap ad : Nat → Int32) (n : Nat) (wh wp wo wd : Nat → Int32) (wn : Nat) (ar : Nat → Int32) (y d : Int32) (k : Nat) : Nat → Int32 := usF (kQ0 yr dy ap ad n y d) (kM kd hs yr dy of nm ap ad n y d) kd hs of nm ar (kT wh wp wo wd wn d) k
def kQ (kd hs yr dy of nm ap ad : Nat → Int32) (n : Nat) (wh wp wo wd : Nat → Int32) (wn : Nat) (ar : Nat → Int32) (y d : Int32) : Nat → Int32 := cut n (qqF (kQ0 yr dy ap ad n y d) (kM kd hs yr dy of nm ap ad n y d) kd hs of nm ar (kT wh wp wo wd wn d)) Zf
def kW (kd hs yr dy of nm ap ad : Nat → Int32) (n : Nat) (wh wp wo wd : Nat → Int32) (wn : Nat) (ar cl : Nat → Int32) (di dY dv dd : Nat → Int32) (dn : Nat) (y d : Int32) : Nat → Int32 := woF (kQ kd hs yr dy of nm ap ad n wh wp wo wd wn ar y d) kd hs of nm cl (kV di dY dv dd dn y d) n
theorem kQ0_or {yr dy ap ad : Nat → Int32} {n : Nat} {y d : Int32} : ∀ i, i < n → kQ0 yr dy ap ad n y d i = 0 ∨ kQ0 yr dy ap ad n y d i = (-1000000005) := by
  intro i hi; unfold kQ0; rw [cut_lt hi]; exact tkF_or _ _ _ _ _ _ _
theorem kQ0_z {yr dy ap ad : Nat → Int32} {n : Nat} {y d : Int32} : ∀ j, n ≤ j → kQ0 yr dy ap ad n y d j = 0 := by
  intro j hj; unfold kQ0; rw [cut_ge hj]; rfl
theorem kQ_z {kd hs yr dy of nm ap ad : Nat → Int32} {n : Nat} {wh wp wo wd : Nat → Int32} {wn : Nat} {ar : Nat → Int32} {y d : Int32} : ∀ j, n ≤ j → kQ kd hs yr dy of nm ap ad n wh wp wo wd wn ar y d j = 0 := by
  intro j hj; unfold kQ; rw [cut_ge hj]; rfl
theorem firstI_or (p : Nat → Bool) : ∀ n i, firstI p n i = (-1000000005) ∨ ∃ j, i ≤ j ∧ j < i + n ∧ p j = true ∧ firstI p n i = nI j := by
  intro n
  induction n with
  | zero => intro i; exact Or.inl rfl
  | succ n ih =>
    intro i
    by_cases h : p i = true
    · exact Or.inr ⟨i, Nat.le_refl _, by omega, h, firstI_yes h (by omega)⟩
    · rw [firstI, if_neg h]
      rcases ih (i + 1) with q | ⟨j, q1, q2, q3, q4⟩
      · exact Or.inl q
      · exact Or.inr ⟨j, by omega, by omega, q3, q4⟩
theorem mtF_z {q kd hs of nm m0 : Nat → Int32} {n : Nat} (hn : n < 2 ^ 31) : ∀ k, k ≤ n → ∀ j, n ≤ j → mtF q kd hs of nm n m0 k j = m0 j := by
  intro k
  induction k with
  | zero => intro _ j _; rfl
  | succ k ih =>
    intro hk j hj
    rw [mtF]
    split
    · rcases firstI_or (freeB q (mtF q kd hs of nm n m0 k) kd hs of nm k) n 0 with e | ⟨i, h1, h2, h3, e⟩
      · rw [e, mtPut_no]; exact ih (by omega) j hj
      · rw [e, mtPut_yes (by omega), pk_un (by omega), pk_un (by omega)]; exact ih (by omega) j hj
    · exact ih (by omega) j hj
theorem kM_z {kd hs yr dy of nm ap ad : Nat → Int32} {n : Nat} {y d : Int32} (hn : n ≤ 100) : ∀ j, n ≤ j → kM kd hs yr dy of nm ap ad n y d j = 0 := by
  intro j hj; unfold kM; rw [mtF_z (by omega) n (Nat.le_refl _) j hj, cut_ge hj]; rfl
theorem lq_nn (a b c d e : Int32) : lq a b c d e = 0 ∨ 0 < lq a b c d e := by
  unfold lq; split
  · exact Or.inr (by decide)
  · split
    · exact Or.inr (by decide)
    · split
      · exact Or.inr (by decide)
      · exact Or.inl rfl
theorem qun_nn (a : Int32) : qun a = 0 ∨ 0 < qun a := by
  unfold qun; split
  · exact Or.inr (by decide)
  · split
    · exact Or.inr (by decide)
    · exact Or.inl rfl
theorem quS_nn (mt kd hs of nm ar tl us : Nat → Int32) (k : Nat) : quS mt kd hs of nm ar tl us k = 0 ∨ 0 < quS mt kd hs of nm ar tl us k := by
  unfold quS; split
  · split
    · exact qun_nn _
    · exact Or.inl rfl
  · split
    · exact lq_nn _ _ _ _ _
    · exact Or.inl rfl
theorem kQ_or {kd hs yr dy of nm ap ad : Nat → Int32} {n : Nat} {wh wp wo wd : Nat → Int32} {wn : Nat} {ar : Nat → Int32} {y d : Int32} : ∀ i, i < n → kQ kd hs yr dy of nm ap ad n wh wp wo wd wn ar y d i = (-1000000005) ∨ kQ kd hs yr dy of nm ap ad n wh wp wo wd wn ar y d i = 0 ∨ 0 < kQ kd hs yr dy of nm ap ad n wh wp wo wd wn ar y d i := by
  intro i hi; unfold kQ; rw [cut_lt hi]; unfold qqF
  rcases kQ0_or (yr := yr) (dy := dy) (ap := ap) (ad := ad) (y := y) (d := d) i hi with h | h
  · rw [if_pos h]; exact Or.inr (quS_nn _ _ _ _ _ _ _ _ _)
  · rw [if_neg (by rw [h]; decide)]; exact Or.inl h
def txF (w r : Int32) : Int32 := (w.toInt64 * r.toInt64 / 1000).toInt32

