section GL
variable {p : Program} {l : Launch} {e : Env} {R : Room} {s : State} {m : MethodId} {args : Array Value} {below : List Frame} {meth : Method} {c : Code} {X : gX} {A : Nat → Prop} {nL kc ks : Nat} {Q : State → Prop} {lv : List (Nat × Value)} {ws : va_W} {pc pc' : Nat} {st : List Value} {cc : ByteArray} {own : String} {Ts : List Cond}
theorem g_sld (C : gC p s m args meth c X A nL cc own Ts) {b L : Nat} {xs : Nat → Int32} (hX : va_X b L xs s s.heap) (hbl : b < s.heap.size) (hbA : ¬ A b) {i : Int32} (k : Nat) (hi : i = nI k) (hk : k < L) (hL : L < 2 ^ 31) (hd : decode cc pc = .ok (.iaload, 1)) (hp : pc + 1 = pc') (kk : gG p l e R s m args below meth c X A nL kc ks Q (lv) (ws) (pc') (.int (xs k) :: st)) : gG p l e R s m args below meth c X A nL kc ks Q (lv) (ws) (pc) (.int i :: .ref b :: st) := by
  intro H locs ls hP hD hS hl; subst hp; subst hi; refine va_sld C.1 C.2.1 hX hbl hbA hS (vp_in_nI hk hL) hd ?_; rw [nI_clamp (Nat.lt_trans hk hL)]; exact kk H locs ls hP hD hS hl
theorem g_slen (C : gC p s m args meth c X A nL cc own Ts) {b L : Nat} {xs : Nat → Int32} (hX : va_X b L xs s s.heap) (hbl : b < s.heap.size) (hbA : ¬ A b) (hd : decode cc pc = .ok (.arraylength, 1)) (hp : pc + 1 = pc') (kk : gG p l e R s m args below meth c X A nL kc ks Q (lv) (ws) (pc') (.int (nI L) :: st)) : gG p l e R s m args below meth c X A nL kc ks Q (lv) (ws) (pc) (.ref b :: st) := by
  intro H locs ls hP hD hS hl; subst hp; exact va_slen C.1 C.2.1 hX hbl hbA hS hd (kk H locs ls hP hD hS hl)
end GL

