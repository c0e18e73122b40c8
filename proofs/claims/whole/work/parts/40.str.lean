section GS
variable {p : Program} {l : Launch} {e : Env} {R : Room} {s : State} {m : MethodId} {args : Array Value} {below : List Frame} {meth : Method} {c : Code} {X : gX} {A : Nat → Prop} {nL kc ks : Nat} {Q : State → Prop} {lv lv' : List (Nat × Value)} {ws ws2 : va_W} {pc pc' tgt : Nat} {st : List Value} {cc : ByteArray} {own : String} {Ts : List Cond}
theorem g_ldcS (C : gC p s m args meth c X A nL cc own Ts) {index : Nat} (i : Nat) (hi : i < 5) (ho : own = "DeclarationHall$Reader") (hx : index = jsN i) (hd : decode cc pc = .ok (.ldc index, 2)) (hp : pc + 2 = pc') (kk : gG p l e R s m args below meth c X A nL kc ks Q (lv) (ws) (pc') (.ref (xK X i) :: st)) : gG p l e R s m args below meth c X A nL kc ks Q (lv) (ws) (pc) (st) := by
  intro H locs ls hP hD hS hl; subst hp; subst ho; subst hx; exact va_ldcS C.1 C.2.1 C.2.2.2.1 (C.2.2.2.2.2.2.2.1.2.1 i hi) hd (kk H locs ls hP hD hS hl)
theorem g_getJ (C : gC p s m args meth c X A nL cc own Ts) {o n d : String} {index q : Nat} {v : Value} (hE : va_OF o n d v q A s s.heap) (hw : Cond.fieldLink own index o n d ∈ Ts) (hd : decode cc pc = .ok (.getfield index, 3)) (hp : pc + 3 = pc') (kk : gG p l e R s m args below meth c X A nL kc ks Q (lv) (ws) (pc') (v :: st)) : gG p l e R s m args below meth c X A nL kc ks Q (lv) (ws) (pc) (.ref q :: st) := by
  intro H locs ls hP hD hS hl; subst hp; exact vk_getf C.1 C.2.1 hE hS C.2.2.2.1 (C.2.2.2.2.1 _ hw) (fun _ h9 => h9) hd (kk H locs ls hP hD hS hl)
theorem g_gets (C : gC p s m args meth c X A nL cc own Ts) {Cn n d : String} {index : Nat} {v : Value} (hZ : va_Z Cn n d v A s s.heap) (hw : Cond.fieldLink own index Cn n d ∈ Ts) (hd : decode cc pc = .ok (.getstatic index, 3)) (hp : pc + 3 = pc') (kk : gG p l e R s m args below meth c X A nL kc ks Q (lv) (ws) (pc') (v :: st)) : gG p l e R s m args below meth c X A nL kc ks Q (lv) (ws) (pc) (st) := by
  intro H locs ls hP hD hS hl; subst hp; exact va_gets C.1 C.2.1 hZ hS C.2.2.2.1 (C.2.2.2.2.1 _ hw) (fun _ h9 => h9) hd (kk H locs ls hP hD hS hl)
theorem g_tlen (C : gC p s m args meth c X A nL cc own Ts) {t N : Nat} {ty : FieldType} {f : Nat → Value} (hT : va_T ty t N f A s s.heap) (hd : decode cc pc = .ok (.arraylength, 1)) (hp : pc + 1 = pc') (kk : gG p l e R s m args below meth c X A nL kc ks Q (lv) (ws) (pc') (.int (nI N) :: st)) : gG p l e R s m args below meth c X A nL kc ks Q (lv) (ws) (pc) (.ref t :: st) := by
  intro H locs ls hP hD hS hl; subst hp; exact va_tlen C.1 C.2.1 hT hS rfl hd (kk H locs ls hP hD hS hl)
theorem g_tb (C : gC p s m args meth c X A nL cc own Ts) {t N : Nat} {f : Nat → Value} {v : Value} (hT : va_T .byte t N f A s s.heap) (k : Nat) (hk : k < N) (hN : N < 2 ^ 31) (hv : f k = v) (hd : decode cc pc = .ok (.baload, 1)) (hp : pc + 1 = pc') (kk : gG p l e R s m args below meth c X A nL kc ks Q (lv) (ws) (pc') (v :: st)) : gG p l e R s m args below meth c X A nL kc ks Q (lv) (ws) (pc) (.int (nI k) :: .ref t :: st) := by
  intro H locs ls hP hD hS hl; subst hp; exact va_tb C.1 C.2.1 hT hS (vp_in_nI hk hN) (by rw [nI_clamp (Nat.lt_trans hk hN)]; exact hv) hd (kk H locs ls hP hD hS hl)
theorem g_i2c (C : gC p s m args meth c X A nL cc own Ts) {x v : Int32} (hd : decode cc pc = .ok (.i2c, 1)) (hv : (x.toUInt32 % 65536).toInt32 = v) (hp : pc + 1 = pc') (kk : gG p l e R s m args below meth c X A nL kc ks Q (lv) (ws) (pc') (.int v :: st)) : gG p l e R s m args below meth c X A nL kc ks Q (lv) (ws) (pc) (.int x :: st) := by
  intro H locs ls hP hD hS hl; subst hp; exact lv_i2c C.1 C.2.1 hd hv (kk H locs ls hP hD hS hl)
theorem g_pop (C : gC p s m args meth c X A nL cc own Ts) {v : Value} (hd : decode cc pc = .ok (.pop, 1)) (hv : v.category = 1) (hp : pc + 1 = pc') (kk : gG p l e R s m args below meth c X A nL kc ks Q (lv) (ws) (pc') (st)) : gG p l e R s m args below meth c X A nL kc ks Q (lv) (ws) (pc) (v :: st) := by
  intro H locs ls hP hD hS hl; subst hp; exact lv_pop C.1 C.2.1 hd hv (kk H locs ls hP hD hS hl)
theorem g_aret (C : gC p s m args meth c X A nL cc own Ts) {a : Nat} {rt : FieldType} {r : Value} (hr : meth.sig.returnType = some rt) (hrt : (∃ n, rt = .object n) ∨ ∃ t, rt = .array t) (hd : decode cc pc = .ok (.areturn, 1)) (hv : Value.ref a = r) (hw : ws = ws2) : gG p l e R s m args below meth c X A nL 0 0 (MQ below (QA X A (some r) ws2) args s 0 0 A) lv ws pc [.ref a] := by
  subst hv; subst hw; intro H locs ls hP hD hS hl
  exact W.aret (v := .ref a) C.1 C.2.1 hr hrt (Or.inr ⟨a, rfl⟩) (fun t ht hW => ⟨rfl, ⟨by rw [ht]; exact hP, hD⟩, hS.F ht⟩) hS.2.2 hd C.2.2.2.2.2.2.2.2
theorem g_callVR (C : gC p s m args meth c X A nL cc own Ts) {wc wc' wr : va_W} {res : Option Value} {y : MethodName} {wy wy' : List Cond} {rm : Room} {bytes : ByteArray} {maxL index : Nat} {ret : Option FieldType} (As : List Value) (n : Nat) (hna : As.length = n) {Cn : String} {b : Nat} (hM : KC l y wy rm (.ref b :: As) X wc res wc') (isC isR perm : List Nat) (hG : GoodIn Ts (wsV own index Cn y wy)) (hrv : ∀ (H : Heap) (locs : List Loc), va_S A s.heap H locs → ∃ cellB : Cell, H[b]? = some cellB ∧ cellB.vm.isStatics = false ∧ s.vm.findClass Cn = some cellB.cls) (hw : wy = Cond.code y bytes maxL ret :: wy') (hrc : rm.cells = 0 ∧ rm.slots = 0) (hdd : y.cls = Cn ∧ y.cls ≠ "java/lang/invoke/MethodHandle" ∧ y.cls ≠ "java/lang/invoke/VarHandle" ∧ (parseMethodDescriptor y.desc).map (fun d => d.parameters.length) = some n) (hR : rm.frames + 1 ≤ R.frames ∧ 8 + (maxL + 11) + rm.locals ≤ R.locals) (hkc : kc ≤ R.cells ∧ ks ≤ R.slots)
    (hC : isC.map (fun i => ws[i]?) = wc.map some) (hRr : isR.map (fun i => ws[i]?) = wr.map some) (hnd : va_nd isC = true ∧ va_nd isR = true ∧ va_nd perm = true ∧ isR.all (fun i => decide (i ∉ isC)) = true) (hpm : perm.map (fun i => (wr ++ wc')[i]?) = ws2.map some) (hst : (st.map fun v => v.category).sum ≤ 8) (hd : decode cc pc = .ok (.invokevirtual index, 3)) {st0 : List Value} (hs0 : st0 = As.reverse ++ .ref b :: st) (hp : pc + 3 = pc') (kk : gG p l e R s m args below meth c X A nL kc ks Q (lv) (ws2) (pc') (res.toList ++ st)) : gG p l e R s m args below meth c X A nL kc ks Q (lv) (ws) (pc) (st0) := by
  subst hp; subst hs0
  refine g_back (a := (.ref b :: As).toArray) C.2.2.2.2.2.2.2.1 C.2.2.2.2.2.2.1 hC hRr hnd.2.1 (fun i hi => by simpa using List.all_eq_true.mp hnd.2.2.2 i hi) hpm hnd.2.2.1 (fun H locs ls hP hD hS hl => ?_) kk
  exact va_runV (As := As) (rest := st) ⟨C.1, C.2.1, C.2.2.1, C.2.2.2.1, C.2.2.2.2.1⟩ (hM H.size) (cwV n C.2.2.2.2.1 hG hw hrc.1 hrc.2 hdd hR) ⟨PK.blind, hrv H locs hS, PK.pre C.2.2.2.2.2.1 C.2.2.2.2.2.2.2.1 C.2.2.2.2.2.2.1 hP hD hS hnd.1 hC⟩ rfl hna hl.1 rfl (lv_room hst) hd hkc
end GS
def jch (i k : Nat) : Int32 := (jsB.getD i []).getD k 0
theorem jch_ok : ∀ i, i < 5 → ∀ k, k < jsL.getD i 0 → ((jch i k &&& 255).toUInt32 % 65536).toInt32 = jch i k ∧ narrow .char (.int (jch i k)) = .int (jch i k) := by decide +kernel
theorem jsL_lt : ∀ i, i < 5 → jsL.getD i 0 < 10 := by decide +kernel
set_option maxHeartbeats 1000000 in
set_option maxRecDepth 20000 in
theorem c_J0_coder_7d493 (l : Launch) (X : gX) (i : Nat) (hi : i < 5) : KC l yJ0_coder_7d493 wsJ0_coder_7d493 ⟨0, 0, 0, 0⟩ [.ref (xK X i)] X [] (some (.int 0)) [] := by
  refine KC.of cJ0_coder_7d493 1 (some .byte) RJ0 rfl (by decide) rfl (lv := [(0, .ref (xK X i))]) rfl (Nat.le_of_ble_eq_true rfl) ?_
  intro p e s m args below meth c A C hr
  have hE := C.2.2.2.2.2.2.2.1
  refine g_gets (pc' := 3) C hE.2.2.2.2.2.1 (List.mem_of_getElem? (i := 1) rfl) dJ0_coder_7d493_0 rfl ?_
  refine g_if_eq (pc' := 6) (tgt := 13) C dJ0_coder_7d493_3 (by decide) rfl (fun h => absurd h (by decide)) (fun _ => ?_)
  refine g_aload_n (pc' := 7) C dJ0_coder_7d493_6 0 rfl rfl rfl ?_
  refine g_getJ (pc' := 10) C (hE.2.2.2.2.1.1 i hi).2.1 (List.mem_of_getElem? (i := 2) rfl) dJ0_coder_7d493_7 rfl ?_
  refine g_goto (tgt := 14) C dJ0_coder_7d493_10 (by decide) ?_
  exact g_zret C hr rfl dJ0_coder_7d493_14 rfl rfl
set_option maxHeartbeats 1000000 in
set_option maxRecDepth 20000 in
theorem c_J0_isLatin1_aae02 (l : Launch) (X : gX) (i : Nat) (hi : i < 5) : KC l yJ0_isLatin1_aae02 wsJ0_isLatin1_aae02 ⟨0, 0, 0, 0⟩ [.ref (xK X i)] X [] (some (.int 1)) [] := by
  refine KC.of cJ0_isLatin1_aae02 1 (some .boolean) RJ0 rfl (by decide) rfl (lv := [(0, .ref (xK X i))]) rfl (Nat.le_of_ble_eq_true rfl) ?_
  intro p e s m args below meth c A C hr
  have hE := C.2.2.2.2.2.2.2.1
  refine g_gets (pc' := 3) C hE.2.2.2.2.2.1 (List.mem_of_getElem? (i := 1) rfl) dJ0_isLatin1_aae02_0 rfl ?_
  refine g_if_eq (pc' := 6) (tgt := 17) C dJ0_isLatin1_aae02_3 (by decide) rfl (fun h => absurd h (by decide)) (fun _ => ?_)
  refine g_aload_n (pc' := 7) C dJ0_isLatin1_aae02_6 0 rfl rfl rfl ?_
  refine g_getJ (pc' := 10) C (hE.2.2.2.2.1.1 i hi).2.1 (List.mem_of_getElem? (i := 2) rfl) dJ0_isLatin1_aae02_7 rfl ?_
  refine g_if_ne (pc' := 13) (tgt := 17) C dJ0_isLatin1_aae02_10 (by decide) rfl (fun h => absurd rfl h) (fun _ => ?_)
  refine g_iconst (pc' := 14) (v := 1) C dJ0_isLatin1_aae02_13 rfl rfl ?_
  refine g_goto (tgt := 18) C dJ0_isLatin1_aae02_14 (by decide) ?_
  exact g_zret C hr rfl dJ0_isLatin1_aae02_18 rfl rfl
set_option maxHeartbeats 1000000 in
set_option maxRecDepth 20000 in
theorem c_J0_length_8abf5 (l : Launch) (X : gX) (i : Nat) (hi : i < 5) : KC l yJ0_length_8abf5 wsJ0_length_8abf5 ⟨1, 0, 0, 20⟩ [.ref (xK X i)] X [] (some (.int (nI (jsL.getD i 0)))) [] := by
  refine KC.of cJ0_length_8abf5 1 (some .int) RJ0 rfl (by decide) rfl (lv := [(0, .ref (xK X i))]) rfl (Nat.le_of_ble_eq_true rfl) ?_
  intro p e s m args below meth c A C hr
  have hE := C.2.2.2.2.2.2.2.1
  have hl9 := jsL_lt i hi
  refine g_aload_n (pc' := 1) C dJ0_length_8abf5_0 0 rfl rfl rfl ?_
  refine g_getJ (pc' := 4) C (hE.2.2.2.2.1.1 i hi).2.2.1 (List.mem_of_getElem? (i := 1) rfl) dJ0_length_8abf5_1 rfl ?_
  refine g_tlen (pc' := 5) C (hE.2.2.2.2.1.1 i hi).2.2.2 dJ0_length_8abf5_4 rfl ?_
  refine g_aload_n (pc' := 6) C dJ0_length_8abf5_5 0 rfl rfl rfl ?_
  refine g_callVR (pc' := 9) (st := [.int (nI (jsL.getD i 0))]) (ws2 := []) C [] 0 rfl (c_J0_coder_7d493 l X i hi) [] [] [] gJ0_length_8abf5_J0_coder_7d493 (fun H locs hS => vk_recv hE.2.2.2.2.1 hi hS) rfl ⟨rfl, rfl⟩ (by decide +kernel) ⟨by decide, by decide⟩ ⟨by decide, by decide⟩ rfl (wr := []) rfl ⟨by decide, by decide, by decide, by decide⟩ rfl (Nat.le_of_ble_eq_true rfl) dJ0_length_8abf5_6 rfl rfl ?_
  refine g_ishr (pc' := 10) (v := nI (jsL.getD i 0)) C dJ0_length_8abf5_9 (sc_shr0 (by omega)) rfl ?_
  exact g_iret C hr dJ0_length_8abf5_10 rfl rfl
set_option maxHeartbeats 1000000 in
set_option maxRecDepth 20000 in
theorem c_J3_checkIndex_8e157 (l : Launch) (X : gX) (k n : Nat) (v : Value) (hv : v.category = 1) (hk : k < n) (hn : n < 2 ^ 31) : KC l yJ3_checkIndex_8e157 wsJ3_checkIndex_8e157 ⟨0, 0, 0, 0⟩ [.int (nI k), .int (nI n), v] X [] (some (.int (nI k))) [] := by
  refine KC.of cJ3_checkIndex_8e157 3 (some .int) RJ3 rfl (by decide) rfl (lv := [(0, .int (nI k)), (1, .int (nI n)), (2, v)]) rfl (by simp [lg_sl, hv, show ∀ x, (Value.int x).category = 1 from fun _ => rfl]) ?_
  intro p e s m args below meth c A C hr
  refine g_iload_n (pc' := 1) C dJ3_checkIndex_8e157_0 0 rfl rfl rfl ?_
  refine g_if_lt (pc' := 4) (tgt := 9) C dJ3_checkIndex_8e157_1 (by decide) rfl (fun h => absurd h (nI_pos (by omega))) (fun _ => ?_)
  refine g_iload_n (pc' := 5) C dJ3_checkIndex_8e157_4 0 rfl rfl rfl ?_
  refine g_iload_n (pc' := 6) C dJ3_checkIndex_8e157_5 1 rfl rfl rfl ?_
  refine g_icmp_ltN (pc' := 9) (tgt := 16) C k n rfl rfl (by omega) hn dJ3_checkIndex_8e157_6 (by decide) rfl (fun _ => ?_) (fun h => absurd h (by omega))
  refine g_iload_n (pc' := 17) C dJ3_checkIndex_8e157_16 0 rfl rfl rfl ?_
  exact g_iret C hr dJ3_checkIndex_8e157_17 rfl rfl
set_option maxHeartbeats 1000000 in
set_option maxRecDepth 20000 in
theorem c_J0_checkIndex_df160 (l : Launch) (X : gX) (k n : Nat) (hk : k < n) (hn : n < 2 ^ 31) : KC l yJ0_checkIndex_df160 wsJ0_checkIndex_df160 ⟨1, 0, 0, 22⟩ [.int (nI k), .int (nI n)] X [] none [] := by
  refine KC.of cJ0_checkIndex_df160 2 none RJ0 rfl (by decide) rfl (lv := [(0, .int (nI k)), (1, .int (nI n))]) rfl (Nat.le_of_ble_eq_true rfl) ?_
  intro p e s m args below meth c A C hr
  have hE := C.2.2.2.2.2.2.2.1
  refine g_iload_n (pc' := 1) C dJ0_checkIndex_df160_0 0 rfl rfl rfl ?_
  refine g_iload_n (pc' := 2) C dJ0_checkIndex_df160_1 1 rfl rfl rfl ?_
  rcases hE.2.2.2.2.2.2 with hz | ⟨t, hz⟩
  · refine g_gets (pc' := 5) C hz (List.mem_of_getElem? (i := 1) rfl) dJ0_checkIndex_df160_2 rfl ?_
    refine g_callS (pc' := 8) (st := []) (ws2 := []) C [.int (nI k), .int (nI n), .null] 3 rfl (c_J3_checkIndex_8e157 l X k n .null rfl hk hn) [] [] [] gJ0_checkIndex_df160_J3_checkIndex_8e157 rfl ⟨rfl, rfl⟩ (by decide +kernel) ⟨by decide, by decide⟩ ⟨by decide, by decide⟩ rfl (wr := []) rfl ⟨by decide, by decide, by decide, by decide⟩ rfl (Nat.le_of_ble_eq_true rfl) dJ0_checkIndex_df160_5 rfl rfl ?_
    refine g_pop (pc' := 9) C dJ0_checkIndex_df160_8 rfl rfl ?_
    exact g_vret C hr dJ0_checkIndex_df160_9 rfl
  · refine g_gets (pc' := 5) C hz (List.mem_of_getElem? (i := 1) rfl) dJ0_checkIndex_df160_2 rfl ?_
    refine g_callS (pc' := 8) (st := []) (ws2 := []) C [.int (nI k), .int (nI n), .ref t] 3 rfl (c_J3_checkIndex_8e157 l X k n (.ref t) rfl hk hn) [] [] [] gJ0_checkIndex_df160_J3_checkIndex_8e157 rfl ⟨rfl, rfl⟩ (by decide +kernel) ⟨by decide, by decide⟩ ⟨by decide, by decide⟩ rfl (wr := []) rfl ⟨by decide, by decide, by decide, by decide⟩ rfl (Nat.le_of_ble_eq_true rfl) dJ0_checkIndex_df160_5 rfl rfl ?_
    refine g_pop (pc' := 9) C dJ0_checkIndex_df160_8 rfl rfl ?_
    exact g_vret C hr dJ0_checkIndex_df160_9 rfl
set_option maxHeartbeats 1000000 in
set_option maxRecDepth 20000 in
theorem c_J1_charAt_3b067 (l : Launch) (X : gX) (i k : Nat) (hi : i < 5) (hk : k < jsL.getD i 0) : KC l yJ1_charAt_3b067 wsJ1_charAt_3b067 ⟨2, 0, 0, 43⟩ [.ref (xW X i), .int (nI k)] X [] (some (.int (jch i k))) [] := by
  refine KC.of cJ1_charAt_3b067 2 (some .char) RJ1 rfl (by decide) rfl (lv := [(0, .ref (xW X i)), (1, .int (nI k))]) rfl (Nat.le_of_ble_eq_true rfl) ?_
  intro p e s m args below meth c A C hr
  have hE := C.2.2.2.2.2.2.2.1
  have hl9 := jsL_lt i hi
  refine g_iload_n (pc' := 1) C dJ1_charAt_3b067_0 1 rfl rfl rfl ?_
  refine g_aload_n (pc' := 2) C dJ1_charAt_3b067_1 0 rfl rfl rfl ?_
  refine g_tlen (pc' := 3) C (hE.2.2.2.2.1.1 i hi).2.2.2 dJ1_charAt_3b067_2 rfl ?_
  refine g_callS (pc' := 6) (st := []) (ws2 := []) C [.int (nI k), .int (nI (jsL.getD i 0))] 2 rfl (c_J0_checkIndex_df160 l X k (jsL.getD i 0) hk (by omega)) [] [] [] gJ1_charAt_3b067_J0_checkIndex_df160 rfl ⟨rfl, rfl⟩ (by decide +kernel) ⟨by decide, by decide⟩ ⟨by decide, by decide⟩ rfl (wr := []) rfl ⟨by decide, by decide, by decide, by decide⟩ rfl (Nat.le_of_ble_eq_true rfl) dJ1_charAt_3b067_3 rfl rfl ?_
  refine g_aload_n (pc' := 7) C dJ1_charAt_3b067_6 0 rfl rfl rfl ?_
  refine g_iload_n (pc' := 8) C dJ1_charAt_3b067_7 1 rfl rfl rfl ?_
  refine g_tb (pc' := 9) (v := .int (jch i k)) C (hE.2.2.2.2.1.1 i hi).2.2.2 k hk (by omega) rfl dJ1_charAt_3b067_8 rfl ?_
  refine g_sipush (pc' := 12) (v := 255) C dJ1_charAt_3b067_9 (by decide) rfl ?_
  refine g_iand (pc' := 13) C dJ1_charAt_3b067_12 rfl ?_
  refine g_i2c (pc' := 14) (v := jch i k) C dJ1_charAt_3b067_13 (jch_ok i hi k hk).1 rfl ?_
  exact g_zret C hr (jch_ok i hi k hk).2 dJ1_charAt_3b067_14 rfl rfl
set_option maxHeartbeats 1000000 in
set_option maxRecDepth 20000 in
theorem c_J0_charAt_5068e (l : Launch) (X : gX) (i k : Nat) (hi : i < 5) (hk : k < jsL.getD i 0) : KC l yJ0_charAt_5068e wsJ0_charAt_5068e ⟨3, 0, 0, 64⟩ [.ref (xK X i), .int (nI k)] X [] (some (.int (jch i k))) [] := by
  refine KC.of cJ0_charAt_5068e 2 (some .char) RJ0 rfl (by decide) rfl (lv := [(0, .ref (xK X i)), (1, .int (nI k))]) rfl (Nat.le_of_ble_eq_true rfl) ?_
  intro p e s m args below meth c A C hr
  have hE := C.2.2.2.2.2.2.2.1
  refine g_aload_n (pc' := 1) C dJ0_charAt_5068e_0 0 rfl rfl rfl ?_
  refine g_callVR (pc' := 4) (st := []) (ws2 := []) C [] 0 rfl (c_J0_isLatin1_aae02 l X i hi) [] [] [] gJ0_charAt_5068e_J0_isLatin1_aae02 (fun H locs hS => vk_recv hE.2.2.2.2.1 hi hS) rfl ⟨rfl, rfl⟩ (by decide +kernel) ⟨by decide, by decide⟩ ⟨by decide, by decide⟩ rfl (wr := []) rfl ⟨by decide, by decide, by decide, by decide⟩ rfl (Nat.le_of_ble_eq_true rfl) dJ0_charAt_5068e_1 rfl rfl ?_
  refine g_if_eq (pc' := 7) (tgt := 16) C dJ0_charAt_5068e_4 (by decide) rfl (fun h => absurd h (by decide)) (fun _ => ?_)
  refine g_aload_n (pc' := 8) C dJ0_charAt_5068e_7 0 rfl rfl rfl ?_
  refine g_getJ (pc' := 11) C (hE.2.2.2.2.1.1 i hi).2.2.1 (List.mem_of_getElem? (i := 1) rfl) dJ0_charAt_5068e_8 rfl ?_
  refine g_iload_n (pc' := 12) C dJ0_charAt_5068e_11 1 rfl rfl rfl ?_
  refine g_callS (pc' := 15) (st := []) (ws2 := []) C [.ref (xW X i), .int (nI k)] 2 rfl (c_J1_charAt_3b067 l X i k hi hk) [] [] [] gJ0_charAt_5068e_J1_charAt_3b067 rfl ⟨rfl, rfl⟩ (by decide +kernel) ⟨by decide, by decide⟩ ⟨by decide, by decide⟩ rfl (wr := []) rfl ⟨by decide, by decide, by decide, by decide⟩ rfl (Nat.le_of_ble_eq_true rfl) dJ0_charAt_5068e_12 rfl rfl ?_
  exact g_zret C hr (jch_ok i hi k hk).2 dJ0_charAt_5068e_15 rfl rfl
set_option maxHeartbeats 1000000 in
set_option maxRecDepth 20000 in
theorem c_X5_wordOfKind (l : Launch) (X : gX) (k : Nat) (hk : 1 ≤ k ∧ k ≤ 5) : KC l yX5_wordOfKind wsX5_wordOfKind ⟨0, 0, 0, 0⟩ [.int (nI k)] X [] (some (.ref (xK X (k - 1)))) [] := by
  have h9 : k = 1 ∨ k = 2 ∨ k = 3 ∨ k = 4 ∨ k = 5 := by omega
  refine KC.of cX5_wordOfKind 1 (some (.object "java/lang/String")) RX5 rfl (by decide) rfl (lv := [(0, .int (nI k))]) rfl (Nat.le_of_ble_eq_true rfl) ?_
  intro p e s m args below meth c A C hr
  refine g_iload_n (pc' := 1) C dX5_wordOfKind_0 0 rfl rfl rfl ?_
  rcases h9 with e9 | e9 | e9 | e9 | e9 <;> subst e9
  · refine g_tableIn (off := 31) (tgt := 32) C dX5_wordOfKind_1 (by decide) (by decide) (by decide) (by decide) ?_
    refine g_ldcS (pc' := 34) C 0 (by decide) rfl rfl dX5_wordOfKind_32 rfl ?_
    exact g_aret C hr (Or.inl ⟨_, rfl⟩) dX5_wordOfKind_34 rfl rfl
  · refine g_tableIn (off := 34) (tgt := 35) C dX5_wordOfKind_1 (by decide) (by decide) (by decide) (by decide) ?_
    refine g_ldcS (pc' := 37) C 1 (by decide) rfl rfl dX5_wordOfKind_35 rfl ?_
    exact g_aret C hr (Or.inl ⟨_, rfl⟩) dX5_wordOfKind_37 rfl rfl
  · refine g_tableIn (off := 37) (tgt := 38) C dX5_wordOfKind_1 (by decide) (by decide) (by decide) (by decide) ?_
    refine g_ldcS (pc' := 40) C 2 (by decide) rfl rfl dX5_wordOfKind_38 rfl ?_
    exact g_aret C hr (Or.inl ⟨_, rfl⟩) dX5_wordOfKind_40 rfl rfl
  · refine g_tableIn (off := 40) (tgt := 41) C dX5_wordOfKind_1 (by decide) (by decide) (by decide) (by decide) ?_
    refine g_ldcS (pc' := 43) C 3 (by decide) rfl rfl dX5_wordOfKind_41 rfl ?_
    exact g_aret C hr (Or.inl ⟨_, rfl⟩) dX5_wordOfKind_43 rfl rfl
  · refine g_tableOut (tgt := 44) C dX5_wordOfKind_1 (by decide) (by decide) ?_
    refine g_ldcS (pc' := 46) C 4 (by decide) rfl rfl dX5_wordOfKind_44 rfl ?_
    exact g_aret C hr (Or.inl ⟨_, rfl⟩) dX5_wordOfKind_46 rfl rfl
