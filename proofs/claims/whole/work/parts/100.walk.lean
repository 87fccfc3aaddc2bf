theorem elN {α β : Type} {A : Option β} {B : α → Option β} {r : β} (h : (none : Option α).elim A B = some r) : A = some r := h
theorem elS {α β : Type} {q : α} {A : Option β} {B : α → Option β} {r : β} (h : (some q).elim A B = some r) : B q = some r := h
theorem topn {p : Program} {l : Launch} {e : Env} {R : Room} {s : State} {m : MethodId} {args : Array Value} {below : List Frame} {meth : Method} {c : Code} {H : Heap} {locs : List Loc} {cells slots : Nat} {Q : State → Prop} {pc : Nat} {ls : Array Slot} {rest : List Value} {x y : Int32} (h : some x = some y) (k : W p l e R s m args below meth c H locs cells slots Q (F0 m pc ls (.int y :: rest))) : W p l e R s m args below meth c H locs cells slots Q (F0 m pc ls (.int x :: rest)) := by cases h; exact k
theorem topnL {p : Program} {l : Launch} {e : Env} {R : Room} {s : State} {m : MethodId} {args : Array Value} {below : List Frame} {meth : Method} {c : Code} {H : Heap} {locs : List Loc} {cells slots : Nat} {Q : State → Prop} {pc : Nat} {ls : Array Slot} {rest : List Value} {x y : Int64} (h : some x = some y) (k : W p l e R s m args below meth c H locs cells slots Q (F0 m pc ls (.long y :: rest))) : W p l e R s m args below meth c H locs cells slots Q (F0 m pc ls (.long x :: rest)) := by cases h; exact k
theorem sw_ne {x : Int32} {k : Nat} (hk : k < 2147483648) (h : ¬ x = nI k) : x.toInt ≠ (k : Int) := fun e => h (Int32.toInt_inj.mp (by rw [e, nI_toInt hk]))
theorem sw_out3 {x : Int32} (h0 : ¬ x = 0) (h1 : ¬ x = 1) (h2 : ¬ x = 2) (h3 : ¬ x = 3) : x.toInt < 0 ∨ 3 < x.toInt := by
  have a0 := sw_ne (k := 0) (by decide) h0
  have a1 := sw_ne (k := 1) (by decide) h1
  have a2 := sw_ne (k := 2) (by decide) h2
  have a3 := sw_ne (k := 3) (by decide) h3
  omega
theorem sw_out8 {x : Int32} (h0 : ¬ x = 0) (h1 : ¬ x = 1) (h2 : ¬ x = 2) (h3 : ¬ x = 3) (h4 : ¬ x = 4) (h5 : ¬ x = 5) (h6 : ¬ x = 6) (h7 : ¬ x = 7) (h8 : ¬ x = 8) : x.toInt < 0 ∨ 8 < x.toInt := by
  have a0 := sw_ne (k := 0) (by decide) h0
  have a1 := sw_ne (k := 1) (by decide) h1
  have a2 := sw_ne (k := 2) (by decide) h2
  have a3 := sw_ne (k := 3) (by decide) h3
  have a4 := sw_ne (k := 4) (by decide) h4
  have a5 := sw_ne (k := 5) (by decide) h5
  have a6 := sw_ne (k := 6) (by decide) h6
  have a7 := sw_ne (k := 7) (by decide) h7
  have a8 := sw_ne (k := 8) (by decide) h8
  omega
theorem sg_lt {k : Nat} (h : k < 38) : sg k < 38 := by unfold sg; split <;> (try split) <;> omega
theorem sg_inj {i j : Nat} (h : sg i = sg j) : i = j := by unfold sg at h; split at h <;> split at h <;> (try split at h) <;> (try split at h) <;> omega
theorem sw_inj {a : Nat → Nat} (ha : xInj a 38) : xInj (sw a) 38 := fun i j hi hj e => sg_inj (ha _ _ (sg_lt hi) (sg_lt hj) e)
theorem sw_set {a : Nat → Nat} : ∀ k, k < 38 → ∃ j, j < 38 ∧ sw a k = a j := fun k hk => ⟨sg k, sg_lt hk, rfl⟩
theorem x_swap {E : xE} {a : Nat → Nat} {mm : Nat} {h : Hp} {H : Heap} (hP : va_P E.1 xcl (xV E a (a 10) (a 6) mm h) H) : va_P E.1 xcl (xV E (sw a) (sw a 6) (sw a 10) mm (swh h)) H := by
  have eF : ∀ b : Nat, 14 ≤ b → (fun j => some (sw a (b + j))) = (fun j => some (a (b + j))) := fun b hb => funext fun j => by
    have h1 : sg (b + j) = b + j := by unfold sg; rw [if_neg (by omega), if_neg (by omega)]
    show some (a (sg (b + j))) = _
    rw [h1]
  have hn : ∀ k, k < 38 → (xV E (sw a) (sw a 6) (sw a 10) mm (swh h))[k]? = (xV E a (a 10) (a 6) mm h)[sg k]? := by
    intro k hk
    match k, hk with
    | 0, _ | 1, _ | 2, _ | 3, _ | 4, _ | 5, _ | 6, _ | 7, _ | 8, _ | 9, _ | 10, _ | 11, _ | 12, _ | 13, _ | 14, _ | 16, _ | 17, _ | 18, _ | 19, _ | 20, _ | 21, _ | 22, _ | 23, _ | 24, _ | 26, _ | 27, _ | 28, _ | 30, _ | 31, _ | 32, _ | 33, _ | 34, _ | 35, _ | 36, _ | 37, _ => rfl
    | 15, _ => exact congrArg (fun f : Nat → Option Nat => (some (a 15, (.inl (E.2.2.1, 8, .inr (.inr (.inr (.inr f)))) : va_E)) : Option (Nat × va_E))) (eF 16 (by decide))
    | 25, _ => exact congrArg (fun f : Nat → Option Nat => (some (a 25, (.inl (E.2.2.1, 2, .inr (.inr (.inr (.inr f)))) : va_E)) : Option (Nat × va_E))) (eF 26 (by decide))
    | 29, _ => exact congrArg (fun f : Nat → Option Nat => (some (a 29, (.inl (E.2.2.2, 8, .inr (.inr (.inr (.inr f)))) : va_E)) : Option (Nat × va_E))) (eF 30 (by decide))
    | n + 38, h => exact absurd h (by omega)
  intro k q hq
  have hk : k < 38 := (List.getElem?_eq_some_iff.mp hq).1
  rw [hn k hk] at hq
  exact hP _ q hq
abbrev rm_x_Int_compare : Room := { frames := 0, cells := 0, slots := 0, locals := 0 }
theorem hd_x_Int_compare : y_Int_compare_7cf53.cls ≠ "java/lang/invoke/MethodHandle" ∧ y_Int_compare_7cf53.cls ≠ "java/lang/invoke/VarHandle" ∧ (parseMethodDescriptor y_Int_compare_7cf53.desc).map (fun d => d.parameters.length) = some 2 := by decide +kernel
set_option maxHeartbeats 4000000 in
set_option maxRecDepth 100000 in
theorem cx_Int_compare (l : Launch) (E : xE) (a : Nat → Nat) (ha : xInj a 38) (u v : Nat) (mm : Nat) (h : Hp) (sz : Nat) (p0 : Int32) (p1 : Int32) {r0 : Int32} (hlit : x_Int_compare p0 p1 h = some r0) : Met l y_Int_compare_7cf53 (Cond.code y_Int_compare_7cf53 b_Int_compare_7cf53 2 (some .int) :: TB) rm_x_Int_compare (fPc [.int p0, .int p1] E.1 (xtys E) sz (xV E a u v mm h)) (fQi (fun _ : Nat => True) r0 E.1 (fun (_ : Nat) => xV E a u v mm h) (xA a 38 sz)) 0 0 (xA a 38 sz) := by
  refine fl_startI (by decide) (Nat.le_of_ble_eq_true rfl) ?_
  intro p e s m args below meth c Q hx hb hml hown hts hsz hP hK hN ret ls hl
  subst hsz
  have hA : ∀ k, k < 38 → (xA a 38 s.heap.size) (a k) := xA_in
  have hS : va_S (xA a 38 s.heap.size) s.heap s.heap [] := va_S.rf
  have hl : lv_has ls 2 [(0, .int p0), (1, .int p1)] := hl
  refine lv_iload_n hx hb d_Int_compare_7cf53_0 rfl (lv_at hl 0 rfl) ?_
  refine lv_iload_n hx hb d_Int_compare_7cf53_1 rfl (lv_at hl 1 rfl) ?_
  refine lv_icmp_ge (tgt := 9) hx hb d_Int_compare_7cf53_2 (by decide) (fun c2 => ?_) (fun c2 => ?_)
  · have hlit := brP _ hlit c2
    refine lv_iload_n hx hb d_Int_compare_7cf53_9 rfl (lv_at hl 0 rfl) ?_
    refine lv_iload_n hx hb d_Int_compare_7cf53_10 rfl (lv_at hl 1 rfl) ?_
    refine lv_icmp_ne (tgt := 18) hx hb d_Int_compare_7cf53_11 (by decide) (fun c11 => ?_) (fun c11 => ?_)
    · have hlit := brN _ hlit c11
      refine lv_iconst (v := (1 : Int32)) hx hb d_Int_compare_7cf53_18 (by decide) ?_
      cases hlit
      exact ret 0 _ _ _ _ trivial hP hS rfl d_Int_compare_7cf53_19
    · have hlit := brP _ hlit c11
      refine lv_iconst (v := (0 : Int32)) hx hb d_Int_compare_7cf53_14 (by decide) ?_
      refine lv_goto (tgt := 19) hx hb d_Int_compare_7cf53_15 (by decide) ?_
      cases hlit
      exact ret 0 _ _ _ _ trivial hP hS rfl d_Int_compare_7cf53_19
  · have hlit := brN _ hlit c2
    refine lv_iconst (v := (-1 : Int32)) hx hb d_Int_compare_7cf53_5 (by decide) ?_
    refine lv_goto (tgt := 19) hx hb d_Int_compare_7cf53_6 (by decide) ?_
    cases hlit
    exact ret 0 _ _ _ _ trivial hP hS rfl d_Int_compare_7cf53_19

abbrev rm_x_Int_bitCount : Room := { frames := 0, cells := 0, slots := 0, locals := 0 }
theorem hd_x_Int_bitCount : y_Int_bitCount_0f7a4.cls ≠ "java/lang/invoke/MethodHandle" ∧ y_Int_bitCount_0f7a4.cls ≠ "java/lang/invoke/VarHandle" ∧ (parseMethodDescriptor y_Int_bitCount_0f7a4.desc).map (fun d => d.parameters.length) = some 1 := by decide +kernel
set_option maxHeartbeats 4000000 in
set_option maxRecDepth 100000 in
theorem cx_Int_bitCount (l : Launch) (E : xE) (a : Nat → Nat) (ha : xInj a 38) (u v : Nat) (mm : Nat) (h : Hp) (sz : Nat) (p0 : Int32) {r0 : Int32} (hlit : x_Int_bitCount p0 h = some r0) : Met l y_Int_bitCount_0f7a4 (Cond.code y_Int_bitCount_0f7a4 b_Int_bitCount_0f7a4 1 (some .int) :: TB) rm_x_Int_bitCount (fPc [.int p0] E.1 (xtys E) sz (xV E a u v mm h)) (fQi (fun _ : Nat => True) r0 E.1 (fun (_ : Nat) => xV E a u v mm h) (xA a 38 sz)) 0 0 (xA a 38 sz) := by
  refine fl_startI (by decide) (Nat.le_of_ble_eq_true rfl) ?_
  intro p e s m args below meth c Q hx hb hml hown hts hsz hP hK hN ret ls hl
  subst hsz
  have hA : ∀ k, k < 38 → (xA a 38 s.heap.size) (a k) := xA_in
  have hS : va_S (xA a 38 s.heap.size) s.heap s.heap [] := va_S.rf
  have hl : lv_has ls 1 [(0, .int p0)] := hl
  refine lv_iload_n hx hb d_Int_bitCount_0f7a4_0 rfl (lv_at hl 0 rfl) ?_
  refine lv_iload_n hx hb d_Int_bitCount_0f7a4_1 rfl (lv_at hl 0 rfl) ?_
  refine lv_iconst (v := (1 : Int32)) hx hb d_Int_bitCount_0f7a4_2 (by decide) ?_
  refine lv_iushr (v := (p0.toUInt32 >>> ((1 : Int32).toUInt32 &&& Int32.toUInt32 31)).toInt32) hx hb d_Int_bitCount_0f7a4_3 rfl ?_
  refine lv_ldcw (v := (1431655765 : Int32)) hx hb hown (hts _ q449) d_Int_bitCount_0f7a4_4 ?_
  refine lv_iand hx hb d_Int_bitCount_0f7a4_7 ?_
  refine lv_isub hx hb d_Int_bitCount_0f7a4_8 ?_
  obtain ⟨y9, ey9, hlit⟩ := bindS hlit
  refine topn ey9 ?_
  refine lv_istore_n (lv' := [(0, .int y9)]) hx hb d_Int_bitCount_0f7a4_9 rfl hl (by decide) rfl (fun ls hl => ?_)
  refine lv_iload_n hx hb d_Int_bitCount_0f7a4_10 rfl (lv_at hl 0 rfl) ?_
  refine lv_ldcw (v := (858993459 : Int32)) hx hb hown (hts _ q450) d_Int_bitCount_0f7a4_11 ?_
  refine lv_iand hx hb d_Int_bitCount_0f7a4_14 ?_
  refine lv_iload_n hx hb d_Int_bitCount_0f7a4_15 rfl (lv_at hl 0 rfl) ?_
  refine lv_iconst (v := (2 : Int32)) hx hb d_Int_bitCount_0f7a4_16 (by decide) ?_
  refine lv_iushr (v := (y9.toUInt32 >>> ((2 : Int32).toUInt32 &&& Int32.toUInt32 31)).toInt32) hx hb d_Int_bitCount_0f7a4_17 rfl ?_
  refine lv_ldcw (v := (858993459 : Int32)) hx hb hown (hts _ q450) d_Int_bitCount_0f7a4_18 ?_
  refine lv_iand hx hb d_Int_bitCount_0f7a4_21 ?_
  refine lv_iadd hx hb d_Int_bitCount_0f7a4_22 ?_
  obtain ⟨y23, ey23, hlit⟩ := bindS hlit
  refine topn ey23 ?_
  refine lv_istore_n (lv' := [(0, .int y23)]) hx hb d_Int_bitCount_0f7a4_23 rfl hl (by decide) rfl (fun ls hl => ?_)
  refine lv_iload_n hx hb d_Int_bitCount_0f7a4_24 rfl (lv_at hl 0 rfl) ?_
  refine lv_iload_n hx hb d_Int_bitCount_0f7a4_25 rfl (lv_at hl 0 rfl) ?_
  refine lv_iconst (v := (4 : Int32)) hx hb d_Int_bitCount_0f7a4_26 (by decide) ?_
  refine lv_iushr (v := (y23.toUInt32 >>> ((4 : Int32).toUInt32 &&& Int32.toUInt32 31)).toInt32) hx hb d_Int_bitCount_0f7a4_27 rfl ?_
  refine lv_iadd hx hb d_Int_bitCount_0f7a4_28 ?_
  refine lv_ldcw (v := (252645135 : Int32)) hx hb hown (hts _ q451) d_Int_bitCount_0f7a4_29 ?_
  refine lv_iand hx hb d_Int_bitCount_0f7a4_32 ?_
  obtain ⟨y33, ey33, hlit⟩ := bindS hlit
  refine topn ey33 ?_
  refine lv_istore_n (lv' := [(0, .int y33)]) hx hb d_Int_bitCount_0f7a4_33 rfl hl (by decide) rfl (fun ls hl => ?_)
  refine lv_iload_n hx hb d_Int_bitCount_0f7a4_34 rfl (lv_at hl 0 rfl) ?_
  refine lv_iload_n hx hb d_Int_bitCount_0f7a4_35 rfl (lv_at hl 0 rfl) ?_
  refine lv_bipush (v := (8 : Int32)) hx hb d_Int_bitCount_0f7a4_36 (by decide) ?_
  refine lv_iushr (v := (y33.toUInt32 >>> ((8 : Int32).toUInt32 &&& Int32.toUInt32 31)).toInt32) hx hb d_Int_bitCount_0f7a4_38 rfl ?_
  refine lv_iadd hx hb d_Int_bitCount_0f7a4_39 ?_
  obtain ⟨y40, ey40, hlit⟩ := bindS hlit
  refine topn ey40 ?_
  refine lv_istore_n (lv' := [(0, .int y40)]) hx hb d_Int_bitCount_0f7a4_40 rfl hl (by decide) rfl (fun ls hl => ?_)
  refine lv_iload_n hx hb d_Int_bitCount_0f7a4_41 rfl (lv_at hl 0 rfl) ?_
  refine lv_iload_n hx hb d_Int_bitCount_0f7a4_42 rfl (lv_at hl 0 rfl) ?_
  refine lv_bipush (v := (16 : Int32)) hx hb d_Int_bitCount_0f7a4_43 (by decide) ?_
  refine lv_iushr (v := (y40.toUInt32 >>> ((16 : Int32).toUInt32 &&& Int32.toUInt32 31)).toInt32) hx hb d_Int_bitCount_0f7a4_45 rfl ?_
  refine lv_iadd hx hb d_Int_bitCount_0f7a4_46 ?_
  obtain ⟨y47, ey47, hlit⟩ := bindS hlit
  refine topn ey47 ?_
  refine lv_istore_n (lv' := [(0, .int y47)]) hx hb d_Int_bitCount_0f7a4_47 rfl hl (by decide) rfl (fun ls hl => ?_)
  refine lv_iload_n hx hb d_Int_bitCount_0f7a4_48 rfl (lv_at hl 0 rfl) ?_
  refine lv_bipush (v := (63 : Int32)) hx hb d_Int_bitCount_0f7a4_49 (by decide) ?_
  refine lv_iand hx hb d_Int_bitCount_0f7a4_51 ?_
  cases hlit
  exact ret 0 _ _ _ _ trivial hP hS rfl d_Int_bitCount_0f7a4_52

abbrev rm_x_Table_clear : Room := { frames := 0, cells := 0, slots := 0, locals := 0 }
theorem hd_x_Table_clear : y_Table_clear.cls ≠ "java/lang/invoke/MethodHandle" ∧ y_Table_clear.cls ≠ "java/lang/invoke/VarHandle" ∧ (parseMethodDescriptor y_Table_clear.desc).map (fun d => d.parameters.length) = some 0 := by decide +kernel
set_option maxHeartbeats 4000000 in
set_option maxRecDepth 100000 in
theorem cx_Table_clear (l : Launch) (E : xE) (a : Nat → Nat) (ha : xInj a 38) (u v : Nat) (mm : Nat) (h : Hp) (sz : Nat) (q : Nat) (hq : isT q = true) {h9 : Hp} (hlit : x_Table_clear q h = some h9) : Met l y_Table_clear (Cond.code y_Table_clear b_Table_clear 1 none :: TB) rm_x_Table_clear (fPc [.ref (a q)] E.1 (xtys E) sz (xV E a u v mm h)) (fQv (fun _ : Nat => True) E.1 (fun (_ : Nat) => xV E a u v mm h9) (xA a 38 sz)) 0 0 (xA a 38 sz) := by
  refine fl_startV (by decide) (Nat.le_of_ble_eq_true rfl) ?_
  intro p e s m args below meth c Q hx hb hml hown hts hsz hP hK hN ret ls hl
  subst hsz
  have hA : ∀ k, k < 38 → (xA a 38 s.heap.size) (a k) := xA_in
  have hS : va_S (xA a 38 s.heap.size) s.heap s.heap [] := va_S.rf
  have hl : lv_has ls 1 [(0, .ref (a q))] := hl
  refine lv_aload_n hx hb d_Table_clear_0 rfl (lv_at hl 0 rfl) ?_
  refine lv_iconst (v := (0 : Int32)) hx hb d_Table_clear_1 (by decide) ?_
  refine xp_Table_0 hx hb hts hown hK hP ha hA hS hq q92 d_Table_clear_2 (fun H locs hP hS => ?_)
  obtain ⟨h_2, eh_2, hlit⟩ := bindS hlit
  rw [Option.some.inj eh_2] at hP
  refine lv_aload_n hx hb d_Table_clear_5 rfl (lv_at hl 0 rfl) ?_
  refine lv_iconst (v := (0 : Int32)) hx hb d_Table_clear_6 (by decide) ?_
  refine xp_Table_1 hx hb hts hown hK hP ha hA hS hq q94 d_Table_clear_7 (fun H locs hP hS => ?_)
  obtain ⟨h_7, eh_7, hlit⟩ := bindS hlit
  rw [Option.some.inj eh_7] at hP
  refine lv_aload_n hx hb d_Table_clear_10 rfl (lv_at hl 0 rfl) ?_
  refine lv_iconst (v := (-1 : Int32)) hx hb d_Table_clear_11 (by decide) ?_
  refine xp_Table_2 hx hb hts hown hK hP ha hA hS hq q96 d_Table_clear_12 (fun H locs hP hS => ?_)
  obtain ⟨h_12, eh_12, hlit⟩ := bindS hlit
  rw [Option.some.inj eh_12] at hP
  refine lv_aload_n hx hb d_Table_clear_15 rfl (lv_at hl 0 rfl) ?_
  refine lv_iconst (v := (0 : Int32)) hx hb d_Table_clear_16 (by decide) ?_
  refine xp_Table_3 hx hb hts hown hK hP ha hA hS hq q98 d_Table_clear_17 (fun H locs hP hS => ?_)
  obtain ⟨h_17, eh_17, hlit⟩ := bindS hlit
  rw [Option.some.inj eh_17] at hP
  cases hlit
  exact ret 0 _ _ _ _ trivial hP hS d_Table_clear_20

abbrev rm_x_Table_copyFrom : Room := { frames := 0, cells := 0, slots := 0, locals := 0 }
theorem hd_x_Table_copyFrom : y_Table_copyFrom.cls ≠ "java/lang/invoke/MethodHandle" ∧ y_Table_copyFrom.cls ≠ "java/lang/invoke/VarHandle" ∧ (parseMethodDescriptor y_Table_copyFrom.desc).map (fun d => d.parameters.length) = some 1 := by decide +kernel
set_option maxHeartbeats 4000000 in
set_option maxRecDepth 100000 in
theorem cx_Table_copyFrom (l : Launch) (E : xE) (a : Nat → Nat) (ha : xInj a 38) (u v : Nat) (mm : Nat) (h : Hp) (sz : Nat) (q : Nat) (hq : isT q = true) (q1_ : Nat) (hq1_ : isT q1_ = true) {h9 : Hp} (hlit : x_Table_copyFrom q q1_ h = some h9) : Met l y_Table_copyFrom (Cond.code y_Table_copyFrom b_Table_copyFrom 2 none :: TB) rm_x_Table_copyFrom (fPc [.ref (a q), .ref (a q1_)] E.1 (xtys E) sz (xV E a u v mm h)) (fQv (fun _ : Nat => True) E.1 (fun (_ : Nat) => xV E a u v mm h9) (xA a 38 sz)) 0 0 (xA a 38 sz) := by
  refine fl_startV (by decide) (Nat.le_of_ble_eq_true rfl) ?_
  intro p e s m args below meth c Q hx hb hml hown hts hsz hP hK hN ret ls hl
  subst hsz
  have hA : ∀ k, k < 38 → (xA a 38 s.heap.size) (a k) := xA_in
  have hS : va_S (xA a 38 s.heap.size) s.heap s.heap [] := va_S.rf
  have hl : lv_has ls 2 [(0, .ref (a q)), (1, .ref (a q1_))] := hl
  refine lv_aload_n hx hb d_Table_copyFrom_0 rfl (lv_at hl 0 rfl) ?_
  refine lv_aload_n hx hb d_Table_copyFrom_1 rfl (lv_at hl 1 rfl) ?_
  refine xg_Table_0 hx hb hts hown hK hP hq1_ q92 d_Table_copyFrom_2 ?_
  refine xp_Table_0 hx hb hts hown hK hP ha hA hS hq q92 d_Table_copyFrom_5 (fun H locs hP hS => ?_)
  obtain ⟨h_5, eh_5, hlit⟩ := bindS hlit
  rw [Option.some.inj eh_5] at hP
  refine lv_aload_n hx hb d_Table_copyFrom_8 rfl (lv_at hl 0 rfl) ?_
  refine lv_aload_n hx hb d_Table_copyFrom_9 rfl (lv_at hl 1 rfl) ?_
  refine xg_Table_1 hx hb hts hown hK hP hq1_ q94 d_Table_copyFrom_10 ?_
  refine xp_Table_1 hx hb hts hown hK hP ha hA hS hq q94 d_Table_copyFrom_13 (fun H locs hP hS => ?_)
  obtain ⟨h_13, eh_13, hlit⟩ := bindS hlit
  rw [Option.some.inj eh_13] at hP
  refine lv_aload_n hx hb d_Table_copyFrom_16 rfl (lv_at hl 0 rfl) ?_
  refine lv_aload_n hx hb d_Table_copyFrom_17 rfl (lv_at hl 1 rfl) ?_
  refine xg_Table_2 hx hb hts hown hK hP hq1_ q96 d_Table_copyFrom_18 ?_
  refine xp_Table_2 hx hb hts hown hK hP ha hA hS hq q96 d_Table_copyFrom_21 (fun H locs hP hS => ?_)
  obtain ⟨h_21, eh_21, hlit⟩ := bindS hlit
  rw [Option.some.inj eh_21] at hP
  refine lv_aload_n hx hb d_Table_copyFrom_24 rfl (lv_at hl 0 rfl) ?_
  refine lv_aload_n hx hb d_Table_copyFrom_25 rfl (lv_at hl 1 rfl) ?_
  refine xg_Table_3 hx hb hts hown hK hP hq1_ q98 d_Table_copyFrom_26 ?_
  refine xp_Table_3 hx hb hts hown hK hP ha hA hS hq q98 d_Table_copyFrom_29 (fun H locs hP hS => ?_)
  obtain ⟨h_29, eh_29, hlit⟩ := bindS hlit
  rw [Option.some.inj eh_29] at hP
  cases hlit
  exact ret 0 _ _ _ _ trivial hP hS d_Table_copyFrom_32

abbrev rm_x_Table_isOrdered : Room := { frames := 0, cells := 0, slots := 0, locals := 0 }
theorem hd_x_Table_isOrdered : y_Table_isOrdered.cls ≠ "java/lang/invoke/MethodHandle" ∧ y_Table_isOrdered.cls ≠ "java/lang/invoke/VarHandle" ∧ (parseMethodDescriptor y_Table_isOrdered.desc).map (fun d => d.parameters.length) = some 0 := by decide +kernel
set_option maxHeartbeats 4000000 in
set_option maxRecDepth 100000 in
theorem cx_Table_isOrdered (l : Launch) (E : xE) (a : Nat → Nat) (ha : xInj a 38) (u v : Nat) (mm : Nat) (h : Hp) (sz : Nat) (q : Nat) (hq : isT q = true) {r0 : Int32} (hlit : x_Table_isOrdered q h = some r0) : Met l y_Table_isOrdered (Cond.code y_Table_isOrdered b_Table_isOrdered 1 (some .boolean) :: TB) rm_x_Table_isOrdered (fPc [.ref (a q)] E.1 (xtys E) sz (xV E a u v mm h)) (fQi (fun _ : Nat => True) r0 E.1 (fun (_ : Nat) => xV E a u v mm h) (xA a 38 sz)) 0 0 (xA a 38 sz) := by
  refine fl_startI (by decide) (Nat.le_of_ble_eq_true rfl) ?_
  intro p e s m args below meth c Q hx hb hml hown hts hsz hP hK hN ret ls hl
  subst hsz
  have hA : ∀ k, k < 38 → (xA a 38 s.heap.size) (a k) := xA_in
  have hS : va_S (xA a 38 s.heap.size) s.heap s.heap [] := va_S.rf
  have hl : lv_has ls 1 [(0, .ref (a q))] := hl
  refine lv_aload_n hx hb d_Table_isOrdered_0 rfl (lv_at hl 0 rfl) ?_
  refine xg_Table_2 hx hb hts hown hK hP hq q96 d_Table_isOrdered_1 ?_
  refine lv_iconst (v := (-1 : Int32)) hx hb d_Table_isOrdered_4 (by decide) ?_
  refine lv_icmp_eq (tgt := 12) hx hb d_Table_isOrdered_5 (by decide) (fun c5 => ?_) (fun c5 => ?_)
  · have hlit := brP _ hlit c5
    refine lv_iconst (v := (0 : Int32)) hx hb d_Table_isOrdered_12 (by decide) ?_
    cases hlit
    exact ret 0 _ _ _ _ trivial hP hS rfl d_Table_isOrdered_13
  · have hlit := brN _ hlit c5
    refine lv_iconst (v := (1 : Int32)) hx hb d_Table_isOrdered_8 (by decide) ?_
    refine lv_goto (tgt := 13) hx hb d_Table_isOrdered_9 (by decide) ?_
    cases hlit
    exact ret 0 _ _ _ _ trivial hP hS rfl d_Table_isOrdered_13

abbrev rm_x_Table_isVetoed : Room := { frames := 0, cells := 0, slots := 0, locals := 0 }
theorem hd_x_Table_isVetoed : y_Table_isVetoed.cls ≠ "java/lang/invoke/MethodHandle" ∧ y_Table_isVetoed.cls ≠ "java/lang/invoke/VarHandle" ∧ (parseMethodDescriptor y_Table_isVetoed.desc).map (fun d => d.parameters.length) = some 1 := by decide +kernel
set_option maxHeartbeats 4000000 in
set_option maxRecDepth 100000 in
theorem cx_Table_isVetoed (l : Launch) (E : xE) (a : Nat → Nat) (ha : xInj a 38) (u v : Nat) (mm : Nat) (h : Hp) (sz : Nat) (q : Nat) (hq : isT q = true) (p1 : Int32) {r0 : Int32} (hlit : x_Table_isVetoed q p1 h = some r0) : Met l y_Table_isVetoed (Cond.code y_Table_isVetoed b_Table_isVetoed 2 (some .boolean) :: TB) rm_x_Table_isVetoed (fPc [.ref (a q), .int p1] E.1 (xtys E) sz (xV E a u v mm h)) (fQi (fun _ : Nat => True) r0 E.1 (fun (_ : Nat) => xV E a u v mm h) (xA a 38 sz)) 0 0 (xA a 38 sz) := by
  refine fl_startI (by decide) (Nat.le_of_ble_eq_true rfl) ?_
  intro p e s m args below meth c Q hx hb hml hown hts hsz hP hK hN ret ls hl
  subst hsz
  have hA : ∀ k, k < 38 → (xA a 38 s.heap.size) (a k) := xA_in
  have hS : va_S (xA a 38 s.heap.size) s.heap s.heap [] := va_S.rf
  have hl : lv_has ls 2 [(0, .ref (a q)), (1, .int p1)] := hl
  refine lv_aload_n hx hb d_Table_isVetoed_0 rfl (lv_at hl 0 rfl) ?_
  refine xg_Table_1 hx hb hts hown hK hP hq q94 d_Table_isVetoed_1 ?_
  refine lv_iload_n hx hb d_Table_isVetoed_4 rfl (lv_at hl 1 rfl) ?_
  refine lv_ishr hx hb d_Table_isVetoed_5 ?_
  refine lv_iconst (v := (1 : Int32)) hx hb d_Table_isVetoed_6 (by decide) ?_
  refine lv_iand hx hb d_Table_isVetoed_7 ?_
  refine lv_iconst (v := (1 : Int32)) hx hb d_Table_isVetoed_8 (by decide) ?_
  refine lv_icmp_ne (tgt := 16) hx hb d_Table_isVetoed_9 (by decide) (fun c9 => ?_) (fun c9 => ?_)
  · have hlit := brN _ hlit c9
    refine lv_iconst (v := (0 : Int32)) hx hb d_Table_isVetoed_16 (by decide) ?_
    cases hlit
    exact ret 0 _ _ _ _ trivial hP hS rfl d_Table_isVetoed_17
  · have hlit := brP _ hlit c9
    refine lv_iconst (v := (1 : Int32)) hx hb d_Table_isVetoed_12 (by decide) ?_
    refine lv_goto (tgt := 17) hx hb d_Table_isVetoed_13 (by decide) ?_
    cases hlit
    exact ret 0 _ _ _ _ trivial hP hS rfl d_Table_isVetoed_17

abbrev rm_x_Table_spentBy : Room := { frames := 0, cells := 0, slots := 0, locals := 0 }
theorem hd_x_Table_spentBy : y_Table_spentBy.cls ≠ "java/lang/invoke/MethodHandle" ∧ y_Table_spentBy.cls ≠ "java/lang/invoke/VarHandle" ∧ (parseMethodDescriptor y_Table_spentBy.desc).map (fun d => d.parameters.length) = some 1 := by decide +kernel
set_option maxHeartbeats 4000000 in
set_option maxRecDepth 100000 in
theorem cx_Table_spentBy (l : Launch) (E : xE) (a : Nat → Nat) (ha : xInj a 38) (u v : Nat) (mm : Nat) (h : Hp) (sz : Nat) (q : Nat) (hq : isT q = true) (p1 : Int32) {r0 : Int32} (hlit : x_Table_spentBy q p1 h = some r0) : Met l y_Table_spentBy (Cond.code y_Table_spentBy b_Table_spentBy 2 (some .int) :: TB) rm_x_Table_spentBy (fPc [.ref (a q), .int p1] E.1 (xtys E) sz (xV E a u v mm h)) (fQi (fun _ : Nat => True) r0 E.1 (fun (_ : Nat) => xV E a u v mm h) (xA a 38 sz)) 0 0 (xA a 38 sz) := by
  refine fl_startI (by decide) (Nat.le_of_ble_eq_true rfl) ?_
  intro p e s m args below meth c Q hx hb hml hown hts hsz hP hK hN ret ls hl
  subst hsz
  have hA : ∀ k, k < 38 → (xA a 38 s.heap.size) (a k) := xA_in
  have hS : va_S (xA a 38 s.heap.size) s.heap s.heap [] := va_S.rf
  have hl : lv_has ls 2 [(0, .ref (a q)), (1, .int p1)] := hl
  refine lv_aload_n hx hb d_Table_spentBy_0 rfl (lv_at hl 0 rfl) ?_
  refine xg_Table_3 hx hb hts hown hK hP hq q98 d_Table_spentBy_1 ?_
  refine lv_iconst (v := (2 : Int32)) hx hb d_Table_spentBy_4 (by decide) ?_
  refine lv_iload_n hx hb d_Table_spentBy_5 rfl (lv_at hl 1 rfl) ?_
  refine lv_imul hx hb d_Table_spentBy_6 ?_
  refine lv_ishr hx hb d_Table_spentBy_7 ?_
  refine lv_iconst (v := (3 : Int32)) hx hb d_Table_spentBy_8 (by decide) ?_
  refine lv_iand hx hb d_Table_spentBy_9 ?_
  cases hlit
  exact ret 0 _ _ _ _ trivial hP hS rfl d_Table_spentBy_10

abbrev rm_x_Table_strike : Room := { frames := 0, cells := 0, slots := 0, locals := 0 }
theorem hd_x_Table_strike : y_Table_strike.cls ≠ "java/lang/invoke/MethodHandle" ∧ y_Table_strike.cls ≠ "java/lang/invoke/VarHandle" ∧ (parseMethodDescriptor y_Table_strike.desc).map (fun d => d.parameters.length) = some 2 := by decide +kernel
set_option maxHeartbeats 4000000 in
set_option maxRecDepth 100000 in
theorem cx_Table_strike (l : Launch) (E : xE) (a : Nat → Nat) (ha : xInj a 38) (u v : Nat) (mm : Nat) (h : Hp) (sz : Nat) (q : Nat) (hq : isT q = true) (p1 : Int32) (p2 : Int32) {h9 : Hp} (hlit : x_Table_strike q p1 p2 h = some h9) : Met l y_Table_strike (Cond.code y_Table_strike b_Table_strike 3 none :: TB) rm_x_Table_strike (fPc [.ref (a q), .int p1, .int p2] E.1 (xtys E) sz (xV E a u v mm h)) (fQv (fun _ : Nat => True) E.1 (fun (_ : Nat) => xV E a u v mm h9) (xA a 38 sz)) 0 0 (xA a 38 sz) := by
  refine fl_startV (by decide) (Nat.le_of_ble_eq_true rfl) ?_
  intro p e s m args below meth c Q hx hb hml hown hts hsz hP hK hN ret ls hl
  subst hsz
  have hA : ∀ k, k < 38 → (xA a 38 s.heap.size) (a k) := xA_in
  have hS : va_S (xA a 38 s.heap.size) s.heap s.heap [] := va_S.rf
  have hl : lv_has ls 3 [(0, .ref (a q)), (1, .int p1), (2, .int p2)] := hl
  refine lv_aload_n hx hb d_Table_strike_0 rfl (lv_at hl 0 rfl) ?_
  refine lv_dup hx hb d_Table_strike_1 rfl ?_
  refine xg_Table_1 hx hb hts hown hK hP hq q94 d_Table_strike_2 ?_
  refine lv_iconst (v := (1 : Int32)) hx hb d_Table_strike_5 (by decide) ?_
  refine lv_iload_n hx hb d_Table_strike_6 rfl (lv_at hl 2 rfl) ?_
  refine lv_ishl hx hb d_Table_strike_7 ?_
  refine lv_ior hx hb d_Table_strike_8 ?_
  refine xp_Table_1 hx hb hts hown hK hP ha hA hS hq q94 d_Table_strike_9 (fun H locs hP hS => ?_)
  obtain ⟨h_9, eh_9, hlit⟩ := bindS hlit
  rw [Option.some.inj eh_9] at hP
  refine lv_aload_n hx hb d_Table_strike_12 rfl (lv_at hl 0 rfl) ?_
  refine lv_dup hx hb d_Table_strike_13 rfl ?_
  refine xg_Table_3 hx hb hts hown hK hP hq q98 d_Table_strike_14 ?_
  refine lv_iconst (v := (1 : Int32)) hx hb d_Table_strike_17 (by decide) ?_
  refine lv_iconst (v := (2 : Int32)) hx hb d_Table_strike_18 (by decide) ?_
  refine lv_iload_n hx hb d_Table_strike_19 rfl (lv_at hl 1 rfl) ?_
  refine lv_imul hx hb d_Table_strike_20 ?_
  refine lv_ishl hx hb d_Table_strike_21 ?_
  refine lv_iadd hx hb d_Table_strike_22 ?_
  refine xp_Table_3 hx hb hts hown hK hP ha hA hS hq q98 d_Table_strike_23 (fun H locs hP hS => ?_)
  obtain ⟨h_23, eh_23, hlit⟩ := bindS hlit
  rw [Option.some.inj eh_23] at hP
  cases hlit
  exact ret 0 _ _ _ _ trivial hP hS d_Table_strike_26

abbrev rm_x_Nm_put : Room := { frames := 0, cells := 0, slots := 0, locals := 0 }
theorem hd_x_Nm_put : y_Nm_put.cls ≠ "java/lang/invoke/MethodHandle" ∧ y_Nm_put.cls ≠ "java/lang/invoke/VarHandle" ∧ (parseMethodDescriptor y_Nm_put.desc).map (fun d => d.parameters.length) = some 3 := by decide +kernel
set_option maxHeartbeats 4000000 in
set_option maxRecDepth 100000 in
theorem cx_Nm_put (l : Launch) (E : xE) (a : Nat → Nat) (ha : xInj a 38) (u v : Nat) (mm : Nat) (h : Hp) (sz : Nat) (q0_ : Nat) (hq0_ : xIA q0_ = true) (p1 : Int32) (p2 : Int32) {h9 : Hp} (hlit : x_Nm_put q0_ p1 p2 h = some h9) : Met l y_Nm_put (Cond.code y_Nm_put b_Nm_put 3 none :: TB) rm_x_Nm_put (fPc [.ref (a q0_), .int p1, .int p2] E.1 (xtys E) sz (xV E a u v mm h)) (fQv (fun _ : Nat => True) E.1 (fun (_ : Nat) => xV E a u v mm h9) (xA a 38 sz)) 0 0 (xA a 38 sz) := by
  refine fl_startV (by decide) (Nat.le_of_ble_eq_true rfl) ?_
  intro p e s m args below meth c Q hx hb hml hown hts hsz hP hK hN ret ls hl
  subst hsz
  have hA : ∀ k, k < 38 → (xA a 38 s.heap.size) (a k) := xA_in
  have hS : va_S (xA a 38 s.heap.size) s.heap s.heap [] := va_S.rf
  have hl : lv_has ls 3 [(0, .ref (a q0_)), (1, .int p1), (2, .int p2)] := hl
  refine lv_iload_n hx hb d_Nm_put_0 rfl (lv_at hl 1 rfl) ?_
  refine lv_if_lt (tgt := 14) hx hb d_Nm_put_1 (by decide) (fun c1 => ?_) (fun c1 => ?_)
  · have hlit := brP _ hlit c1
    cases hlit
    exact ret 0 _ _ _ _ trivial hP hS d_Nm_put_14
  · have hlit := brN _ hlit c1
    refine lv_iload_n hx hb d_Nm_put_4 rfl (lv_at hl 1 rfl) ?_
    refine lv_aload_n hx hb d_Nm_put_5 rfl (lv_at hl 0 rfl) ?_
    refine xalen hx hb hK hP hq0_ (y := (Int32.ofNat (xlen q0_))) rfl d_Nm_put_6 ?_
    refine lv_icmp_ge (tgt := 14) hx hb d_Nm_put_7 (by decide) (fun c7 => ?_) (fun c7 => ?_)
    · have hlit := brP _ hlit c7
      cases hlit
      exact ret 0 _ _ _ _ trivial hP hS d_Nm_put_14
    · have hlit := brN _ hlit c7
      refine lv_aload_n hx hb d_Nm_put_10 rfl (lv_at hl 0 rfl) ?_
      refine lv_iload_n hx hb d_Nm_put_11 rfl (lv_at hl 1 rfl) ?_
      refine lv_iload_n hx hb d_Nm_put_12 rfl (lv_at hl 2 rfl) ?_
      obtain ⟨g13, hlit⟩ := gdP _ hlit
      refine xast hx hb hK hP ha hA hS hq0_ (j := (p1).toNatClampNeg) rfl (vpin_c g13) d_Nm_put_13 (fun H locs hP hS => ?_)
      obtain ⟨h_13, eh_13, hlit⟩ := bindS hlit
      rw [Option.some.inj eh_13] at hP
      cases hlit
      exact ret 0 _ _ _ _ trivial hP hS d_Nm_put_14

abbrev rm_x_Menu_clear : Room := { frames := 1, cells := 0, slots := 0, locals := 22 }
theorem hd_x_Menu_clear : y_Menu_clear.cls ≠ "java/lang/invoke/MethodHandle" ∧ y_Menu_clear.cls ≠ "java/lang/invoke/VarHandle" ∧ (parseMethodDescriptor y_Menu_clear.desc).map (fun d => d.parameters.length) = some 0 := by decide +kernel
set_option maxHeartbeats 4000000 in
set_option maxRecDepth 100000 in
theorem cx_Menu_clear (l : Launch) (E : xE) (a : Nat → Nat) (ha : xInj a 38) (u v : Nat) (mm : Nat) (h : Hp) (sz : Nat) (q : Nat) (hq : isU q = true) {h9 : Hp} (hlit : x_Menu_clear q h = some h9) : Met l y_Menu_clear (Cond.code y_Menu_clear b_Menu_clear 2 none :: TB) rm_x_Menu_clear (fPc [.ref (a q)] E.1 (xtys E) sz (xV E a u v mm h)) (fQv (fun _ : Nat => True) E.1 (fun (_ : Nat) => xV E a u v mm h9) (xA a 38 sz)) 0 0 (xA a 38 sz) := by
  refine fl_startV (by decide) (Nat.le_of_ble_eq_true rfl) ?_
  intro p e s m args below meth c Q hx hb hml hown hts hsz hP hK hN ret ls hl
  subst hsz
  have hA : ∀ k, k < 38 → (xA a 38 s.heap.size) (a k) := xA_in
  have hS : va_S (xA a 38 s.heap.size) s.heap s.heap [] := va_S.rf
  have hl : lv_has ls 2 [(0, .ref (a q))] := hl
  have b29 : ∀ (n : Nat), ∀ (x1 : Int32) (h : Hp) (H : Heap) (locs : List Loc) (ls : Array Slot), x_Menu_clear_b29 q n x1 h = some h9 → va_P E.1 xcl (xV E a u v mm h) H → va_S (xA a 38 s.heap.size) s.heap H locs → lv_has ls 2 [(0, .ref (a q)), (1, .int x1)] → W p l e rm_x_Menu_clear s m args below meth c H locs 0 0 Q (F0 m 29 ls []) := by
    intro n
    induction n with
    | zero => intro x1 h H locs ls hlit hP hS hl; exact nnF hlit
    | succ n ih =>
      intro x1 h H locs ls hlit hP hS hl
      refine lv_iload_n hx hb d_Menu_clear_29 rfl (lv_at hl 1 rfl) ?_
      refine lv_bipush (v := (6 : Int32)) hx hb d_Menu_clear_30 (by decide) ?_
      refine lv_icmp_ge (tgt := 51) hx hb d_Menu_clear_32 (by decide) (fun c32 => ?_) (fun c32 => ?_)
      · have hlit := brP _ hlit c32
        cases hlit
        exact ret 0 _ _ _ _ trivial hP hS d_Menu_clear_51
      · have hlit := brN _ hlit c32
        refine lv_aload_n hx hb d_Menu_clear_35 rfl (lv_at hl 0 rfl) ?_
        refine xg_Menu_7 hx hb hts hown hK hP hq q166 d_Menu_clear_36 ?_
        refine lv_iload_n hx hb d_Menu_clear_39 rfl (lv_at hl 1 rfl) ?_
        refine lv_bipush (v := (20 : Int32)) hx hb d_Menu_clear_40 (by decide) ?_
        obtain ⟨h_42, hl42, hlit⟩ := bindS hlit
        refine fCallV (fRunSN (As := [.ref (a (q + 3)), .int x1, .int (20 : Int32)]) (rest := []) hx hb hml hown hts hK hN hP (cx_Nm_put l E a ha u v mm h _ (q + 3) (iaU3 hq) x1 (20 : Int32) (h9 := h_42) hl42) (nw8 hN) q238 q49 q239 hd_x_Nm_put rfl rfl ⟨Nat.le_of_ble_eq_true rfl, Nat.le_of_ble_eq_true rfl⟩ rfl hl.1 rfl (Nat.le_of_ble_eq_true rfl) d_Menu_clear_42 ⟨Nat.zero_le _, Nat.zero_le _⟩) hS (xA_up hS.1) (fun _ H locs hu42 hP hS _ _ => ?_)
        have hP : va_P E.1 xcl (xV E a u v mm h_42) H := hP
        refine lv_iinc (v := (x1 + (1 : Int32))) (lv' := [(1, .int (x1 + (1 : Int32))), (0, .ref (a q))]) hx hb d_Menu_clear_45 hl (k := 1) rfl rfl (by decide) rfl (fun ls hl => ?_)
        refine lv_goto (tgt := 29) hx hb d_Menu_clear_48 (by decide) ?_
        exact ih (x1 + (1 : Int32)) h_42 _ _ _ hlit hP hS (lv_sub hl [1, 0] rfl)
  refine lv_aload_n hx hb d_Menu_clear_0 rfl (lv_at hl 0 rfl) ?_
  refine lv_iconst (v := (4 : Int32)) hx hb d_Menu_clear_1 (by decide) ?_
  refine xp_Menu_0 hx hb hts hown hK hP ha hA hS hq q146 d_Menu_clear_2 (fun H locs hP hS => ?_)
  obtain ⟨h_2, eh_2, hlit⟩ := bindS hlit
  rw [Option.some.inj eh_2] at hP
  refine lv_aload_n hx hb d_Menu_clear_5 rfl (lv_at hl 0 rfl) ?_
  refine lv_iconst (v := (0 : Int32)) hx hb d_Menu_clear_6 (by decide) ?_
  refine xp_Menu_1 hx hb hts hown hK hP ha hA hS hq q150 d_Menu_clear_7 (fun H locs hP hS => ?_)
  obtain ⟨h_7, eh_7, hlit⟩ := bindS hlit
  rw [Option.some.inj eh_7] at hP
  refine lv_aload_n hx hb d_Menu_clear_10 rfl (lv_at hl 0 rfl) ?_
  refine lv_iconst (v := (1 : Int32)) hx hb d_Menu_clear_11 (by decide) ?_
  refine xp_Menu_2 hx hb hts hown hK hP ha hA hS hq q154 d_Menu_clear_12 (fun H locs hP hS => ?_)
  obtain ⟨h_12, eh_12, hlit⟩ := bindS hlit
  rw [Option.some.inj eh_12] at hP
  refine lv_aload_n hx hb d_Menu_clear_15 rfl (lv_at hl 0 rfl) ?_
  refine lv_bipush (v := (90 : Int32)) hx hb d_Menu_clear_16 (by decide) ?_
  refine xp_Menu_3 hx hb hts hown hK hP ha hA hS hq q157 d_Menu_clear_18 (fun H locs hP hS => ?_)
  obtain ⟨h_18, eh_18, hlit⟩ := bindS hlit
  rw [Option.some.inj eh_18] at hP
  refine lv_aload_n hx hb d_Menu_clear_21 rfl (lv_at hl 0 rfl) ?_
  refine lv_bipush (v := (20 : Int32)) hx hb d_Menu_clear_22 (by decide) ?_
  refine xp_Menu_4 hx hb hts hown hK hP ha hA hS hq q160 d_Menu_clear_24 (fun H locs hP hS => ?_)
  obtain ⟨h_24, eh_24, hlit⟩ := bindS hlit
  rw [Option.some.inj eh_24] at hP
  refine lv_iconst (v := (0 : Int32)) hx hb d_Menu_clear_27 (by decide) ?_
  refine lv_istore_n (lv' := [(1, .int (0 : Int32)), (0, .ref (a q))]) hx hb d_Menu_clear_28 rfl hl (by decide) rfl (fun ls hl => ?_)
  exact b29 FU (0 : Int32) h_24 _ _ _ hlit hP hS (lv_sub hl [1, 0] rfl)

abbrev rm_x_Menu_hasGuest : Room := { frames := 0, cells := 0, slots := 0, locals := 0 }
theorem hd_x_Menu_hasGuest : y_Menu_hasGuest.cls ≠ "java/lang/invoke/MethodHandle" ∧ y_Menu_hasGuest.cls ≠ "java/lang/invoke/VarHandle" ∧ (parseMethodDescriptor y_Menu_hasGuest.desc).map (fun d => d.parameters.length) = some 1 := by decide +kernel
set_option maxHeartbeats 4000000 in
set_option maxRecDepth 100000 in
theorem cx_Menu_hasGuest (l : Launch) (E : xE) (a : Nat → Nat) (ha : xInj a 38) (u v : Nat) (mm : Nat) (h : Hp) (sz : Nat) (q : Nat) (hq : isU q = true) (p1 : Int32) {r0 : Int32} (hlit : x_Menu_hasGuest q p1 h = some r0) : Met l y_Menu_hasGuest (Cond.code y_Menu_hasGuest b_Menu_hasGuest 2 (some .boolean) :: TB) rm_x_Menu_hasGuest (fPc [.ref (a q), .int p1] E.1 (xtys E) sz (xV E a u v mm h)) (fQi (fun _ : Nat => True) r0 E.1 (fun (_ : Nat) => xV E a u v mm h) (xA a 38 sz)) 0 0 (xA a 38 sz) := by
  refine fl_startI (by decide) (Nat.le_of_ble_eq_true rfl) ?_
  intro p e s m args below meth c Q hx hb hml hown hts hsz hP hK hN ret ls hl
  subst hsz
  have hA : ∀ k, k < 38 → (xA a 38 s.heap.size) (a k) := xA_in
  have hS : va_S (xA a 38 s.heap.size) s.heap s.heap [] := va_S.rf
  have hl : lv_has ls 2 [(0, .ref (a q)), (1, .int p1)] := hl
  refine lv_iload_n hx hb d_Menu_hasGuest_0 rfl (lv_at hl 1 rfl) ?_
  refine lv_if_lt (tgt := 16) hx hb d_Menu_hasGuest_1 (by decide) (fun c1 => ?_) (fun c1 => ?_)
  · have hlit := brP _ hlit c1
    refine lv_iconst (v := (0 : Int32)) hx hb d_Menu_hasGuest_16 (by decide) ?_
    cases hlit
    exact ret 0 _ _ _ _ trivial hP hS rfl d_Menu_hasGuest_17
  · have hlit := brN _ hlit c1
    refine lv_iload_n hx hb d_Menu_hasGuest_4 rfl (lv_at hl 1 rfl) ?_
    refine lv_aload_n hx hb d_Menu_hasGuest_5 rfl (lv_at hl 0 rfl) ?_
    refine xg_Menu_1 hx hb hts hown hK hP hq q150 d_Menu_hasGuest_6 ?_
    refine lv_icmp_ge (tgt := 16) hx hb d_Menu_hasGuest_9 (by decide) (fun c9 => ?_) (fun c9 => ?_)
    · have hlit := brP _ hlit c9
      refine lv_iconst (v := (0 : Int32)) hx hb d_Menu_hasGuest_16 (by decide) ?_
      cases hlit
      exact ret 0 _ _ _ _ trivial hP hS rfl d_Menu_hasGuest_17
    · have hlit := brN _ hlit c9
      refine lv_iconst (v := (1 : Int32)) hx hb d_Menu_hasGuest_12 (by decide) ?_
      refine lv_goto (tgt := 17) hx hb d_Menu_hasGuest_13 (by decide) ?_
      cases hlit
      exact ret 0 _ _ _ _ trivial hP hS rfl d_Menu_hasGuest_17

abbrev rm_x_Menu_hasDish : Room := { frames := 0, cells := 0, slots := 0, locals := 0 }
theorem hd_x_Menu_hasDish : y_Menu_hasDish.cls ≠ "java/lang/invoke/MethodHandle" ∧ y_Menu_hasDish.cls ≠ "java/lang/invoke/VarHandle" ∧ (parseMethodDescriptor y_Menu_hasDish.desc).map (fun d => d.parameters.length) = some 1 := by decide +kernel
set_option maxHeartbeats 4000000 in
set_option maxRecDepth 100000 in
theorem cx_Menu_hasDish (l : Launch) (E : xE) (a : Nat → Nat) (ha : xInj a 38) (u v : Nat) (mm : Nat) (h : Hp) (sz : Nat) (q : Nat) (hq : isU q = true) (p1 : Int32) {r0 : Int32} (hlit : x_Menu_hasDish q p1 h = some r0) : Met l y_Menu_hasDish (Cond.code y_Menu_hasDish b_Menu_hasDish 2 (some .boolean) :: TB) rm_x_Menu_hasDish (fPc [.ref (a q), .int p1] E.1 (xtys E) sz (xV E a u v mm h)) (fQi (fun _ : Nat => True) r0 E.1 (fun (_ : Nat) => xV E a u v mm h) (xA a 38 sz)) 0 0 (xA a 38 sz) := by
  refine fl_startI (by decide) (Nat.le_of_ble_eq_true rfl) ?_
  intro p e s m args below meth c Q hx hb hml hown hts hsz hP hK hN ret ls hl
  subst hsz
  have hA : ∀ k, k < 38 → (xA a 38 s.heap.size) (a k) := xA_in
  have hS : va_S (xA a 38 s.heap.size) s.heap s.heap [] := va_S.rf
  have hl : lv_has ls 2 [(0, .ref (a q)), (1, .int p1)] := hl
  refine lv_iload_n hx hb d_Menu_hasDish_0 rfl (lv_at hl 1 rfl) ?_
  refine lv_if_lt (tgt := 16) hx hb d_Menu_hasDish_1 (by decide) (fun c1 => ?_) (fun c1 => ?_)
  · have hlit := brP _ hlit c1
    refine lv_iconst (v := (0 : Int32)) hx hb d_Menu_hasDish_16 (by decide) ?_
    cases hlit
    exact ret 0 _ _ _ _ trivial hP hS rfl d_Menu_hasDish_17
  · have hlit := brN _ hlit c1
    refine lv_iload_n hx hb d_Menu_hasDish_4 rfl (lv_at hl 1 rfl) ?_
    refine lv_aload_n hx hb d_Menu_hasDish_5 rfl (lv_at hl 0 rfl) ?_
    refine xg_Menu_0 hx hb hts hown hK hP hq q146 d_Menu_hasDish_6 ?_
    refine lv_icmp_ge (tgt := 16) hx hb d_Menu_hasDish_9 (by decide) (fun c9 => ?_) (fun c9 => ?_)
    · have hlit := brP _ hlit c9
      refine lv_iconst (v := (0 : Int32)) hx hb d_Menu_hasDish_16 (by decide) ?_
      cases hlit
      exact ret 0 _ _ _ _ trivial hP hS rfl d_Menu_hasDish_17
    · have hlit := brN _ hlit c9
      refine lv_iconst (v := (1 : Int32)) hx hb d_Menu_hasDish_12 (by decide) ?_
      refine lv_goto (tgt := 17) hx hb d_Menu_hasDish_13 (by decide) ?_
      cases hlit
      exact ret 0 _ _ _ _ trivial hP hS rfl d_Menu_hasDish_17

abbrev rm_x_Menu_allDishes : Room := { frames := 0, cells := 0, slots := 0, locals := 0 }
theorem hd_x_Menu_allDishes : y_Menu_allDishes.cls ≠ "java/lang/invoke/MethodHandle" ∧ y_Menu_allDishes.cls ≠ "java/lang/invoke/VarHandle" ∧ (parseMethodDescriptor y_Menu_allDishes.desc).map (fun d => d.parameters.length) = some 0 := by decide +kernel
set_option maxHeartbeats 4000000 in
set_option maxRecDepth 100000 in
theorem cx_Menu_allDishes (l : Launch) (E : xE) (a : Nat → Nat) (ha : xInj a 38) (u v : Nat) (mm : Nat) (h : Hp) (sz : Nat) (q : Nat) (hq : isU q = true) {r0 : Int32} (hlit : x_Menu_allDishes q h = some r0) : Met l y_Menu_allDishes (Cond.code y_Menu_allDishes b_Menu_allDishes 1 (some .int) :: TB) rm_x_Menu_allDishes (fPc [.ref (a q)] E.1 (xtys E) sz (xV E a u v mm h)) (fQi (fun _ : Nat => True) r0 E.1 (fun (_ : Nat) => xV E a u v mm h) (xA a 38 sz)) 0 0 (xA a 38 sz) := by
  refine fl_startI (by decide) (Nat.le_of_ble_eq_true rfl) ?_
  intro p e s m args below meth c Q hx hb hml hown hts hsz hP hK hN ret ls hl
  subst hsz
  have hA : ∀ k, k < 38 → (xA a 38 s.heap.size) (a k) := xA_in
  have hS : va_S (xA a 38 s.heap.size) s.heap s.heap [] := va_S.rf
  have hl : lv_has ls 1 [(0, .ref (a q))] := hl
  refine lv_iconst (v := (1 : Int32)) hx hb d_Menu_allDishes_0 (by decide) ?_
  refine lv_aload_n hx hb d_Menu_allDishes_1 rfl (lv_at hl 0 rfl) ?_
  refine xg_Menu_0 hx hb hts hown hK hP hq q146 d_Menu_allDishes_2 ?_
  refine lv_ishl hx hb d_Menu_allDishes_5 ?_
  refine lv_iconst (v := (1 : Int32)) hx hb d_Menu_allDishes_6 (by decide) ?_
  refine lv_isub hx hb d_Menu_allDishes_7 ?_
  cases hlit
  exact ret 0 _ _ _ _ trivial hP hS rfl d_Menu_allDishes_8

abbrev rm_x_Nm_entry : Room := { frames := 0, cells := 0, slots := 0, locals := 0 }
theorem hd_x_Nm_entry : y_Nm_entry.cls ≠ "java/lang/invoke/MethodHandle" ∧ y_Nm_entry.cls ≠ "java/lang/invoke/VarHandle" ∧ (parseMethodDescriptor y_Nm_entry.desc).map (fun d => d.parameters.length) = some 2 := by decide +kernel
set_option maxHeartbeats 4000000 in
set_option maxRecDepth 100000 in
theorem cx_Nm_entry (l : Launch) (E : xE) (a : Nat → Nat) (ha : xInj a 38) (u v : Nat) (mm : Nat) (h : Hp) (sz : Nat) (q0_ : Nat) (hq0_ : xIA q0_ = true) (p1 : Int32) {r0 : Int32} (hlit : x_Nm_entry q0_ p1 h = some r0) : Met l y_Nm_entry (Cond.code y_Nm_entry b_Nm_entry 2 (some .int) :: TB) rm_x_Nm_entry (fPc [.ref (a q0_), .int p1] E.1 (xtys E) sz (xV E a u v mm h)) (fQi (fun _ : Nat => True) r0 E.1 (fun (_ : Nat) => xV E a u v mm h) (xA a 38 sz)) 0 0 (xA a 38 sz) := by
  refine fl_startI (by decide) (Nat.le_of_ble_eq_true rfl) ?_
  intro p e s m args below meth c Q hx hb hml hown hts hsz hP hK hN ret ls hl
  subst hsz
  have hA : ∀ k, k < 38 → (xA a 38 s.heap.size) (a k) := xA_in
  have hS : va_S (xA a 38 s.heap.size) s.heap s.heap [] := va_S.rf
  have hl : lv_has ls 2 [(0, .ref (a q0_)), (1, .int p1)] := hl
  refine lv_iload_n hx hb d_Nm_entry_0 rfl (lv_at hl 1 rfl) ?_
  refine lv_if_lt (tgt := 16) hx hb d_Nm_entry_1 (by decide) (fun c1 => ?_) (fun c1 => ?_)
  · have hlit := brP _ hlit c1
    refine lv_iconst (v := (0 : Int32)) hx hb d_Nm_entry_16 (by decide) ?_
    cases hlit
    exact ret 0 _ _ _ _ trivial hP hS rfl d_Nm_entry_17
  · have hlit := brN _ hlit c1
    refine lv_iload_n hx hb d_Nm_entry_4 rfl (lv_at hl 1 rfl) ?_
    refine lv_aload_n hx hb d_Nm_entry_5 rfl (lv_at hl 0 rfl) ?_
    refine xalen hx hb hK hP hq0_ (y := (Int32.ofNat (xlen q0_))) rfl d_Nm_entry_6 ?_
    refine lv_icmp_ge (tgt := 16) hx hb d_Nm_entry_7 (by decide) (fun c7 => ?_) (fun c7 => ?_)
    · have hlit := brP _ hlit c7
      refine lv_iconst (v := (0 : Int32)) hx hb d_Nm_entry_16 (by decide) ?_
      cases hlit
      exact ret 0 _ _ _ _ trivial hP hS rfl d_Nm_entry_17
    · have hlit := brN _ hlit c7
      refine lv_aload_n hx hb d_Nm_entry_10 rfl (lv_at hl 0 rfl) ?_
      refine lv_iload_n hx hb d_Nm_entry_11 rfl (lv_at hl 1 rfl) ?_
      obtain ⟨g12, hlit⟩ := gdP _ hlit
      refine xald hx hb hK hP hq0_ (j := (p1).toNatClampNeg) rfl (vpin_c g12) d_Nm_entry_12 ?_
      refine lv_goto (tgt := 17) hx hb d_Nm_entry_13 (by decide) ?_
      cases hlit
      exact ret 0 _ _ _ _ trivial hP hS rfl d_Nm_entry_17

abbrev rm_x_Menu_kindOf : Room := { frames := 1, cells := 0, slots := 0, locals := 21 }
theorem hd_x_Menu_kindOf : y_Menu_kindOf.cls ≠ "java/lang/invoke/MethodHandle" ∧ y_Menu_kindOf.cls ≠ "java/lang/invoke/VarHandle" ∧ (parseMethodDescriptor y_Menu_kindOf.desc).map (fun d => d.parameters.length) = some 1 := by decide +kernel
set_option maxHeartbeats 4000000 in
set_option maxRecDepth 100000 in
theorem cx_Menu_kindOf (l : Launch) (E : xE) (a : Nat → Nat) (ha : xInj a 38) (u v : Nat) (mm : Nat) (h : Hp) (sz : Nat) (q : Nat) (hq : isU q = true) (p1 : Int32) {r0 : Int32} (hlit : x_Menu_kindOf q p1 h = some r0) : Met l y_Menu_kindOf (Cond.code y_Menu_kindOf b_Menu_kindOf 2 (some .int) :: TB) rm_x_Menu_kindOf (fPc [.ref (a q), .int p1] E.1 (xtys E) sz (xV E a u v mm h)) (fQi (fun _ : Nat => True) r0 E.1 (fun (_ : Nat) => xV E a u v mm h) (xA a 38 sz)) 0 0 (xA a 38 sz) := by
  refine fl_startI (by decide) (Nat.le_of_ble_eq_true rfl) ?_
  intro p e s m args below meth c Q hx hb hml hown hts hsz hP hK hN ret ls hl
  subst hsz
  have hA : ∀ k, k < 38 → (xA a 38 s.heap.size) (a k) := xA_in
  have hS : va_S (xA a 38 s.heap.size) s.heap s.heap [] := va_S.rf
  have hl : lv_has ls 2 [(0, .ref (a q)), (1, .int p1)] := hl
  refine lv_aload_n hx hb d_Menu_kindOf_0 rfl (lv_at hl 0 rfl) ?_
  refine xg_Menu_5 hx hb hts hown hK hP hq q162 d_Menu_kindOf_1 ?_
  refine lv_iload_n hx hb d_Menu_kindOf_4 rfl (lv_at hl 1 rfl) ?_
  obtain ⟨r5, hl5, hlit⟩ := bindS hlit
  refine fCallI (fRunSN (As := [.ref (a (q + 1)), .int p1]) (rest := []) hx hb hml hown hts hK hN hP (cx_Nm_entry l E a ha u v mm h _ (q + 1) (iaU1 hq) p1 (r0 := r5) hl5) (nw10 hN) q339 q49 q340 hd_x_Nm_entry rfl rfl ⟨Nat.le_of_ble_eq_true rfl, Nat.le_of_ble_eq_true rfl⟩ rfl hl.1 rfl (Nat.le_of_ble_eq_true rfl) d_Menu_kindOf_5 ⟨Nat.zero_le _, Nat.zero_le _⟩) hS (xA_up hS.1) (fun _ H locs hu5 hP hS _ _ => ?_)
  have hP : va_P E.1 xcl (xV E a u v mm h) H := hP
  cases hlit
  exact ret 0 _ _ _ _ trivial hP hS rfl d_Menu_kindOf_8

abbrev rm_x_Menu_minutesOf : Room := { frames := 1, cells := 0, slots := 0, locals := 21 }
theorem hd_x_Menu_minutesOf : y_Menu_minutesOf.cls ≠ "java/lang/invoke/MethodHandle" ∧ y_Menu_minutesOf.cls ≠ "java/lang/invoke/VarHandle" ∧ (parseMethodDescriptor y_Menu_minutesOf.desc).map (fun d => d.parameters.length) = some 1 := by decide +kernel
set_option maxHeartbeats 4000000 in
set_option maxRecDepth 100000 in
theorem cx_Menu_minutesOf (l : Launch) (E : xE) (a : Nat → Nat) (ha : xInj a 38) (u v : Nat) (mm : Nat) (h : Hp) (sz : Nat) (q : Nat) (hq : isU q = true) (p1 : Int32) {r0 : Int32} (hlit : x_Menu_minutesOf q p1 h = some r0) : Met l y_Menu_minutesOf (Cond.code y_Menu_minutesOf b_Menu_minutesOf 2 (some .int) :: TB) rm_x_Menu_minutesOf (fPc [.ref (a q), .int p1] E.1 (xtys E) sz (xV E a u v mm h)) (fQi (fun _ : Nat => True) r0 E.1 (fun (_ : Nat) => xV E a u v mm h) (xA a 38 sz)) 0 0 (xA a 38 sz) := by
  refine fl_startI (by decide) (Nat.le_of_ble_eq_true rfl) ?_
  intro p e s m args below meth c Q hx hb hml hown hts hsz hP hK hN ret ls hl
  subst hsz
  have hA : ∀ k, k < 38 → (xA a 38 s.heap.size) (a k) := xA_in
  have hS : va_S (xA a 38 s.heap.size) s.heap s.heap [] := va_S.rf
  have hl : lv_has ls 2 [(0, .ref (a q)), (1, .int p1)] := hl
  refine lv_aload_n hx hb d_Menu_minutesOf_0 rfl (lv_at hl 0 rfl) ?_
  refine xg_Menu_7 hx hb hts hown hK hP hq q166 d_Menu_minutesOf_1 ?_
  refine lv_iload_n hx hb d_Menu_minutesOf_4 rfl (lv_at hl 1 rfl) ?_
  obtain ⟨r5, hl5, hlit⟩ := bindS hlit
  refine fCallI (fRunSN (As := [.ref (a (q + 3)), .int p1]) (rest := []) hx hb hml hown hts hK hN hP (cx_Nm_entry l E a ha u v mm h _ (q + 3) (iaU3 hq) p1 (r0 := r5) hl5) (nw10 hN) q339 q49 q340 hd_x_Nm_entry rfl rfl ⟨Nat.le_of_ble_eq_true rfl, Nat.le_of_ble_eq_true rfl⟩ rfl hl.1 rfl (Nat.le_of_ble_eq_true rfl) d_Menu_minutesOf_5 ⟨Nat.zero_le _, Nat.zero_le _⟩) hS (xA_up hS.1) (fun _ H locs hu5 hP hS _ _ => ?_)
  have hP : va_P E.1 xcl (xV E a u v mm h) H := hP
  cases hlit
  exact ret 0 _ _ _ _ trivial hP hS rfl d_Menu_minutesOf_8

abbrev rm_x_Menu_isInTime : Room := { frames := 2, cells := 0, slots := 0, locals := 42 }
theorem hd_x_Menu_isInTime : y_Menu_isInTime.cls ≠ "java/lang/invoke/MethodHandle" ∧ y_Menu_isInTime.cls ≠ "java/lang/invoke/VarHandle" ∧ (parseMethodDescriptor y_Menu_isInTime.desc).map (fun d => d.parameters.length) = some 2 := by decide +kernel
set_option maxHeartbeats 4000000 in
set_option maxRecDepth 100000 in
theorem cx_Menu_isInTime (l : Launch) (E : xE) (a : Nat → Nat) (ha : xInj a 38) (u v : Nat) (mm : Nat) (h : Hp) (sz : Nat) (q : Nat) (hq : isU q = true) (p1 : Int32) (p2 : Int32) {r0 : Int32} (hlit : x_Menu_isInTime q p1 p2 h = some r0) : Met l y_Menu_isInTime (Cond.code y_Menu_isInTime b_Menu_isInTime 3 (some .boolean) :: TB) rm_x_Menu_isInTime (fPc [.ref (a q), .int p1, .int p2] E.1 (xtys E) sz (xV E a u v mm h)) (fQi (fun _ : Nat => True) r0 E.1 (fun (_ : Nat) => xV E a u v mm h) (xA a 38 sz)) 0 0 (xA a 38 sz) := by
  refine fl_startI (by decide) (Nat.le_of_ble_eq_true rfl) ?_
  intro p e s m args below meth c Q hx hb hml hown hts hsz hP hK hN ret ls hl
  subst hsz
  have hA : ∀ k, k < 38 → (xA a 38 s.heap.size) (a k) := xA_in
  have hS : va_S (xA a 38 s.heap.size) s.heap s.heap [] := va_S.rf
  have hl : lv_has ls 3 [(0, .ref (a q)), (1, .int p1), (2, .int p2)] := hl
  refine lv_iload_n hx hb d_Menu_isInTime_0 rfl (lv_at hl 2 rfl) ?_
  refine lv_aload_n hx hb d_Menu_isInTime_1 rfl (lv_at hl 0 rfl) ?_
  refine lv_iload_n hx hb d_Menu_isInTime_2 rfl (lv_at hl 1 rfl) ?_
  obtain ⟨r3, hl3, hlit⟩ := bindS hlit
  refine fCallI (fRunV (As := [.int p1]) (rest := [.int p2]) (q0 := q) (ci := 1) hx hb hml hown hts hK hN hP (cx_Menu_minutesOf l E a ha u v mm h _ q hq p1 (r0 := r3) hl3) q464 q394 q395 q55 q396 hd_x_Menu_minutesOf rfl rfl ⟨Nat.le_of_ble_eq_true rfl, Nat.le_of_ble_eq_true rfl⟩ (xeU hq) rfl rfl rfl hl.1 rfl (Nat.le_of_ble_eq_true rfl) d_Menu_isInTime_3 ⟨Nat.zero_le _, Nat.zero_le _⟩) hS (xA_up hS.1) (fun _ H locs hu3 hP hS _ _ => ?_)
  have hP : va_P E.1 xcl (xV E a u v mm h) H := hP
  refine lv_iadd hx hb d_Menu_isInTime_6 ?_
  refine lv_aload_n hx hb d_Menu_isInTime_7 rfl (lv_at hl 0 rfl) ?_
  refine xg_Menu_3 hx hb hts hown hK hP hq q157 d_Menu_isInTime_8 ?_
  refine lv_icmp_gt (tgt := 18) hx hb d_Menu_isInTime_11 (by decide) (fun c11 => ?_) (fun c11 => ?_)
  · have hlit := brP _ hlit c11
    refine lv_iconst (v := (0 : Int32)) hx hb d_Menu_isInTime_18 (by decide) ?_
    cases hlit
    exact ret 0 _ _ _ _ trivial hP hS rfl d_Menu_isInTime_19
  · have hlit := brN _ hlit c11
    refine lv_iconst (v := (1 : Int32)) hx hb d_Menu_isInTime_14 (by decide) ?_
    refine lv_goto (tgt := 19) hx hb d_Menu_isInTime_15 (by decide) ?_
    cases hlit
    exact ret 0 _ _ _ _ trivial hP hS rfl d_Menu_isInTime_19

abbrev rm_x_Menu_toldWorth : Room := { frames := 1, cells := 0, slots := 0, locals := 21 }
theorem hd_x_Menu_toldWorth : y_Menu_toldWorth.cls ≠ "java/lang/invoke/MethodHandle" ∧ y_Menu_toldWorth.cls ≠ "java/lang/invoke/VarHandle" ∧ (parseMethodDescriptor y_Menu_toldWorth.desc).map (fun d => d.parameters.length) = some 2 := by decide +kernel
set_option maxHeartbeats 4000000 in
set_option maxRecDepth 100000 in
theorem cx_Menu_toldWorth (l : Launch) (E : xE) (a : Nat → Nat) (ha : xInj a 38) (u v : Nat) (mm : Nat) (h : Hp) (sz : Nat) (q : Nat) (hq : isU q = true) (p1 : Int32) (p2 : Int32) {r0 : Int32} (hlit : x_Menu_toldWorth q p1 p2 h = some r0) : Met l y_Menu_toldWorth (Cond.code y_Menu_toldWorth b_Menu_toldWorth 3 (some .int) :: TB) rm_x_Menu_toldWorth (fPc [.ref (a q), .int p1, .int p2] E.1 (xtys E) sz (xV E a u v mm h)) (fQi (fun _ : Nat => True) r0 E.1 (fun (_ : Nat) => xV E a u v mm h) (xA a 38 sz)) 0 0 (xA a 38 sz) := by
  refine fl_startI (by decide) (Nat.le_of_ble_eq_true rfl) ?_
  intro p e s m args below meth c Q hx hb hml hown hts hsz hP hK hN ret ls hl
  subst hsz
  have hA : ∀ k, k < 38 → (xA a 38 s.heap.size) (a k) := xA_in
  have hS : va_S (xA a 38 s.heap.size) s.heap s.heap [] := va_S.rf
  have hl : lv_has ls 3 [(0, .ref (a q)), (1, .int p1), (2, .int p2)] := hl
  refine lv_aload_n hx hb d_Menu_toldWorth_0 rfl (lv_at hl 0 rfl) ?_
  refine lv_iload_n hx hb d_Menu_toldWorth_1 rfl (lv_at hl 1 rfl) ?_
  obtain ⟨r2, hl2, hlit⟩ := bindS hlit
  refine fCallI (fRunV (As := [.int p1]) (rest := []) (q0 := q) (ci := 1) hx hb hml hown hts hK hN hP (cx_Menu_hasGuest l E a ha u v mm h _ q hq p1 (r0 := r2) hl2) q378 q332 q333 q55 q334 hd_x_Menu_hasGuest rfl rfl ⟨Nat.le_of_ble_eq_true rfl, Nat.le_of_ble_eq_true rfl⟩ (xeU hq) rfl rfl rfl hl.1 rfl (Nat.le_of_ble_eq_true rfl) d_Menu_toldWorth_2 ⟨Nat.zero_le _, Nat.zero_le _⟩) hS (xA_up hS.1) (fun _ H locs hu2 hP hS _ _ => ?_)
  have hP : va_P E.1 xcl (xV E a u v mm h) H := hP
  refine lv_if_eq (tgt := 32) hx hb d_Menu_toldWorth_5 (by decide) (fun c5 => ?_) (fun c5 => ?_)
  · have hlit := brP _ hlit c5
    refine lv_iconst (v := (0 : Int32)) hx hb d_Menu_toldWorth_32 (by decide) ?_
    cases hlit
    exact ret 0 _ _ _ _ trivial hP hS rfl d_Menu_toldWorth_33
  · have hlit := brN _ hlit c5
    refine lv_aload_n hx hb d_Menu_toldWorth_8 rfl (lv_at hl 0 rfl) ?_
    refine lv_iload_n hx hb d_Menu_toldWorth_9 rfl (lv_at hl 2 rfl) ?_
    obtain ⟨r10, hl10, hlit⟩ := bindS hlit
    refine fCallI (fRunV (As := [.int p2]) (rest := []) (q0 := q) (ci := 1) hx hb hml hown hts hK hN hP (cx_Menu_hasDish l E a ha u v mm h _ q hq p2 (r0 := r10) hl10) q379 q275 q276 q55 q277 hd_x_Menu_hasDish rfl rfl ⟨Nat.le_of_ble_eq_true rfl, Nat.le_of_ble_eq_true rfl⟩ (xeU hq) rfl rfl rfl hl.1 rfl (Nat.le_of_ble_eq_true rfl) d_Menu_toldWorth_10 ⟨Nat.zero_le _, Nat.zero_le _⟩) hS (xA_up hS.1) (fun _ H locs hu10 hP hS _ _ => ?_)
    have hP : va_P E.1 xcl (xV E a u v mm h) H := hP
    refine lv_if_eq (tgt := 32) hx hb d_Menu_toldWorth_13 (by decide) (fun c13 => ?_) (fun c13 => ?_)
    · have hlit := brP _ hlit c13
      refine lv_iconst (v := (0 : Int32)) hx hb d_Menu_toldWorth_32 (by decide) ?_
      cases hlit
      exact ret 0 _ _ _ _ trivial hP hS rfl d_Menu_toldWorth_33
    · have hlit := brN _ hlit c13
      refine lv_aload_n hx hb d_Menu_toldWorth_16 rfl (lv_at hl 0 rfl) ?_
      refine xg_Menu_6 hx hb hts hown hK hP hq q164 d_Menu_toldWorth_17 ?_
      refine lv_iload_n hx hb d_Menu_toldWorth_20 rfl (lv_at hl 1 rfl) ?_
      refine lv_bipush (v := (6 : Int32)) hx hb d_Menu_toldWorth_21 (by decide) ?_
      refine lv_imul hx hb d_Menu_toldWorth_23 ?_
      refine lv_iload_n hx hb d_Menu_toldWorth_24 rfl (lv_at hl 2 rfl) ?_
      refine lv_iadd hx hb d_Menu_toldWorth_25 ?_
      obtain ⟨r26, hl26, hlit⟩ := bindS hlit
      refine fCallI (fRunSN (As := [.ref (a (q + 2)), .int ((p1 * (6 : Int32)) + p2)]) (rest := []) hx hb hml hown hts hK hN hP (cx_Nm_entry l E a ha u v mm h _ (q + 2) (iaU2 hq) ((p1 * (6 : Int32)) + p2) (r0 := r26) hl26) (nw10 hN) q339 q49 q340 hd_x_Nm_entry rfl rfl ⟨Nat.le_of_ble_eq_true rfl, Nat.le_of_ble_eq_true rfl⟩ rfl hl.1 rfl (Nat.le_of_ble_eq_true rfl) d_Menu_toldWorth_26 ⟨Nat.zero_le _, Nat.zero_le _⟩) hS (xA_up hS.1) (fun _ H locs hu26 hP hS _ _ => ?_)
      have hP : va_P E.1 xcl (xV E a u v mm h) H := hP
      refine lv_goto (tgt := 33) hx hb d_Menu_toldWorth_29 (by decide) ?_
      cases hlit
      exact ret 0 _ _ _ _ trivial hP hS rfl d_Menu_toldWorth_33

abbrev rm_x_Moment_value : Room := { frames := 2, cells := 0, slots := 0, locals := 43 }
theorem hd_x_Moment_value : y_Moment_value.cls ≠ "java/lang/invoke/MethodHandle" ∧ y_Moment_value.cls ≠ "java/lang/invoke/VarHandle" ∧ (parseMethodDescriptor y_Moment_value.desc).map (fun d => d.parameters.length) = some 2 := by decide +kernel
set_option maxHeartbeats 4000000 in
set_option maxRecDepth 100000 in
theorem cx_Moment_value (l : Launch) (E : xE) (a : Nat → Nat) (ha : xInj a 38) (u v : Nat) (h : Hp) (sz : Nat) (p1 : Int32) (p2 : Int32) {r0 : Int32} (hlit : x_Moment_value p1 p2 h = some r0) : Met l y_Moment_value (Cond.code y_Moment_value b_Moment_value 4 (some .int) :: TB) rm_x_Moment_value (fPc [.ref (a 5), .int p1, .int p2] E.1 (xtys E) sz (xV E a u v (a 6) h)) (fQi (fun _ : Nat => True) r0 E.1 (fun (_ : Nat) => xV E a u v (a 6) h) (xA a 38 sz)) 0 0 (xA a 38 sz) := by
  refine fl_startI (by decide) (Nat.le_of_ble_eq_true rfl) ?_
  intro p e s m args below meth c Q hx hb hml hown hts hsz hP hK hN ret ls hl
  subst hsz
  have hA : ∀ k, k < 38 → (xA a 38 s.heap.size) (a k) := xA_in
  have hS : va_S (xA a 38 s.heap.size) s.heap s.heap [] := va_S.rf
  have hl : lv_has ls 4 [(0, .ref (a 5)), (1, .int p1), (2, .int p2)] := hl
  refine lv_aload_n hx hb d_Moment_value_0 rfl (lv_at hl 0 rfl) ?_
  refine xg_Moment_0 hx hb hts hown hK hP q182 d_Moment_value_1 ?_
  refine lv_iload_n hx hb d_Moment_value_4 rfl (lv_at hl 1 rfl) ?_
  refine lv_iload_n hx hb d_Moment_value_5 rfl (lv_at hl 2 rfl) ?_
  obtain ⟨r6, hl6, hlit⟩ := bindS hlit
  refine fCallI (fRunV (As := [.int p1, .int p2]) (rest := []) (q0 := 6) (ci := 1) hx hb hml hown hts hK hN hP (cx_Menu_toldWorth l E a ha u v (a 6) h _ 6 rfl p1 p2 (r0 := r6) hl6) q374 q375 q376 q55 q377 hd_x_Menu_toldWorth rfl rfl ⟨Nat.le_of_ble_eq_true rfl, Nat.le_of_ble_eq_true rfl⟩ (xeU rfl) rfl rfl rfl hl.1 rfl (Nat.le_of_ble_eq_true rfl) d_Moment_value_6 ⟨Nat.zero_le _, Nat.zero_le _⟩) hS (xA_up hS.1) (fun _ H locs hu6 hP hS _ _ => ?_)
  have hP : va_P E.1 xcl (xV E a u v (a 6) h) H := hP
  refine lv_istore_n (lv' := [(3, .int r6), (0, .ref (a 5)), (1, .int p1), (2, .int p2)]) hx hb d_Moment_value_9 rfl hl (by decide) rfl (fun ls hl => ?_)
  refine lv_iload_n hx hb d_Moment_value_10 rfl (lv_at hl 0 rfl) ?_
  refine lv_if_eq (tgt := 25) hx hb d_Moment_value_11 (by decide) (fun c11 => ?_) (fun c11 => ?_)
  · have hlit := brP _ hlit c11
    refine lv_iload_n hx hb d_Moment_value_25 rfl (lv_at hl 0 rfl) ?_
    cases hlit
    exact ret 0 _ _ _ _ trivial hP hS rfl d_Moment_value_26
  · have hlit := brN _ hlit c11
    refine lv_aload_n hx hb d_Moment_value_14 rfl (lv_at hl 1 rfl) ?_
    refine xg_Moment_0 hx hb hts hown hK hP q182 d_Moment_value_15 ?_
    refine xg_Menu_4 hx hb hts hown hK hP rfl q159 d_Moment_value_18 ?_
    refine lv_iconst (v := (1 : Int32)) hx hb d_Moment_value_21 (by decide) ?_
    refine lv_icmp_ge (tgt := 27) hx hb d_Moment_value_22 (by decide) (fun c22 => ?_) (fun c22 => ?_)
    · have hlit := brP _ hlit c22
      refine lv_bipush (v := (9 : Int32)) hx hb d_Moment_value_27 (by decide) ?_
      refine lv_iload_n hx hb d_Moment_value_29 rfl (lv_at hl 0 rfl) ?_
      refine lv_aload_n hx hb d_Moment_value_30 rfl (lv_at hl 1 rfl) ?_
      refine xg_Moment_1 hx hb hts hown hK hP q184 d_Moment_value_31 ?_
      refine lv_aload_n hx hb d_Moment_value_34 rfl (lv_at hl 1 rfl) ?_
      refine xg_Moment_0 hx hb hts hown hK hP q182 d_Moment_value_35 ?_
      refine xg_Menu_4 hx hb hts hown hK hP rfl q159 d_Moment_value_38 ?_
      obtain ⟨g41, hlit⟩ := gdP _ hlit
      refine lv_idiv hx hb d_Moment_value_41 g41 ?_
      refine lv_iadd hx hb d_Moment_value_42 ?_
      refine va_mmin hx hb (hml.trans hl.1.symm) hown (hts _ q380) (hts _ q381) (hts _ q62) (hts _ q382) (by decide) (Nat.le_of_ble_eq_true rfl) (Nat.zero_le _) (Nat.zero_le _) d_Moment_value_43 ?_
      cases hlit
      exact ret 0 _ _ _ _ trivial hP hS rfl d_Moment_value_46
    · have hlit := brN _ hlit c22
      refine lv_iload_n hx hb d_Moment_value_25 rfl (lv_at hl 0 rfl) ?_
      cases hlit
      exact ret 0 _ _ _ _ trivial hP hS rfl d_Moment_value_26

abbrev rm_x_Moment_together : Room := { frames := 3, cells := 0, slots := 0, locals := 66 }
theorem hd_x_Moment_together : y_Moment_together.cls ≠ "java/lang/invoke/MethodHandle" ∧ y_Moment_together.cls ≠ "java/lang/invoke/VarHandle" ∧ (parseMethodDescriptor y_Moment_together.desc).map (fun d => d.parameters.length) = some 2 := by decide +kernel
set_option maxHeartbeats 4000000 in
set_option maxRecDepth 100000 in
theorem cx_Moment_together (l : Launch) (E : xE) (a : Nat → Nat) (ha : xInj a 38) (u v : Nat) (h : Hp) (sz : Nat) (p1 : Int32) (p2 : Int32) {r0 : Int32} (hlit : x_Moment_together p1 p2 h = some r0) : Met l y_Moment_together (Cond.code y_Moment_together b_Moment_together 5 (some .int) :: TB) rm_x_Moment_together (fPc [.ref (a 5), .int p1, .int p2] E.1 (xtys E) sz (xV E a u v (a 6) h)) (fQi (fun _ : Nat => True) r0 E.1 (fun (_ : Nat) => xV E a u v (a 6) h) (xA a 38 sz)) 0 0 (xA a 38 sz) := by
  refine fl_startI (by decide) (Nat.le_of_ble_eq_true rfl) ?_
  intro p e s m args below meth c Q hx hb hml hown hts hsz hP hK hN ret ls hl
  subst hsz
  have hA : ∀ k, k < 38 → (xA a 38 s.heap.size) (a k) := xA_in
  have hS : va_S (xA a 38 s.heap.size) s.heap s.heap [] := va_S.rf
  have hl : lv_has ls 5 [(0, .ref (a 5)), (1, .int p1), (2, .int p2)] := hl
  have b5 : ∀ (n : Nat), ∀ (x3 : Int32) (x4 : Int32) (H : Heap) (locs : List Loc) (ls : Array Slot), x_Moment_together_b5 p1 p2 h n x3 x4 = some r0 → va_P E.1 xcl (xV E a u v (a 6) h) H → va_S (xA a 38 s.heap.size) s.heap H locs → lv_has ls 5 [(0, .ref (a 5)), (1, .int p1), (2, .int p2), (3, .int x3), (4, .int x4)] → W p l e rm_x_Moment_together s m args below meth c H locs 0 0 Q (F0 m 5 ls []) := by
    intro n
    induction n with
    | zero => intro x3 x4 H locs ls hlit hP hS hl; exact nnF hlit
    | succ n ih =>
      intro x3 x4 H locs ls hlit hP hS hl
      refine lv_iload hx hb d_Moment_together_5 (lv_at hl 4 rfl) ?_
      refine lv_aload_n hx hb d_Moment_together_7 rfl (lv_at hl 0 rfl) ?_
      refine xg_Moment_0 hx hb hts hown hK hP q182 d_Moment_together_8 ?_
      refine xg_Menu_1 hx hb hts hown hK hP rfl q151 d_Moment_together_11 ?_
      refine lv_icmp_ge (tgt := 39) hx hb d_Moment_together_14 (by decide) (fun c14 => ?_) (fun c14 => ?_)
      · have hlit := brP _ hlit c14
        refine lv_iload_n hx hb d_Moment_together_39 rfl (lv_at hl 3 rfl) ?_
        cases hlit
        exact ret 0 _ _ _ _ trivial hP hS rfl d_Moment_together_40
      · have hlit := brN _ hlit c14
        refine lv_iload hx hb d_Moment_together_17 (lv_at hl 4 rfl) ?_
        refine lv_iload_n hx hb d_Moment_together_19 rfl (lv_at hl 2 rfl) ?_
        refine lv_icmp_eq (tgt := 33) hx hb d_Moment_together_20 (by decide) (fun c20 => ?_) (fun c20 => ?_)
        · have hlit := brP _ hlit c20
          refine lv_iinc (v := (x4 + (1 : Int32))) (lv' := [(4, .int (x4 + (1 : Int32))), (0, .ref (a 5)), (1, .int p1), (2, .int p2), (3, .int x3)]) hx hb d_Moment_together_33 hl (k := 4) rfl rfl (by decide) rfl (fun ls hl => ?_)
          refine lv_goto (tgt := 5) hx hb d_Moment_together_36 (by decide) ?_
          exact ih x3 (x4 + (1 : Int32)) _ _ _ hlit hP hS (lv_sub hl [1, 2, 3, 4, 0] rfl)
        · have hlit := brN _ hlit c20
          refine lv_iload_n hx hb d_Moment_together_23 rfl (lv_at hl 3 rfl) ?_
          refine lv_aload_n hx hb d_Moment_together_24 rfl (lv_at hl 0 rfl) ?_
          refine lv_iload hx hb d_Moment_together_25 (lv_at hl 4 rfl) ?_
          refine lv_iload_n hx hb d_Moment_together_27 rfl (lv_at hl 1 rfl) ?_
          obtain ⟨r28, hl28, hlit⟩ := bindS hlit
          refine fCallI (fRunV (As := [.int x4, .int p1]) (rest := [.int x3]) (q0 := 5) (ci := 2) hx hb hml hown hts hK hN hP (cx_Moment_value l E a ha u v h _ x4 p1 (r0 := r28) hl28) q370 q371 q372 q56 q373 hd_x_Moment_value rfl rfl ⟨Nat.le_of_ble_eq_true rfl, Nat.le_of_ble_eq_true rfl⟩ xe_5 rfl rfl rfl hl.1 rfl (Nat.le_of_ble_eq_true rfl) d_Moment_together_28 ⟨Nat.zero_le _, Nat.zero_le _⟩) hS (xA_up hS.1) (fun _ H locs hu28 hP hS _ _ => ?_)
          have hP : va_P E.1 xcl (xV E a u v (a 6) h) H := hP
          refine lv_iadd hx hb d_Moment_together_31 ?_
          obtain ⟨y32, ey32, hlit⟩ := bindS hlit
          refine topn ey32 ?_
          refine lv_istore_n (lv' := [(3, .int y32), (0, .ref (a 5)), (1, .int p1), (2, .int p2), (4, .int x4)]) hx hb d_Moment_together_32 rfl hl (by decide) rfl (fun ls hl => ?_)
          refine lv_iinc (v := (x4 + (1 : Int32))) (lv' := [(4, .int (x4 + (1 : Int32))), (3, .int y32), (0, .ref (a 5)), (1, .int p1), (2, .int p2)]) hx hb d_Moment_together_33 hl (k := 4) rfl rfl (by decide) rfl (fun ls hl => ?_)
          refine lv_goto (tgt := 5) hx hb d_Moment_together_36 (by decide) ?_
          exact ih y32 (x4 + (1 : Int32)) _ _ _ hlit hP hS (lv_sub hl [2, 3, 4, 1, 0] rfl)
  refine lv_iconst (v := (0 : Int32)) hx hb d_Moment_together_0 (by decide) ?_
  refine lv_istore_n (lv' := [(3, .int (0 : Int32)), (0, .ref (a 5)), (1, .int p1), (2, .int p2)]) hx hb d_Moment_together_1 rfl hl (by decide) rfl (fun ls hl => ?_)
  refine lv_iconst (v := (0 : Int32)) hx hb d_Moment_together_2 (by decide) ?_
  refine lv_istore (lv' := [(4, .int (0 : Int32)), (3, .int (0 : Int32)), (0, .ref (a 5)), (1, .int p1), (2, .int p2)]) hx hb d_Moment_together_3 hl (by decide) rfl (fun ls hl => ?_)
  exact b5 FU (0 : Int32) (0 : Int32) _ _ _ hlit hP hS (lv_sub hl [2, 3, 4, 1, 0] rfl)

abbrev rm_x_Moment_leastWorth : Room := { frames := 3, cells := 0, slots := 0, locals := 66 }
theorem hd_x_Moment_leastWorth : y_Moment_leastWorth.cls ≠ "java/lang/invoke/MethodHandle" ∧ y_Moment_leastWorth.cls ≠ "java/lang/invoke/VarHandle" ∧ (parseMethodDescriptor y_Moment_leastWorth.desc).map (fun d => d.parameters.length) = some 1 := by decide +kernel
set_option maxHeartbeats 4000000 in
set_option maxRecDepth 100000 in
theorem cx_Moment_leastWorth (l : Launch) (E : xE) (a : Nat → Nat) (ha : xInj a 38) (u v : Nat) (h : Hp) (sz : Nat) (p1 : Int32) {r0 : Int32} (hlit : x_Moment_leastWorth p1 h = some r0) : Met l y_Moment_leastWorth (Cond.code y_Moment_leastWorth b_Moment_leastWorth 4 (some .int) :: TB) rm_x_Moment_leastWorth (fPc [.ref (a 5), .int p1] E.1 (xtys E) sz (xV E a u v (a 6) h)) (fQi (fun _ : Nat => True) r0 E.1 (fun (_ : Nat) => xV E a u v (a 6) h) (xA a 38 sz)) 0 0 (xA a 38 sz) := by
  refine fl_startI (by decide) (Nat.le_of_ble_eq_true rfl) ?_
  intro p e s m args below meth c Q hx hb hml hown hts hsz hP hK hN ret ls hl
  subst hsz
  have hA : ∀ k, k < 38 → (xA a 38 s.heap.size) (a k) := xA_in
  have hS : va_S (xA a 38 s.heap.size) s.heap s.heap [] := va_S.rf
  have hl : lv_has ls 4 [(0, .ref (a 5)), (1, .int p1)] := hl
  have b5 : ∀ (n : Nat), ∀ (x2 : Int32) (x3 : Int32) (H : Heap) (locs : List Loc) (ls : Array Slot), x_Moment_leastWorth_b5 p1 h n x2 x3 = some r0 → va_P E.1 xcl (xV E a u v (a 6) h) H → va_S (xA a 38 s.heap.size) s.heap H locs → lv_has ls 4 [(0, .ref (a 5)), (1, .int p1), (2, .int x2), (3, .int x3)] → W p l e rm_x_Moment_leastWorth s m args below meth c H locs 0 0 Q (F0 m 5 ls []) := by
    intro n
    induction n with
    | zero => intro x2 x3 H locs ls hlit hP hS hl; exact nnF hlit
    | succ n ih =>
      intro x2 x3 H locs ls hlit hP hS hl
      refine lv_iload_n hx hb d_Moment_leastWorth_5 rfl (lv_at hl 3 rfl) ?_
      refine lv_aload_n hx hb d_Moment_leastWorth_6 rfl (lv_at hl 0 rfl) ?_
      refine xg_Moment_0 hx hb hts hown hK hP q182 d_Moment_leastWorth_7 ?_
      refine xg_Menu_1 hx hb hts hown hK hP rfl q151 d_Moment_leastWorth_10 ?_
      refine lv_icmp_ge (tgt := 33) hx hb d_Moment_leastWorth_13 (by decide) (fun c13 => ?_) (fun c13 => ?_)
      · have hlit := brP _ hlit c13
        refine lv_iload_n hx hb d_Moment_leastWorth_33 rfl (lv_at hl 2 rfl) ?_
        cases hlit
        exact ret 0 _ _ _ _ trivial hP hS rfl d_Moment_leastWorth_34
      · have hlit := brN _ hlit c13
        refine lv_iload_n hx hb d_Moment_leastWorth_16 rfl (lv_at hl 2 rfl) ?_
        refine lv_aload_n hx hb d_Moment_leastWorth_17 rfl (lv_at hl 0 rfl) ?_
        refine lv_iload_n hx hb d_Moment_leastWorth_18 rfl (lv_at hl 3 rfl) ?_
        refine lv_iload_n hx hb d_Moment_leastWorth_19 rfl (lv_at hl 1 rfl) ?_
        obtain ⟨r20, hl20, hlit⟩ := bindS hlit
        refine fCallI (fRunV (As := [.int x3, .int p1]) (rest := [.int x2]) (q0 := 5) (ci := 2) hx hb hml hown hts hK hN hP (cx_Moment_value l E a ha u v h _ x3 p1 (r0 := r20) hl20) q370 q371 q372 q56 q373 hd_x_Moment_value rfl rfl ⟨Nat.le_of_ble_eq_true rfl, Nat.le_of_ble_eq_true rfl⟩ xe_5 rfl rfl rfl hl.1 rfl (Nat.le_of_ble_eq_true rfl) d_Moment_leastWorth_20 ⟨Nat.zero_le _, Nat.zero_le _⟩) hS (xA_up hS.1) (fun _ H locs hu20 hP hS _ _ => ?_)
        have hP : va_P E.1 xcl (xV E a u v (a 6) h) H := hP
        refine va_mmin hx hb (hml.trans hl.1.symm) hown (hts _ q380) (hts _ q381) (hts _ q62) (hts _ q382) (by decide) (Nat.le_of_ble_eq_true rfl) (Nat.zero_le _) (Nat.zero_le _) d_Moment_leastWorth_23 ?_
        obtain ⟨y26, ey26, hlit⟩ := bindS hlit
        refine topn ey26 ?_
        refine lv_istore_n (lv' := [(2, .int y26), (0, .ref (a 5)), (1, .int p1), (3, .int x3)]) hx hb d_Moment_leastWorth_26 rfl hl (by decide) rfl (fun ls hl => ?_)
        refine lv_iinc (v := (x3 + (1 : Int32))) (lv' := [(3, .int (x3 + (1 : Int32))), (2, .int y26), (0, .ref (a 5)), (1, .int p1)]) hx hb d_Moment_leastWorth_27 hl (k := 3) rfl rfl (by decide) rfl (fun ls hl => ?_)
        refine lv_goto (tgt := 5) hx hb d_Moment_leastWorth_30 (by decide) ?_
        exact ih y26 (x3 + (1 : Int32)) _ _ _ hlit hP hS (lv_sub hl [2, 3, 1, 0] rfl)
  refine lv_bipush (v := (9 : Int32)) hx hb d_Moment_leastWorth_0 (by decide) ?_
  refine lv_istore_n (lv' := [(2, .int (9 : Int32)), (0, .ref (a 5)), (1, .int p1)]) hx hb d_Moment_leastWorth_2 rfl hl (by decide) rfl (fun ls hl => ?_)
  refine lv_iconst (v := (0 : Int32)) hx hb d_Moment_leastWorth_3 (by decide) ?_
  refine lv_istore_n (lv' := [(3, .int (0 : Int32)), (2, .int (9 : Int32)), (0, .ref (a 5)), (1, .int p1)]) hx hb d_Moment_leastWorth_4 rfl hl (by decide) rfl (fun ls hl => ?_)
  exact b5 FU (9 : Int32) (0 : Int32) _ _ _ hlit hP hS (lv_sub hl [2, 3, 1, 0] rfl)

abbrev rm_x_Moment_opponent : Room := { frames := 3, cells := 0, slots := 0, locals := 66 }
theorem hd_x_Moment_opponent : y_Moment_opponent.cls ≠ "java/lang/invoke/MethodHandle" ∧ y_Moment_opponent.cls ≠ "java/lang/invoke/VarHandle" ∧ (parseMethodDescriptor y_Moment_opponent.desc).map (fun d => d.parameters.length) = some 1 := by decide +kernel
set_option maxHeartbeats 4000000 in
set_option maxRecDepth 100000 in
theorem cx_Moment_opponent (l : Launch) (E : xE) (a : Nat → Nat) (ha : xInj a 38) (u v : Nat) (h : Hp) (sz : Nat) (p1 : Int32) {r0 : Int32} (hlit : x_Moment_opponent p1 h = some r0) : Met l y_Moment_opponent (Cond.code y_Moment_opponent b_Moment_opponent 4 (some .int) :: TB) rm_x_Moment_opponent (fPc [.ref (a 5), .int p1] E.1 (xtys E) sz (xV E a u v (a 6) h)) (fQi (fun _ : Nat => True) r0 E.1 (fun (_ : Nat) => xV E a u v (a 6) h) (xA a 38 sz)) 0 0 (xA a 38 sz) := by
  refine fl_startI (by decide) (Nat.le_of_ble_eq_true rfl) ?_
  intro p e s m args below meth c Q hx hb hml hown hts hsz hP hK hN ret ls hl
  subst hsz
  have hA : ∀ k, k < 38 → (xA a 38 s.heap.size) (a k) := xA_in
  have hS : va_S (xA a 38 s.heap.size) s.heap s.heap [] := va_S.rf
  have hl : lv_has ls 4 [(0, .ref (a 5)), (1, .int p1)] := hl
  have b4 : ∀ (n : Nat), ∀ (x2 : Int32) (x3 : Int32) (H : Heap) (locs : List Loc) (ls : Array Slot), x_Moment_opponent_b4 p1 h n x2 x3 = some r0 → va_P E.1 xcl (xV E a u v (a 6) h) H → va_S (xA a 38 s.heap.size) s.heap H locs → lv_has ls 4 [(0, .ref (a 5)), (1, .int p1), (2, .int x2), (3, .int x3)] → W p l e rm_x_Moment_opponent s m args below meth c H locs 0 0 Q (F0 m 4 ls []) := by
    intro n
    induction n with
    | zero => intro x2 x3 H locs ls hlit hP hS hl; exact nnF hlit
    | succ n ih =>
      intro x2 x3 H locs ls hlit hP hS hl
      refine lv_iload_n hx hb d_Moment_opponent_4 rfl (lv_at hl 3 rfl) ?_
      refine lv_aload_n hx hb d_Moment_opponent_5 rfl (lv_at hl 0 rfl) ?_
      refine xg_Moment_0 hx hb hts hown hK hP q182 d_Moment_opponent_6 ?_
      refine xg_Menu_1 hx hb hts hown hK hP rfl q151 d_Moment_opponent_9 ?_
      refine lv_icmp_ge (tgt := 38) hx hb d_Moment_opponent_12 (by decide) (fun c12 => ?_) (fun c12 => ?_)
      · have hlit := brP _ hlit c12
        refine lv_iload_n hx hb d_Moment_opponent_38 rfl (lv_at hl 2 rfl) ?_
        cases hlit
        exact ret 0 _ _ _ _ trivial hP hS rfl d_Moment_opponent_39
      · have hlit := brN _ hlit c12
        refine lv_aload_n hx hb d_Moment_opponent_15 rfl (lv_at hl 0 rfl) ?_
        refine lv_iload_n hx hb d_Moment_opponent_16 rfl (lv_at hl 3 rfl) ?_
        refine lv_iload_n hx hb d_Moment_opponent_17 rfl (lv_at hl 1 rfl) ?_
        obtain ⟨r18, hl18, hlit⟩ := bindS hlit
        refine fCallI (fRunV (As := [.int x3, .int p1]) (rest := []) (q0 := 5) (ci := 2) hx hb hml hown hts hK hN hP (cx_Moment_value l E a ha u v h _ x3 p1 (r0 := r18) hl18) q370 q371 q372 q56 q373 hd_x_Moment_value rfl rfl ⟨Nat.le_of_ble_eq_true rfl, Nat.le_of_ble_eq_true rfl⟩ xe_5 rfl rfl rfl hl.1 rfl (Nat.le_of_ble_eq_true rfl) d_Moment_opponent_18 ⟨Nat.zero_le _, Nat.zero_le _⟩) hS (xA_up hS.1) (fun _ H locs hu18 hP hS _ _ => ?_)
        have hP : va_P E.1 xcl (xV E a u v (a 6) h) H := hP
        refine lv_aload_n hx hb d_Moment_opponent_21 rfl (lv_at hl 0 rfl) ?_
        refine lv_iload_n hx hb d_Moment_opponent_22 rfl (lv_at hl 2 rfl) ?_
        refine lv_iload_n hx hb d_Moment_opponent_23 rfl (lv_at hl 1 rfl) ?_
        obtain ⟨r24, hl24, hlit⟩ := bindS hlit
        refine fCallI (fRunV (As := [.int x2, .int p1]) (rest := [.int r18]) (q0 := 5) (ci := 2) hx hb hml hown hts hK hN hP (cx_Moment_value l E a ha u v h _ x2 p1 (r0 := r24) hl24) q370 q371 q372 q56 q373 hd_x_Moment_value rfl rfl ⟨Nat.le_of_ble_eq_true rfl, Nat.le_of_ble_eq_true rfl⟩ xe_5 rfl rfl rfl hl.1 rfl (Nat.le_of_ble_eq_true rfl) d_Moment_opponent_24 ⟨Nat.zero_le _, Nat.zero_le _⟩) hS (xA_up hS.1) (fun _ H locs hu24 hP hS _ _ => ?_)
        have hP : va_P E.1 xcl (xV E a u v (a 6) h) H := hP
        refine lv_icmp_ge (tgt := 32) hx hb d_Moment_opponent_27 (by decide) (fun c27 => ?_) (fun c27 => ?_)
        · have hlit := brP _ hlit c27
          refine lv_iinc (v := (x3 + (1 : Int32))) (lv' := [(3, .int (x3 + (1 : Int32))), (0, .ref (a 5)), (1, .int p1), (2, .int x2)]) hx hb d_Moment_opponent_32 hl (k := 3) rfl rfl (by decide) rfl (fun ls hl => ?_)
          refine lv_goto (tgt := 4) hx hb d_Moment_opponent_35 (by decide) ?_
          exact ih x2 (x3 + (1 : Int32)) _ _ _ hlit hP hS (lv_sub hl [1, 2, 3, 0] rfl)
        · have hlit := brN _ hlit c27
          refine lv_iload_n hx hb d_Moment_opponent_30 rfl (lv_at hl 3 rfl) ?_
          refine lv_istore_n (lv' := [(2, .int x3), (0, .ref (a 5)), (1, .int p1), (3, .int x3)]) hx hb d_Moment_opponent_31 rfl hl (by decide) rfl (fun ls hl => ?_)
          refine lv_iinc (v := (x3 + (1 : Int32))) (lv' := [(3, .int (x3 + (1 : Int32))), (2, .int x3), (0, .ref (a 5)), (1, .int p1)]) hx hb d_Moment_opponent_32 hl (k := 3) rfl rfl (by decide) rfl (fun ls hl => ?_)
          refine lv_goto (tgt := 4) hx hb d_Moment_opponent_35 (by decide) ?_
          exact ih x3 (x3 + (1 : Int32)) _ _ _ hlit hP hS (lv_sub hl [2, 3, 1, 0] rfl)
  refine lv_iconst (v := (0 : Int32)) hx hb d_Moment_opponent_0 (by decide) ?_
  refine lv_istore_n (lv' := [(2, .int (0 : Int32)), (0, .ref (a 5)), (1, .int p1)]) hx hb d_Moment_opponent_1 rfl hl (by decide) rfl (fun ls hl => ?_)
  refine lv_iconst (v := (1 : Int32)) hx hb d_Moment_opponent_2 (by decide) ?_
  refine lv_istore_n (lv' := [(3, .int (1 : Int32)), (2, .int (0 : Int32)), (0, .ref (a 5)), (1, .int p1)]) hx hb d_Moment_opponent_3 rfl hl (by decide) rfl (fun ls hl => ?_)
  exact b4 FU (0 : Int32) (1 : Int32) _ _ _ hlit hP hS (lv_sub hl [2, 3, 1, 0] rfl)

abbrev rm_x_Moment_isIn : Room := { frames := 0, cells := 0, slots := 0, locals := 0 }
theorem hd_x_Moment_isIn : y_Moment_isIn.cls ≠ "java/lang/invoke/MethodHandle" ∧ y_Moment_isIn.cls ≠ "java/lang/invoke/VarHandle" ∧ (parseMethodDescriptor y_Moment_isIn.desc).map (fun d => d.parameters.length) = some 2 := by decide +kernel
set_option maxHeartbeats 4000000 in
set_option maxRecDepth 100000 in
theorem cx_Moment_isIn (l : Launch) (E : xE) (a : Nat → Nat) (ha : xInj a 38) (u v : Nat) (h : Hp) (sz : Nat) (p0 : Int32) (p1 : Int32) {r0 : Int32} (hlit : x_Moment_isIn p0 p1 h = some r0) : Met l y_Moment_isIn (Cond.code y_Moment_isIn b_Moment_isIn 2 (some .boolean) :: TB) rm_x_Moment_isIn (fPc [.int p0, .int p1] E.1 (xtys E) sz (xV E a u v (a 6) h)) (fQi (fun _ : Nat => True) r0 E.1 (fun (_ : Nat) => xV E a u v (a 6) h) (xA a 38 sz)) 0 0 (xA a 38 sz) := by
  refine fl_startI (by decide) (Nat.le_of_ble_eq_true rfl) ?_
  intro p e s m args below meth c Q hx hb hml hown hts hsz hP hK hN ret ls hl
  subst hsz
  have hA : ∀ k, k < 38 → (xA a 38 s.heap.size) (a k) := xA_in
  have hS : va_S (xA a 38 s.heap.size) s.heap s.heap [] := va_S.rf
  have hl : lv_has ls 2 [(0, .int p0), (1, .int p1)] := hl
  refine lv_iload_n hx hb d_Moment_isIn_0 rfl (lv_at hl 0 rfl) ?_
  refine lv_iload_n hx hb d_Moment_isIn_1 rfl (lv_at hl 1 rfl) ?_
  refine lv_ishr hx hb d_Moment_isIn_2 ?_
  refine lv_iconst (v := (1 : Int32)) hx hb d_Moment_isIn_3 (by decide) ?_
  refine lv_iand hx hb d_Moment_isIn_4 ?_
  refine lv_iconst (v := (1 : Int32)) hx hb d_Moment_isIn_5 (by decide) ?_
  refine lv_icmp_ne (tgt := 13) hx hb d_Moment_isIn_6 (by decide) (fun c6 => ?_) (fun c6 => ?_)
  · have hlit := brN _ hlit c6
    refine lv_iconst (v := (0 : Int32)) hx hb d_Moment_isIn_13 (by decide) ?_
    cases hlit
    exact ret 0 _ _ _ _ trivial hP hS rfl d_Moment_isIn_14
  · have hlit := brP _ hlit c6
    refine lv_iconst (v := (1 : Int32)) hx hb d_Moment_isIn_9 (by decide) ?_
    refine lv_goto (tgt := 14) hx hb d_Moment_isIn_10 (by decide) ?_
    cases hlit
    exact ret 0 _ _ _ _ trivial hP hS rfl d_Moment_isIn_14

abbrev rm_x_Moment_favourite : Room := { frames := 3, cells := 0, slots := 0, locals := 66 }
theorem hd_x_Moment_favourite : y_Moment_favourite.cls ≠ "java/lang/invoke/MethodHandle" ∧ y_Moment_favourite.cls ≠ "java/lang/invoke/VarHandle" ∧ (parseMethodDescriptor y_Moment_favourite.desc).map (fun d => d.parameters.length) = some 1 := by decide +kernel
set_option maxHeartbeats 4000000 in
set_option maxRecDepth 100000 in
theorem cx_Moment_favourite (l : Launch) (E : xE) (a : Nat → Nat) (ha : xInj a 38) (u v : Nat) (h : Hp) (sz : Nat) (p1 : Int32) {r0 : Int32} (hlit : x_Moment_favourite p1 h = some r0) : Met l y_Moment_favourite (Cond.code y_Moment_favourite b_Moment_favourite 4 (some .int) :: TB) rm_x_Moment_favourite (fPc [.ref (a 5), .int p1] E.1 (xtys E) sz (xV E a u v (a 6) h)) (fQi (fun _ : Nat => True) r0 E.1 (fun (_ : Nat) => xV E a u v (a 6) h) (xA a 38 sz)) 0 0 (xA a 38 sz) := by
  refine fl_startI (by decide) (Nat.le_of_ble_eq_true rfl) ?_
  intro p e s m args below meth c Q hx hb hml hown hts hsz hP hK hN ret ls hl
  subst hsz
  have hA : ∀ k, k < 38 → (xA a 38 s.heap.size) (a k) := xA_in
  have hS : va_S (xA a 38 s.heap.size) s.heap s.heap [] := va_S.rf
  have hl : lv_has ls 4 [(0, .ref (a 5)), (1, .int p1)] := hl
  have b4 : ∀ (n : Nat), ∀ (x2 : Int32) (x3 : Int32) (H : Heap) (locs : List Loc) (ls : Array Slot), x_Moment_favourite_b4 p1 h n x2 x3 = some r0 → va_P E.1 xcl (xV E a u v (a 6) h) H → va_S (xA a 38 s.heap.size) s.heap H locs → lv_has ls 4 [(0, .ref (a 5)), (1, .int p1), (2, .int x2), (3, .int x3)] → W p l e rm_x_Moment_favourite s m args below meth c H locs 0 0 Q (F0 m 4 ls []) := by
    intro n
    induction n with
    | zero => intro x2 x3 H locs ls hlit hP hS hl; exact nnF hlit
    | succ n ih =>
      intro x2 x3 H locs ls hlit hP hS hl
      refine lv_iload_n hx hb d_Moment_favourite_4 rfl (lv_at hl 3 rfl) ?_
      refine lv_aload_n hx hb d_Moment_favourite_5 rfl (lv_at hl 0 rfl) ?_
      refine xg_Moment_0 hx hb hts hown hK hP q182 d_Moment_favourite_6 ?_
      refine xg_Menu_0 hx hb hts hown hK hP rfl q148 d_Moment_favourite_9 ?_
      refine lv_icmp_ge (tgt := 54) hx hb d_Moment_favourite_12 (by decide) (fun c12 => ?_) (fun c12 => ?_)
      · have hlit := brP _ hlit c12
        refine lv_iload_n hx hb d_Moment_favourite_54 rfl (lv_at hl 2 rfl) ?_
        cases hlit
        exact ret 0 _ _ _ _ trivial hP hS rfl d_Moment_favourite_55
      · have hlit := brN _ hlit c12
        refine lv_aload_n hx hb d_Moment_favourite_15 rfl (lv_at hl 0 rfl) ?_
        refine xg_Moment_2 hx hb hts hown hK hP q186 d_Moment_favourite_16 ?_
        refine lv_iload_n hx hb d_Moment_favourite_19 rfl (lv_at hl 3 rfl) ?_
        obtain ⟨r20, hl20, hlit⟩ := bindS hlit
        refine fCallI (fRunS (As := [.int (h 5 2), .int x3]) (rest := []) hx hb hml hown hts hK hN hP (cx_Moment_isIn l E a ha u v h _ (h 5 2) x3 (r0 := r20) hl20) q367 q368 q56 q369 hd_x_Moment_isIn rfl rfl ⟨Nat.le_of_ble_eq_true rfl, Nat.le_of_ble_eq_true rfl⟩ rfl hl.1 rfl (Nat.le_of_ble_eq_true rfl) d_Moment_favourite_20 ⟨Nat.zero_le _, Nat.zero_le _⟩) hS (xA_up hS.1) (fun _ H locs hu20 hP hS _ _ => ?_)
        have hP : va_P E.1 xcl (xV E a u v (a 6) h) H := hP
        refine lv_if_eq (tgt := 48) hx hb d_Moment_favourite_23 (by decide) (fun c23 => ?_) (fun c23 => ?_)
        · have hlit := brP _ hlit c23
          refine lv_iinc (v := (x3 + (1 : Int32))) (lv' := [(3, .int (x3 + (1 : Int32))), (0, .ref (a 5)), (1, .int p1), (2, .int x2)]) hx hb d_Moment_favourite_48 hl (k := 3) rfl rfl (by decide) rfl (fun ls hl => ?_)
          refine lv_goto (tgt := 4) hx hb d_Moment_favourite_51 (by decide) ?_
          exact ih x2 (x3 + (1 : Int32)) _ _ _ hlit hP hS (lv_sub hl [1, 2, 3, 0] rfl)
        · have hlit := brN _ hlit c23
          refine lv_iload_n hx hb d_Moment_favourite_26 rfl (lv_at hl 2 rfl) ?_
          refine lv_iconst (v := (-1 : Int32)) hx hb d_Moment_favourite_27 (by decide) ?_
          refine lv_icmp_eq (tgt := 46) hx hb d_Moment_favourite_28 (by decide) (fun c28 => ?_) (fun c28 => ?_)
          · have hlit := brP _ hlit c28
            refine lv_iload_n hx hb d_Moment_favourite_46 rfl (lv_at hl 3 rfl) ?_
            refine lv_istore_n (lv' := [(2, .int x3), (0, .ref (a 5)), (1, .int p1), (3, .int x3)]) hx hb d_Moment_favourite_47 rfl hl (by decide) rfl (fun ls hl => ?_)
            refine lv_iinc (v := (x3 + (1 : Int32))) (lv' := [(3, .int (x3 + (1 : Int32))), (2, .int x3), (0, .ref (a 5)), (1, .int p1)]) hx hb d_Moment_favourite_48 hl (k := 3) rfl rfl (by decide) rfl (fun ls hl => ?_)
            refine lv_goto (tgt := 4) hx hb d_Moment_favourite_51 (by decide) ?_
            exact ih x3 (x3 + (1 : Int32)) _ _ _ hlit hP hS (lv_sub hl [2, 3, 1, 0] rfl)
          · have hlit := brN _ hlit c28
            refine lv_aload_n hx hb d_Moment_favourite_31 rfl (lv_at hl 0 rfl) ?_
            refine lv_iload_n hx hb d_Moment_favourite_32 rfl (lv_at hl 1 rfl) ?_
            refine lv_iload_n hx hb d_Moment_favourite_33 rfl (lv_at hl 3 rfl) ?_
            obtain ⟨r34, hl34, hlit⟩ := bindS hlit
            refine fCallI (fRunV (As := [.int p1, .int x3]) (rest := []) (q0 := 5) (ci := 2) hx hb hml hown hts hK hN hP (cx_Moment_value l E a ha u v h _ p1 x3 (r0 := r34) hl34) q370 q371 q372 q56 q373 hd_x_Moment_value rfl rfl ⟨Nat.le_of_ble_eq_true rfl, Nat.le_of_ble_eq_true rfl⟩ xe_5 rfl rfl rfl hl.1 rfl (Nat.le_of_ble_eq_true rfl) d_Moment_favourite_34 ⟨Nat.zero_le _, Nat.zero_le _⟩) hS (xA_up hS.1) (fun _ H locs hu34 hP hS _ _ => ?_)
            have hP : va_P E.1 xcl (xV E a u v (a 6) h) H := hP
            refine lv_aload_n hx hb d_Moment_favourite_37 rfl (lv_at hl 0 rfl) ?_
            refine lv_iload_n hx hb d_Moment_favourite_38 rfl (lv_at hl 1 rfl) ?_
            refine lv_iload_n hx hb d_Moment_favourite_39 rfl (lv_at hl 2 rfl) ?_
            obtain ⟨r40, hl40, hlit⟩ := bindS hlit
            refine fCallI (fRunV (As := [.int p1, .int x2]) (rest := [.int r34]) (q0 := 5) (ci := 2) hx hb hml hown hts hK hN hP (cx_Moment_value l E a ha u v h _ p1 x2 (r0 := r40) hl40) q370 q371 q372 q56 q373 hd_x_Moment_value rfl rfl ⟨Nat.le_of_ble_eq_true rfl, Nat.le_of_ble_eq_true rfl⟩ xe_5 rfl rfl rfl hl.1 rfl (Nat.le_of_ble_eq_true rfl) d_Moment_favourite_40 ⟨Nat.zero_le _, Nat.zero_le _⟩) hS (xA_up hS.1) (fun _ H locs hu40 hP hS _ _ => ?_)
            have hP : va_P E.1 xcl (xV E a u v (a 6) h) H := hP
            refine lv_icmp_le (tgt := 48) hx hb d_Moment_favourite_43 (by decide) (fun c43 => ?_) (fun c43 => ?_)
            · have hlit := brP _ hlit c43
              refine lv_iinc (v := (x3 + (1 : Int32))) (lv' := [(3, .int (x3 + (1 : Int32))), (0, .ref (a 5)), (1, .int p1), (2, .int x2)]) hx hb d_Moment_favourite_48 hl (k := 3) rfl rfl (by decide) rfl (fun ls hl => ?_)
              refine lv_goto (tgt := 4) hx hb d_Moment_favourite_51 (by decide) ?_
              exact ih x2 (x3 + (1 : Int32)) _ _ _ hlit hP hS (lv_sub hl [1, 2, 3, 0] rfl)
            · have hlit := brN _ hlit c43
              refine lv_iload_n hx hb d_Moment_favourite_46 rfl (lv_at hl 3 rfl) ?_
              refine lv_istore_n (lv' := [(2, .int x3), (0, .ref (a 5)), (1, .int p1), (3, .int x3)]) hx hb d_Moment_favourite_47 rfl hl (by decide) rfl (fun ls hl => ?_)
              refine lv_iinc (v := (x3 + (1 : Int32))) (lv' := [(3, .int (x3 + (1 : Int32))), (2, .int x3), (0, .ref (a 5)), (1, .int p1)]) hx hb d_Moment_favourite_48 hl (k := 3) rfl rfl (by decide) rfl (fun ls hl => ?_)
              refine lv_goto (tgt := 4) hx hb d_Moment_favourite_51 (by decide) ?_
              exact ih x3 (x3 + (1 : Int32)) _ _ _ hlit hP hS (lv_sub hl [2, 3, 1, 0] rfl)
  refine lv_iconst (v := (-1 : Int32)) hx hb d_Moment_favourite_0 (by decide) ?_
  refine lv_istore_n (lv' := [(2, .int (-1 : Int32)), (0, .ref (a 5)), (1, .int p1)]) hx hb d_Moment_favourite_1 rfl hl (by decide) rfl (fun ls hl => ?_)
  refine lv_iconst (v := (0 : Int32)) hx hb d_Moment_favourite_2 (by decide) ?_
  refine lv_istore_n (lv' := [(3, .int (0 : Int32)), (2, .int (-1 : Int32)), (0, .ref (a 5)), (1, .int p1)]) hx hb d_Moment_favourite_3 rfl hl (by decide) rfl (fun ls hl => ?_)
  exact b4 FU (-1 : Int32) (0 : Int32) _ _ _ hlit hP hS (lv_sub hl [2, 3, 1, 0] rfl)

abbrev rm_x_Moment_leastLiked : Room := { frames := 3, cells := 0, slots := 0, locals := 66 }
theorem hd_x_Moment_leastLiked : y_Moment_leastLiked.cls ≠ "java/lang/invoke/MethodHandle" ∧ y_Moment_leastLiked.cls ≠ "java/lang/invoke/VarHandle" ∧ (parseMethodDescriptor y_Moment_leastLiked.desc).map (fun d => d.parameters.length) = some 2 := by decide +kernel
set_option maxHeartbeats 4000000 in
set_option maxRecDepth 100000 in
theorem cx_Moment_leastLiked (l : Launch) (E : xE) (a : Nat → Nat) (ha : xInj a 38) (u v : Nat) (h : Hp) (sz : Nat) (p1 : Int32) (p2 : Int32) {r0 : Int32} (hlit : x_Moment_leastLiked p1 p2 h = some r0) : Met l y_Moment_leastLiked (Cond.code y_Moment_leastLiked b_Moment_leastLiked 5 (some .int) :: TB) rm_x_Moment_leastLiked (fPc [.ref (a 5), .int p1, .int p2] E.1 (xtys E) sz (xV E a u v (a 6) h)) (fQi (fun _ : Nat => True) r0 E.1 (fun (_ : Nat) => xV E a u v (a 6) h) (xA a 38 sz)) 0 0 (xA a 38 sz) := by
  refine fl_startI (by decide) (Nat.le_of_ble_eq_true rfl) ?_
  intro p e s m args below meth c Q hx hb hml hown hts hsz hP hK hN ret ls hl
  subst hsz
  have hA : ∀ k, k < 38 → (xA a 38 s.heap.size) (a k) := xA_in
  have hS : va_S (xA a 38 s.heap.size) s.heap s.heap [] := va_S.rf
  have hl : lv_has ls 5 [(0, .ref (a 5)), (1, .int p1), (2, .int p2)] := hl
  have b5 : ∀ (n : Nat), ∀ (x3 : Int32) (x4 : Int32) (H : Heap) (locs : List Loc) (ls : Array Slot), x_Moment_leastLiked_b5 p1 p2 h n x3 x4 = some r0 → va_P E.1 xcl (xV E a u v (a 6) h) H → va_S (xA a 38 s.heap.size) s.heap H locs → lv_has ls 5 [(0, .ref (a 5)), (1, .int p1), (2, .int p2), (3, .int x3), (4, .int x4)] → W p l e rm_x_Moment_leastLiked s m args below meth c H locs 0 0 Q (F0 m 5 ls []) := by
    intro n
    induction n with
    | zero => intro x3 x4 H locs ls hlit hP hS hl; exact nnF hlit
    | succ n ih =>
      intro x3 x4 H locs ls hlit hP hS hl
      refine lv_iload hx hb d_Moment_leastLiked_5 (lv_at hl 4 rfl) ?_
      refine lv_aload_n hx hb d_Moment_leastLiked_7 rfl (lv_at hl 0 rfl) ?_
      refine xg_Moment_0 hx hb hts hown hK hP q182 d_Moment_leastLiked_8 ?_
      refine xg_Menu_0 hx hb hts hown hK hP rfl q148 d_Moment_leastLiked_11 ?_
      refine lv_icmp_ge (tgt := 56) hx hb d_Moment_leastLiked_14 (by decide) (fun c14 => ?_) (fun c14 => ?_)
      · have hlit := brP _ hlit c14
        refine lv_iload_n hx hb d_Moment_leastLiked_56 rfl (lv_at hl 3 rfl) ?_
        cases hlit
        exact ret 0 _ _ _ _ trivial hP hS rfl d_Moment_leastLiked_57
      · have hlit := brN _ hlit c14
        refine lv_iload_n hx hb d_Moment_leastLiked_17 rfl (lv_at hl 2 rfl) ?_
        refine lv_iload hx hb d_Moment_leastLiked_18 (lv_at hl 4 rfl) ?_
        obtain ⟨r20, hl20, hlit⟩ := bindS hlit
        refine fCallI (fRunS (As := [.int p2, .int x4]) (rest := []) hx hb hml hown hts hK hN hP (cx_Moment_isIn l E a ha u v h _ p2 x4 (r0 := r20) hl20) q367 q368 q56 q369 hd_x_Moment_isIn rfl rfl ⟨Nat.le_of_ble_eq_true rfl, Nat.le_of_ble_eq_true rfl⟩ rfl hl.1 rfl (Nat.le_of_ble_eq_true rfl) d_Moment_leastLiked_20 ⟨Nat.zero_le _, Nat.zero_le _⟩) hS (xA_up hS.1) (fun _ H locs hu20 hP hS _ _ => ?_)
        have hP : va_P E.1 xcl (xV E a u v (a 6) h) H := hP
        refine lv_if_eq (tgt := 50) hx hb d_Moment_leastLiked_23 (by decide) (fun c23 => ?_) (fun c23 => ?_)
        · have hlit := brP _ hlit c23
          refine lv_iinc (v := (x4 + (1 : Int32))) (lv' := [(4, .int (x4 + (1 : Int32))), (0, .ref (a 5)), (1, .int p1), (2, .int p2), (3, .int x3)]) hx hb d_Moment_leastLiked_50 hl (k := 4) rfl rfl (by decide) rfl (fun ls hl => ?_)
          refine lv_goto (tgt := 5) hx hb d_Moment_leastLiked_53 (by decide) ?_
          exact ih x3 (x4 + (1 : Int32)) _ _ _ hlit hP hS (lv_sub hl [1, 2, 3, 4, 0] rfl)
        · have hlit := brN _ hlit c23
          refine lv_iload_n hx hb d_Moment_leastLiked_26 rfl (lv_at hl 3 rfl) ?_
          refine lv_iconst (v := (-1 : Int32)) hx hb d_Moment_leastLiked_27 (by decide) ?_
          refine lv_icmp_eq (tgt := 47) hx hb d_Moment_leastLiked_28 (by decide) (fun c28 => ?_) (fun c28 => ?_)
          · have hlit := brP _ hlit c28
            refine lv_iload hx hb d_Moment_leastLiked_47 (lv_at hl 4 rfl) ?_
            refine lv_istore_n (lv' := [(3, .int x4), (0, .ref (a 5)), (1, .int p1), (2, .int p2), (4, .int x4)]) hx hb d_Moment_leastLiked_49 rfl hl (by decide) rfl (fun ls hl => ?_)
            refine lv_iinc (v := (x4 + (1 : Int32))) (lv' := [(4, .int (x4 + (1 : Int32))), (3, .int x4), (0, .ref (a 5)), (1, .int p1), (2, .int p2)]) hx hb d_Moment_leastLiked_50 hl (k := 4) rfl rfl (by decide) rfl (fun ls hl => ?_)
            refine lv_goto (tgt := 5) hx hb d_Moment_leastLiked_53 (by decide) ?_
            exact ih x4 (x4 + (1 : Int32)) _ _ _ hlit hP hS (lv_sub hl [2, 3, 4, 1, 0] rfl)
          · have hlit := brN _ hlit c28
            refine lv_aload_n hx hb d_Moment_leastLiked_31 rfl (lv_at hl 0 rfl) ?_
            refine lv_iload_n hx hb d_Moment_leastLiked_32 rfl (lv_at hl 1 rfl) ?_
            refine lv_iload hx hb d_Moment_leastLiked_33 (lv_at hl 4 rfl) ?_
            obtain ⟨r35, hl35, hlit⟩ := bindS hlit
            refine fCallI (fRunV (As := [.int p1, .int x4]) (rest := []) (q0 := 5) (ci := 2) hx hb hml hown hts hK hN hP (cx_Moment_value l E a ha u v h _ p1 x4 (r0 := r35) hl35) q370 q371 q372 q56 q373 hd_x_Moment_value rfl rfl ⟨Nat.le_of_ble_eq_true rfl, Nat.le_of_ble_eq_true rfl⟩ xe_5 rfl rfl rfl hl.1 rfl (Nat.le_of_ble_eq_true rfl) d_Moment_leastLiked_35 ⟨Nat.zero_le _, Nat.zero_le _⟩) hS (xA_up hS.1) (fun _ H locs hu35 hP hS _ _ => ?_)
            have hP : va_P E.1 xcl (xV E a u v (a 6) h) H := hP
            refine lv_aload_n hx hb d_Moment_leastLiked_38 rfl (lv_at hl 0 rfl) ?_
            refine lv_iload_n hx hb d_Moment_leastLiked_39 rfl (lv_at hl 1 rfl) ?_
            refine lv_iload_n hx hb d_Moment_leastLiked_40 rfl (lv_at hl 3 rfl) ?_
            obtain ⟨r41, hl41, hlit⟩ := bindS hlit
            refine fCallI (fRunV (As := [.int p1, .int x3]) (rest := [.int r35]) (q0 := 5) (ci := 2) hx hb hml hown hts hK hN hP (cx_Moment_value l E a ha u v h _ p1 x3 (r0 := r41) hl41) q370 q371 q372 q56 q373 hd_x_Moment_value rfl rfl ⟨Nat.le_of_ble_eq_true rfl, Nat.le_of_ble_eq_true rfl⟩ xe_5 rfl rfl rfl hl.1 rfl (Nat.le_of_ble_eq_true rfl) d_Moment_leastLiked_41 ⟨Nat.zero_le _, Nat.zero_le _⟩) hS (xA_up hS.1) (fun _ H locs hu41 hP hS _ _ => ?_)
            have hP : va_P E.1 xcl (xV E a u v (a 6) h) H := hP
            refine lv_icmp_gt (tgt := 50) hx hb d_Moment_leastLiked_44 (by decide) (fun c44 => ?_) (fun c44 => ?_)
            · have hlit := brP _ hlit c44
              refine lv_iinc (v := (x4 + (1 : Int32))) (lv' := [(4, .int (x4 + (1 : Int32))), (0, .ref (a 5)), (1, .int p1), (2, .int p2), (3, .int x3)]) hx hb d_Moment_leastLiked_50 hl (k := 4) rfl rfl (by decide) rfl (fun ls hl => ?_)
              refine lv_goto (tgt := 5) hx hb d_Moment_leastLiked_53 (by decide) ?_
              exact ih x3 (x4 + (1 : Int32)) _ _ _ hlit hP hS (lv_sub hl [1, 2, 3, 4, 0] rfl)
            · have hlit := brN _ hlit c44
              refine lv_iload hx hb d_Moment_leastLiked_47 (lv_at hl 4 rfl) ?_
              refine lv_istore_n (lv' := [(3, .int x4), (0, .ref (a 5)), (1, .int p1), (2, .int p2), (4, .int x4)]) hx hb d_Moment_leastLiked_49 rfl hl (by decide) rfl (fun ls hl => ?_)
              refine lv_iinc (v := (x4 + (1 : Int32))) (lv' := [(4, .int (x4 + (1 : Int32))), (3, .int x4), (0, .ref (a 5)), (1, .int p1), (2, .int p2)]) hx hb d_Moment_leastLiked_50 hl (k := 4) rfl rfl (by decide) rfl (fun ls hl => ?_)
              refine lv_goto (tgt := 5) hx hb d_Moment_leastLiked_53 (by decide) ?_
              exact ih x4 (x4 + (1 : Int32)) _ _ _ hlit hP hS (lv_sub hl [2, 3, 4, 1, 0] rfl)
  refine lv_iconst (v := (-1 : Int32)) hx hb d_Moment_leastLiked_0 (by decide) ?_
  refine lv_istore_n (lv' := [(3, .int (-1 : Int32)), (0, .ref (a 5)), (1, .int p1), (2, .int p2)]) hx hb d_Moment_leastLiked_1 rfl hl (by decide) rfl (fun ls hl => ?_)
  refine lv_iconst (v := (0 : Int32)) hx hb d_Moment_leastLiked_2 (by decide) ?_
  refine lv_istore (lv' := [(4, .int (0 : Int32)), (3, .int (-1 : Int32)), (0, .ref (a 5)), (1, .int p1), (2, .int p2)]) hx hb d_Moment_leastLiked_3 hl (by decide) rfl (fun ls hl => ?_)
  exact b5 FU (-1 : Int32) (0 : Int32) _ _ _ hlit hP hS (lv_sub hl [2, 3, 4, 1, 0] rfl)

abbrev rm_x_Moment_gives : Room := { frames := 4, cells := 0, slots := 0, locals := 89 }
theorem hd_x_Moment_gives : y_Moment_gives.cls ≠ "java/lang/invoke/MethodHandle" ∧ y_Moment_gives.cls ≠ "java/lang/invoke/VarHandle" ∧ (parseMethodDescriptor y_Moment_gives.desc).map (fun d => d.parameters.length) = some 3 := by decide +kernel
set_option maxHeartbeats 4000000 in
set_option maxRecDepth 100000 in
theorem cx_Moment_gives (l : Launch) (E : xE) (a : Nat → Nat) (ha : xInj a 38) (u v : Nat) (h : Hp) (sz : Nat) (p1 : Int32) (p2 : Int32) (p3 : Int32) {r0 : Int32} (hlit : x_Moment_gives p1 p2 p3 h = some r0) : Met l y_Moment_gives (Cond.code y_Moment_gives b_Moment_gives 4 (some .boolean) :: TB) rm_x_Moment_gives (fPc [.ref (a 5), .int p1, .int p2, .int p3] E.1 (xtys E) sz (xV E a u v (a 6) h)) (fQi (fun _ : Nat => True) r0 E.1 (fun (_ : Nat) => xV E a u v (a 6) h) (xA a 38 sz)) 0 0 (xA a 38 sz) := by
  refine fl_startI (by decide) (Nat.le_of_ble_eq_true rfl) ?_
  intro p e s m args below meth c Q hx hb hml hown hts hsz hP hK hN ret ls hl
  subst hsz
  have hA : ∀ k, k < 38 → (xA a 38 s.heap.size) (a k) := xA_in
  have hS : va_S (xA a 38 s.heap.size) s.heap s.heap [] := va_S.rf
  have hl : lv_has ls 4 [(0, .ref (a 5)), (1, .int p1), (2, .int p2), (3, .int p3)] := hl
  refine lv_aload_n hx hb d_Moment_gives_0 rfl (lv_at hl 0 rfl) ?_
  refine xg_Moment_2 hx hb hts hown hK hP q186 d_Moment_gives_1 ?_
  refine lv_iload_n hx hb d_Moment_gives_4 rfl (lv_at hl 3 rfl) ?_
  obtain ⟨r5, hl5, hlit⟩ := bindS hlit
  refine fCallI (fRunS (As := [.int (h 5 2), .int p3]) (rest := []) hx hb hml hown hts hK hN hP (cx_Moment_isIn l E a ha u v h _ (h 5 2) p3 (r0 := r5) hl5) q367 q368 q56 q369 hd_x_Moment_isIn rfl rfl ⟨Nat.le_of_ble_eq_true rfl, Nat.le_of_ble_eq_true rfl⟩ rfl hl.1 rfl (Nat.le_of_ble_eq_true rfl) d_Moment_gives_5 ⟨Nat.zero_le _, Nat.zero_le _⟩) hS (xA_up hS.1) (fun _ H locs hu5 hP hS _ _ => ?_)
  have hP : va_P E.1 xcl (xV E a u v (a 6) h) H := hP
  refine lv_if_ne (tgt := 13) hx hb d_Moment_gives_8 (by decide) (fun c8 => ?_) (fun c8 => ?_)
  · have hlit := brN _ hlit c8
    refine lv_iload_n hx hb d_Moment_gives_13 rfl (lv_at hl 1 rfl) ?_
    by_cases c14_0 : p1 = 0
    · have hlit := brP _ hlit c14_0
      refine lv_tableIn (off := 30) (tgt := 44) hx hb d_Moment_gives_14 (by rw [c14_0]; decide) (by rw [c14_0]; decide) (by rw [c14_0]; rfl) (by decide) ?_
      refine lv_aload_n hx hb d_Moment_gives_44 rfl (lv_at hl 0 rfl) ?_
      refine lv_iload_n hx hb d_Moment_gives_45 rfl (lv_at hl 2 rfl) ?_
      refine lv_iload_n hx hb d_Moment_gives_46 rfl (lv_at hl 3 rfl) ?_
      obtain ⟨r47, hl47, hlit⟩ := bindS hlit
      refine fCallI (fRunV (As := [.int p2, .int p3]) (rest := []) (q0 := 5) (ci := 2) hx hb hml hown hts hK hN hP (cx_Moment_value l E a ha u v h _ p2 p3 (r0 := r47) hl47) q370 q371 q372 q56 q373 hd_x_Moment_value rfl rfl ⟨Nat.le_of_ble_eq_true rfl, Nat.le_of_ble_eq_true rfl⟩ xe_5 rfl rfl rfl hl.1 rfl (Nat.le_of_ble_eq_true rfl) d_Moment_gives_47 ⟨Nat.zero_le _, Nat.zero_le _⟩) hS (xA_up hS.1) (fun _ H locs hu47 hP hS _ _ => ?_)
      have hP : va_P E.1 xcl (xV E a u v (a 6) h) H := hP
      refine lv_iconst (v := (5 : Int32)) hx hb d_Moment_gives_50 (by decide) ?_
      refine lv_icmp_lt (tgt := 58) hx hb d_Moment_gives_51 (by decide) (fun c51 => ?_) (fun c51 => ?_)
      · have hlit := brP _ hlit c51
        refine lv_iconst (v := (0 : Int32)) hx hb d_Moment_gives_58 (by decide) ?_
        cases hlit
        exact ret 0 _ _ _ _ trivial hP hS rfl d_Moment_gives_59
      · have hlit := brN _ hlit c51
        refine lv_iconst (v := (1 : Int32)) hx hb d_Moment_gives_54 (by decide) ?_
        refine lv_goto (tgt := 59) hx hb d_Moment_gives_55 (by decide) ?_
        cases hlit
        exact ret 0 _ _ _ _ trivial hP hS rfl d_Moment_gives_59
    · have hlit := brN _ hlit c14_0
      by_cases c14_1 : p1 = 1
      · have hlit := brP _ hlit c14_1
        refine lv_tableIn (off := 46) (tgt := 60) hx hb d_Moment_gives_14 (by rw [c14_1]; decide) (by rw [c14_1]; decide) (by rw [c14_1]; rfl) (by decide) ?_
        refine lv_iconst (v := (1 : Int32)) hx hb d_Moment_gives_60 (by decide) ?_
        cases hlit
        exact ret 0 _ _ _ _ trivial hP hS rfl d_Moment_gives_61
      · have hlit := brN _ hlit c14_1
        by_cases c14_2 : p1 = 2
        · have hlit := brP _ hlit c14_2
          refine lv_tableIn (off := 72) (tgt := 86) hx hb d_Moment_gives_14 (by rw [c14_2]; decide) (by rw [c14_2]; decide) (by rw [c14_2]; rfl) (by decide) ?_
          refine lv_iconst (v := (0 : Int32)) hx hb d_Moment_gives_86 (by decide) ?_
          cases hlit
          exact ret 0 _ _ _ _ trivial hP hS rfl d_Moment_gives_87
        · have hlit := brN _ hlit c14_2
          by_cases c14_3 : p1 = 3
          · have hlit := brP _ hlit c14_3
            refine lv_tableIn (off := 48) (tgt := 62) hx hb d_Moment_gives_14 (by rw [c14_3]; decide) (by rw [c14_3]; decide) (by rw [c14_3]; rfl) (by decide) ?_
            refine lv_aload_n hx hb d_Moment_gives_62 rfl (lv_at hl 0 rfl) ?_
            refine lv_iload_n hx hb d_Moment_gives_63 rfl (lv_at hl 2 rfl) ?_
            refine lv_iload_n hx hb d_Moment_gives_64 rfl (lv_at hl 3 rfl) ?_
            obtain ⟨r65, hl65, hlit⟩ := bindS hlit
            refine fCallI (fRunV (As := [.int p2, .int p3]) (rest := []) (q0 := 5) (ci := 2) hx hb hml hown hts hK hN hP (cx_Moment_value l E a ha u v h _ p2 p3 (r0 := r65) hl65) q370 q371 q372 q56 q373 hd_x_Moment_value rfl rfl ⟨Nat.le_of_ble_eq_true rfl, Nat.le_of_ble_eq_true rfl⟩ xe_5 rfl rfl rfl hl.1 rfl (Nat.le_of_ble_eq_true rfl) d_Moment_gives_65 ⟨Nat.zero_le _, Nat.zero_le _⟩) hS (xA_up hS.1) (fun _ H locs hu65 hP hS _ _ => ?_)
            have hP : va_P E.1 xcl (xV E a u v (a 6) h) H := hP
            refine lv_if_le (tgt := 84) hx hb d_Moment_gives_68 (by decide) (fun c68 => ?_) (fun c68 => ?_)
            · have hlit := brP _ hlit c68
              refine lv_iconst (v := (0 : Int32)) hx hb d_Moment_gives_84 (by decide) ?_
              cases hlit
              exact ret 0 _ _ _ _ trivial hP hS rfl d_Moment_gives_85
            · have hlit := brN _ hlit c68
              refine lv_aload_n hx hb d_Moment_gives_71 rfl (lv_at hl 0 rfl) ?_
              refine lv_iload_n hx hb d_Moment_gives_72 rfl (lv_at hl 2 rfl) ?_
              obtain ⟨r73, hl73, hlit⟩ := bindS hlit
              refine fCallI (fRunV (As := [.int p2]) (rest := []) (q0 := 5) (ci := 2) hx hb hml hown hts hK hN hP (cx_Moment_favourite l E a ha u v h _ p2 (r0 := r73) hl73) q383 q384 q385 q56 q386 hd_x_Moment_favourite rfl rfl ⟨Nat.le_of_ble_eq_true rfl, Nat.le_of_ble_eq_true rfl⟩ xe_5 rfl rfl rfl hl.1 rfl (Nat.le_of_ble_eq_true rfl) d_Moment_gives_73 ⟨Nat.zero_le _, Nat.zero_le _⟩) hS (xA_up hS.1) (fun _ H locs hu73 hP hS _ _ => ?_)
              have hP : va_P E.1 xcl (xV E a u v (a 6) h) H := hP
              refine lv_iload_n hx hb d_Moment_gives_76 rfl (lv_at hl 3 rfl) ?_
              refine lv_icmp_ne (tgt := 84) hx hb d_Moment_gives_77 (by decide) (fun c77 => ?_) (fun c77 => ?_)
              · have hlit := brN _ hlit c77
                refine lv_iconst (v := (0 : Int32)) hx hb d_Moment_gives_84 (by decide) ?_
                cases hlit
                exact ret 0 _ _ _ _ trivial hP hS rfl d_Moment_gives_85
              · have hlit := brP _ hlit c77
                refine lv_iconst (v := (1 : Int32)) hx hb d_Moment_gives_80 (by decide) ?_
                refine lv_goto (tgt := 85) hx hb d_Moment_gives_81 (by decide) ?_
                cases hlit
                exact ret 0 _ _ _ _ trivial hP hS rfl d_Moment_gives_85
          · have hlit := brN _ hlit c14_3
            refine lv_tableOut (tgt := 86) hx hb d_Moment_gives_14 (sw_out3 c14_0 c14_1 c14_2 c14_3) (by decide) ?_
            refine lv_iconst (v := (0 : Int32)) hx hb d_Moment_gives_86 (by decide) ?_
            cases hlit
            exact ret 0 _ _ _ _ trivial hP hS rfl d_Moment_gives_87
  · have hlit := brP _ hlit c8
    refine lv_iconst (v := (0 : Int32)) hx hb d_Moment_gives_11 (by decide) ?_
    cases hlit
    exact ret 0 _ _ _ _ trivial hP hS rfl d_Moment_gives_12
