/-! the inner constructors of the class -/
abbrev rm_x_Note_init : Room := { frames := 1, cells := 0, slots := 0, locals := 20 }
theorem hd_x_Note_init : y_Note_init.cls ≠ "java/lang/invoke/MethodHandle" ∧ y_Note_init.cls ≠ "java/lang/invoke/VarHandle" ∧ (parseMethodDescriptor y_Note_init.desc).map (fun d => d.parameters.length) = some 0 := by decide +kernel
set_option maxHeartbeats 4000000 in
set_option maxRecDepth 100000 in
theorem cx_Note_init (l : Launch) (E : xE) (b sz : Nat) : Met l y_Note_init (Cond.code y_Note_init b_Note_init 1 none :: TB) rm_x_Note_init (fPc [.ref b] E.1 (xtys E) sz [(b, .inr (3, [.int 0, .int 0, .int 0, .int 0, .int 0]))]) (fQv (fun u : Nat => True) E.1 (fun u => [(b, .inr (3, [.int 0, .int 0, .int 0, .int 0, .int 0]))]) (xA (fun _ => b) 1 sz)) 0 0 (xA (fun _ => b) 1 sz) := by
  refine fl_startN (by decide) (Nat.le_of_ble_eq_true rfl) ?_
  intro p e s m args below meth c Q hx hb hml hown hin hts hsz hP hK hN ret ls hl
  subst hsz
  have hA : ∀ q : Nat, s.heap.size ≤ q → xA (fun _ => b) 1 s.heap.size q := fun q h => Or.inr h
  have hS : va_S (xA (fun _ => b) 1 s.heap.size) s.heap s.heap [] := va_S.rf
  have hD : va_D (xA (fun _ => b) 1 s.heap.size) [(b, .inr (3, [.int 0, .int 0, .int 0, .int 0, .int 0]))] := va_D_of (a := fun _ => b) (n := 1) rfl (fun i j hi hj _ => by omega) xA_in
  have hl : lv_has ls 1 [(0, .ref b)] := hl
  refine lv_aload_n hx hb d_Note_init_0 rfl (lv_at hl 0 rfl) ?_
  refine W.objInit hx hb hown (hts _ q125) (hts _ q70) (hts _ q71) rfl (by rw [hml]; exact hl.1) rfl d_Note_init_1 (Nat.le_of_ble_eq_true rfl) (Nat.le_of_ble_eq_true rfl) ?_
  refine W.eq (g2 := F0 m 4 ls []) rfl ?_
  exact ret 0 _ _ _ _ trivial hP hS d_Note_init_4
abbrev rm_x_Table_init : Room := { frames := 1, cells := 0, slots := 0, locals := 20 }
theorem hd_x_Table_init : y_Table_init.cls ≠ "java/lang/invoke/MethodHandle" ∧ y_Table_init.cls ≠ "java/lang/invoke/VarHandle" ∧ (parseMethodDescriptor y_Table_init.desc).map (fun d => d.parameters.length) = some 0 := by decide +kernel
set_option maxHeartbeats 4000000 in
set_option maxRecDepth 100000 in
theorem cx_Table_init (l : Launch) (E : xE) (b sz : Nat) : Met l y_Table_init (Cond.code y_Table_init b_Table_init 1 none :: TB) rm_x_Table_init (fPc [.ref b] E.1 (xtys E) sz [(b, .inr (7, [.int 0, .int 0, .int 0, .int 0]))]) (fQv (fun u : Nat => True) E.1 (fun u => [(b, .inr (7, [.int 0, .int 0, .int (-1), .int 0]))]) (xA (fun _ => b) 1 sz)) 0 0 (xA (fun _ => b) 1 sz) := by
  refine fl_startN (by decide) (Nat.le_of_ble_eq_true rfl) ?_
  intro p e s m args below meth c Q hx hb hml hown hin hts hsz hP hK hN ret ls hl
  subst hsz
  have hA : ∀ q : Nat, s.heap.size ≤ q → xA (fun _ => b) 1 s.heap.size q := fun q h => Or.inr h
  have hS : va_S (xA (fun _ => b) 1 s.heap.size) s.heap s.heap [] := va_S.rf
  have hD : va_D (xA (fun _ => b) 1 s.heap.size) [(b, .inr (7, [.int 0, .int 0, .int 0, .int 0]))] := va_D_of (a := fun _ => b) (n := 1) rfl (fun i j hi hj _ => by omega) xA_in
  have hl : lv_has ls 1 [(0, .ref b)] := hl
  refine lv_aload_n hx hb d_Table_init_0 rfl (lv_at hl 0 rfl) ?_
  refine W.objInit hx hb hown (hts _ q91) (hts _ q70) (hts _ q71) rfl (by rw [hml]; exact hl.1) rfl d_Table_init_1 (Nat.le_of_ble_eq_true rfl) (Nat.le_of_ble_eq_true rfl) ?_
  refine W.eq (g2 := F0 m 4 ls []) rfl ?_
  refine lv_aload_n hx hb d_Table_init_4 rfl (lv_at hl 0 rfl) ?_
  refine lv_iconst (v := (-1 : Int32)) hx hb d_Table_init_5 (by decide) ?_
  refine va_put (D := E.1) (ci := 7) (v := .int (-1)) (ty := .int) (C := R_Table) (T := T_Table) (N := 4) hx hb hts in_Table ty_Table tk_Table nm_Table hown hK hP hD hS 0 rfl rfl 2 (by decide) (hts _ q96) (fun _ h9 => h9) rfl (tk_Table 2 (by decide)) rfl rfl (Nat.le_of_ble_eq_true rfl) d_Table_init_6 (fun H locs hP hD hS => ?_)
  exact ret 0 _ _ _ _ trivial hP hS d_Table_init_9
abbrev rm_x_Moment_init : Room := { frames := 1, cells := 0, slots := 0, locals := 20 }
theorem hd_x_Moment_init : y_Moment_init.cls ≠ "java/lang/invoke/MethodHandle" ∧ y_Moment_init.cls ≠ "java/lang/invoke/VarHandle" ∧ (parseMethodDescriptor y_Moment_init.desc).map (fun d => d.parameters.length) = some 1 := by decide +kernel
set_option maxHeartbeats 4000000 in
set_option maxRecDepth 100000 in
theorem cx_Moment_init (l : Launch) (E : xE) (b sz : Nat) (mm : Nat) : Met l y_Moment_init (Cond.code y_Moment_init b_Moment_init 2 none :: TB) rm_x_Moment_init (fPc [.ref b, .ref mm] E.1 (xtys E) sz [(b, .inr (2, [.null, .int 0, .int 0]))]) (fQv (fun u : Nat => True) E.1 (fun u => [(b, .inr (2, [.ref mm, .int 0, .int 0]))]) (xA (fun _ => b) 1 sz)) 0 0 (xA (fun _ => b) 1 sz) := by
  refine fl_startN (by decide) (Nat.le_of_ble_eq_true rfl) ?_
  intro p e s m args below meth c Q hx hb hml hown hin hts hsz hP hK hN ret ls hl
  subst hsz
  have hA : ∀ q : Nat, s.heap.size ≤ q → xA (fun _ => b) 1 s.heap.size q := fun q h => Or.inr h
  have hS : va_S (xA (fun _ => b) 1 s.heap.size) s.heap s.heap [] := va_S.rf
  have hD : va_D (xA (fun _ => b) 1 s.heap.size) [(b, .inr (2, [.null, .int 0, .int 0]))] := va_D_of (a := fun _ => b) (n := 1) rfl (fun i j hi hj _ => by omega) xA_in
  have hl : lv_has ls 2 [(0, .ref b), (1, .ref mm)] := hl
  refine lv_aload_n hx hb d_Moment_init_0 rfl (lv_at hl 0 rfl) ?_
  refine W.objInit hx hb hown (hts _ q181) (hts _ q70) (hts _ q71) rfl (by rw [hml]; exact hl.1) rfl d_Moment_init_1 (Nat.le_of_ble_eq_true rfl) (Nat.le_of_ble_eq_true rfl) ?_
  refine W.eq (g2 := F0 m 4 ls []) rfl ?_
  refine lv_aload_n hx hb d_Moment_init_4 rfl (lv_at hl 0 rfl) ?_
  refine lv_aload_n hx hb d_Moment_init_5 rfl (lv_at hl 1 rfl) ?_
  refine va_put (D := E.1) (ci := 2) (v := .ref mm) (ty := .object "NoneMinds$Menu") (C := R_Moment) (T := T_Moment) (N := 3) hx hb hts in_Moment ty_Moment tk_Moment nm_Moment hown hK hP hD hS 0 rfl rfl 0 (by decide) (hts _ q182) (fun _ h9 => h9) rfl (tk_Moment 0 (by decide)) rfl rfl (Nat.le_of_ble_eq_true rfl) d_Moment_init_6 (fun H locs hP hD hS => ?_)
  exact ret 0 _ _ _ _ trivial hP hS d_Moment_init_9
abbrev rm_x_Reader_init : Room := { frames := 1, cells := 1, slots := 200, locals := 20 }
theorem hd_x_Reader_init : y_Reader_init.cls ≠ "java/lang/invoke/MethodHandle" ∧ y_Reader_init.cls ≠ "java/lang/invoke/VarHandle" ∧ (parseMethodDescriptor y_Reader_init.desc).map (fun d => d.parameters.length) = some 0 := by decide +kernel
set_option maxHeartbeats 4000000 in
set_option maxRecDepth 100000 in
theorem cx_Reader_init (l : Launch) (E : xE) (b sz : Nat) : Met l y_Reader_init (Cond.code y_Reader_init b_Reader_init 1 none :: TB) rm_x_Reader_init (fPc [.ref b] E.1 (xtys E) sz [(b, .inr (6, [.null, .int 0, .int 0, .int 0]))]) (fQv (fun u : Nat => True) E.1 (fun u => [(b, .inr (6, [.ref u, .int 0, .int 0, .int 0])), (u, .inl (E.2.1, 200, .inl (fun _ => 0)))]) (xA (fun _ => b) 1 sz)) 1 200 (xA (fun _ => b) 1 sz) := by
  refine fl_startN (by decide) (Nat.le_of_ble_eq_true rfl) ?_
  intro p e s m args below meth c Q hx hb hml hown hin hts hsz hP hK hN ret ls hl
  subst hsz
  have hA : ∀ q : Nat, s.heap.size ≤ q → xA (fun _ => b) 1 s.heap.size q := fun q h => Or.inr h
  have hS : va_S (xA (fun _ => b) 1 s.heap.size) s.heap s.heap [] := va_S.rf
  have hD : va_D (xA (fun _ => b) 1 s.heap.size) [(b, .inr (6, [.null, .int 0, .int 0, .int 0]))] := va_D_of (a := fun _ => b) (n := 1) rfl (fun i j hi hj _ => by omega) xA_in
  have hl : lv_has ls 1 [(0, .ref b)] := hl
  refine lv_aload_n hx hb d_Reader_init_0 rfl (lv_at hl 0 rfl) ?_
  refine W.objInit hx hb hown (hts _ q76) (hts _ q70) (hts _ q71) rfl (by rw [hml]; exact hl.1) rfl d_Reader_init_1 (Nat.le_of_ble_eq_true rfl) (Nat.le_of_ble_eq_true rfl) ?_
  refine W.eq (g2 := F0 m 4 ls []) rfl ?_
  refine lv_aload_n hx hb d_Reader_init_4 rfl (lv_at hl 0 rfl) ?_
  refine lv_sipush (v := (200 : Int32)) hx hb d_Reader_init_5 (by decide) ?_
  refine va_newa (atype := .int) (N' := 200) (a0 := (200, .inl (fun _ => 0))) (ty := .int) hx hb (hts _ q86) rfl hK hP hD hS hA (fun _ => rfl) (by decide) (by decide) (by decide) (Nat.le_of_ble_eq_true rfl) (Nat.le_of_ble_eq_true rfl) d_Reader_init_8 (fun q1 c1 H hK1 hP hD hS => ?_)
  obtain rfl : c1 = E.2.1 := one_int (t1 := []) (t2 := [(E.2.2.1, .object "NoneMinds$Table"), (E.2.2.2, .object "NoneMinds$Note")]) hK1
  have hP : va_P E.1 xcl [(b, .inr (6, [.null, .int 0, .int 0, .int 0])), (q1, .inl (E.2.1, 200, .inl (fun _ => 0)))] H := hP
  have hD : va_D (xA (fun _ => b) 1 s.heap.size) [(b, .inr (6, [.null, .int 0, .int 0, .int 0])), (q1, .inl (E.2.1, 200, .inl (fun _ => 0)))] := hD
  refine va_putF (D := E.1) (ci := 6) (v := .ref q1) (ty := .array .int) (C := R_Reader) (T := T_Reader) hx hb hts in_Reader ty_Reader tk_Reader nm_Reader hown hK hP hD hS 0 rfl rfl 0 (by decide) (hts _ q77) (fun _ h9 => h9) rfl hin rfl (tk_Reader 0 (by decide)) rfl rfl (Nat.le_of_ble_eq_true rfl) d_Reader_init_10 (fun H locs hP hD hS => ?_)
  have hP : va_P E.1 xcl [(b, .inr (6, [.ref q1, .int 0, .int 0, .int 0])), (q1, .inl (E.2.1, 200, .inl (fun _ => 0)))] H := hP
  have hD : va_D (xA (fun _ => b) 1 s.heap.size) [(b, .inr (6, [.ref q1, .int 0, .int 0, .int 0])), (q1, .inl (E.2.1, 200, .inl (fun _ => 0)))] := hD
  refine W.widen (k := 1) (n := 200) (Nat.le_of_ble_eq_true rfl) (Nat.le_of_ble_eq_true rfl) ?_
  exact ret q1 _ _ _ _ trivial hP hS d_Reader_init_13
abbrev rm_x_Menu_init : Room := { frames := 1, cells := 3, slots := 69, locals := 20 }
theorem hd_x_Menu_init : y_Menu_init.cls ≠ "java/lang/invoke/MethodHandle" ∧ y_Menu_init.cls ≠ "java/lang/invoke/VarHandle" ∧ (parseMethodDescriptor y_Menu_init.desc).map (fun d => d.parameters.length) = some 0 := by decide +kernel
set_option maxHeartbeats 4000000 in
set_option maxRecDepth 100000 in
theorem cx_Menu_init (l : Launch) (E : xE) (b sz : Nat) : Met l y_Menu_init (Cond.code y_Menu_init b_Menu_init 1 none :: TB) rm_x_Menu_init (fPc [.ref b] E.1 (xtys E) sz [(b, .inr (1, [.int 0, .int 0, .int 0, .int 0, .int 0, .null, .null, .null]))]) (fQv (fun u : Nat × Nat × Nat => True) E.1 (fun u => [(b, .inr (1, [.int 0, .int 0, .int 0, .int 0, .int 0, .ref u.1, .ref u.2.1, .ref u.2.2])), (u.1, .inl (E.2.1, 9, .inl (fun _ => 0))), (u.2.1, .inl (E.2.1, 54, .inl (fun _ => 0))), (u.2.2, .inl (E.2.1, 6, .inl (fun _ => 0)))]) (xA (fun _ => b) 1 sz)) 3 69 (xA (fun _ => b) 1 sz) := by
  refine fl_startN (by decide) (Nat.le_of_ble_eq_true rfl) ?_
  intro p e s m args below meth c Q hx hb hml hown hin hts hsz hP hK hN ret ls hl
  subst hsz
  have hA : ∀ q : Nat, s.heap.size ≤ q → xA (fun _ => b) 1 s.heap.size q := fun q h => Or.inr h
  have hS : va_S (xA (fun _ => b) 1 s.heap.size) s.heap s.heap [] := va_S.rf
  have hD : va_D (xA (fun _ => b) 1 s.heap.size) [(b, .inr (1, [.int 0, .int 0, .int 0, .int 0, .int 0, .null, .null, .null]))] := va_D_of (a := fun _ => b) (n := 1) rfl (fun i j hi hj _ => by omega) xA_in
  have hl : lv_has ls 1 [(0, .ref b)] := hl
  refine lv_aload_n hx hb d_Menu_init_0 rfl (lv_at hl 0 rfl) ?_
  refine W.objInit hx hb hown (hts _ q145) (hts _ q70) (hts _ q71) rfl (by rw [hml]; exact hl.1) rfl d_Menu_init_1 (Nat.le_of_ble_eq_true rfl) (Nat.le_of_ble_eq_true rfl) ?_
  refine W.eq (g2 := F0 m 4 ls []) rfl ?_
  refine lv_aload_n hx hb d_Menu_init_4 rfl (lv_at hl 0 rfl) ?_
  refine lv_bipush (v := (9 : Int32)) hx hb d_Menu_init_5 (by decide) ?_
  refine va_newa (atype := .int) (N' := 9) (a0 := (9, .inl (fun _ => 0))) (ty := .int) hx hb (hts _ q86) rfl hK hP hD hS hA (fun _ => rfl) (by decide) (by decide) (by decide) (Nat.le_of_ble_eq_true rfl) (Nat.le_of_ble_eq_true rfl) d_Menu_init_7 (fun q1 c1 H hK1 hP hD hS => ?_)
  obtain rfl : c1 = E.2.1 := one_int (t1 := []) (t2 := [(E.2.2.1, .object "NoneMinds$Table"), (E.2.2.2, .object "NoneMinds$Note")]) hK1
  have hP : va_P E.1 xcl [(b, .inr (1, [.int 0, .int 0, .int 0, .int 0, .int 0, .null, .null, .null])), (q1, .inl (E.2.1, 9, .inl (fun _ => 0)))] H := hP
  have hD : va_D (xA (fun _ => b) 1 s.heap.size) [(b, .inr (1, [.int 0, .int 0, .int 0, .int 0, .int 0, .null, .null, .null])), (q1, .inl (E.2.1, 9, .inl (fun _ => 0)))] := hD
  refine va_putF (D := E.1) (ci := 1) (v := .ref q1) (ty := .array .int) (C := R_Menu) (T := T_Menu) hx hb hts in_Menu ty_Menu tk_Menu nm_Menu hown hK hP hD hS 0 rfl rfl 5 (by decide) (hts _ q162) (fun _ h9 => h9) rfl hin rfl (tk_Menu 5 (by decide)) rfl rfl (Nat.le_of_ble_eq_true rfl) d_Menu_init_9 (fun H locs hP hD hS => ?_)
  have hP : va_P E.1 xcl [(b, .inr (1, [.int 0, .int 0, .int 0, .int 0, .int 0, .ref q1, .null, .null])), (q1, .inl (E.2.1, 9, .inl (fun _ => 0)))] H := hP
  have hD : va_D (xA (fun _ => b) 1 s.heap.size) [(b, .inr (1, [.int 0, .int 0, .int 0, .int 0, .int 0, .ref q1, .null, .null])), (q1, .inl (E.2.1, 9, .inl (fun _ => 0)))] := hD
  refine lv_aload_n hx hb d_Menu_init_12 rfl (lv_at hl 0 rfl) ?_
  refine lv_bipush (v := (54 : Int32)) hx hb d_Menu_init_13 (by decide) ?_
  refine va_newa (atype := .int) (N' := 54) (a0 := (54, .inl (fun _ => 0))) (ty := .int) hx hb (hts _ q86) rfl hK hP hD hS hA (fun _ => rfl) (by decide) (by decide) (by decide) (Nat.le_of_ble_eq_true rfl) (Nat.le_of_ble_eq_true rfl) d_Menu_init_15 (fun q2 c2 H hK2 hP hD hS => ?_)
  obtain rfl : c2 = E.2.1 := one_int (t1 := []) (t2 := [(E.2.2.1, .object "NoneMinds$Table"), (E.2.2.2, .object "NoneMinds$Note")]) hK2
  have hP : va_P E.1 xcl [(b, .inr (1, [.int 0, .int 0, .int 0, .int 0, .int 0, .ref q1, .null, .null])), (q1, .inl (E.2.1, 9, .inl (fun _ => 0))), (q2, .inl (E.2.1, 54, .inl (fun _ => 0)))] H := hP
  have hD : va_D (xA (fun _ => b) 1 s.heap.size) [(b, .inr (1, [.int 0, .int 0, .int 0, .int 0, .int 0, .ref q1, .null, .null])), (q1, .inl (E.2.1, 9, .inl (fun _ => 0))), (q2, .inl (E.2.1, 54, .inl (fun _ => 0)))] := hD
  refine va_putF (D := E.1) (ci := 1) (v := .ref q2) (ty := .array .int) (C := R_Menu) (T := T_Menu) hx hb hts in_Menu ty_Menu tk_Menu nm_Menu hown hK hP hD hS 0 rfl rfl 6 (by decide) (hts _ q164) (fun _ h9 => h9) rfl hin rfl (tk_Menu 6 (by decide)) rfl rfl (Nat.le_of_ble_eq_true rfl) d_Menu_init_17 (fun H locs hP hD hS => ?_)
  have hP : va_P E.1 xcl [(b, .inr (1, [.int 0, .int 0, .int 0, .int 0, .int 0, .ref q1, .ref q2, .null])), (q1, .inl (E.2.1, 9, .inl (fun _ => 0))), (q2, .inl (E.2.1, 54, .inl (fun _ => 0)))] H := hP
  have hD : va_D (xA (fun _ => b) 1 s.heap.size) [(b, .inr (1, [.int 0, .int 0, .int 0, .int 0, .int 0, .ref q1, .ref q2, .null])), (q1, .inl (E.2.1, 9, .inl (fun _ => 0))), (q2, .inl (E.2.1, 54, .inl (fun _ => 0)))] := hD
  refine lv_aload_n hx hb d_Menu_init_20 rfl (lv_at hl 0 rfl) ?_
  refine lv_bipush (v := (6 : Int32)) hx hb d_Menu_init_21 (by decide) ?_
  refine va_newa (atype := .int) (N' := 6) (a0 := (6, .inl (fun _ => 0))) (ty := .int) hx hb (hts _ q86) rfl hK hP hD hS hA (fun _ => rfl) (by decide) (by decide) (by decide) (Nat.le_of_ble_eq_true rfl) (Nat.le_of_ble_eq_true rfl) d_Menu_init_23 (fun q3 c3 H hK3 hP hD hS => ?_)
  obtain rfl : c3 = E.2.1 := one_int (t1 := []) (t2 := [(E.2.2.1, .object "NoneMinds$Table"), (E.2.2.2, .object "NoneMinds$Note")]) hK3
  have hP : va_P E.1 xcl [(b, .inr (1, [.int 0, .int 0, .int 0, .int 0, .int 0, .ref q1, .ref q2, .null])), (q1, .inl (E.2.1, 9, .inl (fun _ => 0))), (q2, .inl (E.2.1, 54, .inl (fun _ => 0))), (q3, .inl (E.2.1, 6, .inl (fun _ => 0)))] H := hP
  have hD : va_D (xA (fun _ => b) 1 s.heap.size) [(b, .inr (1, [.int 0, .int 0, .int 0, .int 0, .int 0, .ref q1, .ref q2, .null])), (q1, .inl (E.2.1, 9, .inl (fun _ => 0))), (q2, .inl (E.2.1, 54, .inl (fun _ => 0))), (q3, .inl (E.2.1, 6, .inl (fun _ => 0)))] := hD
  refine va_putF (D := E.1) (ci := 1) (v := .ref q3) (ty := .array .int) (C := R_Menu) (T := T_Menu) hx hb hts in_Menu ty_Menu tk_Menu nm_Menu hown hK hP hD hS 0 rfl rfl 7 (by decide) (hts _ q166) (fun _ h9 => h9) rfl hin rfl (tk_Menu 7 (by decide)) rfl rfl (Nat.le_of_ble_eq_true rfl) d_Menu_init_25 (fun H locs hP hD hS => ?_)
  have hP : va_P E.1 xcl [(b, .inr (1, [.int 0, .int 0, .int 0, .int 0, .int 0, .ref q1, .ref q2, .ref q3])), (q1, .inl (E.2.1, 9, .inl (fun _ => 0))), (q2, .inl (E.2.1, 54, .inl (fun _ => 0))), (q3, .inl (E.2.1, 6, .inl (fun _ => 0)))] H := hP
  have hD : va_D (xA (fun _ => b) 1 s.heap.size) [(b, .inr (1, [.int 0, .int 0, .int 0, .int 0, .int 0, .ref q1, .ref q2, .ref q3])), (q1, .inl (E.2.1, 9, .inl (fun _ => 0))), (q2, .inl (E.2.1, 54, .inl (fun _ => 0))), (q3, .inl (E.2.1, 6, .inl (fun _ => 0)))] := hD
  refine W.widen (k := 3) (n := 69) (Nat.le_of_ble_eq_true rfl) (Nat.le_of_ble_eq_true rfl) ?_
  exact ret (q1, q2, q3) _ _ _ _ trivial hP hS d_Menu_init_28
