/-! the inner constructors of the class -/
abbrev rm_x_Note_init : Room := { frames := 1, cells := 0, slots := 0, locals := 20 }
theorem hd_x_Note_init : y_Note_init.cls ≠ "java/lang/invoke/MethodHandle" ∧ y_Note_init.cls ≠ "java/lang/invoke/VarHandle" ∧ (parseMethodDescriptor y_Note_init.desc).map (fun d => d.parameters.length) = some 0 := by decide +kernel
set_option maxHeartbeats 4000000 in
set_option maxRecDepth 100000 in
theorem cx_Note_init (l : Launch) (E : xE) (b sz : Nat) : Met l y_Note_init (Cond.code y_Note_init b_Note_init 1 none :: TB) rm_x_Note_init (fPc [.ref b] E.1 (xtys E) sz [(b, .inr (3, [.int 0, .int 0, .int 0, .int 0, .int 0]))]) (fQv (fun u : Nat => va_D (xA (fun _ => b) 1 sz) ([(b, .inr (3, [.int 0, .int 0, .int 0, .int 0, .int 0]))] : va_W)) E.1 (fun u => [(b, .inr (3, [.int 0, .int 0, .int 0, .int 0, .int 0]))]) (xA (fun _ => b) 1 sz)) 0 0 (xA (fun _ => b) 1 sz) := by
  refine fl_startN (by decide) (Nat.le_of_ble_eq_true rfl) ?_
  intro p e s m args below meth c Q hx hb hml hown hin hts hsz hP hK hN ret ls hl
  subst hsz
  have hA : ∀ q : Nat, s.heap.size ≤ q → xA (fun _ => b) 1 s.heap.size q := fun q h => Or.inr h
  have hS : va_S (xA (fun _ => b) 1 s.heap.size) s.heap s.heap [] := va_S.rf
  have hD : va_D (xA (fun _ => b) 1 s.heap.size) [(b, .inr (3, [.int 0, .int 0, .int 0, .int 0, .int 0]))] := va_D_of (a := fun _ => b) (n := 1) rfl (fun i j hi hj _ => by omega) xA_in
  have hl : lv_has ls 1 [(0, .ref b)] := hl
  refine lv_aload_n hx hb d_Note_init_0 rfl (lv_at hl 0 rfl) ?_
  refine W.objInit hx hb hown (hts _ q125) (hts _ q70) (hts _ q71) rfl (by rw [hml]; exact hl.1) rfl d_Note_init_1 (Nat.le_of_ble_eq_true rfl) (Nat.le_of_ble_eq_true rfl) ?_
  refine W.eq (g2 := F0 m 4 ls []) rfl ?_
  exact ret 0 _ _ _ _ hD hP hS d_Note_init_4
abbrev rm_x_Table_init : Room := { frames := 1, cells := 0, slots := 0, locals := 20 }
theorem hd_x_Table_init : y_Table_init.cls ≠ "java/lang/invoke/MethodHandle" ∧ y_Table_init.cls ≠ "java/lang/invoke/VarHandle" ∧ (parseMethodDescriptor y_Table_init.desc).map (fun d => d.parameters.length) = some 0 := by decide +kernel
set_option maxHeartbeats 4000000 in
set_option maxRecDepth 100000 in
theorem cx_Table_init (l : Launch) (E : xE) (b sz : Nat) : Met l y_Table_init (Cond.code y_Table_init b_Table_init 1 none :: TB) rm_x_Table_init (fPc [.ref b] E.1 (xtys E) sz [(b, .inr (7, [.int 0, .int 0, .int 0, .int 0]))]) (fQv (fun u : Nat => va_D (xA (fun _ => b) 1 sz) ([(b, .inr (7, [.int 0, .int 0, .int (-1), .int 0]))] : va_W)) E.1 (fun u => [(b, .inr (7, [.int 0, .int 0, .int (-1), .int 0]))]) (xA (fun _ => b) 1 sz)) 0 0 (xA (fun _ => b) 1 sz) := by
  refine fl_startN (by decide) (Nat.le_of_ble_eq_true rfl) ?_
  intro p e s m args below meth c Q hx hb hml hown hin hts hsz hP hK hN ret ls hl
  subst hsz
  have hA : ∀ q : Nat, s.heap.size ≤ q → xA (fun _ => b) 1 s.heap.size q := fun q h => Or.inr h
  have hS : va_S (xA (fun _ => b) 1 s.heap.size) s.heap s.heap [] := va_S.rf
  have hD : va_D (xA (fun _ => b) 1 s.heap.size) [(b, .inr (7, [.int 0, .int 0, .int 0, .int 0]))] := va_D_of (a := fun _ => b) (n := 1) rfl (fun i j hi hj _ => by omega) xA_in
  have hl : lv_has ls 1 [(0, .ref b)] := hl
  refine lv_aload_n hx hb d_Table_init_0 rfl (lv_at hl 0 rfl) ?_
  refine W.objInit hx hb hown (hts _ q91) (hts _ q70) (hts _ q71) rfl (by rw [hml]; exact hl.1) rfl d_Table_init_1 (Nat.le_of_ble_eq_true rfl) (Nat.le_of_ble_eq_true rfl) ?_
  refine W.eq (g2 := F0 m 4 ls []) rfl ?_
  refine lv_aload_n hx hb d_Table_init_4 rfl (lv_at hl 0 rfl) ?_
  refine lv_iconst (v := (-1 : Int32)) hx hb d_Table_init_5 (by decide) ?_
  refine va_put (D := E.1) (ci := 7) (v := .int (-1)) (ty := .int) (C := R_Table) (T := T_Table) (N := 4) hx hb hts in_Table ty_Table tk_Table nm_Table hown hK hP hD hS 0 rfl rfl 2 (by decide) (hts _ q96) (fun _ h9 => h9) rfl (tk_Table 2 (by decide)) rfl rfl (Nat.le_of_ble_eq_true rfl) d_Table_init_6 (fun H locs hP hD hS => ?_)
  exact ret 0 _ _ _ _ hD hP hS d_Table_init_9
abbrev rm_x_Moment_init : Room := { frames := 1, cells := 0, slots := 0, locals := 20 }
theorem hd_x_Moment_init : y_Moment_init.cls ≠ "java/lang/invoke/MethodHandle" ∧ y_Moment_init.cls ≠ "java/lang/invoke/VarHandle" ∧ (parseMethodDescriptor y_Moment_init.desc).map (fun d => d.parameters.length) = some 1 := by decide +kernel
set_option maxHeartbeats 4000000 in
set_option maxRecDepth 100000 in
theorem cx_Moment_init (l : Launch) (E : xE) (b sz : Nat) (mm : Nat) : Met l y_Moment_init (Cond.code y_Moment_init b_Moment_init 2 none :: TB) rm_x_Moment_init (fPc [.ref b, .ref mm] E.1 (xtys E) sz [(b, .inr (2, [.null, .int 0, .int 0]))]) (fQv (fun u : Nat => va_D (xA (fun _ => b) 1 sz) ([(b, .inr (2, [.ref mm, .int 0, .int 0]))] : va_W)) E.1 (fun u => [(b, .inr (2, [.ref mm, .int 0, .int 0]))]) (xA (fun _ => b) 1 sz)) 0 0 (xA (fun _ => b) 1 sz) := by
  refine fl_startN (by decide) (Nat.le_of_ble_eq_true rfl) ?_
  intro p e s m args below meth c Q hx hb hml hown hin hts hsz hP hK hN ret ls hl
  subst hsz
  have hA : ∀ q : Nat, s.heap.size ≤ q → xA (fun _ => b) 1 s.heap.size q := fun q h => Or.inr h
  have hS : va_S (xA (fun _ => b) 1 s.heap.size) s.heap s.heap [] := va_S.rf
  have hD : va_D (xA (fun _ => b) 1 s.heap.size) [(b, .inr (2, [.null, .int 0, .int 0]))] := va_D_of (a := fun _ => b) (n := 1) rfl (fun i j hi hj _ => by omega) xA_in
  have hl : lv_has ls 2 [(0, .ref b), (1, .ref mm)] := hl
  refine lv_aload_n hx hb d_Moment_init_0 rfl (lv_at hl 0 rfl) ?_
  refine W.objInit hx hb hown (hts _ q181) (hts _ q70) (hts _ q71) rfl (by rw [hml]; exact hl.1) rfl d_Moment_init_1 (Nat.le_of_ble_eq_true rfl) (Nat.le_of_ble_eq_true rfl) ?_
  refine W.eq (g2 := F0 m 4 ls []) rfl ?_
  refine lv_aload_n hx hb d_Moment_init_4 rfl (lv_at hl 0 rfl) ?_
  refine lv_aload_n hx hb d_Moment_init_5 rfl (lv_at hl 1 rfl) ?_
  refine va_put (D := E.1) (ci := 2) (v := .ref mm) (ty := .object "NoneMinds$Menu") (C := R_Moment) (T := T_Moment) (N := 3) hx hb hts in_Moment ty_Moment tk_Moment nm_Moment hown hK hP hD hS 0 rfl rfl 0 (by decide) (hts _ q182) (fun _ h9 => h9) rfl (tk_Moment 0 (by decide)) rfl rfl (Nat.le_of_ble_eq_true rfl) d_Moment_init_6 (fun H locs hP hD hS => ?_)
  exact ret 0 _ _ _ _ hD hP hS d_Moment_init_9
abbrev rm_x_Reader_init : Room := { frames := 1, cells := 1, slots := 200, locals := 20 }
theorem hd_x_Reader_init : y_Reader_init.cls ≠ "java/lang/invoke/MethodHandle" ∧ y_Reader_init.cls ≠ "java/lang/invoke/VarHandle" ∧ (parseMethodDescriptor y_Reader_init.desc).map (fun d => d.parameters.length) = some 0 := by decide +kernel
set_option maxHeartbeats 4000000 in
set_option maxRecDepth 100000 in
theorem cx_Reader_init (l : Launch) (E : xE) (b sz : Nat) : Met l y_Reader_init (Cond.code y_Reader_init b_Reader_init 1 none :: TB) rm_x_Reader_init (fPc [.ref b] E.1 (xtys E) sz [(b, .inr (6, [.null, .int 0, .int 0, .int 0]))]) (fQv (fun u : Nat => va_D (xA (fun _ => b) 1 sz) ([(b, .inr (6, [.ref u, .int 0, .int 0, .int 0])), (u, .inl (E.2.1, 200, .inl (fun _ => 0)))] : va_W)) E.1 (fun u => [(b, .inr (6, [.ref u, .int 0, .int 0, .int 0])), (u, .inl (E.2.1, 200, .inl (fun _ => 0)))]) (xA (fun _ => b) 1 sz)) 1 200 (xA (fun _ => b) 1 sz) := by
  refine fl_startN (by decide) (Nat.le_of_ble_eq_true rfl) ?_
  intro p e s m args below meth c Q hx hb hml hown hin hts hsz hP hK hN ret ls hl
  subst hsz
  have hA : ∀ q : Nat, s.heap.size ≤ q → xA (fun _ => b) 1 s.heap.size q := fun q h => Or.inr h
  have hS : va_S (xA (fun _ => b) 1 s.heap.size) s.heap s.heap [] := va_S.rf
  have hD : va_D (xA (fun _ => b) 1 s.heap.size) [(b, .inr (6, [.null, .int 0, .int 0, .int 0]))] := va_D_of (a := fun _ => b) (n := 1) rfl (fun i j hi hj _ => by omega) xA_in
  have hl : lv_has ls 1 [(0, .ref b)] := hl
  refine lv_aload_n hx hb d_Reader_init_0 rfl (lv_at hl 0 rfl) ?_
  refine W.objInit hx hb hown (hts _ q76) (hts _ q70) (hts _ q71) rfl (by rw [hml]; exact hl.1) rfl d_Reader_init_1 (Nat.le_of_ble_eq_true rfl) (Nat.le_of_ble_eq_true rfl) ?_
  refine W.eq (g2 := F0 m 4 ls []) rfl ?_
  refine lv_aload_n hx hb d_Reader_init_4 rfl (lv_at hl 0 rfl) ?_
  refine lv_sipush (v := (200 : Int32)) hx hb d_Reader_init_5 (by decide) ?_
  refine va_newa (atype := .int) (N' := 200) (a0 := (200, .inl (fun _ => 0))) (ty := .int) hx hb (hts _ q86) rfl hK hP hD hS hA (fun _ => rfl) (by decide) (by decide) (by decide) (Nat.le_of_ble_eq_true rfl) (Nat.le_of_ble_eq_true rfl) d_Reader_init_8 (fun q1 c1 H hK1 hP hD hS => ?_)
  obtain rfl : c1 = E.2.1 := one_int (t1 := []) (t2 := [(E.2.2.1, .object "NoneMinds$Table"), (E.2.2.2, .object "NoneMinds$Note")]) hK1
  have hP : va_P E.1 xcl [(b, .inr (6, [.null, .int 0, .int 0, .int 0])), (q1, .inl (E.2.1, 200, .inl (fun _ => 0)))] H := hP
  have hD : va_D (xA (fun _ => b) 1 s.heap.size) [(b, .inr (6, [.null, .int 0, .int 0, .int 0])), (q1, .inl (E.2.1, 200, .inl (fun _ => 0)))] := hD
  refine va_putF (D := E.1) (ci := 6) (v := .ref q1) (ty := .array .int) (C := R_Reader) (T := T_Reader) hx hb hts in_Reader ty_Reader tk_Reader nm_Reader hown hK hP hD hS 0 rfl rfl 0 (by decide) (hts _ q77) (fun _ h9 => h9) rfl hin rfl (tk_Reader 0 (by decide)) rfl rfl (Nat.le_of_ble_eq_true rfl) d_Reader_init_10 (fun H locs hP hD hS => ?_)
  have hP : va_P E.1 xcl [(b, .inr (6, [.ref q1, .int 0, .int 0, .int 0])), (q1, .inl (E.2.1, 200, .inl (fun _ => 0)))] H := hP
  have hD : va_D (xA (fun _ => b) 1 s.heap.size) [(b, .inr (6, [.ref q1, .int 0, .int 0, .int 0])), (q1, .inl (E.2.1, 200, .inl (fun _ => 0)))] := hD
  refine W.widen (k := 1) (n := 200) (Nat.le_of_ble_eq_true rfl) (Nat.le_of_ble_eq_true rfl) ?_
  exact ret q1 _ _ _ _ hD hP hS d_Reader_init_13
abbrev rm_x_Menu_init : Room := { frames := 1, cells := 3, slots := 69, locals := 20 }
theorem hd_x_Menu_init : y_Menu_init.cls ≠ "java/lang/invoke/MethodHandle" ∧ y_Menu_init.cls ≠ "java/lang/invoke/VarHandle" ∧ (parseMethodDescriptor y_Menu_init.desc).map (fun d => d.parameters.length) = some 0 := by decide +kernel
set_option maxHeartbeats 4000000 in
set_option maxRecDepth 100000 in
theorem cx_Menu_init (l : Launch) (E : xE) (b sz : Nat) : Met l y_Menu_init (Cond.code y_Menu_init b_Menu_init 1 none :: TB) rm_x_Menu_init (fPc [.ref b] E.1 (xtys E) sz [(b, .inr (1, [.int 0, .int 0, .int 0, .int 0, .int 0, .null, .null, .null]))]) (fQv (fun u : Nat × Nat × Nat => va_D (xA (fun _ => b) 1 sz) ([(b, .inr (1, [.int 0, .int 0, .int 0, .int 0, .int 0, .ref u.1, .ref u.2.1, .ref u.2.2])), (u.1, .inl (E.2.1, 9, .inl (fun _ => 0))), (u.2.1, .inl (E.2.1, 54, .inl (fun _ => 0))), (u.2.2, .inl (E.2.1, 6, .inl (fun _ => 0)))] : va_W)) E.1 (fun u => [(b, .inr (1, [.int 0, .int 0, .int 0, .int 0, .int 0, .ref u.1, .ref u.2.1, .ref u.2.2])), (u.1, .inl (E.2.1, 9, .inl (fun _ => 0))), (u.2.1, .inl (E.2.1, 54, .inl (fun _ => 0))), (u.2.2, .inl (E.2.1, 6, .inl (fun _ => 0)))]) (xA (fun _ => b) 1 sz)) 3 69 (xA (fun _ => b) 1 sz) := by
  refine fl_startN (by decide) (Nat.le_of_ble_eq_true rfl) ?_
  intro p e s m args below meth c Q hx hb hml hown hin hts hsz hP hK hN ret ls hl
  subst hsz
  have hA : ∀ q : Nat, s.heap.size ≤ q → xA (fun _ => b) 1 s.heap.size q := fun q h => Or.inr h
  have hS : va_S (xA (fun _ => b) 1 s.heap.size) s.heap s.heap [] := va_S.rf
  have hD : va_D (xA (fun _ => b) 1 s.heap.size) [(b, .inr (1, [.int 0, .int 0, .int 0, .int 0, .int 0, .null, .null, .null]))] := va_D_of (a := fun _ => b) (n := 1) rfl (fun i j hi hj _ => by omega) xA_in
  have hl : lv_has ls 1 [(0, .ref b)] := hl
  refine lv_aload_n hx hb d_Menu_init_0 rfl (lv_at hl 0 rfl) ?_
  refine W.objInit hx hb hown (hts _ q145) (hts _ q70) (hts _ q71) rfl (by rw [hml]; exact hl.1) rfl d_Menu_init_1 (Nat.le_of_ble_eq_true rfl) (Nat.le_of_ble_eq_true rfl) ?_
  refine W.eq (g2 := F0 m 4 ls []) rfl ?_
  refine lv_aload_n hx hb d_Menu_init_4 rfl (lv_at hl 0 rfl) ?_
  refine lv_bipush (v := (9 : Int32)) hx hb d_Menu_init_5 (by decide) ?_
  refine va_newa (atype := .int) (N' := 9) (a0 := (9, .inl (fun _ => 0))) (ty := .int) hx hb (hts _ q86) rfl hK hP hD hS hA (fun _ => rfl) (by decide) (by decide) (by decide) (Nat.le_of_ble_eq_true rfl) (Nat.le_of_ble_eq_true rfl) d_Menu_init_7 (fun q1 c1 H hK1 hP hD hS => ?_)
  obtain rfl : c1 = E.2.1 := one_int (t1 := []) (t2 := [(E.2.2.1, .object "NoneMinds$Table"), (E.2.2.2, .object "NoneMinds$Note")]) hK1
  have hP : va_P E.1 xcl [(b, .inr (1, [.int 0, .int 0, .int 0, .int 0, .int 0, .null, .null, .null])), (q1, .inl (E.2.1, 9, .inl (fun _ => 0)))] H := hP
  have hD : va_D (xA (fun _ => b) 1 s.heap.size) [(b, .inr (1, [.int 0, .int 0, .int 0, .int 0, .int 0, .null, .null, .null])), (q1, .inl (E.2.1, 9, .inl (fun _ => 0)))] := hD
  refine va_putF (D := E.1) (ci := 1) (v := .ref q1) (ty := .array .int) (C := R_Menu) (T := T_Menu) hx hb hts in_Menu ty_Menu tk_Menu nm_Menu hown hK hP hD hS 0 rfl rfl 5 (by decide) (hts _ q162) (fun _ h9 => h9) rfl hin rfl (tk_Menu 5 (by decide)) rfl rfl (Nat.le_of_ble_eq_true rfl) d_Menu_init_9 (fun H locs hP hD hS => ?_)
  have hP : va_P E.1 xcl [(b, .inr (1, [.int 0, .int 0, .int 0, .int 0, .int 0, .ref q1, .null, .null])), (q1, .inl (E.2.1, 9, .inl (fun _ => 0)))] H := hP
  have hD : va_D (xA (fun _ => b) 1 s.heap.size) [(b, .inr (1, [.int 0, .int 0, .int 0, .int 0, .int 0, .ref q1, .null, .null])), (q1, .inl (E.2.1, 9, .inl (fun _ => 0)))] := hD
  refine lv_aload_n hx hb d_Menu_init_12 rfl (lv_at hl 0 rfl) ?_
  refine lv_bipush (v := (54 : Int32)) hx hb d_Menu_init_13 (by decide) ?_
  refine va_newa (atype := .int) (N' := 54) (a0 := (54, .inl (fun _ => 0))) (ty := .int) hx hb (hts _ q86) rfl hK hP hD hS hA (fun _ => rfl) (by decide) (by decide) (by decide) (Nat.le_of_ble_eq_true rfl) (Nat.le_of_ble_eq_true rfl) d_Menu_init_15 (fun q2 c2 H hK2 hP hD hS => ?_)
  obtain rfl : c2 = E.2.1 := one_int (t1 := []) (t2 := [(E.2.2.1, .object "NoneMinds$Table"), (E.2.2.2, .object "NoneMinds$Note")]) hK2
  have hP : va_P E.1 xcl [(b, .inr (1, [.int 0, .int 0, .int 0, .int 0, .int 0, .ref q1, .null, .null])), (q1, .inl (E.2.1, 9, .inl (fun _ => 0))), (q2, .inl (E.2.1, 54, .inl (fun _ => 0)))] H := hP
  have hD : va_D (xA (fun _ => b) 1 s.heap.size) [(b, .inr (1, [.int 0, .int 0, .int 0, .int 0, .int 0, .ref q1, .null, .null])), (q1, .inl (E.2.1, 9, .inl (fun _ => 0))), (q2, .inl (E.2.1, 54, .inl (fun _ => 0)))] := hD
  refine va_putF (D := E.1) (ci := 1) (v := .ref q2) (ty := .array .int) (C := R_Menu) (T := T_Menu) hx hb hts in_Menu ty_Menu tk_Menu nm_Menu hown hK hP hD hS 0 rfl rfl 6 (by decide) (hts _ q164) (fun _ h9 => h9) rfl hin rfl (tk_Menu 6 (by decide)) rfl rfl (Nat.le_of_ble_eq_true rfl) d_Menu_init_17 (fun H locs hP hD hS => ?_)
  have hP : va_P E.1 xcl [(b, .inr (1, [.int 0, .int 0, .int 0, .int 0, .int 0, .ref q1, .ref q2, .null])), (q1, .inl (E.2.1, 9, .inl (fun _ => 0))), (q2, .inl (E.2.1, 54, .inl (fun _ => 0)))] H := hP
  have hD : va_D (xA (fun _ => b) 1 s.heap.size) [(b, .inr (1, [.int 0, .int 0, .int 0, .int 0, .int 0, .ref q1, .ref q2, .null])), (q1, .inl (E.2.1, 9, .inl (fun _ => 0))), (q2, .inl (E.2.1, 54, .inl (fun _ => 0)))] := hD
  refine lv_aload_n hx hb d_Menu_init_20 rfl (lv_at hl 0 rfl) ?_
  refine lv_bipush (v := (6 : Int32)) hx hb d_Menu_init_21 (by decide) ?_
  refine va_newa (atype := .int) (N' := 6) (a0 := (6, .inl (fun _ => 0))) (ty := .int) hx hb (hts _ q86) rfl hK hP hD hS hA (fun _ => rfl) (by decide) (by decide) (by decide) (Nat.le_of_ble_eq_true rfl) (Nat.le_of_ble_eq_true rfl) d_Menu_init_23 (fun q3 c3 H hK3 hP hD hS => ?_)
  obtain rfl : c3 = E.2.1 := one_int (t1 := []) (t2 := [(E.2.2.1, .object "NoneMinds$Table"), (E.2.2.2, .object "NoneMinds$Note")]) hK3
  have hP : va_P E.1 xcl [(b, .inr (1, [.int 0, .int 0, .int 0, .int 0, .int 0, .ref q1, .ref q2, .null])), (q1, .inl (E.2.1, 9, .inl (fun _ => 0))), (q2, .inl (E.2.1, 54, .inl (fun _ => 0))), (q3, .inl (E.2.1, 6, .inl (fun _ => 0)))] H := hP
  have hD : va_D (xA (fun _ => b) 1 s.heap.size) [(b, .inr (1, [.int 0, .int 0, .int 0, .int 0, .int 0, .ref q1, .ref q2, .null])), (q1, .inl (E.2.1, 9, .inl (fun _ => 0))), (q2, .inl (E.2.1, 54, .inl (fun _ => 0))), (q3, .inl (E.2.1, 6, .inl (fun _ => 0)))] := hD
  refine va_putF (D := E.1) (ci := 1) (v := .ref q3) (ty := .array .int) (C := R_Menu) (T := T_Menu) hx hb hts in_Menu ty_Menu tk_Menu nm_Menu hown hK hP hD hS 0 rfl rfl 7 (by decide) (hts _ q166) (fun _ h9 => h9) rfl hin rfl (tk_Menu 7 (by decide)) rfl rfl (Nat.le_of_ble_eq_true rfl) d_Menu_init_25 (fun H locs hP hD hS => ?_)
  have hP : va_P E.1 xcl [(b, .inr (1, [.int 0, .int 0, .int 0, .int 0, .int 0, .ref q1, .ref q2, .ref q3])), (q1, .inl (E.2.1, 9, .inl (fun _ => 0))), (q2, .inl (E.2.1, 54, .inl (fun _ => 0))), (q3, .inl (E.2.1, 6, .inl (fun _ => 0)))] H := hP
  have hD : va_D (xA (fun _ => b) 1 s.heap.size) [(b, .inr (1, [.int 0, .int 0, .int 0, .int 0, .int 0, .ref q1, .ref q2, .ref q3])), (q1, .inl (E.2.1, 9, .inl (fun _ => 0))), (q2, .inl (E.2.1, 54, .inl (fun _ => 0))), (q3, .inl (E.2.1, 6, .inl (fun _ => 0)))] := hD
  refine W.widen (k := 3) (n := 69) (Nat.le_of_ble_eq_true rfl) (Nat.le_of_ble_eq_true rfl) ?_
  exact ret (q1, q2, q3) _ _ _ _ hD hP hS d_Menu_init_28
theorem one_obj {D : va_G} {cl : List vw_C} {C : String} {c1 c2 : ClassId} {s : State} {t1 t2 : List (ClassId × FieldType)} (h : va_K D cl (t1 ++ (c1, .object C) :: t2 ++ [(c2, .object C)]) s) : c2 = c1 := by
  obtain ⟨k1, m1, -, -, -, a⟩ := (h.2 t1.length (c1, .object C) (by simp)).2
  obtain ⟨k2, m2, -, -, -, b⟩ := (h.2 (t1 ++ (c1, .object C) :: t2).length (c2, .object C) (by simp)).2
  rw [a] at b
  exact (Option.some.inj b).symm
theorem P_cg {D : va_G} {cl : List vw_C} {ws : va_W} {H : Heap} (hP : va_P D cl ws H) (q0 : Nat) {q n : Nat} {cA : ClassId} {f : Nat → Option Nat} (g : Nat → Option Nat) (ha : ws[q0]? = some (q, .inl (cA, n, .inr (.inr (.inr (.inr f)))))) (h : ∀ j, j < n → f j = g j) : va_P D cl (ws.set q0 (q, .inl (cA, n, .inr (.inr (.inr (.inr g)))))) H := by
  intro k x hk
  by_cases e : k = q0
  · subst e
    have hl : k < ws.length := (List.getElem?_eq_some_iff.mp ha).1
    rw [List.getElem?_set_self hl] at hk
    cases hk
    have h0 : H[q]? = some (arrV cA n (fun j => va_rf (f j))) := hP k _ ha
    show H[q]? = some (arrV cA n (fun j => va_rf (g j)))
    rw [h0]
    have : (fun j : Fin n => va_rf (f j.val)) = (fun j : Fin n => va_rf (g j.val)) := funext fun j => by rw [h j.val j.isLt]
    unfold arrV
    rw [this]
  · rw [List.getElem?_set_ne (fun z => e z.symm)] at hk
    exact hP k x hk
theorem jn {A0 : Nat → Prop} {D : va_G} {cl : List vw_C} {w0 w1 : va_W} {q : Nat} {e : va_E} {H H1 : Heap} (hP : va_P D cl (w0 ++ [(q, e)]) H) (hD : va_D A0 (w0 ++ [(q, e)])) (hk : ∀ x : Nat, x < H.size → ¬ xA (fun _ => q) 1 H.size x → H1[x]? = H[x]?) (hF : ∀ x, xA (fun _ => q) 1 H.size x → A0 x) (hP1 : va_P D cl w1 H1) (hD1 : va_D (xA (fun _ => q) 1 H.size) w1) : va_P D cl (w0 ++ w1) H1 ∧ va_D A0 (w0 ++ w1) := by
  have i0 : ∀ (k : Nat) (p : Nat × va_E), w0[k]? = some p → (w0 ++ [(q, e)])[k]? = some p := fun k p h => by
    rw [List.getElem?_append_left (List.getElem?_eq_some_iff.mp h).1]; exact h
  have iq : (w0 ++ [(q, e)])[w0.length]? = some (q, e) := by simp
  have ne : ∀ (k : Nat) (p : Nat × va_E), w0[k]? = some p → p.1 ≠ q ∧ p.1 < H.size := fun k p h => by
    refine ⟨fun z => ?_, (hP k p (i0 k p h)).lt⟩
    have := hD.1 k w0.length p (q, e) (i0 k p h) iq z
    have := (List.getElem?_eq_some_iff.mp h).1
    omega
  refine ⟨(va_P.kept (ws := w0) (H := H) (fun k p h => hP k p (i0 k p h)) (fun k p h => ?_)).app hP1, va_D.app ⟨fun i j p r h1 h2 => hD.1 i j p r (i0 i p h1) (i0 j r h2), fun k p h => hD.2 k p (i0 k p h)⟩ ⟨hD1.1, fun k p h => hF _ (hD1.2 k p h)⟩ (fun i j p r h1 h2 z => ?_)⟩
  · obtain ⟨a, b⟩ := ne k p h
    exact hk _ b (fun z => z.elim (fun ⟨_, _, y⟩ => a y) (fun y => absurd b (Nat.not_lt.mpr y)))
  · obtain ⟨a, b⟩ := ne i p h1
    rw [z] at a b
    exact (hD1.2 j r h2).elim (fun ⟨_, _, y⟩ => a y) (fun y => absurd b (Nat.not_lt.mpr y))
theorem xA1f {A0 : Nat → Prop} {w0 : va_W} {q : Nat} {e : va_E} {H0 H : Heap} {locs : List Loc} (hD : va_D A0 (w0 ++ [(q, e)])) (hS : va_S A0 H0 H locs) (hA : ∀ q, H0.size ≤ q → A0 q) : ∀ x, xA (fun _ => q) 1 H.size x → A0 x := fun x h => h.elim (fun ⟨_, _, z⟩ => by rw [z]; exact hD.2 w0.length (q, e) (by simp)) (fun z => hA x (Nat.le_trans hS.1 z))
theorem va_nd_fst {A : Nat → Prop} {w1 w2 : va_W} (hD : va_D A w1) (e : w2.map Prod.fst = w1.map Prod.fst) {i j : Nat} {p q : Nat × va_E} (h1 : w2[i]? = some p) (h2 : w2[j]? = some q) (z : p.1 = q.1) : i = j := by
  have k : ∀ {i : Nat} {p : Nat × va_E}, w2[i]? = some p → ∃ p', w1[i]? = some p' ∧ p'.1 = p.1 := fun {i p} h => by
    have a : (w2.map Prod.fst)[i]? = some p.1 := by rw [List.getElem?_map, h]; rfl
    rw [e, List.getElem?_map] at a
    cases hw : w1[i]? with
    | none => rw [hw] at a; cases a
    | some p' => rw [hw] at a; exact ⟨p', rfl, Option.some.inj a⟩
  obtain ⟨p', a1, a2⟩ := k h1
  obtain ⟨q', b1, b2⟩ := k h2
  exact hD.1 i j p' q' a1 b1 (by rw [a2, b2, z])
theorem va_in_fst {A : Nat → Prop} {w1 w2 : va_W} (hD : va_D A w1) (e : w2.map Prod.fst = w1.map Prod.fst) {i : Nat} {p : Nat × va_E} (h : w2[i]? = some p) : A p.1 := by
  have a : (w2.map Prod.fst)[i]? = some p.1 := by rw [List.getElem?_map, h]; rfl
  rw [e, List.getElem?_map] at a
  cases hw : w1[i]? with
  | none => rw [hw] at a; cases a
  | some p' =>
    rw [hw] at a
    rw [← Option.some.inj a]
    exact hD.2 i p' hw
theorem va_D_fst {A : Nat → Prop} {w1 w2 : va_W} (hD : va_D A w1) (e : w2.map Prod.fst = w1.map Prod.fst) : va_D A w2 := ⟨fun i j p q h1 h2 z => va_nd_fst hD e h1 h2 z, fun k q hk => va_in_fst hD e hk⟩
abbrev rm_x_Pile_init_2 : Room := { frames := 2, cells := 3, slots := 10, locals := 50 }
theorem hd_x_Pile_init : y_Pile_init.cls ≠ "java/lang/invoke/MethodHandle" ∧ y_Pile_init.cls ≠ "java/lang/invoke/VarHandle" ∧ (parseMethodDescriptor y_Pile_init.desc).map (fun d => d.parameters.length) = some 1 := by decide +kernel
set_option maxHeartbeats 4000000 in
set_option maxRecDepth 100000 in
theorem cx_Pile_init_2 (l : Launch) (E : xE) (b sz : Nat) : Met l y_Pile_init (Cond.code y_Pile_init b_Pile_init 3 none :: TB) rm_x_Pile_init_2 (fPc [.ref b, .int (2 : Int32)] E.1 (xtys E) sz [(b, .inr (5, [.int 0, .null]))]) (fQv (fun u : Nat × (Nat → Nat) => va_D (xA (fun _ => b) 1 sz) ([(b, .inr (5, [.int 0, .ref u.1])), (u.1, .inl (E.2.2.1, 2, .inr (.inr (.inr (.inr (fun j => some (u.2 j))))))), (u.2 0, .inr (7, [.int 0, .int 0, .int (-1), .int 0])), (u.2 1, .inr (7, [.int 0, .int 0, .int (-1), .int 0]))] : va_W)) E.1 (fun u => [(b, .inr (5, [.int 0, .ref u.1])), (u.1, .inl (E.2.2.1, 2, .inr (.inr (.inr (.inr (fun j => some (u.2 j))))))), (u.2 0, .inr (7, [.int 0, .int 0, .int (-1), .int 0])), (u.2 1, .inr (7, [.int 0, .int 0, .int (-1), .int 0]))]) (xA (fun _ => b) 1 sz)) 3 10 (xA (fun _ => b) 1 sz) := by
  refine fl_startN (by decide) (Nat.le_of_ble_eq_true rfl) ?_
  intro p e s m args below meth c Q hx hb hml hown hin hts hsz hP hK hN ret ls hl
  subst hsz
  have hA : ∀ q : Nat, s.heap.size ≤ q → xA (fun _ => b) 1 s.heap.size q := fun q h => Or.inr h
  have hS : va_S (xA (fun _ => b) 1 s.heap.size) s.heap s.heap [] := va_S.rf
  have hD : va_D (xA (fun _ => b) 1 s.heap.size) [(b, .inr (5, [.int 0, .null]))] := va_D_of (a := fun _ => b) (n := 1) rfl (fun i j hi hj _ => by omega) xA_in
  have hl : lv_has ls 3 [(0, .ref b), (1, .int (2 : Int32))] := hl
  refine lv_aload_n hx hb d_Pile_init_0 rfl (lv_at hl 0 rfl) ?_
  refine W.objInit hx hb hown (hts _ q108) (hts _ q70) (hts _ q71) rfl (by rw [hml]; exact hl.1) rfl d_Pile_init_1 (Nat.le_of_ble_eq_true rfl) (Nat.le_of_ble_eq_true rfl) ?_
  refine W.eq (g2 := F0 m 4 ls []) rfl ?_
  refine lv_aload_n hx hb d_Pile_init_4 rfl (lv_at hl 0 rfl) ?_
  refine lv_iload_n hx hb d_Pile_init_5 rfl (lv_at hl 1 rfl) ?_
  refine lv_if_le (tgt := 13) hx hb d_Pile_init_6 (by decide) (fun c6 => absurd c6 (by decide)) (fun _ => ?_)
  refine lv_iload_n hx hb d_Pile_init_9 rfl (lv_at hl 1 rfl) ?_
  refine lv_goto (tgt := 14) hx hb d_Pile_init_10 (by decide) ?_
  refine va_newq (C := "NoneMinds$Table") (N' := 2) hx hb hown (hts _ q109) (nw2 hN) hK hP hD hS hA (by decide) (by decide) (by decide) (Nat.le_of_ble_eq_true rfl) (Nat.le_of_ble_eq_true rfl) d_Pile_init_14 (fun qa ca H hKa hP hD hS => ?_)
  obtain rfl : ca = E.2.2.1 := one_obj (t1 := [(E.2.1, .int)]) (t2 := [(E.2.2.2, .object "NoneMinds$Note")]) hKa
  have hP : va_P E.1 xcl [(b, .inr (5, [.int 0, .null])), (qa, .inl (E.2.2.1, 2, .inr (.inr (.inr (.inr (fun _ => none))))))] H := hP
  have hD : va_D (xA (fun _ => b) 1 s.heap.size) [(b, .inr (5, [.int 0, .null])), (qa, .inl (E.2.2.1, 2, .inr (.inr (.inr (.inr (fun _ => none))))))] := hD
  refine va_putF (D := E.1) (ci := 5) (v := .ref qa) (ty := .array (.object "NoneMinds$Table")) (C := R_Pile) (T := T_Pile) hx hb hts in_Pile ty_Pile tk_Pile nm_Pile hown hK hP hD hS 0 rfl rfl 1 (by decide) (hts _ q112) (fun _ h9 => h9) rfl hin rfl (tk_Pile 1 (by decide)) rfl rfl (Nat.le_of_ble_eq_true rfl) d_Pile_init_17 (fun H locs hP hD hS => ?_)
  have hP : va_P E.1 xcl [(b, .inr (5, [.int 0, .ref qa])), (qa, .inl (E.2.2.1, 2, .inr (.inr (.inr (.inr (fun _ => none))))))] H := hP
  have hD : va_D (xA (fun _ => b) 1 s.heap.size) [(b, .inr (5, [.int 0, .ref qa])), (qa, .inl (E.2.2.1, 2, .inr (.inr (.inr (.inr (fun _ => none))))))] := hD
  refine lv_iconst (v := (0 : Int32)) hx hb d_Pile_init_20 (by decide) ?_
  refine lv_istore_n (lv' := [(2, .int (0 : Int32)), (0, .ref b), (1, .int (2 : Int32))]) hx hb d_Pile_init_21 rfl hl (by decide) rfl (fun ls hl => ?_)
  refine lv_iload_n hx hb d_Pile_init_22 rfl (lv_at hl 0 rfl) ?_
  refine lv_aload_n hx hb d_Pile_init_23 rfl (lv_at hl 1 rfl) ?_
  refine va_get (T := T_Pile) (N := 2) hx hb hts in_Pile hown hK hP 0 rfl rfl 1 (by decide) (hts _ q112) (fun _ h9 => h9) rfl d_Pile_init_24 ?_
  refine va_alen hx hb hK hP 1 1 rfl rfl (v := (2 : Int32)) rfl d_Pile_init_27 ?_
  refine lv_icmp_ge (tgt := 50) hx hb d_Pile_init_28 (by decide) (fun c => absurd c (by decide)) (fun _ => ?_)
  refine lv_aload_n hx hb d_Pile_init_31 rfl (lv_at hl 1 rfl) ?_
  refine va_get (T := T_Pile) (N := 2) hx hb hts in_Pile hown hK hP 0 rfl rfl 1 (by decide) (hts _ q112) (fun _ h9 => h9) rfl d_Pile_init_32 ?_
  refine lv_iload_n hx hb d_Pile_init_35 rfl (lv_at hl 0 rfl) ?_
  refine va_new (ci := 7) (fs := [.int 0, .int 0, .int 0, .int 0]) (C := R_Table) (T := T_Table) (N := 4) hx hb hts in_Table ty_Table tk_Table hown (hts _ q109) (hts _ q88) (hts _ q51) hK hP hD hS hA rfl (fun j hj => by match j, hj with | 0, _ => rfl | 1, _ => rfl | 2, _ => rfl | 3, _ => rfl | j + 4, hj => exact absurd hj (by omega)) (Nat.le_of_ble_eq_true rfl) (Nat.le_of_ble_eq_true rfl) d_Pile_init_36 (fun t0 H hP hD hS => ?_)
  refine lv_dup hx hb d_Pile_init_39 rfl ?_
  have hDk : va_D (xA (fun _ => b) 1 s.heap.size) ([(b, .inr (5, [.int 0, .ref qa])), (qa, .inl (E.2.2.1, 2, .inr (.inr (.inr (.inr (fun _ => none))))))] ++ [(t0, .inr (7, [.int 0, .int 0, .int 0, .int 0]))]) := hD
  have hPk : va_P E.1 xcl ([(b, .inr (5, [.int 0, .ref qa])), (qa, .inl (E.2.2.1, 2, .inr (.inr (.inr (.inr (fun _ => none))))))] ++ [(t0, .inr (7, [.int 0, .int 0, .int 0, .int 0]))]) H := hP
  refine fCallN (fRunIN (As := []) (rest := [.ref t0, .int (0 : Int32), .ref qa]) hx hb hml hown hts hK hN (hPk.sub (ws' := [(t0, .inr (7, [.int 0, .int 0, .int 0, .int 0]))]) [2] rfl) (cx_Table_init l E t0 H.size) (nw3 hN) q89 q51 q90 rfl hd_x_Table_init rfl rfl ⟨Nat.le_of_ble_eq_true rfl, Nat.le_of_ble_eq_true rfl⟩ rfl hl.1 rfl (Nat.le_of_ble_eq_true rfl) d_Pile_init_40 ⟨Nat.le_of_ble_eq_true rfl, Nat.le_of_ble_eq_true rfl⟩) hS (xA1f hDk hS hA) (fun _ H1 locs hD1 hP1 hS _ hk1 => ?_)
  obtain ⟨hP, hD⟩ := jn hPk hDk hk1 (fun x h => xA1f hDk (by assumption) hA x h) hP1 hD1
  generalize H1 = H at hP hS ⊢
  have hP : va_P E.1 xcl [(b, .inr (5, [.int 0, .ref qa])), (qa, .inl (E.2.2.1, 2, .inr (.inr (.inr (.inr (fun _ => none)))))), (t0, .inr (7, [.int 0, .int 0, .int (-1), .int 0]))] H := hP
  have hD : va_D (xA (fun _ => b) 1 s.heap.size) [(b, .inr (5, [.int 0, .ref qa])), (qa, .inl (E.2.2.1, 2, .inr (.inr (.inr (.inr (fun _ => none)))))), (t0, .inr (7, [.int 0, .int 0, .int (-1), .int 0]))] := hD
  refine va_astq hx hb hK hP hD hS 1 1 2 7 rfl rfl rfl rfl (i := (0 : Int32)) (vpin_c (by decide)) d_Pile_init_43 (fun H locs hP hD hS => ?_)
  have hP : va_P E.1 xcl [(b, .inr (5, [.int 0, .ref qa])), (qa, .inl (E.2.2.1, 2, .inr (.inr (.inr (.inr (va_up (fun _ => none) 0 (some t0))))))), (t0, .inr (7, [.int 0, .int 0, .int (-1), .int 0]))] H := hP
  have hD : va_D (xA (fun _ => b) 1 s.heap.size) [(b, .inr (5, [.int 0, .ref qa])), (qa, .inl (E.2.2.1, 2, .inr (.inr (.inr (.inr (va_up (fun _ => none) 0 (some t0))))))), (t0, .inr (7, [.int 0, .int 0, .int (-1), .int 0]))] := hD
  refine lv_iinc (v := (1 : Int32)) (lv' := [(2, .int (1 : Int32)), (0, .ref b), (1, .int (2 : Int32))]) hx hb d_Pile_init_44 hl (k := 0) rfl (by decide) (by decide) rfl (fun ls hl => ?_)
  refine lv_goto (tgt := 22) hx hb d_Pile_init_47 (by decide) ?_
  refine lv_iload_n hx hb d_Pile_init_22 rfl (lv_at hl 0 rfl) ?_
  refine lv_aload_n hx hb d_Pile_init_23 rfl (lv_at hl 1 rfl) ?_
  refine va_get (T := T_Pile) (N := 2) hx hb hts in_Pile hown hK hP 0 rfl rfl 1 (by decide) (hts _ q112) (fun _ h9 => h9) rfl d_Pile_init_24 ?_
  refine va_alen hx hb hK hP 1 1 rfl rfl (v := (2 : Int32)) rfl d_Pile_init_27 ?_
  refine lv_icmp_ge (tgt := 50) hx hb d_Pile_init_28 (by decide) (fun c => absurd c (by decide)) (fun _ => ?_)
  refine lv_aload_n hx hb d_Pile_init_31 rfl (lv_at hl 1 rfl) ?_
  refine va_get (T := T_Pile) (N := 2) hx hb hts in_Pile hown hK hP 0 rfl rfl 1 (by decide) (hts _ q112) (fun _ h9 => h9) rfl d_Pile_init_32 ?_
  refine lv_iload_n hx hb d_Pile_init_35 rfl (lv_at hl 0 rfl) ?_
  refine va_new (ci := 7) (fs := [.int 0, .int 0, .int 0, .int 0]) (C := R_Table) (T := T_Table) (N := 4) hx hb hts in_Table ty_Table tk_Table hown (hts _ q109) (hts _ q88) (hts _ q51) hK hP hD hS hA rfl (fun j hj => by match j, hj with | 0, _ => rfl | 1, _ => rfl | 2, _ => rfl | 3, _ => rfl | j + 4, hj => exact absurd hj (by omega)) (Nat.le_of_ble_eq_true rfl) (Nat.le_of_ble_eq_true rfl) d_Pile_init_36 (fun t1 H hP hD hS => ?_)
  refine lv_dup hx hb d_Pile_init_39 rfl ?_
  have hDk : va_D (xA (fun _ => b) 1 s.heap.size) ([(b, .inr (5, [.int 0, .ref qa])), (qa, .inl (E.2.2.1, 2, .inr (.inr (.inr (.inr (va_up (fun _ => none) 0 (some t0))))))), (t0, .inr (7, [.int 0, .int 0, .int (-1), .int 0]))] ++ [(t1, .inr (7, [.int 0, .int 0, .int 0, .int 0]))]) := hD
  have hPk : va_P E.1 xcl ([(b, .inr (5, [.int 0, .ref qa])), (qa, .inl (E.2.2.1, 2, .inr (.inr (.inr (.inr (va_up (fun _ => none) 0 (some t0))))))), (t0, .inr (7, [.int 0, .int 0, .int (-1), .int 0]))] ++ [(t1, .inr (7, [.int 0, .int 0, .int 0, .int 0]))]) H := hP
  refine fCallN (fRunIN (As := []) (rest := [.ref t1, .int (1 : Int32), .ref qa]) hx hb hml hown hts hK hN (hPk.sub (ws' := [(t1, .inr (7, [.int 0, .int 0, .int 0, .int 0]))]) [3] rfl) (cx_Table_init l E t1 H.size) (nw3 hN) q89 q51 q90 rfl hd_x_Table_init rfl rfl ⟨Nat.le_of_ble_eq_true rfl, Nat.le_of_ble_eq_true rfl⟩ rfl hl.1 rfl (Nat.le_of_ble_eq_true rfl) d_Pile_init_40 ⟨Nat.le_of_ble_eq_true rfl, Nat.le_of_ble_eq_true rfl⟩) hS (xA1f hDk hS hA) (fun _ H1 locs hD1 hP1 hS _ hk1 => ?_)
  obtain ⟨hP, hD⟩ := jn hPk hDk hk1 (fun x h => xA1f hDk (by assumption) hA x h) hP1 hD1
  generalize H1 = H at hP hS ⊢
  have hP : va_P E.1 xcl [(b, .inr (5, [.int 0, .ref qa])), (qa, .inl (E.2.2.1, 2, .inr (.inr (.inr (.inr (va_up (fun _ => none) 0 (some t0))))))), (t0, .inr (7, [.int 0, .int 0, .int (-1), .int 0])), (t1, .inr (7, [.int 0, .int 0, .int (-1), .int 0]))] H := hP
  have hD : va_D (xA (fun _ => b) 1 s.heap.size) [(b, .inr (5, [.int 0, .ref qa])), (qa, .inl (E.2.2.1, 2, .inr (.inr (.inr (.inr (va_up (fun _ => none) 0 (some t0))))))), (t0, .inr (7, [.int 0, .int 0, .int (-1), .int 0])), (t1, .inr (7, [.int 0, .int 0, .int (-1), .int 0]))] := hD
  refine va_astq hx hb hK hP hD hS 1 1 3 7 rfl rfl rfl rfl (i := (1 : Int32)) (vpin_c (by decide)) d_Pile_init_43 (fun H locs hP hD hS => ?_)
  have hP : va_P E.1 xcl [(b, .inr (5, [.int 0, .ref qa])), (qa, .inl (E.2.2.1, 2, .inr (.inr (.inr (.inr (va_up (va_up (fun _ => none) 0 (some t0)) 1 (some t1))))))), (t0, .inr (7, [.int 0, .int 0, .int (-1), .int 0])), (t1, .inr (7, [.int 0, .int 0, .int (-1), .int 0]))] H := hP
  have hD : va_D (xA (fun _ => b) 1 s.heap.size) [(b, .inr (5, [.int 0, .ref qa])), (qa, .inl (E.2.2.1, 2, .inr (.inr (.inr (.inr (va_up (va_up (fun _ => none) 0 (some t0)) 1 (some t1))))))), (t0, .inr (7, [.int 0, .int 0, .int (-1), .int 0])), (t1, .inr (7, [.int 0, .int 0, .int (-1), .int 0]))] := hD
  refine lv_iinc (v := (2 : Int32)) (lv' := [(2, .int (2 : Int32)), (0, .ref b), (1, .int (2 : Int32))]) hx hb d_Pile_init_44 hl (k := 0) rfl (by decide) (by decide) rfl (fun ls hl => ?_)
  refine lv_goto (tgt := 22) hx hb d_Pile_init_47 (by decide) ?_
  refine lv_iload_n hx hb d_Pile_init_22 rfl (lv_at hl 0 rfl) ?_
  refine lv_aload_n hx hb d_Pile_init_23 rfl (lv_at hl 1 rfl) ?_
  refine va_get (T := T_Pile) (N := 2) hx hb hts in_Pile hown hK hP 0 rfl rfl 1 (by decide) (hts _ q112) (fun _ h9 => h9) rfl d_Pile_init_24 ?_
  refine va_alen hx hb hK hP 1 1 rfl rfl (v := (2 : Int32)) rfl d_Pile_init_27 ?_
  refine lv_icmp_ge (tgt := 50) hx hb d_Pile_init_28 (by decide) (fun _ => ?_) (fun c => absurd (by decide) c)
  have hP := P_cg hP 1 (fun j => some (([t0, t1] : List Nat).getD j 0)) rfl (fun j hj => by match j, hj with | 0, _ => rfl | 1, _ => rfl | j + 2, hj => exact absurd hj (by omega))
  have hD : va_D (xA (fun _ => b) 1 s.heap.size) [(b, .inr (5, [.int 0, .ref qa])), (qa, .inl (E.2.2.1, 2, .inr (.inr (.inr (.inr (fun j => some (([t0, t1] : List Nat).getD j 0))))))), (t0, .inr (7, [.int 0, .int 0, .int (-1), .int 0])), (t1, .inr (7, [.int 0, .int 0, .int (-1), .int 0]))] := va_D_fst hD rfl
  refine W.widen (k := 3) (n := 10) (Nat.le_of_ble_eq_true rfl) (Nat.le_of_ble_eq_true rfl) ?_
  exact ret (qa, fun j => ([t0, t1] : List Nat).getD j 0) _ _ _ _ hD hP hS d_Pile_init_50
abbrev rm_x_Pile_init_8 : Room := { frames := 2, cells := 9, slots := 40, locals := 50 }
set_option maxHeartbeats 4000000 in
set_option maxRecDepth 100000 in
theorem cx_Pile_init_8 (l : Launch) (E : xE) (b sz : Nat) : Met l y_Pile_init (Cond.code y_Pile_init b_Pile_init 3 none :: TB) rm_x_Pile_init_8 (fPc [.ref b, .int (8 : Int32)] E.1 (xtys E) sz [(b, .inr (5, [.int 0, .null]))]) (fQv (fun u : Nat × (Nat → Nat) => va_D (xA (fun _ => b) 1 sz) ([(b, .inr (5, [.int 0, .ref u.1])), (u.1, .inl (E.2.2.1, 8, .inr (.inr (.inr (.inr (fun j => some (u.2 j))))))), (u.2 0, .inr (7, [.int 0, .int 0, .int (-1), .int 0])), (u.2 1, .inr (7, [.int 0, .int 0, .int (-1), .int 0])), (u.2 2, .inr (7, [.int 0, .int 0, .int (-1), .int 0])), (u.2 3, .inr (7, [.int 0, .int 0, .int (-1), .int 0])), (u.2 4, .inr (7, [.int 0, .int 0, .int (-1), .int 0])), (u.2 5, .inr (7, [.int 0, .int 0, .int (-1), .int 0])), (u.2 6, .inr (7, [.int 0, .int 0, .int (-1), .int 0])), (u.2 7, .inr (7, [.int 0, .int 0, .int (-1), .int 0]))] : va_W)) E.1 (fun u => [(b, .inr (5, [.int 0, .ref u.1])), (u.1, .inl (E.2.2.1, 8, .inr (.inr (.inr (.inr (fun j => some (u.2 j))))))), (u.2 0, .inr (7, [.int 0, .int 0, .int (-1), .int 0])), (u.2 1, .inr (7, [.int 0, .int 0, .int (-1), .int 0])), (u.2 2, .inr (7, [.int 0, .int 0, .int (-1), .int 0])), (u.2 3, .inr (7, [.int 0, .int 0, .int (-1), .int 0])), (u.2 4, .inr (7, [.int 0, .int 0, .int (-1), .int 0])), (u.2 5, .inr (7, [.int 0, .int 0, .int (-1), .int 0])), (u.2 6, .inr (7, [.int 0, .int 0, .int (-1), .int 0])), (u.2 7, .inr (7, [.int 0, .int 0, .int (-1), .int 0]))]) (xA (fun _ => b) 1 sz)) 9 40 (xA (fun _ => b) 1 sz) := by
  refine fl_startN (by decide) (Nat.le_of_ble_eq_true rfl) ?_
  intro p e s m args below meth c Q hx hb hml hown hin hts hsz hP hK hN ret ls hl
  subst hsz
  have hA : ∀ q : Nat, s.heap.size ≤ q → xA (fun _ => b) 1 s.heap.size q := fun q h => Or.inr h
  have hS : va_S (xA (fun _ => b) 1 s.heap.size) s.heap s.heap [] := va_S.rf
  have hD : va_D (xA (fun _ => b) 1 s.heap.size) [(b, .inr (5, [.int 0, .null]))] := va_D_of (a := fun _ => b) (n := 1) rfl (fun i j hi hj _ => by omega) xA_in
  have hl : lv_has ls 3 [(0, .ref b), (1, .int (8 : Int32))] := hl
  refine lv_aload_n hx hb d_Pile_init_0 rfl (lv_at hl 0 rfl) ?_
  refine W.objInit hx hb hown (hts _ q108) (hts _ q70) (hts _ q71) rfl (by rw [hml]; exact hl.1) rfl d_Pile_init_1 (Nat.le_of_ble_eq_true rfl) (Nat.le_of_ble_eq_true rfl) ?_
  refine W.eq (g2 := F0 m 4 ls []) rfl ?_
  refine lv_aload_n hx hb d_Pile_init_4 rfl (lv_at hl 0 rfl) ?_
  refine lv_iload_n hx hb d_Pile_init_5 rfl (lv_at hl 1 rfl) ?_
  refine lv_if_le (tgt := 13) hx hb d_Pile_init_6 (by decide) (fun c6 => absurd c6 (by decide)) (fun _ => ?_)
  refine lv_iload_n hx hb d_Pile_init_9 rfl (lv_at hl 1 rfl) ?_
  refine lv_goto (tgt := 14) hx hb d_Pile_init_10 (by decide) ?_
  refine va_newq (C := "NoneMinds$Table") (N' := 8) hx hb hown (hts _ q109) (nw2 hN) hK hP hD hS hA (by decide) (by decide) (by decide) (Nat.le_of_ble_eq_true rfl) (Nat.le_of_ble_eq_true rfl) d_Pile_init_14 (fun qa ca H hKa hP hD hS => ?_)
  obtain rfl : ca = E.2.2.1 := one_obj (t1 := [(E.2.1, .int)]) (t2 := [(E.2.2.2, .object "NoneMinds$Note")]) hKa
  have hP : va_P E.1 xcl [(b, .inr (5, [.int 0, .null])), (qa, .inl (E.2.2.1, 8, .inr (.inr (.inr (.inr (fun _ => none))))))] H := hP
  have hD : va_D (xA (fun _ => b) 1 s.heap.size) [(b, .inr (5, [.int 0, .null])), (qa, .inl (E.2.2.1, 8, .inr (.inr (.inr (.inr (fun _ => none))))))] := hD
  refine va_putF (D := E.1) (ci := 5) (v := .ref qa) (ty := .array (.object "NoneMinds$Table")) (C := R_Pile) (T := T_Pile) hx hb hts in_Pile ty_Pile tk_Pile nm_Pile hown hK hP hD hS 0 rfl rfl 1 (by decide) (hts _ q112) (fun _ h9 => h9) rfl hin rfl (tk_Pile 1 (by decide)) rfl rfl (Nat.le_of_ble_eq_true rfl) d_Pile_init_17 (fun H locs hP hD hS => ?_)
  have hP : va_P E.1 xcl [(b, .inr (5, [.int 0, .ref qa])), (qa, .inl (E.2.2.1, 8, .inr (.inr (.inr (.inr (fun _ => none))))))] H := hP
  have hD : va_D (xA (fun _ => b) 1 s.heap.size) [(b, .inr (5, [.int 0, .ref qa])), (qa, .inl (E.2.2.1, 8, .inr (.inr (.inr (.inr (fun _ => none))))))] := hD
  refine lv_iconst (v := (0 : Int32)) hx hb d_Pile_init_20 (by decide) ?_
  refine lv_istore_n (lv' := [(2, .int (0 : Int32)), (0, .ref b), (1, .int (8 : Int32))]) hx hb d_Pile_init_21 rfl hl (by decide) rfl (fun ls hl => ?_)
  refine lv_iload_n hx hb d_Pile_init_22 rfl (lv_at hl 0 rfl) ?_
  refine lv_aload_n hx hb d_Pile_init_23 rfl (lv_at hl 1 rfl) ?_
  refine va_get (T := T_Pile) (N := 2) hx hb hts in_Pile hown hK hP 0 rfl rfl 1 (by decide) (hts _ q112) (fun _ h9 => h9) rfl d_Pile_init_24 ?_
  refine va_alen hx hb hK hP 1 1 rfl rfl (v := (8 : Int32)) rfl d_Pile_init_27 ?_
  refine lv_icmp_ge (tgt := 50) hx hb d_Pile_init_28 (by decide) (fun c => absurd c (by decide)) (fun _ => ?_)
  refine lv_aload_n hx hb d_Pile_init_31 rfl (lv_at hl 1 rfl) ?_
  refine va_get (T := T_Pile) (N := 2) hx hb hts in_Pile hown hK hP 0 rfl rfl 1 (by decide) (hts _ q112) (fun _ h9 => h9) rfl d_Pile_init_32 ?_
  refine lv_iload_n hx hb d_Pile_init_35 rfl (lv_at hl 0 rfl) ?_
  refine va_new (ci := 7) (fs := [.int 0, .int 0, .int 0, .int 0]) (C := R_Table) (T := T_Table) (N := 4) hx hb hts in_Table ty_Table tk_Table hown (hts _ q109) (hts _ q88) (hts _ q51) hK hP hD hS hA rfl (fun j hj => by match j, hj with | 0, _ => rfl | 1, _ => rfl | 2, _ => rfl | 3, _ => rfl | j + 4, hj => exact absurd hj (by omega)) (Nat.le_of_ble_eq_true rfl) (Nat.le_of_ble_eq_true rfl) d_Pile_init_36 (fun t0 H hP hD hS => ?_)
  refine lv_dup hx hb d_Pile_init_39 rfl ?_
  have hDk : va_D (xA (fun _ => b) 1 s.heap.size) ([(b, .inr (5, [.int 0, .ref qa])), (qa, .inl (E.2.2.1, 8, .inr (.inr (.inr (.inr (fun _ => none))))))] ++ [(t0, .inr (7, [.int 0, .int 0, .int 0, .int 0]))]) := hD
  have hPk : va_P E.1 xcl ([(b, .inr (5, [.int 0, .ref qa])), (qa, .inl (E.2.2.1, 8, .inr (.inr (.inr (.inr (fun _ => none))))))] ++ [(t0, .inr (7, [.int 0, .int 0, .int 0, .int 0]))]) H := hP
  refine fCallN (fRunIN (As := []) (rest := [.ref t0, .int (0 : Int32), .ref qa]) hx hb hml hown hts hK hN (hPk.sub (ws' := [(t0, .inr (7, [.int 0, .int 0, .int 0, .int 0]))]) [2] rfl) (cx_Table_init l E t0 H.size) (nw3 hN) q89 q51 q90 rfl hd_x_Table_init rfl rfl ⟨Nat.le_of_ble_eq_true rfl, Nat.le_of_ble_eq_true rfl⟩ rfl hl.1 rfl (Nat.le_of_ble_eq_true rfl) d_Pile_init_40 ⟨Nat.le_of_ble_eq_true rfl, Nat.le_of_ble_eq_true rfl⟩) hS (xA1f hDk hS hA) (fun _ H1 locs hD1 hP1 hS _ hk1 => ?_)
  obtain ⟨hP, hD⟩ := jn hPk hDk hk1 (fun x h => xA1f hDk (by assumption) hA x h) hP1 hD1
  generalize H1 = H at hP hS ⊢
  have hP : va_P E.1 xcl [(b, .inr (5, [.int 0, .ref qa])), (qa, .inl (E.2.2.1, 8, .inr (.inr (.inr (.inr (fun _ => none)))))), (t0, .inr (7, [.int 0, .int 0, .int (-1), .int 0]))] H := hP
  have hD : va_D (xA (fun _ => b) 1 s.heap.size) [(b, .inr (5, [.int 0, .ref qa])), (qa, .inl (E.2.2.1, 8, .inr (.inr (.inr (.inr (fun _ => none)))))), (t0, .inr (7, [.int 0, .int 0, .int (-1), .int 0]))] := hD
  refine va_astq hx hb hK hP hD hS 1 1 2 7 rfl rfl rfl rfl (i := (0 : Int32)) (vpin_c (by decide)) d_Pile_init_43 (fun H locs hP hD hS => ?_)
  have hP : va_P E.1 xcl [(b, .inr (5, [.int 0, .ref qa])), (qa, .inl (E.2.2.1, 8, .inr (.inr (.inr (.inr (va_up (fun _ => none) 0 (some t0))))))), (t0, .inr (7, [.int 0, .int 0, .int (-1), .int 0]))] H := hP
  have hD : va_D (xA (fun _ => b) 1 s.heap.size) [(b, .inr (5, [.int 0, .ref qa])), (qa, .inl (E.2.2.1, 8, .inr (.inr (.inr (.inr (va_up (fun _ => none) 0 (some t0))))))), (t0, .inr (7, [.int 0, .int 0, .int (-1), .int 0]))] := hD
  refine lv_iinc (v := (1 : Int32)) (lv' := [(2, .int (1 : Int32)), (0, .ref b), (1, .int (8 : Int32))]) hx hb d_Pile_init_44 hl (k := 0) rfl (by decide) (by decide) rfl (fun ls hl => ?_)
  refine lv_goto (tgt := 22) hx hb d_Pile_init_47 (by decide) ?_
  refine lv_iload_n hx hb d_Pile_init_22 rfl (lv_at hl 0 rfl) ?_
  refine lv_aload_n hx hb d_Pile_init_23 rfl (lv_at hl 1 rfl) ?_
  refine va_get (T := T_Pile) (N := 2) hx hb hts in_Pile hown hK hP 0 rfl rfl 1 (by decide) (hts _ q112) (fun _ h9 => h9) rfl d_Pile_init_24 ?_
  refine va_alen hx hb hK hP 1 1 rfl rfl (v := (8 : Int32)) rfl d_Pile_init_27 ?_
  refine lv_icmp_ge (tgt := 50) hx hb d_Pile_init_28 (by decide) (fun c => absurd c (by decide)) (fun _ => ?_)
  refine lv_aload_n hx hb d_Pile_init_31 rfl (lv_at hl 1 rfl) ?_
  refine va_get (T := T_Pile) (N := 2) hx hb hts in_Pile hown hK hP 0 rfl rfl 1 (by decide) (hts _ q112) (fun _ h9 => h9) rfl d_Pile_init_32 ?_
  refine lv_iload_n hx hb d_Pile_init_35 rfl (lv_at hl 0 rfl) ?_
  refine va_new (ci := 7) (fs := [.int 0, .int 0, .int 0, .int 0]) (C := R_Table) (T := T_Table) (N := 4) hx hb hts in_Table ty_Table tk_Table hown (hts _ q109) (hts _ q88) (hts _ q51) hK hP hD hS hA rfl (fun j hj => by match j, hj with | 0, _ => rfl | 1, _ => rfl | 2, _ => rfl | 3, _ => rfl | j + 4, hj => exact absurd hj (by omega)) (Nat.le_of_ble_eq_true rfl) (Nat.le_of_ble_eq_true rfl) d_Pile_init_36 (fun t1 H hP hD hS => ?_)
  refine lv_dup hx hb d_Pile_init_39 rfl ?_
  have hDk : va_D (xA (fun _ => b) 1 s.heap.size) ([(b, .inr (5, [.int 0, .ref qa])), (qa, .inl (E.2.2.1, 8, .inr (.inr (.inr (.inr (va_up (fun _ => none) 0 (some t0))))))), (t0, .inr (7, [.int 0, .int 0, .int (-1), .int 0]))] ++ [(t1, .inr (7, [.int 0, .int 0, .int 0, .int 0]))]) := hD
  have hPk : va_P E.1 xcl ([(b, .inr (5, [.int 0, .ref qa])), (qa, .inl (E.2.2.1, 8, .inr (.inr (.inr (.inr (va_up (fun _ => none) 0 (some t0))))))), (t0, .inr (7, [.int 0, .int 0, .int (-1), .int 0]))] ++ [(t1, .inr (7, [.int 0, .int 0, .int 0, .int 0]))]) H := hP
  refine fCallN (fRunIN (As := []) (rest := [.ref t1, .int (1 : Int32), .ref qa]) hx hb hml hown hts hK hN (hPk.sub (ws' := [(t1, .inr (7, [.int 0, .int 0, .int 0, .int 0]))]) [3] rfl) (cx_Table_init l E t1 H.size) (nw3 hN) q89 q51 q90 rfl hd_x_Table_init rfl rfl ⟨Nat.le_of_ble_eq_true rfl, Nat.le_of_ble_eq_true rfl⟩ rfl hl.1 rfl (Nat.le_of_ble_eq_true rfl) d_Pile_init_40 ⟨Nat.le_of_ble_eq_true rfl, Nat.le_of_ble_eq_true rfl⟩) hS (xA1f hDk hS hA) (fun _ H1 locs hD1 hP1 hS _ hk1 => ?_)
  obtain ⟨hP, hD⟩ := jn hPk hDk hk1 (fun x h => xA1f hDk (by assumption) hA x h) hP1 hD1
  generalize H1 = H at hP hS ⊢
  have hP : va_P E.1 xcl [(b, .inr (5, [.int 0, .ref qa])), (qa, .inl (E.2.2.1, 8, .inr (.inr (.inr (.inr (va_up (fun _ => none) 0 (some t0))))))), (t0, .inr (7, [.int 0, .int 0, .int (-1), .int 0])), (t1, .inr (7, [.int 0, .int 0, .int (-1), .int 0]))] H := hP
  have hD : va_D (xA (fun _ => b) 1 s.heap.size) [(b, .inr (5, [.int 0, .ref qa])), (qa, .inl (E.2.2.1, 8, .inr (.inr (.inr (.inr (va_up (fun _ => none) 0 (some t0))))))), (t0, .inr (7, [.int 0, .int 0, .int (-1), .int 0])), (t1, .inr (7, [.int 0, .int 0, .int (-1), .int 0]))] := hD
  refine va_astq hx hb hK hP hD hS 1 1 3 7 rfl rfl rfl rfl (i := (1 : Int32)) (vpin_c (by decide)) d_Pile_init_43 (fun H locs hP hD hS => ?_)
  have hP : va_P E.1 xcl [(b, .inr (5, [.int 0, .ref qa])), (qa, .inl (E.2.2.1, 8, .inr (.inr (.inr (.inr (va_up (va_up (fun _ => none) 0 (some t0)) 1 (some t1))))))), (t0, .inr (7, [.int 0, .int 0, .int (-1), .int 0])), (t1, .inr (7, [.int 0, .int 0, .int (-1), .int 0]))] H := hP
  have hD : va_D (xA (fun _ => b) 1 s.heap.size) [(b, .inr (5, [.int 0, .ref qa])), (qa, .inl (E.2.2.1, 8, .inr (.inr (.inr (.inr (va_up (va_up (fun _ => none) 0 (some t0)) 1 (some t1))))))), (t0, .inr (7, [.int 0, .int 0, .int (-1), .int 0])), (t1, .inr (7, [.int 0, .int 0, .int (-1), .int 0]))] := hD
  refine lv_iinc (v := (2 : Int32)) (lv' := [(2, .int (2 : Int32)), (0, .ref b), (1, .int (8 : Int32))]) hx hb d_Pile_init_44 hl (k := 0) rfl (by decide) (by decide) rfl (fun ls hl => ?_)
  refine lv_goto (tgt := 22) hx hb d_Pile_init_47 (by decide) ?_
  refine lv_iload_n hx hb d_Pile_init_22 rfl (lv_at hl 0 rfl) ?_
  refine lv_aload_n hx hb d_Pile_init_23 rfl (lv_at hl 1 rfl) ?_
  refine va_get (T := T_Pile) (N := 2) hx hb hts in_Pile hown hK hP 0 rfl rfl 1 (by decide) (hts _ q112) (fun _ h9 => h9) rfl d_Pile_init_24 ?_
  refine va_alen hx hb hK hP 1 1 rfl rfl (v := (8 : Int32)) rfl d_Pile_init_27 ?_
  refine lv_icmp_ge (tgt := 50) hx hb d_Pile_init_28 (by decide) (fun c => absurd c (by decide)) (fun _ => ?_)
  refine lv_aload_n hx hb d_Pile_init_31 rfl (lv_at hl 1 rfl) ?_
  refine va_get (T := T_Pile) (N := 2) hx hb hts in_Pile hown hK hP 0 rfl rfl 1 (by decide) (hts _ q112) (fun _ h9 => h9) rfl d_Pile_init_32 ?_
  refine lv_iload_n hx hb d_Pile_init_35 rfl (lv_at hl 0 rfl) ?_
  refine va_new (ci := 7) (fs := [.int 0, .int 0, .int 0, .int 0]) (C := R_Table) (T := T_Table) (N := 4) hx hb hts in_Table ty_Table tk_Table hown (hts _ q109) (hts _ q88) (hts _ q51) hK hP hD hS hA rfl (fun j hj => by match j, hj with | 0, _ => rfl | 1, _ => rfl | 2, _ => rfl | 3, _ => rfl | j + 4, hj => exact absurd hj (by omega)) (Nat.le_of_ble_eq_true rfl) (Nat.le_of_ble_eq_true rfl) d_Pile_init_36 (fun t2 H hP hD hS => ?_)
  refine lv_dup hx hb d_Pile_init_39 rfl ?_
  have hDk : va_D (xA (fun _ => b) 1 s.heap.size) ([(b, .inr (5, [.int 0, .ref qa])), (qa, .inl (E.2.2.1, 8, .inr (.inr (.inr (.inr (va_up (va_up (fun _ => none) 0 (some t0)) 1 (some t1))))))), (t0, .inr (7, [.int 0, .int 0, .int (-1), .int 0])), (t1, .inr (7, [.int 0, .int 0, .int (-1), .int 0]))] ++ [(t2, .inr (7, [.int 0, .int 0, .int 0, .int 0]))]) := hD
  have hPk : va_P E.1 xcl ([(b, .inr (5, [.int 0, .ref qa])), (qa, .inl (E.2.2.1, 8, .inr (.inr (.inr (.inr (va_up (va_up (fun _ => none) 0 (some t0)) 1 (some t1))))))), (t0, .inr (7, [.int 0, .int 0, .int (-1), .int 0])), (t1, .inr (7, [.int 0, .int 0, .int (-1), .int 0]))] ++ [(t2, .inr (7, [.int 0, .int 0, .int 0, .int 0]))]) H := hP
  refine fCallN (fRunIN (As := []) (rest := [.ref t2, .int (2 : Int32), .ref qa]) hx hb hml hown hts hK hN (hPk.sub (ws' := [(t2, .inr (7, [.int 0, .int 0, .int 0, .int 0]))]) [4] rfl) (cx_Table_init l E t2 H.size) (nw3 hN) q89 q51 q90 rfl hd_x_Table_init rfl rfl ⟨Nat.le_of_ble_eq_true rfl, Nat.le_of_ble_eq_true rfl⟩ rfl hl.1 rfl (Nat.le_of_ble_eq_true rfl) d_Pile_init_40 ⟨Nat.le_of_ble_eq_true rfl, Nat.le_of_ble_eq_true rfl⟩) hS (xA1f hDk hS hA) (fun _ H1 locs hD1 hP1 hS _ hk1 => ?_)
  obtain ⟨hP, hD⟩ := jn hPk hDk hk1 (fun x h => xA1f hDk (by assumption) hA x h) hP1 hD1
  generalize H1 = H at hP hS ⊢
  have hP : va_P E.1 xcl [(b, .inr (5, [.int 0, .ref qa])), (qa, .inl (E.2.2.1, 8, .inr (.inr (.inr (.inr (va_up (va_up (fun _ => none) 0 (some t0)) 1 (some t1))))))), (t0, .inr (7, [.int 0, .int 0, .int (-1), .int 0])), (t1, .inr (7, [.int 0, .int 0, .int (-1), .int 0])), (t2, .inr (7, [.int 0, .int 0, .int (-1), .int 0]))] H := hP
  have hD : va_D (xA (fun _ => b) 1 s.heap.size) [(b, .inr (5, [.int 0, .ref qa])), (qa, .inl (E.2.2.1, 8, .inr (.inr (.inr (.inr (va_up (va_up (fun _ => none) 0 (some t0)) 1 (some t1))))))), (t0, .inr (7, [.int 0, .int 0, .int (-1), .int 0])), (t1, .inr (7, [.int 0, .int 0, .int (-1), .int 0])), (t2, .inr (7, [.int 0, .int 0, .int (-1), .int 0]))] := hD
  refine va_astq hx hb hK hP hD hS 1 1 4 7 rfl rfl rfl rfl (i := (2 : Int32)) (vpin_c (by decide)) d_Pile_init_43 (fun H locs hP hD hS => ?_)
  have hP : va_P E.1 xcl [(b, .inr (5, [.int 0, .ref qa])), (qa, .inl (E.2.2.1, 8, .inr (.inr (.inr (.inr (va_up (va_up (va_up (fun _ => none) 0 (some t0)) 1 (some t1)) 2 (some t2))))))), (t0, .inr (7, [.int 0, .int 0, .int (-1), .int 0])), (t1, .inr (7, [.int 0, .int 0, .int (-1), .int 0])), (t2, .inr (7, [.int 0, .int 0, .int (-1), .int 0]))] H := hP
  have hD : va_D (xA (fun _ => b) 1 s.heap.size) [(b, .inr (5, [.int 0, .ref qa])), (qa, .inl (E.2.2.1, 8, .inr (.inr (.inr (.inr (va_up (va_up (va_up (fun _ => none) 0 (some t0)) 1 (some t1)) 2 (some t2))))))), (t0, .inr (7, [.int 0, .int 0, .int (-1), .int 0])), (t1, .inr (7, [.int 0, .int 0, .int (-1), .int 0])), (t2, .inr (7, [.int 0, .int 0, .int (-1), .int 0]))] := hD
  refine lv_iinc (v := (3 : Int32)) (lv' := [(2, .int (3 : Int32)), (0, .ref b), (1, .int (8 : Int32))]) hx hb d_Pile_init_44 hl (k := 0) rfl (by decide) (by decide) rfl (fun ls hl => ?_)
  refine lv_goto (tgt := 22) hx hb d_Pile_init_47 (by decide) ?_
  refine lv_iload_n hx hb d_Pile_init_22 rfl (lv_at hl 0 rfl) ?_
  refine lv_aload_n hx hb d_Pile_init_23 rfl (lv_at hl 1 rfl) ?_
  refine va_get (T := T_Pile) (N := 2) hx hb hts in_Pile hown hK hP 0 rfl rfl 1 (by decide) (hts _ q112) (fun _ h9 => h9) rfl d_Pile_init_24 ?_
  refine va_alen hx hb hK hP 1 1 rfl rfl (v := (8 : Int32)) rfl d_Pile_init_27 ?_
  refine lv_icmp_ge (tgt := 50) hx hb d_Pile_init_28 (by decide) (fun c => absurd c (by decide)) (fun _ => ?_)
  refine lv_aload_n hx hb d_Pile_init_31 rfl (lv_at hl 1 rfl) ?_
  refine va_get (T := T_Pile) (N := 2) hx hb hts in_Pile hown hK hP 0 rfl rfl 1 (by decide) (hts _ q112) (fun _ h9 => h9) rfl d_Pile_init_32 ?_
  refine lv_iload_n hx hb d_Pile_init_35 rfl (lv_at hl 0 rfl) ?_
  refine va_new (ci := 7) (fs := [.int 0, .int 0, .int 0, .int 0]) (C := R_Table) (T := T_Table) (N := 4) hx hb hts in_Table ty_Table tk_Table hown (hts _ q109) (hts _ q88) (hts _ q51) hK hP hD hS hA rfl (fun j hj => by match j, hj with | 0, _ => rfl | 1, _ => rfl | 2, _ => rfl | 3, _ => rfl | j + 4, hj => exact absurd hj (by omega)) (Nat.le_of_ble_eq_true rfl) (Nat.le_of_ble_eq_true rfl) d_Pile_init_36 (fun t3 H hP hD hS => ?_)
  refine lv_dup hx hb d_Pile_init_39 rfl ?_
  have hDk : va_D (xA (fun _ => b) 1 s.heap.size) ([(b, .inr (5, [.int 0, .ref qa])), (qa, .inl (E.2.2.1, 8, .inr (.inr (.inr (.inr (va_up (va_up (va_up (fun _ => none) 0 (some t0)) 1 (some t1)) 2 (some t2))))))), (t0, .inr (7, [.int 0, .int 0, .int (-1), .int 0])), (t1, .inr (7, [.int 0, .int 0, .int (-1), .int 0])), (t2, .inr (7, [.int 0, .int 0, .int (-1), .int 0]))] ++ [(t3, .inr (7, [.int 0, .int 0, .int 0, .int 0]))]) := hD
  have hPk : va_P E.1 xcl ([(b, .inr (5, [.int 0, .ref qa])), (qa, .inl (E.2.2.1, 8, .inr (.inr (.inr (.inr (va_up (va_up (va_up (fun _ => none) 0 (some t0)) 1 (some t1)) 2 (some t2))))))), (t0, .inr (7, [.int 0, .int 0, .int (-1), .int 0])), (t1, .inr (7, [.int 0, .int 0, .int (-1), .int 0])), (t2, .inr (7, [.int 0, .int 0, .int (-1), .int 0]))] ++ [(t3, .inr (7, [.int 0, .int 0, .int 0, .int 0]))]) H := hP
  refine fCallN (fRunIN (As := []) (rest := [.ref t3, .int (3 : Int32), .ref qa]) hx hb hml hown hts hK hN (hPk.sub (ws' := [(t3, .inr (7, [.int 0, .int 0, .int 0, .int 0]))]) [5] rfl) (cx_Table_init l E t3 H.size) (nw3 hN) q89 q51 q90 rfl hd_x_Table_init rfl rfl ⟨Nat.le_of_ble_eq_true rfl, Nat.le_of_ble_eq_true rfl⟩ rfl hl.1 rfl (Nat.le_of_ble_eq_true rfl) d_Pile_init_40 ⟨Nat.le_of_ble_eq_true rfl, Nat.le_of_ble_eq_true rfl⟩) hS (xA1f hDk hS hA) (fun _ H1 locs hD1 hP1 hS _ hk1 => ?_)
  obtain ⟨hP, hD⟩ := jn hPk hDk hk1 (fun x h => xA1f hDk (by assumption) hA x h) hP1 hD1
  generalize H1 = H at hP hS ⊢
  have hP : va_P E.1 xcl [(b, .inr (5, [.int 0, .ref qa])), (qa, .inl (E.2.2.1, 8, .inr (.inr (.inr (.inr (va_up (va_up (va_up (fun _ => none) 0 (some t0)) 1 (some t1)) 2 (some t2))))))), (t0, .inr (7, [.int 0, .int 0, .int (-1), .int 0])), (t1, .inr (7, [.int 0, .int 0, .int (-1), .int 0])), (t2, .inr (7, [.int 0, .int 0, .int (-1), .int 0])), (t3, .inr (7, [.int 0, .int 0, .int (-1), .int 0]))] H := hP
  have hD : va_D (xA (fun _ => b) 1 s.heap.size) [(b, .inr (5, [.int 0, .ref qa])), (qa, .inl (E.2.2.1, 8, .inr (.inr (.inr (.inr (va_up (va_up (va_up (fun _ => none) 0 (some t0)) 1 (some t1)) 2 (some t2))))))), (t0, .inr (7, [.int 0, .int 0, .int (-1), .int 0])), (t1, .inr (7, [.int 0, .int 0, .int (-1), .int 0])), (t2, .inr (7, [.int 0, .int 0, .int (-1), .int 0])), (t3, .inr (7, [.int 0, .int 0, .int (-1), .int 0]))] := hD
  refine va_astq hx hb hK hP hD hS 1 1 5 7 rfl rfl rfl rfl (i := (3 : Int32)) (vpin_c (by decide)) d_Pile_init_43 (fun H locs hP hD hS => ?_)
  have hP : va_P E.1 xcl [(b, .inr (5, [.int 0, .ref qa])), (qa, .inl (E.2.2.1, 8, .inr (.inr (.inr (.inr (va_up (va_up (va_up (va_up (fun _ => none) 0 (some t0)) 1 (some t1)) 2 (some t2)) 3 (some t3))))))), (t0, .inr (7, [.int 0, .int 0, .int (-1), .int 0])), (t1, .inr (7, [.int 0, .int 0, .int (-1), .int 0])), (t2, .inr (7, [.int 0, .int 0, .int (-1), .int 0])), (t3, .inr (7, [.int 0, .int 0, .int (-1), .int 0]))] H := hP
  have hD : va_D (xA (fun _ => b) 1 s.heap.size) [(b, .inr (5, [.int 0, .ref qa])), (qa, .inl (E.2.2.1, 8, .inr (.inr (.inr (.inr (va_up (va_up (va_up (va_up (fun _ => none) 0 (some t0)) 1 (some t1)) 2 (some t2)) 3 (some t3))))))), (t0, .inr (7, [.int 0, .int 0, .int (-1), .int 0])), (t1, .inr (7, [.int 0, .int 0, .int (-1), .int 0])), (t2, .inr (7, [.int 0, .int 0, .int (-1), .int 0])), (t3, .inr (7, [.int 0, .int 0, .int (-1), .int 0]))] := hD
  refine lv_iinc (v := (4 : Int32)) (lv' := [(2, .int (4 : Int32)), (0, .ref b), (1, .int (8 : Int32))]) hx hb d_Pile_init_44 hl (k := 0) rfl (by decide) (by decide) rfl (fun ls hl => ?_)
  refine lv_goto (tgt := 22) hx hb d_Pile_init_47 (by decide) ?_
  refine lv_iload_n hx hb d_Pile_init_22 rfl (lv_at hl 0 rfl) ?_
  refine lv_aload_n hx hb d_Pile_init_23 rfl (lv_at hl 1 rfl) ?_
  refine va_get (T := T_Pile) (N := 2) hx hb hts in_Pile hown hK hP 0 rfl rfl 1 (by decide) (hts _ q112) (fun _ h9 => h9) rfl d_Pile_init_24 ?_
  refine va_alen hx hb hK hP 1 1 rfl rfl (v := (8 : Int32)) rfl d_Pile_init_27 ?_
  refine lv_icmp_ge (tgt := 50) hx hb d_Pile_init_28 (by decide) (fun c => absurd c (by decide)) (fun _ => ?_)
  refine lv_aload_n hx hb d_Pile_init_31 rfl (lv_at hl 1 rfl) ?_
  refine va_get (T := T_Pile) (N := 2) hx hb hts in_Pile hown hK hP 0 rfl rfl 1 (by decide) (hts _ q112) (fun _ h9 => h9) rfl d_Pile_init_32 ?_
  refine lv_iload_n hx hb d_Pile_init_35 rfl (lv_at hl 0 rfl) ?_
  refine va_new (ci := 7) (fs := [.int 0, .int 0, .int 0, .int 0]) (C := R_Table) (T := T_Table) (N := 4) hx hb hts in_Table ty_Table tk_Table hown (hts _ q109) (hts _ q88) (hts _ q51) hK hP hD hS hA rfl (fun j hj => by match j, hj with | 0, _ => rfl | 1, _ => rfl | 2, _ => rfl | 3, _ => rfl | j + 4, hj => exact absurd hj (by omega)) (Nat.le_of_ble_eq_true rfl) (Nat.le_of_ble_eq_true rfl) d_Pile_init_36 (fun t4 H hP hD hS => ?_)
  refine lv_dup hx hb d_Pile_init_39 rfl ?_
  have hDk : va_D (xA (fun _ => b) 1 s.heap.size) ([(b, .inr (5, [.int 0, .ref qa])), (qa, .inl (E.2.2.1, 8, .inr (.inr (.inr (.inr (va_up (va_up (va_up (va_up (fun _ => none) 0 (some t0)) 1 (some t1)) 2 (some t2)) 3 (some t3))))))), (t0, .inr (7, [.int 0, .int 0, .int (-1), .int 0])), (t1, .inr (7, [.int 0, .int 0, .int (-1), .int 0])), (t2, .inr (7, [.int 0, .int 0, .int (-1), .int 0])), (t3, .inr (7, [.int 0, .int 0, .int (-1), .int 0]))] ++ [(t4, .inr (7, [.int 0, .int 0, .int 0, .int 0]))]) := hD
  have hPk : va_P E.1 xcl ([(b, .inr (5, [.int 0, .ref qa])), (qa, .inl (E.2.2.1, 8, .inr (.inr (.inr (.inr (va_up (va_up (va_up (va_up (fun _ => none) 0 (some t0)) 1 (some t1)) 2 (some t2)) 3 (some t3))))))), (t0, .inr (7, [.int 0, .int 0, .int (-1), .int 0])), (t1, .inr (7, [.int 0, .int 0, .int (-1), .int 0])), (t2, .inr (7, [.int 0, .int 0, .int (-1), .int 0])), (t3, .inr (7, [.int 0, .int 0, .int (-1), .int 0]))] ++ [(t4, .inr (7, [.int 0, .int 0, .int 0, .int 0]))]) H := hP
  refine fCallN (fRunIN (As := []) (rest := [.ref t4, .int (4 : Int32), .ref qa]) hx hb hml hown hts hK hN (hPk.sub (ws' := [(t4, .inr (7, [.int 0, .int 0, .int 0, .int 0]))]) [6] rfl) (cx_Table_init l E t4 H.size) (nw3 hN) q89 q51 q90 rfl hd_x_Table_init rfl rfl ⟨Nat.le_of_ble_eq_true rfl, Nat.le_of_ble_eq_true rfl⟩ rfl hl.1 rfl (Nat.le_of_ble_eq_true rfl) d_Pile_init_40 ⟨Nat.le_of_ble_eq_true rfl, Nat.le_of_ble_eq_true rfl⟩) hS (xA1f hDk hS hA) (fun _ H1 locs hD1 hP1 hS _ hk1 => ?_)
  obtain ⟨hP, hD⟩ := jn hPk hDk hk1 (fun x h => xA1f hDk (by assumption) hA x h) hP1 hD1
  generalize H1 = H at hP hS ⊢
  have hP : va_P E.1 xcl [(b, .inr (5, [.int 0, .ref qa])), (qa, .inl (E.2.2.1, 8, .inr (.inr (.inr (.inr (va_up (va_up (va_up (va_up (fun _ => none) 0 (some t0)) 1 (some t1)) 2 (some t2)) 3 (some t3))))))), (t0, .inr (7, [.int 0, .int 0, .int (-1), .int 0])), (t1, .inr (7, [.int 0, .int 0, .int (-1), .int 0])), (t2, .inr (7, [.int 0, .int 0, .int (-1), .int 0])), (t3, .inr (7, [.int 0, .int 0, .int (-1), .int 0])), (t4, .inr (7, [.int 0, .int 0, .int (-1), .int 0]))] H := hP
  have hD : va_D (xA (fun _ => b) 1 s.heap.size) [(b, .inr (5, [.int 0, .ref qa])), (qa, .inl (E.2.2.1, 8, .inr (.inr (.inr (.inr (va_up (va_up (va_up (va_up (fun _ => none) 0 (some t0)) 1 (some t1)) 2 (some t2)) 3 (some t3))))))), (t0, .inr (7, [.int 0, .int 0, .int (-1), .int 0])), (t1, .inr (7, [.int 0, .int 0, .int (-1), .int 0])), (t2, .inr (7, [.int 0, .int 0, .int (-1), .int 0])), (t3, .inr (7, [.int 0, .int 0, .int (-1), .int 0])), (t4, .inr (7, [.int 0, .int 0, .int (-1), .int 0]))] := hD
  refine va_astq hx hb hK hP hD hS 1 1 6 7 rfl rfl rfl rfl (i := (4 : Int32)) (vpin_c (by decide)) d_Pile_init_43 (fun H locs hP hD hS => ?_)
  have hP : va_P E.1 xcl [(b, .inr (5, [.int 0, .ref qa])), (qa, .inl (E.2.2.1, 8, .inr (.inr (.inr (.inr (va_up (va_up (va_up (va_up (va_up (fun _ => none) 0 (some t0)) 1 (some t1)) 2 (some t2)) 3 (some t3)) 4 (some t4))))))), (t0, .inr (7, [.int 0, .int 0, .int (-1), .int 0])), (t1, .inr (7, [.int 0, .int 0, .int (-1), .int 0])), (t2, .inr (7, [.int 0, .int 0, .int (-1), .int 0])), (t3, .inr (7, [.int 0, .int 0, .int (-1), .int 0])), (t4, .inr (7, [.int 0, .int 0, .int (-1), .int 0]))] H := hP
  have hD : va_D (xA (fun _ => b) 1 s.heap.size) [(b, .inr (5, [.int 0, .ref qa])), (qa, .inl (E.2.2.1, 8, .inr (.inr (.inr (.inr (va_up (va_up (va_up (va_up (va_up (fun _ => none) 0 (some t0)) 1 (some t1)) 2 (some t2)) 3 (some t3)) 4 (some t4))))))), (t0, .inr (7, [.int 0, .int 0, .int (-1), .int 0])), (t1, .inr (7, [.int 0, .int 0, .int (-1), .int 0])), (t2, .inr (7, [.int 0, .int 0, .int (-1), .int 0])), (t3, .inr (7, [.int 0, .int 0, .int (-1), .int 0])), (t4, .inr (7, [.int 0, .int 0, .int (-1), .int 0]))] := hD
  refine lv_iinc (v := (5 : Int32)) (lv' := [(2, .int (5 : Int32)), (0, .ref b), (1, .int (8 : Int32))]) hx hb d_Pile_init_44 hl (k := 0) rfl (by decide) (by decide) rfl (fun ls hl => ?_)
  refine lv_goto (tgt := 22) hx hb d_Pile_init_47 (by decide) ?_
  refine lv_iload_n hx hb d_Pile_init_22 rfl (lv_at hl 0 rfl) ?_
  refine lv_aload_n hx hb d_Pile_init_23 rfl (lv_at hl 1 rfl) ?_
  refine va_get (T := T_Pile) (N := 2) hx hb hts in_Pile hown hK hP 0 rfl rfl 1 (by decide) (hts _ q112) (fun _ h9 => h9) rfl d_Pile_init_24 ?_
  refine va_alen hx hb hK hP 1 1 rfl rfl (v := (8 : Int32)) rfl d_Pile_init_27 ?_
  refine lv_icmp_ge (tgt := 50) hx hb d_Pile_init_28 (by decide) (fun c => absurd c (by decide)) (fun _ => ?_)
  refine lv_aload_n hx hb d_Pile_init_31 rfl (lv_at hl 1 rfl) ?_
  refine va_get (T := T_Pile) (N := 2) hx hb hts in_Pile hown hK hP 0 rfl rfl 1 (by decide) (hts _ q112) (fun _ h9 => h9) rfl d_Pile_init_32 ?_
  refine lv_iload_n hx hb d_Pile_init_35 rfl (lv_at hl 0 rfl) ?_
  refine va_new (ci := 7) (fs := [.int 0, .int 0, .int 0, .int 0]) (C := R_Table) (T := T_Table) (N := 4) hx hb hts in_Table ty_Table tk_Table hown (hts _ q109) (hts _ q88) (hts _ q51) hK hP hD hS hA rfl (fun j hj => by match j, hj with | 0, _ => rfl | 1, _ => rfl | 2, _ => rfl | 3, _ => rfl | j + 4, hj => exact absurd hj (by omega)) (Nat.le_of_ble_eq_true rfl) (Nat.le_of_ble_eq_true rfl) d_Pile_init_36 (fun t5 H hP hD hS => ?_)
  refine lv_dup hx hb d_Pile_init_39 rfl ?_
  have hDk : va_D (xA (fun _ => b) 1 s.heap.size) ([(b, .inr (5, [.int 0, .ref qa])), (qa, .inl (E.2.2.1, 8, .inr (.inr (.inr (.inr (va_up (va_up (va_up (va_up (va_up (fun _ => none) 0 (some t0)) 1 (some t1)) 2 (some t2)) 3 (some t3)) 4 (some t4))))))), (t0, .inr (7, [.int 0, .int 0, .int (-1), .int 0])), (t1, .inr (7, [.int 0, .int 0, .int (-1), .int 0])), (t2, .inr (7, [.int 0, .int 0, .int (-1), .int 0])), (t3, .inr (7, [.int 0, .int 0, .int (-1), .int 0])), (t4, .inr (7, [.int 0, .int 0, .int (-1), .int 0]))] ++ [(t5, .inr (7, [.int 0, .int 0, .int 0, .int 0]))]) := hD
  have hPk : va_P E.1 xcl ([(b, .inr (5, [.int 0, .ref qa])), (qa, .inl (E.2.2.1, 8, .inr (.inr (.inr (.inr (va_up (va_up (va_up (va_up (va_up (fun _ => none) 0 (some t0)) 1 (some t1)) 2 (some t2)) 3 (some t3)) 4 (some t4))))))), (t0, .inr (7, [.int 0, .int 0, .int (-1), .int 0])), (t1, .inr (7, [.int 0, .int 0, .int (-1), .int 0])), (t2, .inr (7, [.int 0, .int 0, .int (-1), .int 0])), (t3, .inr (7, [.int 0, .int 0, .int (-1), .int 0])), (t4, .inr (7, [.int 0, .int 0, .int (-1), .int 0]))] ++ [(t5, .inr (7, [.int 0, .int 0, .int 0, .int 0]))]) H := hP
  refine fCallN (fRunIN (As := []) (rest := [.ref t5, .int (5 : Int32), .ref qa]) hx hb hml hown hts hK hN (hPk.sub (ws' := [(t5, .inr (7, [.int 0, .int 0, .int 0, .int 0]))]) [7] rfl) (cx_Table_init l E t5 H.size) (nw3 hN) q89 q51 q90 rfl hd_x_Table_init rfl rfl ⟨Nat.le_of_ble_eq_true rfl, Nat.le_of_ble_eq_true rfl⟩ rfl hl.1 rfl (Nat.le_of_ble_eq_true rfl) d_Pile_init_40 ⟨Nat.le_of_ble_eq_true rfl, Nat.le_of_ble_eq_true rfl⟩) hS (xA1f hDk hS hA) (fun _ H1 locs hD1 hP1 hS _ hk1 => ?_)
  obtain ⟨hP, hD⟩ := jn hPk hDk hk1 (fun x h => xA1f hDk (by assumption) hA x h) hP1 hD1
  generalize H1 = H at hP hS ⊢
  have hP : va_P E.1 xcl [(b, .inr (5, [.int 0, .ref qa])), (qa, .inl (E.2.2.1, 8, .inr (.inr (.inr (.inr (va_up (va_up (va_up (va_up (va_up (fun _ => none) 0 (some t0)) 1 (some t1)) 2 (some t2)) 3 (some t3)) 4 (some t4))))))), (t0, .inr (7, [.int 0, .int 0, .int (-1), .int 0])), (t1, .inr (7, [.int 0, .int 0, .int (-1), .int 0])), (t2, .inr (7, [.int 0, .int 0, .int (-1), .int 0])), (t3, .inr (7, [.int 0, .int 0, .int (-1), .int 0])), (t4, .inr (7, [.int 0, .int 0, .int (-1), .int 0])), (t5, .inr (7, [.int 0, .int 0, .int (-1), .int 0]))] H := hP
  have hD : va_D (xA (fun _ => b) 1 s.heap.size) [(b, .inr (5, [.int 0, .ref qa])), (qa, .inl (E.2.2.1, 8, .inr (.inr (.inr (.inr (va_up (va_up (va_up (va_up (va_up (fun _ => none) 0 (some t0)) 1 (some t1)) 2 (some t2)) 3 (some t3)) 4 (some t4))))))), (t0, .inr (7, [.int 0, .int 0, .int (-1), .int 0])), (t1, .inr (7, [.int 0, .int 0, .int (-1), .int 0])), (t2, .inr (7, [.int 0, .int 0, .int (-1), .int 0])), (t3, .inr (7, [.int 0, .int 0, .int (-1), .int 0])), (t4, .inr (7, [.int 0, .int 0, .int (-1), .int 0])), (t5, .inr (7, [.int 0, .int 0, .int (-1), .int 0]))] := hD
  refine va_astq hx hb hK hP hD hS 1 1 7 7 rfl rfl rfl rfl (i := (5 : Int32)) (vpin_c (by decide)) d_Pile_init_43 (fun H locs hP hD hS => ?_)
  have hP : va_P E.1 xcl [(b, .inr (5, [.int 0, .ref qa])), (qa, .inl (E.2.2.1, 8, .inr (.inr (.inr (.inr (va_up (va_up (va_up (va_up (va_up (va_up (fun _ => none) 0 (some t0)) 1 (some t1)) 2 (some t2)) 3 (some t3)) 4 (some t4)) 5 (some t5))))))), (t0, .inr (7, [.int 0, .int 0, .int (-1), .int 0])), (t1, .inr (7, [.int 0, .int 0, .int (-1), .int 0])), (t2, .inr (7, [.int 0, .int 0, .int (-1), .int 0])), (t3, .inr (7, [.int 0, .int 0, .int (-1), .int 0])), (t4, .inr (7, [.int 0, .int 0, .int (-1), .int 0])), (t5, .inr (7, [.int 0, .int 0, .int (-1), .int 0]))] H := hP
  have hD : va_D (xA (fun _ => b) 1 s.heap.size) [(b, .inr (5, [.int 0, .ref qa])), (qa, .inl (E.2.2.1, 8, .inr (.inr (.inr (.inr (va_up (va_up (va_up (va_up (va_up (va_up (fun _ => none) 0 (some t0)) 1 (some t1)) 2 (some t2)) 3 (some t3)) 4 (some t4)) 5 (some t5))))))), (t0, .inr (7, [.int 0, .int 0, .int (-1), .int 0])), (t1, .inr (7, [.int 0, .int 0, .int (-1), .int 0])), (t2, .inr (7, [.int 0, .int 0, .int (-1), .int 0])), (t3, .inr (7, [.int 0, .int 0, .int (-1), .int 0])), (t4, .inr (7, [.int 0, .int 0, .int (-1), .int 0])), (t5, .inr (7, [.int 0, .int 0, .int (-1), .int 0]))] := hD
  refine lv_iinc (v := (6 : Int32)) (lv' := [(2, .int (6 : Int32)), (0, .ref b), (1, .int (8 : Int32))]) hx hb d_Pile_init_44 hl (k := 0) rfl (by decide) (by decide) rfl (fun ls hl => ?_)
  refine lv_goto (tgt := 22) hx hb d_Pile_init_47 (by decide) ?_
  refine lv_iload_n hx hb d_Pile_init_22 rfl (lv_at hl 0 rfl) ?_
  refine lv_aload_n hx hb d_Pile_init_23 rfl (lv_at hl 1 rfl) ?_
  refine va_get (T := T_Pile) (N := 2) hx hb hts in_Pile hown hK hP 0 rfl rfl 1 (by decide) (hts _ q112) (fun _ h9 => h9) rfl d_Pile_init_24 ?_
  refine va_alen hx hb hK hP 1 1 rfl rfl (v := (8 : Int32)) rfl d_Pile_init_27 ?_
  refine lv_icmp_ge (tgt := 50) hx hb d_Pile_init_28 (by decide) (fun c => absurd c (by decide)) (fun _ => ?_)
  refine lv_aload_n hx hb d_Pile_init_31 rfl (lv_at hl 1 rfl) ?_
  refine va_get (T := T_Pile) (N := 2) hx hb hts in_Pile hown hK hP 0 rfl rfl 1 (by decide) (hts _ q112) (fun _ h9 => h9) rfl d_Pile_init_32 ?_
  refine lv_iload_n hx hb d_Pile_init_35 rfl (lv_at hl 0 rfl) ?_
  refine va_new (ci := 7) (fs := [.int 0, .int 0, .int 0, .int 0]) (C := R_Table) (T := T_Table) (N := 4) hx hb hts in_Table ty_Table tk_Table hown (hts _ q109) (hts _ q88) (hts _ q51) hK hP hD hS hA rfl (fun j hj => by match j, hj with | 0, _ => rfl | 1, _ => rfl | 2, _ => rfl | 3, _ => rfl | j + 4, hj => exact absurd hj (by omega)) (Nat.le_of_ble_eq_true rfl) (Nat.le_of_ble_eq_true rfl) d_Pile_init_36 (fun t6 H hP hD hS => ?_)
  refine lv_dup hx hb d_Pile_init_39 rfl ?_
  have hDk : va_D (xA (fun _ => b) 1 s.heap.size) ([(b, .inr (5, [.int 0, .ref qa])), (qa, .inl (E.2.2.1, 8, .inr (.inr (.inr (.inr (va_up (va_up (va_up (va_up (va_up (va_up (fun _ => none) 0 (some t0)) 1 (some t1)) 2 (some t2)) 3 (some t3)) 4 (some t4)) 5 (some t5))))))), (t0, .inr (7, [.int 0, .int 0, .int (-1), .int 0])), (t1, .inr (7, [.int 0, .int 0, .int (-1), .int 0])), (t2, .inr (7, [.int 0, .int 0, .int (-1), .int 0])), (t3, .inr (7, [.int 0, .int 0, .int (-1), .int 0])), (t4, .inr (7, [.int 0, .int 0, .int (-1), .int 0])), (t5, .inr (7, [.int 0, .int 0, .int (-1), .int 0]))] ++ [(t6, .inr (7, [.int 0, .int 0, .int 0, .int 0]))]) := hD
  have hPk : va_P E.1 xcl ([(b, .inr (5, [.int 0, .ref qa])), (qa, .inl (E.2.2.1, 8, .inr (.inr (.inr (.inr (va_up (va_up (va_up (va_up (va_up (va_up (fun _ => none) 0 (some t0)) 1 (some t1)) 2 (some t2)) 3 (some t3)) 4 (some t4)) 5 (some t5))))))), (t0, .inr (7, [.int 0, .int 0, .int (-1), .int 0])), (t1, .inr (7, [.int 0, .int 0, .int (-1), .int 0])), (t2, .inr (7, [.int 0, .int 0, .int (-1), .int 0])), (t3, .inr (7, [.int 0, .int 0, .int (-1), .int 0])), (t4, .inr (7, [.int 0, .int 0, .int (-1), .int 0])), (t5, .inr (7, [.int 0, .int 0, .int (-1), .int 0]))] ++ [(t6, .inr (7, [.int 0, .int 0, .int 0, .int 0]))]) H := hP
  refine fCallN (fRunIN (As := []) (rest := [.ref t6, .int (6 : Int32), .ref qa]) hx hb hml hown hts hK hN (hPk.sub (ws' := [(t6, .inr (7, [.int 0, .int 0, .int 0, .int 0]))]) [8] rfl) (cx_Table_init l E t6 H.size) (nw3 hN) q89 q51 q90 rfl hd_x_Table_init rfl rfl ⟨Nat.le_of_ble_eq_true rfl, Nat.le_of_ble_eq_true rfl⟩ rfl hl.1 rfl (Nat.le_of_ble_eq_true rfl) d_Pile_init_40 ⟨Nat.le_of_ble_eq_true rfl, Nat.le_of_ble_eq_true rfl⟩) hS (xA1f hDk hS hA) (fun _ H1 locs hD1 hP1 hS _ hk1 => ?_)
  obtain ⟨hP, hD⟩ := jn hPk hDk hk1 (fun x h => xA1f hDk (by assumption) hA x h) hP1 hD1
  generalize H1 = H at hP hS ⊢
  have hP : va_P E.1 xcl [(b, .inr (5, [.int 0, .ref qa])), (qa, .inl (E.2.2.1, 8, .inr (.inr (.inr (.inr (va_up (va_up (va_up (va_up (va_up (va_up (fun _ => none) 0 (some t0)) 1 (some t1)) 2 (some t2)) 3 (some t3)) 4 (some t4)) 5 (some t5))))))), (t0, .inr (7, [.int 0, .int 0, .int (-1), .int 0])), (t1, .inr (7, [.int 0, .int 0, .int (-1), .int 0])), (t2, .inr (7, [.int 0, .int 0, .int (-1), .int 0])), (t3, .inr (7, [.int 0, .int 0, .int (-1), .int 0])), (t4, .inr (7, [.int 0, .int 0, .int (-1), .int 0])), (t5, .inr (7, [.int 0, .int 0, .int (-1), .int 0])), (t6, .inr (7, [.int 0, .int 0, .int (-1), .int 0]))] H := hP
  have hD : va_D (xA (fun _ => b) 1 s.heap.size) [(b, .inr (5, [.int 0, .ref qa])), (qa, .inl (E.2.2.1, 8, .inr (.inr (.inr (.inr (va_up (va_up (va_up (va_up (va_up (va_up (fun _ => none) 0 (some t0)) 1 (some t1)) 2 (some t2)) 3 (some t3)) 4 (some t4)) 5 (some t5))))))), (t0, .inr (7, [.int 0, .int 0, .int (-1), .int 0])), (t1, .inr (7, [.int 0, .int 0, .int (-1), .int 0])), (t2, .inr (7, [.int 0, .int 0, .int (-1), .int 0])), (t3, .inr (7, [.int 0, .int 0, .int (-1), .int 0])), (t4, .inr (7, [.int 0, .int 0, .int (-1), .int 0])), (t5, .inr (7, [.int 0, .int 0, .int (-1), .int 0])), (t6, .inr (7, [.int 0, .int 0, .int (-1), .int 0]))] := hD
  refine va_astq hx hb hK hP hD hS 1 1 8 7 rfl rfl rfl rfl (i := (6 : Int32)) (vpin_c (by decide)) d_Pile_init_43 (fun H locs hP hD hS => ?_)
  have hP : va_P E.1 xcl [(b, .inr (5, [.int 0, .ref qa])), (qa, .inl (E.2.2.1, 8, .inr (.inr (.inr (.inr (va_up (va_up (va_up (va_up (va_up (va_up (va_up (fun _ => none) 0 (some t0)) 1 (some t1)) 2 (some t2)) 3 (some t3)) 4 (some t4)) 5 (some t5)) 6 (some t6))))))), (t0, .inr (7, [.int 0, .int 0, .int (-1), .int 0])), (t1, .inr (7, [.int 0, .int 0, .int (-1), .int 0])), (t2, .inr (7, [.int 0, .int 0, .int (-1), .int 0])), (t3, .inr (7, [.int 0, .int 0, .int (-1), .int 0])), (t4, .inr (7, [.int 0, .int 0, .int (-1), .int 0])), (t5, .inr (7, [.int 0, .int 0, .int (-1), .int 0])), (t6, .inr (7, [.int 0, .int 0, .int (-1), .int 0]))] H := hP
  have hD : va_D (xA (fun _ => b) 1 s.heap.size) [(b, .inr (5, [.int 0, .ref qa])), (qa, .inl (E.2.2.1, 8, .inr (.inr (.inr (.inr (va_up (va_up (va_up (va_up (va_up (va_up (va_up (fun _ => none) 0 (some t0)) 1 (some t1)) 2 (some t2)) 3 (some t3)) 4 (some t4)) 5 (some t5)) 6 (some t6))))))), (t0, .inr (7, [.int 0, .int 0, .int (-1), .int 0])), (t1, .inr (7, [.int 0, .int 0, .int (-1), .int 0])), (t2, .inr (7, [.int 0, .int 0, .int (-1), .int 0])), (t3, .inr (7, [.int 0, .int 0, .int (-1), .int 0])), (t4, .inr (7, [.int 0, .int 0, .int (-1), .int 0])), (t5, .inr (7, [.int 0, .int 0, .int (-1), .int 0])), (t6, .inr (7, [.int 0, .int 0, .int (-1), .int 0]))] := hD
  refine lv_iinc (v := (7 : Int32)) (lv' := [(2, .int (7 : Int32)), (0, .ref b), (1, .int (8 : Int32))]) hx hb d_Pile_init_44 hl (k := 0) rfl (by decide) (by decide) rfl (fun ls hl => ?_)
  refine lv_goto (tgt := 22) hx hb d_Pile_init_47 (by decide) ?_
  refine lv_iload_n hx hb d_Pile_init_22 rfl (lv_at hl 0 rfl) ?_
  refine lv_aload_n hx hb d_Pile_init_23 rfl (lv_at hl 1 rfl) ?_
  refine va_get (T := T_Pile) (N := 2) hx hb hts in_Pile hown hK hP 0 rfl rfl 1 (by decide) (hts _ q112) (fun _ h9 => h9) rfl d_Pile_init_24 ?_
  refine va_alen hx hb hK hP 1 1 rfl rfl (v := (8 : Int32)) rfl d_Pile_init_27 ?_
  refine lv_icmp_ge (tgt := 50) hx hb d_Pile_init_28 (by decide) (fun c => absurd c (by decide)) (fun _ => ?_)
  refine lv_aload_n hx hb d_Pile_init_31 rfl (lv_at hl 1 rfl) ?_
  refine va_get (T := T_Pile) (N := 2) hx hb hts in_Pile hown hK hP 0 rfl rfl 1 (by decide) (hts _ q112) (fun _ h9 => h9) rfl d_Pile_init_32 ?_
  refine lv_iload_n hx hb d_Pile_init_35 rfl (lv_at hl 0 rfl) ?_
  refine va_new (ci := 7) (fs := [.int 0, .int 0, .int 0, .int 0]) (C := R_Table) (T := T_Table) (N := 4) hx hb hts in_Table ty_Table tk_Table hown (hts _ q109) (hts _ q88) (hts _ q51) hK hP hD hS hA rfl (fun j hj => by match j, hj with | 0, _ => rfl | 1, _ => rfl | 2, _ => rfl | 3, _ => rfl | j + 4, hj => exact absurd hj (by omega)) (Nat.le_of_ble_eq_true rfl) (Nat.le_of_ble_eq_true rfl) d_Pile_init_36 (fun t7 H hP hD hS => ?_)
  refine lv_dup hx hb d_Pile_init_39 rfl ?_
  have hDk : va_D (xA (fun _ => b) 1 s.heap.size) ([(b, .inr (5, [.int 0, .ref qa])), (qa, .inl (E.2.2.1, 8, .inr (.inr (.inr (.inr (va_up (va_up (va_up (va_up (va_up (va_up (va_up (fun _ => none) 0 (some t0)) 1 (some t1)) 2 (some t2)) 3 (some t3)) 4 (some t4)) 5 (some t5)) 6 (some t6))))))), (t0, .inr (7, [.int 0, .int 0, .int (-1), .int 0])), (t1, .inr (7, [.int 0, .int 0, .int (-1), .int 0])), (t2, .inr (7, [.int 0, .int 0, .int (-1), .int 0])), (t3, .inr (7, [.int 0, .int 0, .int (-1), .int 0])), (t4, .inr (7, [.int 0, .int 0, .int (-1), .int 0])), (t5, .inr (7, [.int 0, .int 0, .int (-1), .int 0])), (t6, .inr (7, [.int 0, .int 0, .int (-1), .int 0]))] ++ [(t7, .inr (7, [.int 0, .int 0, .int 0, .int 0]))]) := hD
  have hPk : va_P E.1 xcl ([(b, .inr (5, [.int 0, .ref qa])), (qa, .inl (E.2.2.1, 8, .inr (.inr (.inr (.inr (va_up (va_up (va_up (va_up (va_up (va_up (va_up (fun _ => none) 0 (some t0)) 1 (some t1)) 2 (some t2)) 3 (some t3)) 4 (some t4)) 5 (some t5)) 6 (some t6))))))), (t0, .inr (7, [.int 0, .int 0, .int (-1), .int 0])), (t1, .inr (7, [.int 0, .int 0, .int (-1), .int 0])), (t2, .inr (7, [.int 0, .int 0, .int (-1), .int 0])), (t3, .inr (7, [.int 0, .int 0, .int (-1), .int 0])), (t4, .inr (7, [.int 0, .int 0, .int (-1), .int 0])), (t5, .inr (7, [.int 0, .int 0, .int (-1), .int 0])), (t6, .inr (7, [.int 0, .int 0, .int (-1), .int 0]))] ++ [(t7, .inr (7, [.int 0, .int 0, .int 0, .int 0]))]) H := hP
  refine fCallN (fRunIN (As := []) (rest := [.ref t7, .int (7 : Int32), .ref qa]) hx hb hml hown hts hK hN (hPk.sub (ws' := [(t7, .inr (7, [.int 0, .int 0, .int 0, .int 0]))]) [9] rfl) (cx_Table_init l E t7 H.size) (nw3 hN) q89 q51 q90 rfl hd_x_Table_init rfl rfl ⟨Nat.le_of_ble_eq_true rfl, Nat.le_of_ble_eq_true rfl⟩ rfl hl.1 rfl (Nat.le_of_ble_eq_true rfl) d_Pile_init_40 ⟨Nat.le_of_ble_eq_true rfl, Nat.le_of_ble_eq_true rfl⟩) hS (xA1f hDk hS hA) (fun _ H1 locs hD1 hP1 hS _ hk1 => ?_)
  obtain ⟨hP, hD⟩ := jn hPk hDk hk1 (fun x h => xA1f hDk (by assumption) hA x h) hP1 hD1
  generalize H1 = H at hP hS ⊢
  have hP : va_P E.1 xcl [(b, .inr (5, [.int 0, .ref qa])), (qa, .inl (E.2.2.1, 8, .inr (.inr (.inr (.inr (va_up (va_up (va_up (va_up (va_up (va_up (va_up (fun _ => none) 0 (some t0)) 1 (some t1)) 2 (some t2)) 3 (some t3)) 4 (some t4)) 5 (some t5)) 6 (some t6))))))), (t0, .inr (7, [.int 0, .int 0, .int (-1), .int 0])), (t1, .inr (7, [.int 0, .int 0, .int (-1), .int 0])), (t2, .inr (7, [.int 0, .int 0, .int (-1), .int 0])), (t3, .inr (7, [.int 0, .int 0, .int (-1), .int 0])), (t4, .inr (7, [.int 0, .int 0, .int (-1), .int 0])), (t5, .inr (7, [.int 0, .int 0, .int (-1), .int 0])), (t6, .inr (7, [.int 0, .int 0, .int (-1), .int 0])), (t7, .inr (7, [.int 0, .int 0, .int (-1), .int 0]))] H := hP
  have hD : va_D (xA (fun _ => b) 1 s.heap.size) [(b, .inr (5, [.int 0, .ref qa])), (qa, .inl (E.2.2.1, 8, .inr (.inr (.inr (.inr (va_up (va_up (va_up (va_up (va_up (va_up (va_up (fun _ => none) 0 (some t0)) 1 (some t1)) 2 (some t2)) 3 (some t3)) 4 (some t4)) 5 (some t5)) 6 (some t6))))))), (t0, .inr (7, [.int 0, .int 0, .int (-1), .int 0])), (t1, .inr (7, [.int 0, .int 0, .int (-1), .int 0])), (t2, .inr (7, [.int 0, .int 0, .int (-1), .int 0])), (t3, .inr (7, [.int 0, .int 0, .int (-1), .int 0])), (t4, .inr (7, [.int 0, .int 0, .int (-1), .int 0])), (t5, .inr (7, [.int 0, .int 0, .int (-1), .int 0])), (t6, .inr (7, [.int 0, .int 0, .int (-1), .int 0])), (t7, .inr (7, [.int 0, .int 0, .int (-1), .int 0]))] := hD
  refine va_astq hx hb hK hP hD hS 1 1 9 7 rfl rfl rfl rfl (i := (7 : Int32)) (vpin_c (by decide)) d_Pile_init_43 (fun H locs hP hD hS => ?_)
  have hP : va_P E.1 xcl [(b, .inr (5, [.int 0, .ref qa])), (qa, .inl (E.2.2.1, 8, .inr (.inr (.inr (.inr (va_up (va_up (va_up (va_up (va_up (va_up (va_up (va_up (fun _ => none) 0 (some t0)) 1 (some t1)) 2 (some t2)) 3 (some t3)) 4 (some t4)) 5 (some t5)) 6 (some t6)) 7 (some t7))))))), (t0, .inr (7, [.int 0, .int 0, .int (-1), .int 0])), (t1, .inr (7, [.int 0, .int 0, .int (-1), .int 0])), (t2, .inr (7, [.int 0, .int 0, .int (-1), .int 0])), (t3, .inr (7, [.int 0, .int 0, .int (-1), .int 0])), (t4, .inr (7, [.int 0, .int 0, .int (-1), .int 0])), (t5, .inr (7, [.int 0, .int 0, .int (-1), .int 0])), (t6, .inr (7, [.int 0, .int 0, .int (-1), .int 0])), (t7, .inr (7, [.int 0, .int 0, .int (-1), .int 0]))] H := hP
  have hD : va_D (xA (fun _ => b) 1 s.heap.size) [(b, .inr (5, [.int 0, .ref qa])), (qa, .inl (E.2.2.1, 8, .inr (.inr (.inr (.inr (va_up (va_up (va_up (va_up (va_up (va_up (va_up (va_up (fun _ => none) 0 (some t0)) 1 (some t1)) 2 (some t2)) 3 (some t3)) 4 (some t4)) 5 (some t5)) 6 (some t6)) 7 (some t7))))))), (t0, .inr (7, [.int 0, .int 0, .int (-1), .int 0])), (t1, .inr (7, [.int 0, .int 0, .int (-1), .int 0])), (t2, .inr (7, [.int 0, .int 0, .int (-1), .int 0])), (t3, .inr (7, [.int 0, .int 0, .int (-1), .int 0])), (t4, .inr (7, [.int 0, .int 0, .int (-1), .int 0])), (t5, .inr (7, [.int 0, .int 0, .int (-1), .int 0])), (t6, .inr (7, [.int 0, .int 0, .int (-1), .int 0])), (t7, .inr (7, [.int 0, .int 0, .int (-1), .int 0]))] := hD
  refine lv_iinc (v := (8 : Int32)) (lv' := [(2, .int (8 : Int32)), (0, .ref b), (1, .int (8 : Int32))]) hx hb d_Pile_init_44 hl (k := 0) rfl (by decide) (by decide) rfl (fun ls hl => ?_)
  refine lv_goto (tgt := 22) hx hb d_Pile_init_47 (by decide) ?_
  refine lv_iload_n hx hb d_Pile_init_22 rfl (lv_at hl 0 rfl) ?_
  refine lv_aload_n hx hb d_Pile_init_23 rfl (lv_at hl 1 rfl) ?_
  refine va_get (T := T_Pile) (N := 2) hx hb hts in_Pile hown hK hP 0 rfl rfl 1 (by decide) (hts _ q112) (fun _ h9 => h9) rfl d_Pile_init_24 ?_
  refine va_alen hx hb hK hP 1 1 rfl rfl (v := (8 : Int32)) rfl d_Pile_init_27 ?_
  refine lv_icmp_ge (tgt := 50) hx hb d_Pile_init_28 (by decide) (fun _ => ?_) (fun c => absurd (by decide) c)
  have hP := P_cg hP 1 (fun j => some (([t0, t1, t2, t3, t4, t5, t6, t7] : List Nat).getD j 0)) rfl (fun j hj => by match j, hj with | 0, _ => rfl | 1, _ => rfl | 2, _ => rfl | 3, _ => rfl | 4, _ => rfl | 5, _ => rfl | 6, _ => rfl | 7, _ => rfl | j + 8, hj => exact absurd hj (by omega))
  have hD : va_D (xA (fun _ => b) 1 s.heap.size) [(b, .inr (5, [.int 0, .ref qa])), (qa, .inl (E.2.2.1, 8, .inr (.inr (.inr (.inr (fun j => some (([t0, t1, t2, t3, t4, t5, t6, t7] : List Nat).getD j 0))))))), (t0, .inr (7, [.int 0, .int 0, .int (-1), .int 0])), (t1, .inr (7, [.int 0, .int 0, .int (-1), .int 0])), (t2, .inr (7, [.int 0, .int 0, .int (-1), .int 0])), (t3, .inr (7, [.int 0, .int 0, .int (-1), .int 0])), (t4, .inr (7, [.int 0, .int 0, .int (-1), .int 0])), (t5, .inr (7, [.int 0, .int 0, .int (-1), .int 0])), (t6, .inr (7, [.int 0, .int 0, .int (-1), .int 0])), (t7, .inr (7, [.int 0, .int 0, .int (-1), .int 0]))] := va_D_fst hD rfl
  refine W.widen (k := 9) (n := 40) (Nat.le_of_ble_eq_true rfl) (Nat.le_of_ble_eq_true rfl) ?_
  exact ret (qa, fun j => ([t0, t1, t2, t3, t4, t5, t6, t7] : List Nat).getD j 0) _ _ _ _ hD hP hS d_Pile_init_50
abbrev rm_x_Notes_init : Room := { frames := 2, cells := 9, slots := 48, locals := 50 }
theorem hd_x_Notes_init : y_Notes_init.cls ≠ "java/lang/invoke/MethodHandle" ∧ y_Notes_init.cls ≠ "java/lang/invoke/VarHandle" ∧ (parseMethodDescriptor y_Notes_init.desc).map (fun d => d.parameters.length) = some 0 := by decide +kernel
set_option maxHeartbeats 4000000 in
set_option maxRecDepth 100000 in
theorem cx_Notes_init (l : Launch) (E : xE) (b sz : Nat) : Met l y_Notes_init (Cond.code y_Notes_init b_Notes_init 2 none :: TB) rm_x_Notes_init (fPc [.ref b] E.1 (xtys E) sz [(b, .inr (4, [.int 0, .null]))]) (fQv (fun u : Nat × (Nat → Nat) => va_D (xA (fun _ => b) 1 sz) ([(b, .inr (4, [.int 0, .ref u.1])), (u.1, .inl (E.2.2.2, 8, .inr (.inr (.inr (.inr (fun j => some (u.2 j))))))), (u.2 0, .inr (3, [.int 0, .int 0, .int 0, .int 0, .int 0])), (u.2 1, .inr (3, [.int 0, .int 0, .int 0, .int 0, .int 0])), (u.2 2, .inr (3, [.int 0, .int 0, .int 0, .int 0, .int 0])), (u.2 3, .inr (3, [.int 0, .int 0, .int 0, .int 0, .int 0])), (u.2 4, .inr (3, [.int 0, .int 0, .int 0, .int 0, .int 0])), (u.2 5, .inr (3, [.int 0, .int 0, .int 0, .int 0, .int 0])), (u.2 6, .inr (3, [.int 0, .int 0, .int 0, .int 0, .int 0])), (u.2 7, .inr (3, [.int 0, .int 0, .int 0, .int 0, .int 0]))] : va_W)) E.1 (fun u => [(b, .inr (4, [.int 0, .ref u.1])), (u.1, .inl (E.2.2.2, 8, .inr (.inr (.inr (.inr (fun j => some (u.2 j))))))), (u.2 0, .inr (3, [.int 0, .int 0, .int 0, .int 0, .int 0])), (u.2 1, .inr (3, [.int 0, .int 0, .int 0, .int 0, .int 0])), (u.2 2, .inr (3, [.int 0, .int 0, .int 0, .int 0, .int 0])), (u.2 3, .inr (3, [.int 0, .int 0, .int 0, .int 0, .int 0])), (u.2 4, .inr (3, [.int 0, .int 0, .int 0, .int 0, .int 0])), (u.2 5, .inr (3, [.int 0, .int 0, .int 0, .int 0, .int 0])), (u.2 6, .inr (3, [.int 0, .int 0, .int 0, .int 0, .int 0])), (u.2 7, .inr (3, [.int 0, .int 0, .int 0, .int 0, .int 0]))]) (xA (fun _ => b) 1 sz)) 9 48 (xA (fun _ => b) 1 sz) := by
  refine fl_startN (by decide) (Nat.le_of_ble_eq_true rfl) ?_
  intro p e s m args below meth c Q hx hb hml hown hin hts hsz hP hK hN ret ls hl
  subst hsz
  have hA : ∀ q : Nat, s.heap.size ≤ q → xA (fun _ => b) 1 s.heap.size q := fun q h => Or.inr h
  have hS : va_S (xA (fun _ => b) 1 s.heap.size) s.heap s.heap [] := va_S.rf
  have hD : va_D (xA (fun _ => b) 1 s.heap.size) [(b, .inr (4, [.int 0, .null]))] := va_D_of (a := fun _ => b) (n := 1) rfl (fun i j hi hj _ => by omega) xA_in
  have hl : lv_has ls 2 [(0, .ref b)] := hl
  refine lv_aload_n hx hb d_Notes_init_0 rfl (lv_at hl 0 rfl) ?_
  refine W.objInit hx hb hown (hts _ q120) (hts _ q70) (hts _ q71) rfl (by rw [hml]; exact hl.1) rfl d_Notes_init_1 (Nat.le_of_ble_eq_true rfl) (Nat.le_of_ble_eq_true rfl) ?_
  refine W.eq (g2 := F0 m 4 ls []) rfl ?_
  refine lv_aload_n hx hb d_Notes_init_4 rfl (lv_at hl 0 rfl) ?_
  refine lv_bipush (v := (8 : Int32)) hx hb d_Notes_init_5 (by decide) ?_
  refine va_newq (C := "NoneMinds$Note") (N' := 8) hx hb hown (hts _ q121) (nw4 hN) hK hP hD hS hA (by decide) (by decide) (by decide) (Nat.le_of_ble_eq_true rfl) (Nat.le_of_ble_eq_true rfl) d_Notes_init_7 (fun qa ca H hKa hP hD hS => ?_)
  obtain rfl : ca = E.2.2.2 := one_obj (t1 := [(E.2.1, .int), (E.2.2.1, .object "NoneMinds$Table")]) (t2 := []) hKa
  have hP : va_P E.1 xcl [(b, .inr (4, [.int 0, .null])), (qa, .inl (E.2.2.2, 8, .inr (.inr (.inr (.inr (fun _ => none))))))] H := hP
  have hD : va_D (xA (fun _ => b) 1 s.heap.size) [(b, .inr (4, [.int 0, .null])), (qa, .inl (E.2.2.2, 8, .inr (.inr (.inr (.inr (fun _ => none))))))] := hD
  refine va_putF (D := E.1) (ci := 4) (v := .ref qa) (ty := .array (.object "NoneMinds$Note")) (C := R_Notes) (T := T_Notes) hx hb hts in_Notes ty_Notes tk_Notes nm_Notes hown hK hP hD hS 0 rfl rfl 1 (by decide) (hts _ q138) (fun _ h9 => h9) rfl hin rfl (tk_Notes 1 (by decide)) rfl rfl (Nat.le_of_ble_eq_true rfl) d_Notes_init_10 (fun H locs hP hD hS => ?_)
  have hP : va_P E.1 xcl [(b, .inr (4, [.int 0, .ref qa])), (qa, .inl (E.2.2.2, 8, .inr (.inr (.inr (.inr (fun _ => none))))))] H := hP
  have hD : va_D (xA (fun _ => b) 1 s.heap.size) [(b, .inr (4, [.int 0, .ref qa])), (qa, .inl (E.2.2.2, 8, .inr (.inr (.inr (.inr (fun _ => none))))))] := hD
  refine lv_iconst (v := (0 : Int32)) hx hb d_Notes_init_13 (by decide) ?_
  refine lv_istore_n (lv' := [(1, .int (0 : Int32)), (0, .ref b)]) hx hb d_Notes_init_14 rfl hl (by decide) rfl (fun ls hl => ?_)
  refine lv_iload_n hx hb d_Notes_init_15 rfl (lv_at hl 0 rfl) ?_
  refine lv_aload_n hx hb d_Notes_init_16 rfl (lv_at hl 1 rfl) ?_
  refine va_get (T := T_Notes) (N := 2) hx hb hts in_Notes hown hK hP 0 rfl rfl 1 (by decide) (hts _ q138) (fun _ h9 => h9) rfl d_Notes_init_17 ?_
  refine va_alen hx hb hK hP 1 2 rfl rfl (v := (8 : Int32)) rfl d_Notes_init_20 ?_
  refine lv_icmp_ge (tgt := 43) hx hb d_Notes_init_21 (by decide) (fun c => absurd c (by decide)) (fun _ => ?_)
  refine lv_aload_n hx hb d_Notes_init_24 rfl (lv_at hl 1 rfl) ?_
  refine va_get (T := T_Notes) (N := 2) hx hb hts in_Notes hown hK hP 0 rfl rfl 1 (by decide) (hts _ q138) (fun _ h9 => h9) rfl d_Notes_init_25 ?_
  refine lv_iload_n hx hb d_Notes_init_28 rfl (lv_at hl 0 rfl) ?_
  refine va_new (ci := 3) (fs := [.int 0, .int 0, .int 0, .int 0, .int 0]) (C := R_Note) (T := T_Note) (N := 5) hx hb hts in_Note ty_Note tk_Note hown (hts _ q121) (hts _ q122) (hts _ q54) hK hP hD hS hA rfl (fun j hj => by match j, hj with | 0, _ => rfl | 1, _ => rfl | 2, _ => rfl | 3, _ => rfl | 4, _ => rfl | j + 5, hj => exact absurd hj (by omega)) (Nat.le_of_ble_eq_true rfl) (Nat.le_of_ble_eq_true rfl) d_Notes_init_29 (fun t0 H hP hD hS => ?_)
  refine lv_dup hx hb d_Notes_init_32 rfl ?_
  have hDk : va_D (xA (fun _ => b) 1 s.heap.size) ([(b, .inr (4, [.int 0, .ref qa])), (qa, .inl (E.2.2.2, 8, .inr (.inr (.inr (.inr (fun _ => none))))))] ++ [(t0, .inr (3, [.int 0, .int 0, .int 0, .int 0, .int 0]))]) := hD
  have hPk : va_P E.1 xcl ([(b, .inr (4, [.int 0, .ref qa])), (qa, .inl (E.2.2.2, 8, .inr (.inr (.inr (.inr (fun _ => none))))))] ++ [(t0, .inr (3, [.int 0, .int 0, .int 0, .int 0, .int 0]))]) H := hP
  refine fCallN (fRunIN (As := []) (rest := [.ref t0, .int (0 : Int32), .ref qa]) hx hb hml hown hts hK hN (hPk.sub (ws' := [(t0, .inr (3, [.int 0, .int 0, .int 0, .int 0, .int 0]))]) [2] rfl) (cx_Note_init l E t0 H.size) (nw5 hN) q123 q54 q124 rfl hd_x_Note_init rfl rfl ⟨Nat.le_of_ble_eq_true rfl, Nat.le_of_ble_eq_true rfl⟩ rfl hl.1 rfl (Nat.le_of_ble_eq_true rfl) d_Notes_init_33 ⟨Nat.le_of_ble_eq_true rfl, Nat.le_of_ble_eq_true rfl⟩) hS (xA1f hDk hS hA) (fun _ H1 locs hD1 hP1 hS _ hk1 => ?_)
  obtain ⟨hP, hD⟩ := jn hPk hDk hk1 (fun x h => xA1f hDk (by assumption) hA x h) hP1 hD1
  generalize H1 = H at hP hS ⊢
  have hP : va_P E.1 xcl [(b, .inr (4, [.int 0, .ref qa])), (qa, .inl (E.2.2.2, 8, .inr (.inr (.inr (.inr (fun _ => none)))))), (t0, .inr (3, [.int 0, .int 0, .int 0, .int 0, .int 0]))] H := hP
  have hD : va_D (xA (fun _ => b) 1 s.heap.size) [(b, .inr (4, [.int 0, .ref qa])), (qa, .inl (E.2.2.2, 8, .inr (.inr (.inr (.inr (fun _ => none)))))), (t0, .inr (3, [.int 0, .int 0, .int 0, .int 0, .int 0]))] := hD
  refine va_astq hx hb hK hP hD hS 1 2 2 3 rfl rfl rfl rfl (i := (0 : Int32)) (vpin_c (by decide)) d_Notes_init_36 (fun H locs hP hD hS => ?_)
  have hP : va_P E.1 xcl [(b, .inr (4, [.int 0, .ref qa])), (qa, .inl (E.2.2.2, 8, .inr (.inr (.inr (.inr (va_up (fun _ => none) 0 (some t0))))))), (t0, .inr (3, [.int 0, .int 0, .int 0, .int 0, .int 0]))] H := hP
  have hD : va_D (xA (fun _ => b) 1 s.heap.size) [(b, .inr (4, [.int 0, .ref qa])), (qa, .inl (E.2.2.2, 8, .inr (.inr (.inr (.inr (va_up (fun _ => none) 0 (some t0))))))), (t0, .inr (3, [.int 0, .int 0, .int 0, .int 0, .int 0]))] := hD
  refine lv_iinc (v := (1 : Int32)) (lv' := [(1, .int (1 : Int32)), (0, .ref b)]) hx hb d_Notes_init_37 hl (k := 0) rfl (by decide) (by decide) rfl (fun ls hl => ?_)
  refine lv_goto (tgt := 15) hx hb d_Notes_init_40 (by decide) ?_
  refine lv_iload_n hx hb d_Notes_init_15 rfl (lv_at hl 0 rfl) ?_
  refine lv_aload_n hx hb d_Notes_init_16 rfl (lv_at hl 1 rfl) ?_
  refine va_get (T := T_Notes) (N := 2) hx hb hts in_Notes hown hK hP 0 rfl rfl 1 (by decide) (hts _ q138) (fun _ h9 => h9) rfl d_Notes_init_17 ?_
  refine va_alen hx hb hK hP 1 2 rfl rfl (v := (8 : Int32)) rfl d_Notes_init_20 ?_
  refine lv_icmp_ge (tgt := 43) hx hb d_Notes_init_21 (by decide) (fun c => absurd c (by decide)) (fun _ => ?_)
  refine lv_aload_n hx hb d_Notes_init_24 rfl (lv_at hl 1 rfl) ?_
  refine va_get (T := T_Notes) (N := 2) hx hb hts in_Notes hown hK hP 0 rfl rfl 1 (by decide) (hts _ q138) (fun _ h9 => h9) rfl d_Notes_init_25 ?_
  refine lv_iload_n hx hb d_Notes_init_28 rfl (lv_at hl 0 rfl) ?_
  refine va_new (ci := 3) (fs := [.int 0, .int 0, .int 0, .int 0, .int 0]) (C := R_Note) (T := T_Note) (N := 5) hx hb hts in_Note ty_Note tk_Note hown (hts _ q121) (hts _ q122) (hts _ q54) hK hP hD hS hA rfl (fun j hj => by match j, hj with | 0, _ => rfl | 1, _ => rfl | 2, _ => rfl | 3, _ => rfl | 4, _ => rfl | j + 5, hj => exact absurd hj (by omega)) (Nat.le_of_ble_eq_true rfl) (Nat.le_of_ble_eq_true rfl) d_Notes_init_29 (fun t1 H hP hD hS => ?_)
  refine lv_dup hx hb d_Notes_init_32 rfl ?_
  have hDk : va_D (xA (fun _ => b) 1 s.heap.size) ([(b, .inr (4, [.int 0, .ref qa])), (qa, .inl (E.2.2.2, 8, .inr (.inr (.inr (.inr (va_up (fun _ => none) 0 (some t0))))))), (t0, .inr (3, [.int 0, .int 0, .int 0, .int 0, .int 0]))] ++ [(t1, .inr (3, [.int 0, .int 0, .int 0, .int 0, .int 0]))]) := hD
  have hPk : va_P E.1 xcl ([(b, .inr (4, [.int 0, .ref qa])), (qa, .inl (E.2.2.2, 8, .inr (.inr (.inr (.inr (va_up (fun _ => none) 0 (some t0))))))), (t0, .inr (3, [.int 0, .int 0, .int 0, .int 0, .int 0]))] ++ [(t1, .inr (3, [.int 0, .int 0, .int 0, .int 0, .int 0]))]) H := hP
  refine fCallN (fRunIN (As := []) (rest := [.ref t1, .int (1 : Int32), .ref qa]) hx hb hml hown hts hK hN (hPk.sub (ws' := [(t1, .inr (3, [.int 0, .int 0, .int 0, .int 0, .int 0]))]) [3] rfl) (cx_Note_init l E t1 H.size) (nw5 hN) q123 q54 q124 rfl hd_x_Note_init rfl rfl ⟨Nat.le_of_ble_eq_true rfl, Nat.le_of_ble_eq_true rfl⟩ rfl hl.1 rfl (Nat.le_of_ble_eq_true rfl) d_Notes_init_33 ⟨Nat.le_of_ble_eq_true rfl, Nat.le_of_ble_eq_true rfl⟩) hS (xA1f hDk hS hA) (fun _ H1 locs hD1 hP1 hS _ hk1 => ?_)
  obtain ⟨hP, hD⟩ := jn hPk hDk hk1 (fun x h => xA1f hDk (by assumption) hA x h) hP1 hD1
  generalize H1 = H at hP hS ⊢
  have hP : va_P E.1 xcl [(b, .inr (4, [.int 0, .ref qa])), (qa, .inl (E.2.2.2, 8, .inr (.inr (.inr (.inr (va_up (fun _ => none) 0 (some t0))))))), (t0, .inr (3, [.int 0, .int 0, .int 0, .int 0, .int 0])), (t1, .inr (3, [.int 0, .int 0, .int 0, .int 0, .int 0]))] H := hP
  have hD : va_D (xA (fun _ => b) 1 s.heap.size) [(b, .inr (4, [.int 0, .ref qa])), (qa, .inl (E.2.2.2, 8, .inr (.inr (.inr (.inr (va_up (fun _ => none) 0 (some t0))))))), (t0, .inr (3, [.int 0, .int 0, .int 0, .int 0, .int 0])), (t1, .inr (3, [.int 0, .int 0, .int 0, .int 0, .int 0]))] := hD
  refine va_astq hx hb hK hP hD hS 1 2 3 3 rfl rfl rfl rfl (i := (1 : Int32)) (vpin_c (by decide)) d_Notes_init_36 (fun H locs hP hD hS => ?_)
  have hP : va_P E.1 xcl [(b, .inr (4, [.int 0, .ref qa])), (qa, .inl (E.2.2.2, 8, .inr (.inr (.inr (.inr (va_up (va_up (fun _ => none) 0 (some t0)) 1 (some t1))))))), (t0, .inr (3, [.int 0, .int 0, .int 0, .int 0, .int 0])), (t1, .inr (3, [.int 0, .int 0, .int 0, .int 0, .int 0]))] H := hP
  have hD : va_D (xA (fun _ => b) 1 s.heap.size) [(b, .inr (4, [.int 0, .ref qa])), (qa, .inl (E.2.2.2, 8, .inr (.inr (.inr (.inr (va_up (va_up (fun _ => none) 0 (some t0)) 1 (some t1))))))), (t0, .inr (3, [.int 0, .int 0, .int 0, .int 0, .int 0])), (t1, .inr (3, [.int 0, .int 0, .int 0, .int 0, .int 0]))] := hD
  refine lv_iinc (v := (2 : Int32)) (lv' := [(1, .int (2 : Int32)), (0, .ref b)]) hx hb d_Notes_init_37 hl (k := 0) rfl (by decide) (by decide) rfl (fun ls hl => ?_)
  refine lv_goto (tgt := 15) hx hb d_Notes_init_40 (by decide) ?_
  refine lv_iload_n hx hb d_Notes_init_15 rfl (lv_at hl 0 rfl) ?_
  refine lv_aload_n hx hb d_Notes_init_16 rfl (lv_at hl 1 rfl) ?_
  refine va_get (T := T_Notes) (N := 2) hx hb hts in_Notes hown hK hP 0 rfl rfl 1 (by decide) (hts _ q138) (fun _ h9 => h9) rfl d_Notes_init_17 ?_
  refine va_alen hx hb hK hP 1 2 rfl rfl (v := (8 : Int32)) rfl d_Notes_init_20 ?_
  refine lv_icmp_ge (tgt := 43) hx hb d_Notes_init_21 (by decide) (fun c => absurd c (by decide)) (fun _ => ?_)
  refine lv_aload_n hx hb d_Notes_init_24 rfl (lv_at hl 1 rfl) ?_
  refine va_get (T := T_Notes) (N := 2) hx hb hts in_Notes hown hK hP 0 rfl rfl 1 (by decide) (hts _ q138) (fun _ h9 => h9) rfl d_Notes_init_25 ?_
  refine lv_iload_n hx hb d_Notes_init_28 rfl (lv_at hl 0 rfl) ?_
  refine va_new (ci := 3) (fs := [.int 0, .int 0, .int 0, .int 0, .int 0]) (C := R_Note) (T := T_Note) (N := 5) hx hb hts in_Note ty_Note tk_Note hown (hts _ q121) (hts _ q122) (hts _ q54) hK hP hD hS hA rfl (fun j hj => by match j, hj with | 0, _ => rfl | 1, _ => rfl | 2, _ => rfl | 3, _ => rfl | 4, _ => rfl | j + 5, hj => exact absurd hj (by omega)) (Nat.le_of_ble_eq_true rfl) (Nat.le_of_ble_eq_true rfl) d_Notes_init_29 (fun t2 H hP hD hS => ?_)
  refine lv_dup hx hb d_Notes_init_32 rfl ?_
  have hDk : va_D (xA (fun _ => b) 1 s.heap.size) ([(b, .inr (4, [.int 0, .ref qa])), (qa, .inl (E.2.2.2, 8, .inr (.inr (.inr (.inr (va_up (va_up (fun _ => none) 0 (some t0)) 1 (some t1))))))), (t0, .inr (3, [.int 0, .int 0, .int 0, .int 0, .int 0])), (t1, .inr (3, [.int 0, .int 0, .int 0, .int 0, .int 0]))] ++ [(t2, .inr (3, [.int 0, .int 0, .int 0, .int 0, .int 0]))]) := hD
  have hPk : va_P E.1 xcl ([(b, .inr (4, [.int 0, .ref qa])), (qa, .inl (E.2.2.2, 8, .inr (.inr (.inr (.inr (va_up (va_up (fun _ => none) 0 (some t0)) 1 (some t1))))))), (t0, .inr (3, [.int 0, .int 0, .int 0, .int 0, .int 0])), (t1, .inr (3, [.int 0, .int 0, .int 0, .int 0, .int 0]))] ++ [(t2, .inr (3, [.int 0, .int 0, .int 0, .int 0, .int 0]))]) H := hP
  refine fCallN (fRunIN (As := []) (rest := [.ref t2, .int (2 : Int32), .ref qa]) hx hb hml hown hts hK hN (hPk.sub (ws' := [(t2, .inr (3, [.int 0, .int 0, .int 0, .int 0, .int 0]))]) [4] rfl) (cx_Note_init l E t2 H.size) (nw5 hN) q123 q54 q124 rfl hd_x_Note_init rfl rfl ⟨Nat.le_of_ble_eq_true rfl, Nat.le_of_ble_eq_true rfl⟩ rfl hl.1 rfl (Nat.le_of_ble_eq_true rfl) d_Notes_init_33 ⟨Nat.le_of_ble_eq_true rfl, Nat.le_of_ble_eq_true rfl⟩) hS (xA1f hDk hS hA) (fun _ H1 locs hD1 hP1 hS _ hk1 => ?_)
  obtain ⟨hP, hD⟩ := jn hPk hDk hk1 (fun x h => xA1f hDk (by assumption) hA x h) hP1 hD1
  generalize H1 = H at hP hS ⊢
  have hP : va_P E.1 xcl [(b, .inr (4, [.int 0, .ref qa])), (qa, .inl (E.2.2.2, 8, .inr (.inr (.inr (.inr (va_up (va_up (fun _ => none) 0 (some t0)) 1 (some t1))))))), (t0, .inr (3, [.int 0, .int 0, .int 0, .int 0, .int 0])), (t1, .inr (3, [.int 0, .int 0, .int 0, .int 0, .int 0])), (t2, .inr (3, [.int 0, .int 0, .int 0, .int 0, .int 0]))] H := hP
  have hD : va_D (xA (fun _ => b) 1 s.heap.size) [(b, .inr (4, [.int 0, .ref qa])), (qa, .inl (E.2.2.2, 8, .inr (.inr (.inr (.inr (va_up (va_up (fun _ => none) 0 (some t0)) 1 (some t1))))))), (t0, .inr (3, [.int 0, .int 0, .int 0, .int 0, .int 0])), (t1, .inr (3, [.int 0, .int 0, .int 0, .int 0, .int 0])), (t2, .inr (3, [.int 0, .int 0, .int 0, .int 0, .int 0]))] := hD
  refine va_astq hx hb hK hP hD hS 1 2 4 3 rfl rfl rfl rfl (i := (2 : Int32)) (vpin_c (by decide)) d_Notes_init_36 (fun H locs hP hD hS => ?_)
  have hP : va_P E.1 xcl [(b, .inr (4, [.int 0, .ref qa])), (qa, .inl (E.2.2.2, 8, .inr (.inr (.inr (.inr (va_up (va_up (va_up (fun _ => none) 0 (some t0)) 1 (some t1)) 2 (some t2))))))), (t0, .inr (3, [.int 0, .int 0, .int 0, .int 0, .int 0])), (t1, .inr (3, [.int 0, .int 0, .int 0, .int 0, .int 0])), (t2, .inr (3, [.int 0, .int 0, .int 0, .int 0, .int 0]))] H := hP
  have hD : va_D (xA (fun _ => b) 1 s.heap.size) [(b, .inr (4, [.int 0, .ref qa])), (qa, .inl (E.2.2.2, 8, .inr (.inr (.inr (.inr (va_up (va_up (va_up (fun _ => none) 0 (some t0)) 1 (some t1)) 2 (some t2))))))), (t0, .inr (3, [.int 0, .int 0, .int 0, .int 0, .int 0])), (t1, .inr (3, [.int 0, .int 0, .int 0, .int 0, .int 0])), (t2, .inr (3, [.int 0, .int 0, .int 0, .int 0, .int 0]))] := hD
  refine lv_iinc (v := (3 : Int32)) (lv' := [(1, .int (3 : Int32)), (0, .ref b)]) hx hb d_Notes_init_37 hl (k := 0) rfl (by decide) (by decide) rfl (fun ls hl => ?_)
  refine lv_goto (tgt := 15) hx hb d_Notes_init_40 (by decide) ?_
  refine lv_iload_n hx hb d_Notes_init_15 rfl (lv_at hl 0 rfl) ?_
  refine lv_aload_n hx hb d_Notes_init_16 rfl (lv_at hl 1 rfl) ?_
  refine va_get (T := T_Notes) (N := 2) hx hb hts in_Notes hown hK hP 0 rfl rfl 1 (by decide) (hts _ q138) (fun _ h9 => h9) rfl d_Notes_init_17 ?_
  refine va_alen hx hb hK hP 1 2 rfl rfl (v := (8 : Int32)) rfl d_Notes_init_20 ?_
  refine lv_icmp_ge (tgt := 43) hx hb d_Notes_init_21 (by decide) (fun c => absurd c (by decide)) (fun _ => ?_)
  refine lv_aload_n hx hb d_Notes_init_24 rfl (lv_at hl 1 rfl) ?_
  refine va_get (T := T_Notes) (N := 2) hx hb hts in_Notes hown hK hP 0 rfl rfl 1 (by decide) (hts _ q138) (fun _ h9 => h9) rfl d_Notes_init_25 ?_
  refine lv_iload_n hx hb d_Notes_init_28 rfl (lv_at hl 0 rfl) ?_
  refine va_new (ci := 3) (fs := [.int 0, .int 0, .int 0, .int 0, .int 0]) (C := R_Note) (T := T_Note) (N := 5) hx hb hts in_Note ty_Note tk_Note hown (hts _ q121) (hts _ q122) (hts _ q54) hK hP hD hS hA rfl (fun j hj => by match j, hj with | 0, _ => rfl | 1, _ => rfl | 2, _ => rfl | 3, _ => rfl | 4, _ => rfl | j + 5, hj => exact absurd hj (by omega)) (Nat.le_of_ble_eq_true rfl) (Nat.le_of_ble_eq_true rfl) d_Notes_init_29 (fun t3 H hP hD hS => ?_)
  refine lv_dup hx hb d_Notes_init_32 rfl ?_
  have hDk : va_D (xA (fun _ => b) 1 s.heap.size) ([(b, .inr (4, [.int 0, .ref qa])), (qa, .inl (E.2.2.2, 8, .inr (.inr (.inr (.inr (va_up (va_up (va_up (fun _ => none) 0 (some t0)) 1 (some t1)) 2 (some t2))))))), (t0, .inr (3, [.int 0, .int 0, .int 0, .int 0, .int 0])), (t1, .inr (3, [.int 0, .int 0, .int 0, .int 0, .int 0])), (t2, .inr (3, [.int 0, .int 0, .int 0, .int 0, .int 0]))] ++ [(t3, .inr (3, [.int 0, .int 0, .int 0, .int 0, .int 0]))]) := hD
  have hPk : va_P E.1 xcl ([(b, .inr (4, [.int 0, .ref qa])), (qa, .inl (E.2.2.2, 8, .inr (.inr (.inr (.inr (va_up (va_up (va_up (fun _ => none) 0 (some t0)) 1 (some t1)) 2 (some t2))))))), (t0, .inr (3, [.int 0, .int 0, .int 0, .int 0, .int 0])), (t1, .inr (3, [.int 0, .int 0, .int 0, .int 0, .int 0])), (t2, .inr (3, [.int 0, .int 0, .int 0, .int 0, .int 0]))] ++ [(t3, .inr (3, [.int 0, .int 0, .int 0, .int 0, .int 0]))]) H := hP
  refine fCallN (fRunIN (As := []) (rest := [.ref t3, .int (3 : Int32), .ref qa]) hx hb hml hown hts hK hN (hPk.sub (ws' := [(t3, .inr (3, [.int 0, .int 0, .int 0, .int 0, .int 0]))]) [5] rfl) (cx_Note_init l E t3 H.size) (nw5 hN) q123 q54 q124 rfl hd_x_Note_init rfl rfl ⟨Nat.le_of_ble_eq_true rfl, Nat.le_of_ble_eq_true rfl⟩ rfl hl.1 rfl (Nat.le_of_ble_eq_true rfl) d_Notes_init_33 ⟨Nat.le_of_ble_eq_true rfl, Nat.le_of_ble_eq_true rfl⟩) hS (xA1f hDk hS hA) (fun _ H1 locs hD1 hP1 hS _ hk1 => ?_)
  obtain ⟨hP, hD⟩ := jn hPk hDk hk1 (fun x h => xA1f hDk (by assumption) hA x h) hP1 hD1
  generalize H1 = H at hP hS ⊢
  have hP : va_P E.1 xcl [(b, .inr (4, [.int 0, .ref qa])), (qa, .inl (E.2.2.2, 8, .inr (.inr (.inr (.inr (va_up (va_up (va_up (fun _ => none) 0 (some t0)) 1 (some t1)) 2 (some t2))))))), (t0, .inr (3, [.int 0, .int 0, .int 0, .int 0, .int 0])), (t1, .inr (3, [.int 0, .int 0, .int 0, .int 0, .int 0])), (t2, .inr (3, [.int 0, .int 0, .int 0, .int 0, .int 0])), (t3, .inr (3, [.int 0, .int 0, .int 0, .int 0, .int 0]))] H := hP
  have hD : va_D (xA (fun _ => b) 1 s.heap.size) [(b, .inr (4, [.int 0, .ref qa])), (qa, .inl (E.2.2.2, 8, .inr (.inr (.inr (.inr (va_up (va_up (va_up (fun _ => none) 0 (some t0)) 1 (some t1)) 2 (some t2))))))), (t0, .inr (3, [.int 0, .int 0, .int 0, .int 0, .int 0])), (t1, .inr (3, [.int 0, .int 0, .int 0, .int 0, .int 0])), (t2, .inr (3, [.int 0, .int 0, .int 0, .int 0, .int 0])), (t3, .inr (3, [.int 0, .int 0, .int 0, .int 0, .int 0]))] := hD
  refine va_astq hx hb hK hP hD hS 1 2 5 3 rfl rfl rfl rfl (i := (3 : Int32)) (vpin_c (by decide)) d_Notes_init_36 (fun H locs hP hD hS => ?_)
  have hP : va_P E.1 xcl [(b, .inr (4, [.int 0, .ref qa])), (qa, .inl (E.2.2.2, 8, .inr (.inr (.inr (.inr (va_up (va_up (va_up (va_up (fun _ => none) 0 (some t0)) 1 (some t1)) 2 (some t2)) 3 (some t3))))))), (t0, .inr (3, [.int 0, .int 0, .int 0, .int 0, .int 0])), (t1, .inr (3, [.int 0, .int 0, .int 0, .int 0, .int 0])), (t2, .inr (3, [.int 0, .int 0, .int 0, .int 0, .int 0])), (t3, .inr (3, [.int 0, .int 0, .int 0, .int 0, .int 0]))] H := hP
  have hD : va_D (xA (fun _ => b) 1 s.heap.size) [(b, .inr (4, [.int 0, .ref qa])), (qa, .inl (E.2.2.2, 8, .inr (.inr (.inr (.inr (va_up (va_up (va_up (va_up (fun _ => none) 0 (some t0)) 1 (some t1)) 2 (some t2)) 3 (some t3))))))), (t0, .inr (3, [.int 0, .int 0, .int 0, .int 0, .int 0])), (t1, .inr (3, [.int 0, .int 0, .int 0, .int 0, .int 0])), (t2, .inr (3, [.int 0, .int 0, .int 0, .int 0, .int 0])), (t3, .inr (3, [.int 0, .int 0, .int 0, .int 0, .int 0]))] := hD
  refine lv_iinc (v := (4 : Int32)) (lv' := [(1, .int (4 : Int32)), (0, .ref b)]) hx hb d_Notes_init_37 hl (k := 0) rfl (by decide) (by decide) rfl (fun ls hl => ?_)
  refine lv_goto (tgt := 15) hx hb d_Notes_init_40 (by decide) ?_
  refine lv_iload_n hx hb d_Notes_init_15 rfl (lv_at hl 0 rfl) ?_
  refine lv_aload_n hx hb d_Notes_init_16 rfl (lv_at hl 1 rfl) ?_
  refine va_get (T := T_Notes) (N := 2) hx hb hts in_Notes hown hK hP 0 rfl rfl 1 (by decide) (hts _ q138) (fun _ h9 => h9) rfl d_Notes_init_17 ?_
  refine va_alen hx hb hK hP 1 2 rfl rfl (v := (8 : Int32)) rfl d_Notes_init_20 ?_
  refine lv_icmp_ge (tgt := 43) hx hb d_Notes_init_21 (by decide) (fun c => absurd c (by decide)) (fun _ => ?_)
  refine lv_aload_n hx hb d_Notes_init_24 rfl (lv_at hl 1 rfl) ?_
  refine va_get (T := T_Notes) (N := 2) hx hb hts in_Notes hown hK hP 0 rfl rfl 1 (by decide) (hts _ q138) (fun _ h9 => h9) rfl d_Notes_init_25 ?_
  refine lv_iload_n hx hb d_Notes_init_28 rfl (lv_at hl 0 rfl) ?_
  refine va_new (ci := 3) (fs := [.int 0, .int 0, .int 0, .int 0, .int 0]) (C := R_Note) (T := T_Note) (N := 5) hx hb hts in_Note ty_Note tk_Note hown (hts _ q121) (hts _ q122) (hts _ q54) hK hP hD hS hA rfl (fun j hj => by match j, hj with | 0, _ => rfl | 1, _ => rfl | 2, _ => rfl | 3, _ => rfl | 4, _ => rfl | j + 5, hj => exact absurd hj (by omega)) (Nat.le_of_ble_eq_true rfl) (Nat.le_of_ble_eq_true rfl) d_Notes_init_29 (fun t4 H hP hD hS => ?_)
  refine lv_dup hx hb d_Notes_init_32 rfl ?_
  have hDk : va_D (xA (fun _ => b) 1 s.heap.size) ([(b, .inr (4, [.int 0, .ref qa])), (qa, .inl (E.2.2.2, 8, .inr (.inr (.inr (.inr (va_up (va_up (va_up (va_up (fun _ => none) 0 (some t0)) 1 (some t1)) 2 (some t2)) 3 (some t3))))))), (t0, .inr (3, [.int 0, .int 0, .int 0, .int 0, .int 0])), (t1, .inr (3, [.int 0, .int 0, .int 0, .int 0, .int 0])), (t2, .inr (3, [.int 0, .int 0, .int 0, .int 0, .int 0])), (t3, .inr (3, [.int 0, .int 0, .int 0, .int 0, .int 0]))] ++ [(t4, .inr (3, [.int 0, .int 0, .int 0, .int 0, .int 0]))]) := hD
  have hPk : va_P E.1 xcl ([(b, .inr (4, [.int 0, .ref qa])), (qa, .inl (E.2.2.2, 8, .inr (.inr (.inr (.inr (va_up (va_up (va_up (va_up (fun _ => none) 0 (some t0)) 1 (some t1)) 2 (some t2)) 3 (some t3))))))), (t0, .inr (3, [.int 0, .int 0, .int 0, .int 0, .int 0])), (t1, .inr (3, [.int 0, .int 0, .int 0, .int 0, .int 0])), (t2, .inr (3, [.int 0, .int 0, .int 0, .int 0, .int 0])), (t3, .inr (3, [.int 0, .int 0, .int 0, .int 0, .int 0]))] ++ [(t4, .inr (3, [.int 0, .int 0, .int 0, .int 0, .int 0]))]) H := hP
  refine fCallN (fRunIN (As := []) (rest := [.ref t4, .int (4 : Int32), .ref qa]) hx hb hml hown hts hK hN (hPk.sub (ws' := [(t4, .inr (3, [.int 0, .int 0, .int 0, .int 0, .int 0]))]) [6] rfl) (cx_Note_init l E t4 H.size) (nw5 hN) q123 q54 q124 rfl hd_x_Note_init rfl rfl ⟨Nat.le_of_ble_eq_true rfl, Nat.le_of_ble_eq_true rfl⟩ rfl hl.1 rfl (Nat.le_of_ble_eq_true rfl) d_Notes_init_33 ⟨Nat.le_of_ble_eq_true rfl, Nat.le_of_ble_eq_true rfl⟩) hS (xA1f hDk hS hA) (fun _ H1 locs hD1 hP1 hS _ hk1 => ?_)
  obtain ⟨hP, hD⟩ := jn hPk hDk hk1 (fun x h => xA1f hDk (by assumption) hA x h) hP1 hD1
  generalize H1 = H at hP hS ⊢
  have hP : va_P E.1 xcl [(b, .inr (4, [.int 0, .ref qa])), (qa, .inl (E.2.2.2, 8, .inr (.inr (.inr (.inr (va_up (va_up (va_up (va_up (fun _ => none) 0 (some t0)) 1 (some t1)) 2 (some t2)) 3 (some t3))))))), (t0, .inr (3, [.int 0, .int 0, .int 0, .int 0, .int 0])), (t1, .inr (3, [.int 0, .int 0, .int 0, .int 0, .int 0])), (t2, .inr (3, [.int 0, .int 0, .int 0, .int 0, .int 0])), (t3, .inr (3, [.int 0, .int 0, .int 0, .int 0, .int 0])), (t4, .inr (3, [.int 0, .int 0, .int 0, .int 0, .int 0]))] H := hP
  have hD : va_D (xA (fun _ => b) 1 s.heap.size) [(b, .inr (4, [.int 0, .ref qa])), (qa, .inl (E.2.2.2, 8, .inr (.inr (.inr (.inr (va_up (va_up (va_up (va_up (fun _ => none) 0 (some t0)) 1 (some t1)) 2 (some t2)) 3 (some t3))))))), (t0, .inr (3, [.int 0, .int 0, .int 0, .int 0, .int 0])), (t1, .inr (3, [.int 0, .int 0, .int 0, .int 0, .int 0])), (t2, .inr (3, [.int 0, .int 0, .int 0, .int 0, .int 0])), (t3, .inr (3, [.int 0, .int 0, .int 0, .int 0, .int 0])), (t4, .inr (3, [.int 0, .int 0, .int 0, .int 0, .int 0]))] := hD
  refine va_astq hx hb hK hP hD hS 1 2 6 3 rfl rfl rfl rfl (i := (4 : Int32)) (vpin_c (by decide)) d_Notes_init_36 (fun H locs hP hD hS => ?_)
  have hP : va_P E.1 xcl [(b, .inr (4, [.int 0, .ref qa])), (qa, .inl (E.2.2.2, 8, .inr (.inr (.inr (.inr (va_up (va_up (va_up (va_up (va_up (fun _ => none) 0 (some t0)) 1 (some t1)) 2 (some t2)) 3 (some t3)) 4 (some t4))))))), (t0, .inr (3, [.int 0, .int 0, .int 0, .int 0, .int 0])), (t1, .inr (3, [.int 0, .int 0, .int 0, .int 0, .int 0])), (t2, .inr (3, [.int 0, .int 0, .int 0, .int 0, .int 0])), (t3, .inr (3, [.int 0, .int 0, .int 0, .int 0, .int 0])), (t4, .inr (3, [.int 0, .int 0, .int 0, .int 0, .int 0]))] H := hP
  have hD : va_D (xA (fun _ => b) 1 s.heap.size) [(b, .inr (4, [.int 0, .ref qa])), (qa, .inl (E.2.2.2, 8, .inr (.inr (.inr (.inr (va_up (va_up (va_up (va_up (va_up (fun _ => none) 0 (some t0)) 1 (some t1)) 2 (some t2)) 3 (some t3)) 4 (some t4))))))), (t0, .inr (3, [.int 0, .int 0, .int 0, .int 0, .int 0])), (t1, .inr (3, [.int 0, .int 0, .int 0, .int 0, .int 0])), (t2, .inr (3, [.int 0, .int 0, .int 0, .int 0, .int 0])), (t3, .inr (3, [.int 0, .int 0, .int 0, .int 0, .int 0])), (t4, .inr (3, [.int 0, .int 0, .int 0, .int 0, .int 0]))] := hD
  refine lv_iinc (v := (5 : Int32)) (lv' := [(1, .int (5 : Int32)), (0, .ref b)]) hx hb d_Notes_init_37 hl (k := 0) rfl (by decide) (by decide) rfl (fun ls hl => ?_)
  refine lv_goto (tgt := 15) hx hb d_Notes_init_40 (by decide) ?_
  refine lv_iload_n hx hb d_Notes_init_15 rfl (lv_at hl 0 rfl) ?_
  refine lv_aload_n hx hb d_Notes_init_16 rfl (lv_at hl 1 rfl) ?_
  refine va_get (T := T_Notes) (N := 2) hx hb hts in_Notes hown hK hP 0 rfl rfl 1 (by decide) (hts _ q138) (fun _ h9 => h9) rfl d_Notes_init_17 ?_
  refine va_alen hx hb hK hP 1 2 rfl rfl (v := (8 : Int32)) rfl d_Notes_init_20 ?_
  refine lv_icmp_ge (tgt := 43) hx hb d_Notes_init_21 (by decide) (fun c => absurd c (by decide)) (fun _ => ?_)
  refine lv_aload_n hx hb d_Notes_init_24 rfl (lv_at hl 1 rfl) ?_
  refine va_get (T := T_Notes) (N := 2) hx hb hts in_Notes hown hK hP 0 rfl rfl 1 (by decide) (hts _ q138) (fun _ h9 => h9) rfl d_Notes_init_25 ?_
  refine lv_iload_n hx hb d_Notes_init_28 rfl (lv_at hl 0 rfl) ?_
  refine va_new (ci := 3) (fs := [.int 0, .int 0, .int 0, .int 0, .int 0]) (C := R_Note) (T := T_Note) (N := 5) hx hb hts in_Note ty_Note tk_Note hown (hts _ q121) (hts _ q122) (hts _ q54) hK hP hD hS hA rfl (fun j hj => by match j, hj with | 0, _ => rfl | 1, _ => rfl | 2, _ => rfl | 3, _ => rfl | 4, _ => rfl | j + 5, hj => exact absurd hj (by omega)) (Nat.le_of_ble_eq_true rfl) (Nat.le_of_ble_eq_true rfl) d_Notes_init_29 (fun t5 H hP hD hS => ?_)
  refine lv_dup hx hb d_Notes_init_32 rfl ?_
  have hDk : va_D (xA (fun _ => b) 1 s.heap.size) ([(b, .inr (4, [.int 0, .ref qa])), (qa, .inl (E.2.2.2, 8, .inr (.inr (.inr (.inr (va_up (va_up (va_up (va_up (va_up (fun _ => none) 0 (some t0)) 1 (some t1)) 2 (some t2)) 3 (some t3)) 4 (some t4))))))), (t0, .inr (3, [.int 0, .int 0, .int 0, .int 0, .int 0])), (t1, .inr (3, [.int 0, .int 0, .int 0, .int 0, .int 0])), (t2, .inr (3, [.int 0, .int 0, .int 0, .int 0, .int 0])), (t3, .inr (3, [.int 0, .int 0, .int 0, .int 0, .int 0])), (t4, .inr (3, [.int 0, .int 0, .int 0, .int 0, .int 0]))] ++ [(t5, .inr (3, [.int 0, .int 0, .int 0, .int 0, .int 0]))]) := hD
  have hPk : va_P E.1 xcl ([(b, .inr (4, [.int 0, .ref qa])), (qa, .inl (E.2.2.2, 8, .inr (.inr (.inr (.inr (va_up (va_up (va_up (va_up (va_up (fun _ => none) 0 (some t0)) 1 (some t1)) 2 (some t2)) 3 (some t3)) 4 (some t4))))))), (t0, .inr (3, [.int 0, .int 0, .int 0, .int 0, .int 0])), (t1, .inr (3, [.int 0, .int 0, .int 0, .int 0, .int 0])), (t2, .inr (3, [.int 0, .int 0, .int 0, .int 0, .int 0])), (t3, .inr (3, [.int 0, .int 0, .int 0, .int 0, .int 0])), (t4, .inr (3, [.int 0, .int 0, .int 0, .int 0, .int 0]))] ++ [(t5, .inr (3, [.int 0, .int 0, .int 0, .int 0, .int 0]))]) H := hP
  refine fCallN (fRunIN (As := []) (rest := [.ref t5, .int (5 : Int32), .ref qa]) hx hb hml hown hts hK hN (hPk.sub (ws' := [(t5, .inr (3, [.int 0, .int 0, .int 0, .int 0, .int 0]))]) [7] rfl) (cx_Note_init l E t5 H.size) (nw5 hN) q123 q54 q124 rfl hd_x_Note_init rfl rfl ⟨Nat.le_of_ble_eq_true rfl, Nat.le_of_ble_eq_true rfl⟩ rfl hl.1 rfl (Nat.le_of_ble_eq_true rfl) d_Notes_init_33 ⟨Nat.le_of_ble_eq_true rfl, Nat.le_of_ble_eq_true rfl⟩) hS (xA1f hDk hS hA) (fun _ H1 locs hD1 hP1 hS _ hk1 => ?_)
  obtain ⟨hP, hD⟩ := jn hPk hDk hk1 (fun x h => xA1f hDk (by assumption) hA x h) hP1 hD1
  generalize H1 = H at hP hS ⊢
  have hP : va_P E.1 xcl [(b, .inr (4, [.int 0, .ref qa])), (qa, .inl (E.2.2.2, 8, .inr (.inr (.inr (.inr (va_up (va_up (va_up (va_up (va_up (fun _ => none) 0 (some t0)) 1 (some t1)) 2 (some t2)) 3 (some t3)) 4 (some t4))))))), (t0, .inr (3, [.int 0, .int 0, .int 0, .int 0, .int 0])), (t1, .inr (3, [.int 0, .int 0, .int 0, .int 0, .int 0])), (t2, .inr (3, [.int 0, .int 0, .int 0, .int 0, .int 0])), (t3, .inr (3, [.int 0, .int 0, .int 0, .int 0, .int 0])), (t4, .inr (3, [.int 0, .int 0, .int 0, .int 0, .int 0])), (t5, .inr (3, [.int 0, .int 0, .int 0, .int 0, .int 0]))] H := hP
  have hD : va_D (xA (fun _ => b) 1 s.heap.size) [(b, .inr (4, [.int 0, .ref qa])), (qa, .inl (E.2.2.2, 8, .inr (.inr (.inr (.inr (va_up (va_up (va_up (va_up (va_up (fun _ => none) 0 (some t0)) 1 (some t1)) 2 (some t2)) 3 (some t3)) 4 (some t4))))))), (t0, .inr (3, [.int 0, .int 0, .int 0, .int 0, .int 0])), (t1, .inr (3, [.int 0, .int 0, .int 0, .int 0, .int 0])), (t2, .inr (3, [.int 0, .int 0, .int 0, .int 0, .int 0])), (t3, .inr (3, [.int 0, .int 0, .int 0, .int 0, .int 0])), (t4, .inr (3, [.int 0, .int 0, .int 0, .int 0, .int 0])), (t5, .inr (3, [.int 0, .int 0, .int 0, .int 0, .int 0]))] := hD
  refine va_astq hx hb hK hP hD hS 1 2 7 3 rfl rfl rfl rfl (i := (5 : Int32)) (vpin_c (by decide)) d_Notes_init_36 (fun H locs hP hD hS => ?_)
  have hP : va_P E.1 xcl [(b, .inr (4, [.int 0, .ref qa])), (qa, .inl (E.2.2.2, 8, .inr (.inr (.inr (.inr (va_up (va_up (va_up (va_up (va_up (va_up (fun _ => none) 0 (some t0)) 1 (some t1)) 2 (some t2)) 3 (some t3)) 4 (some t4)) 5 (some t5))))))), (t0, .inr (3, [.int 0, .int 0, .int 0, .int 0, .int 0])), (t1, .inr (3, [.int 0, .int 0, .int 0, .int 0, .int 0])), (t2, .inr (3, [.int 0, .int 0, .int 0, .int 0, .int 0])), (t3, .inr (3, [.int 0, .int 0, .int 0, .int 0, .int 0])), (t4, .inr (3, [.int 0, .int 0, .int 0, .int 0, .int 0])), (t5, .inr (3, [.int 0, .int 0, .int 0, .int 0, .int 0]))] H := hP
  have hD : va_D (xA (fun _ => b) 1 s.heap.size) [(b, .inr (4, [.int 0, .ref qa])), (qa, .inl (E.2.2.2, 8, .inr (.inr (.inr (.inr (va_up (va_up (va_up (va_up (va_up (va_up (fun _ => none) 0 (some t0)) 1 (some t1)) 2 (some t2)) 3 (some t3)) 4 (some t4)) 5 (some t5))))))), (t0, .inr (3, [.int 0, .int 0, .int 0, .int 0, .int 0])), (t1, .inr (3, [.int 0, .int 0, .int 0, .int 0, .int 0])), (t2, .inr (3, [.int 0, .int 0, .int 0, .int 0, .int 0])), (t3, .inr (3, [.int 0, .int 0, .int 0, .int 0, .int 0])), (t4, .inr (3, [.int 0, .int 0, .int 0, .int 0, .int 0])), (t5, .inr (3, [.int 0, .int 0, .int 0, .int 0, .int 0]))] := hD
  refine lv_iinc (v := (6 : Int32)) (lv' := [(1, .int (6 : Int32)), (0, .ref b)]) hx hb d_Notes_init_37 hl (k := 0) rfl (by decide) (by decide) rfl (fun ls hl => ?_)
  refine lv_goto (tgt := 15) hx hb d_Notes_init_40 (by decide) ?_
  refine lv_iload_n hx hb d_Notes_init_15 rfl (lv_at hl 0 rfl) ?_
  refine lv_aload_n hx hb d_Notes_init_16 rfl (lv_at hl 1 rfl) ?_
  refine va_get (T := T_Notes) (N := 2) hx hb hts in_Notes hown hK hP 0 rfl rfl 1 (by decide) (hts _ q138) (fun _ h9 => h9) rfl d_Notes_init_17 ?_
  refine va_alen hx hb hK hP 1 2 rfl rfl (v := (8 : Int32)) rfl d_Notes_init_20 ?_
  refine lv_icmp_ge (tgt := 43) hx hb d_Notes_init_21 (by decide) (fun c => absurd c (by decide)) (fun _ => ?_)
  refine lv_aload_n hx hb d_Notes_init_24 rfl (lv_at hl 1 rfl) ?_
  refine va_get (T := T_Notes) (N := 2) hx hb hts in_Notes hown hK hP 0 rfl rfl 1 (by decide) (hts _ q138) (fun _ h9 => h9) rfl d_Notes_init_25 ?_
  refine lv_iload_n hx hb d_Notes_init_28 rfl (lv_at hl 0 rfl) ?_
  refine va_new (ci := 3) (fs := [.int 0, .int 0, .int 0, .int 0, .int 0]) (C := R_Note) (T := T_Note) (N := 5) hx hb hts in_Note ty_Note tk_Note hown (hts _ q121) (hts _ q122) (hts _ q54) hK hP hD hS hA rfl (fun j hj => by match j, hj with | 0, _ => rfl | 1, _ => rfl | 2, _ => rfl | 3, _ => rfl | 4, _ => rfl | j + 5, hj => exact absurd hj (by omega)) (Nat.le_of_ble_eq_true rfl) (Nat.le_of_ble_eq_true rfl) d_Notes_init_29 (fun t6 H hP hD hS => ?_)
  refine lv_dup hx hb d_Notes_init_32 rfl ?_
  have hDk : va_D (xA (fun _ => b) 1 s.heap.size) ([(b, .inr (4, [.int 0, .ref qa])), (qa, .inl (E.2.2.2, 8, .inr (.inr (.inr (.inr (va_up (va_up (va_up (va_up (va_up (va_up (fun _ => none) 0 (some t0)) 1 (some t1)) 2 (some t2)) 3 (some t3)) 4 (some t4)) 5 (some t5))))))), (t0, .inr (3, [.int 0, .int 0, .int 0, .int 0, .int 0])), (t1, .inr (3, [.int 0, .int 0, .int 0, .int 0, .int 0])), (t2, .inr (3, [.int 0, .int 0, .int 0, .int 0, .int 0])), (t3, .inr (3, [.int 0, .int 0, .int 0, .int 0, .int 0])), (t4, .inr (3, [.int 0, .int 0, .int 0, .int 0, .int 0])), (t5, .inr (3, [.int 0, .int 0, .int 0, .int 0, .int 0]))] ++ [(t6, .inr (3, [.int 0, .int 0, .int 0, .int 0, .int 0]))]) := hD
  have hPk : va_P E.1 xcl ([(b, .inr (4, [.int 0, .ref qa])), (qa, .inl (E.2.2.2, 8, .inr (.inr (.inr (.inr (va_up (va_up (va_up (va_up (va_up (va_up (fun _ => none) 0 (some t0)) 1 (some t1)) 2 (some t2)) 3 (some t3)) 4 (some t4)) 5 (some t5))))))), (t0, .inr (3, [.int 0, .int 0, .int 0, .int 0, .int 0])), (t1, .inr (3, [.int 0, .int 0, .int 0, .int 0, .int 0])), (t2, .inr (3, [.int 0, .int 0, .int 0, .int 0, .int 0])), (t3, .inr (3, [.int 0, .int 0, .int 0, .int 0, .int 0])), (t4, .inr (3, [.int 0, .int 0, .int 0, .int 0, .int 0])), (t5, .inr (3, [.int 0, .int 0, .int 0, .int 0, .int 0]))] ++ [(t6, .inr (3, [.int 0, .int 0, .int 0, .int 0, .int 0]))]) H := hP
  refine fCallN (fRunIN (As := []) (rest := [.ref t6, .int (6 : Int32), .ref qa]) hx hb hml hown hts hK hN (hPk.sub (ws' := [(t6, .inr (3, [.int 0, .int 0, .int 0, .int 0, .int 0]))]) [8] rfl) (cx_Note_init l E t6 H.size) (nw5 hN) q123 q54 q124 rfl hd_x_Note_init rfl rfl ⟨Nat.le_of_ble_eq_true rfl, Nat.le_of_ble_eq_true rfl⟩ rfl hl.1 rfl (Nat.le_of_ble_eq_true rfl) d_Notes_init_33 ⟨Nat.le_of_ble_eq_true rfl, Nat.le_of_ble_eq_true rfl⟩) hS (xA1f hDk hS hA) (fun _ H1 locs hD1 hP1 hS _ hk1 => ?_)
  obtain ⟨hP, hD⟩ := jn hPk hDk hk1 (fun x h => xA1f hDk (by assumption) hA x h) hP1 hD1
  generalize H1 = H at hP hS ⊢
  have hP : va_P E.1 xcl [(b, .inr (4, [.int 0, .ref qa])), (qa, .inl (E.2.2.2, 8, .inr (.inr (.inr (.inr (va_up (va_up (va_up (va_up (va_up (va_up (fun _ => none) 0 (some t0)) 1 (some t1)) 2 (some t2)) 3 (some t3)) 4 (some t4)) 5 (some t5))))))), (t0, .inr (3, [.int 0, .int 0, .int 0, .int 0, .int 0])), (t1, .inr (3, [.int 0, .int 0, .int 0, .int 0, .int 0])), (t2, .inr (3, [.int 0, .int 0, .int 0, .int 0, .int 0])), (t3, .inr (3, [.int 0, .int 0, .int 0, .int 0, .int 0])), (t4, .inr (3, [.int 0, .int 0, .int 0, .int 0, .int 0])), (t5, .inr (3, [.int 0, .int 0, .int 0, .int 0, .int 0])), (t6, .inr (3, [.int 0, .int 0, .int 0, .int 0, .int 0]))] H := hP
  have hD : va_D (xA (fun _ => b) 1 s.heap.size) [(b, .inr (4, [.int 0, .ref qa])), (qa, .inl (E.2.2.2, 8, .inr (.inr (.inr (.inr (va_up (va_up (va_up (va_up (va_up (va_up (fun _ => none) 0 (some t0)) 1 (some t1)) 2 (some t2)) 3 (some t3)) 4 (some t4)) 5 (some t5))))))), (t0, .inr (3, [.int 0, .int 0, .int 0, .int 0, .int 0])), (t1, .inr (3, [.int 0, .int 0, .int 0, .int 0, .int 0])), (t2, .inr (3, [.int 0, .int 0, .int 0, .int 0, .int 0])), (t3, .inr (3, [.int 0, .int 0, .int 0, .int 0, .int 0])), (t4, .inr (3, [.int 0, .int 0, .int 0, .int 0, .int 0])), (t5, .inr (3, [.int 0, .int 0, .int 0, .int 0, .int 0])), (t6, .inr (3, [.int 0, .int 0, .int 0, .int 0, .int 0]))] := hD
  refine va_astq hx hb hK hP hD hS 1 2 8 3 rfl rfl rfl rfl (i := (6 : Int32)) (vpin_c (by decide)) d_Notes_init_36 (fun H locs hP hD hS => ?_)
  have hP : va_P E.1 xcl [(b, .inr (4, [.int 0, .ref qa])), (qa, .inl (E.2.2.2, 8, .inr (.inr (.inr (.inr (va_up (va_up (va_up (va_up (va_up (va_up (va_up (fun _ => none) 0 (some t0)) 1 (some t1)) 2 (some t2)) 3 (some t3)) 4 (some t4)) 5 (some t5)) 6 (some t6))))))), (t0, .inr (3, [.int 0, .int 0, .int 0, .int 0, .int 0])), (t1, .inr (3, [.int 0, .int 0, .int 0, .int 0, .int 0])), (t2, .inr (3, [.int 0, .int 0, .int 0, .int 0, .int 0])), (t3, .inr (3, [.int 0, .int 0, .int 0, .int 0, .int 0])), (t4, .inr (3, [.int 0, .int 0, .int 0, .int 0, .int 0])), (t5, .inr (3, [.int 0, .int 0, .int 0, .int 0, .int 0])), (t6, .inr (3, [.int 0, .int 0, .int 0, .int 0, .int 0]))] H := hP
  have hD : va_D (xA (fun _ => b) 1 s.heap.size) [(b, .inr (4, [.int 0, .ref qa])), (qa, .inl (E.2.2.2, 8, .inr (.inr (.inr (.inr (va_up (va_up (va_up (va_up (va_up (va_up (va_up (fun _ => none) 0 (some t0)) 1 (some t1)) 2 (some t2)) 3 (some t3)) 4 (some t4)) 5 (some t5)) 6 (some t6))))))), (t0, .inr (3, [.int 0, .int 0, .int 0, .int 0, .int 0])), (t1, .inr (3, [.int 0, .int 0, .int 0, .int 0, .int 0])), (t2, .inr (3, [.int 0, .int 0, .int 0, .int 0, .int 0])), (t3, .inr (3, [.int 0, .int 0, .int 0, .int 0, .int 0])), (t4, .inr (3, [.int 0, .int 0, .int 0, .int 0, .int 0])), (t5, .inr (3, [.int 0, .int 0, .int 0, .int 0, .int 0])), (t6, .inr (3, [.int 0, .int 0, .int 0, .int 0, .int 0]))] := hD
  refine lv_iinc (v := (7 : Int32)) (lv' := [(1, .int (7 : Int32)), (0, .ref b)]) hx hb d_Notes_init_37 hl (k := 0) rfl (by decide) (by decide) rfl (fun ls hl => ?_)
  refine lv_goto (tgt := 15) hx hb d_Notes_init_40 (by decide) ?_
  refine lv_iload_n hx hb d_Notes_init_15 rfl (lv_at hl 0 rfl) ?_
  refine lv_aload_n hx hb d_Notes_init_16 rfl (lv_at hl 1 rfl) ?_
  refine va_get (T := T_Notes) (N := 2) hx hb hts in_Notes hown hK hP 0 rfl rfl 1 (by decide) (hts _ q138) (fun _ h9 => h9) rfl d_Notes_init_17 ?_
  refine va_alen hx hb hK hP 1 2 rfl rfl (v := (8 : Int32)) rfl d_Notes_init_20 ?_
  refine lv_icmp_ge (tgt := 43) hx hb d_Notes_init_21 (by decide) (fun c => absurd c (by decide)) (fun _ => ?_)
  refine lv_aload_n hx hb d_Notes_init_24 rfl (lv_at hl 1 rfl) ?_
  refine va_get (T := T_Notes) (N := 2) hx hb hts in_Notes hown hK hP 0 rfl rfl 1 (by decide) (hts _ q138) (fun _ h9 => h9) rfl d_Notes_init_25 ?_
  refine lv_iload_n hx hb d_Notes_init_28 rfl (lv_at hl 0 rfl) ?_
  refine va_new (ci := 3) (fs := [.int 0, .int 0, .int 0, .int 0, .int 0]) (C := R_Note) (T := T_Note) (N := 5) hx hb hts in_Note ty_Note tk_Note hown (hts _ q121) (hts _ q122) (hts _ q54) hK hP hD hS hA rfl (fun j hj => by match j, hj with | 0, _ => rfl | 1, _ => rfl | 2, _ => rfl | 3, _ => rfl | 4, _ => rfl | j + 5, hj => exact absurd hj (by omega)) (Nat.le_of_ble_eq_true rfl) (Nat.le_of_ble_eq_true rfl) d_Notes_init_29 (fun t7 H hP hD hS => ?_)
  refine lv_dup hx hb d_Notes_init_32 rfl ?_
  have hDk : va_D (xA (fun _ => b) 1 s.heap.size) ([(b, .inr (4, [.int 0, .ref qa])), (qa, .inl (E.2.2.2, 8, .inr (.inr (.inr (.inr (va_up (va_up (va_up (va_up (va_up (va_up (va_up (fun _ => none) 0 (some t0)) 1 (some t1)) 2 (some t2)) 3 (some t3)) 4 (some t4)) 5 (some t5)) 6 (some t6))))))), (t0, .inr (3, [.int 0, .int 0, .int 0, .int 0, .int 0])), (t1, .inr (3, [.int 0, .int 0, .int 0, .int 0, .int 0])), (t2, .inr (3, [.int 0, .int 0, .int 0, .int 0, .int 0])), (t3, .inr (3, [.int 0, .int 0, .int 0, .int 0, .int 0])), (t4, .inr (3, [.int 0, .int 0, .int 0, .int 0, .int 0])), (t5, .inr (3, [.int 0, .int 0, .int 0, .int 0, .int 0])), (t6, .inr (3, [.int 0, .int 0, .int 0, .int 0, .int 0]))] ++ [(t7, .inr (3, [.int 0, .int 0, .int 0, .int 0, .int 0]))]) := hD
  have hPk : va_P E.1 xcl ([(b, .inr (4, [.int 0, .ref qa])), (qa, .inl (E.2.2.2, 8, .inr (.inr (.inr (.inr (va_up (va_up (va_up (va_up (va_up (va_up (va_up (fun _ => none) 0 (some t0)) 1 (some t1)) 2 (some t2)) 3 (some t3)) 4 (some t4)) 5 (some t5)) 6 (some t6))))))), (t0, .inr (3, [.int 0, .int 0, .int 0, .int 0, .int 0])), (t1, .inr (3, [.int 0, .int 0, .int 0, .int 0, .int 0])), (t2, .inr (3, [.int 0, .int 0, .int 0, .int 0, .int 0])), (t3, .inr (3, [.int 0, .int 0, .int 0, .int 0, .int 0])), (t4, .inr (3, [.int 0, .int 0, .int 0, .int 0, .int 0])), (t5, .inr (3, [.int 0, .int 0, .int 0, .int 0, .int 0])), (t6, .inr (3, [.int 0, .int 0, .int 0, .int 0, .int 0]))] ++ [(t7, .inr (3, [.int 0, .int 0, .int 0, .int 0, .int 0]))]) H := hP
  refine fCallN (fRunIN (As := []) (rest := [.ref t7, .int (7 : Int32), .ref qa]) hx hb hml hown hts hK hN (hPk.sub (ws' := [(t7, .inr (3, [.int 0, .int 0, .int 0, .int 0, .int 0]))]) [9] rfl) (cx_Note_init l E t7 H.size) (nw5 hN) q123 q54 q124 rfl hd_x_Note_init rfl rfl ⟨Nat.le_of_ble_eq_true rfl, Nat.le_of_ble_eq_true rfl⟩ rfl hl.1 rfl (Nat.le_of_ble_eq_true rfl) d_Notes_init_33 ⟨Nat.le_of_ble_eq_true rfl, Nat.le_of_ble_eq_true rfl⟩) hS (xA1f hDk hS hA) (fun _ H1 locs hD1 hP1 hS _ hk1 => ?_)
  obtain ⟨hP, hD⟩ := jn hPk hDk hk1 (fun x h => xA1f hDk (by assumption) hA x h) hP1 hD1
  generalize H1 = H at hP hS ⊢
  have hP : va_P E.1 xcl [(b, .inr (4, [.int 0, .ref qa])), (qa, .inl (E.2.2.2, 8, .inr (.inr (.inr (.inr (va_up (va_up (va_up (va_up (va_up (va_up (va_up (fun _ => none) 0 (some t0)) 1 (some t1)) 2 (some t2)) 3 (some t3)) 4 (some t4)) 5 (some t5)) 6 (some t6))))))), (t0, .inr (3, [.int 0, .int 0, .int 0, .int 0, .int 0])), (t1, .inr (3, [.int 0, .int 0, .int 0, .int 0, .int 0])), (t2, .inr (3, [.int 0, .int 0, .int 0, .int 0, .int 0])), (t3, .inr (3, [.int 0, .int 0, .int 0, .int 0, .int 0])), (t4, .inr (3, [.int 0, .int 0, .int 0, .int 0, .int 0])), (t5, .inr (3, [.int 0, .int 0, .int 0, .int 0, .int 0])), (t6, .inr (3, [.int 0, .int 0, .int 0, .int 0, .int 0])), (t7, .inr (3, [.int 0, .int 0, .int 0, .int 0, .int 0]))] H := hP
  have hD : va_D (xA (fun _ => b) 1 s.heap.size) [(b, .inr (4, [.int 0, .ref qa])), (qa, .inl (E.2.2.2, 8, .inr (.inr (.inr (.inr (va_up (va_up (va_up (va_up (va_up (va_up (va_up (fun _ => none) 0 (some t0)) 1 (some t1)) 2 (some t2)) 3 (some t3)) 4 (some t4)) 5 (some t5)) 6 (some t6))))))), (t0, .inr (3, [.int 0, .int 0, .int 0, .int 0, .int 0])), (t1, .inr (3, [.int 0, .int 0, .int 0, .int 0, .int 0])), (t2, .inr (3, [.int 0, .int 0, .int 0, .int 0, .int 0])), (t3, .inr (3, [.int 0, .int 0, .int 0, .int 0, .int 0])), (t4, .inr (3, [.int 0, .int 0, .int 0, .int 0, .int 0])), (t5, .inr (3, [.int 0, .int 0, .int 0, .int 0, .int 0])), (t6, .inr (3, [.int 0, .int 0, .int 0, .int 0, .int 0])), (t7, .inr (3, [.int 0, .int 0, .int 0, .int 0, .int 0]))] := hD
  refine va_astq hx hb hK hP hD hS 1 2 9 3 rfl rfl rfl rfl (i := (7 : Int32)) (vpin_c (by decide)) d_Notes_init_36 (fun H locs hP hD hS => ?_)
  have hP : va_P E.1 xcl [(b, .inr (4, [.int 0, .ref qa])), (qa, .inl (E.2.2.2, 8, .inr (.inr (.inr (.inr (va_up (va_up (va_up (va_up (va_up (va_up (va_up (va_up (fun _ => none) 0 (some t0)) 1 (some t1)) 2 (some t2)) 3 (some t3)) 4 (some t4)) 5 (some t5)) 6 (some t6)) 7 (some t7))))))), (t0, .inr (3, [.int 0, .int 0, .int 0, .int 0, .int 0])), (t1, .inr (3, [.int 0, .int 0, .int 0, .int 0, .int 0])), (t2, .inr (3, [.int 0, .int 0, .int 0, .int 0, .int 0])), (t3, .inr (3, [.int 0, .int 0, .int 0, .int 0, .int 0])), (t4, .inr (3, [.int 0, .int 0, .int 0, .int 0, .int 0])), (t5, .inr (3, [.int 0, .int 0, .int 0, .int 0, .int 0])), (t6, .inr (3, [.int 0, .int 0, .int 0, .int 0, .int 0])), (t7, .inr (3, [.int 0, .int 0, .int 0, .int 0, .int 0]))] H := hP
  have hD : va_D (xA (fun _ => b) 1 s.heap.size) [(b, .inr (4, [.int 0, .ref qa])), (qa, .inl (E.2.2.2, 8, .inr (.inr (.inr (.inr (va_up (va_up (va_up (va_up (va_up (va_up (va_up (va_up (fun _ => none) 0 (some t0)) 1 (some t1)) 2 (some t2)) 3 (some t3)) 4 (some t4)) 5 (some t5)) 6 (some t6)) 7 (some t7))))))), (t0, .inr (3, [.int 0, .int 0, .int 0, .int 0, .int 0])), (t1, .inr (3, [.int 0, .int 0, .int 0, .int 0, .int 0])), (t2, .inr (3, [.int 0, .int 0, .int 0, .int 0, .int 0])), (t3, .inr (3, [.int 0, .int 0, .int 0, .int 0, .int 0])), (t4, .inr (3, [.int 0, .int 0, .int 0, .int 0, .int 0])), (t5, .inr (3, [.int 0, .int 0, .int 0, .int 0, .int 0])), (t6, .inr (3, [.int 0, .int 0, .int 0, .int 0, .int 0])), (t7, .inr (3, [.int 0, .int 0, .int 0, .int 0, .int 0]))] := hD
  refine lv_iinc (v := (8 : Int32)) (lv' := [(1, .int (8 : Int32)), (0, .ref b)]) hx hb d_Notes_init_37 hl (k := 0) rfl (by decide) (by decide) rfl (fun ls hl => ?_)
  refine lv_goto (tgt := 15) hx hb d_Notes_init_40 (by decide) ?_
  refine lv_iload_n hx hb d_Notes_init_15 rfl (lv_at hl 0 rfl) ?_
  refine lv_aload_n hx hb d_Notes_init_16 rfl (lv_at hl 1 rfl) ?_
  refine va_get (T := T_Notes) (N := 2) hx hb hts in_Notes hown hK hP 0 rfl rfl 1 (by decide) (hts _ q138) (fun _ h9 => h9) rfl d_Notes_init_17 ?_
  refine va_alen hx hb hK hP 1 2 rfl rfl (v := (8 : Int32)) rfl d_Notes_init_20 ?_
  refine lv_icmp_ge (tgt := 43) hx hb d_Notes_init_21 (by decide) (fun _ => ?_) (fun c => absurd (by decide) c)
  have hP := P_cg hP 1 (fun j => some (([t0, t1, t2, t3, t4, t5, t6, t7] : List Nat).getD j 0)) rfl (fun j hj => by match j, hj with | 0, _ => rfl | 1, _ => rfl | 2, _ => rfl | 3, _ => rfl | 4, _ => rfl | 5, _ => rfl | 6, _ => rfl | 7, _ => rfl | j + 8, hj => exact absurd hj (by omega))
  have hD : va_D (xA (fun _ => b) 1 s.heap.size) [(b, .inr (4, [.int 0, .ref qa])), (qa, .inl (E.2.2.2, 8, .inr (.inr (.inr (.inr (fun j => some (([t0, t1, t2, t3, t4, t5, t6, t7] : List Nat).getD j 0))))))), (t0, .inr (3, [.int 0, .int 0, .int 0, .int 0, .int 0])), (t1, .inr (3, [.int 0, .int 0, .int 0, .int 0, .int 0])), (t2, .inr (3, [.int 0, .int 0, .int 0, .int 0, .int 0])), (t3, .inr (3, [.int 0, .int 0, .int 0, .int 0, .int 0])), (t4, .inr (3, [.int 0, .int 0, .int 0, .int 0, .int 0])), (t5, .inr (3, [.int 0, .int 0, .int 0, .int 0, .int 0])), (t6, .inr (3, [.int 0, .int 0, .int 0, .int 0, .int 0])), (t7, .inr (3, [.int 0, .int 0, .int 0, .int 0, .int 0]))] := va_D_fst hD rfl
  refine W.widen (k := 9) (n := 48) (Nat.le_of_ble_eq_true rfl) (Nat.le_of_ble_eq_true rfl) ?_
  exact ret (qa, fun j => ([t0, t1, t2, t3, t4, t5, t6, t7] : List Nat).getD j 0) _ _ _ _ hD hP hS d_Notes_init_43
