/-! the constructor of the reference -/
def m_Mo_init : Option Hp := (m_Mo_empty (fun _ _ => 0)).bind fun h1 => (m_Mo_firstGuest 0 0 5371 (wr h1 3 1 6)).bind fun h2 => (m_Mo_firstGuest 1 1 8806 h2).bind fun h3 => (m_Mo_firstGuest 2 2 2496 h3).bind fun h4 => (m_Mo_firstGuest 3 3 7027 h4).bind fun h5 => (m_Mo_firstGuest 4 0 4444 h5).bind fun h6 => (m_Mo_firstGuest 5 0 9153 h6).bind fun h7 => m_Mo_begin (wr (wr h7 3 14 30) 3 16 45)
abbrev rm_m_Mo_init : Room := { frames := 1, cells := 9, slots := 531, locals := 40 }
theorem hd_m_Mo_init : y_Mo_init.cls ≠ "java/lang/invoke/MethodHandle" ∧ y_Mo_init.cls ≠ "java/lang/invoke/VarHandle" ∧ (parseMethodDescriptor y_Mo_init.desc).map (fun d => d.parameters.length) = some 0 := by decide +kernel
set_option maxHeartbeats 4000000 in
set_option maxRecDepth 100000 in
theorem cm_Mo_init (l : Launch) (E : mE) (b sz : Nat) {h9 : Hp} (hlit : m_Mo_init = some h9) : Met l y_Mo_init (Cond.code y_Mo_init b_Mo_init 1 none :: TB) rm_m_Mo_init (fPc [.ref b] E.1 (mtys E) sz [(b, .inr (8, [.int 0, .null, .null, .null, .int 0, .null, .null, .int 0, .null, .int 0, .null, .int 0, .int 0, .null, .null]))]) (fQv (fun a : Nat → Nat => a 0 = b ∧ xInj a 10 ∧ ∀ k, 1 ≤ k → k < 10 → sz ≤ a k) E.1 (fun a => mV E a h9) (xA (fun _ => b) 1 sz)) 9 531 (xA (fun _ => b) 1 sz) := by
  refine fl_startN (by decide) (Nat.le_of_ble_eq_true rfl) ?_
  intro p e s m args below meth c Q hx hb hml hown hin hts hsz hP hK hN ret ls hl
  subst hsz
  have hA : ∀ q : Nat, s.heap.size ≤ q → xA (fun _ => b) 1 s.heap.size q := fun q h => Or.inr h
  have hS : va_S (xA (fun _ => b) 1 s.heap.size) s.heap s.heap [] := va_S.rf
  have hD : va_D (xA (fun _ => b) 1 s.heap.size) [(b, .inr (8, [.int 0, .null, .null, .null, .int 0, .null, .null, .int 0, .null, .int 0, .null, .int 0, .int 0, .null, .null]))] := va_D_of (a := fun _ => b) (n := 1) rfl (fun i j hi hj _ => by omega) xA_in
  have hl : lv_has ls 1 [(0, .ref b)] := hl
  refine lv_aload_n hx hb d_Mo_init_0 rfl (lv_at hl 0 rfl) ?_
  refine W.objInit hx hb hown (hts _ q661) (hts _ q70) (hts _ q71) rfl (by rw [hml]; exact hl.1) rfl d_Mo_init_1 (Nat.le_of_ble_eq_true rfl) (Nat.le_of_ble_eq_true rfl) ?_
  refine W.eq (g2 := F0 m 4 ls []) rfl ?_
  refine lv_aload_n hx hb d_Mo_init_4 rfl (lv_at hl 0 rfl) ?_
  refine lv_sipush (v := (200 : Int32)) hx hb d_Mo_init_5 (by decide) ?_
  refine va_newa (atype := .int) (N' := 200) (a0 := (200, .inl (fun _ => 0))) (ty := .int) hx hb (hts _ q86) rfl hK hP hD hS hA (fun _ => rfl) (by decide) (by decide) (by decide) (Nat.le_of_ble_eq_true rfl) (Nat.le_of_ble_eq_true rfl) d_Mo_init_8 (fun q1 c1 H hK1 hP hD hS => ?_)
  obtain rfl : c1 = E.2 := one_int (t1 := []) (t2 := []) hK1
  have hP : va_P E.1 xcl [(b, .inr (8, [.int 0, .null, .null, .null, .int 0, .null, .null, .int 0, .null, .int 0, .null, .int 0, .int 0, .null, .null])), (q1, .inl (E.2, 200, .inl (fun _ => 0)))] H := hP
  have hD : va_D (xA (fun _ => b) 1 s.heap.size) [(b, .inr (8, [.int 0, .null, .null, .null, .int 0, .null, .null, .int 0, .null, .int 0, .null, .int 0, .int 0, .null, .null])), (q1, .inl (E.2, 200, .inl (fun _ => 0)))] := hD
  refine va_putF (D := E.1) (ci := 8) (v := .ref q1) (ty := .array .int) (C := R_Mo) (T := T_Mo) (N := 15) hx hb hts in_Mo ty_Mo tk_Mo nm_Mo hown hK hP hD hS 0 rfl rfl 1 (by decide) (hts _ q672) (fun _ h9 => h9) rfl hin rfl (tk_Mo 1 (by decide)) rfl rfl (Nat.le_of_ble_eq_true rfl) d_Mo_init_10 (fun H locs hP hD hS => ?_)
  have hP : va_P E.1 xcl [(b, .inr (8, [.int 0, .ref q1, .null, .null, .int 0, .null, .null, .int 0, .null, .int 0, .null, .int 0, .int 0, .null, .null])), (q1, .inl (E.2, 200, .inl (fun _ => 0)))] H := hP
  have hD : va_D (xA (fun _ => b) 1 s.heap.size) [(b, .inr (8, [.int 0, .ref q1, .null, .null, .int 0, .null, .null, .int 0, .null, .int 0, .null, .int 0, .int 0, .null, .null])), (q1, .inl (E.2, 200, .inl (fun _ => 0)))] := hD
  refine lv_aload_n hx hb d_Mo_init_13 rfl (lv_at hl 0 rfl) ?_
  refine lv_bipush (v := (74 : Int32)) hx hb d_Mo_init_14 (by decide) ?_
  refine va_newa (atype := .int) (N' := 74) (a0 := (74, .inl (fun _ => 0))) (ty := .int) hx hb (hts _ q86) rfl hK hP hD hS hA (fun _ => rfl) (by decide) (by decide) (by decide) (Nat.le_of_ble_eq_true rfl) (Nat.le_of_ble_eq_true rfl) d_Mo_init_16 (fun q2 c2 H hK2 hP hD hS => ?_)
  obtain rfl : c2 = E.2 := one_int (t1 := []) (t2 := []) hK2
  have hP : va_P E.1 xcl [(b, .inr (8, [.int 0, .ref q1, .null, .null, .int 0, .null, .null, .int 0, .null, .int 0, .null, .int 0, .int 0, .null, .null])), (q1, .inl (E.2, 200, .inl (fun _ => 0))), (q2, .inl (E.2, 74, .inl (fun _ => 0)))] H := hP
  have hD : va_D (xA (fun _ => b) 1 s.heap.size) [(b, .inr (8, [.int 0, .ref q1, .null, .null, .int 0, .null, .null, .int 0, .null, .int 0, .null, .int 0, .int 0, .null, .null])), (q1, .inl (E.2, 200, .inl (fun _ => 0))), (q2, .inl (E.2, 74, .inl (fun _ => 0)))] := hD
  refine va_putF (D := E.1) (ci := 8) (v := .ref q2) (ty := .array .int) (C := R_Mo) (T := T_Mo) (N := 15) hx hb hts in_Mo ty_Mo tk_Mo nm_Mo hown hK hP hD hS 0 rfl rfl 2 (by decide) (hts _ q673) (fun _ h9 => h9) rfl hin rfl (tk_Mo 2 (by decide)) rfl rfl (Nat.le_of_ble_eq_true rfl) d_Mo_init_18 (fun H locs hP hD hS => ?_)
  have hP : va_P E.1 xcl [(b, .inr (8, [.int 0, .ref q1, .ref q2, .null, .int 0, .null, .null, .int 0, .null, .int 0, .null, .int 0, .int 0, .null, .null])), (q1, .inl (E.2, 200, .inl (fun _ => 0))), (q2, .inl (E.2, 74, .inl (fun _ => 0)))] H := hP
  have hD : va_D (xA (fun _ => b) 1 s.heap.size) [(b, .inr (8, [.int 0, .ref q1, .ref q2, .null, .int 0, .null, .null, .int 0, .null, .int 0, .null, .int 0, .int 0, .null, .null])), (q1, .inl (E.2, 200, .inl (fun _ => 0))), (q2, .inl (E.2, 74, .inl (fun _ => 0)))] := hD
  refine lv_aload_n hx hb d_Mo_init_21 rfl (lv_at hl 0 rfl) ?_
  refine lv_bipush (v := (74 : Int32)) hx hb d_Mo_init_22 (by decide) ?_
  refine va_newa (atype := .int) (N' := 74) (a0 := (74, .inl (fun _ => 0))) (ty := .int) hx hb (hts _ q86) rfl hK hP hD hS hA (fun _ => rfl) (by decide) (by decide) (by decide) (Nat.le_of_ble_eq_true rfl) (Nat.le_of_ble_eq_true rfl) d_Mo_init_24 (fun q3 c3 H hK3 hP hD hS => ?_)
  obtain rfl : c3 = E.2 := one_int (t1 := []) (t2 := []) hK3
  have hP : va_P E.1 xcl [(b, .inr (8, [.int 0, .ref q1, .ref q2, .null, .int 0, .null, .null, .int 0, .null, .int 0, .null, .int 0, .int 0, .null, .null])), (q1, .inl (E.2, 200, .inl (fun _ => 0))), (q2, .inl (E.2, 74, .inl (fun _ => 0))), (q3, .inl (E.2, 74, .inl (fun _ => 0)))] H := hP
  have hD : va_D (xA (fun _ => b) 1 s.heap.size) [(b, .inr (8, [.int 0, .ref q1, .ref q2, .null, .int 0, .null, .null, .int 0, .null, .int 0, .null, .int 0, .int 0, .null, .null])), (q1, .inl (E.2, 200, .inl (fun _ => 0))), (q2, .inl (E.2, 74, .inl (fun _ => 0))), (q3, .inl (E.2, 74, .inl (fun _ => 0)))] := hD
  refine va_putF (D := E.1) (ci := 8) (v := .ref q3) (ty := .array .int) (C := R_Mo) (T := T_Mo) (N := 15) hx hb hts in_Mo ty_Mo tk_Mo nm_Mo hown hK hP hD hS 0 rfl rfl 3 (by decide) (hts _ q674) (fun _ h9 => h9) rfl hin rfl (tk_Mo 3 (by decide)) rfl rfl (Nat.le_of_ble_eq_true rfl) d_Mo_init_26 (fun H locs hP hD hS => ?_)
  have hP : va_P E.1 xcl [(b, .inr (8, [.int 0, .ref q1, .ref q2, .ref q3, .int 0, .null, .null, .int 0, .null, .int 0, .null, .int 0, .int 0, .null, .null])), (q1, .inl (E.2, 200, .inl (fun _ => 0))), (q2, .inl (E.2, 74, .inl (fun _ => 0))), (q3, .inl (E.2, 74, .inl (fun _ => 0)))] H := hP
  have hD : va_D (xA (fun _ => b) 1 s.heap.size) [(b, .inr (8, [.int 0, .ref q1, .ref q2, .ref q3, .int 0, .null, .null, .int 0, .null, .int 0, .null, .int 0, .int 0, .null, .null])), (q1, .inl (E.2, 200, .inl (fun _ => 0))), (q2, .inl (E.2, 74, .inl (fun _ => 0))), (q3, .inl (E.2, 74, .inl (fun _ => 0)))] := hD
  refine lv_aload_n hx hb d_Mo_init_29 rfl (lv_at hl 0 rfl) ?_
  refine lv_bipush (v := (12 : Int32)) hx hb d_Mo_init_30 (by decide) ?_
  refine va_newa (atype := .int) (N' := 12) (a0 := (12, .inl (fun _ => 0))) (ty := .int) hx hb (hts _ q86) rfl hK hP hD hS hA (fun _ => rfl) (by decide) (by decide) (by decide) (Nat.le_of_ble_eq_true rfl) (Nat.le_of_ble_eq_true rfl) d_Mo_init_32 (fun q4 c4 H hK4 hP hD hS => ?_)
  obtain rfl : c4 = E.2 := one_int (t1 := []) (t2 := []) hK4
  have hP : va_P E.1 xcl [(b, .inr (8, [.int 0, .ref q1, .ref q2, .ref q3, .int 0, .null, .null, .int 0, .null, .int 0, .null, .int 0, .int 0, .null, .null])), (q1, .inl (E.2, 200, .inl (fun _ => 0))), (q2, .inl (E.2, 74, .inl (fun _ => 0))), (q3, .inl (E.2, 74, .inl (fun _ => 0))), (q4, .inl (E.2, 12, .inl (fun _ => 0)))] H := hP
  have hD : va_D (xA (fun _ => b) 1 s.heap.size) [(b, .inr (8, [.int 0, .ref q1, .ref q2, .ref q3, .int 0, .null, .null, .int 0, .null, .int 0, .null, .int 0, .int 0, .null, .null])), (q1, .inl (E.2, 200, .inl (fun _ => 0))), (q2, .inl (E.2, 74, .inl (fun _ => 0))), (q3, .inl (E.2, 74, .inl (fun _ => 0))), (q4, .inl (E.2, 12, .inl (fun _ => 0)))] := hD
  refine va_putF (D := E.1) (ci := 8) (v := .ref q4) (ty := .array .int) (C := R_Mo) (T := T_Mo) (N := 15) hx hb hts in_Mo ty_Mo tk_Mo nm_Mo hown hK hP hD hS 0 rfl rfl 5 (by decide) (hts _ q676) (fun _ h9 => h9) rfl hin rfl (tk_Mo 5 (by decide)) rfl rfl (Nat.le_of_ble_eq_true rfl) d_Mo_init_34 (fun H locs hP hD hS => ?_)
  have hP : va_P E.1 xcl [(b, .inr (8, [.int 0, .ref q1, .ref q2, .ref q3, .int 0, .ref q4, .null, .int 0, .null, .int 0, .null, .int 0, .int 0, .null, .null])), (q1, .inl (E.2, 200, .inl (fun _ => 0))), (q2, .inl (E.2, 74, .inl (fun _ => 0))), (q3, .inl (E.2, 74, .inl (fun _ => 0))), (q4, .inl (E.2, 12, .inl (fun _ => 0)))] H := hP
  have hD : va_D (xA (fun _ => b) 1 s.heap.size) [(b, .inr (8, [.int 0, .ref q1, .ref q2, .ref q3, .int 0, .ref q4, .null, .int 0, .null, .int 0, .null, .int 0, .int 0, .null, .null])), (q1, .inl (E.2, 200, .inl (fun _ => 0))), (q2, .inl (E.2, 74, .inl (fun _ => 0))), (q3, .inl (E.2, 74, .inl (fun _ => 0))), (q4, .inl (E.2, 12, .inl (fun _ => 0)))] := hD
  refine lv_aload_n hx hb d_Mo_init_37 rfl (lv_at hl 0 rfl) ?_
  refine lv_bipush (v := (96 : Int32)) hx hb d_Mo_init_38 (by decide) ?_
  refine va_newa (atype := .int) (N' := 96) (a0 := (96, .inl (fun _ => 0))) (ty := .int) hx hb (hts _ q86) rfl hK hP hD hS hA (fun _ => rfl) (by decide) (by decide) (by decide) (Nat.le_of_ble_eq_true rfl) (Nat.le_of_ble_eq_true rfl) d_Mo_init_40 (fun q5 c5 H hK5 hP hD hS => ?_)
  obtain rfl : c5 = E.2 := one_int (t1 := []) (t2 := []) hK5
  have hP : va_P E.1 xcl [(b, .inr (8, [.int 0, .ref q1, .ref q2, .ref q3, .int 0, .ref q4, .null, .int 0, .null, .int 0, .null, .int 0, .int 0, .null, .null])), (q1, .inl (E.2, 200, .inl (fun _ => 0))), (q2, .inl (E.2, 74, .inl (fun _ => 0))), (q3, .inl (E.2, 74, .inl (fun _ => 0))), (q4, .inl (E.2, 12, .inl (fun _ => 0))), (q5, .inl (E.2, 96, .inl (fun _ => 0)))] H := hP
  have hD : va_D (xA (fun _ => b) 1 s.heap.size) [(b, .inr (8, [.int 0, .ref q1, .ref q2, .ref q3, .int 0, .ref q4, .null, .int 0, .null, .int 0, .null, .int 0, .int 0, .null, .null])), (q1, .inl (E.2, 200, .inl (fun _ => 0))), (q2, .inl (E.2, 74, .inl (fun _ => 0))), (q3, .inl (E.2, 74, .inl (fun _ => 0))), (q4, .inl (E.2, 12, .inl (fun _ => 0))), (q5, .inl (E.2, 96, .inl (fun _ => 0)))] := hD
  refine va_putF (D := E.1) (ci := 8) (v := .ref q5) (ty := .array .int) (C := R_Mo) (T := T_Mo) (N := 15) hx hb hts in_Mo ty_Mo tk_Mo nm_Mo hown hK hP hD hS 0 rfl rfl 6 (by decide) (hts _ q677) (fun _ h9 => h9) rfl hin rfl (tk_Mo 6 (by decide)) rfl rfl (Nat.le_of_ble_eq_true rfl) d_Mo_init_42 (fun H locs hP hD hS => ?_)
  have hP : va_P E.1 xcl [(b, .inr (8, [.int 0, .ref q1, .ref q2, .ref q3, .int 0, .ref q4, .ref q5, .int 0, .null, .int 0, .null, .int 0, .int 0, .null, .null])), (q1, .inl (E.2, 200, .inl (fun _ => 0))), (q2, .inl (E.2, 74, .inl (fun _ => 0))), (q3, .inl (E.2, 74, .inl (fun _ => 0))), (q4, .inl (E.2, 12, .inl (fun _ => 0))), (q5, .inl (E.2, 96, .inl (fun _ => 0)))] H := hP
  have hD : va_D (xA (fun _ => b) 1 s.heap.size) [(b, .inr (8, [.int 0, .ref q1, .ref q2, .ref q3, .int 0, .ref q4, .ref q5, .int 0, .null, .int 0, .null, .int 0, .int 0, .null, .null])), (q1, .inl (E.2, 200, .inl (fun _ => 0))), (q2, .inl (E.2, 74, .inl (fun _ => 0))), (q3, .inl (E.2, 74, .inl (fun _ => 0))), (q4, .inl (E.2, 12, .inl (fun _ => 0))), (q5, .inl (E.2, 96, .inl (fun _ => 0)))] := hD
  refine lv_aload_n hx hb d_Mo_init_45 rfl (lv_at hl 0 rfl) ?_
  refine lv_bipush (v := (24 : Int32)) hx hb d_Mo_init_46 (by decide) ?_
  refine va_newa (atype := .int) (N' := 24) (a0 := (24, .inl (fun _ => 0))) (ty := .int) hx hb (hts _ q86) rfl hK hP hD hS hA (fun _ => rfl) (by decide) (by decide) (by decide) (Nat.le_of_ble_eq_true rfl) (Nat.le_of_ble_eq_true rfl) d_Mo_init_48 (fun q6 c6 H hK6 hP hD hS => ?_)
  obtain rfl : c6 = E.2 := one_int (t1 := []) (t2 := []) hK6
  have hP : va_P E.1 xcl [(b, .inr (8, [.int 0, .ref q1, .ref q2, .ref q3, .int 0, .ref q4, .ref q5, .int 0, .null, .int 0, .null, .int 0, .int 0, .null, .null])), (q1, .inl (E.2, 200, .inl (fun _ => 0))), (q2, .inl (E.2, 74, .inl (fun _ => 0))), (q3, .inl (E.2, 74, .inl (fun _ => 0))), (q4, .inl (E.2, 12, .inl (fun _ => 0))), (q5, .inl (E.2, 96, .inl (fun _ => 0))), (q6, .inl (E.2, 24, .inl (fun _ => 0)))] H := hP
  have hD : va_D (xA (fun _ => b) 1 s.heap.size) [(b, .inr (8, [.int 0, .ref q1, .ref q2, .ref q3, .int 0, .ref q4, .ref q5, .int 0, .null, .int 0, .null, .int 0, .int 0, .null, .null])), (q1, .inl (E.2, 200, .inl (fun _ => 0))), (q2, .inl (E.2, 74, .inl (fun _ => 0))), (q3, .inl (E.2, 74, .inl (fun _ => 0))), (q4, .inl (E.2, 12, .inl (fun _ => 0))), (q5, .inl (E.2, 96, .inl (fun _ => 0))), (q6, .inl (E.2, 24, .inl (fun _ => 0)))] := hD
  refine va_putF (D := E.1) (ci := 8) (v := .ref q6) (ty := .array .int) (C := R_Mo) (T := T_Mo) (N := 15) hx hb hts in_Mo ty_Mo tk_Mo nm_Mo hown hK hP hD hS 0 rfl rfl 8 (by decide) (hts _ q679) (fun _ h9 => h9) rfl hin rfl (tk_Mo 8 (by decide)) rfl rfl (Nat.le_of_ble_eq_true rfl) d_Mo_init_50 (fun H locs hP hD hS => ?_)
  have hP : va_P E.1 xcl [(b, .inr (8, [.int 0, .ref q1, .ref q2, .ref q3, .int 0, .ref q4, .ref q5, .int 0, .ref q6, .int 0, .null, .int 0, .int 0, .null, .null])), (q1, .inl (E.2, 200, .inl (fun _ => 0))), (q2, .inl (E.2, 74, .inl (fun _ => 0))), (q3, .inl (E.2, 74, .inl (fun _ => 0))), (q4, .inl (E.2, 12, .inl (fun _ => 0))), (q5, .inl (E.2, 96, .inl (fun _ => 0))), (q6, .inl (E.2, 24, .inl (fun _ => 0)))] H := hP
  have hD : va_D (xA (fun _ => b) 1 s.heap.size) [(b, .inr (8, [.int 0, .ref q1, .ref q2, .ref q3, .int 0, .ref q4, .ref q5, .int 0, .ref q6, .int 0, .null, .int 0, .int 0, .null, .null])), (q1, .inl (E.2, 200, .inl (fun _ => 0))), (q2, .inl (E.2, 74, .inl (fun _ => 0))), (q3, .inl (E.2, 74, .inl (fun _ => 0))), (q4, .inl (E.2, 12, .inl (fun _ => 0))), (q5, .inl (E.2, 96, .inl (fun _ => 0))), (q6, .inl (E.2, 24, .inl (fun _ => 0)))] := hD
  refine lv_aload_n hx hb d_Mo_init_53 rfl (lv_at hl 0 rfl) ?_
  refine lv_bipush (v := (40 : Int32)) hx hb d_Mo_init_54 (by decide) ?_
  refine va_newa (atype := .int) (N' := 40) (a0 := (40, .inl (fun _ => 0))) (ty := .int) hx hb (hts _ q86) rfl hK hP hD hS hA (fun _ => rfl) (by decide) (by decide) (by decide) (Nat.le_of_ble_eq_true rfl) (Nat.le_of_ble_eq_true rfl) d_Mo_init_56 (fun q7 c7 H hK7 hP hD hS => ?_)
  obtain rfl : c7 = E.2 := one_int (t1 := []) (t2 := []) hK7
  have hP : va_P E.1 xcl [(b, .inr (8, [.int 0, .ref q1, .ref q2, .ref q3, .int 0, .ref q4, .ref q5, .int 0, .ref q6, .int 0, .null, .int 0, .int 0, .null, .null])), (q1, .inl (E.2, 200, .inl (fun _ => 0))), (q2, .inl (E.2, 74, .inl (fun _ => 0))), (q3, .inl (E.2, 74, .inl (fun _ => 0))), (q4, .inl (E.2, 12, .inl (fun _ => 0))), (q5, .inl (E.2, 96, .inl (fun _ => 0))), (q6, .inl (E.2, 24, .inl (fun _ => 0))), (q7, .inl (E.2, 40, .inl (fun _ => 0)))] H := hP
  have hD : va_D (xA (fun _ => b) 1 s.heap.size) [(b, .inr (8, [.int 0, .ref q1, .ref q2, .ref q3, .int 0, .ref q4, .ref q5, .int 0, .ref q6, .int 0, .null, .int 0, .int 0, .null, .null])), (q1, .inl (E.2, 200, .inl (fun _ => 0))), (q2, .inl (E.2, 74, .inl (fun _ => 0))), (q3, .inl (E.2, 74, .inl (fun _ => 0))), (q4, .inl (E.2, 12, .inl (fun _ => 0))), (q5, .inl (E.2, 96, .inl (fun _ => 0))), (q6, .inl (E.2, 24, .inl (fun _ => 0))), (q7, .inl (E.2, 40, .inl (fun _ => 0)))] := hD
  refine va_putF (D := E.1) (ci := 8) (v := .ref q7) (ty := .array .int) (C := R_Mo) (T := T_Mo) (N := 15) hx hb hts in_Mo ty_Mo tk_Mo nm_Mo hown hK hP hD hS 0 rfl rfl 10 (by decide) (hts _ q681) (fun _ h9 => h9) rfl hin rfl (tk_Mo 10 (by decide)) rfl rfl (Nat.le_of_ble_eq_true rfl) d_Mo_init_58 (fun H locs hP hD hS => ?_)
  have hP : va_P E.1 xcl [(b, .inr (8, [.int 0, .ref q1, .ref q2, .ref q3, .int 0, .ref q4, .ref q5, .int 0, .ref q6, .int 0, .ref q7, .int 0, .int 0, .null, .null])), (q1, .inl (E.2, 200, .inl (fun _ => 0))), (q2, .inl (E.2, 74, .inl (fun _ => 0))), (q3, .inl (E.2, 74, .inl (fun _ => 0))), (q4, .inl (E.2, 12, .inl (fun _ => 0))), (q5, .inl (E.2, 96, .inl (fun _ => 0))), (q6, .inl (E.2, 24, .inl (fun _ => 0))), (q7, .inl (E.2, 40, .inl (fun _ => 0)))] H := hP
  have hD : va_D (xA (fun _ => b) 1 s.heap.size) [(b, .inr (8, [.int 0, .ref q1, .ref q2, .ref q3, .int 0, .ref q4, .ref q5, .int 0, .ref q6, .int 0, .ref q7, .int 0, .int 0, .null, .null])), (q1, .inl (E.2, 200, .inl (fun _ => 0))), (q2, .inl (E.2, 74, .inl (fun _ => 0))), (q3, .inl (E.2, 74, .inl (fun _ => 0))), (q4, .inl (E.2, 12, .inl (fun _ => 0))), (q5, .inl (E.2, 96, .inl (fun _ => 0))), (q6, .inl (E.2, 24, .inl (fun _ => 0))), (q7, .inl (E.2, 40, .inl (fun _ => 0)))] := hD
  refine lv_aload_n hx hb d_Mo_init_61 rfl (lv_at hl 0 rfl) ?_
  refine lv_iconst (v := (2 : Int32)) hx hb d_Mo_init_62 (by decide) ?_
  refine va_newa (atype := .int) (N' := 2) (a0 := (2, .inl (fun _ => 0))) (ty := .int) hx hb (hts _ q86) rfl hK hP hD hS hA (fun _ => rfl) (by decide) (by decide) (by decide) (Nat.le_of_ble_eq_true rfl) (Nat.le_of_ble_eq_true rfl) d_Mo_init_63 (fun q8 c8 H hK8 hP hD hS => ?_)
  obtain rfl : c8 = E.2 := one_int (t1 := []) (t2 := []) hK8
  have hP : va_P E.1 xcl [(b, .inr (8, [.int 0, .ref q1, .ref q2, .ref q3, .int 0, .ref q4, .ref q5, .int 0, .ref q6, .int 0, .ref q7, .int 0, .int 0, .null, .null])), (q1, .inl (E.2, 200, .inl (fun _ => 0))), (q2, .inl (E.2, 74, .inl (fun _ => 0))), (q3, .inl (E.2, 74, .inl (fun _ => 0))), (q4, .inl (E.2, 12, .inl (fun _ => 0))), (q5, .inl (E.2, 96, .inl (fun _ => 0))), (q6, .inl (E.2, 24, .inl (fun _ => 0))), (q7, .inl (E.2, 40, .inl (fun _ => 0))), (q8, .inl (E.2, 2, .inl (fun _ => 0)))] H := hP
  have hD : va_D (xA (fun _ => b) 1 s.heap.size) [(b, .inr (8, [.int 0, .ref q1, .ref q2, .ref q3, .int 0, .ref q4, .ref q5, .int 0, .ref q6, .int 0, .ref q7, .int 0, .int 0, .null, .null])), (q1, .inl (E.2, 200, .inl (fun _ => 0))), (q2, .inl (E.2, 74, .inl (fun _ => 0))), (q3, .inl (E.2, 74, .inl (fun _ => 0))), (q4, .inl (E.2, 12, .inl (fun _ => 0))), (q5, .inl (E.2, 96, .inl (fun _ => 0))), (q6, .inl (E.2, 24, .inl (fun _ => 0))), (q7, .inl (E.2, 40, .inl (fun _ => 0))), (q8, .inl (E.2, 2, .inl (fun _ => 0)))] := hD
  refine va_putF (D := E.1) (ci := 8) (v := .ref q8) (ty := .array .int) (C := R_Mo) (T := T_Mo) (N := 15) hx hb hts in_Mo ty_Mo tk_Mo nm_Mo hown hK hP hD hS 0 rfl rfl 13 (by decide) (hts _ q684) (fun _ h9 => h9) rfl hin rfl (tk_Mo 13 (by decide)) rfl rfl (Nat.le_of_ble_eq_true rfl) d_Mo_init_65 (fun H locs hP hD hS => ?_)
  have hP : va_P E.1 xcl [(b, .inr (8, [.int 0, .ref q1, .ref q2, .ref q3, .int 0, .ref q4, .ref q5, .int 0, .ref q6, .int 0, .ref q7, .int 0, .int 0, .ref q8, .null])), (q1, .inl (E.2, 200, .inl (fun _ => 0))), (q2, .inl (E.2, 74, .inl (fun _ => 0))), (q3, .inl (E.2, 74, .inl (fun _ => 0))), (q4, .inl (E.2, 12, .inl (fun _ => 0))), (q5, .inl (E.2, 96, .inl (fun _ => 0))), (q6, .inl (E.2, 24, .inl (fun _ => 0))), (q7, .inl (E.2, 40, .inl (fun _ => 0))), (q8, .inl (E.2, 2, .inl (fun _ => 0)))] H := hP
  have hD : va_D (xA (fun _ => b) 1 s.heap.size) [(b, .inr (8, [.int 0, .ref q1, .ref q2, .ref q3, .int 0, .ref q4, .ref q5, .int 0, .ref q6, .int 0, .ref q7, .int 0, .int 0, .ref q8, .null])), (q1, .inl (E.2, 200, .inl (fun _ => 0))), (q2, .inl (E.2, 74, .inl (fun _ => 0))), (q3, .inl (E.2, 74, .inl (fun _ => 0))), (q4, .inl (E.2, 12, .inl (fun _ => 0))), (q5, .inl (E.2, 96, .inl (fun _ => 0))), (q6, .inl (E.2, 24, .inl (fun _ => 0))), (q7, .inl (E.2, 40, .inl (fun _ => 0))), (q8, .inl (E.2, 2, .inl (fun _ => 0)))] := hD
  refine lv_aload_n hx hb d_Mo_init_68 rfl (lv_at hl 0 rfl) ?_
  refine lv_bipush (v := (9 : Int32)) hx hb d_Mo_init_69 (by decide) ?_
  refine va_newa (atype := .int) (N' := 9) (a0 := (9, .inl (fun _ => 0))) (ty := .int) hx hb (hts _ q86) rfl hK hP hD hS hA (fun _ => rfl) (by decide) (by decide) (by decide) (Nat.le_of_ble_eq_true rfl) (Nat.le_of_ble_eq_true rfl) d_Mo_init_71 (fun q9 c9 H hK9 hP hD hS => ?_)
  obtain rfl : c9 = E.2 := one_int (t1 := []) (t2 := []) hK9
  have hP : va_P E.1 xcl [(b, .inr (8, [.int 0, .ref q1, .ref q2, .ref q3, .int 0, .ref q4, .ref q5, .int 0, .ref q6, .int 0, .ref q7, .int 0, .int 0, .ref q8, .null])), (q1, .inl (E.2, 200, .inl (fun _ => 0))), (q2, .inl (E.2, 74, .inl (fun _ => 0))), (q3, .inl (E.2, 74, .inl (fun _ => 0))), (q4, .inl (E.2, 12, .inl (fun _ => 0))), (q5, .inl (E.2, 96, .inl (fun _ => 0))), (q6, .inl (E.2, 24, .inl (fun _ => 0))), (q7, .inl (E.2, 40, .inl (fun _ => 0))), (q8, .inl (E.2, 2, .inl (fun _ => 0))), (q9, .inl (E.2, 9, .inl (fun _ => 0)))] H := hP
  have hD : va_D (xA (fun _ => b) 1 s.heap.size) [(b, .inr (8, [.int 0, .ref q1, .ref q2, .ref q3, .int 0, .ref q4, .ref q5, .int 0, .ref q6, .int 0, .ref q7, .int 0, .int 0, .ref q8, .null])), (q1, .inl (E.2, 200, .inl (fun _ => 0))), (q2, .inl (E.2, 74, .inl (fun _ => 0))), (q3, .inl (E.2, 74, .inl (fun _ => 0))), (q4, .inl (E.2, 12, .inl (fun _ => 0))), (q5, .inl (E.2, 96, .inl (fun _ => 0))), (q6, .inl (E.2, 24, .inl (fun _ => 0))), (q7, .inl (E.2, 40, .inl (fun _ => 0))), (q8, .inl (E.2, 2, .inl (fun _ => 0))), (q9, .inl (E.2, 9, .inl (fun _ => 0)))] := hD
  refine va_putF (D := E.1) (ci := 8) (v := .ref q9) (ty := .array .int) (C := R_Mo) (T := T_Mo) (N := 15) hx hb hts in_Mo ty_Mo tk_Mo nm_Mo hown hK hP hD hS 0 rfl rfl 14 (by decide) (hts _ q685) (fun _ h9 => h9) rfl hin rfl (tk_Mo 14 (by decide)) rfl rfl (Nat.le_of_ble_eq_true rfl) d_Mo_init_73 (fun H locs hP hD hS => ?_)
  have hP : va_P E.1 xcl [(b, .inr (8, [.int 0, .ref q1, .ref q2, .ref q3, .int 0, .ref q4, .ref q5, .int 0, .ref q6, .int 0, .ref q7, .int 0, .int 0, .ref q8, .ref q9])), (q1, .inl (E.2, 200, .inl (fun _ => 0))), (q2, .inl (E.2, 74, .inl (fun _ => 0))), (q3, .inl (E.2, 74, .inl (fun _ => 0))), (q4, .inl (E.2, 12, .inl (fun _ => 0))), (q5, .inl (E.2, 96, .inl (fun _ => 0))), (q6, .inl (E.2, 24, .inl (fun _ => 0))), (q7, .inl (E.2, 40, .inl (fun _ => 0))), (q8, .inl (E.2, 2, .inl (fun _ => 0))), (q9, .inl (E.2, 9, .inl (fun _ => 0)))] H := hP
  have hD : va_D (xA (fun _ => b) 1 s.heap.size) [(b, .inr (8, [.int 0, .ref q1, .ref q2, .ref q3, .int 0, .ref q4, .ref q5, .int 0, .ref q6, .int 0, .ref q7, .int 0, .int 0, .ref q8, .ref q9])), (q1, .inl (E.2, 200, .inl (fun _ => 0))), (q2, .inl (E.2, 74, .inl (fun _ => 0))), (q3, .inl (E.2, 74, .inl (fun _ => 0))), (q4, .inl (E.2, 12, .inl (fun _ => 0))), (q5, .inl (E.2, 96, .inl (fun _ => 0))), (q6, .inl (E.2, 24, .inl (fun _ => 0))), (q7, .inl (E.2, 40, .inl (fun _ => 0))), (q8, .inl (E.2, 2, .inl (fun _ => 0))), (q9, .inl (E.2, 9, .inl (fun _ => 0)))] := hD
  obtain ⟨a, ea⟩ : ∃ a : Nat → Nat, a = fun k => ([b, q1, q2, q3, q4, q5, q6, q7, q8, q9] : List Nat).getD k 0 := ⟨_, rfl⟩
  have a0 : a 0 = b := by rw [ea]; rfl
  have hP : va_P E.1 xcl (mV E a (fun _ _ => 0)) H := by rw [ea]; exact hP
  have hD : va_D (xA (fun _ => b) 1 s.heap.size) (mV E a (fun _ _ => 0)) := by rw [ea]; exact hD
  have hf : ∀ k, k < 10 → ∃ x, (mV E a (fun _ _ => 0))[k]? = some x ∧ x.1 = a k := fun k hk => by
    match k, hk with
    | 0, _ | 1, _ | 2, _ | 3, _ | 4, _ | 5, _ | 6, _ | 7, _ | 8, _ | 9, _ => exact ⟨_, rfl, rfl⟩
    | k + 10, hk => exact absurd hk (by omega)
  have ha : xInj a 10 := fun i j hi hj e => by
    obtain ⟨x, x1, x2⟩ := hf i hi
    obtain ⟨y, y1, y2⟩ := hf j hj
    exact hD.1 i j x y x1 y1 (by rw [x2, y2, e])
  have hA1 : ∀ k, k < 10 → xA (fun _ => b) 1 s.heap.size (a k) := fun k hk => by
    obtain ⟨x, x1, x2⟩ := hf k hk
    rw [← x2]
    exact hD.2 k x x1
  have hz : ∀ k, 1 ≤ k → k < 10 → s.heap.size ≤ a k := fun k h1 hk => by
    rcases hA1 k hk with ⟨j, -, e⟩ | h
    · exact absurd (ha k 0 hk (by omega) (e.trans a0.symm)) (by omega)
    · exact h
  have hsub : ∀ {H : Heap}, s.heap.size ≤ H.size → ∀ q, xA a 10 H.size q → xA (fun _ => b) 1 s.heap.size q := fun h q hq => hq.elim (fun ⟨k, hk, e⟩ => by rw [e]; exact hA1 k hk) (fun z => Or.inr (Nat.le_trans h z))
  rw [← a0] at hl
  clear hD hf ea
  have hl : lv_has ls 1 [(0, .ref (a 0))] := hl
  unfold m_Mo_init at hlit
  refine lv_aload_n hx hb d_Mo_init_76 rfl (lv_at hl 0 rfl) ?_
  obtain ⟨h1, hl77, hlit⟩ := bindS hlit
  refine fCallV (fRunV (As := []) (rest := []) (q0 := 0) (ci := 8) hx hb hml hown hts hK hN hP (cm_Mo_empty l E a ha (fun _ _ => 0) _ (h9 := h1) hl77) q662 q663 q23 q61 q664 hd_m_Mo_empty rfl rfl ⟨Nat.le_of_ble_eq_true rfl, Nat.le_of_ble_eq_true rfl⟩ me_0 rfl rfl rfl hl.1 rfl (Nat.le_of_ble_eq_true rfl) d_Mo_init_77 ⟨Nat.le_of_ble_eq_true rfl, Nat.le_of_ble_eq_true rfl⟩) hS (hsub hS.1) (fun _ H locs hu hP hS _ _ => ?_)
  have hP : va_P E.1 xcl (mV E a h1) H := hP
  refine lv_aload_n hx hb d_Mo_init_80 rfl (lv_at hl 0 rfl) ?_
  refine mg_Mo_3 hx hb hts hown hK hP q674 d_Mo_init_81 ?_
  refine lv_iconst (v := (1 : Int32)) hx hb d_Mo_init_84 (by decide) ?_
  refine lv_bipush (v := (6 : Int32)) hx hb d_Mo_init_85 (by decide) ?_
  refine mast3 hx hb hK hP ha hA1 hS (j := 1) rfl (vpin_c (by decide)) d_Mo_init_87 (fun H locs hP hS => ?_)
  have hP : va_P E.1 xcl (mV E a (wr h1 3 1 6)) H := hP
  refine lv_aload_n hx hb d_Mo_init_88 rfl (lv_at hl 0 rfl) ?_
  refine lv_iconst (v := (0 : Int32)) hx hb d_Mo_init_89 (by decide) ?_
  refine lv_iconst (v := (0 : Int32)) hx hb d_Mo_init_90 (by decide) ?_
  refine lv_sipush (v := (5371 : Int32)) hx hb d_Mo_init_91 (by decide) ?_
  obtain ⟨h2, hl94, hlit⟩ := bindS hlit
  refine fCallV (fRunV (As := [.int (0 : Int32), .int (0 : Int32), .int (5371 : Int32)]) (rest := []) (q0 := 0) (ci := 8) hx hb hml hown hts hK hN hP (cm_Mo_firstGuest l E a ha (wr h1 3 1 6) _ (0 : Int32) (0 : Int32) (5371 : Int32) (h9 := h2) hl94) q665 q666 q24 q61 q667 hd_m_Mo_firstGuest rfl rfl ⟨Nat.le_of_ble_eq_true rfl, Nat.le_of_ble_eq_true rfl⟩ me_0 rfl rfl rfl hl.1 rfl (Nat.le_of_ble_eq_true rfl) d_Mo_init_94 ⟨Nat.le_of_ble_eq_true rfl, Nat.le_of_ble_eq_true rfl⟩) hS (hsub hS.1) (fun _ H locs hu hP hS _ _ => ?_)
  have hP : va_P E.1 xcl (mV E a h2) H := hP
  refine lv_aload_n hx hb d_Mo_init_97 rfl (lv_at hl 0 rfl) ?_
  refine lv_iconst (v := (1 : Int32)) hx hb d_Mo_init_98 (by decide) ?_
  refine lv_iconst (v := (1 : Int32)) hx hb d_Mo_init_99 (by decide) ?_
  refine lv_sipush (v := (8806 : Int32)) hx hb d_Mo_init_100 (by decide) ?_
  obtain ⟨h3, hl103, hlit⟩ := bindS hlit
  refine fCallV (fRunV (As := [.int (1 : Int32), .int (1 : Int32), .int (8806 : Int32)]) (rest := []) (q0 := 0) (ci := 8) hx hb hml hown hts hK hN hP (cm_Mo_firstGuest l E a ha h2 _ (1 : Int32) (1 : Int32) (8806 : Int32) (h9 := h3) hl103) q665 q666 q24 q61 q667 hd_m_Mo_firstGuest rfl rfl ⟨Nat.le_of_ble_eq_true rfl, Nat.le_of_ble_eq_true rfl⟩ me_0 rfl rfl rfl hl.1 rfl (Nat.le_of_ble_eq_true rfl) d_Mo_init_103 ⟨Nat.le_of_ble_eq_true rfl, Nat.le_of_ble_eq_true rfl⟩) hS (hsub hS.1) (fun _ H locs hu hP hS _ _ => ?_)
  have hP : va_P E.1 xcl (mV E a h3) H := hP
  refine lv_aload_n hx hb d_Mo_init_106 rfl (lv_at hl 0 rfl) ?_
  refine lv_iconst (v := (2 : Int32)) hx hb d_Mo_init_107 (by decide) ?_
  refine lv_iconst (v := (2 : Int32)) hx hb d_Mo_init_108 (by decide) ?_
  refine lv_sipush (v := (2496 : Int32)) hx hb d_Mo_init_109 (by decide) ?_
  obtain ⟨h4, hl112, hlit⟩ := bindS hlit
  refine fCallV (fRunV (As := [.int (2 : Int32), .int (2 : Int32), .int (2496 : Int32)]) (rest := []) (q0 := 0) (ci := 8) hx hb hml hown hts hK hN hP (cm_Mo_firstGuest l E a ha h3 _ (2 : Int32) (2 : Int32) (2496 : Int32) (h9 := h4) hl112) q665 q666 q24 q61 q667 hd_m_Mo_firstGuest rfl rfl ⟨Nat.le_of_ble_eq_true rfl, Nat.le_of_ble_eq_true rfl⟩ me_0 rfl rfl rfl hl.1 rfl (Nat.le_of_ble_eq_true rfl) d_Mo_init_112 ⟨Nat.le_of_ble_eq_true rfl, Nat.le_of_ble_eq_true rfl⟩) hS (hsub hS.1) (fun _ H locs hu hP hS _ _ => ?_)
  have hP : va_P E.1 xcl (mV E a h4) H := hP
  refine lv_aload_n hx hb d_Mo_init_115 rfl (lv_at hl 0 rfl) ?_
  refine lv_iconst (v := (3 : Int32)) hx hb d_Mo_init_116 (by decide) ?_
  refine lv_iconst (v := (3 : Int32)) hx hb d_Mo_init_117 (by decide) ?_
  refine lv_sipush (v := (7027 : Int32)) hx hb d_Mo_init_118 (by decide) ?_
  obtain ⟨h5, hl121, hlit⟩ := bindS hlit
  refine fCallV (fRunV (As := [.int (3 : Int32), .int (3 : Int32), .int (7027 : Int32)]) (rest := []) (q0 := 0) (ci := 8) hx hb hml hown hts hK hN hP (cm_Mo_firstGuest l E a ha h4 _ (3 : Int32) (3 : Int32) (7027 : Int32) (h9 := h5) hl121) q665 q666 q24 q61 q667 hd_m_Mo_firstGuest rfl rfl ⟨Nat.le_of_ble_eq_true rfl, Nat.le_of_ble_eq_true rfl⟩ me_0 rfl rfl rfl hl.1 rfl (Nat.le_of_ble_eq_true rfl) d_Mo_init_121 ⟨Nat.le_of_ble_eq_true rfl, Nat.le_of_ble_eq_true rfl⟩) hS (hsub hS.1) (fun _ H locs hu hP hS _ _ => ?_)
  have hP : va_P E.1 xcl (mV E a h5) H := hP
  refine lv_aload_n hx hb d_Mo_init_124 rfl (lv_at hl 0 rfl) ?_
  refine lv_iconst (v := (4 : Int32)) hx hb d_Mo_init_125 (by decide) ?_
  refine lv_iconst (v := (0 : Int32)) hx hb d_Mo_init_126 (by decide) ?_
  refine lv_sipush (v := (4444 : Int32)) hx hb d_Mo_init_127 (by decide) ?_
  obtain ⟨h6, hl130, hlit⟩ := bindS hlit
  refine fCallV (fRunV (As := [.int (4 : Int32), .int (0 : Int32), .int (4444 : Int32)]) (rest := []) (q0 := 0) (ci := 8) hx hb hml hown hts hK hN hP (cm_Mo_firstGuest l E a ha h5 _ (4 : Int32) (0 : Int32) (4444 : Int32) (h9 := h6) hl130) q665 q666 q24 q61 q667 hd_m_Mo_firstGuest rfl rfl ⟨Nat.le_of_ble_eq_true rfl, Nat.le_of_ble_eq_true rfl⟩ me_0 rfl rfl rfl hl.1 rfl (Nat.le_of_ble_eq_true rfl) d_Mo_init_130 ⟨Nat.le_of_ble_eq_true rfl, Nat.le_of_ble_eq_true rfl⟩) hS (hsub hS.1) (fun _ H locs hu hP hS _ _ => ?_)
  have hP : va_P E.1 xcl (mV E a h6) H := hP
  refine lv_aload_n hx hb d_Mo_init_133 rfl (lv_at hl 0 rfl) ?_
  refine lv_iconst (v := (5 : Int32)) hx hb d_Mo_init_134 (by decide) ?_
  refine lv_iconst (v := (0 : Int32)) hx hb d_Mo_init_135 (by decide) ?_
  refine lv_sipush (v := (9153 : Int32)) hx hb d_Mo_init_136 (by decide) ?_
  obtain ⟨h7, hl139, hlit⟩ := bindS hlit
  refine fCallV (fRunV (As := [.int (5 : Int32), .int (0 : Int32), .int (9153 : Int32)]) (rest := []) (q0 := 0) (ci := 8) hx hb hml hown hts hK hN hP (cm_Mo_firstGuest l E a ha h6 _ (5 : Int32) (0 : Int32) (9153 : Int32) (h9 := h7) hl139) q665 q666 q24 q61 q667 hd_m_Mo_firstGuest rfl rfl ⟨Nat.le_of_ble_eq_true rfl, Nat.le_of_ble_eq_true rfl⟩ me_0 rfl rfl rfl hl.1 rfl (Nat.le_of_ble_eq_true rfl) d_Mo_init_139 ⟨Nat.le_of_ble_eq_true rfl, Nat.le_of_ble_eq_true rfl⟩) hS (hsub hS.1) (fun _ H locs hu hP hS _ _ => ?_)
  have hP : va_P E.1 xcl (mV E a h7) H := hP
  refine lv_aload_n hx hb d_Mo_init_142 rfl (lv_at hl 0 rfl) ?_
  refine mg_Mo_3 hx hb hts hown hK hP q674 d_Mo_init_143 ?_
  refine lv_bipush (v := (14 : Int32)) hx hb d_Mo_init_146 (by decide) ?_
  refine lv_bipush (v := (30 : Int32)) hx hb d_Mo_init_148 (by decide) ?_
  refine mast3 hx hb hK hP ha hA1 hS (j := 14) rfl (vpin_c (by decide)) d_Mo_init_150 (fun H locs hP hS => ?_)
  have hP : va_P E.1 xcl (mV E a (wr h7 3 14 30)) H := hP
  refine lv_aload_n hx hb d_Mo_init_151 rfl (lv_at hl 0 rfl) ?_
  refine mg_Mo_3 hx hb hts hown hK hP q674 d_Mo_init_152 ?_
  refine lv_bipush (v := (16 : Int32)) hx hb d_Mo_init_155 (by decide) ?_
  refine lv_bipush (v := (45 : Int32)) hx hb d_Mo_init_157 (by decide) ?_
  refine mast3 hx hb hK hP ha hA1 hS (j := 16) rfl (vpin_c (by decide)) d_Mo_init_159 (fun H locs hP hS => ?_)
  have hP : va_P E.1 xcl (mV E a (wr (wr h7 3 14 30) 3 16 45)) H := hP
  refine lv_aload_n hx hb d_Mo_init_160 rfl (lv_at hl 0 rfl) ?_
  refine fCallV (fRunV (As := []) (rest := []) (q0 := 0) (ci := 8) hx hb hml hown hts hK hN hP (cm_Mo_begin l E a ha (wr (wr h7 3 14 30) 3 16 45) _ (h9 := h9) hlit) q668 q669 q25 q61 q670 hd_m_Mo_begin rfl rfl ⟨Nat.le_of_ble_eq_true rfl, Nat.le_of_ble_eq_true rfl⟩ me_0 rfl rfl rfl hl.1 rfl (Nat.le_of_ble_eq_true rfl) d_Mo_init_161 ⟨Nat.le_of_ble_eq_true rfl, Nat.le_of_ble_eq_true rfl⟩) hS (hsub hS.1) (fun _ H locs hu hP hS _ _ => ?_)
  have hP : va_P E.1 xcl (mV E a h9) H := hP
  refine W.widen (k := 9) (n := 531) (Nat.le_of_ble_eq_true rfl) (Nat.le_of_ble_eq_true rfl) ?_
  exact ret a _ _ _ _ ⟨a0, ha, hz⟩ hP hS d_Mo_init_164
