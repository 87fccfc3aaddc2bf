abbrev rm_x_Moment_heartsOf : Room := { frames := 5, cells := 0, slots := 0, locals := 112 }
theorem hd_x_Moment_heartsOf : y_Moment_heartsOf.cls ≠ "java/lang/invoke/MethodHandle" ∧ y_Moment_heartsOf.cls ≠ "java/lang/invoke/VarHandle" ∧ (parseMethodDescriptor y_Moment_heartsOf.desc).map (fun d => d.parameters.length) = some 1 := by decide +kernel
set_option maxHeartbeats 4000000 in
set_option maxRecDepth 100000 in
theorem cx_Moment_heartsOf (l : Launch) (E : xE) (a : Nat → Nat) (ha : xInj a 38) (u v : Nat) (h : Hp) (sz : Nat) (p1 : Int32) {r0 : Int32} (hlit : x_Moment_heartsOf p1 h = some r0) : Met l y_Moment_heartsOf (Cond.code y_Moment_heartsOf b_Moment_heartsOf 4 (some .int) :: TB) rm_x_Moment_heartsOf (fPc [.ref (a 5), .int p1] E.1 (xtys E) sz (xV E a u v (a 6) h)) (fQi (fun _ : Nat => True) r0 E.1 (fun (_ : Nat) => xV E a u v (a 6) h) (xA a 38 sz)) 0 0 (xA a 38 sz) := by
  refine fl_startI (by decide) (Nat.le_of_ble_eq_true rfl) ?_
  intro p e s m args below meth c Q hx hb hml hown hts hsz hP hK hN ret ls hl
  subst hsz
  have hA : ∀ k, k < 38 → (xA a 38 s.heap.size) (a k) := xA_in
  have hS : va_S (xA a 38 s.heap.size) s.heap s.heap [] := va_S.rf
  have hl : lv_has ls 4 [(0, .ref (a 5)), (1, .int p1)] := hl
  have b4 : ∀ (n : Nat), ∀ (x2 : Int32) (x3 : Int32) (H : Heap) (locs : List Loc) (ls : Array Slot), x_Moment_heartsOf_b4 p1 h n x2 x3 = some r0 → va_P E.1 xcl (xV E a u v (a 6) h) H → va_S (xA a 38 s.heap.size) s.heap H locs → lv_has ls 4 [(0, .ref (a 5)), (1, .int p1), (2, .int x2), (3, .int x3)] → W p l e rm_x_Moment_heartsOf s m args below meth c H locs 0 0 Q (F0 m 4 ls []) := by
    intro n
    induction n with
    | zero => intro x2 x3 H locs ls hlit hP hS hl; exact nnF hlit
    | succ n ih =>
      intro x2 x3 H locs ls hlit hP hS hl
      refine lv_iload_n hx hb d_Moment_heartsOf_4 rfl (lv_at hl 3 rfl) ?_
      refine lv_aload_n hx hb d_Moment_heartsOf_5 rfl (lv_at hl 0 rfl) ?_
      refine xg_Moment_0 hx hb hts hown hK hP q182 d_Moment_heartsOf_6 ?_
      refine xg_Menu_0 hx hb hts hown hK hP rfl q148 d_Moment_heartsOf_9 ?_
      refine lv_icmp_ge (tgt := 44) hx hb d_Moment_heartsOf_12 (by decide) (fun c12 => ?_) (fun c12 => ?_)
      · have hlit := brP _ hlit c12
        refine lv_iload_n hx hb d_Moment_heartsOf_44 rfl (lv_at hl 2 rfl) ?_
        cases hlit
        exact ret 0 _ _ _ _ trivial hP hS rfl d_Moment_heartsOf_45
      · have hlit := brN _ hlit c12
        refine lv_aload_n hx hb d_Moment_heartsOf_15 rfl (lv_at hl 0 rfl) ?_
        refine lv_aload_n hx hb d_Moment_heartsOf_16 rfl (lv_at hl 0 rfl) ?_
        refine xg_Moment_0 hx hb hts hown hK hP q182 d_Moment_heartsOf_17 ?_
        refine lv_iload_n hx hb d_Moment_heartsOf_20 rfl (lv_at hl 1 rfl) ?_
        obtain ⟨r21, hl21, hlit⟩ := bindS hlit
        refine fCallI (fRunV (As := [.int p1]) (rest := [.ref (a 5)]) (q0 := 6) (ci := 1) hx hb hml hown hts hK hN hP (cx_Menu_kindOf l E a ha u v (a 6) h _ 6 rfl p1 (r0 := r21) hl21) q362 q336 q337 q55 q338 hd_x_Menu_kindOf rfl rfl ⟨Nat.le_of_ble_eq_true rfl, Nat.le_of_ble_eq_true rfl⟩ (xeU rfl) rfl rfl rfl hl.1 rfl (Nat.le_of_ble_eq_true rfl) d_Moment_heartsOf_21 ⟨Nat.zero_le _, Nat.zero_le _⟩) hS (xA_up hS.1) (fun _ H locs hu21 hP hS _ _ => ?_)
        have hP : va_P E.1 xcl (xV E a u v (a 6) h) H := hP
        refine lv_iload_n hx hb d_Moment_heartsOf_24 rfl (lv_at hl 1 rfl) ?_
        refine lv_iload_n hx hb d_Moment_heartsOf_25 rfl (lv_at hl 3 rfl) ?_
        obtain ⟨r26, hl26, hlit⟩ := bindS hlit
        refine fCallI (fRunV (As := [.int r21, .int p1, .int x3]) (rest := []) (q0 := 5) (ci := 2) hx hb hml hown hts hK hN hP (cx_Moment_gives l E a ha u v h _ r21 p1 x3 (r0 := r26) hl26) q363 q364 q365 q56 q366 hd_x_Moment_gives rfl rfl ⟨Nat.le_of_ble_eq_true rfl, Nat.le_of_ble_eq_true rfl⟩ xe_5 rfl rfl rfl hl.1 rfl (Nat.le_of_ble_eq_true rfl) d_Moment_heartsOf_26 ⟨Nat.zero_le _, Nat.zero_le _⟩) hS (xA_up hS.1) (fun _ H locs hu26 hP hS _ _ => ?_)
        have hP : va_P E.1 xcl (xV E a u v (a 6) h) H := hP
        refine lv_if_eq (tgt := 38) hx hb d_Moment_heartsOf_29 (by decide) (fun c29 => ?_) (fun c29 => ?_)
        · have hlit := brP _ hlit c29
          refine lv_iinc (v := (x3 + (1 : Int32))) (lv' := [(3, .int (x3 + (1 : Int32))), (0, .ref (a 5)), (1, .int p1), (2, .int x2)]) hx hb d_Moment_heartsOf_38 hl (k := 3) rfl rfl (by decide) rfl (fun ls hl => ?_)
          refine lv_goto (tgt := 4) hx hb d_Moment_heartsOf_41 (by decide) ?_
          exact ih x2 (x3 + (1 : Int32)) _ _ _ hlit hP hS (lv_sub hl [1, 2, 3, 0] rfl)
        · have hlit := brN _ hlit c29
          refine lv_iload_n hx hb d_Moment_heartsOf_32 rfl (lv_at hl 2 rfl) ?_
          refine lv_iconst (v := (1 : Int32)) hx hb d_Moment_heartsOf_33 (by decide) ?_
          refine lv_iload_n hx hb d_Moment_heartsOf_34 rfl (lv_at hl 3 rfl) ?_
          refine lv_ishl hx hb d_Moment_heartsOf_35 ?_
          refine lv_ior hx hb d_Moment_heartsOf_36 ?_
          obtain ⟨y37, ey37, hlit⟩ := bindS hlit
          refine topn ey37 ?_
          refine lv_istore_n (lv' := [(2, .int y37), (0, .ref (a 5)), (1, .int p1), (3, .int x3)]) hx hb d_Moment_heartsOf_37 rfl hl (by decide) rfl (fun ls hl => ?_)
          refine lv_iinc (v := (x3 + (1 : Int32))) (lv' := [(3, .int (x3 + (1 : Int32))), (2, .int y37), (0, .ref (a 5)), (1, .int p1)]) hx hb d_Moment_heartsOf_38 hl (k := 3) rfl rfl (by decide) rfl (fun ls hl => ?_)
          refine lv_goto (tgt := 4) hx hb d_Moment_heartsOf_41 (by decide) ?_
          exact ih y37 (x3 + (1 : Int32)) _ _ _ hlit hP hS (lv_sub hl [2, 3, 1, 0] rfl)
  refine lv_iconst (v := (0 : Int32)) hx hb d_Moment_heartsOf_0 (by decide) ?_
  refine lv_istore_n (lv' := [(2, .int (0 : Int32)), (0, .ref (a 5)), (1, .int p1)]) hx hb d_Moment_heartsOf_1 rfl hl (by decide) rfl (fun ls hl => ?_)
  refine lv_iconst (v := (0 : Int32)) hx hb d_Moment_heartsOf_2 (by decide) ?_
  refine lv_istore_n (lv' := [(3, .int (0 : Int32)), (2, .int (0 : Int32)), (0, .ref (a 5)), (1, .int p1)]) hx hb d_Moment_heartsOf_3 rfl hl (by decide) rfl (fun ls hl => ?_)
  exact b4 FU (0 : Int32) (0 : Int32) _ _ _ hlit hP hS (lv_sub hl [2, 3, 1, 0] rfl)

abbrev rm_x_Moment_heartsOn : Room := { frames := 5, cells := 0, slots := 0, locals := 112 }
theorem hd_x_Moment_heartsOn : y_Moment_heartsOn.cls ≠ "java/lang/invoke/MethodHandle" ∧ y_Moment_heartsOn.cls ≠ "java/lang/invoke/VarHandle" ∧ (parseMethodDescriptor y_Moment_heartsOn.desc).map (fun d => d.parameters.length) = some 1 := by decide +kernel
set_option maxHeartbeats 4000000 in
set_option maxRecDepth 100000 in
theorem cx_Moment_heartsOn (l : Launch) (E : xE) (a : Nat → Nat) (ha : xInj a 38) (u v : Nat) (h : Hp) (sz : Nat) (p1 : Int32) {r0 : Int32} (hlit : x_Moment_heartsOn p1 h = some r0) : Met l y_Moment_heartsOn (Cond.code y_Moment_heartsOn b_Moment_heartsOn 4 (some .int) :: TB) rm_x_Moment_heartsOn (fPc [.ref (a 5), .int p1] E.1 (xtys E) sz (xV E a u v (a 6) h)) (fQi (fun _ : Nat => True) r0 E.1 (fun (_ : Nat) => xV E a u v (a 6) h) (xA a 38 sz)) 0 0 (xA a 38 sz) := by
  refine fl_startI (by decide) (Nat.le_of_ble_eq_true rfl) ?_
  intro p e s m args below meth c Q hx hb hml hown hts hsz hP hK hN ret ls hl
  subst hsz
  have hA : ∀ k, k < 38 → (xA a 38 s.heap.size) (a k) := xA_in
  have hS : va_S (xA a 38 s.heap.size) s.heap s.heap [] := va_S.rf
  have hl : lv_has ls 4 [(0, .ref (a 5)), (1, .int p1)] := hl
  have b4 : ∀ (n : Nat), ∀ (x2 : Int32) (x3 : Int32) (H : Heap) (locs : List Loc) (ls : Array Slot), x_Moment_heartsOn_b4 p1 h n x2 x3 = some r0 → va_P E.1 xcl (xV E a u v (a 6) h) H → va_S (xA a 38 s.heap.size) s.heap H locs → lv_has ls 4 [(0, .ref (a 5)), (1, .int p1), (2, .int x2), (3, .int x3)] → W p l e rm_x_Moment_heartsOn s m args below meth c H locs 0 0 Q (F0 m 4 ls []) := by
    intro n
    induction n with
    | zero => intro x2 x3 H locs ls hlit hP hS hl; exact nnF hlit
    | succ n ih =>
      intro x2 x3 H locs ls hlit hP hS hl
      refine lv_iload_n hx hb d_Moment_heartsOn_4 rfl (lv_at hl 3 rfl) ?_
      refine lv_aload_n hx hb d_Moment_heartsOn_5 rfl (lv_at hl 0 rfl) ?_
      refine xg_Moment_0 hx hb hts hown hK hP q182 d_Moment_heartsOn_6 ?_
      refine xg_Menu_1 hx hb hts hown hK hP rfl q151 d_Moment_heartsOn_9 ?_
      refine lv_icmp_ge (tgt := 41) hx hb d_Moment_heartsOn_12 (by decide) (fun c12 => ?_) (fun c12 => ?_)
      · have hlit := brP _ hlit c12
        refine lv_iload_n hx hb d_Moment_heartsOn_41 rfl (lv_at hl 2 rfl) ?_
        cases hlit
        exact ret 0 _ _ _ _ trivial hP hS rfl d_Moment_heartsOn_42
      · have hlit := brN _ hlit c12
        refine lv_aload_n hx hb d_Moment_heartsOn_15 rfl (lv_at hl 0 rfl) ?_
        refine lv_aload_n hx hb d_Moment_heartsOn_16 rfl (lv_at hl 0 rfl) ?_
        refine xg_Moment_0 hx hb hts hown hK hP q182 d_Moment_heartsOn_17 ?_
        refine lv_iload_n hx hb d_Moment_heartsOn_20 rfl (lv_at hl 3 rfl) ?_
        obtain ⟨r21, hl21, hlit⟩ := bindS hlit
        refine fCallI (fRunV (As := [.int x3]) (rest := [.ref (a 5)]) (q0 := 6) (ci := 1) hx hb hml hown hts hK hN hP (cx_Menu_kindOf l E a ha u v (a 6) h _ 6 rfl x3 (r0 := r21) hl21) q362 q336 q337 q55 q338 hd_x_Menu_kindOf rfl rfl ⟨Nat.le_of_ble_eq_true rfl, Nat.le_of_ble_eq_true rfl⟩ (xeU rfl) rfl rfl rfl hl.1 rfl (Nat.le_of_ble_eq_true rfl) d_Moment_heartsOn_21 ⟨Nat.zero_le _, Nat.zero_le _⟩) hS (xA_up hS.1) (fun _ H locs hu21 hP hS _ _ => ?_)
        have hP : va_P E.1 xcl (xV E a u v (a 6) h) H := hP
        refine lv_iload_n hx hb d_Moment_heartsOn_24 rfl (lv_at hl 3 rfl) ?_
        refine lv_iload_n hx hb d_Moment_heartsOn_25 rfl (lv_at hl 1 rfl) ?_
        obtain ⟨r26, hl26, hlit⟩ := bindS hlit
        refine fCallI (fRunV (As := [.int r21, .int x3, .int p1]) (rest := []) (q0 := 5) (ci := 2) hx hb hml hown hts hK hN hP (cx_Moment_gives l E a ha u v h _ r21 x3 p1 (r0 := r26) hl26) q363 q364 q365 q56 q366 hd_x_Moment_gives rfl rfl ⟨Nat.le_of_ble_eq_true rfl, Nat.le_of_ble_eq_true rfl⟩ xe_5 rfl rfl rfl hl.1 rfl (Nat.le_of_ble_eq_true rfl) d_Moment_heartsOn_26 ⟨Nat.zero_le _, Nat.zero_le _⟩) hS (xA_up hS.1) (fun _ H locs hu26 hP hS _ _ => ?_)
        have hP : va_P E.1 xcl (xV E a u v (a 6) h) H := hP
        refine lv_if_eq (tgt := 35) hx hb d_Moment_heartsOn_29 (by decide) (fun c29 => ?_) (fun c29 => ?_)
        · have hlit := brP _ hlit c29
          refine lv_iinc (v := (x3 + (1 : Int32))) (lv' := [(3, .int (x3 + (1 : Int32))), (0, .ref (a 5)), (1, .int p1), (2, .int x2)]) hx hb d_Moment_heartsOn_35 hl (k := 3) rfl rfl (by decide) rfl (fun ls hl => ?_)
          refine lv_goto (tgt := 4) hx hb d_Moment_heartsOn_38 (by decide) ?_
          exact ih x2 (x3 + (1 : Int32)) _ _ _ hlit hP hS (lv_sub hl [1, 2, 3, 0] rfl)
        · have hlit := brN _ hlit c29
          refine lv_iinc (v := (x2 + (1 : Int32))) (lv' := [(2, .int (x2 + (1 : Int32))), (0, .ref (a 5)), (1, .int p1), (3, .int x3)]) hx hb d_Moment_heartsOn_32 hl (k := 2) rfl rfl (by decide) rfl (fun ls hl => ?_)
          refine lv_iinc (v := (x3 + (1 : Int32))) (lv' := [(3, .int (x3 + (1 : Int32))), (2, .int (x2 + (1 : Int32))), (0, .ref (a 5)), (1, .int p1)]) hx hb d_Moment_heartsOn_35 hl (k := 3) rfl rfl (by decide) rfl (fun ls hl => ?_)
          refine lv_goto (tgt := 4) hx hb d_Moment_heartsOn_38 (by decide) ?_
          exact ih (x2 + (1 : Int32)) (x3 + (1 : Int32)) _ _ _ hlit hP hS (lv_sub hl [2, 3, 1, 0] rfl)
  refine lv_iconst (v := (0 : Int32)) hx hb d_Moment_heartsOn_0 (by decide) ?_
  refine lv_istore_n (lv' := [(2, .int (0 : Int32)), (0, .ref (a 5)), (1, .int p1)]) hx hb d_Moment_heartsOn_1 rfl hl (by decide) rfl (fun ls hl => ?_)
  refine lv_iconst (v := (0 : Int32)) hx hb d_Moment_heartsOn_2 (by decide) ?_
  refine lv_istore_n (lv' := [(3, .int (0 : Int32)), (2, .int (0 : Int32)), (0, .ref (a 5)), (1, .int p1)]) hx hb d_Moment_heartsOn_3 rfl hl (by decide) rfl (fun ls hl => ?_)
  exact b4 FU (0 : Int32) (0 : Int32) _ _ _ hlit hP hS (lv_sub hl [2, 3, 1, 0] rfl)

abbrev rm_x_Moment_mostDish : Room := { frames := 4, cells := 0, slots := 0, locals := 90 }
theorem hd_x_Moment_mostDish : y_Moment_mostDish.cls ≠ "java/lang/invoke/MethodHandle" ∧ y_Moment_mostDish.cls ≠ "java/lang/invoke/VarHandle" ∧ (parseMethodDescriptor y_Moment_mostDish.desc).map (fun d => d.parameters.length) = some 1 := by decide +kernel
set_option maxHeartbeats 4000000 in
set_option maxRecDepth 100000 in
theorem cx_Moment_mostDish (l : Launch) (E : xE) (a : Nat → Nat) (ha : xInj a 38) (u v : Nat) (h : Hp) (sz : Nat) (p1 : Int32) {r0 : Int32} (hlit : x_Moment_mostDish p1 h = some r0) : Met l y_Moment_mostDish (Cond.code y_Moment_mostDish b_Moment_mostDish 4 (some .int) :: TB) rm_x_Moment_mostDish (fPc [.ref (a 5), .int p1] E.1 (xtys E) sz (xV E a u v (a 6) h)) (fQi (fun _ : Nat => True) r0 E.1 (fun (_ : Nat) => xV E a u v (a 6) h) (xA a 38 sz)) 0 0 (xA a 38 sz) := by
  refine fl_startI (by decide) (Nat.le_of_ble_eq_true rfl) ?_
  intro p e s m args below meth c Q hx hb hml hown hts hsz hP hK hN ret ls hl
  subst hsz
  have hA : ∀ k, k < 38 → (xA a 38 s.heap.size) (a k) := xA_in
  have hS : va_S (xA a 38 s.heap.size) s.heap s.heap [] := va_S.rf
  have hl : lv_has ls 4 [(0, .ref (a 5)), (1, .int p1)] := hl
  have b4 : ∀ (n : Nat), ∀ (x2 : Int32) (x3 : Int32) (H : Heap) (locs : List Loc) (ls : Array Slot), x_Moment_mostDish_b4 p1 h n x2 x3 = some r0 → va_P E.1 xcl (xV E a u v (a 6) h) H → va_S (xA a 38 s.heap.size) s.heap H locs → lv_has ls 4 [(0, .ref (a 5)), (1, .int p1), (2, .int x2), (3, .int x3)] → W p l e rm_x_Moment_mostDish s m args below meth c H locs 0 0 Q (F0 m 4 ls []) := by
    intro n
    induction n with
    | zero => intro x2 x3 H locs ls hlit hP hS hl; exact nnF hlit
    | succ n ih =>
      intro x2 x3 H locs ls hlit hP hS hl
      refine lv_iload_n hx hb d_Moment_mostDish_4 rfl (lv_at hl 3 rfl) ?_
      refine lv_aload_n hx hb d_Moment_mostDish_5 rfl (lv_at hl 0 rfl) ?_
      refine xg_Moment_0 hx hb hts hown hK hP q182 d_Moment_mostDish_6 ?_
      refine xg_Menu_0 hx hb hts hown hK hP rfl q148 d_Moment_mostDish_9 ?_
      refine lv_icmp_ge (tgt := 57) hx hb d_Moment_mostDish_12 (by decide) (fun c12 => ?_) (fun c12 => ?_)
      · have hlit := brP _ hlit c12
        refine lv_iload_n hx hb d_Moment_mostDish_57 rfl (lv_at hl 2 rfl) ?_
        cases hlit
        exact ret 0 _ _ _ _ trivial hP hS rfl d_Moment_mostDish_58
      · have hlit := brN _ hlit c12
        refine lv_aload_n hx hb d_Moment_mostDish_15 rfl (lv_at hl 0 rfl) ?_
        refine xg_Moment_2 hx hb hts hown hK hP q186 d_Moment_mostDish_16 ?_
        refine lv_iload_n hx hb d_Moment_mostDish_19 rfl (lv_at hl 3 rfl) ?_
        obtain ⟨r20, hl20, hlit⟩ := bindS hlit
        refine fCallI (fRunS (As := [.int (h 5 2), .int x3]) (rest := []) hx hb hml hown hts hK hN hP (cx_Moment_isIn l E a ha u v h _ (h 5 2) x3 (r0 := r20) hl20) q367 q368 q56 q369 hd_x_Moment_isIn rfl rfl ⟨Nat.le_of_ble_eq_true rfl, Nat.le_of_ble_eq_true rfl⟩ rfl hl.1 rfl (Nat.le_of_ble_eq_true rfl) d_Moment_mostDish_20 ⟨Nat.zero_le _, Nat.zero_le _⟩) hS (xA_up hS.1) (fun _ H locs hu20 hP hS _ _ => ?_)
        have hP : va_P E.1 xcl (xV E a u v (a 6) h) H := hP
        refine lv_if_ne (tgt := 29) hx hb d_Moment_mostDish_23 (by decide) (fun c23 => ?_) (fun c23 => ?_)
        · have hlit := brN _ hlit c23
          refine lv_iload_n hx hb d_Moment_mostDish_29 rfl (lv_at hl 2 rfl) ?_
          refine lv_iconst (v := (-1 : Int32)) hx hb d_Moment_mostDish_30 (by decide) ?_
          refine lv_icmp_eq (tgt := 49) hx hb d_Moment_mostDish_31 (by decide) (fun c31 => ?_) (fun c31 => ?_)
          · have hlit := brP _ hlit c31
            refine lv_iload_n hx hb d_Moment_mostDish_49 rfl (lv_at hl 3 rfl) ?_
            refine lv_istore_n (lv' := [(2, .int x3), (0, .ref (a 5)), (1, .int p1), (3, .int x3)]) hx hb d_Moment_mostDish_50 rfl hl (by decide) rfl (fun ls hl => ?_)
            refine lv_iinc (v := (x3 + (1 : Int32))) (lv' := [(3, .int (x3 + (1 : Int32))), (2, .int x3), (0, .ref (a 5)), (1, .int p1)]) hx hb d_Moment_mostDish_51 hl (k := 3) rfl rfl (by decide) rfl (fun ls hl => ?_)
            refine lv_goto (tgt := 4) hx hb d_Moment_mostDish_54 (by decide) ?_
            exact ih x3 (x3 + (1 : Int32)) _ _ _ hlit hP hS (lv_sub hl [2, 3, 1, 0] rfl)
          · have hlit := brN _ hlit c31
            refine lv_aload_n hx hb d_Moment_mostDish_34 rfl (lv_at hl 0 rfl) ?_
            refine lv_iload_n hx hb d_Moment_mostDish_35 rfl (lv_at hl 3 rfl) ?_
            refine lv_iload_n hx hb d_Moment_mostDish_36 rfl (lv_at hl 1 rfl) ?_
            obtain ⟨r37, hl37, hlit⟩ := bindS hlit
            refine fCallI (fRunV (As := [.int x3, .int p1]) (rest := []) (q0 := 5) (ci := 2) hx hb hml hown hts hK hN hP (cx_Moment_together l E a ha u v h _ x3 p1 (r0 := r37) hl37) q481 q406 q407 q56 q408 hd_x_Moment_together rfl rfl ⟨Nat.le_of_ble_eq_true rfl, Nat.le_of_ble_eq_true rfl⟩ xe_5 rfl rfl rfl hl.1 rfl (Nat.le_of_ble_eq_true rfl) d_Moment_mostDish_37 ⟨Nat.zero_le _, Nat.zero_le _⟩) hS (xA_up hS.1) (fun _ H locs hu37 hP hS _ _ => ?_)
            have hP : va_P E.1 xcl (xV E a u v (a 6) h) H := hP
            refine lv_aload_n hx hb d_Moment_mostDish_40 rfl (lv_at hl 0 rfl) ?_
            refine lv_iload_n hx hb d_Moment_mostDish_41 rfl (lv_at hl 2 rfl) ?_
            refine lv_iload_n hx hb d_Moment_mostDish_42 rfl (lv_at hl 1 rfl) ?_
            obtain ⟨r43, hl43, hlit⟩ := bindS hlit
            refine fCallI (fRunV (As := [.int x2, .int p1]) (rest := [.int r37]) (q0 := 5) (ci := 2) hx hb hml hown hts hK hN hP (cx_Moment_together l E a ha u v h _ x2 p1 (r0 := r43) hl43) q481 q406 q407 q56 q408 hd_x_Moment_together rfl rfl ⟨Nat.le_of_ble_eq_true rfl, Nat.le_of_ble_eq_true rfl⟩ xe_5 rfl rfl rfl hl.1 rfl (Nat.le_of_ble_eq_true rfl) d_Moment_mostDish_43 ⟨Nat.zero_le _, Nat.zero_le _⟩) hS (xA_up hS.1) (fun _ H locs hu43 hP hS _ _ => ?_)
            have hP : va_P E.1 xcl (xV E a u v (a 6) h) H := hP
            refine lv_icmp_le (tgt := 51) hx hb d_Moment_mostDish_46 (by decide) (fun c46 => ?_) (fun c46 => ?_)
            · have hlit := brP _ hlit c46
              refine lv_iinc (v := (x3 + (1 : Int32))) (lv' := [(3, .int (x3 + (1 : Int32))), (0, .ref (a 5)), (1, .int p1), (2, .int x2)]) hx hb d_Moment_mostDish_51 hl (k := 3) rfl rfl (by decide) rfl (fun ls hl => ?_)
              refine lv_goto (tgt := 4) hx hb d_Moment_mostDish_54 (by decide) ?_
              exact ih x2 (x3 + (1 : Int32)) _ _ _ hlit hP hS (lv_sub hl [1, 2, 3, 0] rfl)
            · have hlit := brN _ hlit c46
              refine lv_iload_n hx hb d_Moment_mostDish_49 rfl (lv_at hl 3 rfl) ?_
              refine lv_istore_n (lv' := [(2, .int x3), (0, .ref (a 5)), (1, .int p1), (3, .int x3)]) hx hb d_Moment_mostDish_50 rfl hl (by decide) rfl (fun ls hl => ?_)
              refine lv_iinc (v := (x3 + (1 : Int32))) (lv' := [(3, .int (x3 + (1 : Int32))), (2, .int x3), (0, .ref (a 5)), (1, .int p1)]) hx hb d_Moment_mostDish_51 hl (k := 3) rfl rfl (by decide) rfl (fun ls hl => ?_)
              refine lv_goto (tgt := 4) hx hb d_Moment_mostDish_54 (by decide) ?_
              exact ih x3 (x3 + (1 : Int32)) _ _ _ hlit hP hS (lv_sub hl [2, 3, 1, 0] rfl)
        · have hlit := brP _ hlit c23
          refine lv_goto (tgt := 51) hx hb d_Moment_mostDish_26 (by decide) ?_
          refine lv_iinc (v := (x3 + (1 : Int32))) (lv' := [(3, .int (x3 + (1 : Int32))), (0, .ref (a 5)), (1, .int p1), (2, .int x2)]) hx hb d_Moment_mostDish_51 hl (k := 3) rfl rfl (by decide) rfl (fun ls hl => ?_)
          refine lv_goto (tgt := 4) hx hb d_Moment_mostDish_54 (by decide) ?_
          exact ih x2 (x3 + (1 : Int32)) _ _ _ hlit hP hS (lv_sub hl [1, 2, 3, 0] rfl)
  refine lv_iconst (v := (-1 : Int32)) hx hb d_Moment_mostDish_0 (by decide) ?_
  refine lv_istore_n (lv' := [(2, .int (-1 : Int32)), (0, .ref (a 5)), (1, .int p1)]) hx hb d_Moment_mostDish_1 rfl hl (by decide) rfl (fun ls hl => ?_)
  refine lv_iconst (v := (0 : Int32)) hx hb d_Moment_mostDish_2 (by decide) ?_
  refine lv_istore_n (lv' := [(3, .int (0 : Int32)), (2, .int (-1 : Int32)), (0, .ref (a 5)), (1, .int p1)]) hx hb d_Moment_mostDish_3 rfl hl (by decide) rfl (fun ls hl => ?_)
  exact b4 FU (-1 : Int32) (0 : Int32) _ _ _ hlit hP hS (lv_sub hl [2, 3, 1, 0] rfl)

abbrev rm_x_Moment_fairRank : Room := { frames := 4, cells := 0, slots := 0, locals := 90 }
theorem hd_x_Moment_fairRank : y_Moment_fairRank.cls ≠ "java/lang/invoke/MethodHandle" ∧ y_Moment_fairRank.cls ≠ "java/lang/invoke/VarHandle" ∧ (parseMethodDescriptor y_Moment_fairRank.desc).map (fun d => d.parameters.length) = some 1 := by decide +kernel
set_option maxHeartbeats 4000000 in
set_option maxRecDepth 100000 in
theorem cx_Moment_fairRank (l : Launch) (E : xE) (a : Nat → Nat) (ha : xInj a 38) (u v : Nat) (h : Hp) (sz : Nat) (p1 : Int32) {r0 : Int32} (hlit : x_Moment_fairRank p1 h = some r0) : Met l y_Moment_fairRank (Cond.code y_Moment_fairRank b_Moment_fairRank 2 (some .int) :: TB) rm_x_Moment_fairRank (fPc [.ref (a 5), .int p1] E.1 (xtys E) sz (xV E a u v (a 6) h)) (fQi (fun _ : Nat => True) r0 E.1 (fun (_ : Nat) => xV E a u v (a 6) h) (xA a 38 sz)) 0 0 (xA a 38 sz) := by
  refine fl_startI (by decide) (Nat.le_of_ble_eq_true rfl) ?_
  intro p e s m args below meth c Q hx hb hml hown hts hsz hP hK hN ret ls hl
  subst hsz
  have hA : ∀ k, k < 38 → (xA a 38 s.heap.size) (a k) := xA_in
  have hS : va_S (xA a 38 s.heap.size) s.heap s.heap [] := va_S.rf
  have hl : lv_has ls 2 [(0, .ref (a 5)), (1, .int p1)] := hl
  refine lv_bipush (v := (100 : Int32)) hx hb d_Moment_fairRank_0 (by decide) ?_
  refine lv_aload_n hx hb d_Moment_fairRank_2 rfl (lv_at hl 0 rfl) ?_
  refine lv_iload_n hx hb d_Moment_fairRank_3 rfl (lv_at hl 1 rfl) ?_
  obtain ⟨r4, hl4, hlit⟩ := bindS hlit
  refine fCallI (fRunV (As := [.int p1]) (rest := [.int (100 : Int32)]) (q0 := 5) (ci := 2) hx hb hml hown hts hK hN hP (cx_Moment_leastWorth l E a ha u v h _ p1 (r0 := r4) hl4) q493 q494 q495 q56 q496 hd_x_Moment_leastWorth rfl rfl ⟨Nat.le_of_ble_eq_true rfl, Nat.le_of_ble_eq_true rfl⟩ xe_5 rfl rfl rfl hl.1 rfl (Nat.le_of_ble_eq_true rfl) d_Moment_fairRank_4 ⟨Nat.zero_le _, Nat.zero_le _⟩) hS (xA_up hS.1) (fun _ H locs hu4 hP hS _ _ => ?_)
  have hP : va_P E.1 xcl (xV E a u v (a 6) h) H := hP
  refine lv_imul hx hb d_Moment_fairRank_7 ?_
  refine lv_aload_n hx hb d_Moment_fairRank_8 rfl (lv_at hl 0 rfl) ?_
  refine lv_iload_n hx hb d_Moment_fairRank_9 rfl (lv_at hl 1 rfl) ?_
  refine lv_iconst (v := (-1 : Int32)) hx hb d_Moment_fairRank_10 (by decide) ?_
  obtain ⟨r11, hl11, hlit⟩ := bindS hlit
  refine fCallI (fRunV (As := [.int p1, .int (-1 : Int32)]) (rest := [.int ((100 : Int32) * r4)]) (q0 := 5) (ci := 2) hx hb hml hown hts hK hN hP (cx_Moment_together l E a ha u v h _ p1 (-1 : Int32) (r0 := r11) hl11) q481 q406 q407 q56 q408 hd_x_Moment_together rfl rfl ⟨Nat.le_of_ble_eq_true rfl, Nat.le_of_ble_eq_true rfl⟩ xe_5 rfl rfl rfl hl.1 rfl (Nat.le_of_ble_eq_true rfl) d_Moment_fairRank_11 ⟨Nat.zero_le _, Nat.zero_le _⟩) hS (xA_up hS.1) (fun _ H locs hu11 hP hS _ _ => ?_)
  have hP : va_P E.1 xcl (xV E a u v (a 6) h) H := hP
  refine lv_iadd hx hb d_Moment_fairRank_14 ?_
  cases hlit
  exact ret 0 _ _ _ _ trivial hP hS rfl d_Moment_fairRank_15

abbrev rm_x_Moment_fairDish : Room := { frames := 5, cells := 0, slots := 0, locals := 111 }
theorem hd_x_Moment_fairDish : y_Moment_fairDish.cls ≠ "java/lang/invoke/MethodHandle" ∧ y_Moment_fairDish.cls ≠ "java/lang/invoke/VarHandle" ∧ (parseMethodDescriptor y_Moment_fairDish.desc).map (fun d => d.parameters.length) = some 0 := by decide +kernel
set_option maxHeartbeats 4000000 in
set_option maxRecDepth 100000 in
theorem cx_Moment_fairDish (l : Launch) (E : xE) (a : Nat → Nat) (ha : xInj a 38) (u v : Nat) (h : Hp) (sz : Nat) {r0 : Int32} (hlit : x_Moment_fairDish h = some r0) : Met l y_Moment_fairDish (Cond.code y_Moment_fairDish b_Moment_fairDish 4 (some .int) :: TB) rm_x_Moment_fairDish (fPc [.ref (a 5)] E.1 (xtys E) sz (xV E a u v (a 6) h)) (fQi (fun _ : Nat => True) r0 E.1 (fun (_ : Nat) => xV E a u v (a 6) h) (xA a 38 sz)) 0 0 (xA a 38 sz) := by
  refine fl_startI (by decide) (Nat.le_of_ble_eq_true rfl) ?_
  intro p e s m args below meth c Q hx hb hml hown hts hsz hP hK hN ret ls hl
  subst hsz
  have hA : ∀ k, k < 38 → (xA a 38 s.heap.size) (a k) := xA_in
  have hS : va_S (xA a 38 s.heap.size) s.heap s.heap [] := va_S.rf
  have hl : lv_has ls 4 [(0, .ref (a 5))] := hl
  have b6 : ∀ (n : Nat), ∀ (x1 : Int32) (x2 : Int32) (x3 : Int32) (H : Heap) (locs : List Loc) (ls : Array Slot), x_Moment_fairDish_b6 h n x1 x2 x3 = some r0 → va_P E.1 xcl (xV E a u v (a 6) h) H → va_S (xA a 38 s.heap.size) s.heap H locs → lv_has ls 4 [(0, .ref (a 5)), (1, .int x1), (2, .int x2), (3, .int x3)] → W p l e rm_x_Moment_fairDish s m args below meth c H locs 0 0 Q (F0 m 6 ls []) := by
    intro n
    induction n with
    | zero => intro x1 x2 x3 H locs ls hlit hP hS hl; exact nnF hlit
    | succ n ih =>
      intro x1 x2 x3 H locs ls hlit hP hS hl
      refine lv_iload_n hx hb d_Moment_fairDish_6 rfl (lv_at hl 3 rfl) ?_
      refine lv_aload_n hx hb d_Moment_fairDish_7 rfl (lv_at hl 0 rfl) ?_
      refine xg_Moment_0 hx hb hts hown hK hP q182 d_Moment_fairDish_8 ?_
      refine xg_Menu_0 hx hb hts hown hK hP rfl q148 d_Moment_fairDish_11 ?_
      refine lv_icmp_ge (tgt := 54) hx hb d_Moment_fairDish_14 (by decide) (fun c14 => ?_) (fun c14 => ?_)
      · have hlit := brP _ hlit c14
        refine lv_iload_n hx hb d_Moment_fairDish_54 rfl (lv_at hl 1 rfl) ?_
        cases hlit
        exact ret 0 _ _ _ _ trivial hP hS rfl d_Moment_fairDish_55
      · have hlit := brN _ hlit c14
        refine lv_aload_n hx hb d_Moment_fairDish_17 rfl (lv_at hl 0 rfl) ?_
        refine xg_Moment_2 hx hb hts hown hK hP q186 d_Moment_fairDish_18 ?_
        refine lv_iload_n hx hb d_Moment_fairDish_21 rfl (lv_at hl 3 rfl) ?_
        obtain ⟨r22, hl22, hlit⟩ := bindS hlit
        refine fCallI (fRunS (As := [.int (h 5 2), .int x3]) (rest := []) hx hb hml hown hts hK hN hP (cx_Moment_isIn l E a ha u v h _ (h 5 2) x3 (r0 := r22) hl22) q367 q368 q56 q369 hd_x_Moment_isIn rfl rfl ⟨Nat.le_of_ble_eq_true rfl, Nat.le_of_ble_eq_true rfl⟩ rfl hl.1 rfl (Nat.le_of_ble_eq_true rfl) d_Moment_fairDish_22 ⟨Nat.zero_le _, Nat.zero_le _⟩) hS (xA_up hS.1) (fun _ H locs hu22 hP hS _ _ => ?_)
        have hP : va_P E.1 xcl (xV E a u v (a 6) h) H := hP
        refine lv_if_eq (tgt := 48) hx hb d_Moment_fairDish_25 (by decide) (fun c25 => ?_) (fun c25 => ?_)
        · have hlit := brP _ hlit c25
          refine lv_iinc (v := (x3 + (1 : Int32))) (lv' := [(3, .int (x3 + (1 : Int32))), (0, .ref (a 5)), (1, .int x1), (2, .int x2)]) hx hb d_Moment_fairDish_48 hl (k := 3) rfl rfl (by decide) rfl (fun ls hl => ?_)
          refine lv_goto (tgt := 6) hx hb d_Moment_fairDish_51 (by decide) ?_
          exact ih x1 x2 (x3 + (1 : Int32)) _ _ _ hlit hP hS (lv_sub hl [1, 2, 3, 0] rfl)
        · have hlit := brN _ hlit c25
          refine lv_aload_n hx hb d_Moment_fairDish_28 rfl (lv_at hl 0 rfl) ?_
          refine lv_iload_n hx hb d_Moment_fairDish_29 rfl (lv_at hl 3 rfl) ?_
          obtain ⟨r30, hl30, hlit⟩ := bindS hlit
          refine fCallI (fRunV (As := [.int x3]) (rest := []) (q0 := 5) (ci := 2) hx hb hml hown hts hK hN hP (cx_Moment_fairRank l E a ha u v h _ x3 (r0 := r30) hl30) q490 q491 q17 q56 q492 hd_x_Moment_fairRank rfl rfl ⟨Nat.le_of_ble_eq_true rfl, Nat.le_of_ble_eq_true rfl⟩ xe_5 rfl rfl rfl hl.1 rfl (Nat.le_of_ble_eq_true rfl) d_Moment_fairDish_30 ⟨Nat.zero_le _, Nat.zero_le _⟩) hS (xA_up hS.1) (fun _ H locs hu30 hP hS _ _ => ?_)
          have hP : va_P E.1 xcl (xV E a u v (a 6) h) H := hP
          refine lv_iload_n hx hb d_Moment_fairDish_33 rfl (lv_at hl 2 rfl) ?_
          refine lv_icmp_gt (tgt := 40) hx hb d_Moment_fairDish_34 (by decide) (fun c34 => ?_) (fun c34 => ?_)
          · have hlit := brP _ hlit c34
            refine lv_iload_n hx hb d_Moment_fairDish_40 rfl (lv_at hl 3 rfl) ?_
            refine lv_istore_n (lv' := [(1, .int x3), (0, .ref (a 5)), (2, .int x2), (3, .int x3)]) hx hb d_Moment_fairDish_41 rfl hl (by decide) rfl (fun ls hl => ?_)
            refine lv_aload_n hx hb d_Moment_fairDish_42 rfl (lv_at hl 1 rfl) ?_
            refine lv_iload_n hx hb d_Moment_fairDish_43 rfl (lv_at hl 3 rfl) ?_
            obtain ⟨r44, hl44, hlit⟩ := bindS hlit
            refine fCallI (fRunV (As := [.int x3]) (rest := []) (q0 := 5) (ci := 2) hx hb hml hown hts hK hN hP (cx_Moment_fairRank l E a ha u v h _ x3 (r0 := r44) hl44) q490 q491 q17 q56 q492 hd_x_Moment_fairRank rfl rfl ⟨Nat.le_of_ble_eq_true rfl, Nat.le_of_ble_eq_true rfl⟩ xe_5 rfl rfl rfl hl.1 rfl (Nat.le_of_ble_eq_true rfl) d_Moment_fairDish_44 ⟨Nat.zero_le _, Nat.zero_le _⟩) hS (xA_up hS.1) (fun _ H locs hu44 hP hS _ _ => ?_)
            have hP : va_P E.1 xcl (xV E a u v (a 6) h) H := hP
            refine lv_istore_n (lv' := [(2, .int r44), (1, .int x3), (0, .ref (a 5)), (3, .int x3)]) hx hb d_Moment_fairDish_47 rfl hl (by decide) rfl (fun ls hl => ?_)
            refine lv_iinc (v := (x3 + (1 : Int32))) (lv' := [(3, .int (x3 + (1 : Int32))), (2, .int r44), (1, .int x3), (0, .ref (a 5))]) hx hb d_Moment_fairDish_48 hl (k := 3) rfl rfl (by decide) rfl (fun ls hl => ?_)
            refine lv_goto (tgt := 6) hx hb d_Moment_fairDish_51 (by decide) ?_
            exact ih x3 r44 (x3 + (1 : Int32)) _ _ _ hlit hP hS (lv_sub hl [3, 2, 1, 0] rfl)
          · have hlit := brN _ hlit c34
            refine lv_goto (tgt := 48) hx hb d_Moment_fairDish_37 (by decide) ?_
            refine lv_iinc (v := (x3 + (1 : Int32))) (lv' := [(3, .int (x3 + (1 : Int32))), (0, .ref (a 5)), (1, .int x1), (2, .int x2)]) hx hb d_Moment_fairDish_48 hl (k := 3) rfl rfl (by decide) rfl (fun ls hl => ?_)
            refine lv_goto (tgt := 6) hx hb d_Moment_fairDish_51 (by decide) ?_
            exact ih x1 x2 (x3 + (1 : Int32)) _ _ _ hlit hP hS (lv_sub hl [1, 2, 3, 0] rfl)
  refine lv_iconst (v := (-1 : Int32)) hx hb d_Moment_fairDish_0 (by decide) ?_
  refine lv_istore_n (lv' := [(1, .int (-1 : Int32)), (0, .ref (a 5))]) hx hb d_Moment_fairDish_1 rfl hl (by decide) rfl (fun ls hl => ?_)
  refine lv_iconst (v := (-1 : Int32)) hx hb d_Moment_fairDish_2 (by decide) ?_
  refine lv_istore_n (lv' := [(2, .int (-1 : Int32)), (1, .int (-1 : Int32)), (0, .ref (a 5))]) hx hb d_Moment_fairDish_3 rfl hl (by decide) rfl (fun ls hl => ?_)
  refine lv_iconst (v := (0 : Int32)) hx hb d_Moment_fairDish_4 (by decide) ?_
  refine lv_istore_n (lv' := [(3, .int (0 : Int32)), (2, .int (-1 : Int32)), (1, .int (-1 : Int32)), (0, .ref (a 5))]) hx hb d_Moment_fairDish_5 rfl hl (by decide) rfl (fun ls hl => ?_)
  exact b6 FU (-1 : Int32) (-1 : Int32) (0 : Int32) _ _ _ hlit hP hS (lv_sub hl [3, 2, 1, 0] rfl)

abbrev rm_x_Moment_lead : Room := { frames := 3, cells := 0, slots := 0, locals := 66 }
theorem hd_x_Moment_lead : y_Moment_lead.cls ≠ "java/lang/invoke/MethodHandle" ∧ y_Moment_lead.cls ≠ "java/lang/invoke/VarHandle" ∧ (parseMethodDescriptor y_Moment_lead.desc).map (fun d => d.parameters.length) = some 2 := by decide +kernel
set_option maxHeartbeats 4000000 in
set_option maxRecDepth 100000 in
theorem cx_Moment_lead (l : Launch) (E : xE) (a : Nat → Nat) (ha : xInj a 38) (u v : Nat) (h : Hp) (sz : Nat) (p1 : Int32) (p2 : Int32) {r0 : Int32} (hlit : x_Moment_lead p1 p2 h = some r0) : Met l y_Moment_lead (Cond.code y_Moment_lead b_Moment_lead 5 (some .int) :: TB) rm_x_Moment_lead (fPc [.ref (a 5), .int p1, .int p2] E.1 (xtys E) sz (xV E a u v (a 6) h)) (fQi (fun _ : Nat => True) r0 E.1 (fun (_ : Nat) => xV E a u v (a 6) h) (xA a 38 sz)) 0 0 (xA a 38 sz) := by
  refine fl_startI (by decide) (Nat.le_of_ble_eq_true rfl) ?_
  intro p e s m args below meth c Q hx hb hml hown hts hsz hP hK hN ret ls hl
  subst hsz
  have hA : ∀ k, k < 38 → (xA a 38 s.heap.size) (a k) := xA_in
  have hS : va_S (xA a 38 s.heap.size) s.heap s.heap [] := va_S.rf
  have hl : lv_has ls 5 [(0, .ref (a 5)), (1, .int p1), (2, .int p2)] := hl
  have b5 : ∀ (n : Nat), ∀ (x3 : Int32) (x4 : Int32) (H : Heap) (locs : List Loc) (ls : Array Slot), x_Moment_lead_b5 p1 p2 h n x3 x4 = some r0 → va_P E.1 xcl (xV E a u v (a 6) h) H → va_S (xA a 38 s.heap.size) s.heap H locs → lv_has ls 5 [(0, .ref (a 5)), (1, .int p1), (2, .int p2), (3, .int x3), (4, .int x4)] → W p l e rm_x_Moment_lead s m args below meth c H locs 0 0 Q (F0 m 5 ls []) := by
    intro n
    induction n with
    | zero => intro x3 x4 H locs ls hlit hP hS hl; exact nnF hlit
    | succ n ih =>
      intro x3 x4 H locs ls hlit hP hS hl
      refine lv_iload hx hb d_Moment_lead_5 (lv_at hl 4 rfl) ?_
      refine lv_aload_n hx hb d_Moment_lead_7 rfl (lv_at hl 0 rfl) ?_
      refine xg_Moment_0 hx hb hts hown hK hP q182 d_Moment_lead_8 ?_
      refine xg_Menu_1 hx hb hts hown hK hP rfl q151 d_Moment_lead_11 ?_
      refine lv_icmp_ge (tgt := 43) hx hb d_Moment_lead_14 (by decide) (fun c14 => ?_) (fun c14 => ?_)
      · have hlit := brP _ hlit c14
        refine lv_iload_n hx hb d_Moment_lead_43 rfl (lv_at hl 3 rfl) ?_
        cases hlit
        exact ret 0 _ _ _ _ trivial hP hS rfl d_Moment_lead_44
      · have hlit := brN _ hlit c14
        refine lv_iload_n hx hb d_Moment_lead_17 rfl (lv_at hl 3 rfl) ?_
        refine lv_aload_n hx hb d_Moment_lead_18 rfl (lv_at hl 0 rfl) ?_
        refine lv_iload hx hb d_Moment_lead_19 (lv_at hl 4 rfl) ?_
        refine lv_iload_n hx hb d_Moment_lead_21 rfl (lv_at hl 1 rfl) ?_
        obtain ⟨r22, hl22, hlit⟩ := bindS hlit
        refine fCallI (fRunV (As := [.int x4, .int p1]) (rest := [.int x3]) (q0 := 5) (ci := 2) hx hb hml hown hts hK hN hP (cx_Moment_value l E a ha u v h _ x4 p1 (r0 := r22) hl22) q370 q371 q372 q56 q373 hd_x_Moment_value rfl rfl ⟨Nat.le_of_ble_eq_true rfl, Nat.le_of_ble_eq_true rfl⟩ xe_5 rfl rfl rfl hl.1 rfl (Nat.le_of_ble_eq_true rfl) d_Moment_lead_22 ⟨Nat.zero_le _, Nat.zero_le _⟩) hS (xA_up hS.1) (fun _ H locs hu22 hP hS _ _ => ?_)
        have hP : va_P E.1 xcl (xV E a u v (a 6) h) H := hP
        refine lv_aload_n hx hb d_Moment_lead_25 rfl (lv_at hl 0 rfl) ?_
        refine lv_iload hx hb d_Moment_lead_26 (lv_at hl 4 rfl) ?_
        refine lv_iload_n hx hb d_Moment_lead_28 rfl (lv_at hl 2 rfl) ?_
        obtain ⟨r29, hl29, hlit⟩ := bindS hlit
        refine fCallI (fRunV (As := [.int x4, .int p2]) (rest := [.int r22, .int x3]) (q0 := 5) (ci := 2) hx hb hml hown hts hK hN hP (cx_Moment_value l E a ha u v h _ x4 p2 (r0 := r29) hl29) q370 q371 q372 q56 q373 hd_x_Moment_value rfl rfl ⟨Nat.le_of_ble_eq_true rfl, Nat.le_of_ble_eq_true rfl⟩ xe_5 rfl rfl rfl hl.1 rfl (Nat.le_of_ble_eq_true rfl) d_Moment_lead_29 ⟨Nat.zero_le _, Nat.zero_le _⟩) hS (xA_up hS.1) (fun _ H locs hu29 hP hS _ _ => ?_)
        have hP : va_P E.1 xcl (xV E a u v (a 6) h) H := hP
        obtain ⟨r32, hl32, hlit⟩ := bindS hlit
        refine fCallI (fRunS (As := [.int r22, .int r29]) (rest := [.int x3]) hx hb hml hown hts hK hN hP (cx_Int_compare l E a ha u v (a 6) h _ r22 r29 (r0 := r32) hl32) q509 q510 q63 q511 hd_x_Int_compare rfl rfl ⟨Nat.le_of_ble_eq_true rfl, Nat.le_of_ble_eq_true rfl⟩ rfl hl.1 rfl (Nat.le_of_ble_eq_true rfl) d_Moment_lead_32 ⟨Nat.zero_le _, Nat.zero_le _⟩) hS (xA_up hS.1) (fun _ H locs hu32 hP hS _ _ => ?_)
        have hP : va_P E.1 xcl (xV E a u v (a 6) h) H := hP
        refine lv_iadd hx hb d_Moment_lead_35 ?_
        obtain ⟨y36, ey36, hlit⟩ := bindS hlit
        refine topn ey36 ?_
        refine lv_istore_n (lv' := [(3, .int y36), (0, .ref (a 5)), (1, .int p1), (2, .int p2), (4, .int x4)]) hx hb d_Moment_lead_36 rfl hl (by decide) rfl (fun ls hl => ?_)
        refine lv_iinc (v := (x4 + (1 : Int32))) (lv' := [(4, .int (x4 + (1 : Int32))), (3, .int y36), (0, .ref (a 5)), (1, .int p1), (2, .int p2)]) hx hb d_Moment_lead_37 hl (k := 4) rfl rfl (by decide) rfl (fun ls hl => ?_)
        refine lv_goto (tgt := 5) hx hb d_Moment_lead_40 (by decide) ?_
        exact ih y36 (x4 + (1 : Int32)) _ _ _ hlit hP hS (lv_sub hl [2, 3, 4, 1, 0] rfl)
  refine lv_iconst (v := (0 : Int32)) hx hb d_Moment_lead_0 (by decide) ?_
  refine lv_istore_n (lv' := [(3, .int (0 : Int32)), (0, .ref (a 5)), (1, .int p1), (2, .int p2)]) hx hb d_Moment_lead_1 rfl hl (by decide) rfl (fun ls hl => ?_)
  refine lv_iconst (v := (0 : Int32)) hx hb d_Moment_lead_2 (by decide) ?_
  refine lv_istore (lv' := [(4, .int (0 : Int32)), (3, .int (0 : Int32)), (0, .ref (a 5)), (1, .int p1), (2, .int p2)]) hx hb d_Moment_lead_3 hl (by decide) rfl (fun ls hl => ?_)
  exact b5 FU (0 : Int32) (0 : Int32) _ _ _ hlit hP hS (lv_sub hl [2, 3, 4, 1, 0] rfl)

abbrev rm_x_Moment_winsAgainstAll : Room := { frames := 4, cells := 0, slots := 0, locals := 90 }
theorem hd_x_Moment_winsAgainstAll : y_Moment_winsAgainstAll.cls ≠ "java/lang/invoke/MethodHandle" ∧ y_Moment_winsAgainstAll.cls ≠ "java/lang/invoke/VarHandle" ∧ (parseMethodDescriptor y_Moment_winsAgainstAll.desc).map (fun d => d.parameters.length) = some 1 := by decide +kernel
set_option maxHeartbeats 4000000 in
set_option maxRecDepth 100000 in
theorem cx_Moment_winsAgainstAll (l : Launch) (E : xE) (a : Nat → Nat) (ha : xInj a 38) (u v : Nat) (h : Hp) (sz : Nat) (p1 : Int32) {r0 : Int32} (hlit : x_Moment_winsAgainstAll p1 h = some r0) : Met l y_Moment_winsAgainstAll (Cond.code y_Moment_winsAgainstAll b_Moment_winsAgainstAll 3 (some .boolean) :: TB) rm_x_Moment_winsAgainstAll (fPc [.ref (a 5), .int p1] E.1 (xtys E) sz (xV E a u v (a 6) h)) (fQi (fun _ : Nat => True) r0 E.1 (fun (_ : Nat) => xV E a u v (a 6) h) (xA a 38 sz)) 0 0 (xA a 38 sz) := by
  refine fl_startI (by decide) (Nat.le_of_ble_eq_true rfl) ?_
  intro p e s m args below meth c Q hx hb hml hown hts hsz hP hK hN ret ls hl
  subst hsz
  have hA : ∀ k, k < 38 → (xA a 38 s.heap.size) (a k) := xA_in
  have hS : va_S (xA a 38 s.heap.size) s.heap s.heap [] := va_S.rf
  have hl : lv_has ls 3 [(0, .ref (a 5)), (1, .int p1)] := hl
  have b2 : ∀ (n : Nat), ∀ (x2 : Int32) (H : Heap) (locs : List Loc) (ls : Array Slot), x_Moment_winsAgainstAll_b2 p1 h n x2 = some r0 → va_P E.1 xcl (xV E a u v (a 6) h) H → va_S (xA a 38 s.heap.size) s.heap H locs → lv_has ls 3 [(0, .ref (a 5)), (1, .int p1), (2, .int x2)] → W p l e rm_x_Moment_winsAgainstAll s m args below meth c H locs 0 0 Q (F0 m 2 ls []) := by
    intro n
    induction n with
    | zero => intro x2 H locs ls hlit hP hS hl; exact nnF hlit
    | succ n ih =>
      intro x2 H locs ls hlit hP hS hl
      refine lv_iload_n hx hb d_Moment_winsAgainstAll_2 rfl (lv_at hl 2 rfl) ?_
      refine lv_aload_n hx hb d_Moment_winsAgainstAll_3 rfl (lv_at hl 0 rfl) ?_
      refine xg_Moment_0 hx hb hts hown hK hP q182 d_Moment_winsAgainstAll_4 ?_
      refine xg_Menu_0 hx hb hts hown hK hP rfl q148 d_Moment_winsAgainstAll_7 ?_
      refine lv_icmp_ge (tgt := 46) hx hb d_Moment_winsAgainstAll_10 (by decide) (fun c10 => ?_) (fun c10 => ?_)
      · have hlit := brP _ hlit c10
        refine lv_iconst (v := (1 : Int32)) hx hb d_Moment_winsAgainstAll_46 (by decide) ?_
        cases hlit
        exact ret 0 _ _ _ _ trivial hP hS rfl d_Moment_winsAgainstAll_47
      · have hlit := brN _ hlit c10
        refine lv_iload_n hx hb d_Moment_winsAgainstAll_13 rfl (lv_at hl 2 rfl) ?_
        refine lv_iload_n hx hb d_Moment_winsAgainstAll_14 rfl (lv_at hl 1 rfl) ?_
        refine lv_icmp_eq (tgt := 40) hx hb d_Moment_winsAgainstAll_15 (by decide) (fun c15 => ?_) (fun c15 => ?_)
        · have hlit := brP _ hlit c15
          refine lv_iinc (v := (x2 + (1 : Int32))) (lv' := [(2, .int (x2 + (1 : Int32))), (0, .ref (a 5)), (1, .int p1)]) hx hb d_Moment_winsAgainstAll_40 hl (k := 2) rfl rfl (by decide) rfl (fun ls hl => ?_)
          refine lv_goto (tgt := 2) hx hb d_Moment_winsAgainstAll_43 (by decide) ?_
          exact ih (x2 + (1 : Int32)) _ _ _ hlit hP hS (lv_sub hl [1, 2, 0] rfl)
        · have hlit := brN _ hlit c15
          refine lv_aload_n hx hb d_Moment_winsAgainstAll_18 rfl (lv_at hl 0 rfl) ?_
          refine xg_Moment_2 hx hb hts hown hK hP q186 d_Moment_winsAgainstAll_19 ?_
          refine lv_iload_n hx hb d_Moment_winsAgainstAll_22 rfl (lv_at hl 2 rfl) ?_
          obtain ⟨r23, hl23, hlit⟩ := bindS hlit
          refine fCallI (fRunS (As := [.int (h 5 2), .int x2]) (rest := []) hx hb hml hown hts hK hN hP (cx_Moment_isIn l E a ha u v h _ (h 5 2) x2 (r0 := r23) hl23) q367 q368 q56 q369 hd_x_Moment_isIn rfl rfl ⟨Nat.le_of_ble_eq_true rfl, Nat.le_of_ble_eq_true rfl⟩ rfl hl.1 rfl (Nat.le_of_ble_eq_true rfl) d_Moment_winsAgainstAll_23 ⟨Nat.zero_le _, Nat.zero_le _⟩) hS (xA_up hS.1) (fun _ H locs hu23 hP hS _ _ => ?_)
          have hP : va_P E.1 xcl (xV E a u v (a 6) h) H := hP
          refine lv_if_eq (tgt := 40) hx hb d_Moment_winsAgainstAll_26 (by decide) (fun c26 => ?_) (fun c26 => ?_)
          · have hlit := brP _ hlit c26
            refine lv_iinc (v := (x2 + (1 : Int32))) (lv' := [(2, .int (x2 + (1 : Int32))), (0, .ref (a 5)), (1, .int p1)]) hx hb d_Moment_winsAgainstAll_40 hl (k := 2) rfl rfl (by decide) rfl (fun ls hl => ?_)
            refine lv_goto (tgt := 2) hx hb d_Moment_winsAgainstAll_43 (by decide) ?_
            exact ih (x2 + (1 : Int32)) _ _ _ hlit hP hS (lv_sub hl [1, 2, 0] rfl)
          · have hlit := brN _ hlit c26
            refine lv_aload_n hx hb d_Moment_winsAgainstAll_29 rfl (lv_at hl 0 rfl) ?_
            refine lv_iload_n hx hb d_Moment_winsAgainstAll_30 rfl (lv_at hl 1 rfl) ?_
            refine lv_iload_n hx hb d_Moment_winsAgainstAll_31 rfl (lv_at hl 2 rfl) ?_
            obtain ⟨r32, hl32, hlit⟩ := bindS hlit
            refine fCallI (fRunV (As := [.int p1, .int x2]) (rest := []) (q0 := 5) (ci := 2) hx hb hml hown hts hK hN hP (cx_Moment_lead l E a ha u v h _ p1 x2 (r0 := r32) hl32) q523 q506 q507 q56 q508 hd_x_Moment_lead rfl rfl ⟨Nat.le_of_ble_eq_true rfl, Nat.le_of_ble_eq_true rfl⟩ xe_5 rfl rfl rfl hl.1 rfl (Nat.le_of_ble_eq_true rfl) d_Moment_winsAgainstAll_32 ⟨Nat.zero_le _, Nat.zero_le _⟩) hS (xA_up hS.1) (fun _ H locs hu32 hP hS _ _ => ?_)
            have hP : va_P E.1 xcl (xV E a u v (a 6) h) H := hP
            refine lv_if_gt (tgt := 40) hx hb d_Moment_winsAgainstAll_35 (by decide) (fun c35 => ?_) (fun c35 => ?_)
            · have hlit := brP _ hlit c35
              refine lv_iinc (v := (x2 + (1 : Int32))) (lv' := [(2, .int (x2 + (1 : Int32))), (0, .ref (a 5)), (1, .int p1)]) hx hb d_Moment_winsAgainstAll_40 hl (k := 2) rfl rfl (by decide) rfl (fun ls hl => ?_)
              refine lv_goto (tgt := 2) hx hb d_Moment_winsAgainstAll_43 (by decide) ?_
              exact ih (x2 + (1 : Int32)) _ _ _ hlit hP hS (lv_sub hl [1, 2, 0] rfl)
            · have hlit := brN _ hlit c35
              refine lv_iconst (v := (0 : Int32)) hx hb d_Moment_winsAgainstAll_38 (by decide) ?_
              cases hlit
              exact ret 0 _ _ _ _ trivial hP hS rfl d_Moment_winsAgainstAll_39
  refine lv_iconst (v := (0 : Int32)) hx hb d_Moment_winsAgainstAll_0 (by decide) ?_
  refine lv_istore_n (lv' := [(2, .int (0 : Int32)), (0, .ref (a 5)), (1, .int p1)]) hx hb d_Moment_winsAgainstAll_1 rfl hl (by decide) rfl (fun ls hl => ?_)
  exact b2 FU (0 : Int32) _ _ _ hlit hP hS (lv_sub hl [1, 2, 0] rfl)

abbrev rm_x_Moment_winner : Room := { frames := 5, cells := 0, slots := 0, locals := 112 }
theorem hd_x_Moment_winner : y_Moment_winner.cls ≠ "java/lang/invoke/MethodHandle" ∧ y_Moment_winner.cls ≠ "java/lang/invoke/VarHandle" ∧ (parseMethodDescriptor y_Moment_winner.desc).map (fun d => d.parameters.length) = some 0 := by decide +kernel
set_option maxHeartbeats 4000000 in
set_option maxRecDepth 100000 in
theorem cx_Moment_winner (l : Launch) (E : xE) (a : Nat → Nat) (ha : xInj a 38) (u v : Nat) (h : Hp) (sz : Nat) {r0 : Int32} (hlit : x_Moment_winner h = some r0) : Met l y_Moment_winner (Cond.code y_Moment_winner b_Moment_winner 2 (some .int) :: TB) rm_x_Moment_winner (fPc [.ref (a 5)] E.1 (xtys E) sz (xV E a u v (a 6) h)) (fQi (fun _ : Nat => True) r0 E.1 (fun (_ : Nat) => xV E a u v (a 6) h) (xA a 38 sz)) 0 0 (xA a 38 sz) := by
  refine fl_startI (by decide) (Nat.le_of_ble_eq_true rfl) ?_
  intro p e s m args below meth c Q hx hb hml hown hts hsz hP hK hN ret ls hl
  subst hsz
  have hA : ∀ k, k < 38 → (xA a 38 s.heap.size) (a k) := xA_in
  have hS : va_S (xA a 38 s.heap.size) s.heap s.heap [] := va_S.rf
  have hl : lv_has ls 2 [(0, .ref (a 5))] := hl
  have b2 : ∀ (n : Nat), ∀ (x1 : Int32) (H : Heap) (locs : List Loc) (ls : Array Slot), x_Moment_winner_b2 h n x1 = some r0 → va_P E.1 xcl (xV E a u v (a 6) h) H → va_S (xA a 38 s.heap.size) s.heap H locs → lv_has ls 2 [(0, .ref (a 5)), (1, .int x1)] → W p l e rm_x_Moment_winner s m args below meth c H locs 0 0 Q (F0 m 2 ls []) := by
    intro n
    induction n with
    | zero => intro x1 H locs ls hlit hP hS hl; exact nnF hlit
    | succ n ih =>
      intro x1 H locs ls hlit hP hS hl
      refine lv_iload_n hx hb d_Moment_winner_2 rfl (lv_at hl 1 rfl) ?_
      refine lv_aload_n hx hb d_Moment_winner_3 rfl (lv_at hl 0 rfl) ?_
      refine xg_Moment_0 hx hb hts hown hK hP q182 d_Moment_winner_4 ?_
      refine xg_Menu_0 hx hb hts hown hK hP rfl q148 d_Moment_winner_7 ?_
      refine lv_icmp_ge (tgt := 40) hx hb d_Moment_winner_10 (by decide) (fun c10 => ?_) (fun c10 => ?_)
      · have hlit := brP _ hlit c10
        refine lv_bipush (v := (-4 : Int32)) hx hb d_Moment_winner_40 (by decide) ?_
        cases hlit
        exact ret 0 _ _ _ _ trivial hP hS rfl d_Moment_winner_42
      · have hlit := brN _ hlit c10
        refine lv_aload_n hx hb d_Moment_winner_13 rfl (lv_at hl 0 rfl) ?_
        refine xg_Moment_2 hx hb hts hown hK hP q186 d_Moment_winner_14 ?_
        refine lv_iload_n hx hb d_Moment_winner_17 rfl (lv_at hl 1 rfl) ?_
        obtain ⟨r18, hl18, hlit⟩ := bindS hlit
        refine fCallI (fRunS (As := [.int (h 5 2), .int x1]) (rest := []) hx hb hml hown hts hK hN hP (cx_Moment_isIn l E a ha u v h _ (h 5 2) x1 (r0 := r18) hl18) q367 q368 q56 q369 hd_x_Moment_isIn rfl rfl ⟨Nat.le_of_ble_eq_true rfl, Nat.le_of_ble_eq_true rfl⟩ rfl hl.1 rfl (Nat.le_of_ble_eq_true rfl) d_Moment_winner_18 ⟨Nat.zero_le _, Nat.zero_le _⟩) hS (xA_up hS.1) (fun _ H locs hu18 hP hS _ _ => ?_)
        have hP : va_P E.1 xcl (xV E a u v (a 6) h) H := hP
        refine lv_if_eq (tgt := 34) hx hb d_Moment_winner_21 (by decide) (fun c21 => ?_) (fun c21 => ?_)
        · have hlit := brP _ hlit c21
          refine lv_iinc (v := (x1 + (1 : Int32))) (lv' := [(1, .int (x1 + (1 : Int32))), (0, .ref (a 5))]) hx hb d_Moment_winner_34 hl (k := 1) rfl rfl (by decide) rfl (fun ls hl => ?_)
          refine lv_goto (tgt := 2) hx hb d_Moment_winner_37 (by decide) ?_
          exact ih (x1 + (1 : Int32)) _ _ _ hlit hP hS (lv_sub hl [1, 0] rfl)
        · have hlit := brN _ hlit c21
          refine lv_aload_n hx hb d_Moment_winner_24 rfl (lv_at hl 0 rfl) ?_
          refine lv_iload_n hx hb d_Moment_winner_25 rfl (lv_at hl 1 rfl) ?_
          obtain ⟨r26, hl26, hlit⟩ := bindS hlit
          refine fCallI (fRunV (As := [.int x1]) (rest := []) (q0 := 5) (ci := 2) hx hb hml hown hts hK hN hP (cx_Moment_winsAgainstAll l E a ha u v h _ x1 (r0 := r26) hl26) q520 q521 q19 q56 q522 hd_x_Moment_winsAgainstAll rfl rfl ⟨Nat.le_of_ble_eq_true rfl, Nat.le_of_ble_eq_true rfl⟩ xe_5 rfl rfl rfl hl.1 rfl (Nat.le_of_ble_eq_true rfl) d_Moment_winner_26 ⟨Nat.zero_le _, Nat.zero_le _⟩) hS (xA_up hS.1) (fun _ H locs hu26 hP hS _ _ => ?_)
          have hP : va_P E.1 xcl (xV E a u v (a 6) h) H := hP
          refine lv_if_eq (tgt := 34) hx hb d_Moment_winner_29 (by decide) (fun c29 => ?_) (fun c29 => ?_)
          · have hlit := brP _ hlit c29
            refine lv_iinc (v := (x1 + (1 : Int32))) (lv' := [(1, .int (x1 + (1 : Int32))), (0, .ref (a 5))]) hx hb d_Moment_winner_34 hl (k := 1) rfl rfl (by decide) rfl (fun ls hl => ?_)
            refine lv_goto (tgt := 2) hx hb d_Moment_winner_37 (by decide) ?_
            exact ih (x1 + (1 : Int32)) _ _ _ hlit hP hS (lv_sub hl [1, 0] rfl)
          · have hlit := brN _ hlit c29
            refine lv_iload_n hx hb d_Moment_winner_32 rfl (lv_at hl 1 rfl) ?_
            cases hlit
            exact ret 0 _ _ _ _ trivial hP hS rfl d_Moment_winner_33
  refine lv_iconst (v := (0 : Int32)) hx hb d_Moment_winner_0 (by decide) ?_
  refine lv_istore_n (lv' := [(1, .int (0 : Int32)), (0, .ref (a 5))]) hx hb d_Moment_winner_1 rfl hl (by decide) rfl (fun ls hl => ?_)
  exact b2 FU (0 : Int32) _ _ _ hlit hP hS (lv_sub hl [1, 0] rfl)

abbrev rm_x_Moment_worstAlone : Room := { frames := 4, cells := 0, slots := 0, locals := 90 }
theorem hd_x_Moment_worstAlone : y_Moment_worstAlone.cls ≠ "java/lang/invoke/MethodHandle" ∧ y_Moment_worstAlone.cls ≠ "java/lang/invoke/VarHandle" ∧ (parseMethodDescriptor y_Moment_worstAlone.desc).map (fun d => d.parameters.length) = some 1 := by decide +kernel
set_option maxHeartbeats 4000000 in
set_option maxRecDepth 100000 in
theorem cx_Moment_worstAlone (l : Launch) (E : xE) (a : Nat → Nat) (ha : xInj a 38) (u v : Nat) (h : Hp) (sz : Nat) (p1 : Int32) {r0 : Int32} (hlit : x_Moment_worstAlone p1 h = some r0) : Met l y_Moment_worstAlone (Cond.code y_Moment_worstAlone b_Moment_worstAlone 4 (some .int) :: TB) rm_x_Moment_worstAlone (fPc [.ref (a 5), .int p1] E.1 (xtys E) sz (xV E a u v (a 6) h)) (fQi (fun _ : Nat => True) r0 E.1 (fun (_ : Nat) => xV E a u v (a 6) h) (xA a 38 sz)) 0 0 (xA a 38 sz) := by
  refine fl_startI (by decide) (Nat.le_of_ble_eq_true rfl) ?_
  intro p e s m args below meth c Q hx hb hml hown hts hsz hP hK hN ret ls hl
  subst hsz
  have hA : ∀ k, k < 38 → (xA a 38 s.heap.size) (a k) := xA_in
  have hS : va_S (xA a 38 s.heap.size) s.heap s.heap [] := va_S.rf
  have hl : lv_has ls 4 [(0, .ref (a 5)), (1, .int p1)] := hl
  refine lv_aload_n hx hb d_Moment_worstAlone_0 rfl (lv_at hl 0 rfl) ?_
  refine lv_iload_n hx hb d_Moment_worstAlone_1 rfl (lv_at hl 1 rfl) ?_
  refine lv_aload_n hx hb d_Moment_worstAlone_2 rfl (lv_at hl 0 rfl) ?_
  refine xg_Moment_2 hx hb hts hown hK hP q186 d_Moment_worstAlone_3 ?_
  obtain ⟨r6, hl6, hlit⟩ := bindS hlit
  refine fCallI (fRunV (As := [.int p1, .int (h 5 2)]) (rest := []) (q0 := 5) (ci := 2) hx hb hml hown hts hK hN hP (cx_Moment_leastLiked l E a ha u v h _ p1 (h 5 2) (r0 := r6) hl6) q536 q537 q538 q56 q539 hd_x_Moment_leastLiked rfl rfl ⟨Nat.le_of_ble_eq_true rfl, Nat.le_of_ble_eq_true rfl⟩ xe_5 rfl rfl rfl hl.1 rfl (Nat.le_of_ble_eq_true rfl) d_Moment_worstAlone_6 ⟨Nat.zero_le _, Nat.zero_le _⟩) hS (xA_up hS.1) (fun _ H locs hu6 hP hS _ _ => ?_)
  have hP : va_P E.1 xcl (xV E a u v (a 6) h) H := hP
  refine lv_istore_n (lv' := [(2, .int r6), (0, .ref (a 5)), (1, .int p1)]) hx hb d_Moment_worstAlone_9 rfl hl (by decide) rfl (fun ls hl => ?_)
  refine lv_aload_n hx hb d_Moment_worstAlone_10 rfl (lv_at hl 1 rfl) ?_
  refine lv_iload_n hx hb d_Moment_worstAlone_11 rfl (lv_at hl 2 rfl) ?_
  refine lv_aload_n hx hb d_Moment_worstAlone_12 rfl (lv_at hl 1 rfl) ?_
  refine xg_Moment_2 hx hb hts hown hK hP q186 d_Moment_worstAlone_13 ?_
  refine lv_iconst (v := (1 : Int32)) hx hb d_Moment_worstAlone_16 (by decide) ?_
  refine lv_iload_n hx hb d_Moment_worstAlone_17 rfl (lv_at hl 0 rfl) ?_
  refine lv_ishl hx hb d_Moment_worstAlone_18 ?_
  refine lv_iconst (v := (-1 : Int32)) hx hb d_Moment_worstAlone_19 (by decide) ?_
  refine lv_ixor hx hb d_Moment_worstAlone_20 ?_
  refine lv_iand hx hb d_Moment_worstAlone_21 ?_
  obtain ⟨r22, hl22, hlit⟩ := bindS hlit
  refine fCallI (fRunV (As := [.int p1, .int ((h 5 2) &&& (((1 : Int32) <<< (r6 &&& 31)) ^^^ (-1 : Int32)))]) (rest := []) (q0 := 5) (ci := 2) hx hb hml hown hts hK hN hP (cx_Moment_leastLiked l E a ha u v h _ p1 ((h 5 2) &&& (((1 : Int32) <<< (r6 &&& 31)) ^^^ (-1 : Int32))) (r0 := r22) hl22) q536 q537 q538 q56 q539 hd_x_Moment_leastLiked rfl rfl ⟨Nat.le_of_ble_eq_true rfl, Nat.le_of_ble_eq_true rfl⟩ xe_5 rfl rfl rfl hl.1 rfl (Nat.le_of_ble_eq_true rfl) d_Moment_worstAlone_22 ⟨Nat.zero_le _, Nat.zero_le _⟩) hS (xA_up hS.1) (fun _ H locs hu22 hP hS _ _ => ?_)
  have hP : va_P E.1 xcl (xV E a u v (a 6) h) H := hP
  refine lv_istore_n (lv' := [(3, .int r22), (2, .int r6), (0, .ref (a 5)), (1, .int p1)]) hx hb d_Moment_worstAlone_25 rfl hl (by decide) rfl (fun ls hl => ?_)
  refine lv_aload_n hx hb d_Moment_worstAlone_26 rfl (lv_at hl 2 rfl) ?_
  refine lv_iload_n hx hb d_Moment_worstAlone_27 rfl (lv_at hl 3 rfl) ?_
  refine lv_iload_n hx hb d_Moment_worstAlone_28 rfl (lv_at hl 1 rfl) ?_
  obtain ⟨r29, hl29, hlit⟩ := bindS hlit
  refine fCallI (fRunV (As := [.int p1, .int r6]) (rest := []) (q0 := 5) (ci := 2) hx hb hml hown hts hK hN hP (cx_Moment_value l E a ha u v h _ p1 r6 (r0 := r29) hl29) q370 q371 q372 q56 q373 hd_x_Moment_value rfl rfl ⟨Nat.le_of_ble_eq_true rfl, Nat.le_of_ble_eq_true rfl⟩ xe_5 rfl rfl rfl hl.1 rfl (Nat.le_of_ble_eq_true rfl) d_Moment_worstAlone_29 ⟨Nat.zero_le _, Nat.zero_le _⟩) hS (xA_up hS.1) (fun _ H locs hu29 hP hS _ _ => ?_)
  have hP : va_P E.1 xcl (xV E a u v (a 6) h) H := hP
  refine lv_aload_n hx hb d_Moment_worstAlone_32 rfl (lv_at hl 2 rfl) ?_
  refine lv_iload_n hx hb d_Moment_worstAlone_33 rfl (lv_at hl 3 rfl) ?_
  refine lv_iload_n hx hb d_Moment_worstAlone_34 rfl (lv_at hl 0 rfl) ?_
  obtain ⟨r35, hl35, hlit⟩ := bindS hlit
  refine fCallI (fRunV (As := [.int p1, .int r22]) (rest := [.int r29]) (q0 := 5) (ci := 2) hx hb hml hown hts hK hN hP (cx_Moment_value l E a ha u v h _ p1 r22 (r0 := r35) hl35) q370 q371 q372 q56 q373 hd_x_Moment_value rfl rfl ⟨Nat.le_of_ble_eq_true rfl, Nat.le_of_ble_eq_true rfl⟩ xe_5 rfl rfl rfl hl.1 rfl (Nat.le_of_ble_eq_true rfl) d_Moment_worstAlone_35 ⟨Nat.zero_le _, Nat.zero_le _⟩) hS (xA_up hS.1) (fun _ H locs hu35 hP hS _ _ => ?_)
  have hP : va_P E.1 xcl (xV E a u v (a 6) h) H := hP
  refine lv_icmp_ge (tgt := 47) hx hb d_Moment_worstAlone_38 (by decide) (fun c38 => ?_) (fun c38 => ?_)
  · have hlit := brP _ hlit c38
    refine lv_iconst (v := (0 : Int32)) hx hb d_Moment_worstAlone_47 (by decide) ?_
    cases hlit
    exact ret 0 _ _ _ _ trivial hP hS rfl d_Moment_worstAlone_48
  · have hlit := brN _ hlit c38
    refine lv_iconst (v := (1 : Int32)) hx hb d_Moment_worstAlone_41 (by decide) ?_
    refine lv_iload_n hx hb d_Moment_worstAlone_42 rfl (lv_at hl 1 rfl) ?_
    refine lv_ishl hx hb d_Moment_worstAlone_43 ?_
    refine lv_goto (tgt := 48) hx hb d_Moment_worstAlone_44 (by decide) ?_
    cases hlit
    exact ret 0 _ _ _ _ trivial hP hS rfl d_Moment_worstAlone_48

abbrev rm_x_Moment_nobodysWorst : Room := { frames := 5, cells := 0, slots := 0, locals := 113 }
theorem hd_x_Moment_nobodysWorst : y_Moment_nobodysWorst.cls ≠ "java/lang/invoke/MethodHandle" ∧ y_Moment_nobodysWorst.cls ≠ "java/lang/invoke/VarHandle" ∧ (parseMethodDescriptor y_Moment_nobodysWorst.desc).map (fun d => d.parameters.length) = some 0 := by decide +kernel
set_option maxHeartbeats 4000000 in
set_option maxRecDepth 100000 in
theorem cx_Moment_nobodysWorst (l : Launch) (E : xE) (a : Nat → Nat) (ha : xInj a 38) (u v : Nat) (h : Hp) (sz : Nat) {r0 : Int32} (hlit : x_Moment_nobodysWorst h = some r0) : Met l y_Moment_nobodysWorst (Cond.code y_Moment_nobodysWorst b_Moment_nobodysWorst 3 (some .int) :: TB) rm_x_Moment_nobodysWorst (fPc [.ref (a 5)] E.1 (xtys E) sz (xV E a u v (a 6) h)) (fQi (fun _ : Nat => True) r0 E.1 (fun (_ : Nat) => xV E a u v (a 6) h) (xA a 38 sz)) 0 0 (xA a 38 sz) := by
  refine fl_startI (by decide) (Nat.le_of_ble_eq_true rfl) ?_
  intro p e s m args below meth c Q hx hb hml hown hts hsz hP hK hN ret ls hl
  subst hsz
  have hA : ∀ k, k < 38 → (xA a 38 s.heap.size) (a k) := xA_in
  have hS : va_S (xA a 38 s.heap.size) s.heap s.heap [] := va_S.rf
  have hl : lv_has ls 3 [(0, .ref (a 5))] := hl
  have b23 : ∀ (n : Nat), ∀ (x1 : Int32) (x2 : Int32) (H : Heap) (locs : List Loc) (ls : Array Slot), x_Moment_nobodysWorst_b23 h n x1 x2 = some r0 → va_P E.1 xcl (xV E a u v (a 6) h) H → va_S (xA a 38 s.heap.size) s.heap H locs → lv_has ls 3 [(0, .ref (a 5)), (1, .int x1), (2, .int x2)] → W p l e rm_x_Moment_nobodysWorst s m args below meth c H locs 0 0 Q (F0 m 23 ls []) := by
    intro n
    induction n with
    | zero => intro x1 x2 H locs ls hlit hP hS hl; exact nnF hlit
    | succ n ih =>
      intro x1 x2 H locs ls hlit hP hS hl
      refine lv_iload_n hx hb d_Moment_nobodysWorst_23 rfl (lv_at hl 2 rfl) ?_
      refine lv_aload_n hx hb d_Moment_nobodysWorst_24 rfl (lv_at hl 0 rfl) ?_
      refine xg_Moment_0 hx hb hts hown hK hP q182 d_Moment_nobodysWorst_25 ?_
      refine xg_Menu_1 hx hb hts hown hK hP rfl q151 d_Moment_nobodysWorst_28 ?_
      refine lv_icmp_ge (tgt := 50) hx hb d_Moment_nobodysWorst_31 (by decide) (fun c31 => ?_) (fun c31 => ?_)
      · have hlit := brP _ hlit c31
        refine lv_iload_n hx hb d_Moment_nobodysWorst_50 rfl (lv_at hl 1 rfl) ?_
        cases hlit
        exact ret 0 _ _ _ _ trivial hP hS rfl d_Moment_nobodysWorst_51
      · have hlit := brN _ hlit c31
        refine lv_iload_n hx hb d_Moment_nobodysWorst_34 rfl (lv_at hl 1 rfl) ?_
        refine lv_aload_n hx hb d_Moment_nobodysWorst_35 rfl (lv_at hl 0 rfl) ?_
        refine lv_iload_n hx hb d_Moment_nobodysWorst_36 rfl (lv_at hl 2 rfl) ?_
        obtain ⟨r37, hl37, hlit⟩ := bindS hlit
        refine fCallI (fRunV (As := [.int x2]) (rest := [.int x1]) (q0 := 5) (ci := 2) hx hb hml hown hts hK hN hP (cx_Moment_worstAlone l E a ha u v h _ x2 (r0 := r37) hl37) q533 q534 q20 q56 q535 hd_x_Moment_worstAlone rfl rfl ⟨Nat.le_of_ble_eq_true rfl, Nat.le_of_ble_eq_true rfl⟩ xe_5 rfl rfl rfl hl.1 rfl (Nat.le_of_ble_eq_true rfl) d_Moment_nobodysWorst_37 ⟨Nat.zero_le _, Nat.zero_le _⟩) hS (xA_up hS.1) (fun _ H locs hu37 hP hS _ _ => ?_)
        have hP : va_P E.1 xcl (xV E a u v (a 6) h) H := hP
        refine lv_iconst (v := (-1 : Int32)) hx hb d_Moment_nobodysWorst_40 (by decide) ?_
        refine lv_ixor hx hb d_Moment_nobodysWorst_41 ?_
        refine lv_iand hx hb d_Moment_nobodysWorst_42 ?_
        obtain ⟨y43, ey43, hlit⟩ := bindS hlit
        refine topn ey43 ?_
        refine lv_istore_n (lv' := [(1, .int y43), (0, .ref (a 5)), (2, .int x2)]) hx hb d_Moment_nobodysWorst_43 rfl hl (by decide) rfl (fun ls hl => ?_)
        refine lv_iinc (v := (x2 + (1 : Int32))) (lv' := [(2, .int (x2 + (1 : Int32))), (1, .int y43), (0, .ref (a 5))]) hx hb d_Moment_nobodysWorst_44 hl (k := 2) rfl rfl (by decide) rfl (fun ls hl => ?_)
        refine lv_goto (tgt := 23) hx hb d_Moment_nobodysWorst_47 (by decide) ?_
        exact ih y43 (x2 + (1 : Int32)) _ _ _ hlit hP hS (lv_sub hl [2, 1, 0] rfl)
  refine lv_aload_n hx hb d_Moment_nobodysWorst_0 rfl (lv_at hl 0 rfl) ?_
  refine xg_Moment_2 hx hb hts hown hK hP q186 d_Moment_nobodysWorst_1 ?_
  obtain ⟨r4, hl4, hlit⟩ := bindS hlit
  refine fCallI (fRunS (As := [.int (h 5 2)]) (rest := []) hx hb hml hown hts hK hN hP (cx_Int_bitCount l E a ha u v (a 6) h _ (h 5 2) (r0 := r4) hl4) q532 q447 q63 q448 hd_x_Int_bitCount rfl rfl ⟨Nat.le_of_ble_eq_true rfl, Nat.le_of_ble_eq_true rfl⟩ rfl hl.1 rfl (Nat.le_of_ble_eq_true rfl) d_Moment_nobodysWorst_4 ⟨Nat.zero_le _, Nat.zero_le _⟩) hS (xA_up hS.1) (fun _ H locs hu4 hP hS _ _ => ?_)
  have hP : va_P E.1 xcl (xV E a u v (a 6) h) H := hP
  refine lv_iconst (v := (2 : Int32)) hx hb d_Moment_nobodysWorst_7 (by decide) ?_
  refine lv_icmp_ge (tgt := 16) hx hb d_Moment_nobodysWorst_8 (by decide) (fun c8 => ?_) (fun c8 => ?_)
  · have hlit := brP _ hlit c8
    refine lv_aload_n hx hb d_Moment_nobodysWorst_16 rfl (lv_at hl 0 rfl) ?_
    refine xg_Moment_2 hx hb hts hown hK hP q186 d_Moment_nobodysWorst_17 ?_
    obtain ⟨y20, ey20, hlit⟩ := bindS hlit
    refine topn ey20 ?_
    refine lv_istore_n (lv' := [(1, .int y20), (0, .ref (a 5))]) hx hb d_Moment_nobodysWorst_20 rfl hl (by decide) rfl (fun ls hl => ?_)
    refine lv_iconst (v := (0 : Int32)) hx hb d_Moment_nobodysWorst_21 (by decide) ?_
    refine lv_istore_n (lv' := [(2, .int (0 : Int32)), (1, .int y20), (0, .ref (a 5))]) hx hb d_Moment_nobodysWorst_22 rfl hl (by decide) rfl (fun ls hl => ?_)
    exact b23 FU y20 (0 : Int32) _ _ _ hlit hP hS (lv_sub hl [2, 1, 0] rfl)
  · have hlit := brN _ hlit c8
    refine lv_aload_n hx hb d_Moment_nobodysWorst_11 rfl (lv_at hl 0 rfl) ?_
    refine xg_Moment_2 hx hb hts hown hK hP q186 d_Moment_nobodysWorst_12 ?_
    cases hlit
    exact ret 0 _ _ _ _ trivial hP hS rfl d_Moment_nobodysWorst_15

abbrev rm_x_Moment_lastStanding : Room := { frames := 4, cells := 0, slots := 0, locals := 90 }
theorem hd_x_Moment_lastStanding : y_Moment_lastStanding.cls ≠ "java/lang/invoke/MethodHandle" ∧ y_Moment_lastStanding.cls ≠ "java/lang/invoke/VarHandle" ∧ (parseMethodDescriptor y_Moment_lastStanding.desc).map (fun d => d.parameters.length) = some 1 := by decide +kernel
set_option maxHeartbeats 4000000 in
set_option maxRecDepth 100000 in
theorem cx_Moment_lastStanding (l : Launch) (E : xE) (a : Nat → Nat) (ha : xInj a 38) (u v : Nat) (h : Hp) (sz : Nat) (p1 : Int32) {r0 : Int32} (hlit : x_Moment_lastStanding p1 h = some r0) : Met l y_Moment_lastStanding (Cond.code y_Moment_lastStanding b_Moment_lastStanding 5 (some .int) :: TB) rm_x_Moment_lastStanding (fPc [.ref (a 5), .int p1] E.1 (xtys E) sz (xV E a u v (a 6) h)) (fQi (fun _ : Nat => True) r0 E.1 (fun (_ : Nat) => xV E a u v (a 6) h) (xA a 38 sz)) 0 0 (xA a 38 sz) := by
  refine fl_startI (by decide) (Nat.le_of_ble_eq_true rfl) ?_
  intro p e s m args below meth c Q hx hb hml hown hts hsz hP hK hN ret ls hl
  subst hsz
  have hA : ∀ k, k < 38 → (xA a 38 s.heap.size) (a k) := xA_in
  have hS : va_S (xA a 38 s.heap.size) s.heap s.heap [] := va_S.rf
  have hl : lv_has ls 5 [(0, .ref (a 5)), (1, .int p1)] := hl
  have b46 : ∀ (k7 : Int32 → Int32 → Option Int32), (∀ (x2 : Int32) (x3 : Int32) (H : Heap) (locs : List Loc) (ls : Array Slot), k7 x2 x3 = some r0 → va_P E.1 xcl (xV E a u v (a 6) h) H → va_S (xA a 38 s.heap.size) s.heap H locs → lv_has ls 5 [(0, .ref (a 5)), (1, .int p1), (2, .int x2), (3, .int x3)] → W p l e rm_x_Moment_lastStanding s m args below meth c H locs 0 0 Q (F0 m 7 ls [])) → ∀ (x2 : Int32) (x3 : Int32) (s0 : Int32) (H : Heap) (locs : List Loc) (ls : Array Slot), x_Moment_lastStanding_b46 k7 p1 h x2 x3 s0 = some r0 → va_P E.1 xcl (xV E a u v (a 6) h) H → va_S (xA a 38 s.heap.size) s.heap H locs → lv_has ls 5 [(0, .ref (a 5)), (1, .int p1), (2, .int x2), (3, .int x3)] → W p l e rm_x_Moment_lastStanding s m args below meth c H locs 0 0 Q (F0 m 46 ls [.int s0]) := by
    intro k7 hk7 x2 x3 s0 H locs ls hlit hP hS hl
    refine lv_istore (lv' := [(4, .int s0), (0, .ref (a 5)), (1, .int p1), (2, .int x2), (3, .int x3)]) hx hb d_Moment_lastStanding_46 hl (by decide) rfl (fun ls hl => ?_)
    refine lv_iload_n hx hb d_Moment_lastStanding_48 rfl (lv_at hl 3 rfl) ?_
    refine lv_iconst (v := (1 : Int32)) hx hb d_Moment_lastStanding_49 (by decide) ?_
    refine lv_aload_n hx hb d_Moment_lastStanding_50 rfl (lv_at hl 1 rfl) ?_
    refine lv_iload hx hb d_Moment_lastStanding_51 (lv_at hl 0 rfl) ?_
    refine lv_iload_n hx hb d_Moment_lastStanding_53 rfl (lv_at hl 3 rfl) ?_
    obtain ⟨r54, hl54, hlit⟩ := bindS hlit
    refine fCallI (fRunV (As := [.int s0, .int x2]) (rest := [.int (1 : Int32), .int x2]) (q0 := 5) (ci := 2) hx hb hml hown hts hK hN hP (cx_Moment_leastLiked l E a ha u v h _ s0 x2 (r0 := r54) hl54) q536 q537 q538 q56 q539 hd_x_Moment_leastLiked rfl rfl ⟨Nat.le_of_ble_eq_true rfl, Nat.le_of_ble_eq_true rfl⟩ xe_5 rfl rfl rfl hl.1 rfl (Nat.le_of_ble_eq_true rfl) d_Moment_lastStanding_54 ⟨Nat.zero_le _, Nat.zero_le _⟩) hS (xA_up hS.1) (fun _ H locs hu54 hP hS _ _ => ?_)
    have hP : va_P E.1 xcl (xV E a u v (a 6) h) H := hP
    refine lv_ishl hx hb d_Moment_lastStanding_57 ?_
    refine lv_iconst (v := (-1 : Int32)) hx hb d_Moment_lastStanding_58 (by decide) ?_
    refine lv_ixor hx hb d_Moment_lastStanding_59 ?_
    refine lv_iand hx hb d_Moment_lastStanding_60 ?_
    obtain ⟨y61, ey61, hlit⟩ := bindS hlit
    refine topn ey61 ?_
    refine lv_istore_n (lv' := [(2, .int y61), (4, .int s0), (0, .ref (a 5)), (1, .int p1), (3, .int x3)]) hx hb d_Moment_lastStanding_61 rfl hl (by decide) rfl (fun ls hl => ?_)
    refine lv_iinc (v := (x3 + (1 : Int32))) (lv' := [(3, .int (x3 + (1 : Int32))), (2, .int y61), (4, .int s0), (0, .ref (a 5)), (1, .int p1)]) hx hb d_Moment_lastStanding_62 hl (k := 4) rfl rfl (by decide) rfl (fun ls hl => ?_)
    refine lv_goto (tgt := 7) hx hb d_Moment_lastStanding_65 (by decide) ?_
    exact hk7 y61 (x3 + (1 : Int32)) _ _ _ hlit hP hS (lv_sub hl [3, 4, 1, 0] rfl)
  have b7 : ∀ (n : Nat), ∀ (x2 : Int32) (x3 : Int32) (H : Heap) (locs : List Loc) (ls : Array Slot), x_Moment_lastStanding_b7 p1 h n x2 x3 = some r0 → va_P E.1 xcl (xV E a u v (a 6) h) H → va_S (xA a 38 s.heap.size) s.heap H locs → lv_has ls 5 [(0, .ref (a 5)), (1, .int p1), (2, .int x2), (3, .int x3)] → W p l e rm_x_Moment_lastStanding s m args below meth c H locs 0 0 Q (F0 m 7 ls []) := by
    intro n
    induction n with
    | zero => intro x2 x3 H locs ls hlit hP hS hl; exact nnF hlit
    | succ n ih =>
      intro x2 x3 H locs ls hlit hP hS hl
      refine lv_iload_n hx hb d_Moment_lastStanding_7 rfl (lv_at hl 3 rfl) ?_
      refine lv_bipush (v := (6 : Int32)) hx hb d_Moment_lastStanding_8 (by decide) ?_
      refine lv_icmp_ge (tgt := 68) hx hb d_Moment_lastStanding_10 (by decide) (fun c10 => ?_) (fun c10 => ?_)
      · have hlit := brP _ hlit c10
        refine lv_aload_n hx hb d_Moment_lastStanding_68 rfl (lv_at hl 0 rfl) ?_
        refine lv_iload_n hx hb d_Moment_lastStanding_69 rfl (lv_at hl 1 rfl) ?_
        refine lv_iload_n hx hb d_Moment_lastStanding_70 rfl (lv_at hl 2 rfl) ?_
        obtain ⟨r71, hl71, hlit⟩ := bindS hlit
        refine fCallI (fRunV (As := [.int p1, .int x2]) (rest := []) (q0 := 5) (ci := 2) hx hb hml hown hts hK hN hP (cx_Moment_leastLiked l E a ha u v h _ p1 x2 (r0 := r71) hl71) q536 q537 q538 q56 q539 hd_x_Moment_leastLiked rfl rfl ⟨Nat.le_of_ble_eq_true rfl, Nat.le_of_ble_eq_true rfl⟩ xe_5 rfl rfl rfl hl.1 rfl (Nat.le_of_ble_eq_true rfl) d_Moment_lastStanding_71 ⟨Nat.zero_le _, Nat.zero_le _⟩) hS (xA_up hS.1) (fun _ H locs hu71 hP hS _ _ => ?_)
        have hP : va_P E.1 xcl (xV E a u v (a 6) h) H := hP
        cases hlit
        exact ret 0 _ _ _ _ trivial hP hS rfl d_Moment_lastStanding_74
      · have hlit := brN _ hlit c10
        refine lv_iload_n hx hb d_Moment_lastStanding_13 rfl (lv_at hl 2 rfl) ?_
        obtain ⟨r14, hl14, hlit⟩ := bindS hlit
        refine fCallI (fRunS (As := [.int x2]) (rest := []) hx hb hml hown hts hK hN hP (cx_Int_bitCount l E a ha u v (a 6) h _ x2 (r0 := r14) hl14) q532 q447 q63 q448 hd_x_Int_bitCount rfl rfl ⟨Nat.le_of_ble_eq_true rfl, Nat.le_of_ble_eq_true rfl⟩ rfl hl.1 rfl (Nat.le_of_ble_eq_true rfl) d_Moment_lastStanding_14 ⟨Nat.zero_le _, Nat.zero_le _⟩) hS (xA_up hS.1) (fun _ H locs hu14 hP hS _ _ => ?_)
        have hP : va_P E.1 xcl (xV E a u v (a 6) h) H := hP
        refine lv_iconst (v := (1 : Int32)) hx hb d_Moment_lastStanding_17 (by decide) ?_
        refine lv_icmp_le (tgt := 68) hx hb d_Moment_lastStanding_18 (by decide) (fun c18 => ?_) (fun c18 => ?_)
        · have hlit := brP _ hlit c18
          refine lv_aload_n hx hb d_Moment_lastStanding_68 rfl (lv_at hl 0 rfl) ?_
          refine lv_iload_n hx hb d_Moment_lastStanding_69 rfl (lv_at hl 1 rfl) ?_
          refine lv_iload_n hx hb d_Moment_lastStanding_70 rfl (lv_at hl 2 rfl) ?_
          obtain ⟨r71, hl71, hlit⟩ := bindS hlit
          refine fCallI (fRunV (As := [.int p1, .int x2]) (rest := []) (q0 := 5) (ci := 2) hx hb hml hown hts hK hN hP (cx_Moment_leastLiked l E a ha u v h _ p1 x2 (r0 := r71) hl71) q536 q537 q538 q56 q539 hd_x_Moment_leastLiked rfl rfl ⟨Nat.le_of_ble_eq_true rfl, Nat.le_of_ble_eq_true rfl⟩ xe_5 rfl rfl rfl hl.1 rfl (Nat.le_of_ble_eq_true rfl) d_Moment_lastStanding_71 ⟨Nat.zero_le _, Nat.zero_le _⟩) hS (xA_up hS.1) (fun _ H locs hu71 hP hS _ _ => ?_)
          have hP : va_P E.1 xcl (xV E a u v (a 6) h) H := hP
          cases hlit
          exact ret 0 _ _ _ _ trivial hP hS rfl d_Moment_lastStanding_74
        · have hlit := brN _ hlit c18
          refine lv_aload_n hx hb d_Moment_lastStanding_21 rfl (lv_at hl 0 rfl) ?_
          refine xg_Moment_0 hx hb hts hown hK hP q182 d_Moment_lastStanding_22 ?_
          refine xg_Menu_1 hx hb hts hown hK hP rfl q151 d_Moment_lastStanding_25 ?_
          refine lv_if_le (tgt := 45) hx hb d_Moment_lastStanding_28 (by decide) (fun c28 => ?_) (fun c28 => ?_)
          · have hlit := brP _ hlit c28
            refine lv_iconst (v := (0 : Int32)) hx hb d_Moment_lastStanding_45 (by decide) ?_
            exact b46 (x_Moment_lastStanding_b7 p1 h n) ih x2 x3 (0 : Int32) _ _ _ hlit hP hS (lv_sub hl [0, 1, 2, 3] rfl)
          · have hlit := brN _ hlit c28
            refine lv_iload_n hx hb d_Moment_lastStanding_31 rfl (lv_at hl 1 rfl) ?_
            refine lv_iload_n hx hb d_Moment_lastStanding_32 rfl (lv_at hl 3 rfl) ?_
            refine lv_iadd hx hb d_Moment_lastStanding_33 ?_
            refine lv_aload_n hx hb d_Moment_lastStanding_34 rfl (lv_at hl 0 rfl) ?_
            refine xg_Moment_0 hx hb hts hown hK hP q182 d_Moment_lastStanding_35 ?_
            refine xg_Menu_1 hx hb hts hown hK hP rfl q151 d_Moment_lastStanding_38 ?_
            obtain ⟨g41, hlit⟩ := gdP _ hlit
            refine lv_irem hx hb d_Moment_lastStanding_41 g41 ?_
            refine lv_goto (tgt := 46) hx hb d_Moment_lastStanding_42 (by decide) ?_
            exact b46 (x_Moment_lastStanding_b7 p1 h n) ih x2 x3 ((p1 + x3) - (p1 + x3) / (h 6 1) * (h 6 1)) _ _ _ hlit hP hS (lv_sub hl [0, 1, 2, 3] rfl)
  refine lv_aload_n hx hb d_Moment_lastStanding_0 rfl (lv_at hl 0 rfl) ?_
  refine xg_Moment_2 hx hb hts hown hK hP q186 d_Moment_lastStanding_1 ?_
  obtain ⟨y4, ey4, hlit⟩ := bindS hlit
  refine topn ey4 ?_
  refine lv_istore_n (lv' := [(2, .int y4), (0, .ref (a 5)), (1, .int p1)]) hx hb d_Moment_lastStanding_4 rfl hl (by decide) rfl (fun ls hl => ?_)
  refine lv_iconst (v := (0 : Int32)) hx hb d_Moment_lastStanding_5 (by decide) ?_
  refine lv_istore_n (lv' := [(3, .int (0 : Int32)), (2, .int y4), (0, .ref (a 5)), (1, .int p1)]) hx hb d_Moment_lastStanding_6 rfl hl (by decide) rfl (fun ls hl => ?_)
  exact b7 FU y4 (0 : Int32) _ _ _ hlit hP hS (lv_sub hl [2, 3, 1, 0] rfl)

abbrev rm_x_Moment_pairWorth : Room := { frames := 3, cells := 0, slots := 0, locals := 66 }
theorem hd_x_Moment_pairWorth : y_Moment_pairWorth.cls ≠ "java/lang/invoke/MethodHandle" ∧ y_Moment_pairWorth.cls ≠ "java/lang/invoke/VarHandle" ∧ (parseMethodDescriptor y_Moment_pairWorth.desc).map (fun d => d.parameters.length) = some 2 := by decide +kernel
set_option maxHeartbeats 4000000 in
set_option maxRecDepth 100000 in
theorem cx_Moment_pairWorth (l : Launch) (E : xE) (a : Nat → Nat) (ha : xInj a 38) (u v : Nat) (h : Hp) (sz : Nat) (p1 : Int32) (p2 : Int32) {r0 : Int32} (hlit : x_Moment_pairWorth p1 p2 h = some r0) : Met l y_Moment_pairWorth (Cond.code y_Moment_pairWorth b_Moment_pairWorth 5 (some .int) :: TB) rm_x_Moment_pairWorth (fPc [.ref (a 5), .int p1, .int p2] E.1 (xtys E) sz (xV E a u v (a 6) h)) (fQi (fun _ : Nat => True) r0 E.1 (fun (_ : Nat) => xV E a u v (a 6) h) (xA a 38 sz)) 0 0 (xA a 38 sz) := by
  refine fl_startI (by decide) (Nat.le_of_ble_eq_true rfl) ?_
  intro p e s m args below meth c Q hx hb hml hown hts hsz hP hK hN ret ls hl
  subst hsz
  have hA : ∀ k, k < 38 → (xA a 38 s.heap.size) (a k) := xA_in
  have hS : va_S (xA a 38 s.heap.size) s.heap s.heap [] := va_S.rf
  have hl : lv_has ls 5 [(0, .ref (a 5)), (1, .int p1), (2, .int p2)] := hl
  have b5 : ∀ (n : Nat), ∀ (x3 : Int32) (x4 : Int32) (H : Heap) (locs : List Loc) (ls : Array Slot), x_Moment_pairWorth_b5 p1 p2 h n x3 x4 = some r0 → va_P E.1 xcl (xV E a u v (a 6) h) H → va_S (xA a 38 s.heap.size) s.heap H locs → lv_has ls 5 [(0, .ref (a 5)), (1, .int p1), (2, .int p2), (3, .int x3), (4, .int x4)] → W p l e rm_x_Moment_pairWorth s m args below meth c H locs 0 0 Q (F0 m 5 ls []) := by
    intro n
    induction n with
    | zero => intro x3 x4 H locs ls hlit hP hS hl; exact nnF hlit
    | succ n ih =>
      intro x3 x4 H locs ls hlit hP hS hl
      refine lv_iload hx hb d_Moment_pairWorth_5 (lv_at hl 4 rfl) ?_
      refine lv_aload_n hx hb d_Moment_pairWorth_7 rfl (lv_at hl 0 rfl) ?_
      refine xg_Moment_0 hx hb hts hown hK hP q182 d_Moment_pairWorth_8 ?_
      refine xg_Menu_1 hx hb hts hown hK hP rfl q151 d_Moment_pairWorth_11 ?_
      refine lv_icmp_ge (tgt := 43) hx hb d_Moment_pairWorth_14 (by decide) (fun c14 => ?_) (fun c14 => ?_)
      · have hlit := brP _ hlit c14
        refine lv_iload_n hx hb d_Moment_pairWorth_43 rfl (lv_at hl 3 rfl) ?_
        cases hlit
        exact ret 0 _ _ _ _ trivial hP hS rfl d_Moment_pairWorth_44
      · have hlit := brN _ hlit c14
        refine lv_iload_n hx hb d_Moment_pairWorth_17 rfl (lv_at hl 3 rfl) ?_
        refine lv_aload_n hx hb d_Moment_pairWorth_18 rfl (lv_at hl 0 rfl) ?_
        refine lv_iload hx hb d_Moment_pairWorth_19 (lv_at hl 4 rfl) ?_
        refine lv_iload_n hx hb d_Moment_pairWorth_21 rfl (lv_at hl 1 rfl) ?_
        obtain ⟨r22, hl22, hlit⟩ := bindS hlit
        refine fCallI (fRunV (As := [.int x4, .int p1]) (rest := [.int x3]) (q0 := 5) (ci := 2) hx hb hml hown hts hK hN hP (cx_Moment_value l E a ha u v h _ x4 p1 (r0 := r22) hl22) q370 q371 q372 q56 q373 hd_x_Moment_value rfl rfl ⟨Nat.le_of_ble_eq_true rfl, Nat.le_of_ble_eq_true rfl⟩ xe_5 rfl rfl rfl hl.1 rfl (Nat.le_of_ble_eq_true rfl) d_Moment_pairWorth_22 ⟨Nat.zero_le _, Nat.zero_le _⟩) hS (xA_up hS.1) (fun _ H locs hu22 hP hS _ _ => ?_)
        have hP : va_P E.1 xcl (xV E a u v (a 6) h) H := hP
        refine lv_aload_n hx hb d_Moment_pairWorth_25 rfl (lv_at hl 0 rfl) ?_
        refine lv_iload hx hb d_Moment_pairWorth_26 (lv_at hl 4 rfl) ?_
        refine lv_iload_n hx hb d_Moment_pairWorth_28 rfl (lv_at hl 2 rfl) ?_
        obtain ⟨r29, hl29, hlit⟩ := bindS hlit
        refine fCallI (fRunV (As := [.int x4, .int p2]) (rest := [.int r22, .int x3]) (q0 := 5) (ci := 2) hx hb hml hown hts hK hN hP (cx_Moment_value l E a ha u v h _ x4 p2 (r0 := r29) hl29) q370 q371 q372 q56 q373 hd_x_Moment_value rfl rfl ⟨Nat.le_of_ble_eq_true rfl, Nat.le_of_ble_eq_true rfl⟩ xe_5 rfl rfl rfl hl.1 rfl (Nat.le_of_ble_eq_true rfl) d_Moment_pairWorth_29 ⟨Nat.zero_le _, Nat.zero_le _⟩) hS (xA_up hS.1) (fun _ H locs hu29 hP hS _ _ => ?_)
        have hP : va_P E.1 xcl (xV E a u v (a 6) h) H := hP
        refine va_mmax hx hb (hml.trans hl.1.symm) hown (hts _ q560) (hts _ q561) (hts _ q62) (hts _ q562) (by decide) (Nat.le_of_ble_eq_true rfl) (Nat.zero_le _) (Nat.zero_le _) d_Moment_pairWorth_32 ?_
        refine lv_iadd hx hb d_Moment_pairWorth_35 ?_
        obtain ⟨y36, ey36, hlit⟩ := bindS hlit
        refine topn ey36 ?_
        refine lv_istore_n (lv' := [(3, .int y36), (0, .ref (a 5)), (1, .int p1), (2, .int p2), (4, .int x4)]) hx hb d_Moment_pairWorth_36 rfl hl (by decide) rfl (fun ls hl => ?_)
        refine lv_iinc (v := (x4 + (1 : Int32))) (lv' := [(4, .int (x4 + (1 : Int32))), (3, .int y36), (0, .ref (a 5)), (1, .int p1), (2, .int p2)]) hx hb d_Moment_pairWorth_37 hl (k := 4) rfl rfl (by decide) rfl (fun ls hl => ?_)
        refine lv_goto (tgt := 5) hx hb d_Moment_pairWorth_40 (by decide) ?_
        exact ih y36 (x4 + (1 : Int32)) _ _ _ hlit hP hS (lv_sub hl [2, 3, 4, 1, 0] rfl)
  refine lv_iconst (v := (0 : Int32)) hx hb d_Moment_pairWorth_0 (by decide) ?_
  refine lv_istore_n (lv' := [(3, .int (0 : Int32)), (0, .ref (a 5)), (1, .int p1), (2, .int p2)]) hx hb d_Moment_pairWorth_1 rfl hl (by decide) rfl (fun ls hl => ?_)
  refine lv_iconst (v := (0 : Int32)) hx hb d_Moment_pairWorth_2 (by decide) ?_
  refine lv_istore (lv' := [(4, .int (0 : Int32)), (3, .int (0 : Int32)), (0, .ref (a 5)), (1, .int p1), (2, .int p2)]) hx hb d_Moment_pairWorth_3 hl (by decide) rfl (fun ls hl => ?_)
  exact b5 FU (0 : Int32) (0 : Int32) _ _ _ hlit hP hS (lv_sub hl [2, 3, 4, 1, 0] rfl)

abbrev rm_x_Moment_bestPair : Room := { frames := 4, cells := 0, slots := 0, locals := 90 }
theorem hd_x_Moment_bestPair : y_Moment_bestPair.cls ≠ "java/lang/invoke/MethodHandle" ∧ y_Moment_bestPair.cls ≠ "java/lang/invoke/VarHandle" ∧ (parseMethodDescriptor y_Moment_bestPair.desc).map (fun d => d.parameters.length) = some 0 := by decide +kernel
set_option maxHeartbeats 4000000 in
set_option maxRecDepth 100000 in
theorem cx_Moment_bestPair (l : Launch) (E : xE) (a : Nat → Nat) (ha : xInj a 38) (u v : Nat) (h : Hp) (sz : Nat) {r0 : Int32} (hlit : x_Moment_bestPair h = some r0) : Met l y_Moment_bestPair (Cond.code y_Moment_bestPair b_Moment_bestPair 5 (some .int) :: TB) rm_x_Moment_bestPair (fPc [.ref (a 5)] E.1 (xtys E) sz (xV E a u v (a 6) h)) (fQi (fun _ : Nat => True) r0 E.1 (fun (_ : Nat) => xV E a u v (a 6) h) (xA a 38 sz)) 0 0 (xA a 38 sz) := by
  refine fl_startI (by decide) (Nat.le_of_ble_eq_true rfl) ?_
  intro p e s m args below meth c Q hx hb hml hown hts hsz hP hK hN ret ls hl
  subst hsz
  have hA : ∀ k, k < 38 → (xA a 38 s.heap.size) (a k) := xA_in
  have hS : va_S (xA a 38 s.heap.size) s.heap s.heap [] := va_S.rf
  have hl : lv_has ls 5 [(0, .ref (a 5))] := hl
  have b22 : ∀ (k6 : Int32 → Int32 → Int32 → Option Int32), (∀ (x1 : Int32) (x2 : Int32) (x3 : Int32) (H : Heap) (locs : List Loc) (ls : Array Slot), k6 x1 x2 x3 = some r0 → va_P E.1 xcl (xV E a u v (a 6) h) H → va_S (xA a 38 s.heap.size) s.heap H locs → lv_has ls 5 [(0, .ref (a 5)), (1, .int x1), (2, .int x2), (3, .int x3)] → W p l e rm_x_Moment_bestPair s m args below meth c H locs 0 0 Q (F0 m 6 ls [])) → ∀ (n : Nat), ∀ (x1 : Int32) (x2 : Int32) (x3 : Int32) (x4 : Int32) (H : Heap) (locs : List Loc) (ls : Array Slot), x_Moment_bestPair_b22 k6 h n x1 x2 x3 x4 = some r0 → va_P E.1 xcl (xV E a u v (a 6) h) H → va_S (xA a 38 s.heap.size) s.heap H locs → lv_has ls 5 [(0, .ref (a 5)), (1, .int x1), (2, .int x2), (3, .int x3), (4, .int x4)] → W p l e rm_x_Moment_bestPair s m args below meth c H locs 0 0 Q (F0 m 22 ls []) := by
    intro k6 hk6 n
    induction n with
    | zero => intro x1 x2 x3 x4 H locs ls hlit hP hS hl; exact nnF hlit
    | succ n ih =>
      intro x1 x2 x3 x4 H locs ls hlit hP hS hl
      refine lv_iload hx hb d_Moment_bestPair_22 (lv_at hl 4 rfl) ?_
      refine lv_aload_n hx hb d_Moment_bestPair_24 rfl (lv_at hl 0 rfl) ?_
      refine xg_Moment_0 hx hb hts hown hK hP q182 d_Moment_bestPair_25 ?_
      refine xg_Menu_0 hx hb hts hown hK hP rfl q148 d_Moment_bestPair_28 ?_
      refine lv_icmp_ge (tgt := 93) hx hb d_Moment_bestPair_31 (by decide) (fun c31 => ?_) (fun c31 => ?_)
      · have hlit := brP _ hlit c31
        refine lv_iinc (v := (x3 + (1 : Int32))) (lv' := [(3, .int (x3 + (1 : Int32))), (0, .ref (a 5)), (1, .int x1), (2, .int x2), (4, .int x4)]) hx hb d_Moment_bestPair_93 hl (k := 3) rfl rfl (by decide) rfl (fun ls hl => ?_)
        refine lv_goto (tgt := 6) hx hb d_Moment_bestPair_96 (by decide) ?_
        exact hk6 x1 x2 (x3 + (1 : Int32)) _ _ _ hlit hP hS (lv_sub hl [1, 2, 3, 0] rfl)
      · have hlit := brN _ hlit c31
        refine lv_aload_n hx hb d_Moment_bestPair_34 rfl (lv_at hl 0 rfl) ?_
        refine xg_Moment_2 hx hb hts hown hK hP q186 d_Moment_bestPair_35 ?_
        refine lv_iload_n hx hb d_Moment_bestPair_38 rfl (lv_at hl 3 rfl) ?_
        obtain ⟨r39, hl39, hlit⟩ := bindS hlit
        refine fCallI (fRunS (As := [.int (h 5 2), .int x3]) (rest := []) hx hb hml hown hts hK hN hP (cx_Moment_isIn l E a ha u v h _ (h 5 2) x3 (r0 := r39) hl39) q367 q368 q56 q369 hd_x_Moment_isIn rfl rfl ⟨Nat.le_of_ble_eq_true rfl, Nat.le_of_ble_eq_true rfl⟩ rfl hl.1 rfl (Nat.le_of_ble_eq_true rfl) d_Moment_bestPair_39 ⟨Nat.zero_le _, Nat.zero_le _⟩) hS (xA_up hS.1) (fun _ H locs hu39 hP hS _ _ => ?_)
        have hP : va_P E.1 xcl (xV E a u v (a 6) h) H := hP
        refine lv_if_eq (tgt := 87) hx hb d_Moment_bestPair_42 (by decide) (fun c42 => ?_) (fun c42 => ?_)
        · have hlit := brP _ hlit c42
          refine lv_iinc (v := (x4 + (1 : Int32))) (lv' := [(4, .int (x4 + (1 : Int32))), (0, .ref (a 5)), (1, .int x1), (2, .int x2), (3, .int x3)]) hx hb d_Moment_bestPair_87 hl (k := 4) rfl rfl (by decide) rfl (fun ls hl => ?_)
          refine lv_goto (tgt := 22) hx hb d_Moment_bestPair_90 (by decide) ?_
          exact ih x1 x2 x3 (x4 + (1 : Int32)) _ _ _ hlit hP hS (lv_sub hl [1, 2, 3, 4, 0] rfl)
        · have hlit := brN _ hlit c42
          refine lv_aload_n hx hb d_Moment_bestPair_45 rfl (lv_at hl 0 rfl) ?_
          refine xg_Moment_2 hx hb hts hown hK hP q186 d_Moment_bestPair_46 ?_
          refine lv_iload hx hb d_Moment_bestPair_49 (lv_at hl 4 rfl) ?_
          obtain ⟨r51, hl51, hlit⟩ := bindS hlit
          refine fCallI (fRunS (As := [.int (h 5 2), .int x4]) (rest := []) hx hb hml hown hts hK hN hP (cx_Moment_isIn l E a ha u v h _ (h 5 2) x4 (r0 := r51) hl51) q367 q368 q56 q369 hd_x_Moment_isIn rfl rfl ⟨Nat.le_of_ble_eq_true rfl, Nat.le_of_ble_eq_true rfl⟩ rfl hl.1 rfl (Nat.le_of_ble_eq_true rfl) d_Moment_bestPair_51 ⟨Nat.zero_le _, Nat.zero_le _⟩) hS (xA_up hS.1) (fun _ H locs hu51 hP hS _ _ => ?_)
          have hP : va_P E.1 xcl (xV E a u v (a 6) h) H := hP
          refine lv_if_eq (tgt := 87) hx hb d_Moment_bestPair_54 (by decide) (fun c54 => ?_) (fun c54 => ?_)
          · have hlit := brP _ hlit c54
            refine lv_iinc (v := (x4 + (1 : Int32))) (lv' := [(4, .int (x4 + (1 : Int32))), (0, .ref (a 5)), (1, .int x1), (2, .int x2), (3, .int x3)]) hx hb d_Moment_bestPair_87 hl (k := 4) rfl rfl (by decide) rfl (fun ls hl => ?_)
            refine lv_goto (tgt := 22) hx hb d_Moment_bestPair_90 (by decide) ?_
            exact ih x1 x2 x3 (x4 + (1 : Int32)) _ _ _ hlit hP hS (lv_sub hl [1, 2, 3, 4, 0] rfl)
          · have hlit := brN _ hlit c54
            refine lv_aload_n hx hb d_Moment_bestPair_57 rfl (lv_at hl 0 rfl) ?_
            refine lv_iload_n hx hb d_Moment_bestPair_58 rfl (lv_at hl 3 rfl) ?_
            refine lv_iload hx hb d_Moment_bestPair_59 (lv_at hl 4 rfl) ?_
            obtain ⟨r61, hl61, hlit⟩ := bindS hlit
            refine fCallI (fRunV (As := [.int x3, .int x4]) (rest := []) (q0 := 5) (ci := 2) hx hb hml hown hts hK hN hP (cx_Moment_pairWorth l E a ha u v h _ x3 x4 (r0 := r61) hl61) q556 q557 q558 q56 q559 hd_x_Moment_pairWorth rfl rfl ⟨Nat.le_of_ble_eq_true rfl, Nat.le_of_ble_eq_true rfl⟩ xe_5 rfl rfl rfl hl.1 rfl (Nat.le_of_ble_eq_true rfl) d_Moment_bestPair_61 ⟨Nat.zero_le _, Nat.zero_le _⟩) hS (xA_up hS.1) (fun _ H locs hu61 hP hS _ _ => ?_)
            have hP : va_P E.1 xcl (xV E a u v (a 6) h) H := hP
            refine lv_iload_n hx hb d_Moment_bestPair_64 rfl (lv_at hl 2 rfl) ?_
            refine lv_icmp_gt (tgt := 71) hx hb d_Moment_bestPair_65 (by decide) (fun c65 => ?_) (fun c65 => ?_)
            · have hlit := brP _ hlit c65
              refine lv_bipush (v := (8 : Int32)) hx hb d_Moment_bestPair_71 (by decide) ?_
              refine lv_iload_n hx hb d_Moment_bestPair_73 rfl (lv_at hl 3 rfl) ?_
              refine lv_imul hx hb d_Moment_bestPair_74 ?_
              refine lv_iload hx hb d_Moment_bestPair_75 (lv_at hl 4 rfl) ?_
              refine lv_iadd hx hb d_Moment_bestPair_77 ?_
              obtain ⟨y78, ey78, hlit⟩ := bindS hlit
              refine topn ey78 ?_
              refine lv_istore_n (lv' := [(1, .int y78), (0, .ref (a 5)), (2, .int x2), (3, .int x3), (4, .int x4)]) hx hb d_Moment_bestPair_78 rfl hl (by decide) rfl (fun ls hl => ?_)
              refine lv_aload_n hx hb d_Moment_bestPair_79 rfl (lv_at hl 1 rfl) ?_
              refine lv_iload_n hx hb d_Moment_bestPair_80 rfl (lv_at hl 3 rfl) ?_
              refine lv_iload hx hb d_Moment_bestPair_81 (lv_at hl 4 rfl) ?_
              obtain ⟨r83, hl83, hlit⟩ := bindS hlit
              refine fCallI (fRunV (As := [.int x3, .int x4]) (rest := []) (q0 := 5) (ci := 2) hx hb hml hown hts hK hN hP (cx_Moment_pairWorth l E a ha u v h _ x3 x4 (r0 := r83) hl83) q556 q557 q558 q56 q559 hd_x_Moment_pairWorth rfl rfl ⟨Nat.le_of_ble_eq_true rfl, Nat.le_of_ble_eq_true rfl⟩ xe_5 rfl rfl rfl hl.1 rfl (Nat.le_of_ble_eq_true rfl) d_Moment_bestPair_83 ⟨Nat.zero_le _, Nat.zero_le _⟩) hS (xA_up hS.1) (fun _ H locs hu83 hP hS _ _ => ?_)
              have hP : va_P E.1 xcl (xV E a u v (a 6) h) H := hP
              refine lv_istore_n (lv' := [(2, .int r83), (1, .int y78), (0, .ref (a 5)), (3, .int x3), (4, .int x4)]) hx hb d_Moment_bestPair_86 rfl hl (by decide) rfl (fun ls hl => ?_)
              refine lv_iinc (v := (x4 + (1 : Int32))) (lv' := [(4, .int (x4 + (1 : Int32))), (2, .int r83), (1, .int y78), (0, .ref (a 5)), (3, .int x3)]) hx hb d_Moment_bestPair_87 hl (k := 4) rfl rfl (by decide) rfl (fun ls hl => ?_)
              refine lv_goto (tgt := 22) hx hb d_Moment_bestPair_90 (by decide) ?_
              exact ih y78 r83 x3 (x4 + (1 : Int32)) _ _ _ hlit hP hS (lv_sub hl [3, 2, 1, 4, 0] rfl)
            · have hlit := brN _ hlit c65
              refine lv_goto (tgt := 87) hx hb d_Moment_bestPair_68 (by decide) ?_
              refine lv_iinc (v := (x4 + (1 : Int32))) (lv' := [(4, .int (x4 + (1 : Int32))), (0, .ref (a 5)), (1, .int x1), (2, .int x2), (3, .int x3)]) hx hb d_Moment_bestPair_87 hl (k := 4) rfl rfl (by decide) rfl (fun ls hl => ?_)
              refine lv_goto (tgt := 22) hx hb d_Moment_bestPair_90 (by decide) ?_
              exact ih x1 x2 x3 (x4 + (1 : Int32)) _ _ _ hlit hP hS (lv_sub hl [1, 2, 3, 4, 0] rfl)
  have b6 : ∀ (n : Nat), ∀ (x1 : Int32) (x2 : Int32) (x3 : Int32) (H : Heap) (locs : List Loc) (ls : Array Slot), x_Moment_bestPair_b6 h n x1 x2 x3 = some r0 → va_P E.1 xcl (xV E a u v (a 6) h) H → va_S (xA a 38 s.heap.size) s.heap H locs → lv_has ls 5 [(0, .ref (a 5)), (1, .int x1), (2, .int x2), (3, .int x3)] → W p l e rm_x_Moment_bestPair s m args below meth c H locs 0 0 Q (F0 m 6 ls []) := by
    intro n
    induction n with
    | zero => intro x1 x2 x3 H locs ls hlit hP hS hl; exact nnF hlit
    | succ n ih =>
      intro x1 x2 x3 H locs ls hlit hP hS hl
      refine lv_iload_n hx hb d_Moment_bestPair_6 rfl (lv_at hl 3 rfl) ?_
      refine lv_aload_n hx hb d_Moment_bestPair_7 rfl (lv_at hl 0 rfl) ?_
      refine xg_Moment_0 hx hb hts hown hK hP q182 d_Moment_bestPair_8 ?_
      refine xg_Menu_0 hx hb hts hown hK hP rfl q148 d_Moment_bestPair_11 ?_
      refine lv_icmp_ge (tgt := 99) hx hb d_Moment_bestPair_14 (by decide) (fun c14 => ?_) (fun c14 => ?_)
      · have hlit := brP _ hlit c14
        refine lv_iload_n hx hb d_Moment_bestPair_99 rfl (lv_at hl 1 rfl) ?_
        cases hlit
        exact ret 0 _ _ _ _ trivial hP hS rfl d_Moment_bestPair_100
      · have hlit := brN _ hlit c14
        refine lv_iload_n hx hb d_Moment_bestPair_17 rfl (lv_at hl 3 rfl) ?_
        refine lv_iconst (v := (1 : Int32)) hx hb d_Moment_bestPair_18 (by decide) ?_
        refine lv_iadd hx hb d_Moment_bestPair_19 ?_
        obtain ⟨y20, ey20, hlit⟩ := bindS hlit
        refine topn ey20 ?_
        refine lv_istore (lv' := [(4, .int y20), (0, .ref (a 5)), (1, .int x1), (2, .int x2), (3, .int x3)]) hx hb d_Moment_bestPair_20 hl (by decide) rfl (fun ls hl => ?_)
        exact b22 (x_Moment_bestPair_b6 h n) ih FU x1 x2 x3 y20 _ _ _ hlit hP hS (lv_sub hl [1, 2, 3, 4, 0] rfl)
  refine lv_iconst (v := (-1 : Int32)) hx hb d_Moment_bestPair_0 (by decide) ?_
  refine lv_istore_n (lv' := [(1, .int (-1 : Int32)), (0, .ref (a 5))]) hx hb d_Moment_bestPair_1 rfl hl (by decide) rfl (fun ls hl => ?_)
  refine lv_iconst (v := (-1 : Int32)) hx hb d_Moment_bestPair_2 (by decide) ?_
  refine lv_istore_n (lv' := [(2, .int (-1 : Int32)), (1, .int (-1 : Int32)), (0, .ref (a 5))]) hx hb d_Moment_bestPair_3 rfl hl (by decide) rfl (fun ls hl => ?_)
  refine lv_iconst (v := (0 : Int32)) hx hb d_Moment_bestPair_4 (by decide) ?_
  refine lv_istore_n (lv' := [(3, .int (0 : Int32)), (2, .int (-1 : Int32)), (1, .int (-1 : Int32)), (0, .ref (a 5))]) hx hb d_Moment_bestPair_5 rfl hl (by decide) rfl (fun ls hl => ?_)
  exact b6 FU (-1 : Int32) (-1 : Int32) (0 : Int32) _ _ _ hlit hP hS (lv_sub hl [3, 2, 1, 0] rfl)

abbrev rm_x_Moment_welcomeDishes : Room := { frames := 4, cells := 0, slots := 0, locals := 89 }
theorem hd_x_Moment_welcomeDishes : y_Moment_welcomeDishes.cls ≠ "java/lang/invoke/MethodHandle" ∧ y_Moment_welcomeDishes.cls ≠ "java/lang/invoke/VarHandle" ∧ (parseMethodDescriptor y_Moment_welcomeDishes.desc).map (fun d => d.parameters.length) = some 0 := by decide +kernel
set_option maxHeartbeats 4000000 in
set_option maxRecDepth 100000 in
theorem cx_Moment_welcomeDishes (l : Launch) (E : xE) (a : Nat → Nat) (ha : xInj a 38) (u v : Nat) (h : Hp) (sz : Nat) {r0 : Int32} (hlit : x_Moment_welcomeDishes h = some r0) : Met l y_Moment_welcomeDishes (Cond.code y_Moment_welcomeDishes b_Moment_welcomeDishes 3 (some .int) :: TB) rm_x_Moment_welcomeDishes (fPc [.ref (a 5)] E.1 (xtys E) sz (xV E a u v (a 6) h)) (fQi (fun _ : Nat => True) r0 E.1 (fun (_ : Nat) => xV E a u v (a 6) h) (xA a 38 sz)) 0 0 (xA a 38 sz) := by
  refine fl_startI (by decide) (Nat.le_of_ble_eq_true rfl) ?_
  intro p e s m args below meth c Q hx hb hml hown hts hsz hP hK hN ret ls hl
  subst hsz
  have hA : ∀ k, k < 38 → (xA a 38 s.heap.size) (a k) := xA_in
  have hS : va_S (xA a 38 s.heap.size) s.heap s.heap [] := va_S.rf
  have hl : lv_has ls 3 [(0, .ref (a 5))] := hl
  have b4 : ∀ (n : Nat), ∀ (x1 : Int32) (x2 : Int32) (H : Heap) (locs : List Loc) (ls : Array Slot), x_Moment_welcomeDishes_b4 h n x1 x2 = some r0 → va_P E.1 xcl (xV E a u v (a 6) h) H → va_S (xA a 38 s.heap.size) s.heap H locs → lv_has ls 3 [(0, .ref (a 5)), (1, .int x1), (2, .int x2)] → W p l e rm_x_Moment_welcomeDishes s m args below meth c H locs 0 0 Q (F0 m 4 ls []) := by
    intro n
    induction n with
    | zero => intro x1 x2 H locs ls hlit hP hS hl; exact nnF hlit
    | succ n ih =>
      intro x1 x2 H locs ls hlit hP hS hl
      refine lv_iload_n hx hb d_Moment_welcomeDishes_4 rfl (lv_at hl 2 rfl) ?_
      refine lv_aload_n hx hb d_Moment_welcomeDishes_5 rfl (lv_at hl 0 rfl) ?_
      refine xg_Moment_0 hx hb hts hown hK hP q182 d_Moment_welcomeDishes_6 ?_
      refine xg_Menu_0 hx hb hts hown hK hP rfl q148 d_Moment_welcomeDishes_9 ?_
      refine lv_icmp_ge (tgt := 43) hx hb d_Moment_welcomeDishes_12 (by decide) (fun c12 => ?_) (fun c12 => ?_)
      · have hlit := brP _ hlit c12
        refine lv_iload_n hx hb d_Moment_welcomeDishes_43 rfl (lv_at hl 1 rfl) ?_
        cases hlit
        exact ret 0 _ _ _ _ trivial hP hS rfl d_Moment_welcomeDishes_44
      · have hlit := brN _ hlit c12
        refine lv_aload_n hx hb d_Moment_welcomeDishes_15 rfl (lv_at hl 0 rfl) ?_
        refine xg_Moment_2 hx hb hts hown hK hP q186 d_Moment_welcomeDishes_16 ?_
        refine lv_iload_n hx hb d_Moment_welcomeDishes_19 rfl (lv_at hl 2 rfl) ?_
        obtain ⟨r20, hl20, hlit⟩ := bindS hlit
        refine fCallI (fRunS (As := [.int (h 5 2), .int x2]) (rest := []) hx hb hml hown hts hK hN hP (cx_Moment_isIn l E a ha u v h _ (h 5 2) x2 (r0 := r20) hl20) q367 q368 q56 q369 hd_x_Moment_isIn rfl rfl ⟨Nat.le_of_ble_eq_true rfl, Nat.le_of_ble_eq_true rfl⟩ rfl hl.1 rfl (Nat.le_of_ble_eq_true rfl) d_Moment_welcomeDishes_20 ⟨Nat.zero_le _, Nat.zero_le _⟩) hS (xA_up hS.1) (fun _ H locs hu20 hP hS _ _ => ?_)
        have hP : va_P E.1 xcl (xV E a u v (a 6) h) H := hP
        refine lv_if_eq (tgt := 37) hx hb d_Moment_welcomeDishes_23 (by decide) (fun c23 => ?_) (fun c23 => ?_)
        · have hlit := brP _ hlit c23
          refine lv_iinc (v := (x2 + (1 : Int32))) (lv' := [(2, .int (x2 + (1 : Int32))), (0, .ref (a 5)), (1, .int x1)]) hx hb d_Moment_welcomeDishes_37 hl (k := 2) rfl rfl (by decide) rfl (fun ls hl => ?_)
          refine lv_goto (tgt := 4) hx hb d_Moment_welcomeDishes_40 (by decide) ?_
          exact ih x1 (x2 + (1 : Int32)) _ _ _ hlit hP hS (lv_sub hl [1, 2, 0] rfl)
        · have hlit := brN _ hlit c23
          refine lv_aload_n hx hb d_Moment_welcomeDishes_26 rfl (lv_at hl 0 rfl) ?_
          refine lv_iload_n hx hb d_Moment_welcomeDishes_27 rfl (lv_at hl 2 rfl) ?_
          obtain ⟨r28, hl28, hlit⟩ := bindS hlit
          refine fCallI (fRunV (As := [.int x2]) (rest := []) (q0 := 5) (ci := 2) hx hb hml hown hts hK hN hP (cx_Moment_leastWorth l E a ha u v h _ x2 (r0 := r28) hl28) q493 q494 q495 q56 q496 hd_x_Moment_leastWorth rfl rfl ⟨Nat.le_of_ble_eq_true rfl, Nat.le_of_ble_eq_true rfl⟩ xe_5 rfl rfl rfl hl.1 rfl (Nat.le_of_ble_eq_true rfl) d_Moment_welcomeDishes_28 ⟨Nat.zero_le _, Nat.zero_le _⟩) hS (xA_up hS.1) (fun _ H locs hu28 hP hS _ _ => ?_)
          have hP : va_P E.1 xcl (xV E a u v (a 6) h) H := hP
          refine lv_if_le (tgt := 37) hx hb d_Moment_welcomeDishes_31 (by decide) (fun c31 => ?_) (fun c31 => ?_)
          · have hlit := brP _ hlit c31
            refine lv_iinc (v := (x2 + (1 : Int32))) (lv' := [(2, .int (x2 + (1 : Int32))), (0, .ref (a 5)), (1, .int x1)]) hx hb d_Moment_welcomeDishes_37 hl (k := 2) rfl rfl (by decide) rfl (fun ls hl => ?_)
            refine lv_goto (tgt := 4) hx hb d_Moment_welcomeDishes_40 (by decide) ?_
            exact ih x1 (x2 + (1 : Int32)) _ _ _ hlit hP hS (lv_sub hl [1, 2, 0] rfl)
          · have hlit := brN _ hlit c31
            refine lv_iinc (v := (x1 + (1 : Int32))) (lv' := [(1, .int (x1 + (1 : Int32))), (0, .ref (a 5)), (2, .int x2)]) hx hb d_Moment_welcomeDishes_34 hl (k := 1) rfl rfl (by decide) rfl (fun ls hl => ?_)
            refine lv_iinc (v := (x2 + (1 : Int32))) (lv' := [(2, .int (x2 + (1 : Int32))), (1, .int (x1 + (1 : Int32))), (0, .ref (a 5))]) hx hb d_Moment_welcomeDishes_37 hl (k := 2) rfl rfl (by decide) rfl (fun ls hl => ?_)
            refine lv_goto (tgt := 4) hx hb d_Moment_welcomeDishes_40 (by decide) ?_
            exact ih (x1 + (1 : Int32)) (x2 + (1 : Int32)) _ _ _ hlit hP hS (lv_sub hl [2, 1, 0] rfl)
  refine lv_iconst (v := (0 : Int32)) hx hb d_Moment_welcomeDishes_0 (by decide) ?_
  refine lv_istore_n (lv' := [(1, .int (0 : Int32)), (0, .ref (a 5))]) hx hb d_Moment_welcomeDishes_1 rfl hl (by decide) rfl (fun ls hl => ?_)
  refine lv_iconst (v := (0 : Int32)) hx hb d_Moment_welcomeDishes_2 (by decide) ?_
  refine lv_istore_n (lv' := [(2, .int (0 : Int32)), (1, .int (0 : Int32)), (0, .ref (a 5))]) hx hb d_Moment_welcomeDishes_3 rfl hl (by decide) rfl (fun ls hl => ?_)
  exact b4 FU (0 : Int32) (0 : Int32) _ _ _ hlit hP hS (lv_sub hl [2, 1, 0] rfl)

abbrev rm_x_Notes_get : Room := { frames := 0, cells := 0, slots := 0, locals := 0 }
theorem hd_x_Notes_get : y_Notes_get.cls ≠ "java/lang/invoke/MethodHandle" ∧ y_Notes_get.cls ≠ "java/lang/invoke/VarHandle" ∧ (parseMethodDescriptor y_Notes_get.desc).map (fun d => d.parameters.length) = some 1 := by decide +kernel
set_option maxHeartbeats 4000000 in
set_option maxRecDepth 100000 in
theorem cx_Notes_get (l : Launch) (E : xE) (a : Nat → Nat) (ha : xInj a 38) (u v : Nat) (mm : Nat) (h : Hp) (sz : Nat) (p1 : Int32) {r0 : Option Nat} (hlit : x_Notes_get p1 h = some r0) : Met l y_Notes_get (Cond.code y_Notes_get b_Notes_get 2 (some (.object "NoneMinds$Note")) :: TB) rm_x_Notes_get (fPc [.ref (a 28), .int p1] E.1 (xtys E) sz (xV E a u v mm h)) (fQq (fun _ : Nat => ∀ q, r0 = some q → isN q = true) (r0.map a) E.1 (fun (_ : Nat) => xV E a u v mm h) (xA a 38 sz)) 0 0 (xA a 38 sz) := by
  refine fl_startQ (by decide) (Nat.le_of_ble_eq_true rfl) ?_
  intro p e s m args below meth c Q hx hb hml hown hts hsz hP hK hN ret ls hl
  subst hsz
  have hA : ∀ k, k < 38 → (xA a 38 s.heap.size) (a k) := xA_in
  have hS : va_S (xA a 38 s.heap.size) s.heap s.heap [] := va_S.rf
  have hl : lv_has ls 2 [(0, .ref (a 28)), (1, .int p1)] := hl
  refine lv_iload_n hx hb d_Notes_get_0 rfl (lv_at hl 1 rfl) ?_
  refine lv_if_lt (tgt := 22) hx hb d_Notes_get_1 (by decide) (fun c1 => ?_) (fun c1 => ?_)
  · have hlit := brP _ hlit c1
    refine lv_null hx hb d_Notes_get_22 ?_
    cases hlit
    exact ret 0 _ _ _ _ (fun q e => by cases e) hP hS d_Notes_get_23
  · have hlit := brN _ hlit c1
    refine lv_iload_n hx hb d_Notes_get_4 rfl (lv_at hl 1 rfl) ?_
    refine lv_aload_n hx hb d_Notes_get_5 rfl (lv_at hl 0 rfl) ?_
    refine xg_Notes_1 hx hb hts hown hK hP q138 d_Notes_get_6 ?_
    refine xalen29 hx hb hK hP (y := (8 : Int32)) rfl d_Notes_get_9 ?_
    refine lv_icmp_ge (tgt := 22) hx hb d_Notes_get_10 (by decide) (fun c10 => ?_) (fun c10 => ?_)
    · have hlit := brP _ hlit c10
      refine lv_null hx hb d_Notes_get_22 ?_
      cases hlit
      exact ret 0 _ _ _ _ (fun q e => by cases e) hP hS d_Notes_get_23
    · have hlit := brN _ hlit c10
      refine lv_aload_n hx hb d_Notes_get_13 rfl (lv_at hl 0 rfl) ?_
      refine xg_Notes_1 hx hb hts hown hK hP q138 d_Notes_get_14 ?_
      refine lv_iload_n hx hb d_Notes_get_17 rfl (lv_at hl 1 rfl) ?_
      obtain ⟨g18, hlit⟩ := gdP _ hlit
      refine xaldr29 hx hb hK hP (vpin_c g18) d_Notes_get_18 ?_
      refine lv_goto (tgt := 23) hx hb d_Notes_get_19 (by decide) ?_
      cases hlit
      exact ret 0 _ _ _ _ (fun q e => by cases e; exact (isN29 g18)) hP hS d_Notes_get_23
