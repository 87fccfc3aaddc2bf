abbrev rm_x_Nm_undo : Room := { frames := 3, cells := 0, slots := 0, locals := 63 }
theorem hd_x_Nm_undo : y_Nm_undo.cls ≠ "java/lang/invoke/MethodHandle" ∧ y_Nm_undo.cls ≠ "java/lang/invoke/VarHandle" ∧ (parseMethodDescriptor y_Nm_undo.desc).map (fun d => d.parameters.length) = some 0 := by decide +kernel
set_option maxHeartbeats 4000000 in
set_option maxRecDepth 100000 in
theorem cx_Nm_undo (l : Launch) (E : xE) (a : Nat → Nat) (ha : xInj a 38) (mm : Nat) (h : Hp) (sz : Nat) {r0 : Int32} {h9 : Hp} (hlit : x_Nm_undo h = some (r0, h9)) : Met l y_Nm_undo (Cond.code y_Nm_undo b_Nm_undo 1 (some .int) :: TB) rm_x_Nm_undo (fPc [.ref (a 0)] E.1 (xtys E) sz (xV E a (a 6) (a 10) mm h)) (fQi (fun _ : Nat => True) r0 E.1 (fun (_ : Nat) => xV E a (a 6) (a 10) mm h9) (xA a 38 sz)) 0 0 (xA a 38 sz) := by
  refine fl_startI (by decide) (Nat.le_of_ble_eq_true rfl) ?_
  intro p e s m args below meth c Q hx hb hml hown hts hsz hP hK hN ret ls hl
  subst hsz
  have hA : ∀ k, k < 38 → (xA a 38 s.heap.size) (a k) := xA_in
  have hS : va_S (xA a 38 s.heap.size) s.heap s.heap [] := va_S.rf
  have hl : lv_has ls 1 [(0, .ref (a 0))] := hl
  refine lv_aload_n hx hb d_Nm_undo_0 rfl (lv_at hl 0 rfl) ?_
  refine xg_Nm_4 hx hb hts hown hK hP q291 d_Nm_undo_1 ?_
  refine lv_aload_n hx hb d_Nm_undo_4 rfl (lv_at hl 0 rfl) ?_
  refine xg_Nm_1 hx hb hts hown hK hP q288 d_Nm_undo_5 ?_
  obtain ⟨z8, hl8, hlit⟩ := bindS hlit
  refine fCallI (fRunV (As := [.ref (a 3)]) (rest := []) (q0 := 14) (ci := 5) hx hb hml hown hts hK hN hP (cx_Pile_popInto_a l E a ha (a 6) (a 10) mm h _ 3 rfl (r0 := z8.1) (h9 := z8.2) hl8) q469 q470 q471 q52 q472 hd_x_Pile_popInto_a rfl rfl ⟨Nat.le_of_ble_eq_true rfl, Nat.le_of_ble_eq_true rfl⟩ xe_14 rfl rfl rfl hl.1 rfl (Nat.le_of_ble_eq_true rfl) d_Nm_undo_8 ⟨Nat.zero_le _, Nat.zero_le _⟩) hS (xA_up hS.1) (fun _ H locs hu8 hP hS _ _ => ?_)
  have hP : va_P E.1 xcl (xV E a (a 6) (a 10) mm z8.2) H := hP
  refine lv_if_eq (tgt := 24) hx hb d_Nm_undo_11 (by decide) (fun c11 => ?_) (fun c11 => ?_)
  · have hlit := brP _ hlit c11
    refine lv_bipush (v := (-2 : Int32)) hx hb d_Nm_undo_24 (by decide) ?_
    cases hlit
    exact ret 0 _ _ _ _ trivial hP hS rfl d_Nm_undo_26
  · have hlit := brN _ hlit c11
    refine lv_aload_n hx hb d_Nm_undo_14 rfl (lv_at hl 0 rfl) ?_
    refine xg_Nm_4 hx hb hts hown hK hP q291 d_Nm_undo_15 ?_
    refine xg_Pilea_0 hx hb hts hown hK hP q111 d_Nm_undo_18 ?_
    refine lv_goto (tgt := 26) hx hb d_Nm_undo_21 (by decide) ?_
    cases hlit
    exact ret 0 _ _ _ _ trivial hP hS rfl d_Nm_undo_26

abbrev rm_x_Nm_most : Room := { frames := 5, cells := 0, slots := 0, locals := 113 }
theorem hd_x_Nm_most : y_Nm_most.cls ≠ "java/lang/invoke/MethodHandle" ∧ y_Nm_most.cls ≠ "java/lang/invoke/VarHandle" ∧ (parseMethodDescriptor y_Nm_most.desc).map (fun d => d.parameters.length) = some 1 := by decide +kernel
set_option maxHeartbeats 4000000 in
set_option maxRecDepth 100000 in
theorem cx_Nm_most (l : Launch) (E : xE) (a : Nat → Nat) (ha : xInj a 38) (mm : Nat) (h : Hp) (sz : Nat) (p1 : Int32) {r0 : Int32} {h9 : Hp} (hlit : x_Nm_most p1 h = some (r0, h9)) : Met l y_Nm_most (Cond.code y_Nm_most b_Nm_most 4 (some .int) :: TB) rm_x_Nm_most (fPc [.ref (a 0), .int p1] E.1 (xtys E) sz (xV E a (a 6) (a 10) mm h)) (fQi (fun _ : Nat => True) r0 E.1 (fun (z : Nat) => xV E a (a 6) (a 10) z h9) (xA a 38 sz)) 0 0 (xA a 38 sz) := by
  refine fl_startI (by decide) (Nat.le_of_ble_eq_true rfl) ?_
  intro p e s m args below meth c Q hx hb hml hown hts hsz hP hK hN ret ls hl
  subst hsz
  have hA : ∀ k, k < 38 → (xA a 38 s.heap.size) (a k) := xA_in
  have hS : va_S (xA a 38 s.heap.size) s.heap s.heap [] := va_S.rf
  have hl : lv_has ls 4 [(0, .ref (a 0)), (1, .int p1)] := hl
  refine lv_iload_n hx hb d_Nm_most_0 rfl (lv_at hl 1 rfl) ?_
  refine lv_iconst (v := (0 : Int32)) hx hb d_Nm_most_1 (by decide) ?_
  refine lv_iconst (v := (1 : Int32)) hx hb d_Nm_most_2 (by decide) ?_
  obtain ⟨r3, hl3, hlit⟩ := bindS hlit
  refine fCallI (fRunS (As := [.int p1, .int (0 : Int32), .int (1 : Int32)]) (rest := []) hx hb hml hown hts hK hN hP (cx_Nm_isOutside l E a ha (a 6) (a 10) mm h _ p1 (0 : Int32) (1 : Int32) (r0 := r3) hl3) q310 q263 q49 q264 hd_x_Nm_isOutside rfl rfl ⟨Nat.le_of_ble_eq_true rfl, Nat.le_of_ble_eq_true rfl⟩ rfl hl.1 rfl (Nat.le_of_ble_eq_true rfl) d_Nm_most_3 ⟨Nat.zero_le _, Nat.zero_le _⟩) hS (xA_up hS.1) (fun _ H locs hu3 hP hS _ _ => ?_)
  have hP : va_P E.1 xcl (xV E a (a 6) (a 10) mm h) H := hP
  refine lv_if_eq (tgt := 11) hx hb d_Nm_most_6 (by decide) (fun c6 => ?_) (fun c6 => ?_)
  · have hlit := brP _ hlit c6
    refine lv_aload_n hx hb d_Nm_most_11 rfl (lv_at hl 0 rfl) ?_
    obtain ⟨h_12, hl12, hlit⟩ := bindS hlit
    refine fCallQ (fRunV (As := []) (rest := []) (q0 := 0) (ci := 0) hx hb hml hown hts hK hN hP (cx_Nm_now l E a ha mm h _ (h9 := h_12) hl12) q348 q349 q12 q49 q350 hd_x_Nm_now rfl rfl ⟨Nat.le_of_ble_eq_true rfl, Nat.le_of_ble_eq_true rfl⟩ xe_0 rfl rfl rfl hl.1 rfl (Nat.le_of_ble_eq_true rfl) d_Nm_most_12 ⟨Nat.zero_le _, Nat.zero_le _⟩) hS (xA_up hS.1) (fun z12_ H locs hu12 hP hS _ _ => ?_)
    have hP : va_P E.1 xcl (xV E a (a 6) (a 10) (a 6) h_12) H := hP
    refine W.eq (g2 := F0 m 15 ls [.ref (a 5)]) rfl ?_
    refine lv_astore_n (lv' := [(2, .ref (a 5)), (0, .ref (a 0)), (1, .int p1)]) hx hb d_Nm_most_15 rfl hl (by decide) rfl (fun ls hl => ?_)
    refine lv_aload_n hx hb d_Nm_most_16 rfl (lv_at hl 0 rfl) ?_
    refine lv_iconst (v := (-1 : Int32)) hx hb d_Nm_most_17 (by decide) ?_
    obtain ⟨r18, hl18, hlit⟩ := bindS hlit
    refine fCallI (fRunV (As := [.int (-1 : Int32)]) (rest := []) (q0 := 5) (ci := 2) hx hb hml hown hts hK hN hP (cx_Moment_mostDish l E a ha (a 6) (a 10) h_12 _ (-1 : Int32) (r0 := r18) hl18) q477 q478 q479 q56 q480 hd_x_Moment_mostDish rfl rfl ⟨Nat.le_of_ble_eq_true rfl, Nat.le_of_ble_eq_true rfl⟩ xe_5 rfl rfl rfl hl.1 rfl (Nat.le_of_ble_eq_true rfl) d_Nm_most_18 ⟨Nat.zero_le _, Nat.zero_le _⟩) hS (xA_up hS.1) (fun _ H locs hu18 hP hS _ _ => ?_)
    have hP : va_P E.1 xcl (xV E a (a 6) (a 10) (a 6) h_12) H := hP
    refine lv_istore_n (lv' := [(3, .int r18), (2, .ref (a 5)), (0, .ref (a 0)), (1, .int p1)]) hx hb d_Nm_most_21 rfl hl (by decide) rfl (fun ls hl => ?_)
    refine lv_iload_n hx hb d_Nm_most_22 rfl (lv_at hl 3 rfl) ?_
    refine lv_if_ne (tgt := 30) hx hb d_Nm_most_23 (by decide) (fun c23 => ?_) (fun c23 => ?_)
    · have hlit := brN _ hlit c23
      refine lv_aload_n hx hb d_Nm_most_30 rfl (lv_at hl 1 rfl) ?_
      refine lv_iload_n hx hb d_Nm_most_31 rfl (lv_at hl 0 rfl) ?_
      refine lv_iconst (v := (-1 : Int32)) hx hb d_Nm_most_32 (by decide) ?_
      obtain ⟨r33, hl33, hlit⟩ := bindS hlit
      refine fCallI (fRunV (As := [.int r18, .int (-1 : Int32)]) (rest := []) (q0 := 5) (ci := 2) hx hb hml hown hts hK hN hP (cx_Moment_together l E a ha (a 6) (a 10) h_12 _ r18 (-1 : Int32) (r0 := r33) hl33) q405 q406 q407 q56 q408 hd_x_Moment_together rfl rfl ⟨Nat.le_of_ble_eq_true rfl, Nat.le_of_ble_eq_true rfl⟩ xe_5 rfl rfl rfl hl.1 rfl (Nat.le_of_ble_eq_true rfl) d_Nm_most_33 ⟨Nat.zero_le _, Nat.zero_le _⟩) hS (xA_up hS.1) (fun _ H locs hu33 hP hS _ _ => ?_)
      have hP : va_P E.1 xcl (xV E a (a 6) (a 10) (a 6) h_12) H := hP
      cases hlit
      exact ret (a 6) _ _ _ _ trivial hP hS rfl d_Nm_most_36
    · have hlit := brP _ hlit c23
      refine lv_iload_n hx hb d_Nm_most_26 rfl (lv_at hl 0 rfl) ?_
      refine lv_goto (tgt := 36) hx hb d_Nm_most_27 (by decide) ?_
      cases hlit
      exact ret (a 6) _ _ _ _ trivial hP hS rfl d_Nm_most_36
  · have hlit := brN _ hlit c6
    refine lv_iconst (v := (-1 : Int32)) hx hb d_Nm_most_9 (by decide) ?_
    cases hlit
    exact ret mm _ _ _ _ trivial hP hS rfl d_Nm_most_10

abbrev rm_x_Nm_fair : Room := { frames := 6, cells := 0, slots := 0, locals := 134 }
theorem hd_x_Nm_fair : y_Nm_fair.cls ≠ "java/lang/invoke/MethodHandle" ∧ y_Nm_fair.cls ≠ "java/lang/invoke/VarHandle" ∧ (parseMethodDescriptor y_Nm_fair.desc).map (fun d => d.parameters.length) = some 1 := by decide +kernel
set_option maxHeartbeats 4000000 in
set_option maxRecDepth 100000 in
theorem cx_Nm_fair (l : Launch) (E : xE) (a : Nat → Nat) (ha : xInj a 38) (mm : Nat) (h : Hp) (sz : Nat) (p1 : Int32) {r0 : Int32} {h9 : Hp} (hlit : x_Nm_fair p1 h = some (r0, h9)) : Met l y_Nm_fair (Cond.code y_Nm_fair b_Nm_fair 4 (some .int) :: TB) rm_x_Nm_fair (fPc [.ref (a 0), .int p1] E.1 (xtys E) sz (xV E a (a 6) (a 10) mm h)) (fQi (fun _ : Nat => True) r0 E.1 (fun (z : Nat) => xV E a (a 6) (a 10) z h9) (xA a 38 sz)) 0 0 (xA a 38 sz) := by
  refine fl_startI (by decide) (Nat.le_of_ble_eq_true rfl) ?_
  intro p e s m args below meth c Q hx hb hml hown hts hsz hP hK hN ret ls hl
  subst hsz
  have hA : ∀ k, k < 38 → (xA a 38 s.heap.size) (a k) := xA_in
  have hS : va_S (xA a 38 s.heap.size) s.heap s.heap [] := va_S.rf
  have hl : lv_has ls 4 [(0, .ref (a 0)), (1, .int p1)] := hl
  refine lv_iload_n hx hb d_Nm_fair_0 rfl (lv_at hl 1 rfl) ?_
  refine lv_iconst (v := (0 : Int32)) hx hb d_Nm_fair_1 (by decide) ?_
  refine lv_iconst (v := (1 : Int32)) hx hb d_Nm_fair_2 (by decide) ?_
  obtain ⟨r3, hl3, hlit⟩ := bindS hlit
  refine fCallI (fRunS (As := [.int p1, .int (0 : Int32), .int (1 : Int32)]) (rest := []) hx hb hml hown hts hK hN hP (cx_Nm_isOutside l E a ha (a 6) (a 10) mm h _ p1 (0 : Int32) (1 : Int32) (r0 := r3) hl3) q310 q263 q49 q264 hd_x_Nm_isOutside rfl rfl ⟨Nat.le_of_ble_eq_true rfl, Nat.le_of_ble_eq_true rfl⟩ rfl hl.1 rfl (Nat.le_of_ble_eq_true rfl) d_Nm_fair_3 ⟨Nat.zero_le _, Nat.zero_le _⟩) hS (xA_up hS.1) (fun _ H locs hu3 hP hS _ _ => ?_)
  have hP : va_P E.1 xcl (xV E a (a 6) (a 10) mm h) H := hP
  refine lv_if_eq (tgt := 11) hx hb d_Nm_fair_6 (by decide) (fun c6 => ?_) (fun c6 => ?_)
  · have hlit := brP _ hlit c6
    refine lv_aload_n hx hb d_Nm_fair_11 rfl (lv_at hl 0 rfl) ?_
    obtain ⟨h_12, hl12, hlit⟩ := bindS hlit
    refine fCallQ (fRunV (As := []) (rest := []) (q0 := 0) (ci := 0) hx hb hml hown hts hK hN hP (cx_Nm_now l E a ha mm h _ (h9 := h_12) hl12) q348 q349 q12 q49 q350 hd_x_Nm_now rfl rfl ⟨Nat.le_of_ble_eq_true rfl, Nat.le_of_ble_eq_true rfl⟩ xe_0 rfl rfl rfl hl.1 rfl (Nat.le_of_ble_eq_true rfl) d_Nm_fair_12 ⟨Nat.zero_le _, Nat.zero_le _⟩) hS (xA_up hS.1) (fun z12_ H locs hu12 hP hS _ _ => ?_)
    have hP : va_P E.1 xcl (xV E a (a 6) (a 10) (a 6) h_12) H := hP
    refine W.eq (g2 := F0 m 15 ls [.ref (a 5)]) rfl ?_
    refine lv_astore_n (lv' := [(2, .ref (a 5)), (0, .ref (a 0)), (1, .int p1)]) hx hb d_Nm_fair_15 rfl hl (by decide) rfl (fun ls hl => ?_)
    refine lv_aload_n hx hb d_Nm_fair_16 rfl (lv_at hl 0 rfl) ?_
    obtain ⟨r17, hl17, hlit⟩ := bindS hlit
    refine fCallI (fRunV (As := []) (rest := []) (q0 := 5) (ci := 2) hx hb hml hown hts hK hN hP (cx_Moment_fairDish l E a ha (a 6) (a 10) h_12 _ (r0 := r17) hl17) q486 q487 q488 q56 q489 hd_x_Moment_fairDish rfl rfl ⟨Nat.le_of_ble_eq_true rfl, Nat.le_of_ble_eq_true rfl⟩ xe_5 rfl rfl rfl hl.1 rfl (Nat.le_of_ble_eq_true rfl) d_Nm_fair_17 ⟨Nat.zero_le _, Nat.zero_le _⟩) hS (xA_up hS.1) (fun _ H locs hu17 hP hS _ _ => ?_)
    have hP : va_P E.1 xcl (xV E a (a 6) (a 10) (a 6) h_12) H := hP
    refine lv_istore_n (lv' := [(3, .int r17), (2, .ref (a 5)), (0, .ref (a 0)), (1, .int p1)]) hx hb d_Nm_fair_20 rfl hl (by decide) rfl (fun ls hl => ?_)
    refine lv_iload_n hx hb d_Nm_fair_21 rfl (lv_at hl 3 rfl) ?_
    refine lv_if_ne (tgt := 29) hx hb d_Nm_fair_22 (by decide) (fun c22 => ?_) (fun c22 => ?_)
    · have hlit := brN _ hlit c22
      refine lv_aload_n hx hb d_Nm_fair_29 rfl (lv_at hl 1 rfl) ?_
      refine lv_iload_n hx hb d_Nm_fair_30 rfl (lv_at hl 0 rfl) ?_
      obtain ⟨r31, hl31, hlit⟩ := bindS hlit
      refine fCallI (fRunV (As := [.int r17]) (rest := []) (q0 := 5) (ci := 2) hx hb hml hown hts hK hN hP (cx_Moment_leastWorth l E a ha (a 6) (a 10) h_12 _ r17 (r0 := r31) hl31) q497 q494 q495 q56 q496 hd_x_Moment_leastWorth rfl rfl ⟨Nat.le_of_ble_eq_true rfl, Nat.le_of_ble_eq_true rfl⟩ xe_5 rfl rfl rfl hl.1 rfl (Nat.le_of_ble_eq_true rfl) d_Nm_fair_31 ⟨Nat.zero_le _, Nat.zero_le _⟩) hS (xA_up hS.1) (fun _ H locs hu31 hP hS _ _ => ?_)
      have hP : va_P E.1 xcl (xV E a (a 6) (a 10) (a 6) h_12) H := hP
      cases hlit
      exact ret (a 6) _ _ _ _ trivial hP hS rfl d_Nm_fair_34
    · have hlit := brP _ hlit c22
      refine lv_iload_n hx hb d_Nm_fair_25 rfl (lv_at hl 0 rfl) ?_
      refine lv_goto (tgt := 34) hx hb d_Nm_fair_26 (by decide) ?_
      cases hlit
      exact ret (a 6) _ _ _ _ trivial hP hS rfl d_Nm_fair_34
  · have hlit := brN _ hlit c6
    refine lv_iconst (v := (-1 : Int32)) hx hb d_Nm_fair_9 (by decide) ?_
    cases hlit
    exact ret mm _ _ _ _ trivial hP hS rfl d_Nm_fair_10

abbrev rm_x_Nm_isOnOffer : Room := { frames := 1, cells := 0, slots := 0, locals := 21 }
theorem hd_x_Nm_isOnOffer : y_Nm_isOnOffer.cls ≠ "java/lang/invoke/MethodHandle" ∧ y_Nm_isOnOffer.cls ≠ "java/lang/invoke/VarHandle" ∧ (parseMethodDescriptor y_Nm_isOnOffer.desc).map (fun d => d.parameters.length) = some 1 := by decide +kernel
set_option maxHeartbeats 4000000 in
set_option maxRecDepth 100000 in
theorem cx_Nm_isOnOffer (l : Launch) (E : xE) (a : Nat → Nat) (ha : xInj a 38) (mm : Nat) (h : Hp) (sz : Nat) (p1 : Int32) {r0 : Int32} (hlit : x_Nm_isOnOffer p1 h = some r0) : Met l y_Nm_isOnOffer (Cond.code y_Nm_isOnOffer b_Nm_isOnOffer 2 (some .boolean) :: TB) rm_x_Nm_isOnOffer (fPc [.ref (a 0), .int p1] E.1 (xtys E) sz (xV E a (a 6) (a 10) mm h)) (fQi (fun _ : Nat => True) r0 E.1 (fun (_ : Nat) => xV E a (a 6) (a 10) mm h) (xA a 38 sz)) 0 0 (xA a 38 sz) := by
  refine fl_startI (by decide) (Nat.le_of_ble_eq_true rfl) ?_
  intro p e s m args below meth c Q hx hb hml hown hts hsz hP hK hN ret ls hl
  subst hsz
  have hA : ∀ k, k < 38 → (xA a 38 s.heap.size) (a k) := xA_in
  have hS : va_S (xA a 38 s.heap.size) s.heap s.heap [] := va_S.rf
  have hl : lv_has ls 2 [(0, .ref (a 0)), (1, .int p1)] := hl
  refine lv_aload_n hx hb d_Nm_isOnOffer_0 rfl (lv_at hl 0 rfl) ?_
  refine xg_Nm_7 hx hb hts hown hK hP q294 d_Nm_isOnOffer_1 ?_
  refine lv_iload_n hx hb d_Nm_isOnOffer_4 rfl (lv_at hl 1 rfl) ?_
  obtain ⟨r5, hl5, hlit⟩ := bindS hlit
  refine fCallI (fRunV (As := [.int p1]) (rest := []) (q0 := 6) (ci := 1) hx hb hml hown hts hK hN hP (cx_Menu_hasDish l E a ha (a 6) (a 10) mm h _ 6 rfl p1 (r0 := r5) hl5) q392 q275 q276 q55 q277 hd_x_Menu_hasDish rfl rfl ⟨Nat.le_of_ble_eq_true rfl, Nat.le_of_ble_eq_true rfl⟩ (xeU rfl) rfl rfl rfl hl.1 rfl (Nat.le_of_ble_eq_true rfl) d_Nm_isOnOffer_5 ⟨Nat.zero_le _, Nat.zero_le _⟩) hS (xA_up hS.1) (fun _ H locs hu5 hP hS _ _ => ?_)
  have hP : va_P E.1 xcl (xV E a (a 6) (a 10) mm h) H := hP
  refine lv_if_eq (tgt := 26) hx hb d_Nm_isOnOffer_8 (by decide) (fun c8 => ?_) (fun c8 => ?_)
  · have hlit := brP _ hlit c8
    refine lv_iconst (v := (0 : Int32)) hx hb d_Nm_isOnOffer_26 (by decide) ?_
    cases hlit
    exact ret 0 _ _ _ _ trivial hP hS rfl d_Nm_isOnOffer_27
  · have hlit := brN _ hlit c8
    refine lv_aload_n hx hb d_Nm_isOnOffer_11 rfl (lv_at hl 0 rfl) ?_
    refine xg_Nm_1 hx hb hts hown hK hP q288 d_Nm_isOnOffer_12 ?_
    refine lv_iload_n hx hb d_Nm_isOnOffer_15 rfl (lv_at hl 1 rfl) ?_
    obtain ⟨r16, hl16, hlit⟩ := bindS hlit
    refine fCallI (fRunV (As := [.int p1]) (rest := []) (q0 := 3) (ci := 7) hx hb hml hown hts hK hN hP (cx_Table_isVetoed l E a ha (a 6) (a 10) mm h _ 3 rfl p1 (r0 := r16) hl16) q397 q398 q399 q51 q400 hd_x_Table_isVetoed rfl rfl ⟨Nat.le_of_ble_eq_true rfl, Nat.le_of_ble_eq_true rfl⟩ (xeT rfl) rfl rfl rfl hl.1 rfl (Nat.le_of_ble_eq_true rfl) d_Nm_isOnOffer_16 ⟨Nat.zero_le _, Nat.zero_le _⟩) hS (xA_up hS.1) (fun _ H locs hu16 hP hS _ _ => ?_)
    have hP : va_P E.1 xcl (xV E a (a 6) (a 10) mm h) H := hP
    refine lv_if_ne (tgt := 26) hx hb d_Nm_isOnOffer_19 (by decide) (fun c19 => ?_) (fun c19 => ?_)
    · have hlit := brN _ hlit c19
      refine lv_iconst (v := (0 : Int32)) hx hb d_Nm_isOnOffer_26 (by decide) ?_
      cases hlit
      exact ret 0 _ _ _ _ trivial hP hS rfl d_Nm_isOnOffer_27
    · have hlit := brP _ hlit c19
      refine lv_iconst (v := (1 : Int32)) hx hb d_Nm_isOnOffer_22 (by decide) ?_
      refine lv_goto (tgt := 27) hx hb d_Nm_isOnOffer_23 (by decide) ?_
      cases hlit
      exact ret 0 _ _ _ _ trivial hP hS rfl d_Nm_isOnOffer_27

abbrev rm_x_Nm_beats : Room := { frames := 4, cells := 0, slots := 0, locals := 90 }
theorem hd_x_Nm_beats : y_Nm_beats.cls ≠ "java/lang/invoke/MethodHandle" ∧ y_Nm_beats.cls ≠ "java/lang/invoke/VarHandle" ∧ (parseMethodDescriptor y_Nm_beats.desc).map (fun d => d.parameters.length) = some 2 := by decide +kernel
set_option maxHeartbeats 4000000 in
set_option maxRecDepth 100000 in
theorem cx_Nm_beats (l : Launch) (E : xE) (a : Nat → Nat) (ha : xInj a 38) (mm : Nat) (h : Hp) (sz : Nat) (p1 : Int32) (p2 : Int32) {r0 : Int32} {h9 : Hp} (hlit : x_Nm_beats p1 p2 h = some (r0, h9)) : Met l y_Nm_beats (Cond.code y_Nm_beats b_Nm_beats 3 (some .int) :: TB) rm_x_Nm_beats (fPc [.ref (a 0), .int p1, .int p2] E.1 (xtys E) sz (xV E a (a 6) (a 10) mm h)) (fQi (fun _ : Nat => True) r0 E.1 (fun (z : Nat) => xV E a (a 6) (a 10) z h9) (xA a 38 sz)) 0 0 (xA a 38 sz) := by
  refine fl_startI (by decide) (Nat.le_of_ble_eq_true rfl) ?_
  intro p e s m args below meth c Q hx hb hml hown hts hsz hP hK hN ret ls hl
  subst hsz
  have hA : ∀ k, k < 38 → (xA a 38 s.heap.size) (a k) := xA_in
  have hS : va_S (xA a 38 s.heap.size) s.heap s.heap [] := va_S.rf
  have hl : lv_has ls 3 [(0, .ref (a 0)), (1, .int p1), (2, .int p2)] := hl
  refine lv_aload_n hx hb d_Nm_beats_0 rfl (lv_at hl 0 rfl) ?_
  refine lv_iload_n hx hb d_Nm_beats_1 rfl (lv_at hl 1 rfl) ?_
  obtain ⟨r2, hl2, hlit⟩ := bindS hlit
  refine fCallI (fRunV (As := [.int p1]) (rest := []) (q0 := 0) (ci := 0) hx hb hml hown hts hK hN hP (cx_Nm_isOnOffer l E a ha mm h _ p1 (r0 := r2) hl2) q502 q503 q18 q49 q504 hd_x_Nm_isOnOffer rfl rfl ⟨Nat.le_of_ble_eq_true rfl, Nat.le_of_ble_eq_true rfl⟩ xe_0 rfl rfl rfl hl.1 rfl (Nat.le_of_ble_eq_true rfl) d_Nm_beats_2 ⟨Nat.zero_le _, Nat.zero_le _⟩) hS (xA_up hS.1) (fun _ H locs hu2 hP hS _ _ => ?_)
  have hP : va_P E.1 xcl (xV E a (a 6) (a 10) mm h) H := hP
  refine lv_if_eq (tgt := 21) hx hb d_Nm_beats_5 (by decide) (fun c5 => ?_) (fun c5 => ?_)
  · have hlit := brP _ hlit c5
    refine lv_iconst (v := (-1 : Int32)) hx hb d_Nm_beats_21 (by decide) ?_
    cases hlit
    exact ret mm _ _ _ _ trivial hP hS rfl d_Nm_beats_22
  · have hlit := brN _ hlit c5
    refine lv_aload_n hx hb d_Nm_beats_8 rfl (lv_at hl 0 rfl) ?_
    refine lv_iload_n hx hb d_Nm_beats_9 rfl (lv_at hl 2 rfl) ?_
    obtain ⟨r10, hl10, hlit⟩ := bindS hlit
    refine fCallI (fRunV (As := [.int p2]) (rest := []) (q0 := 0) (ci := 0) hx hb hml hown hts hK hN hP (cx_Nm_isOnOffer l E a ha mm h _ p2 (r0 := r10) hl10) q502 q503 q18 q49 q504 hd_x_Nm_isOnOffer rfl rfl ⟨Nat.le_of_ble_eq_true rfl, Nat.le_of_ble_eq_true rfl⟩ xe_0 rfl rfl rfl hl.1 rfl (Nat.le_of_ble_eq_true rfl) d_Nm_beats_10 ⟨Nat.zero_le _, Nat.zero_le _⟩) hS (xA_up hS.1) (fun _ H locs hu10 hP hS _ _ => ?_)
    have hP : va_P E.1 xcl (xV E a (a 6) (a 10) mm h) H := hP
    refine lv_if_eq (tgt := 21) hx hb d_Nm_beats_13 (by decide) (fun c13 => ?_) (fun c13 => ?_)
    · have hlit := brP _ hlit c13
      refine lv_iconst (v := (-1 : Int32)) hx hb d_Nm_beats_21 (by decide) ?_
      cases hlit
      exact ret mm _ _ _ _ trivial hP hS rfl d_Nm_beats_22
    · have hlit := brN _ hlit c13
      refine lv_iload_n hx hb d_Nm_beats_16 rfl (lv_at hl 1 rfl) ?_
      refine lv_iload_n hx hb d_Nm_beats_17 rfl (lv_at hl 2 rfl) ?_
      refine lv_icmp_ne (tgt := 23) hx hb d_Nm_beats_18 (by decide) (fun c18 => ?_) (fun c18 => ?_)
      · have hlit := brN _ hlit c18
        refine lv_aload_n hx hb d_Nm_beats_23 rfl (lv_at hl 0 rfl) ?_
        obtain ⟨h_24, hl24, hlit⟩ := bindS hlit
        refine fCallQ (fRunV (As := []) (rest := []) (q0 := 0) (ci := 0) hx hb hml hown hts hK hN hP (cx_Nm_now l E a ha mm h _ (h9 := h_24) hl24) q348 q349 q12 q49 q350 hd_x_Nm_now rfl rfl ⟨Nat.le_of_ble_eq_true rfl, Nat.le_of_ble_eq_true rfl⟩ xe_0 rfl rfl rfl hl.1 rfl (Nat.le_of_ble_eq_true rfl) d_Nm_beats_24 ⟨Nat.zero_le _, Nat.zero_le _⟩) hS (xA_up hS.1) (fun z24_ H locs hu24 hP hS _ _ => ?_)
        have hP : va_P E.1 xcl (xV E a (a 6) (a 10) (a 6) h_24) H := hP
        refine W.eq (g2 := F0 m 27 ls [.ref (a 5)]) rfl ?_
        refine lv_iload_n hx hb d_Nm_beats_27 rfl (lv_at hl 1 rfl) ?_
        refine lv_iload_n hx hb d_Nm_beats_28 rfl (lv_at hl 2 rfl) ?_
        obtain ⟨r29, hl29, hlit⟩ := bindS hlit
        refine fCallI (fRunV (As := [.int p1, .int p2]) (rest := []) (q0 := 5) (ci := 2) hx hb hml hown hts hK hN hP (cx_Moment_lead l E a ha (a 6) (a 10) h_24 _ p1 p2 (r0 := r29) hl29) q505 q506 q507 q56 q508 hd_x_Moment_lead rfl rfl ⟨Nat.le_of_ble_eq_true rfl, Nat.le_of_ble_eq_true rfl⟩ xe_5 rfl rfl rfl hl.1 rfl (Nat.le_of_ble_eq_true rfl) d_Nm_beats_29 ⟨Nat.zero_le _, Nat.zero_le _⟩) hS (xA_up hS.1) (fun _ H locs hu29 hP hS _ _ => ?_)
        have hP : va_P E.1 xcl (xV E a (a 6) (a 10) (a 6) h_24) H := hP
        refine lv_bipush (v := (50 : Int32)) hx hb d_Nm_beats_32 (by decide) ?_
        refine lv_iadd hx hb d_Nm_beats_34 ?_
        cases hlit
        exact ret (a 6) _ _ _ _ trivial hP hS rfl d_Nm_beats_35
      · have hlit := brP _ hlit c18
        refine lv_iconst (v := (-1 : Int32)) hx hb d_Nm_beats_21 (by decide) ?_
        cases hlit
        exact ret mm _ _ _ _ trivial hP hS rfl d_Nm_beats_22

abbrev rm_x_Nm_champion : Room := { frames := 6, cells := 0, slots := 0, locals := 133 }
theorem hd_x_Nm_champion : y_Nm_champion.cls ≠ "java/lang/invoke/MethodHandle" ∧ y_Nm_champion.cls ≠ "java/lang/invoke/VarHandle" ∧ (parseMethodDescriptor y_Nm_champion.desc).map (fun d => d.parameters.length) = some 0 := by decide +kernel
set_option maxHeartbeats 4000000 in
set_option maxRecDepth 100000 in
theorem cx_Nm_champion (l : Launch) (E : xE) (a : Nat → Nat) (ha : xInj a 38) (mm : Nat) (h : Hp) (sz : Nat) {r0 : Int32} {h9 : Hp} (hlit : x_Nm_champion h = some (r0, h9)) : Met l y_Nm_champion (Cond.code y_Nm_champion b_Nm_champion 1 (some .int) :: TB) rm_x_Nm_champion (fPc [.ref (a 0)] E.1 (xtys E) sz (xV E a (a 6) (a 10) mm h)) (fQi (fun _ : Nat => True) r0 E.1 (fun (z : Nat) => xV E a (a 6) (a 10) z h9) (xA a 38 sz)) 0 0 (xA a 38 sz) := by
  refine fl_startI (by decide) (Nat.le_of_ble_eq_true rfl) ?_
  intro p e s m args below meth c Q hx hb hml hown hts hsz hP hK hN ret ls hl
  subst hsz
  have hA : ∀ k, k < 38 → (xA a 38 s.heap.size) (a k) := xA_in
  have hS : va_S (xA a 38 s.heap.size) s.heap s.heap [] := va_S.rf
  have hl : lv_has ls 1 [(0, .ref (a 0))] := hl
  refine lv_aload_n hx hb d_Nm_champion_0 rfl (lv_at hl 0 rfl) ?_
  obtain ⟨h_1, hl1, hlit⟩ := bindS hlit
  refine fCallQ (fRunV (As := []) (rest := []) (q0 := 0) (ci := 0) hx hb hml hown hts hK hN hP (cx_Nm_now l E a ha mm h _ (h9 := h_1) hl1) q348 q349 q12 q49 q350 hd_x_Nm_now rfl rfl ⟨Nat.le_of_ble_eq_true rfl, Nat.le_of_ble_eq_true rfl⟩ xe_0 rfl rfl rfl hl.1 rfl (Nat.le_of_ble_eq_true rfl) d_Nm_champion_1 ⟨Nat.zero_le _, Nat.zero_le _⟩) hS (xA_up hS.1) (fun z1_ H locs hu1 hP hS _ _ => ?_)
  have hP : va_P E.1 xcl (xV E a (a 6) (a 10) (a 6) h_1) H := hP
  refine W.eq (g2 := F0 m 4 ls [.ref (a 5)]) rfl ?_
  obtain ⟨r4, hl4, hlit⟩ := bindS hlit
  refine fCallI (fRunV (As := []) (rest := []) (q0 := 5) (ci := 2) hx hb hml hown hts hK hN hP (cx_Moment_winner l E a ha (a 6) (a 10) h_1 _ (r0 := r4) hl4) q516 q517 q518 q56 q519 hd_x_Moment_winner rfl rfl ⟨Nat.le_of_ble_eq_true rfl, Nat.le_of_ble_eq_true rfl⟩ xe_5 rfl rfl rfl hl.1 rfl (Nat.le_of_ble_eq_true rfl) d_Nm_champion_4 ⟨Nat.zero_le _, Nat.zero_le _⟩) hS (xA_up hS.1) (fun _ H locs hu4 hP hS _ _ => ?_)
  have hP : va_P E.1 xcl (xV E a (a 6) (a 10) (a 6) h_1) H := hP
  cases hlit
  exact ret (a 6) _ _ _ _ trivial hP hS rfl d_Nm_champion_7

abbrev rm_x_Nm_middle : Room := { frames := 6, cells := 0, slots := 0, locals := 135 }
theorem hd_x_Nm_middle : y_Nm_middle.cls ≠ "java/lang/invoke/MethodHandle" ∧ y_Nm_middle.cls ≠ "java/lang/invoke/VarHandle" ∧ (parseMethodDescriptor y_Nm_middle.desc).map (fun d => d.parameters.length) = some 0 := by decide +kernel
set_option maxHeartbeats 4000000 in
set_option maxRecDepth 100000 in
theorem cx_Nm_middle (l : Launch) (E : xE) (a : Nat → Nat) (ha : xInj a 38) (mm : Nat) (h : Hp) (sz : Nat) {r0 : Int32} {h9 : Hp} (hlit : x_Nm_middle h = some (r0, h9)) : Met l y_Nm_middle (Cond.code y_Nm_middle b_Nm_middle 1 (some .int) :: TB) rm_x_Nm_middle (fPc [.ref (a 0)] E.1 (xtys E) sz (xV E a (a 6) (a 10) mm h)) (fQi (fun _ : Nat => True) r0 E.1 (fun (z : Nat) => xV E a (a 6) (a 10) z h9) (xA a 38 sz)) 0 0 (xA a 38 sz) := by
  refine fl_startI (by decide) (Nat.le_of_ble_eq_true rfl) ?_
  intro p e s m args below meth c Q hx hb hml hown hts hsz hP hK hN ret ls hl
  subst hsz
  have hA : ∀ k, k < 38 → (xA a 38 s.heap.size) (a k) := xA_in
  have hS : va_S (xA a 38 s.heap.size) s.heap s.heap [] := va_S.rf
  have hl : lv_has ls 1 [(0, .ref (a 0))] := hl
  refine lv_aload_n hx hb d_Nm_middle_0 rfl (lv_at hl 0 rfl) ?_
  obtain ⟨h_1, hl1, hlit⟩ := bindS hlit
  refine fCallQ (fRunV (As := []) (rest := []) (q0 := 0) (ci := 0) hx hb hml hown hts hK hN hP (cx_Nm_now l E a ha mm h _ (h9 := h_1) hl1) q348 q349 q12 q49 q350 hd_x_Nm_now rfl rfl ⟨Nat.le_of_ble_eq_true rfl, Nat.le_of_ble_eq_true rfl⟩ xe_0 rfl rfl rfl hl.1 rfl (Nat.le_of_ble_eq_true rfl) d_Nm_middle_1 ⟨Nat.zero_le _, Nat.zero_le _⟩) hS (xA_up hS.1) (fun z1_ H locs hu1 hP hS _ _ => ?_)
  have hP : va_P E.1 xcl (xV E a (a 6) (a 10) (a 6) h_1) H := hP
  refine W.eq (g2 := F0 m 4 ls [.ref (a 5)]) rfl ?_
  obtain ⟨r4, hl4, hlit⟩ := bindS hlit
  refine fCallI (fRunV (As := []) (rest := []) (q0 := 5) (ci := 2) hx hb hml hown hts hK hN hP (cx_Moment_nobodysWorst l E a ha (a 6) (a 10) h_1 _ (r0 := r4) hl4) q528 q529 q530 q56 q531 hd_x_Moment_nobodysWorst rfl rfl ⟨Nat.le_of_ble_eq_true rfl, Nat.le_of_ble_eq_true rfl⟩ xe_5 rfl rfl rfl hl.1 rfl (Nat.le_of_ble_eq_true rfl) d_Nm_middle_4 ⟨Nat.zero_le _, Nat.zero_le _⟩) hS (xA_up hS.1) (fun _ H locs hu4 hP hS _ _ => ?_)
  have hP : va_P E.1 xcl (xV E a (a 6) (a 10) (a 6) h_1) H := hP
  cases hlit
  exact ret (a 6) _ _ _ _ trivial hP hS rfl d_Nm_middle_7

abbrev rm_x_Nm_struck : Room := { frames := 5, cells := 0, slots := 0, locals := 114 }
theorem hd_x_Nm_struck : y_Nm_struck.cls ≠ "java/lang/invoke/MethodHandle" ∧ y_Nm_struck.cls ≠ "java/lang/invoke/VarHandle" ∧ (parseMethodDescriptor y_Nm_struck.desc).map (fun d => d.parameters.length) = some 1 := by decide +kernel
set_option maxHeartbeats 4000000 in
set_option maxRecDepth 100000 in
theorem cx_Nm_struck (l : Launch) (E : xE) (a : Nat → Nat) (ha : xInj a 38) (mm : Nat) (h : Hp) (sz : Nat) (p1 : Int32) {r0 : Int32} {h9 : Hp} (hlit : x_Nm_struck p1 h = some (r0, h9)) : Met l y_Nm_struck (Cond.code y_Nm_struck b_Nm_struck 2 (some .int) :: TB) rm_x_Nm_struck (fPc [.ref (a 0), .int p1] E.1 (xtys E) sz (xV E a (a 6) (a 10) mm h)) (fQi (fun _ : Nat => True) r0 E.1 (fun (z : Nat) => xV E a (a 6) (a 10) z h9) (xA a 38 sz)) 0 0 (xA a 38 sz) := by
  refine fl_startI (by decide) (Nat.le_of_ble_eq_true rfl) ?_
  intro p e s m args below meth c Q hx hb hml hown hts hsz hP hK hN ret ls hl
  subst hsz
  have hA : ∀ k, k < 38 → (xA a 38 s.heap.size) (a k) := xA_in
  have hS : va_S (xA a 38 s.heap.size) s.heap s.heap [] := va_S.rf
  have hl : lv_has ls 2 [(0, .ref (a 0)), (1, .int p1)] := hl
  refine lv_aload_n hx hb d_Nm_struck_0 rfl (lv_at hl 0 rfl) ?_
  refine xg_Nm_7 hx hb hts hown hK hP q294 d_Nm_struck_1 ?_
  refine lv_iload_n hx hb d_Nm_struck_4 rfl (lv_at hl 1 rfl) ?_
  obtain ⟨r5, hl5, hlit⟩ := bindS hlit
  refine fCallI (fRunV (As := [.int p1]) (rest := []) (q0 := 6) (ci := 1) hx hb hml hown hts hK hN hP (cx_Menu_hasGuest l E a ha (a 6) (a 10) mm h _ 6 rfl p1 (r0 := r5) hl5) q331 q332 q333 q55 q334 hd_x_Menu_hasGuest rfl rfl ⟨Nat.le_of_ble_eq_true rfl, Nat.le_of_ble_eq_true rfl⟩ (xeU rfl) rfl rfl rfl hl.1 rfl (Nat.le_of_ble_eq_true rfl) d_Nm_struck_5 ⟨Nat.zero_le _, Nat.zero_le _⟩) hS (xA_up hS.1) (fun _ H locs hu5 hP hS _ _ => ?_)
  have hP : va_P E.1 xcl (xV E a (a 6) (a 10) mm h) H := hP
  refine lv_if_ne (tgt := 13) hx hb d_Nm_struck_8 (by decide) (fun c8 => ?_) (fun c8 => ?_)
  · have hlit := brN _ hlit c8
    refine lv_aload_n hx hb d_Nm_struck_13 rfl (lv_at hl 0 rfl) ?_
    obtain ⟨h_14, hl14, hlit⟩ := bindS hlit
    refine fCallQ (fRunV (As := []) (rest := []) (q0 := 0) (ci := 0) hx hb hml hown hts hK hN hP (cx_Nm_now l E a ha mm h _ (h9 := h_14) hl14) q348 q349 q12 q49 q350 hd_x_Nm_now rfl rfl ⟨Nat.le_of_ble_eq_true rfl, Nat.le_of_ble_eq_true rfl⟩ xe_0 rfl rfl rfl hl.1 rfl (Nat.le_of_ble_eq_true rfl) d_Nm_struck_14 ⟨Nat.zero_le _, Nat.zero_le _⟩) hS (xA_up hS.1) (fun z14_ H locs hu14 hP hS _ _ => ?_)
    have hP : va_P E.1 xcl (xV E a (a 6) (a 10) (a 6) h_14) H := hP
    refine W.eq (g2 := F0 m 17 ls [.ref (a 5)]) rfl ?_
    refine lv_iload_n hx hb d_Nm_struck_17 rfl (lv_at hl 1 rfl) ?_
    obtain ⟨r18, hl18, hlit⟩ := bindS hlit
    refine fCallI (fRunV (As := [.int p1]) (rest := []) (q0 := 5) (ci := 2) hx hb hml hown hts hK hN hP (cx_Moment_lastStanding l E a ha (a 6) (a 10) h_14 _ p1 (r0 := r18) hl18) q544 q545 q546 q56 q547 hd_x_Moment_lastStanding rfl rfl ⟨Nat.le_of_ble_eq_true rfl, Nat.le_of_ble_eq_true rfl⟩ xe_5 rfl rfl rfl hl.1 rfl (Nat.le_of_ble_eq_true rfl) d_Nm_struck_18 ⟨Nat.zero_le _, Nat.zero_le _⟩) hS (xA_up hS.1) (fun _ H locs hu18 hP hS _ _ => ?_)
    have hP : va_P E.1 xcl (xV E a (a 6) (a 10) (a 6) h_14) H := hP
    cases hlit
    exact ret (a 6) _ _ _ _ trivial hP hS rfl d_Nm_struck_21
  · have hlit := brP _ hlit c8
    refine lv_iconst (v := (-1 : Int32)) hx hb d_Nm_struck_11 (by decide) ?_
    cases hlit
    exact ret mm _ _ _ _ trivial hP hS rfl d_Nm_struck_12

abbrev rm_x_Nm_two : Room := { frames := 5, cells := 0, slots := 0, locals := 114 }
theorem hd_x_Nm_two : y_Nm_two.cls ≠ "java/lang/invoke/MethodHandle" ∧ y_Nm_two.cls ≠ "java/lang/invoke/VarHandle" ∧ (parseMethodDescriptor y_Nm_two.desc).map (fun d => d.parameters.length) = some 1 := by decide +kernel
set_option maxHeartbeats 4000000 in
set_option maxRecDepth 100000 in
theorem cx_Nm_two (l : Launch) (E : xE) (a : Nat → Nat) (ha : xInj a 38) (mm : Nat) (h : Hp) (sz : Nat) (p1 : Int32) {r0 : Int32} {h9 : Hp} (hlit : x_Nm_two p1 h = some (r0, h9)) : Met l y_Nm_two (Cond.code y_Nm_two b_Nm_two 4 (some .int) :: TB) rm_x_Nm_two (fPc [.ref (a 0), .int p1] E.1 (xtys E) sz (xV E a (a 6) (a 10) mm h)) (fQi (fun _ : Nat => True) r0 E.1 (fun (z : Nat) => xV E a (a 6) (a 10) z h9) (xA a 38 sz)) 0 0 (xA a 38 sz) := by
  refine fl_startI (by decide) (Nat.le_of_ble_eq_true rfl) ?_
  intro p e s m args below meth c Q hx hb hml hown hts hsz hP hK hN ret ls hl
  subst hsz
  have hA : ∀ k, k < 38 → (xA a 38 s.heap.size) (a k) := xA_in
  have hS : va_S (xA a 38 s.heap.size) s.heap s.heap [] := va_S.rf
  have hl : lv_has ls 4 [(0, .ref (a 0)), (1, .int p1)] := hl
  refine lv_iload_n hx hb d_Nm_two_0 rfl (lv_at hl 1 rfl) ?_
  refine lv_iconst (v := (0 : Int32)) hx hb d_Nm_two_1 (by decide) ?_
  refine lv_iconst (v := (1 : Int32)) hx hb d_Nm_two_2 (by decide) ?_
  obtain ⟨r3, hl3, hlit⟩ := bindS hlit
  refine fCallI (fRunS (As := [.int p1, .int (0 : Int32), .int (1 : Int32)]) (rest := []) hx hb hml hown hts hK hN hP (cx_Nm_isOutside l E a ha (a 6) (a 10) mm h _ p1 (0 : Int32) (1 : Int32) (r0 := r3) hl3) q310 q263 q49 q264 hd_x_Nm_isOutside rfl rfl ⟨Nat.le_of_ble_eq_true rfl, Nat.le_of_ble_eq_true rfl⟩ rfl hl.1 rfl (Nat.le_of_ble_eq_true rfl) d_Nm_two_3 ⟨Nat.zero_le _, Nat.zero_le _⟩) hS (xA_up hS.1) (fun _ H locs hu3 hP hS _ _ => ?_)
  have hP : va_P E.1 xcl (xV E a (a 6) (a 10) mm h) H := hP
  refine lv_if_eq (tgt := 11) hx hb d_Nm_two_6 (by decide) (fun c6 => ?_) (fun c6 => ?_)
  · have hlit := brP _ hlit c6
    refine lv_aload_n hx hb d_Nm_two_11 rfl (lv_at hl 0 rfl) ?_
    refine lv_aload_n hx hb d_Nm_two_12 rfl (lv_at hl 0 rfl) ?_
    refine xg_Nm_1 hx hb hts hown hK hP q288 d_Nm_two_13 ?_
    obtain ⟨r16, hl16, hlit⟩ := bindS hlit
    refine fCallI (fRunV (As := [.ref (a 3)]) (rest := []) (q0 := 0) (ci := 0) hx hb hml hown hts hK hN hP (cx_Nm_dishesLeft l E a ha mm h _ 3 rfl (r0 := r16) hl16) q443 q444 q16 q49 q445 hd_x_Nm_dishesLeft rfl rfl ⟨Nat.le_of_ble_eq_true rfl, Nat.le_of_ble_eq_true rfl⟩ xe_0 rfl rfl rfl hl.1 rfl (Nat.le_of_ble_eq_true rfl) d_Nm_two_16 ⟨Nat.zero_le _, Nat.zero_le _⟩) hS (xA_up hS.1) (fun _ H locs hu16 hP hS _ _ => ?_)
    have hP : va_P E.1 xcl (xV E a (a 6) (a 10) mm h) H := hP
    refine lv_iconst (v := (2 : Int32)) hx hb d_Nm_two_19 (by decide) ?_
    refine lv_icmp_ge (tgt := 26) hx hb d_Nm_two_20 (by decide) (fun c20 => ?_) (fun c20 => ?_)
    · have hlit := brP _ hlit c20
      refine lv_aload_n hx hb d_Nm_two_26 rfl (lv_at hl 0 rfl) ?_
      obtain ⟨h_27, hl27, hlit⟩ := bindS hlit
      refine fCallQ (fRunV (As := []) (rest := []) (q0 := 0) (ci := 0) hx hb hml hown hts hK hN hP (cx_Nm_now l E a ha mm h _ (h9 := h_27) hl27) q348 q349 q12 q49 q350 hd_x_Nm_now rfl rfl ⟨Nat.le_of_ble_eq_true rfl, Nat.le_of_ble_eq_true rfl⟩ xe_0 rfl rfl rfl hl.1 rfl (Nat.le_of_ble_eq_true rfl) d_Nm_two_27 ⟨Nat.zero_le _, Nat.zero_le _⟩) hS (xA_up hS.1) (fun z27_ H locs hu27 hP hS _ _ => ?_)
      have hP : va_P E.1 xcl (xV E a (a 6) (a 10) (a 6) h_27) H := hP
      refine W.eq (g2 := F0 m 30 ls [.ref (a 5)]) rfl ?_
      refine lv_astore_n (lv' := [(2, .ref (a 5)), (0, .ref (a 0)), (1, .int p1)]) hx hb d_Nm_two_30 rfl hl (by decide) rfl (fun ls hl => ?_)
      refine lv_aload_n hx hb d_Nm_two_31 rfl (lv_at hl 0 rfl) ?_
      obtain ⟨r32, hl32, hlit⟩ := bindS hlit
      refine fCallI (fRunV (As := []) (rest := []) (q0 := 5) (ci := 2) hx hb hml hown hts hK hN hP (cx_Moment_bestPair l E a ha (a 6) (a 10) h_27 _ (r0 := r32) hl32) q552 q553 q554 q56 q555 hd_x_Moment_bestPair rfl rfl ⟨Nat.le_of_ble_eq_true rfl, Nat.le_of_ble_eq_true rfl⟩ xe_5 rfl rfl rfl hl.1 rfl (Nat.le_of_ble_eq_true rfl) d_Nm_two_32 ⟨Nat.zero_le _, Nat.zero_le _⟩) hS (xA_up hS.1) (fun _ H locs hu32 hP hS _ _ => ?_)
      have hP : va_P E.1 xcl (xV E a (a 6) (a 10) (a 6) h_27) H := hP
      refine lv_istore_n (lv' := [(3, .int r32), (2, .ref (a 5)), (0, .ref (a 0)), (1, .int p1)]) hx hb d_Nm_two_35 rfl hl (by decide) rfl (fun ls hl => ?_)
      refine lv_iload_n hx hb d_Nm_two_36 rfl (lv_at hl 3 rfl) ?_
      refine lv_if_ne (tgt := 44) hx hb d_Nm_two_37 (by decide) (fun c37 => ?_) (fun c37 => ?_)
      · have hlit := brN _ hlit c37
        refine lv_aload_n hx hb d_Nm_two_44 rfl (lv_at hl 1 rfl) ?_
        refine lv_iload_n hx hb d_Nm_two_45 rfl (lv_at hl 0 rfl) ?_
        refine lv_bipush (v := (8 : Int32)) hx hb d_Nm_two_46 (by decide) ?_
        refine lv_idiv hx hb d_Nm_two_48 (by decide) ?_
        refine lv_iload_n hx hb d_Nm_two_49 rfl (lv_at hl 0 rfl) ?_
        refine lv_bipush (v := (8 : Int32)) hx hb d_Nm_two_50 (by decide) ?_
        refine lv_irem hx hb d_Nm_two_52 (by decide) ?_
        obtain ⟨r53, hl53, hlit⟩ := bindS hlit
        refine fCallI (fRunV (As := [.int (r32 / (8 : Int32)), .int (r32 - r32 / (8 : Int32) * (8 : Int32))]) (rest := []) (q0 := 5) (ci := 2) hx hb hml hown hts hK hN hP (cx_Moment_pairWorth l E a ha (a 6) (a 10) h_27 _ (r32 / (8 : Int32)) (r32 - r32 / (8 : Int32) * (8 : Int32)) (r0 := r53) hl53) q563 q557 q558 q56 q559 hd_x_Moment_pairWorth rfl rfl ⟨Nat.le_of_ble_eq_true rfl, Nat.le_of_ble_eq_true rfl⟩ xe_5 rfl rfl rfl hl.1 rfl (Nat.le_of_ble_eq_true rfl) d_Nm_two_53 ⟨Nat.zero_le _, Nat.zero_le _⟩) hS (xA_up hS.1) (fun _ H locs hu53 hP hS _ _ => ?_)
        have hP : va_P E.1 xcl (xV E a (a 6) (a 10) (a 6) h_27) H := hP
        cases hlit
        exact ret (a 6) _ _ _ _ trivial hP hS rfl d_Nm_two_56
      · have hlit := brP _ hlit c37
        refine lv_iload_n hx hb d_Nm_two_40 rfl (lv_at hl 0 rfl) ?_
        refine lv_goto (tgt := 56) hx hb d_Nm_two_41 (by decide) ?_
        cases hlit
        exact ret (a 6) _ _ _ _ trivial hP hS rfl d_Nm_two_56
    · have hlit := brN _ hlit c20
      refine lv_bipush (v := (-4 : Int32)) hx hb d_Nm_two_23 (by decide) ?_
      cases hlit
      exact ret mm _ _ _ _ trivial hP hS rfl d_Nm_two_25
  · have hlit := brN _ hlit c6
    refine lv_iconst (v := (-1 : Int32)) hx hb d_Nm_two_9 (by decide) ?_
    cases hlit
    exact ret mm _ _ _ _ trivial hP hS rfl d_Nm_two_10

abbrev rm_x_Nm_houses : Room := { frames := 5, cells := 0, slots := 0, locals := 114 }
theorem hd_x_Nm_houses : y_Nm_houses.cls ≠ "java/lang/invoke/MethodHandle" ∧ y_Nm_houses.cls ≠ "java/lang/invoke/VarHandle" ∧ (parseMethodDescriptor y_Nm_houses.desc).map (fun d => d.parameters.length) = some 1 := by decide +kernel
set_option maxHeartbeats 4000000 in
set_option maxRecDepth 100000 in
theorem cx_Nm_houses (l : Launch) (E : xE) (a : Nat → Nat) (ha : xInj a 38) (mm : Nat) (h : Hp) (sz : Nat) (p1 : Int32) {r0 : Int32} {h9 : Hp} (hlit : x_Nm_houses p1 h = some (r0, h9)) : Met l y_Nm_houses (Cond.code y_Nm_houses b_Nm_houses 5 (some .int) :: TB) rm_x_Nm_houses (fPc [.ref (a 0), .int p1] E.1 (xtys E) sz (xV E a (a 6) (a 10) mm h)) (fQi (fun _ : Nat => True) r0 E.1 (fun (z : Nat) => xV E a (a 6) (a 10) z h9) (xA a 38 sz)) 0 0 (xA a 38 sz) := by
  refine fl_startI (by decide) (Nat.le_of_ble_eq_true rfl) ?_
  intro p e s m args below meth c Q hx hb hml hown hts hsz hP hK hN ret ls hl
  subst hsz
  have hA : ∀ k, k < 38 → (xA a 38 s.heap.size) (a k) := xA_in
  have hS : va_S (xA a 38 s.heap.size) s.heap s.heap [] := va_S.rf
  have hl : lv_has ls 5 [(0, .ref (a 0)), (1, .int p1)] := hl
  refine lv_iload_n hx hb d_Nm_houses_0 rfl (lv_at hl 1 rfl) ?_
  refine lv_iconst (v := (0 : Int32)) hx hb d_Nm_houses_1 (by decide) ?_
  refine lv_bipush (v := (99 : Int32)) hx hb d_Nm_houses_2 (by decide) ?_
  obtain ⟨r4, hl4, hlit⟩ := bindS hlit
  refine fCallI (fRunS (As := [.int p1, .int (0 : Int32), .int (99 : Int32)]) (rest := []) hx hb hml hown hts hK hN hP (cx_Nm_isOutside l E a ha (a 6) (a 10) mm h _ p1 (0 : Int32) (99 : Int32) (r0 := r4) hl4) q310 q263 q49 q264 hd_x_Nm_isOutside rfl rfl ⟨Nat.le_of_ble_eq_true rfl, Nat.le_of_ble_eq_true rfl⟩ rfl hl.1 rfl (Nat.le_of_ble_eq_true rfl) d_Nm_houses_4 ⟨Nat.zero_le _, Nat.zero_le _⟩) hS (xA_up hS.1) (fun _ H locs hu4 hP hS _ _ => ?_)
  have hP : va_P E.1 xcl (xV E a (a 6) (a 10) mm h) H := hP
  refine lv_if_eq (tgt := 12) hx hb d_Nm_houses_7 (by decide) (fun c7 => ?_) (fun c7 => ?_)
  · have hlit := brP _ hlit c7
    refine lv_aload_n hx hb d_Nm_houses_12 rfl (lv_at hl 0 rfl) ?_
    refine lv_aload_n hx hb d_Nm_houses_13 rfl (lv_at hl 0 rfl) ?_
    refine xg_Nm_1 hx hb hts hown hK hP q288 d_Nm_houses_14 ?_
    obtain ⟨r17, hl17, hlit⟩ := bindS hlit
    refine fCallI (fRunV (As := [.ref (a 3)]) (rest := []) (q0 := 0) (ci := 0) hx hb hml hown hts hK hN hP (cx_Nm_dishesLeft l E a ha mm h _ 3 rfl (r0 := r17) hl17) q443 q444 q16 q49 q445 hd_x_Nm_dishesLeft rfl rfl ⟨Nat.le_of_ble_eq_true rfl, Nat.le_of_ble_eq_true rfl⟩ xe_0 rfl rfl rfl hl.1 rfl (Nat.le_of_ble_eq_true rfl) d_Nm_houses_17 ⟨Nat.zero_le _, Nat.zero_le _⟩) hS (xA_up hS.1) (fun _ H locs hu17 hP hS _ _ => ?_)
    have hP : va_P E.1 xcl (xV E a (a 6) (a 10) mm h) H := hP
    refine lv_iconst (v := (2 : Int32)) hx hb d_Nm_houses_20 (by decide) ?_
    refine lv_icmp_ge (tgt := 26) hx hb d_Nm_houses_21 (by decide) (fun c21 => ?_) (fun c21 => ?_)
    · have hlit := brP _ hlit c21
      refine lv_aload_n hx hb d_Nm_houses_26 rfl (lv_at hl 0 rfl) ?_
      obtain ⟨h_27, hl27, hlit⟩ := bindS hlit
      refine fCallQ (fRunV (As := []) (rest := []) (q0 := 0) (ci := 0) hx hb hml hown hts hK hN hP (cx_Nm_now l E a ha mm h _ (h9 := h_27) hl27) q348 q349 q12 q49 q350 hd_x_Nm_now rfl rfl ⟨Nat.le_of_ble_eq_true rfl, Nat.le_of_ble_eq_true rfl⟩ xe_0 rfl rfl rfl hl.1 rfl (Nat.le_of_ble_eq_true rfl) d_Nm_houses_27 ⟨Nat.zero_le _, Nat.zero_le _⟩) hS (xA_up hS.1) (fun z27_ H locs hu27 hP hS _ _ => ?_)
      have hP : va_P E.1 xcl (xV E a (a 6) (a 10) (a 6) h_27) H := hP
      refine W.eq (g2 := F0 m 30 ls [.ref (a 5)]) rfl ?_
      refine lv_astore_n (lv' := [(2, .ref (a 5)), (0, .ref (a 0)), (1, .int p1)]) hx hb d_Nm_houses_30 rfl hl (by decide) rfl (fun ls hl => ?_)
      refine lv_aload_n hx hb d_Nm_houses_31 rfl (lv_at hl 0 rfl) ?_
      obtain ⟨r32, hl32, hlit⟩ := bindS hlit
      refine fCallI (fRunV (As := []) (rest := []) (q0 := 5) (ci := 2) hx hb hml hown hts hK hN hP (cx_Moment_bestPair l E a ha (a 6) (a 10) h_27 _ (r0 := r32) hl32) q552 q553 q554 q56 q555 hd_x_Moment_bestPair rfl rfl ⟨Nat.le_of_ble_eq_true rfl, Nat.le_of_ble_eq_true rfl⟩ xe_5 rfl rfl rfl hl.1 rfl (Nat.le_of_ble_eq_true rfl) d_Nm_houses_32 ⟨Nat.zero_le _, Nat.zero_le _⟩) hS (xA_up hS.1) (fun _ H locs hu32 hP hS _ _ => ?_)
      have hP : va_P E.1 xcl (xV E a (a 6) (a 10) (a 6) h_27) H := hP
      refine lv_istore_n (lv' := [(3, .int r32), (2, .ref (a 5)), (0, .ref (a 0)), (1, .int p1)]) hx hb d_Nm_houses_35 rfl hl (by decide) rfl (fun ls hl => ?_)
      refine lv_aload_n hx hb d_Nm_houses_36 rfl (lv_at hl 1 rfl) ?_
      refine lv_iload_n hx hb d_Nm_houses_37 rfl (lv_at hl 0 rfl) ?_
      refine lv_bipush (v := (8 : Int32)) hx hb d_Nm_houses_38 (by decide) ?_
      refine lv_idiv hx hb d_Nm_houses_40 (by decide) ?_
      refine lv_iload_n hx hb d_Nm_houses_41 rfl (lv_at hl 0 rfl) ?_
      refine lv_bipush (v := (8 : Int32)) hx hb d_Nm_houses_42 (by decide) ?_
      refine lv_irem hx hb d_Nm_houses_44 (by decide) ?_
      obtain ⟨r45, hl45, hlit⟩ := bindS hlit
      refine fCallI (fRunV (As := [.int (r32 / (8 : Int32)), .int (r32 - r32 / (8 : Int32) * (8 : Int32))]) (rest := []) (q0 := 5) (ci := 2) hx hb hml hown hts hK hN hP (cx_Moment_pairWorth l E a ha (a 6) (a 10) h_27 _ (r32 / (8 : Int32)) (r32 - r32 / (8 : Int32) * (8 : Int32)) (r0 := r45) hl45) q563 q557 q558 q56 q559 hd_x_Moment_pairWorth rfl rfl ⟨Nat.le_of_ble_eq_true rfl, Nat.le_of_ble_eq_true rfl⟩ xe_5 rfl rfl rfl hl.1 rfl (Nat.le_of_ble_eq_true rfl) d_Nm_houses_45 ⟨Nat.zero_le _, Nat.zero_le _⟩) hS (xA_up hS.1) (fun _ H locs hu45 hP hS _ _ => ?_)
      have hP : va_P E.1 xcl (xV E a (a 6) (a 10) (a 6) h_27) H := hP
      refine lv_iload_n hx hb d_Nm_houses_48 rfl (lv_at hl 3 rfl) ?_
      refine lv_isub hx hb d_Nm_houses_49 ?_
      obtain ⟨y50, ey50, hlit⟩ := bindS hlit
      refine topn ey50 ?_
      refine lv_istore (lv' := [(4, .int y50), (3, .int r32), (2, .ref (a 5)), (0, .ref (a 0)), (1, .int p1)]) hx hb d_Nm_houses_50 hl (by decide) rfl (fun ls hl => ?_)
      refine lv_iload hx hb d_Nm_houses_52 (lv_at hl 0 rfl) ?_
      refine lv_aload_n hx hb d_Nm_houses_54 rfl (lv_at hl 2 rfl) ?_
      refine lv_aload_n hx hb d_Nm_houses_55 rfl (lv_at hl 2 rfl) ?_
      refine lv_iconst (v := (-1 : Int32)) hx hb d_Nm_houses_56 (by decide) ?_
      obtain ⟨r57, hl57, hlit⟩ := bindS hlit
      refine fCallI (fRunV (As := [.int (-1 : Int32)]) (rest := [.ref (a 5), .int y50]) (q0 := 5) (ci := 2) hx hb hml hown hts hK hN hP (cx_Moment_mostDish l E a ha (a 6) (a 10) h_27 _ (-1 : Int32) (r0 := r57) hl57) q477 q478 q479 q56 q480 hd_x_Moment_mostDish rfl rfl ⟨Nat.le_of_ble_eq_true rfl, Nat.le_of_ble_eq_true rfl⟩ xe_5 rfl rfl rfl hl.1 rfl (Nat.le_of_ble_eq_true rfl) d_Nm_houses_57 ⟨Nat.zero_le _, Nat.zero_le _⟩) hS (xA_up hS.1) (fun _ H locs hu57 hP hS _ _ => ?_)
      have hP : va_P E.1 xcl (xV E a (a 6) (a 10) (a 6) h_27) H := hP
      refine lv_iconst (v := (-1 : Int32)) hx hb d_Nm_houses_60 (by decide) ?_
      obtain ⟨r61, hl61, hlit⟩ := bindS hlit
      refine fCallI (fRunV (As := [.int r57, .int (-1 : Int32)]) (rest := [.int y50]) (q0 := 5) (ci := 2) hx hb hml hown hts hK hN hP (cx_Moment_together l E a ha (a 6) (a 10) h_27 _ r57 (-1 : Int32) (r0 := r61) hl61) q405 q406 q407 q56 q408 hd_x_Moment_together rfl rfl ⟨Nat.le_of_ble_eq_true rfl, Nat.le_of_ble_eq_true rfl⟩ xe_5 rfl rfl rfl hl.1 rfl (Nat.le_of_ble_eq_true rfl) d_Nm_houses_61 ⟨Nat.zero_le _, Nat.zero_le _⟩) hS (xA_up hS.1) (fun _ H locs hu61 hP hS _ _ => ?_)
      have hP : va_P E.1 xcl (xV E a (a 6) (a 10) (a 6) h_27) H := hP
      refine lv_icmp_le (tgt := 71) hx hb d_Nm_houses_64 (by decide) (fun c64 => ?_) (fun c64 => ?_)
      · have hlit := brP _ hlit c64
        refine lv_iconst (v := (2 : Int32)) hx hb d_Nm_houses_71 (by decide) ?_
        cases hlit
        exact ret (a 6) _ _ _ _ trivial hP hS rfl d_Nm_houses_72
      · have hlit := brN _ hlit c64
        refine lv_iconst (v := (1 : Int32)) hx hb d_Nm_houses_67 (by decide) ?_
        refine lv_goto (tgt := 72) hx hb d_Nm_houses_68 (by decide) ?_
        cases hlit
        exact ret (a 6) _ _ _ _ trivial hP hS rfl d_Nm_houses_72
    · have hlit := brN _ hlit c21
      refine lv_iconst (v := (2 : Int32)) hx hb d_Nm_houses_24 (by decide) ?_
      cases hlit
      exact ret mm _ _ _ _ trivial hP hS rfl d_Nm_houses_25
  · have hlit := brN _ hlit c7
    refine lv_iconst (v := (-1 : Int32)) hx hb d_Nm_houses_10 (by decide) ?_
    cases hlit
    exact ret mm _ _ _ _ trivial hP hS rfl d_Nm_houses_11

abbrev rm_x_Nm_waits : Room := { frames := 4, cells := 0, slots := 0, locals := 90 }
theorem hd_x_Nm_waits : y_Nm_waits.cls ≠ "java/lang/invoke/MethodHandle" ∧ y_Nm_waits.cls ≠ "java/lang/invoke/VarHandle" ∧ (parseMethodDescriptor y_Nm_waits.desc).map (fun d => d.parameters.length) = some 2 := by decide +kernel
set_option maxHeartbeats 4000000 in
set_option maxRecDepth 100000 in
theorem cx_Nm_waits (l : Launch) (E : xE) (a : Nat → Nat) (ha : xInj a 38) (mm : Nat) (h : Hp) (sz : Nat) (p1 : Int32) (p2 : Int32) {r0 : Int32} {h9 : Hp} (hlit : x_Nm_waits p1 p2 h = some (r0, h9)) : Met l y_Nm_waits (Cond.code y_Nm_waits b_Nm_waits 7 (some .int) :: TB) rm_x_Nm_waits (fPc [.ref (a 0), .int p1, .int p2] E.1 (xtys E) sz (xV E a (a 6) (a 10) mm h)) (fQi (fun _ : Nat => True) r0 E.1 (fun (z : Nat) => xV E a (a 6) (a 10) z h9) (xA a 38 sz)) 0 0 (xA a 38 sz) := by
  refine fl_startI (by decide) (Nat.le_of_ble_eq_true rfl) ?_
  intro p e s m args below meth c Q hx hb hml hown hts hsz hP hK hN ret ls hl
  subst hsz
  have hA : ∀ k, k < 38 → (xA a 38 s.heap.size) (a k) := xA_in
  have hS : va_S (xA a 38 s.heap.size) s.heap s.heap [] := va_S.rf
  have hl : lv_has ls 7 [(0, .ref (a 0)), (1, .int p1), (2, .int p2)] := hl
  have b62 : ∀ (n : Nat), ∀ (x3 : Int32) (x4 : Int32) (x5 : Int32) (h : Hp) (mm : Nat) (H : Heap) (locs : List Loc) (ls : Array Slot), x_Nm_waits_b62 p1 p2 n x3 x4 x5 h = some (r0, h9) → va_P E.1 xcl (xV E a (a 6) (a 10) mm h) H → va_S (xA a 38 s.heap.size) s.heap H locs → lv_has ls 7 [(0, .ref (a 0)), (1, .int p1), (2, .int p2), (3, .int x3), (4, .int x4), (5, .int x5)] → W p l e rm_x_Nm_waits s m args below meth c H locs 0 0 Q (F0 m 62 ls []) := by
    intro n
    induction n with
    | zero => intro x3 x4 x5 h mm H locs ls hlit hP hS hl; exact nnF hlit
    | succ n ih =>
      intro x3 x4 x5 h mm H locs ls hlit hP hS hl
      refine lv_iload hx hb d_Nm_waits_62 (lv_at hl 5 rfl) ?_
      refine lv_bipush (v := (99 : Int32)) hx hb d_Nm_waits_64 (by decide) ?_
      refine lv_icmp_gt (tgt := 122) hx hb d_Nm_waits_66 (by decide) (fun c66 => ?_) (fun c66 => ?_)
      · have hlit := brP _ hlit c66
        refine lv_iload_n hx hb d_Nm_waits_122 rfl (lv_at hl 2 rfl) ?_
        refine lv_if_ne (tgt := 130) hx hb d_Nm_waits_123 (by decide) (fun c123 => ?_) (fun c123 => ?_)
        · have hlit := brN _ hlit c123
          refine lv_iload hx hb d_Nm_waits_130 (lv_at hl 4 rfl) ?_
          cases hlit
          exact ret mm _ _ _ _ trivial hP hS rfl d_Nm_waits_132
        · have hlit := brP _ hlit c123
          refine lv_iload_n hx hb d_Nm_waits_126 rfl (lv_at hl 3 rfl) ?_
          refine lv_goto (tgt := 132) hx hb d_Nm_waits_127 (by decide) ?_
          cases hlit
          exact ret mm _ _ _ _ trivial hP hS rfl d_Nm_waits_132
      · have hlit := brN _ hlit c66
        refine lv_aload_n hx hb d_Nm_waits_69 rfl (lv_at hl 0 rfl) ?_
        refine lv_iload hx hb d_Nm_waits_70 (lv_at hl 5 rfl) ?_
        refine lv_aload_n hx hb d_Nm_waits_72 rfl (lv_at hl 0 rfl) ?_
        refine xg_Nm_1 hx hb hts hown hK hP q288 d_Nm_waits_73 ?_
        refine xg_Table_1 hx hb hts hown hK hP rfl q95 d_Nm_waits_76 ?_
        obtain ⟨h_79, hl79, hlit⟩ := bindS hlit
        refine fCallQ (fRunV (As := [.int x5, .int (h 3 1)]) (rest := []) (q0 := 0) (ci := 0) hx hb hml hown hts hK hN hP (cx_Nm_at l E a ha mm h _ x5 (h 3 1) (h9 := h_79) hl79) q351 q352 q13 q49 q353 hd_x_Nm_at rfl rfl ⟨Nat.le_of_ble_eq_true rfl, Nat.le_of_ble_eq_true rfl⟩ xe_0 rfl rfl rfl hl.1 rfl (Nat.le_of_ble_eq_true rfl) d_Nm_waits_79 ⟨Nat.zero_le _, Nat.zero_le _⟩) hS (xA_up hS.1) (fun z79_ H locs hu79 hP hS _ _ => ?_)
        have hP : va_P E.1 xcl (xV E a (a 6) (a 10) (a 6) h_79) H := hP
        refine W.eq (g2 := F0 m 82 ls [.ref (a 5)]) rfl ?_
        refine lv_iload_n hx hb d_Nm_waits_82 rfl (lv_at hl 1 rfl) ?_
        refine lv_iconst (v := (-1 : Int32)) hx hb d_Nm_waits_83 (by decide) ?_
        obtain ⟨r84, hl84, hlit⟩ := bindS hlit
        refine fCallI (fRunV (As := [.int p1, .int (-1 : Int32)]) (rest := []) (q0 := 5) (ci := 2) hx hb hml hown hts hK hN hP (cx_Moment_together l E a ha (a 6) (a 10) h_79 _ p1 (-1 : Int32) (r0 := r84) hl84) q405 q406 q407 q56 q408 hd_x_Moment_together rfl rfl ⟨Nat.le_of_ble_eq_true rfl, Nat.le_of_ble_eq_true rfl⟩ xe_5 rfl rfl rfl hl.1 rfl (Nat.le_of_ble_eq_true rfl) d_Nm_waits_84 ⟨Nat.zero_le _, Nat.zero_le _⟩) hS (xA_up hS.1) (fun _ H locs hu84 hP hS _ _ => ?_)
        have hP : va_P E.1 xcl (xV E a (a 6) (a 10) (a 6) h_79) H := hP
        refine lv_istore (lv' := [(6, .int r84), (0, .ref (a 0)), (1, .int p1), (2, .int p2), (3, .int x3), (4, .int x4), (5, .int x5)]) hx hb d_Nm_waits_87 hl (by decide) rfl (fun ls hl => ?_)
        refine lv_aload_n hx hb d_Nm_waits_89 rfl (lv_at hl 1 rfl) ?_
        refine xg_Nm_7 hx hb hts hown hK hP q294 d_Nm_waits_90 ?_
        refine lv_iload_n hx hb d_Nm_waits_93 rfl (lv_at hl 2 rfl) ?_
        refine lv_iload hx hb d_Nm_waits_94 (lv_at hl 6 rfl) ?_
        obtain ⟨r96, hl96, hlit⟩ := bindS hlit
        refine fCallI (fRunV (As := [.int p1, .int x5]) (rest := []) (q0 := 6) (ci := 1) hx hb hml hown hts hK hN hP (cx_Menu_isInTime l E a ha (a 6) (a 10) (a 6) h_79 _ 6 rfl p1 x5 (r0 := r96) hl96) q460 q461 q462 q55 q463 hd_x_Menu_isInTime rfl rfl ⟨Nat.le_of_ble_eq_true rfl, Nat.le_of_ble_eq_true rfl⟩ (xeU rfl) rfl rfl rfl hl.1 rfl (Nat.le_of_ble_eq_true rfl) d_Nm_waits_96 ⟨Nat.zero_le _, Nat.zero_le _⟩) hS (xA_up hS.1) (fun _ H locs hu96 hP hS _ _ => ?_)
        have hP : va_P E.1 xcl (xV E a (a 6) (a 10) (a 6) h_79) H := hP
        refine lv_if_eq (tgt := 116) hx hb d_Nm_waits_99 (by decide) (fun c99 => ?_) (fun c99 => ?_)
        · have hlit := brP _ hlit c99
          refine lv_iinc (v := (x5 + (1 : Int32))) (lv' := [(5, .int (x5 + (1 : Int32))), (6, .int r84), (0, .ref (a 0)), (1, .int p1), (2, .int p2), (3, .int x3), (4, .int x4)]) hx hb d_Nm_waits_116 hl (k := 6) rfl rfl (by decide) rfl (fun ls hl => ?_)
          refine lv_goto (tgt := 62) hx hb d_Nm_waits_119 (by decide) ?_
          exact ih x3 x4 (x5 + (1 : Int32)) h_79 (a 6) _ _ _ hlit hP hS (lv_sub hl [2, 3, 4, 5, 6, 0] rfl)
        · have hlit := brN _ hlit c99
          refine lv_iload hx hb d_Nm_waits_102 (lv_at hl 0 rfl) ?_
          refine lv_iload hx hb d_Nm_waits_104 (lv_at hl 5 rfl) ?_
          refine lv_icmp_le (tgt := 116) hx hb d_Nm_waits_106 (by decide) (fun c106 => ?_) (fun c106 => ?_)
          · have hlit := brP _ hlit c106
            refine lv_iinc (v := (x5 + (1 : Int32))) (lv' := [(5, .int (x5 + (1 : Int32))), (6, .int r84), (0, .ref (a 0)), (1, .int p1), (2, .int p2), (3, .int x3), (4, .int x4)]) hx hb d_Nm_waits_116 hl (k := 6) rfl rfl (by decide) rfl (fun ls hl => ?_)
            refine lv_goto (tgt := 62) hx hb d_Nm_waits_119 (by decide) ?_
            exact ih x3 x4 (x5 + (1 : Int32)) h_79 (a 6) _ _ _ hlit hP hS (lv_sub hl [2, 3, 4, 5, 6, 0] rfl)
          · have hlit := brN _ hlit c106
            refine lv_iload hx hb d_Nm_waits_109 (lv_at hl 6 rfl) ?_
            refine lv_istore_n (lv' := [(3, .int x5), (6, .int r84), (0, .ref (a 0)), (1, .int p1), (2, .int p2), (4, .int x4), (5, .int x5)]) hx hb d_Nm_waits_111 rfl hl (by decide) rfl (fun ls hl => ?_)
            refine lv_iload hx hb d_Nm_waits_112 (lv_at hl 1 rfl) ?_
            refine lv_istore (lv' := [(4, .int r84), (3, .int x5), (6, .int r84), (0, .ref (a 0)), (1, .int p1), (2, .int p2), (5, .int x5)]) hx hb d_Nm_waits_114 hl (by decide) rfl (fun ls hl => ?_)
            refine lv_iinc (v := (x5 + (1 : Int32))) (lv' := [(5, .int (x5 + (1 : Int32))), (4, .int r84), (3, .int x5), (6, .int r84), (0, .ref (a 0)), (1, .int p1), (2, .int p2)]) hx hb d_Nm_waits_116 hl (k := 6) rfl rfl (by decide) rfl (fun ls hl => ?_)
            refine lv_goto (tgt := 62) hx hb d_Nm_waits_119 (by decide) ?_
            exact ih x5 r84 (x5 + (1 : Int32)) h_79 (a 6) _ _ _ hlit hP hS (lv_sub hl [4, 5, 6, 2, 1, 0] rfl)
  refine lv_aload_n hx hb d_Nm_waits_0 rfl (lv_at hl 0 rfl) ?_
  refine xg_Nm_7 hx hb hts hown hK hP q294 d_Nm_waits_1 ?_
  refine lv_iload_n hx hb d_Nm_waits_4 rfl (lv_at hl 1 rfl) ?_
  obtain ⟨r5, hl5, hlit⟩ := bindS hlit
  refine fCallI (fRunV (As := [.int p1]) (rest := []) (q0 := 6) (ci := 1) hx hb hml hown hts hK hN hP (cx_Menu_hasDish l E a ha (a 6) (a 10) mm h _ 6 rfl p1 (r0 := r5) hl5) q392 q275 q276 q55 q277 hd_x_Menu_hasDish rfl rfl ⟨Nat.le_of_ble_eq_true rfl, Nat.le_of_ble_eq_true rfl⟩ (xeU rfl) rfl rfl rfl hl.1 rfl (Nat.le_of_ble_eq_true rfl) d_Nm_waits_5 ⟨Nat.zero_le _, Nat.zero_le _⟩) hS (xA_up hS.1) (fun _ H locs hu5 hP hS _ _ => ?_)
  have hP : va_P E.1 xcl (xV E a (a 6) (a 10) mm h) H := hP
  refine lv_if_eq (tgt := 20) hx hb d_Nm_waits_8 (by decide) (fun c8 => ?_) (fun c8 => ?_)
  · have hlit := brP _ hlit c8
    refine lv_iconst (v := (-1 : Int32)) hx hb d_Nm_waits_20 (by decide) ?_
    cases hlit
    exact ret mm _ _ _ _ trivial hP hS rfl d_Nm_waits_21
  · have hlit := brN _ hlit c8
    refine lv_iload_n hx hb d_Nm_waits_11 rfl (lv_at hl 2 rfl) ?_
    refine lv_iconst (v := (0 : Int32)) hx hb d_Nm_waits_12 (by decide) ?_
    refine lv_iconst (v := (1 : Int32)) hx hb d_Nm_waits_13 (by decide) ?_
    obtain ⟨r14, hl14, hlit⟩ := bindS hlit
    refine fCallI (fRunS (As := [.int p2, .int (0 : Int32), .int (1 : Int32)]) (rest := []) hx hb hml hown hts hK hN hP (cx_Nm_isOutside l E a ha (a 6) (a 10) mm h _ p2 (0 : Int32) (1 : Int32) (r0 := r14) hl14) q310 q263 q49 q264 hd_x_Nm_isOutside rfl rfl ⟨Nat.le_of_ble_eq_true rfl, Nat.le_of_ble_eq_true rfl⟩ rfl hl.1 rfl (Nat.le_of_ble_eq_true rfl) d_Nm_waits_14 ⟨Nat.zero_le _, Nat.zero_le _⟩) hS (xA_up hS.1) (fun _ H locs hu14 hP hS _ _ => ?_)
    have hP : va_P E.1 xcl (xV E a (a 6) (a 10) mm h) H := hP
    refine lv_if_eq (tgt := 22) hx hb d_Nm_waits_17 (by decide) (fun c17 => ?_) (fun c17 => ?_)
    · have hlit := brP _ hlit c17
      refine lv_aload_n hx hb d_Nm_waits_22 rfl (lv_at hl 0 rfl) ?_
      refine xg_Nm_1 hx hb hts hown hK hP q288 d_Nm_waits_23 ?_
      obtain ⟨r26, hl26, hlit⟩ := bindS hlit
      refine fCallI (fRunV (As := []) (rest := []) (q0 := 3) (ci := 7) hx hb hml hown hts hK hN hP (cx_Table_isOrdered l E a ha (a 6) (a 10) mm h _ 3 rfl (r0 := r26) hl26) q418 q419 q420 q51 q421 hd_x_Table_isOrdered rfl rfl ⟨Nat.le_of_ble_eq_true rfl, Nat.le_of_ble_eq_true rfl⟩ (xeT rfl) rfl rfl rfl hl.1 rfl (Nat.le_of_ble_eq_true rfl) d_Nm_waits_26 ⟨Nat.zero_le _, Nat.zero_le _⟩) hS (xA_up hS.1) (fun _ H locs hu26 hP hS _ _ => ?_)
      have hP : va_P E.1 xcl (xV E a (a 6) (a 10) mm h) H := hP
      refine lv_if_ne (tgt := 43) hx hb d_Nm_waits_29 (by decide) (fun c29 => ?_) (fun c29 => ?_)
      · have hlit := brN _ hlit c29
        refine lv_bipush (v := (-4 : Int32)) hx hb d_Nm_waits_43 (by decide) ?_
        cases hlit
        exact ret mm _ _ _ _ trivial hP hS rfl d_Nm_waits_45
      · have hlit := brP _ hlit c29
        refine lv_aload_n hx hb d_Nm_waits_32 rfl (lv_at hl 0 rfl) ?_
        refine xg_Nm_1 hx hb hts hown hK hP q288 d_Nm_waits_33 ?_
        refine lv_iload_n hx hb d_Nm_waits_36 rfl (lv_at hl 1 rfl) ?_
        obtain ⟨r37, hl37, hlit⟩ := bindS hlit
        refine fCallI (fRunV (As := [.int p1]) (rest := []) (q0 := 3) (ci := 7) hx hb hml hown hts hK hN hP (cx_Table_isVetoed l E a ha (a 6) (a 10) mm h _ 3 rfl p1 (r0 := r37) hl37) q397 q398 q399 q51 q400 hd_x_Table_isVetoed rfl rfl ⟨Nat.le_of_ble_eq_true rfl, Nat.le_of_ble_eq_true rfl⟩ (xeT rfl) rfl rfl rfl hl.1 rfl (Nat.le_of_ble_eq_true rfl) d_Nm_waits_37 ⟨Nat.zero_le _, Nat.zero_le _⟩) hS (xA_up hS.1) (fun _ H locs hu37 hP hS _ _ => ?_)
        have hP : va_P E.1 xcl (xV E a (a 6) (a 10) mm h) H := hP
        refine lv_if_eq (tgt := 46) hx hb d_Nm_waits_40 (by decide) (fun c40 => ?_) (fun c40 => ?_)
        · have hlit := brP _ hlit c40
          refine lv_bipush (v := (-4 : Int32)) hx hb d_Nm_waits_46 (by decide) ?_
          refine lv_istore_n (lv' := [(3, .int (-4 : Int32)), (0, .ref (a 0)), (1, .int p1), (2, .int p2)]) hx hb d_Nm_waits_48 rfl hl (by decide) rfl (fun ls hl => ?_)
          refine lv_bipush (v := (-4 : Int32)) hx hb d_Nm_waits_49 (by decide) ?_
          refine lv_istore (lv' := [(4, .int (-4 : Int32)), (3, .int (-4 : Int32)), (0, .ref (a 0)), (1, .int p1), (2, .int p2)]) hx hb d_Nm_waits_51 hl (by decide) rfl (fun ls hl => ?_)
          refine lv_aload_n hx hb d_Nm_waits_53 rfl (lv_at hl 2 rfl) ?_
          refine xg_Nm_1 hx hb hts hown hK hP q288 d_Nm_waits_54 ?_
          refine xg_Table_0 hx hb hts hown hK hP rfl q93 d_Nm_waits_57 ?_
          obtain ⟨y60, ey60, hlit⟩ := bindS hlit
          refine topn ey60 ?_
          refine lv_istore (lv' := [(5, .int y60), (4, .int (-4 : Int32)), (3, .int (-4 : Int32)), (0, .ref (a 0)), (1, .int p1), (2, .int p2)]) hx hb d_Nm_waits_60 hl (by decide) rfl (fun ls hl => ?_)
          exact b62 FU (-4 : Int32) (-4 : Int32) y60 h mm _ _ _ hlit hP hS (lv_sub hl [3, 4, 5, 2, 1, 0] rfl)
        · have hlit := brN _ hlit c40
          refine lv_bipush (v := (-4 : Int32)) hx hb d_Nm_waits_43 (by decide) ?_
          cases hlit
          exact ret mm _ _ _ _ trivial hP hS rfl d_Nm_waits_45
    · have hlit := brN _ hlit c17
      refine lv_iconst (v := (-1 : Int32)) hx hb d_Nm_waits_20 (by decide) ?_
      cases hlit
      exact ret mm _ _ _ _ trivial hP hS rfl d_Nm_waits_21

abbrev rm_x_Nm_heard : Room := { frames := 2, cells := 0, slots := 0, locals := 42 }
theorem hd_x_Nm_heard : y_Nm_heard.cls ≠ "java/lang/invoke/MethodHandle" ∧ y_Nm_heard.cls ≠ "java/lang/invoke/VarHandle" ∧ (parseMethodDescriptor y_Nm_heard.desc).map (fun d => d.parameters.length) = some 3 := by decide +kernel
set_option maxHeartbeats 4000000 in
set_option maxRecDepth 100000 in
theorem cx_Nm_heard (l : Launch) (E : xE) (a : Nat → Nat) (ha : xInj a 38) (mm : Nat) (h : Hp) (sz : Nat) (p1 : Int32) (p2 : Int32) (p3 : Int32) {r0 : Int32} {h9 : Hp} (hlit : x_Nm_heard p1 p2 p3 h = some (r0, h9)) : Met l y_Nm_heard (Cond.code y_Nm_heard b_Nm_heard 5 (some .int) :: TB) rm_x_Nm_heard (fPc [.ref (a 0), .int p1, .int p2, .int p3] E.1 (xtys E) sz (xV E a (a 6) (a 10) mm h)) (fQi (fun _ : Nat => True) r0 E.1 (fun (_ : Nat) => xV E a (a 6) (a 10) mm h9) (xA a 38 sz)) 0 0 (xA a 38 sz) := by
  refine fl_startI (by decide) (Nat.le_of_ble_eq_true rfl) ?_
  intro p e s m args below meth c Q hx hb hml hown hts hsz hP hK hN ret ls hl
  subst hsz
  have hA : ∀ k, k < 38 → (xA a 38 s.heap.size) (a k) := xA_in
  have hS : va_S (xA a 38 s.heap.size) s.heap s.heap [] := va_S.rf
  have hl : lv_has ls 5 [(0, .ref (a 0)), (1, .int p1), (2, .int p2), (3, .int p3)] := hl
  refine lv_aload_n hx hb d_Nm_heard_0 rfl (lv_at hl 0 rfl) ?_
  refine xg_Nm_7 hx hb hts hown hK hP q294 d_Nm_heard_1 ?_
  refine lv_iload_n hx hb d_Nm_heard_4 rfl (lv_at hl 1 rfl) ?_
  obtain ⟨r5, hl5, hlit⟩ := bindS hlit
  refine fCallI (fRunV (As := [.int p1]) (rest := []) (q0 := 6) (ci := 1) hx hb hml hown hts hK hN hP (cx_Menu_hasGuest l E a ha (a 6) (a 10) mm h _ 6 rfl p1 (r0 := r5) hl5) q331 q332 q333 q55 q334 hd_x_Menu_hasGuest rfl rfl ⟨Nat.le_of_ble_eq_true rfl, Nat.le_of_ble_eq_true rfl⟩ (xeU rfl) rfl rfl rfl hl.1 rfl (Nat.le_of_ble_eq_true rfl) d_Nm_heard_5 ⟨Nat.zero_le _, Nat.zero_le _⟩) hS (xA_up hS.1) (fun _ H locs hu5 hP hS _ _ => ?_)
  have hP : va_P E.1 xcl (xV E a (a 6) (a 10) mm h) H := hP
  refine lv_if_eq (tgt := 31) hx hb d_Nm_heard_8 (by decide) (fun c8 => ?_) (fun c8 => ?_)
  · have hlit := brP _ hlit c8
    refine lv_iconst (v := (-1 : Int32)) hx hb d_Nm_heard_31 (by decide) ?_
    cases hlit
    exact ret 0 _ _ _ _ trivial hP hS rfl d_Nm_heard_32
  · have hlit := brN _ hlit c8
    refine lv_aload_n hx hb d_Nm_heard_11 rfl (lv_at hl 0 rfl) ?_
    refine xg_Nm_7 hx hb hts hown hK hP q294 d_Nm_heard_12 ?_
    refine lv_iload_n hx hb d_Nm_heard_15 rfl (lv_at hl 2 rfl) ?_
    obtain ⟨r16, hl16, hlit⟩ := bindS hlit
    refine fCallI (fRunV (As := [.int p2]) (rest := []) (q0 := 6) (ci := 1) hx hb hml hown hts hK hN hP (cx_Menu_hasDish l E a ha (a 6) (a 10) mm h _ 6 rfl p2 (r0 := r16) hl16) q392 q275 q276 q55 q277 hd_x_Menu_hasDish rfl rfl ⟨Nat.le_of_ble_eq_true rfl, Nat.le_of_ble_eq_true rfl⟩ (xeU rfl) rfl rfl rfl hl.1 rfl (Nat.le_of_ble_eq_true rfl) d_Nm_heard_16 ⟨Nat.zero_le _, Nat.zero_le _⟩) hS (xA_up hS.1) (fun _ H locs hu16 hP hS _ _ => ?_)
    have hP : va_P E.1 xcl (xV E a (a 6) (a 10) mm h) H := hP
    refine lv_if_eq (tgt := 31) hx hb d_Nm_heard_19 (by decide) (fun c19 => ?_) (fun c19 => ?_)
    · have hlit := brP _ hlit c19
      refine lv_iconst (v := (-1 : Int32)) hx hb d_Nm_heard_31 (by decide) ?_
      cases hlit
      exact ret 0 _ _ _ _ trivial hP hS rfl d_Nm_heard_32
    · have hlit := brN _ hlit c19
      refine lv_iload_n hx hb d_Nm_heard_22 rfl (lv_at hl 3 rfl) ?_
      refine lv_iconst (v := (0 : Int32)) hx hb d_Nm_heard_23 (by decide) ?_
      refine lv_iconst (v := (1 : Int32)) hx hb d_Nm_heard_24 (by decide) ?_
      obtain ⟨r25, hl25, hlit⟩ := bindS hlit
      refine fCallI (fRunS (As := [.int p3, .int (0 : Int32), .int (1 : Int32)]) (rest := []) hx hb hml hown hts hK hN hP (cx_Nm_isOutside l E a ha (a 6) (a 10) mm h _ p3 (0 : Int32) (1 : Int32) (r0 := r25) hl25) q310 q263 q49 q264 hd_x_Nm_isOutside rfl rfl ⟨Nat.le_of_ble_eq_true rfl, Nat.le_of_ble_eq_true rfl⟩ rfl hl.1 rfl (Nat.le_of_ble_eq_true rfl) d_Nm_heard_25 ⟨Nat.zero_le _, Nat.zero_le _⟩) hS (xA_up hS.1) (fun _ H locs hu25 hP hS _ _ => ?_)
      have hP : va_P E.1 xcl (xV E a (a 6) (a 10) mm h) H := hP
      refine lv_if_eq (tgt := 33) hx hb d_Nm_heard_28 (by decide) (fun c28 => ?_) (fun c28 => ?_)
      · have hlit := brP _ hlit c28
        refine lv_aload_n hx hb d_Nm_heard_33 rfl (lv_at hl 0 rfl) ?_
        refine xg_Nm_6 hx hb hts hown hK hP q293 d_Nm_heard_34 ?_
        obtain ⟨z37, hl37, hlit⟩ := bindS hlit
        refine fCallQ (fRunV (As := []) (rest := []) (q0 := 28) (ci := 4) hx hb hml hown hts hK hN hP (cx_Notes_next l E a ha (a 6) (a 10) mm h _ (r0 := z37.1) (h9 := z37.2) hl37) q576 q577 q578 q53 q579 hd_x_Notes_next rfl rfl ⟨Nat.le_of_ble_eq_true rfl, Nat.le_of_ble_eq_true rfl⟩ xe_28 rfl rfl rfl hl.1 rfl (Nat.le_of_ble_eq_true rfl) d_Nm_heard_37 ⟨Nat.zero_le _, Nat.zero_le _⟩) hS (xA_up hS.1) (fun _ H locs hu37 hP hS _ _ => ?_)
        have hP : va_P E.1 xcl (xV E a (a 6) (a 10) mm z37.2) H := hP
        obtain ⟨o37, h_37⟩ := z37
        cases o37 with
        | none =>
          have hlit := elN hlit
          obtain ⟨_, eo, hlit⟩ := bindS hlit
          cases eo
          refine W.eq (g2 := F0 m 40 ls [.null]) rfl ?_
          refine lv_astoreN (lv' := [(4, .null), (0, .ref (a 0)), (1, .int p1), (2, .int p2), (3, .int p3)]) hx hb d_Nm_heard_40 hl (by decide) rfl (fun ls hl => ?_)
          refine lv_aloadN hx hb d_Nm_heard_42 (lv_at hl 0 rfl) ?_
          refine lv_ifnonnullN hx hb d_Nm_heard_44 ?_
          refine lv_bipush (v := (-3 : Int32)) hx hb d_Nm_heard_47 (by decide) ?_
          cases hlit
          exact ret 0 _ _ _ _ trivial hP hS rfl d_Nm_heard_49
        | some n37 =>
          have hlit := elS hlit
          obtain ⟨_, eo, hlit⟩ := bindS hlit
          cases eo
          refine W.eq (g2 := F0 m 40 ls [.ref (a n37)]) rfl ?_
          refine lv_astore (lv' := [(4, .ref (a n37)), (0, .ref (a 0)), (1, .int p1), (2, .int p2), (3, .int p3)]) hx hb d_Nm_heard_40 hl (by decide) rfl (fun ls hl => ?_)
          refine lv_aload hx hb d_Nm_heard_42 (lv_at hl 0 rfl) ?_
          refine lv_ifnonnull (tgt := 50) hx hb d_Nm_heard_44 (by decide) ?_
          refine lv_aload hx hb d_Nm_heard_50 (lv_at hl 0 rfl) ?_
          refine lv_iload_n hx hb d_Nm_heard_52 rfl (lv_at hl 2 rfl) ?_
          refine xp_Note_0 hx hb hts hown hK hP ha hA hS (hu37 _ rfl) q126 d_Nm_heard_53 (fun H locs hP hS => ?_)
          obtain ⟨h_53, eh_53, hlit⟩ := bindS hlit
          rw [Option.some.inj eh_53] at hP
          refine lv_aload hx hb d_Nm_heard_56 (lv_at hl 0 rfl) ?_
          refine lv_iload_n hx hb d_Nm_heard_58 rfl (lv_at hl 3 rfl) ?_
          refine xp_Note_1 hx hb hts hown hK hP ha hA hS (hu37 _ rfl) q127 d_Nm_heard_59 (fun H locs hP hS => ?_)
          obtain ⟨h_59, eh_59, hlit⟩ := bindS hlit
          rw [Option.some.inj eh_59] at hP
          refine lv_aload hx hb d_Nm_heard_62 (lv_at hl 0 rfl) ?_
          refine lv_iload_n hx hb d_Nm_heard_64 rfl (lv_at hl 4 rfl) ?_
          refine lv_iconst (v := (1 : Int32)) hx hb d_Nm_heard_65 (by decide) ?_
          refine lv_icmp_ne (tgt := 73) hx hb d_Nm_heard_66 (by decide) (fun c66 => ?_) (fun c66 => ?_)
          · have hlit := brN _ hlit c66
            refine lv_iconst (v := (0 : Int32)) hx hb d_Nm_heard_73 (by decide) ?_
            refine xp_Note_2 hx hb hts hown hK hP ha hA hS (hu37 _ rfl) (Or.inl rfl) q128 d_Nm_heard_74 (fun H locs hP hS => ?_)
            obtain ⟨h_74, eh_74, hlit⟩ := bindS hlit
            rw [Option.some.inj eh_74] at hP
            refine lv_aload hx hb d_Nm_heard_77 (lv_at hl 0 rfl) ?_
            refine lv_aload_n hx hb d_Nm_heard_79 rfl (lv_at hl 1 rfl) ?_
            refine xg_Nm_1 hx hb hts hown hK hP q288 d_Nm_heard_80 ?_
            refine xg_Table_0 hx hb hts hown hK hP rfl q93 d_Nm_heard_83 ?_
            refine xp_Note_3 hx hb hts hown hK hP ha hA hS (hu37 _ rfl) q129 d_Nm_heard_86 (fun H locs hP hS => ?_)
            obtain ⟨h_86, eh_86, hlit⟩ := bindS hlit
            rw [Option.some.inj eh_86] at hP
            refine lv_aload hx hb d_Nm_heard_89 (lv_at hl 0 rfl) ?_
            refine lv_aload_n hx hb d_Nm_heard_91 rfl (lv_at hl 1 rfl) ?_
            refine xg_Nm_1 hx hb hts hown hK hP q288 d_Nm_heard_92 ?_
            refine xg_Table_1 hx hb hts hown hK hP rfl q95 d_Nm_heard_95 ?_
            refine xp_Note_4 hx hb hts hown hK hP ha hA hS (hu37 _ rfl) q130 d_Nm_heard_98 (fun H locs hP hS => ?_)
            obtain ⟨h_98, eh_98, hlit⟩ := bindS hlit
            rw [Option.some.inj eh_98] at hP
            refine lv_aload_n hx hb d_Nm_heard_101 rfl (lv_at hl 1 rfl) ?_
            refine xg_Nm_6 hx hb hts hown hK hP q293 d_Nm_heard_102 ?_
            refine xg_Notes_0 hx hb hts hown hK hP q137 d_Nm_heard_105 ?_
            cases hlit
            exact ret 0 _ _ _ _ trivial hP hS rfl d_Nm_heard_108
          · have hlit := brP _ hlit c66
            refine lv_iconst (v := (1 : Int32)) hx hb d_Nm_heard_69 (by decide) ?_
            refine lv_goto (tgt := 74) hx hb d_Nm_heard_70 (by decide) ?_
            refine xp_Note_2 hx hb hts hown hK hP ha hA hS (hu37 _ rfl) (Or.inr rfl) q128 d_Nm_heard_74 (fun H locs hP hS => ?_)
            obtain ⟨h_74, eh_74, hlit⟩ := bindS hlit
            rw [Option.some.inj eh_74] at hP
            refine lv_aload hx hb d_Nm_heard_77 (lv_at hl 0 rfl) ?_
            refine lv_aload_n hx hb d_Nm_heard_79 rfl (lv_at hl 1 rfl) ?_
            refine xg_Nm_1 hx hb hts hown hK hP q288 d_Nm_heard_80 ?_
            refine xg_Table_0 hx hb hts hown hK hP rfl q93 d_Nm_heard_83 ?_
            refine xp_Note_3 hx hb hts hown hK hP ha hA hS (hu37 _ rfl) q129 d_Nm_heard_86 (fun H locs hP hS => ?_)
            obtain ⟨h_86, eh_86, hlit⟩ := bindS hlit
            rw [Option.some.inj eh_86] at hP
            refine lv_aload hx hb d_Nm_heard_89 (lv_at hl 0 rfl) ?_
            refine lv_aload_n hx hb d_Nm_heard_91 rfl (lv_at hl 1 rfl) ?_
            refine xg_Nm_1 hx hb hts hown hK hP q288 d_Nm_heard_92 ?_
            refine xg_Table_1 hx hb hts hown hK hP rfl q95 d_Nm_heard_95 ?_
            refine xp_Note_4 hx hb hts hown hK hP ha hA hS (hu37 _ rfl) q130 d_Nm_heard_98 (fun H locs hP hS => ?_)
            obtain ⟨h_98, eh_98, hlit⟩ := bindS hlit
            rw [Option.some.inj eh_98] at hP
            refine lv_aload_n hx hb d_Nm_heard_101 rfl (lv_at hl 1 rfl) ?_
            refine xg_Nm_6 hx hb hts hown hK hP q293 d_Nm_heard_102 ?_
            refine xg_Notes_0 hx hb hts hown hK hP q137 d_Nm_heard_105 ?_
            cases hlit
            exact ret 0 _ _ _ _ trivial hP hS rfl d_Nm_heard_108
      · have hlit := brN _ hlit c28
        refine lv_iconst (v := (-1 : Int32)) hx hb d_Nm_heard_31 (by decide) ?_
        cases hlit
        exact ret 0 _ _ _ _ trivial hP hS rfl d_Nm_heard_32

abbrev rm_x_Nm_forget : Room := { frames := 0, cells := 0, slots := 0, locals := 0 }
theorem hd_x_Nm_forget : y_Nm_forget.cls ≠ "java/lang/invoke/MethodHandle" ∧ y_Nm_forget.cls ≠ "java/lang/invoke/VarHandle" ∧ (parseMethodDescriptor y_Nm_forget.desc).map (fun d => d.parameters.length) = some 0 := by decide +kernel
set_option maxHeartbeats 4000000 in
set_option maxRecDepth 100000 in
theorem cx_Nm_forget (l : Launch) (E : xE) (a : Nat → Nat) (ha : xInj a 38) (mm : Nat) (h : Hp) (sz : Nat) {r0 : Int32} {h9 : Hp} (hlit : x_Nm_forget h = some (r0, h9)) : Met l y_Nm_forget (Cond.code y_Nm_forget b_Nm_forget 2 (some .int) :: TB) rm_x_Nm_forget (fPc [.ref (a 0)] E.1 (xtys E) sz (xV E a (a 6) (a 10) mm h)) (fQi (fun _ : Nat => True) r0 E.1 (fun (_ : Nat) => xV E a (a 6) (a 10) mm h9) (xA a 38 sz)) 0 0 (xA a 38 sz) := by
  refine fl_startI (by decide) (Nat.le_of_ble_eq_true rfl) ?_
  intro p e s m args below meth c Q hx hb hml hown hts hsz hP hK hN ret ls hl
  subst hsz
  have hA : ∀ k, k < 38 → (xA a 38 s.heap.size) (a k) := xA_in
  have hS : va_S (xA a 38 s.heap.size) s.heap s.heap [] := va_S.rf
  have hl : lv_has ls 2 [(0, .ref (a 0))] := hl
  refine lv_aload_n hx hb d_Nm_forget_0 rfl (lv_at hl 0 rfl) ?_
  refine xg_Nm_6 hx hb hts hown hK hP q293 d_Nm_forget_1 ?_
  refine xg_Notes_0 hx hb hts hown hK hP q137 d_Nm_forget_4 ?_
  obtain ⟨y7, ey7, hlit⟩ := bindS hlit
  refine topn ey7 ?_
  refine lv_istore_n (lv' := [(1, .int y7), (0, .ref (a 0))]) hx hb d_Nm_forget_7 rfl hl (by decide) rfl (fun ls hl => ?_)
  refine lv_aload_n hx hb d_Nm_forget_8 rfl (lv_at hl 1 rfl) ?_
  refine xg_Nm_6 hx hb hts hown hK hP q293 d_Nm_forget_9 ?_
  refine lv_iconst (v := (0 : Int32)) hx hb d_Nm_forget_12 (by decide) ?_
  refine xp_Notes_0 hx hb hts hown hK hP ha hA hS q137 d_Nm_forget_13 (fun H locs hP hS => ?_)
  obtain ⟨h_13, eh_13, hlit⟩ := bindS hlit
  rw [Option.some.inj eh_13] at hP
  refine lv_iload_n hx hb d_Nm_forget_16 rfl (lv_at hl 0 rfl) ?_
  cases hlit
  exact ret 0 _ _ _ _ trivial hP hS rfl d_Nm_forget_17

abbrev rm_x_Nm_agreesWithNotes : Room := { frames := 5, cells := 0, slots := 0, locals := 112 }
theorem hd_x_Nm_agreesWithNotes : y_Nm_agreesWithNotes.cls ≠ "java/lang/invoke/MethodHandle" ∧ y_Nm_agreesWithNotes.cls ≠ "java/lang/invoke/VarHandle" ∧ (parseMethodDescriptor y_Nm_agreesWithNotes.desc).map (fun d => d.parameters.length) = some 2 := by decide +kernel
set_option maxHeartbeats 4000000 in
set_option maxRecDepth 100000 in
theorem cx_Nm_agreesWithNotes (l : Launch) (E : xE) (a : Nat → Nat) (ha : xInj a 38) (mm : Nat) (h : Hp) (sz : Nat) (p1 : Int32) (p2 : Int32) {r0 : Int32} {h9 : Hp} (hlit : x_Nm_agreesWithNotes p1 p2 h = some (r0, h9)) : Met l y_Nm_agreesWithNotes (Cond.code y_Nm_agreesWithNotes b_Nm_agreesWithNotes 6 (some .boolean) :: TB) rm_x_Nm_agreesWithNotes (fPc [.ref (a 0), .int p1, .int p2] E.1 (xtys E) sz (xV E a (a 6) (a 10) mm h)) (fQi (fun _ : Nat => True) r0 E.1 (fun (z : Nat) => xV E a (a 6) (a 10) z h9) (xA a 38 sz)) 0 0 (xA a 38 sz) := by
  refine fl_startI (by decide) (Nat.le_of_ble_eq_true rfl) ?_
  intro p e s m args below meth c Q hx hb hml hown hts hsz hP hK hN ret ls hl
  subst hsz
  have hA : ∀ k, k < 38 → (xA a 38 s.heap.size) (a k) := xA_in
  have hS : va_S (xA a 38 s.heap.size) s.heap s.heap [] := va_S.rf
  have hl : lv_has ls 6 [(0, .ref (a 0)), (1, .int p1), (2, .int p2)] := hl
  have b2 : ∀ (n : Nat), ∀ (x3 : Int32) (h : Hp) (mm : Nat) (H : Heap) (locs : List Loc) (ls : Array Slot), x_Nm_agreesWithNotes_b2 p1 p2 n x3 h = some (r0, h9) → va_P E.1 xcl (xV E a (a 6) (a 10) mm h) H → va_S (xA a 38 s.heap.size) s.heap H locs → lv_has ls 6 [(0, .ref (a 0)), (1, .int p1), (2, .int p2), (3, .int x3)] → W p l e rm_x_Nm_agreesWithNotes s m args below meth c H locs 0 0 Q (F0 m 2 ls []) := by
    intro n
    induction n with
    | zero => intro x3 h mm H locs ls hlit hP hS hl; exact nnF hlit
    | succ n ih =>
      intro x3 h mm H locs ls hlit hP hS hl
      refine lv_iload_n hx hb d_Nm_agreesWithNotes_2 rfl (lv_at hl 3 rfl) ?_
      refine lv_aload_n hx hb d_Nm_agreesWithNotes_3 rfl (lv_at hl 0 rfl) ?_
      refine xg_Nm_6 hx hb hts hown hK hP q293 d_Nm_agreesWithNotes_4 ?_
      refine xg_Notes_0 hx hb hts hown hK hP q137 d_Nm_agreesWithNotes_7 ?_
      refine lv_icmp_ge (tgt := 84) hx hb d_Nm_agreesWithNotes_10 (by decide) (fun c10 => ?_) (fun c10 => ?_)
      · have hlit := brP _ hlit c10
        refine lv_iconst (v := (1 : Int32)) hx hb d_Nm_agreesWithNotes_84 (by decide) ?_
        cases hlit
        exact ret mm _ _ _ _ trivial hP hS rfl d_Nm_agreesWithNotes_85
      · have hlit := brN _ hlit c10
        refine lv_aload_n hx hb d_Nm_agreesWithNotes_13 rfl (lv_at hl 0 rfl) ?_
        refine xg_Nm_6 hx hb hts hown hK hP q293 d_Nm_agreesWithNotes_14 ?_
        refine lv_iload_n hx hb d_Nm_agreesWithNotes_17 rfl (lv_at hl 3 rfl) ?_
        obtain ⟨r18, hl18, hlit⟩ := bindS hlit
        refine fCallQ (fRunV (As := [.int x3]) (rest := []) (q0 := 28) (ci := 4) hx hb hml hown hts hK hN hP (cx_Notes_get l E a ha (a 6) (a 10) mm h _ x3 (r0 := r18) hl18) q595 q581 q582 q53 q583 hd_x_Notes_get rfl rfl ⟨Nat.le_of_ble_eq_true rfl, Nat.le_of_ble_eq_true rfl⟩ xe_28 rfl rfl rfl hl.1 rfl (Nat.le_of_ble_eq_true rfl) d_Nm_agreesWithNotes_18 ⟨Nat.zero_le _, Nat.zero_le _⟩) hS (xA_up hS.1) (fun _ H locs hu18 hP hS _ _ => ?_)
        have hP : va_P E.1 xcl (xV E a (a 6) (a 10) mm h) H := hP
        cases r18 with
        | none =>
          have hlit := elN hlit
          refine W.eq (g2 := F0 m 21 ls [.null]) rfl ?_
          refine lv_astoreN (lv' := [(4, .null), (0, .ref (a 0)), (1, .int p1), (2, .int p2), (3, .int x3)]) hx hb d_Nm_agreesWithNotes_21 hl (by decide) rfl (fun ls hl => ?_)
          refine lv_aloadN hx hb d_Nm_agreesWithNotes_23 (lv_at hl 0 rfl) ?_
          refine lv_ifnullN (tgt := 78) hx hb d_Nm_agreesWithNotes_25 (by decide) ?_
          refine lv_iinc (v := (x3 + (1 : Int32))) (lv' := [(3, .int (x3 + (1 : Int32))), (4, .null), (0, .ref (a 0)), (1, .int p1), (2, .int p2)]) hx hb d_Nm_agreesWithNotes_78 hl (k := 4) rfl rfl (by decide) rfl (fun ls hl => ?_)
          refine lv_goto (tgt := 2) hx hb d_Nm_agreesWithNotes_81 (by decide) ?_
          exact ih (x3 + (1 : Int32)) h mm _ _ _ hlit hP hS (lv_sub hl [2, 3, 4, 0] rfl)
        | some n18 =>
          have hlit := elS hlit
          refine W.eq (g2 := F0 m 21 ls [.ref (a n18)]) rfl ?_
          refine lv_astore (lv' := [(4, .ref (a n18)), (0, .ref (a 0)), (1, .int p1), (2, .int p2), (3, .int x3)]) hx hb d_Nm_agreesWithNotes_21 hl (by decide) rfl (fun ls hl => ?_)
          refine lv_aload hx hb d_Nm_agreesWithNotes_23 (lv_at hl 0 rfl) ?_
          refine lv_ifnull hx hb d_Nm_agreesWithNotes_25 ?_
          refine lv_aload hx hb d_Nm_agreesWithNotes_28 (lv_at hl 0 rfl) ?_
          refine xg_Note_0 hx hb hts hown hK hP (hu18 _ rfl) q126 d_Nm_agreesWithNotes_30 ?_
          refine lv_iload_n hx hb d_Nm_agreesWithNotes_33 rfl (lv_at hl 2 rfl) ?_
          refine lv_icmp_eq (tgt := 40) hx hb d_Nm_agreesWithNotes_34 (by decide) (fun c34 => ?_) (fun c34 => ?_)
          · have hlit := brP _ hlit c34
            refine lv_aload_n hx hb d_Nm_agreesWithNotes_40 rfl (lv_at hl 1 rfl) ?_
            refine lv_aload hx hb d_Nm_agreesWithNotes_41 (lv_at hl 0 rfl) ?_
            refine xg_Note_3 hx hb hts hown hK hP (hu18 _ rfl) q129 d_Nm_agreesWithNotes_43 ?_
            refine lv_aload hx hb d_Nm_agreesWithNotes_46 (lv_at hl 0 rfl) ?_
            refine xg_Note_4 hx hb hts hown hK hP (hu18 _ rfl) q130 d_Nm_agreesWithNotes_48 ?_
            obtain ⟨h_51, hl51, hlit⟩ := bindS hlit
            refine fCallQ (fRunV (As := [.int (h n18 3), .int (h n18 4)]) (rest := []) (q0 := 0) (ci := 0) hx hb hml hown hts hK hN hP (cx_Nm_at l E a ha mm h _ (h n18 3) (h n18 4) (h9 := h_51) hl51) q351 q352 q13 q49 q353 hd_x_Nm_at rfl rfl ⟨Nat.le_of_ble_eq_true rfl, Nat.le_of_ble_eq_true rfl⟩ xe_0 rfl rfl rfl hl.1 rfl (Nat.le_of_ble_eq_true rfl) d_Nm_agreesWithNotes_51 ⟨Nat.zero_le _, Nat.zero_le _⟩) hS (xA_up hS.1) (fun z51_ H locs hu51 hP hS _ _ => ?_)
            have hP : va_P E.1 xcl (xV E a (a 6) (a 10) (a 6) h_51) H := hP
            refine W.eq (g2 := F0 m 54 ls [.ref (a 5)]) rfl ?_
            refine lv_astore (lv' := [(5, .ref (a 5)), (4, .ref (a n18)), (0, .ref (a 0)), (1, .int p1), (2, .int p2), (3, .int x3)]) hx hb d_Nm_agreesWithNotes_54 hl (by decide) rfl (fun ls hl => ?_)
            refine lv_aload hx hb d_Nm_agreesWithNotes_56 (lv_at hl 0 rfl) ?_
            refine lv_iload_n hx hb d_Nm_agreesWithNotes_58 rfl (lv_at hl 4 rfl) ?_
            refine lv_iload_n hx hb d_Nm_agreesWithNotes_59 rfl (lv_at hl 3 rfl) ?_
            refine lv_aload hx hb d_Nm_agreesWithNotes_60 (lv_at hl 1 rfl) ?_
            refine xg_Note_1 hx hb hts hown hK hP (hu18 _ rfl) q127 d_Nm_agreesWithNotes_62 ?_
            obtain ⟨r65, hl65, hlit⟩ := bindS hlit
            refine fCallI (fRunV (As := [.int p2, .int p1, .int (h_51 n18 1)]) (rest := []) (q0 := 5) (ci := 2) hx hb hml hown hts hK hN hP (cx_Moment_gives l E a ha (a 6) (a 10) h_51 _ p2 p1 (h_51 n18 1) (r0 := r65) hl65) q596 q364 q365 q56 q366 hd_x_Moment_gives rfl rfl ⟨Nat.le_of_ble_eq_true rfl, Nat.le_of_ble_eq_true rfl⟩ xe_5 rfl rfl rfl hl.1 rfl (Nat.le_of_ble_eq_true rfl) d_Nm_agreesWithNotes_65 ⟨Nat.zero_le _, Nat.zero_le _⟩) hS (xA_up hS.1) (fun _ H locs hu65 hP hS _ _ => ?_)
            have hP : va_P E.1 xcl (xV E a (a 6) (a 10) (a 6) h_51) H := hP
            refine lv_aload hx hb d_Nm_agreesWithNotes_68 (lv_at hl 1 rfl) ?_
            refine xg_Note_2 hx hb hts hown hK hP (hu18 _ rfl) q128 d_Nm_agreesWithNotes_70 ?_
            refine lv_icmp_eq (tgt := 78) hx hb d_Nm_agreesWithNotes_73 (by decide) (fun c73 => ?_) (fun c73 => ?_)
            · have hlit := brP _ hlit c73
              refine lv_iinc (v := (x3 + (1 : Int32))) (lv' := [(3, .int (x3 + (1 : Int32))), (5, .ref (a 5)), (4, .ref (a n18)), (0, .ref (a 0)), (1, .int p1), (2, .int p2)]) hx hb d_Nm_agreesWithNotes_78 hl (k := 5) rfl rfl (by decide) rfl (fun ls hl => ?_)
              refine lv_goto (tgt := 2) hx hb d_Nm_agreesWithNotes_81 (by decide) ?_
              exact ih (x3 + (1 : Int32)) h_51 (a 6) _ _ _ hlit hP hS (lv_sub hl [3, 4, 5, 0] rfl)
            · have hlit := brN _ hlit c73
              refine lv_iconst (v := (0 : Int32)) hx hb d_Nm_agreesWithNotes_76 (by decide) ?_
              cases hlit
              exact ret (a 6) _ _ _ _ trivial hP hS rfl d_Nm_agreesWithNotes_77
          · have hlit := brN _ hlit c34
            refine lv_goto (tgt := 78) hx hb d_Nm_agreesWithNotes_37 (by decide) ?_
            refine lv_iinc (v := (x3 + (1 : Int32))) (lv' := [(3, .int (x3 + (1 : Int32))), (4, .ref (a n18)), (0, .ref (a 0)), (1, .int p1), (2, .int p2)]) hx hb d_Nm_agreesWithNotes_78 hl (k := 4) rfl rfl (by decide) rfl (fun ls hl => ?_)
            refine lv_goto (tgt := 2) hx hb d_Nm_agreesWithNotes_81 (by decide) ?_
            exact ih (x3 + (1 : Int32)) h mm _ _ _ hlit hP hS (lv_sub hl [2, 3, 4, 0] rfl)
  refine lv_iconst (v := (0 : Int32)) hx hb d_Nm_agreesWithNotes_0 (by decide) ?_
  refine lv_istore_n (lv' := [(3, .int (0 : Int32)), (0, .ref (a 0)), (1, .int p1), (2, .int p2)]) hx hb d_Nm_agreesWithNotes_1 rfl hl (by decide) rfl (fun ls hl => ?_)
  exact b2 FU (0 : Int32) h mm _ _ _ hlit hP hS (lv_sub hl [1, 2, 3, 0] rfl)

abbrev rm_x_Nm_may : Room := { frames := 6, cells := 0, slots := 0, locals := 137 }
theorem hd_x_Nm_may : y_Nm_may.cls ≠ "java/lang/invoke/MethodHandle" ∧ y_Nm_may.cls ≠ "java/lang/invoke/VarHandle" ∧ (parseMethodDescriptor y_Nm_may.desc).map (fun d => d.parameters.length) = some 1 := by decide +kernel
set_option maxHeartbeats 4000000 in
set_option maxRecDepth 100000 in
theorem cx_Nm_may (l : Launch) (E : xE) (a : Nat → Nat) (ha : xInj a 38) (mm : Nat) (h : Hp) (sz : Nat) (p1 : Int32) {r0 : Int32} {h9 : Hp} (hlit : x_Nm_may p1 h = some (r0, h9)) : Met l y_Nm_may (Cond.code y_Nm_may b_Nm_may 4 (some .int) :: TB) rm_x_Nm_may (fPc [.ref (a 0), .int p1] E.1 (xtys E) sz (xV E a (a 6) (a 10) mm h)) (fQi (fun _ : Nat => True) r0 E.1 (fun (z : Nat) => xV E a (a 6) (a 10) z h9) (xA a 38 sz)) 0 0 (xA a 38 sz) := by
  refine fl_startI (by decide) (Nat.le_of_ble_eq_true rfl) ?_
  intro p e s m args below meth c Q hx hb hml hown hts hsz hP hK hN ret ls hl
  subst hsz
  have hA : ∀ k, k < 38 → (xA a 38 s.heap.size) (a k) := xA_in
  have hS : va_S (xA a 38 s.heap.size) s.heap s.heap [] := va_S.rf
  have hl : lv_has ls 4 [(0, .ref (a 0)), (1, .int p1)] := hl
  have b17 : ∀ (n : Nat), ∀ (x2 : Int32) (x3 : Int32) (h : Hp) (mm : Nat) (H : Heap) (locs : List Loc) (ls : Array Slot), x_Nm_may_b17 p1 n x2 x3 h = some (r0, h9) → va_P E.1 xcl (xV E a (a 6) (a 10) mm h) H → va_S (xA a 38 s.heap.size) s.heap H locs → lv_has ls 4 [(0, .ref (a 0)), (1, .int p1), (2, .int x2), (3, .int x3)] → W p l e rm_x_Nm_may s m args below meth c H locs 0 0 Q (F0 m 17 ls []) := by
    intro n
    induction n with
    | zero => intro x2 x3 h mm H locs ls hlit hP hS hl; exact nnF hlit
    | succ n ih =>
      intro x2 x3 h mm H locs ls hlit hP hS hl
      refine lv_iload_n hx hb d_Nm_may_17 rfl (lv_at hl 3 rfl) ?_
      refine lv_iconst (v := (3 : Int32)) hx hb d_Nm_may_18 (by decide) ?_
      refine lv_icmp_gt (tgt := 43) hx hb d_Nm_may_19 (by decide) (fun c19 => ?_) (fun c19 => ?_)
      · have hlit := brP _ hlit c19
        refine lv_iload_n hx hb d_Nm_may_43 rfl (lv_at hl 2 rfl) ?_
        cases hlit
        exact ret mm _ _ _ _ trivial hP hS rfl d_Nm_may_44
      · have hlit := brN _ hlit c19
        refine lv_aload_n hx hb d_Nm_may_22 rfl (lv_at hl 0 rfl) ?_
        refine lv_iload_n hx hb d_Nm_may_23 rfl (lv_at hl 1 rfl) ?_
        refine lv_iload_n hx hb d_Nm_may_24 rfl (lv_at hl 3 rfl) ?_
        obtain ⟨z25, hl25, hlit⟩ := bindS hlit
        refine fCallI (fRunV (As := [.int p1, .int x3]) (rest := []) (q0 := 0) (ci := 0) hx hb hml hown hts hK hN hP (cx_Nm_agreesWithNotes l E a ha mm h _ p1 x3 (r0 := z25.1) (h9 := z25.2) hl25) q592 q593 q21 q49 q594 hd_x_Nm_agreesWithNotes rfl rfl ⟨Nat.le_of_ble_eq_true rfl, Nat.le_of_ble_eq_true rfl⟩ xe_0 rfl rfl rfl hl.1 rfl (Nat.le_of_ble_eq_true rfl) d_Nm_may_25 ⟨Nat.zero_le _, Nat.zero_le _⟩) hS (xA_up hS.1) (fun z25_ H locs hu25 hP hS _ _ => ?_)
        have hP : va_P E.1 xcl (xV E a (a 6) (a 10) z25_ z25.2) H := hP
        refine lv_if_eq (tgt := 37) hx hb d_Nm_may_28 (by decide) (fun c28 => ?_) (fun c28 => ?_)
        · have hlit := brP _ hlit c28
          refine lv_iinc (v := (x3 + (1 : Int32))) (lv' := [(3, .int (x3 + (1 : Int32))), (0, .ref (a 0)), (1, .int p1), (2, .int x2)]) hx hb d_Nm_may_37 hl (k := 3) rfl rfl (by decide) rfl (fun ls hl => ?_)
          refine lv_goto (tgt := 17) hx hb d_Nm_may_40 (by decide) ?_
          exact ih x2 (x3 + (1 : Int32)) z25.2 z25_ _ _ _ hlit hP hS (lv_sub hl [1, 2, 3, 0] rfl)
        · have hlit := brN _ hlit c28
          refine lv_iload_n hx hb d_Nm_may_31 rfl (lv_at hl 2 rfl) ?_
          refine lv_iconst (v := (1 : Int32)) hx hb d_Nm_may_32 (by decide) ?_
          refine lv_iload_n hx hb d_Nm_may_33 rfl (lv_at hl 3 rfl) ?_
          refine lv_ishl hx hb d_Nm_may_34 ?_
          refine lv_ior hx hb d_Nm_may_35 ?_
          obtain ⟨y36, ey36, hlit⟩ := bindS hlit
          refine topn ey36 ?_
          refine lv_istore_n (lv' := [(2, .int y36), (0, .ref (a 0)), (1, .int p1), (3, .int x3)]) hx hb d_Nm_may_36 rfl hl (by decide) rfl (fun ls hl => ?_)
          refine lv_iinc (v := (x3 + (1 : Int32))) (lv' := [(3, .int (x3 + (1 : Int32))), (2, .int y36), (0, .ref (a 0)), (1, .int p1)]) hx hb d_Nm_may_37 hl (k := 3) rfl rfl (by decide) rfl (fun ls hl => ?_)
          refine lv_goto (tgt := 17) hx hb d_Nm_may_40 (by decide) ?_
          exact ih y36 (x3 + (1 : Int32)) z25.2 z25_ _ _ _ hlit hP hS (lv_sub hl [2, 3, 1, 0] rfl)
  refine lv_aload_n hx hb d_Nm_may_0 rfl (lv_at hl 0 rfl) ?_
  refine xg_Nm_7 hx hb hts hown hK hP q294 d_Nm_may_1 ?_
  refine lv_iload_n hx hb d_Nm_may_4 rfl (lv_at hl 1 rfl) ?_
  obtain ⟨r5, hl5, hlit⟩ := bindS hlit
  refine fCallI (fRunV (As := [.int p1]) (rest := []) (q0 := 6) (ci := 1) hx hb hml hown hts hK hN hP (cx_Menu_hasGuest l E a ha (a 6) (a 10) mm h _ 6 rfl p1 (r0 := r5) hl5) q331 q332 q333 q55 q334 hd_x_Menu_hasGuest rfl rfl ⟨Nat.le_of_ble_eq_true rfl, Nat.le_of_ble_eq_true rfl⟩ (xeU rfl) rfl rfl rfl hl.1 rfl (Nat.le_of_ble_eq_true rfl) d_Nm_may_5 ⟨Nat.zero_le _, Nat.zero_le _⟩) hS (xA_up hS.1) (fun _ H locs hu5 hP hS _ _ => ?_)
  have hP : va_P E.1 xcl (xV E a (a 6) (a 10) mm h) H := hP
  refine lv_if_ne (tgt := 13) hx hb d_Nm_may_8 (by decide) (fun c8 => ?_) (fun c8 => ?_)
  · have hlit := brN _ hlit c8
    refine lv_iconst (v := (0 : Int32)) hx hb d_Nm_may_13 (by decide) ?_
    refine lv_istore_n (lv' := [(2, .int (0 : Int32)), (0, .ref (a 0)), (1, .int p1)]) hx hb d_Nm_may_14 rfl hl (by decide) rfl (fun ls hl => ?_)
    refine lv_iconst (v := (0 : Int32)) hx hb d_Nm_may_15 (by decide) ?_
    refine lv_istore_n (lv' := [(3, .int (0 : Int32)), (2, .int (0 : Int32)), (0, .ref (a 0)), (1, .int p1)]) hx hb d_Nm_may_16 rfl hl (by decide) rfl (fun ls hl => ?_)
    exact b17 FU (0 : Int32) (0 : Int32) h mm _ _ _ hlit hP hS (lv_sub hl [2, 3, 1, 0] rfl)
  · have hlit := brP _ hlit c8
    refine lv_iconst (v := (-1 : Int32)) hx hb d_Nm_may_11 (by decide) ?_
    cases hlit
    exact ret mm _ _ _ _ trivial hP hS rfl d_Nm_may_12

abbrev rm_x_Nm_suits : Room := { frames := 5, cells := 0, slots := 0, locals := 113 }
theorem hd_x_Nm_suits : y_Nm_suits.cls ≠ "java/lang/invoke/MethodHandle" ∧ y_Nm_suits.cls ≠ "java/lang/invoke/VarHandle" ∧ (parseMethodDescriptor y_Nm_suits.desc).map (fun d => d.parameters.length) = some 1 := by decide +kernel
set_option maxHeartbeats 4000000 in
set_option maxRecDepth 100000 in
theorem cx_Nm_suits (l : Launch) (E : xE) (a : Nat → Nat) (ha : xInj a 38) (mm : Nat) (h : Hp) (sz : Nat) (p1 : Int32) {r0 : Int32} {h9 : Hp} (hlit : x_Nm_suits p1 h = some (r0, h9)) : Met l y_Nm_suits (Cond.code y_Nm_suits b_Nm_suits 6 (some .int) :: TB) rm_x_Nm_suits (fPc [.ref (a 0), .int p1] E.1 (xtys E) sz (xV E a (a 6) (a 10) mm h)) (fQi (fun _ : Nat => True) r0 E.1 (fun (z : Nat) => xV E a (a 6) (a 10) z h9) (xA a 38 sz)) 0 0 (xA a 38 sz) := by
  refine fl_startI (by decide) (Nat.le_of_ble_eq_true rfl) ?_
  intro p e s m args below meth c Q hx hb hml hown hts hsz hP hK hN ret ls hl
  subst hsz
  have hA : ∀ k, k < 38 → (xA a 38 s.heap.size) (a k) := xA_in
  have hS : va_S (xA a 38 s.heap.size) s.heap s.heap [] := va_S.rf
  have hl : lv_has ls 6 [(0, .ref (a 0)), (1, .int p1)] := hl
  have b27 : ∀ (n : Nat), ∀ (x3 : Int32) (x4 : Int32) (x5 : Int32) (h : Hp) (H : Heap) (locs : List Loc) (ls : Array Slot), x_Nm_suits_b27 p1 n x3 x4 x5 h = some (r0, h9) → va_P E.1 xcl (xV E a (a 6) (a 10) (a 6) h) H → va_S (xA a 38 s.heap.size) s.heap H locs → lv_has ls 6 [(0, .ref (a 0)), (1, .int p1), (2, .ref (a 5)), (3, .int x3), (4, .int x4), (5, .int x5)] → W p l e rm_x_Nm_suits s m args below meth c H locs 0 0 Q (F0 m 27 ls []) := by
    intro n
    induction n with
    | zero => intro x3 x4 x5 h H locs ls hlit hP hS hl; exact nnF hlit
    | succ n ih =>
      intro x3 x4 x5 h H locs ls hlit hP hS hl
      refine lv_iload hx hb d_Nm_suits_27 (lv_at hl 5 rfl) ?_
      refine lv_aload_n hx hb d_Nm_suits_29 rfl (lv_at hl 0 rfl) ?_
      refine xg_Nm_7 hx hb hts hown hK hP q294 d_Nm_suits_30 ?_
      refine xg_Menu_1 hx hb hts hown hK hP rfl q152 d_Nm_suits_33 ?_
      refine lv_icmp_ge (tgt := 71) hx hb d_Nm_suits_36 (by decide) (fun c36 => ?_) (fun c36 => ?_)
      · have hlit := brP _ hlit c36
        refine lv_iload hx hb d_Nm_suits_71 (lv_at hl 4 rfl) ?_
        cases hlit
        exact ret (a 6) _ _ _ _ trivial hP hS rfl d_Nm_suits_73
      · have hlit := brN _ hlit c36
        refine lv_aload_n hx hb d_Nm_suits_39 rfl (lv_at hl 2 rfl) ?_
        refine lv_iload hx hb d_Nm_suits_40 (lv_at hl 5 rfl) ?_
        refine lv_iload_n hx hb d_Nm_suits_42 rfl (lv_at hl 1 rfl) ?_
        obtain ⟨r43, hl43, hlit⟩ := bindS hlit
        refine fCallI (fRunV (As := [.int x5, .int p1]) (rest := []) (q0 := 5) (ci := 2) hx hb hml hown hts hK hN hP (cx_Moment_value l E a ha (a 6) (a 10) h _ x5 p1 (r0 := r43) hl43) q413 q371 q372 q56 q373 hd_x_Moment_value rfl rfl ⟨Nat.le_of_ble_eq_true rfl, Nat.le_of_ble_eq_true rfl⟩ xe_5 rfl rfl rfl hl.1 rfl (Nat.le_of_ble_eq_true rfl) d_Nm_suits_43 ⟨Nat.zero_le _, Nat.zero_le _⟩) hS (xA_up hS.1) (fun _ H locs hu43 hP hS _ _ => ?_)
        have hP : va_P E.1 xcl (xV E a (a 6) (a 10) (a 6) h) H := hP
        refine lv_aload_n hx hb d_Nm_suits_46 rfl (lv_at hl 2 rfl) ?_
        refine lv_iload hx hb d_Nm_suits_47 (lv_at hl 5 rfl) ?_
        refine lv_iload_n hx hb d_Nm_suits_49 rfl (lv_at hl 3 rfl) ?_
        obtain ⟨r50, hl50, hlit⟩ := bindS hlit
        refine fCallI (fRunV (As := [.int x5, .int x3]) (rest := [.int r43]) (q0 := 5) (ci := 2) hx hb hml hown hts hK hN hP (cx_Moment_value l E a ha (a 6) (a 10) h _ x5 x3 (r0 := r50) hl50) q413 q371 q372 q56 q373 hd_x_Moment_value rfl rfl ⟨Nat.le_of_ble_eq_true rfl, Nat.le_of_ble_eq_true rfl⟩ xe_5 rfl rfl rfl hl.1 rfl (Nat.le_of_ble_eq_true rfl) d_Nm_suits_50 ⟨Nat.zero_le _, Nat.zero_le _⟩) hS (xA_up hS.1) (fun _ H locs hu50 hP hS _ _ => ?_)
        have hP : va_P E.1 xcl (xV E a (a 6) (a 10) (a 6) h) H := hP
        refine lv_icmp_lt (tgt := 65) hx hb d_Nm_suits_53 (by decide) (fun c53 => ?_) (fun c53 => ?_)
        · have hlit := brP _ hlit c53
          refine lv_iinc (v := (x5 + (1 : Int32))) (lv' := [(5, .int (x5 + (1 : Int32))), (0, .ref (a 0)), (1, .int p1), (2, .ref (a 5)), (3, .int x3), (4, .int x4)]) hx hb d_Nm_suits_65 hl (k := 5) rfl rfl (by decide) rfl (fun ls hl => ?_)
          refine lv_goto (tgt := 27) hx hb d_Nm_suits_68 (by decide) ?_
          exact ih x3 x4 (x5 + (1 : Int32)) h _ _ _ hlit hP hS (lv_sub hl [1, 2, 3, 4, 5, 0] rfl)
        · have hlit := brN _ hlit c53
          refine lv_iload hx hb d_Nm_suits_56 (lv_at hl 4 rfl) ?_
          refine lv_iconst (v := (1 : Int32)) hx hb d_Nm_suits_58 (by decide) ?_
          refine lv_iload hx hb d_Nm_suits_59 (lv_at hl 5 rfl) ?_
          refine lv_ishl hx hb d_Nm_suits_61 ?_
          refine lv_ior hx hb d_Nm_suits_62 ?_
          obtain ⟨y63, ey63, hlit⟩ := bindS hlit
          refine topn ey63 ?_
          refine lv_istore (lv' := [(4, .int y63), (0, .ref (a 0)), (1, .int p1), (2, .ref (a 5)), (3, .int x3), (5, .int x5)]) hx hb d_Nm_suits_63 hl (by decide) rfl (fun ls hl => ?_)
          refine lv_iinc (v := (x5 + (1 : Int32))) (lv' := [(5, .int (x5 + (1 : Int32))), (4, .int y63), (0, .ref (a 0)), (1, .int p1), (2, .ref (a 5)), (3, .int x3)]) hx hb d_Nm_suits_65 hl (k := 5) rfl rfl (by decide) rfl (fun ls hl => ?_)
          refine lv_goto (tgt := 27) hx hb d_Nm_suits_68 (by decide) ?_
          exact ih x3 y63 (x5 + (1 : Int32)) h _ _ _ hlit hP hS (lv_sub hl [2, 3, 4, 5, 1, 0] rfl)
  refine lv_aload_n hx hb d_Nm_suits_0 rfl (lv_at hl 0 rfl) ?_
  refine lv_iload_n hx hb d_Nm_suits_1 rfl (lv_at hl 1 rfl) ?_
  obtain ⟨r2, hl2, hlit⟩ := bindS hlit
  refine fCallI (fRunV (As := [.int p1]) (rest := []) (q0 := 0) (ci := 0) hx hb hml hown hts hK hN hP (cx_Nm_isOnOffer l E a ha mm h _ p1 (r0 := r2) hl2) q502 q503 q18 q49 q504 hd_x_Nm_isOnOffer rfl rfl ⟨Nat.le_of_ble_eq_true rfl, Nat.le_of_ble_eq_true rfl⟩ xe_0 rfl rfl rfl hl.1 rfl (Nat.le_of_ble_eq_true rfl) d_Nm_suits_2 ⟨Nat.zero_le _, Nat.zero_le _⟩) hS (xA_up hS.1) (fun _ H locs hu2 hP hS _ _ => ?_)
  have hP : va_P E.1 xcl (xV E a (a 6) (a 10) mm h) H := hP
  refine lv_if_ne (tgt := 10) hx hb d_Nm_suits_5 (by decide) (fun c5 => ?_) (fun c5 => ?_)
  · have hlit := brN _ hlit c5
    refine lv_aload_n hx hb d_Nm_suits_10 rfl (lv_at hl 0 rfl) ?_
    obtain ⟨h_11, hl11, hlit⟩ := bindS hlit
    refine fCallQ (fRunV (As := []) (rest := []) (q0 := 0) (ci := 0) hx hb hml hown hts hK hN hP (cx_Nm_now l E a ha mm h _ (h9 := h_11) hl11) q348 q349 q12 q49 q350 hd_x_Nm_now rfl rfl ⟨Nat.le_of_ble_eq_true rfl, Nat.le_of_ble_eq_true rfl⟩ xe_0 rfl rfl rfl hl.1 rfl (Nat.le_of_ble_eq_true rfl) d_Nm_suits_11 ⟨Nat.zero_le _, Nat.zero_le _⟩) hS (xA_up hS.1) (fun z11_ H locs hu11 hP hS _ _ => ?_)
    have hP : va_P E.1 xcl (xV E a (a 6) (a 10) (a 6) h_11) H := hP
    refine W.eq (g2 := F0 m 14 ls [.ref (a 5)]) rfl ?_
    refine lv_astore_n (lv' := [(2, .ref (a 5)), (0, .ref (a 0)), (1, .int p1)]) hx hb d_Nm_suits_14 rfl hl (by decide) rfl (fun ls hl => ?_)
    refine lv_aload_n hx hb d_Nm_suits_15 rfl (lv_at hl 0 rfl) ?_
    refine lv_iconst (v := (-1 : Int32)) hx hb d_Nm_suits_16 (by decide) ?_
    obtain ⟨r17, hl17, hlit⟩ := bindS hlit
    refine fCallI (fRunV (As := [.int (-1 : Int32)]) (rest := []) (q0 := 5) (ci := 2) hx hb hml hown hts hK hN hP (cx_Moment_mostDish l E a ha (a 6) (a 10) h_11 _ (-1 : Int32) (r0 := r17) hl17) q477 q478 q479 q56 q480 hd_x_Moment_mostDish rfl rfl ⟨Nat.le_of_ble_eq_true rfl, Nat.le_of_ble_eq_true rfl⟩ xe_5 rfl rfl rfl hl.1 rfl (Nat.le_of_ble_eq_true rfl) d_Nm_suits_17 ⟨Nat.zero_le _, Nat.zero_le _⟩) hS (xA_up hS.1) (fun _ H locs hu17 hP hS _ _ => ?_)
    have hP : va_P E.1 xcl (xV E a (a 6) (a 10) (a 6) h_11) H := hP
    refine lv_istore_n (lv' := [(3, .int r17), (2, .ref (a 5)), (0, .ref (a 0)), (1, .int p1)]) hx hb d_Nm_suits_20 rfl hl (by decide) rfl (fun ls hl => ?_)
    refine lv_iconst (v := (0 : Int32)) hx hb d_Nm_suits_21 (by decide) ?_
    refine lv_istore (lv' := [(4, .int (0 : Int32)), (3, .int r17), (2, .ref (a 5)), (0, .ref (a 0)), (1, .int p1)]) hx hb d_Nm_suits_22 hl (by decide) rfl (fun ls hl => ?_)
    refine lv_iconst (v := (0 : Int32)) hx hb d_Nm_suits_24 (by decide) ?_
    refine lv_istore (lv' := [(5, .int (0 : Int32)), (4, .int (0 : Int32)), (3, .int r17), (2, .ref (a 5)), (0, .ref (a 0)), (1, .int p1)]) hx hb d_Nm_suits_25 hl (by decide) rfl (fun ls hl => ?_)
    exact b27 FU r17 (0 : Int32) (0 : Int32) h_11 _ _ _ hlit hP hS (lv_sub hl [4, 5, 3, 2, 1, 0] rfl)
  · have hlit := brP _ hlit c5
    refine lv_iconst (v := (-1 : Int32)) hx hb d_Nm_suits_8 (by decide) ?_
    cases hlit
    exact ret mm _ _ _ _ trivial hP hS rfl d_Nm_suits_9
