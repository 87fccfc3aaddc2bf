abbrev rm_x_Nm_against : Room := { frames := 4, cells := 0, slots := 0, locals := 89 }
theorem hd_x_Nm_against : y_Nm_against.cls ≠ "java/lang/invoke/MethodHandle" ∧ y_Nm_against.cls ≠ "java/lang/invoke/VarHandle" ∧ (parseMethodDescriptor y_Nm_against.desc).map (fun d => d.parameters.length) = some 2 := by decide +kernel
set_option maxHeartbeats 4000000 in
set_option maxRecDepth 100000 in
theorem cx_Nm_against (l : Launch) (E : xE) (a : Nat → Nat) (ha : xInj a 38) (mm : Nat) (h : Hp) (sz : Nat) (p1 : Int32) (p2 : Int32) {r0 : Int32} {h9 : Hp} (hlit : x_Nm_against p1 p2 h = some (r0, h9)) : Met l y_Nm_against (Cond.code y_Nm_against b_Nm_against 3 (some .int) :: TB) rm_x_Nm_against (fPc [.ref (a 0), .int p1, .int p2] E.1 (xtys E) sz (xV E a (a 6) (a 10) mm h)) (fQi (fun _ : Nat => True) r0 E.1 (fun (z : Nat) => xV E a (a 6) (a 10) z h9) (xA a 38 sz)) 0 0 (xA a 38 sz) := by
  refine fl_startI (by decide) (Nat.le_of_ble_eq_true rfl) ?_
  intro p e s m args below meth c Q hx hb hml hown hts hsz hP hK hN ret ls hl
  subst hsz
  have hA : ∀ k, k < 38 → (xA a 38 s.heap.size) (a k) := xA_in
  have hS : va_S (xA a 38 s.heap.size) s.heap s.heap [] := va_S.rf
  have hl : lv_has ls 3 [(0, .ref (a 0)), (1, .int p1), (2, .int p2)] := hl
  refine lv_aload_n hx hb d_Nm_against_0 rfl (lv_at hl 0 rfl) ?_
  refine xg_Nm_7 hx hb hts hown hK hP q294 d_Nm_against_1 ?_
  refine lv_iload_n hx hb d_Nm_against_4 rfl (lv_at hl 1 rfl) ?_
  obtain ⟨r5, hl5, hlit⟩ := bindS hlit
  refine fCallI (fRunV (As := [.int p1]) (rest := []) (q0 := 6) (ci := 1) hx hb hml hown hts hK hN hP (cx_Menu_hasDish l E a ha (a 6) (a 10) mm h _ 6 rfl p1 (r0 := r5) hl5) q392 q275 q276 q55 q277 hd_x_Menu_hasDish rfl rfl ⟨Nat.le_of_ble_eq_true rfl, Nat.le_of_ble_eq_true rfl⟩ (xeU rfl) rfl rfl rfl hl.1 rfl (Nat.le_of_ble_eq_true rfl) d_Nm_against_5 ⟨Nat.zero_le _, Nat.zero_le _⟩) hS (xA_up hS.1) (fun _ H locs hu5 hP hS _ _ => ?_)
  have hP : va_P E.1 xcl (xV E a (a 6) (a 10) mm h) H := hP
  refine lv_if_eq (tgt := 20) hx hb d_Nm_against_8 (by decide) (fun c8 => ?_) (fun c8 => ?_)
  · have hlit := brP _ hlit c8
    refine lv_iconst (v := (-1 : Int32)) hx hb d_Nm_against_20 (by decide) ?_
    cases hlit
    exact ret mm _ _ _ _ trivial hP hS rfl d_Nm_against_21
  · have hlit := brN _ hlit c8
    refine lv_iload_n hx hb d_Nm_against_11 rfl (lv_at hl 2 rfl) ?_
    refine lv_iconst (v := (0 : Int32)) hx hb d_Nm_against_12 (by decide) ?_
    refine lv_iconst (v := (1 : Int32)) hx hb d_Nm_against_13 (by decide) ?_
    obtain ⟨r14, hl14, hlit⟩ := bindS hlit
    refine fCallI (fRunS (As := [.int p2, .int (0 : Int32), .int (1 : Int32)]) (rest := []) hx hb hml hown hts hK hN hP (cx_Nm_isOutside l E a ha (a 6) (a 10) mm h _ p2 (0 : Int32) (1 : Int32) (r0 := r14) hl14) q310 q263 q49 q264 hd_x_Nm_isOutside rfl rfl ⟨Nat.le_of_ble_eq_true rfl, Nat.le_of_ble_eq_true rfl⟩ rfl hl.1 rfl (Nat.le_of_ble_eq_true rfl) d_Nm_against_14 ⟨Nat.zero_le _, Nat.zero_le _⟩) hS (xA_up hS.1) (fun _ H locs hu14 hP hS _ _ => ?_)
    have hP : va_P E.1 xcl (xV E a (a 6) (a 10) mm h) H := hP
    refine lv_if_eq (tgt := 22) hx hb d_Nm_against_17 (by decide) (fun c17 => ?_) (fun c17 => ?_)
    · have hlit := brP _ hlit c17
      refine lv_iload_n hx hb d_Nm_against_22 rfl (lv_at hl 2 rfl) ?_
      refine lv_if_ne (tgt := 37) hx hb d_Nm_against_23 (by decide) (fun c23 => ?_) (fun c23 => ?_)
      · have hlit := brN _ hlit c23
        refine lv_aload_n hx hb d_Nm_against_37 rfl (lv_at hl 0 rfl) ?_
        obtain ⟨h_38, hl38, hlit⟩ := bindS hlit
        refine fCallQ (fRunV (As := []) (rest := []) (q0 := 0) (ci := 0) hx hb hml hown hts hK hN hP (cx_Nm_now l E a ha mm h _ (h9 := h_38) hl38) q348 q349 q12 q49 q350 hd_x_Nm_now rfl rfl ⟨Nat.le_of_ble_eq_true rfl, Nat.le_of_ble_eq_true rfl⟩ xe_0 rfl rfl rfl hl.1 rfl (Nat.le_of_ble_eq_true rfl) d_Nm_against_38 ⟨Nat.zero_le _, Nat.zero_le _⟩) hS (xA_up hS.1) (fun z38_ H locs hu38 hP hS _ _ => ?_)
        have hP : va_P E.1 xcl (xV E a (a 6) (a 10) (a 6) h_38) H := hP
        refine W.eq (g2 := F0 m 41 ls [.ref (a 5)]) rfl ?_
        refine lv_iload_n hx hb d_Nm_against_41 rfl (lv_at hl 1 rfl) ?_
        obtain ⟨r42, hl42, hlit⟩ := bindS hlit
        refine fCallI (fRunV (As := [.int p1]) (rest := []) (q0 := 5) (ci := 2) hx hb hml hown hts hK hN hP (cx_Moment_leastWorth l E a ha (a 6) (a 10) h_38 _ p1 (r0 := r42) hl42) q497 q494 q495 q56 q496 hd_x_Moment_leastWorth rfl rfl ⟨Nat.le_of_ble_eq_true rfl, Nat.le_of_ble_eq_true rfl⟩ xe_5 rfl rfl rfl hl.1 rfl (Nat.le_of_ble_eq_true rfl) d_Nm_against_42 ⟨Nat.zero_le _, Nat.zero_le _⟩) hS (xA_up hS.1) (fun _ H locs hu42 hP hS _ _ => ?_)
        have hP : va_P E.1 xcl (xV E a (a 6) (a 10) (a 6) h_38) H := hP
        cases hlit
        exact ret (a 6) _ _ _ _ trivial hP hS rfl d_Nm_against_45
      · have hlit := brP _ hlit c23
        refine lv_aload_n hx hb d_Nm_against_26 rfl (lv_at hl 0 rfl) ?_
        obtain ⟨h_27, hl27, hlit⟩ := bindS hlit
        refine fCallQ (fRunV (As := []) (rest := []) (q0 := 0) (ci := 0) hx hb hml hown hts hK hN hP (cx_Nm_now l E a ha mm h _ (h9 := h_27) hl27) q348 q349 q12 q49 q350 hd_x_Nm_now rfl rfl ⟨Nat.le_of_ble_eq_true rfl, Nat.le_of_ble_eq_true rfl⟩ xe_0 rfl rfl rfl hl.1 rfl (Nat.le_of_ble_eq_true rfl) d_Nm_against_27 ⟨Nat.zero_le _, Nat.zero_le _⟩) hS (xA_up hS.1) (fun z27_ H locs hu27 hP hS _ _ => ?_)
        have hP : va_P E.1 xcl (xV E a (a 6) (a 10) (a 6) h_27) H := hP
        refine W.eq (g2 := F0 m 30 ls [.ref (a 5)]) rfl ?_
        refine lv_iload_n hx hb d_Nm_against_30 rfl (lv_at hl 1 rfl) ?_
        obtain ⟨r31, hl31, hlit⟩ := bindS hlit
        refine fCallI (fRunV (As := [.int p1]) (rest := []) (q0 := 5) (ci := 2) hx hb hml hown hts hK hN hP (cx_Moment_opponent l E a ha (a 6) (a 10) h_27 _ p1 (r0 := r31) hl31) q605 q606 q607 q56 q608 hd_x_Moment_opponent rfl rfl ⟨Nat.le_of_ble_eq_true rfl, Nat.le_of_ble_eq_true rfl⟩ xe_5 rfl rfl rfl hl.1 rfl (Nat.le_of_ble_eq_true rfl) d_Nm_against_31 ⟨Nat.zero_le _, Nat.zero_le _⟩) hS (xA_up hS.1) (fun _ H locs hu31 hP hS _ _ => ?_)
        have hP : va_P E.1 xcl (xV E a (a 6) (a 10) (a 6) h_27) H := hP
        refine lv_goto (tgt := 45) hx hb d_Nm_against_34 (by decide) ?_
        cases hlit
        exact ret (a 6) _ _ _ _ trivial hP hS rfl d_Nm_against_45
    · have hlit := brN _ hlit c17
      refine lv_iconst (v := (-1 : Int32)) hx hb d_Nm_against_20 (by decide) ?_
      cases hlit
      exact ret mm _ _ _ _ trivial hP hS rfl d_Nm_against_21

abbrev rm_x_Nm_ask : Room := { frames := 5, cells := 0, slots := 0, locals := 113 }
theorem hd_x_Nm_ask : y_Nm_ask.cls ≠ "java/lang/invoke/MethodHandle" ∧ y_Nm_ask.cls ≠ "java/lang/invoke/VarHandle" ∧ (parseMethodDescriptor y_Nm_ask.desc).map (fun d => d.parameters.length) = some 1 := by decide +kernel
set_option maxHeartbeats 4000000 in
set_option maxRecDepth 100000 in
theorem cx_Nm_ask (l : Launch) (E : xE) (a : Nat → Nat) (ha : xInj a 38) (mm : Nat) (h : Hp) (sz : Nat) (p1 : Int32) {r0 : Int32} {h9 : Hp} (hlit : x_Nm_ask p1 h = some (r0, h9)) : Met l y_Nm_ask (Cond.code y_Nm_ask b_Nm_ask 5 (some .int) :: TB) rm_x_Nm_ask (fPc [.ref (a 0), .int p1] E.1 (xtys E) sz (xV E a (a 6) (a 10) mm h)) (fQi (fun _ : Nat => True) r0 E.1 (fun (z : Nat) => xV E a (a 6) (a 10) z h9) (xA a 38 sz)) 0 0 (xA a 38 sz) := by
  refine fl_startI (by decide) (Nat.le_of_ble_eq_true rfl) ?_
  intro p e s m args below meth c Q hx hb hml hown hts hsz hP hK hN ret ls hl
  subst hsz
  have hA : ∀ k, k < 38 → (xA a 38 s.heap.size) (a k) := xA_in
  have hS : va_S (xA a 38 s.heap.size) s.heap s.heap [] := va_S.rf
  have hl : lv_has ls 5 [(0, .ref (a 0)), (1, .int p1)] := hl
  have b26 : ∀ (n : Nat), ∀ (x3 : Int32) (x4 : Int32) (h : Hp) (H : Heap) (locs : List Loc) (ls : Array Slot), x_Nm_ask_b26 p1 n x3 x4 h = some (r0, h9) → va_P E.1 xcl (xV E a (a 6) (a 10) (a 6) h) H → va_S (xA a 38 s.heap.size) s.heap H locs → lv_has ls 5 [(0, .ref (a 0)), (1, .int p1), (2, .ref (a 5)), (3, .int x3), (4, .int x4)] → W p l e rm_x_Nm_ask s m args below meth c H locs 0 0 Q (F0 m 26 ls []) := by
    intro n
    induction n with
    | zero => intro x3 x4 h H locs ls hlit hP hS hl; exact nnF hlit
    | succ n ih =>
      intro x3 x4 h H locs ls hlit hP hS hl
      refine lv_iload hx hb d_Nm_ask_26 (lv_at hl 4 rfl) ?_
      refine lv_iload_n hx hb d_Nm_ask_28 rfl (lv_at hl 1 rfl) ?_
      refine lv_icmp_ge (tgt := 63) hx hb d_Nm_ask_29 (by decide) (fun c29 => ?_) (fun c29 => ?_)
      · have hlit := brP _ hlit c29
        refine lv_bipush (v := (-4 : Int32)) hx hb d_Nm_ask_63 (by decide) ?_
        cases hlit
        exact ret (a 6) _ _ _ _ trivial hP hS rfl d_Nm_ask_65
      · have hlit := brN _ hlit c29
        refine lv_iload hx hb d_Nm_ask_32 (lv_at hl 4 rfl) ?_
        refine lv_aload_n hx hb d_Nm_ask_34 rfl (lv_at hl 0 rfl) ?_
        refine xg_Nm_7 hx hb hts hown hK hP q294 d_Nm_ask_35 ?_
        refine xg_Menu_1 hx hb hts hown hK hP rfl q152 d_Nm_ask_38 ?_
        refine lv_icmp_ge (tgt := 63) hx hb d_Nm_ask_41 (by decide) (fun c41 => ?_) (fun c41 => ?_)
        · have hlit := brP _ hlit c41
          refine lv_bipush (v := (-4 : Int32)) hx hb d_Nm_ask_63 (by decide) ?_
          cases hlit
          exact ret (a 6) _ _ _ _ trivial hP hS rfl d_Nm_ask_65
        · have hlit := brN _ hlit c41
          refine lv_aload_n hx hb d_Nm_ask_44 rfl (lv_at hl 2 rfl) ?_
          refine lv_iload hx hb d_Nm_ask_45 (lv_at hl 4 rfl) ?_
          obtain ⟨r47, hl47, hlit⟩ := bindS hlit
          refine fCallI (fRunV (As := [.int x4]) (rest := []) (q0 := 5) (ci := 2) hx hb hml hown hts hK hN hP (cx_Moment_mostDish l E a ha (a 6) (a 10) h _ x4 (r0 := r47) hl47) q477 q478 q479 q56 q480 hd_x_Moment_mostDish rfl rfl ⟨Nat.le_of_ble_eq_true rfl, Nat.le_of_ble_eq_true rfl⟩ xe_5 rfl rfl rfl hl.1 rfl (Nat.le_of_ble_eq_true rfl) d_Nm_ask_47 ⟨Nat.zero_le _, Nat.zero_le _⟩) hS (xA_up hS.1) (fun _ H locs hu47 hP hS _ _ => ?_)
          have hP : va_P E.1 xcl (xV E a (a 6) (a 10) (a 6) h) H := hP
          refine lv_iload_n hx hb d_Nm_ask_50 rfl (lv_at hl 3 rfl) ?_
          refine lv_icmp_eq (tgt := 57) hx hb d_Nm_ask_51 (by decide) (fun c51 => ?_) (fun c51 => ?_)
          · have hlit := brP _ hlit c51
            refine lv_iinc (v := (x4 + (1 : Int32))) (lv' := [(4, .int (x4 + (1 : Int32))), (0, .ref (a 0)), (1, .int p1), (2, .ref (a 5)), (3, .int x3)]) hx hb d_Nm_ask_57 hl (k := 4) rfl rfl (by decide) rfl (fun ls hl => ?_)
            refine lv_goto (tgt := 26) hx hb d_Nm_ask_60 (by decide) ?_
            exact ih x3 (x4 + (1 : Int32)) h _ _ _ hlit hP hS (lv_sub hl [1, 2, 3, 4, 0] rfl)
          · have hlit := brN _ hlit c51
            refine lv_iload hx hb d_Nm_ask_54 (lv_at hl 4 rfl) ?_
            cases hlit
            exact ret (a 6) _ _ _ _ trivial hP hS rfl d_Nm_ask_56
  refine lv_iload_n hx hb d_Nm_ask_0 rfl (lv_at hl 1 rfl) ?_
  refine lv_iconst (v := (1 : Int32)) hx hb d_Nm_ask_1 (by decide) ?_
  refine lv_bipush (v := (9 : Int32)) hx hb d_Nm_ask_2 (by decide) ?_
  obtain ⟨r4, hl4, hlit⟩ := bindS hlit
  refine fCallI (fRunS (As := [.int p1, .int (1 : Int32), .int (9 : Int32)]) (rest := []) hx hb hml hown hts hK hN hP (cx_Nm_isOutside l E a ha (a 6) (a 10) mm h _ p1 (1 : Int32) (9 : Int32) (r0 := r4) hl4) q310 q263 q49 q264 hd_x_Nm_isOutside rfl rfl ⟨Nat.le_of_ble_eq_true rfl, Nat.le_of_ble_eq_true rfl⟩ rfl hl.1 rfl (Nat.le_of_ble_eq_true rfl) d_Nm_ask_4 ⟨Nat.zero_le _, Nat.zero_le _⟩) hS (xA_up hS.1) (fun _ H locs hu4 hP hS _ _ => ?_)
  have hP : va_P E.1 xcl (xV E a (a 6) (a 10) mm h) H := hP
  refine lv_if_eq (tgt := 12) hx hb d_Nm_ask_7 (by decide) (fun c7 => ?_) (fun c7 => ?_)
  · have hlit := brP _ hlit c7
    refine lv_aload_n hx hb d_Nm_ask_12 rfl (lv_at hl 0 rfl) ?_
    obtain ⟨h_13, hl13, hlit⟩ := bindS hlit
    refine fCallQ (fRunV (As := []) (rest := []) (q0 := 0) (ci := 0) hx hb hml hown hts hK hN hP (cx_Nm_now l E a ha mm h _ (h9 := h_13) hl13) q348 q349 q12 q49 q350 hd_x_Nm_now rfl rfl ⟨Nat.le_of_ble_eq_true rfl, Nat.le_of_ble_eq_true rfl⟩ xe_0 rfl rfl rfl hl.1 rfl (Nat.le_of_ble_eq_true rfl) d_Nm_ask_13 ⟨Nat.zero_le _, Nat.zero_le _⟩) hS (xA_up hS.1) (fun z13_ H locs hu13 hP hS _ _ => ?_)
    have hP : va_P E.1 xcl (xV E a (a 6) (a 10) (a 6) h_13) H := hP
    refine W.eq (g2 := F0 m 16 ls [.ref (a 5)]) rfl ?_
    refine lv_astore_n (lv' := [(2, .ref (a 5)), (0, .ref (a 0)), (1, .int p1)]) hx hb d_Nm_ask_16 rfl hl (by decide) rfl (fun ls hl => ?_)
    refine lv_aload_n hx hb d_Nm_ask_17 rfl (lv_at hl 0 rfl) ?_
    refine lv_iconst (v := (-1 : Int32)) hx hb d_Nm_ask_18 (by decide) ?_
    obtain ⟨r19, hl19, hlit⟩ := bindS hlit
    refine fCallI (fRunV (As := [.int (-1 : Int32)]) (rest := []) (q0 := 5) (ci := 2) hx hb hml hown hts hK hN hP (cx_Moment_mostDish l E a ha (a 6) (a 10) h_13 _ (-1 : Int32) (r0 := r19) hl19) q477 q478 q479 q56 q480 hd_x_Moment_mostDish rfl rfl ⟨Nat.le_of_ble_eq_true rfl, Nat.le_of_ble_eq_true rfl⟩ xe_5 rfl rfl rfl hl.1 rfl (Nat.le_of_ble_eq_true rfl) d_Nm_ask_19 ⟨Nat.zero_le _, Nat.zero_le _⟩) hS (xA_up hS.1) (fun _ H locs hu19 hP hS _ _ => ?_)
    have hP : va_P E.1 xcl (xV E a (a 6) (a 10) (a 6) h_13) H := hP
    refine lv_istore_n (lv' := [(3, .int r19), (2, .ref (a 5)), (0, .ref (a 0)), (1, .int p1)]) hx hb d_Nm_ask_22 rfl hl (by decide) rfl (fun ls hl => ?_)
    refine lv_iconst (v := (0 : Int32)) hx hb d_Nm_ask_23 (by decide) ?_
    refine lv_istore (lv' := [(4, .int (0 : Int32)), (3, .int r19), (2, .ref (a 5)), (0, .ref (a 0)), (1, .int p1)]) hx hb d_Nm_ask_24 hl (by decide) rfl (fun ls hl => ?_)
    exact b26 FU r19 (0 : Int32) h_13 _ _ _ hlit hP hS (lv_sub hl [3, 4, 2, 1, 0] rfl)
  · have hlit := brN _ hlit c7
    refine lv_iconst (v := (-1 : Int32)) hx hb d_Nm_ask_10 (by decide) ?_
    cases hlit
    exact ret mm _ _ _ _ trivial hP hS rfl d_Nm_ask_11

abbrev rm_x_Nm_power : Room := { frames := 0, cells := 0, slots := 0, locals := 0 }
theorem hd_x_Nm_power : y_Nm_power.cls ≠ "java/lang/invoke/MethodHandle" ∧ y_Nm_power.cls ≠ "java/lang/invoke/VarHandle" ∧ (parseMethodDescriptor y_Nm_power.desc).map (fun d => d.parameters.length) = some 2 := by decide +kernel
set_option maxHeartbeats 4000000 in
set_option maxRecDepth 100000 in
theorem cx_Nm_power (l : Launch) (E : xE) (a : Nat → Nat) (ha : xInj a 38) (u v : Nat) (mm : Nat) (h : Hp) (sz : Nat) (p0 : Int32) (p1 : Int32) {r0 : Int32} (hlit : x_Nm_power p0 p1 h = some r0) : Met l y_Nm_power (Cond.code y_Nm_power b_Nm_power 4 (some .int) :: TB) rm_x_Nm_power (fPc [.int p0, .int p1] E.1 (xtys E) sz (xV E a u v mm h)) (fQi (fun _ : Nat => True) r0 E.1 (fun (_ : Nat) => xV E a u v mm h) (xA a 38 sz)) 0 0 (xA a 38 sz) := by
  refine fl_startI (by decide) (Nat.le_of_ble_eq_true rfl) ?_
  intro p e s m args below meth c Q hx hb hml hown hts hsz hP hK hN ret ls hl
  subst hsz
  have hA : ∀ k, k < 38 → (xA a 38 s.heap.size) (a k) := xA_in
  have hS : va_S (xA a 38 s.heap.size) s.heap s.heap [] := va_S.rf
  have hl : lv_has ls 4 [(0, .int p0), (1, .int p1)] := hl
  have b4 : ∀ (n : Nat), ∀ (x2 : Int32) (x3 : Int32) (H : Heap) (locs : List Loc) (ls : Array Slot), x_Nm_power_b4 p0 p1 h n x2 x3 = some r0 → va_P E.1 xcl (xV E a u v mm h) H → va_S (xA a 38 s.heap.size) s.heap H locs → lv_has ls 4 [(0, .int p0), (1, .int p1), (2, .int x2), (3, .int x3)] → W p l e rm_x_Nm_power s m args below meth c H locs 0 0 Q (F0 m 4 ls []) := by
    intro n
    induction n with
    | zero => intro x2 x3 H locs ls hlit hP hS hl; exact nnF hlit
    | succ n ih =>
      intro x2 x3 H locs ls hlit hP hS hl
      refine lv_iload_n hx hb d_Nm_power_4 rfl (lv_at hl 3 rfl) ?_
      refine lv_iload_n hx hb d_Nm_power_5 rfl (lv_at hl 1 rfl) ?_
      refine lv_icmp_ge (tgt := 19) hx hb d_Nm_power_6 (by decide) (fun c6 => ?_) (fun c6 => ?_)
      · have hlit := brP _ hlit c6
        refine lv_iload_n hx hb d_Nm_power_19 rfl (lv_at hl 2 rfl) ?_
        cases hlit
        exact ret 0 _ _ _ _ trivial hP hS rfl d_Nm_power_20
      · have hlit := brN _ hlit c6
        refine lv_iload_n hx hb d_Nm_power_9 rfl (lv_at hl 2 rfl) ?_
        refine lv_iload_n hx hb d_Nm_power_10 rfl (lv_at hl 0 rfl) ?_
        refine lv_imul hx hb d_Nm_power_11 ?_
        obtain ⟨y12, ey12, hlit⟩ := bindS hlit
        refine topn ey12 ?_
        refine lv_istore_n (lv' := [(2, .int y12), (0, .int p0), (1, .int p1), (3, .int x3)]) hx hb d_Nm_power_12 rfl hl (by decide) rfl (fun ls hl => ?_)
        refine lv_iinc (v := (x3 + (1 : Int32))) (lv' := [(3, .int (x3 + (1 : Int32))), (2, .int y12), (0, .int p0), (1, .int p1)]) hx hb d_Nm_power_13 hl (k := 3) rfl rfl (by decide) rfl (fun ls hl => ?_)
        refine lv_goto (tgt := 4) hx hb d_Nm_power_16 (by decide) ?_
        exact ih y12 (x3 + (1 : Int32)) _ _ _ hlit hP hS (lv_sub hl [2, 3, 1, 0] rfl)
  refine lv_iconst (v := (1 : Int32)) hx hb d_Nm_power_0 (by decide) ?_
  refine lv_istore_n (lv' := [(2, .int (1 : Int32)), (0, .int p0), (1, .int p1)]) hx hb d_Nm_power_1 rfl hl (by decide) rfl (fun ls hl => ?_)
  refine lv_iconst (v := (0 : Int32)) hx hb d_Nm_power_2 (by decide) ?_
  refine lv_istore_n (lv' := [(3, .int (0 : Int32)), (2, .int (1 : Int32)), (0, .int p0), (1, .int p1)]) hx hb d_Nm_power_3 rfl hl (by decide) rfl (fun ls hl => ?_)
  exact b4 FU (1 : Int32) (0 : Int32) _ _ _ hlit hP hS (lv_sub hl [2, 3, 1, 0] rfl)

abbrev rm_x_Nm_commonDivisor : Room := { frames := 0, cells := 0, slots := 0, locals := 0 }
theorem hd_x_Nm_commonDivisor : y_Nm_commonDivisor.cls ≠ "java/lang/invoke/MethodHandle" ∧ y_Nm_commonDivisor.cls ≠ "java/lang/invoke/VarHandle" ∧ (parseMethodDescriptor y_Nm_commonDivisor.desc).map (fun d => d.parameters.length) = some 2 := by decide +kernel
set_option maxHeartbeats 4000000 in
set_option maxRecDepth 100000 in
theorem cx_Nm_commonDivisor (l : Launch) (E : xE) (a : Nat → Nat) (ha : xInj a 38) (u v : Nat) (mm : Nat) (h : Hp) (sz : Nat) (p0 : Int32) (p1 : Int32) {r0 : Int32} (hlit : x_Nm_commonDivisor p0 p1 h = some r0) : Met l y_Nm_commonDivisor (Cond.code y_Nm_commonDivisor b_Nm_commonDivisor 6 (some .int) :: TB) rm_x_Nm_commonDivisor (fPc [.int p0, .int p1] E.1 (xtys E) sz (xV E a u v mm h)) (fQi (fun _ : Nat => True) r0 E.1 (fun (_ : Nat) => xV E a u v mm h) (xA a 38 sz)) 0 0 (xA a 38 sz) := by
  refine fl_startI (by decide) (Nat.le_of_ble_eq_true rfl) ?_
  intro p e s m args below meth c Q hx hb hml hown hts hsz hP hK hN ret ls hl
  subst hsz
  have hA : ∀ k, k < 38 → (xA a 38 s.heap.size) (a k) := xA_in
  have hS : va_S (xA a 38 s.heap.size) s.heap s.heap [] := va_S.rf
  have hl : lv_has ls 6 [(0, .int p0), (1, .int p1)] := hl
  have b7 : ∀ (n : Nat), ∀ (x2 : Int32) (x3 : Int32) (x4 : Int32) (H : Heap) (locs : List Loc) (ls : Array Slot), x_Nm_commonDivisor_b7 p0 p1 h n x2 x3 x4 = some r0 → va_P E.1 xcl (xV E a u v mm h) H → va_S (xA a 38 s.heap.size) s.heap H locs → lv_has ls 6 [(2, .int x2), (3, .int x3), (4, .int x4)] → W p l e rm_x_Nm_commonDivisor s m args below meth c H locs 0 0 Q (F0 m 7 ls []) := by
    intro n
    induction n with
    | zero => intro x2 x3 x4 H locs ls hlit hP hS hl; exact nnF hlit
    | succ n ih =>
      intro x2 x3 x4 H locs ls hlit hP hS hl
      refine lv_iload hx hb d_Nm_commonDivisor_7 (lv_at hl 2 rfl) ?_
      refine lv_bipush (v := (64 : Int32)) hx hb d_Nm_commonDivisor_9 (by decide) ?_
      refine lv_icmp_ge (tgt := 34) hx hb d_Nm_commonDivisor_11 (by decide) (fun c11 => ?_) (fun c11 => ?_)
      · have hlit := brP _ hlit c11
        refine lv_iload_n hx hb d_Nm_commonDivisor_34 rfl (lv_at hl 0 rfl) ?_
        cases hlit
        exact ret 0 _ _ _ _ trivial hP hS rfl d_Nm_commonDivisor_35
      · have hlit := brN _ hlit c11
        refine lv_iload_n hx hb d_Nm_commonDivisor_14 rfl (lv_at hl 1 rfl) ?_
        refine lv_if_eq (tgt := 34) hx hb d_Nm_commonDivisor_15 (by decide) (fun c15 => ?_) (fun c15 => ?_)
        · have hlit := brP _ hlit c15
          refine lv_iload_n hx hb d_Nm_commonDivisor_34 rfl (lv_at hl 0 rfl) ?_
          cases hlit
          exact ret 0 _ _ _ _ trivial hP hS rfl d_Nm_commonDivisor_35
        · have hlit := brN _ hlit c15
          refine lv_iload_n hx hb d_Nm_commonDivisor_18 rfl (lv_at hl 0 rfl) ?_
          refine lv_iload_n hx hb d_Nm_commonDivisor_19 rfl (lv_at hl 1 rfl) ?_
          obtain ⟨g20, hlit⟩ := gdP _ hlit
          refine lv_irem hx hb d_Nm_commonDivisor_20 g20 ?_
          obtain ⟨y21, ey21, hlit⟩ := bindS hlit
          refine topn ey21 ?_
          refine lv_istore (lv' := [(5, .int y21), (2, .int x2), (3, .int x3), (4, .int x4)]) hx hb d_Nm_commonDivisor_21 hl (by decide) rfl (fun ls hl => ?_)
          refine lv_iload_n hx hb d_Nm_commonDivisor_23 rfl (lv_at hl 2 rfl) ?_
          refine lv_istore_n (lv' := [(2, .int x3), (5, .int y21), (3, .int x3), (4, .int x4)]) hx hb d_Nm_commonDivisor_24 rfl hl (by decide) rfl (fun ls hl => ?_)
          refine lv_iload hx hb d_Nm_commonDivisor_25 (lv_at hl 1 rfl) ?_
          refine lv_istore_n (lv' := [(3, .int y21), (2, .int x3), (5, .int y21), (4, .int x4)]) hx hb d_Nm_commonDivisor_27 rfl hl (by decide) rfl (fun ls hl => ?_)
          refine lv_iinc (v := (x4 + (1 : Int32))) (lv' := [(4, .int (x4 + (1 : Int32))), (3, .int y21), (2, .int x3), (5, .int y21)]) hx hb d_Nm_commonDivisor_28 hl (k := 3) rfl rfl (by decide) rfl (fun ls hl => ?_)
          refine lv_goto (tgt := 7) hx hb d_Nm_commonDivisor_31 (by decide) ?_
          exact ih x3 y21 (x4 + (1 : Int32)) _ _ _ hlit hP hS (lv_sub hl [2, 1, 0] rfl)
  refine lv_iload_n hx hb d_Nm_commonDivisor_0 rfl (lv_at hl 1 rfl) ?_
  refine lv_istore_n (lv' := [(2, .int p1), (0, .int p0), (1, .int p1)]) hx hb d_Nm_commonDivisor_1 rfl hl (by decide) rfl (fun ls hl => ?_)
  refine lv_iload_n hx hb d_Nm_commonDivisor_2 rfl (lv_at hl 1 rfl) ?_
  refine lv_istore_n (lv' := [(3, .int p0), (2, .int p1), (0, .int p0), (1, .int p1)]) hx hb d_Nm_commonDivisor_3 rfl hl (by decide) rfl (fun ls hl => ?_)
  refine lv_iconst (v := (0 : Int32)) hx hb d_Nm_commonDivisor_4 (by decide) ?_
  refine lv_istore (lv' := [(4, .int (0 : Int32)), (3, .int p0), (2, .int p1), (0, .int p0), (1, .int p1)]) hx hb d_Nm_commonDivisor_5 hl (by decide) rfl (fun ls hl => ?_)
  exact b7 FU p1 p0 (0 : Int32) _ _ _ hlit hP hS (lv_sub hl [2, 1, 0] rfl)

abbrev rm_x_Nm_wheel : Room := { frames := 5, cells := 0, slots := 0, locals := 111 }
theorem hd_x_Nm_wheel : y_Nm_wheel.cls ≠ "java/lang/invoke/MethodHandle" ∧ y_Nm_wheel.cls ≠ "java/lang/invoke/VarHandle" ∧ (parseMethodDescriptor y_Nm_wheel.desc).map (fun d => d.parameters.length) = some 2 := by decide +kernel
set_option maxHeartbeats 4000000 in
set_option maxRecDepth 100000 in
theorem cx_Nm_wheel (l : Launch) (E : xE) (a : Nat → Nat) (ha : xInj a 38) (mm : Nat) (h : Hp) (sz : Nat) (p1 : Int32) (p2 : Int32) {r0 : Int32} {h9 : Hp} (hlit : x_Nm_wheel p1 p2 h = some (r0, h9)) : Met l y_Nm_wheel (Cond.code y_Nm_wheel b_Nm_wheel 8 (some .int) :: TB) rm_x_Nm_wheel (fPc [.ref (a 0), .int p1, .int p2] E.1 (xtys E) sz (xV E a (a 6) (a 10) mm h)) (fQi (fun _ : Nat => True) r0 E.1 (fun (z : Nat) => xV E a (a 6) (a 10) z h9) (xA a 38 sz)) 0 0 (xA a 38 sz) := by
  refine fl_startI (by decide) (Nat.le_of_ble_eq_true rfl) ?_
  intro p e s m args below meth c Q hx hb hml hown hts hsz hP hK hN ret ls hl
  subst hsz
  have hA : ∀ k, k < 38 → (xA a 38 s.heap.size) (a k) := xA_in
  have hS : va_S (xA a 38 s.heap.size) s.heap s.heap [] := va_S.rf
  have hl : lv_has ls 8 [(0, .ref (a 0)), (1, .int p1), (2, .int p2)] := hl
  refine lv_iload_n hx hb d_Nm_wheel_0 rfl (lv_at hl 1 rfl) ?_
  refine lv_iconst (v := (0 : Int32)) hx hb d_Nm_wheel_1 (by decide) ?_
  refine lv_bipush (v := (6 : Int32)) hx hb d_Nm_wheel_2 (by decide) ?_
  obtain ⟨r4, hl4, hlit⟩ := bindS hlit
  refine fCallI (fRunS (As := [.int p1, .int (0 : Int32), .int (6 : Int32)]) (rest := []) hx hb hml hown hts hK hN hP (cx_Nm_isOutside l E a ha (a 6) (a 10) mm h _ p1 (0 : Int32) (6 : Int32) (r0 := r4) hl4) q310 q263 q49 q264 hd_x_Nm_isOutside rfl rfl ⟨Nat.le_of_ble_eq_true rfl, Nat.le_of_ble_eq_true rfl⟩ rfl hl.1 rfl (Nat.le_of_ble_eq_true rfl) d_Nm_wheel_4 ⟨Nat.zero_le _, Nat.zero_le _⟩) hS (xA_up hS.1) (fun _ H locs hu4 hP hS _ _ => ?_)
  have hP : va_P E.1 xcl (xV E a (a 6) (a 10) mm h) H := hP
  refine lv_if_ne (tgt := 19) hx hb d_Nm_wheel_7 (by decide) (fun c7 => ?_) (fun c7 => ?_)
  · have hlit := brN _ hlit c7
    refine lv_iconst (v := (-1 : Int32)) hx hb d_Nm_wheel_19 (by decide) ?_
    cases hlit
    exact ret mm _ _ _ _ trivial hP hS rfl d_Nm_wheel_20
  · have hlit := brP _ hlit c7
    refine lv_iload_n hx hb d_Nm_wheel_10 rfl (lv_at hl 2 rfl) ?_
    refine lv_iconst (v := (0 : Int32)) hx hb d_Nm_wheel_11 (by decide) ?_
    refine lv_iconst (v := (1 : Int32)) hx hb d_Nm_wheel_12 (by decide) ?_
    obtain ⟨r13, hl13, hlit⟩ := bindS hlit
    refine fCallI (fRunS (As := [.int p2, .int (0 : Int32), .int (1 : Int32)]) (rest := []) hx hb hml hown hts hK hN hP (cx_Nm_isOutside l E a ha (a 6) (a 10) mm h _ p2 (0 : Int32) (1 : Int32) (r0 := r13) hl13) q310 q263 q49 q264 hd_x_Nm_isOutside rfl rfl ⟨Nat.le_of_ble_eq_true rfl, Nat.le_of_ble_eq_true rfl⟩ rfl hl.1 rfl (Nat.le_of_ble_eq_true rfl) d_Nm_wheel_13 ⟨Nat.zero_le _, Nat.zero_le _⟩) hS (xA_up hS.1) (fun _ H locs hu13 hP hS _ _ => ?_)
    have hP : va_P E.1 xcl (xV E a (a 6) (a 10) mm h) H := hP
    refine lv_if_eq (tgt := 21) hx hb d_Nm_wheel_16 (by decide) (fun c16 => ?_) (fun c16 => ?_)
    · have hlit := brP _ hlit c16
      refine lv_aload_n hx hb d_Nm_wheel_21 rfl (lv_at hl 0 rfl) ?_
      obtain ⟨h_22, hl22, hlit⟩ := bindS hlit
      refine fCallQ (fRunV (As := []) (rest := []) (q0 := 0) (ci := 0) hx hb hml hown hts hK hN hP (cx_Nm_now l E a ha mm h _ (h9 := h_22) hl22) q348 q349 q12 q49 q350 hd_x_Nm_now rfl rfl ⟨Nat.le_of_ble_eq_true rfl, Nat.le_of_ble_eq_true rfl⟩ xe_0 rfl rfl rfl hl.1 rfl (Nat.le_of_ble_eq_true rfl) d_Nm_wheel_22 ⟨Nat.zero_le _, Nat.zero_le _⟩) hS (xA_up hS.1) (fun z22_ H locs hu22 hP hS _ _ => ?_)
      have hP : va_P E.1 xcl (xV E a (a 6) (a 10) (a 6) h_22) H := hP
      refine W.eq (g2 := F0 m 25 ls [.ref (a 5)]) rfl ?_
      refine lv_astore_n (lv' := [(3, .ref (a 5)), (0, .ref (a 0)), (1, .int p1), (2, .int p2)]) hx hb d_Nm_wheel_25 rfl hl (by decide) rfl (fun ls hl => ?_)
      refine lv_aload_n hx hb d_Nm_wheel_26 rfl (lv_at hl 0 rfl) ?_
      refine xg_Moment_2 hx hb hts hown hK hP q187 d_Nm_wheel_27 ?_
      obtain ⟨r30, hl30, hlit⟩ := bindS hlit
      refine fCallI (fRunS (As := [.int (h_22 5 2)]) (rest := []) hx hb hml hown hts hK hN hP (cx_Int_bitCount l E a ha (a 6) (a 10) (a 6) h_22 _ (h_22 5 2) (r0 := r30) hl30) q446 q447 q63 q448 hd_x_Int_bitCount rfl rfl ⟨Nat.le_of_ble_eq_true rfl, Nat.le_of_ble_eq_true rfl⟩ rfl hl.1 rfl (Nat.le_of_ble_eq_true rfl) d_Nm_wheel_30 ⟨Nat.zero_le _, Nat.zero_le _⟩) hS (xA_up hS.1) (fun _ H locs hu30 hP hS _ _ => ?_)
      have hP : va_P E.1 xcl (xV E a (a 6) (a 10) (a 6) h_22) H := hP
      refine lv_istore (lv' := [(4, .int r30), (3, .ref (a 5)), (0, .ref (a 0)), (1, .int p1), (2, .int p2)]) hx hb d_Nm_wheel_33 hl (by decide) rfl (fun ls hl => ?_)
      refine lv_iload hx hb d_Nm_wheel_35 (lv_at hl 0 rfl) ?_
      refine lv_iload_n hx hb d_Nm_wheel_37 rfl (lv_at hl 3 rfl) ?_
      obtain ⟨r38, hl38, hlit⟩ := bindS hlit
      refine fCallI (fRunS (As := [.int r30, .int p1]) (rest := []) hx hb hml hown hts hK hN hP (cx_Nm_power l E a ha (a 6) (a 10) (a 6) h_22 _ r30 p1 (r0 := r38) hl38) q617 q618 q49 q619 hd_x_Nm_power rfl rfl ⟨Nat.le_of_ble_eq_true rfl, Nat.le_of_ble_eq_true rfl⟩ rfl hl.1 rfl (Nat.le_of_ble_eq_true rfl) d_Nm_wheel_38 ⟨Nat.zero_le _, Nat.zero_le _⟩) hS (xA_up hS.1) (fun _ H locs hu38 hP hS _ _ => ?_)
      have hP : va_P E.1 xcl (xV E a (a 6) (a 10) (a 6) h_22) H := hP
      refine lv_istore (lv' := [(5, .int r38), (4, .int r30), (3, .ref (a 5)), (0, .ref (a 0)), (1, .int p1), (2, .int p2)]) hx hb d_Nm_wheel_41 hl (by decide) rfl (fun ls hl => ?_)
      refine lv_iload hx hb d_Nm_wheel_43 (lv_at hl 0 rfl) ?_
      refine lv_iload hx hb d_Nm_wheel_45 (lv_at hl 1 rfl) ?_
      refine lv_aload_n hx hb d_Nm_wheel_47 rfl (lv_at hl 2 rfl) ?_
      obtain ⟨r48, hl48, hlit⟩ := bindS hlit
      refine fCallI (fRunV (As := []) (rest := [.int r30, .int r38]) (q0 := 5) (ci := 2) hx hb hml hown hts hK hN hP (cx_Moment_welcomeDishes l E a ha (a 6) (a 10) h_22 _ (r0 := r48) hl48) q620 q621 q622 q56 q623 hd_x_Moment_welcomeDishes rfl rfl ⟨Nat.le_of_ble_eq_true rfl, Nat.le_of_ble_eq_true rfl⟩ xe_5 rfl rfl rfl hl.1 rfl (Nat.le_of_ble_eq_true rfl) d_Nm_wheel_48 ⟨Nat.zero_le _, Nat.zero_le _⟩) hS (xA_up hS.1) (fun _ H locs hu48 hP hS _ _ => ?_)
      have hP : va_P E.1 xcl (xV E a (a 6) (a 10) (a 6) h_22) H := hP
      refine lv_isub hx hb d_Nm_wheel_51 ?_
      refine lv_iload_n hx hb d_Nm_wheel_52 rfl (lv_at hl 4 rfl) ?_
      obtain ⟨r53, hl53, hlit⟩ := bindS hlit
      refine fCallI (fRunS (As := [.int (r30 - r48), .int p1]) (rest := [.int r38]) hx hb hml hown hts hK hN hP (cx_Nm_power l E a ha (a 6) (a 10) (a 6) h_22 _ (r30 - r48) p1 (r0 := r53) hl53) q617 q618 q49 q619 hd_x_Nm_power rfl rfl ⟨Nat.le_of_ble_eq_true rfl, Nat.le_of_ble_eq_true rfl⟩ rfl hl.1 rfl (Nat.le_of_ble_eq_true rfl) d_Nm_wheel_53 ⟨Nat.zero_le _, Nat.zero_le _⟩) hS (xA_up hS.1) (fun _ H locs hu53 hP hS _ _ => ?_)
      have hP : va_P E.1 xcl (xV E a (a 6) (a 10) (a 6) h_22) H := hP
      refine lv_isub hx hb d_Nm_wheel_56 ?_
      obtain ⟨y57, ey57, hlit⟩ := bindS hlit
      refine topn ey57 ?_
      refine lv_istore (lv' := [(6, .int y57), (5, .int r38), (4, .int r30), (3, .ref (a 5)), (0, .ref (a 0)), (1, .int p1), (2, .int p2)]) hx hb d_Nm_wheel_57 hl (by decide) rfl (fun ls hl => ?_)
      refine lv_iconst (v := (1 : Int32)) hx hb d_Nm_wheel_59 (by decide) ?_
      refine lv_iload hx hb d_Nm_wheel_60 (lv_at hl 0 rfl) ?_
      refine lv_iload hx hb d_Nm_wheel_62 (lv_at hl 1 rfl) ?_
      obtain ⟨r64, hl64, hlit⟩ := bindS hlit
      refine fCallI (fRunS (As := [.int y57, .int r38]) (rest := [.int (1 : Int32)]) hx hb hml hown hts hK hN hP (cx_Nm_commonDivisor l E a ha (a 6) (a 10) (a 6) h_22 _ y57 r38 (r0 := r64) hl64) q624 q625 q49 q626 hd_x_Nm_commonDivisor rfl rfl ⟨Nat.le_of_ble_eq_true rfl, Nat.le_of_ble_eq_true rfl⟩ rfl hl.1 rfl (Nat.le_of_ble_eq_true rfl) d_Nm_wheel_64 ⟨Nat.zero_le _, Nat.zero_le _⟩) hS (xA_up hS.1) (fun _ H locs hu64 hP hS _ _ => ?_)
      have hP : va_P E.1 xcl (xV E a (a 6) (a 10) (a 6) h_22) H := hP
      refine va_mmax hx hb (hml.trans hl.1.symm) hown (hts _ q627) (hts _ q561) (hts _ q62) (hts _ q562) (by decide) (Nat.le_of_ble_eq_true rfl) (Nat.zero_le _) (Nat.zero_le _) d_Nm_wheel_67 ?_
      obtain ⟨y70, ey70, hlit⟩ := bindS hlit
      refine topn ey70 ?_
      refine lv_istore (lv' := [(7, .int y70), (6, .int y57), (5, .int r38), (4, .int r30), (3, .ref (a 5)), (0, .ref (a 0)), (1, .int p1), (2, .int p2)]) hx hb d_Nm_wheel_70 hl (by decide) rfl (fun ls hl => ?_)
      refine lv_iload_n hx hb d_Nm_wheel_72 rfl (lv_at hl 7 rfl) ?_
      refine lv_if_ne (tgt := 81) hx hb d_Nm_wheel_73 (by decide) (fun c73 => ?_) (fun c73 => ?_)
      · have hlit := brN _ hlit c73
        refine lv_iload hx hb d_Nm_wheel_81 (lv_at hl 2 rfl) ?_
        refine lv_iload hx hb d_Nm_wheel_83 (lv_at hl 0 rfl) ?_
        obtain ⟨g85, hlit⟩ := gdP _ hlit
        refine lv_idiv hx hb d_Nm_wheel_85 g85 ?_
        cases hlit
        exact ret (a 6) _ _ _ _ trivial hP hS rfl d_Nm_wheel_86
      · have hlit := brP _ hlit c73
        refine lv_iload hx hb d_Nm_wheel_76 (lv_at hl 1 rfl) ?_
        refine lv_goto (tgt := 83) hx hb d_Nm_wheel_78 (by decide) ?_
        refine lv_iload hx hb d_Nm_wheel_83 (lv_at hl 0 rfl) ?_
        obtain ⟨g85, hlit⟩ := gdP _ hlit
        refine lv_idiv hx hb d_Nm_wheel_85 g85 ?_
        cases hlit
        exact ret (a 6) _ _ _ _ trivial hP hS rfl d_Nm_wheel_86
    · have hlit := brN _ hlit c16
      refine lv_iconst (v := (-1 : Int32)) hx hb d_Nm_wheel_19 (by decide) ?_
      cases hlit
      exact ret mm _ _ _ _ trivial hP hS rfl d_Nm_wheel_20

abbrev rm_x_Nm_drawOf : Room := { frames := 0, cells := 0, slots := 0, locals := 0 }
theorem hd_x_Nm_drawOf : y_Nm_drawOf.cls ≠ "java/lang/invoke/MethodHandle" ∧ y_Nm_drawOf.cls ≠ "java/lang/invoke/VarHandle" ∧ (parseMethodDescriptor y_Nm_drawOf.desc).map (fun d => d.parameters.length) = some 2 := by decide +kernel
set_option maxHeartbeats 4000000 in
set_option maxRecDepth 100000 in
theorem cx_Nm_drawOf (l : Launch) (E : xE) (a : Nat → Nat) (ha : xInj a 38) (u v : Nat) (mm : Nat) (h : Hp) (sz : Nat) (p0 : Int32) (p1 : Int32) {r0 : Int32} (hlit : x_Nm_drawOf p0 p1 h = some r0) : Met l y_Nm_drawOf (Cond.code y_Nm_drawOf b_Nm_drawOf 4 (some .int) :: TB) rm_x_Nm_drawOf (fPc [.int p0, .int p1] E.1 (xtys E) sz (xV E a u v mm h)) (fQi (fun _ : Nat => True) r0 E.1 (fun (_ : Nat) => xV E a u v mm h) (xA a 38 sz)) 0 0 (xA a 38 sz) := by
  refine fl_startI (by decide) (Nat.le_of_ble_eq_true rfl) ?_
  intro p e s m args below meth c Q hx hb hml hown hts hsz hP hK hN ret ls hl
  subst hsz
  have hA : ∀ k, k < 38 → (xA a 38 s.heap.size) (a k) := xA_in
  have hS : va_S (xA a 38 s.heap.size) s.heap s.heap [] := va_S.rf
  have hl : lv_has ls 4 [(0, .int p0), (1, .int p1)] := hl
  refine lv_ldc2 (v := (7919 : Int64)) hx hb hown (hts _ q636) d_Nm_drawOf_0 ?_
  refine lv_iload_n hx hb d_Nm_drawOf_3 rfl (lv_at hl 0 rfl) ?_
  refine lv_i2l (v := p0.toInt64) hx hb d_Nm_drawOf_4 rfl ?_
  refine lv_lmul hx hb d_Nm_drawOf_5 ?_
  refine lv_ldc2 (v := (6151 : Int64)) hx hb hown (hts _ q637) d_Nm_drawOf_6 ?_
  refine lv_iload_n hx hb d_Nm_drawOf_9 rfl (lv_at hl 1 rfl) ?_
  refine lv_i2l (v := p1.toInt64) hx hb d_Nm_drawOf_10 rfl ?_
  refine lv_lmul hx hb d_Nm_drawOf_11 ?_
  refine lv_ladd hx hb d_Nm_drawOf_12 ?_
  refine lv_lconst (v := (1 : Int64)) hx hb d_Nm_drawOf_13 (by decide) ?_
  refine lv_ladd hx hb d_Nm_drawOf_14 ?_
  obtain ⟨y15, ey15, hlit⟩ := bindS hlit
  refine topnL ey15 ?_
  refine lv_lstore_n (lv' := [(2, .long y15), (0, .int p0), (1, .int p1)]) hx hb d_Nm_drawOf_15 rfl hl (by decide) rfl (fun ls hl => ?_)
  refine lv_lload_n hx hb d_Nm_drawOf_16 rfl (lv_at hl 0 rfl) ?_
  refine lv_lload_n hx hb d_Nm_drawOf_17 rfl (lv_at hl 0 rfl) ?_
  refine lv_lmul hx hb d_Nm_drawOf_18 ?_
  refine lv_ldc2 (v := (65521 : Int64)) hx hb hown (hts _ q638) d_Nm_drawOf_19 ?_
  refine lv_lrem hx hb d_Nm_drawOf_22 (by decide) ?_
  refine lv_ldc2 (v := (2 : Int64)) hx hb hown (hts _ q639) d_Nm_drawOf_23 ?_
  refine lv_ldiv hx hb d_Nm_drawOf_26 (by decide) ?_
  refine lv_l2i (v := (((y15 * y15) - (y15 * y15) / (65521 : Int64) * (65521 : Int64)) / (2 : Int64)).toInt32) hx hb d_Nm_drawOf_27 rfl ?_
  cases hlit
  exact ret 0 _ _ _ _ trivial hP hS rfl d_Nm_drawOf_28

abbrev rm_x_Nm_pretend : Room := { frames := 4, cells := 0, slots := 0, locals := 90 }
theorem hd_x_Nm_pretend : y_Nm_pretend.cls ≠ "java/lang/invoke/MethodHandle" ∧ y_Nm_pretend.cls ≠ "java/lang/invoke/VarHandle" ∧ (parseMethodDescriptor y_Nm_pretend.desc).map (fun d => d.parameters.length) = some 1 := by decide +kernel
set_option maxHeartbeats 4000000 in
set_option maxRecDepth 100000 in
theorem cx_Nm_pretend (l : Launch) (E : xE) (a : Nat → Nat) (ha : xInj a 38) (mm : Nat) (h : Hp) (sz : Nat) (p1 : Int32) {h9 : Hp} (hlit : x_Nm_pretend p1 h = some h9) : Met l y_Nm_pretend (Cond.code y_Nm_pretend b_Nm_pretend 5 none :: TB) rm_x_Nm_pretend (fPc [.ref (a 0), .int p1] E.1 (xtys E) sz (xV E a (a 6) (a 10) mm h)) (fQv (fun _ : Nat => True) E.1 (fun (z : Nat) => xV E a (a 6) (a 10) z h9) (xA a 38 sz)) 0 0 (xA a 38 sz) := by
  refine fl_startV (by decide) (Nat.le_of_ble_eq_true rfl) ?_
  intro p e s m args below meth c Q hx hb hml hown hts hsz hP hK hN ret ls hl
  subst hsz
  have hA : ∀ k, k < 38 → (xA a 38 s.heap.size) (a k) := xA_in
  have hS : va_S (xA a 38 s.heap.size) s.heap s.heap [] := va_S.rf
  have hl : lv_has ls 5 [(0, .ref (a 0)), (1, .int p1)] := hl
  have b33 : ∀ (h : Hp) (mm : Nat) (H : Heap) (locs : List Loc) (ls : Array Slot), x_Nm_pretend_b33 p1 h = some h9 → va_P E.1 xcl (xV E a (a 6) (a 10) mm h) H → va_S (xA a 38 s.heap.size) s.heap H locs → lv_has ls 5 [(0, .ref (a 0)), (1, .int p1)] → W p l e rm_x_Nm_pretend s m args below meth c H locs 0 0 Q (F0 m 33 ls []) := by
    intro h mm H locs ls hlit hP hS hl
    refine lv_aload_n hx hb d_Nm_pretend_33 rfl (lv_at hl 0 rfl) ?_
    refine xg_Nm_7 hx hb hts hown hK hP q294 d_Nm_pretend_34 ?_
    refine xg_Menu_1 hx hb hts hown hK hP rfl q152 d_Nm_pretend_37 ?_
    refine lv_iconst (v := (1 : Int32)) hx hb d_Nm_pretend_40 (by decide) ?_
    refine lv_icmp_ge (tgt := 45) hx hb d_Nm_pretend_41 (by decide) (fun c41 => ?_) (fun c41 => ?_)
    · have hlit := brP _ hlit c41
      refine lv_iload_n hx hb d_Nm_pretend_45 rfl (lv_at hl 1 rfl) ?_
      refine lv_bipush (v := (8 : Int32)) hx hb d_Nm_pretend_46 (by decide) ?_
      refine lv_idiv hx hb d_Nm_pretend_48 (by decide) ?_
      refine lv_aload_n hx hb d_Nm_pretend_49 rfl (lv_at hl 0 rfl) ?_
      refine xg_Nm_7 hx hb hts hown hK hP q294 d_Nm_pretend_50 ?_
      refine xg_Menu_1 hx hb hts hown hK hP rfl q152 d_Nm_pretend_53 ?_
      obtain ⟨g56, hlit⟩ := gdP _ hlit
      refine lv_irem hx hb d_Nm_pretend_56 g56 ?_
      obtain ⟨y57, ey57, hlit⟩ := bindS hlit
      refine topn ey57 ?_
      refine lv_istore_n (lv' := [(3, .int y57), (0, .ref (a 0)), (1, .int p1)]) hx hb d_Nm_pretend_57 rfl hl (by decide) rfl (fun ls hl => ?_)
      refine lv_aload_n hx hb d_Nm_pretend_58 rfl (lv_at hl 1 rfl) ?_
      refine lv_aload_n hx hb d_Nm_pretend_59 rfl (lv_at hl 1 rfl) ?_
      refine xg_Nm_2 hx hb hts hown hK hP q289 d_Nm_pretend_60 ?_
      refine lv_iload_n hx hb d_Nm_pretend_63 rfl (lv_at hl 0 rfl) ?_
      obtain ⟨r64, hl64, hlit⟩ := bindS hlit
      refine fCallI (fRunV (As := [.ref (a 4), .int y57]) (rest := []) (q0 := 0) (ci := 0) hx hb hml hown hts hK hN hP (cx_Nm_vetoesLeft l E a ha mm h _ 4 rfl y57 (r0 := r64) hl64) q341 q342 q11 q49 q343 hd_x_Nm_vetoesLeft rfl rfl ⟨Nat.le_of_ble_eq_true rfl, Nat.le_of_ble_eq_true rfl⟩ xe_0 rfl rfl rfl hl.1 rfl (Nat.le_of_ble_eq_true rfl) d_Nm_pretend_64 ⟨Nat.zero_le _, Nat.zero_le _⟩) hS (xA_up hS.1) (fun _ H locs hu64 hP hS _ _ => ?_)
      have hP : va_P E.1 xcl (xV E a (a 6) (a 10) mm h) H := hP
      refine lv_iconst (v := (1 : Int32)) hx hb d_Nm_pretend_67 (by decide) ?_
      refine lv_icmp_lt (tgt := 93) hx hb d_Nm_pretend_68 (by decide) (fun c68 => ?_) (fun c68 => ?_)
      · have hlit := brP _ hlit c68
        cases hlit
        exact ret mm _ _ _ _ trivial hP hS d_Nm_pretend_93
      · have hlit := brN _ hlit c68
        refine lv_aload_n hx hb d_Nm_pretend_71 rfl (lv_at hl 1 rfl) ?_
        refine lv_aload_n hx hb d_Nm_pretend_72 rfl (lv_at hl 1 rfl) ?_
        refine xg_Nm_2 hx hb hts hown hK hP q289 d_Nm_pretend_73 ?_
        obtain ⟨r76, hl76, hlit⟩ := bindS hlit
        refine fCallI (fRunV (As := [.ref (a 4)]) (rest := []) (q0 := 0) (ci := 0) hx hb hml hown hts hK hN hP (cx_Nm_dishesLeft l E a ha mm h _ 4 rfl (r0 := r76) hl76) q443 q444 q16 q49 q445 hd_x_Nm_dishesLeft rfl rfl ⟨Nat.le_of_ble_eq_true rfl, Nat.le_of_ble_eq_true rfl⟩ xe_0 rfl rfl rfl hl.1 rfl (Nat.le_of_ble_eq_true rfl) d_Nm_pretend_76 ⟨Nat.zero_le _, Nat.zero_le _⟩) hS (xA_up hS.1) (fun _ H locs hu76 hP hS _ _ => ?_)
        have hP : va_P E.1 xcl (xV E a (a 6) (a 10) mm h) H := hP
        refine lv_iconst (v := (2 : Int32)) hx hb d_Nm_pretend_79 (by decide) ?_
        refine lv_icmp_lt (tgt := 93) hx hb d_Nm_pretend_80 (by decide) (fun c80 => ?_) (fun c80 => ?_)
        · have hlit := brP _ hlit c80
          cases hlit
          exact ret mm _ _ _ _ trivial hP hS d_Nm_pretend_93
        · have hlit := brN _ hlit c80
          refine lv_iload_n hx hb d_Nm_pretend_83 rfl (lv_at hl 2 rfl) ?_
          refine lv_sipush (v := (128 : Int32)) hx hb d_Nm_pretend_84 (by decide) ?_
          refine lv_idiv hx hb d_Nm_pretend_87 (by decide) ?_
          refine lv_iconst (v := (3 : Int32)) hx hb d_Nm_pretend_88 (by decide) ?_
          refine lv_irem hx hb d_Nm_pretend_89 (by decide) ?_
          refine lv_if_eq (tgt := 94) hx hb d_Nm_pretend_90 (by decide) (fun c90 => ?_) (fun c90 => ?_)
          · have hlit := brP _ hlit c90
            refine lv_aload_n hx hb d_Nm_pretend_94 rfl (lv_at hl 1 rfl) ?_
            refine lv_aload_n hx hb d_Nm_pretend_95 rfl (lv_at hl 1 rfl) ?_
            refine xg_Nm_2 hx hb hts hown hK hP q289 d_Nm_pretend_96 ?_
            refine xg_Table_0 hx hb hts hown hK hP rfl q93 d_Nm_pretend_99 ?_
            refine lv_aload_n hx hb d_Nm_pretend_102 rfl (lv_at hl 1 rfl) ?_
            refine xg_Nm_2 hx hb hts hown hK hP q289 d_Nm_pretend_103 ?_
            refine xg_Table_1 hx hb hts hown hK hP rfl q95 d_Nm_pretend_106 ?_
            obtain ⟨h_109, hl109, hlit⟩ := bindS hlit
            refine fCallQ (fRunV (As := [.int (h 4 0), .int (h 4 1)]) (rest := []) (q0 := 0) (ci := 0) hx hb hml hown hts hK hN hP (cx_Nm_at l E a ha mm h _ (h 4 0) (h 4 1) (h9 := h_109) hl109) q351 q352 q13 q49 q353 hd_x_Nm_at rfl rfl ⟨Nat.le_of_ble_eq_true rfl, Nat.le_of_ble_eq_true rfl⟩ xe_0 rfl rfl rfl hl.1 rfl (Nat.le_of_ble_eq_true rfl) d_Nm_pretend_109 ⟨Nat.zero_le _, Nat.zero_le _⟩) hS (xA_up hS.1) (fun z109_ H locs hu109 hP hS _ _ => ?_)
            have hP : va_P E.1 xcl (xV E a (a 6) (a 10) (a 6) h_109) H := hP
            refine W.eq (g2 := F0 m 112 ls [.ref (a 5)]) rfl ?_
            refine lv_astore (lv' := [(4, .ref (a 5)), (3, .int y57), (0, .ref (a 0)), (1, .int p1)]) hx hb d_Nm_pretend_112 hl (by decide) rfl (fun ls hl => ?_)
            refine lv_aload_n hx hb d_Nm_pretend_114 rfl (lv_at hl 2 rfl) ?_
            refine xg_Nm_2 hx hb hts hown hK hP q289 d_Nm_pretend_115 ?_
            refine lv_iload_n hx hb d_Nm_pretend_118 rfl (lv_at hl 1 rfl) ?_
            refine lv_aload hx hb d_Nm_pretend_119 (lv_at hl 0 rfl) ?_
            refine lv_iload_n hx hb d_Nm_pretend_121 rfl (lv_at hl 1 rfl) ?_
            refine lv_aload hx hb d_Nm_pretend_122 (lv_at hl 0 rfl) ?_
            refine xg_Moment_2 hx hb hts hown hK hP q187 d_Nm_pretend_124 ?_
            obtain ⟨r127, hl127, hlit⟩ := bindS hlit
            refine fCallI (fRunV (As := [.int y57, .int (h_109 5 2)]) (rest := [.int y57, .ref (a 4)]) (q0 := 5) (ci := 2) hx hb hml hown hts hK hN hP (cx_Moment_leastLiked l E a ha (a 6) (a 10) h_109 _ y57 (h_109 5 2) (r0 := r127) hl127) q643 q537 q538 q56 q539 hd_x_Moment_leastLiked rfl rfl ⟨Nat.le_of_ble_eq_true rfl, Nat.le_of_ble_eq_true rfl⟩ xe_5 rfl rfl rfl hl.1 rfl (Nat.le_of_ble_eq_true rfl) d_Nm_pretend_127 ⟨Nat.zero_le _, Nat.zero_le _⟩) hS (xA_up hS.1) (fun _ H locs hu127 hP hS _ _ => ?_)
            have hP : va_P E.1 xcl (xV E a (a 6) (a 10) (a 6) h_109) H := hP
            obtain ⟨h_130, hl130, hlit⟩ := bindS hlit
            refine fCallV (fRunV (As := [.int y57, .int r127]) (rest := []) (q0 := 4) (ci := 7) hx hb hml hown hts hK hN hP (cx_Table_strike l E a ha (a 6) (a 10) (a 6) h_109 _ 4 rfl y57 r127 (h9 := h_130) hl130) q452 q453 q454 q51 q455 hd_x_Table_strike rfl rfl ⟨Nat.le_of_ble_eq_true rfl, Nat.le_of_ble_eq_true rfl⟩ (xeT rfl) rfl rfl rfl hl.1 rfl (Nat.le_of_ble_eq_true rfl) d_Nm_pretend_130 ⟨Nat.zero_le _, Nat.zero_le _⟩) hS (xA_up hS.1) (fun _ H locs hu130 hP hS _ _ => ?_)
            have hP : va_P E.1 xcl (xV E a (a 6) (a 10) (a 6) h_130) H := hP
            cases hlit
            exact ret (a 6) _ _ _ _ trivial hP hS d_Nm_pretend_133
          · have hlit := brN _ hlit c90
            cases hlit
            exact ret mm _ _ _ _ trivial hP hS d_Nm_pretend_93
    · have hlit := brN _ hlit c41
      cases hlit
      exact ret mm _ _ _ _ trivial hP hS d_Nm_pretend_44
  refine lv_iconst (v := (1 : Int32)) hx hb d_Nm_pretend_0 (by decide) ?_
  refine lv_iload_n hx hb d_Nm_pretend_1 rfl (lv_at hl 1 rfl) ?_
  refine lv_iconst (v := (5 : Int32)) hx hb d_Nm_pretend_2 (by decide) ?_
  refine lv_irem hx hb d_Nm_pretend_3 (by decide) ?_
  refine lv_iadd hx hb d_Nm_pretend_4 ?_
  obtain ⟨y5, ey5, hlit⟩ := bindS hlit
  refine topn ey5 ?_
  refine lv_istore_n (lv' := [(2, .int y5), (0, .ref (a 0)), (1, .int p1)]) hx hb d_Nm_pretend_5 rfl hl (by decide) rfl (fun ls hl => ?_)
  refine lv_aload_n hx hb d_Nm_pretend_6 rfl (lv_at hl 1 rfl) ?_
  refine xg_Nm_2 hx hb hts hown hK hP q289 d_Nm_pretend_7 ?_
  refine xg_Table_0 hx hb hts hown hK hP rfl q93 d_Nm_pretend_10 ?_
  refine lv_iload_n hx hb d_Nm_pretend_13 rfl (lv_at hl 0 rfl) ?_
  refine lv_iadd hx hb d_Nm_pretend_14 ?_
  refine lv_bipush (v := (99 : Int32)) hx hb d_Nm_pretend_15 (by decide) ?_
  refine lv_icmp_gt (tgt := 33) hx hb d_Nm_pretend_17 (by decide) (fun c17 => ?_) (fun c17 => ?_)
  · have hlit := brP _ hlit c17
    exact b33 h mm _ _ _ hlit hP hS (lv_sub hl [1, 2] rfl)
  · have hlit := brN _ hlit c17
    refine lv_aload_n hx hb d_Nm_pretend_20 rfl (lv_at hl 1 rfl) ?_
    refine xg_Nm_2 hx hb hts hown hK hP q289 d_Nm_pretend_21 ?_
    refine lv_dup hx hb d_Nm_pretend_24 rfl ?_
    refine xg_Table_0 hx hb hts hown hK hP rfl q93 d_Nm_pretend_25 ?_
    refine lv_iload_n hx hb d_Nm_pretend_28 rfl (lv_at hl 0 rfl) ?_
    refine lv_iadd hx hb d_Nm_pretend_29 ?_
    refine xp_Table_0 hx hb hts hown hK hP ha hA hS rfl q93 d_Nm_pretend_30 (fun H locs hP hS => ?_)
    obtain ⟨h_30, eh_30, hlit⟩ := bindS hlit
    rw [Option.some.inj eh_30] at hP
    exact b33 h_30 mm _ _ _ hlit hP hS (lv_sub hl [1, 2] rfl)

abbrev rm_x_Nm_evening : Room := { frames := 5, cells := 0, slots := 0, locals := 114 }
theorem hd_x_Nm_evening : y_Nm_evening.cls ≠ "java/lang/invoke/MethodHandle" ∧ y_Nm_evening.cls ≠ "java/lang/invoke/VarHandle" ∧ (parseMethodDescriptor y_Nm_evening.desc).map (fun d => d.parameters.length) = some 3 := by decide +kernel
set_option maxHeartbeats 4000000 in
set_option maxRecDepth 100000 in
theorem cx_Nm_evening (l : Launch) (E : xE) (a : Nat → Nat) (ha : xInj a 38) (mm : Nat) (h : Hp) (sz : Nat) (p1 : Int32) (p2 : Int32) (p3 : Int32) {r0 : Int32} {h9 : Hp} (hlit : x_Nm_evening p1 p2 p3 h = some (r0, h9)) : Met l y_Nm_evening (Cond.code y_Nm_evening b_Nm_evening 5 (some .int) :: TB) rm_x_Nm_evening (fPc [.ref (a 0), .int p1, .int p2, .int p3] E.1 (xtys E) sz (xV E a (a 6) (a 10) mm h)) (fQi (fun _ : Nat => True) r0 E.1 (fun (z : Nat) => xV E a (a 6) (a 10) z h9) (xA a 38 sz)) 0 0 (xA a 38 sz) := by
  refine fl_startI (by decide) (Nat.le_of_ble_eq_true rfl) ?_
  intro p e s m args below meth c Q hx hb hml hown hts hsz hP hK hN ret ls hl
  subst hsz
  have hA : ∀ k, k < 38 → (xA a 38 s.heap.size) (a k) := xA_in
  have hS : va_S (xA a 38 s.heap.size) s.heap s.heap [] := va_S.rf
  have hl : lv_has ls 5 [(0, .ref (a 0)), (1, .int p1), (2, .int p2), (3, .int p3)] := hl
  have b59 : ∀ (n : Nat), ∀ (x4 : Int32) (h : Hp) (mm : Nat) (H : Heap) (locs : List Loc) (ls : Array Slot), x_Nm_evening_b59 p1 p2 p3 n x4 h = some (r0, h9) → va_P E.1 xcl (xV E a (a 6) (a 10) mm h) H → va_S (xA a 38 s.heap.size) s.heap H locs → lv_has ls 5 [(0, .ref (a 0)), (1, .int p1), (2, .int p2), (3, .int p3), (4, .int x4)] → W p l e rm_x_Nm_evening s m args below meth c H locs 0 0 Q (F0 m 59 ls []) := by
    intro n
    induction n with
    | zero => intro x4 h mm H locs ls hlit hP hS hl; exact nnF hlit
    | succ n ih =>
      intro x4 h mm H locs ls hlit hP hS hl
      refine lv_iload hx hb d_Nm_evening_59 (lv_at hl 4 rfl) ?_
      refine lv_iload_n hx hb d_Nm_evening_61 rfl (lv_at hl 2 rfl) ?_
      refine lv_icmp_ge (tgt := 81) hx hb d_Nm_evening_62 (by decide) (fun c62 => ?_) (fun c62 => ?_)
      · have hlit := brP _ hlit c62
        refine lv_aload_n hx hb d_Nm_evening_81 rfl (lv_at hl 0 rfl) ?_
        refine lv_aload_n hx hb d_Nm_evening_82 rfl (lv_at hl 0 rfl) ?_
        refine xg_Nm_2 hx hb hts hown hK hP q289 d_Nm_evening_83 ?_
        refine xg_Table_0 hx hb hts hown hK hP rfl q93 d_Nm_evening_86 ?_
        refine lv_aload_n hx hb d_Nm_evening_89 rfl (lv_at hl 0 rfl) ?_
        refine xg_Nm_2 hx hb hts hown hK hP q289 d_Nm_evening_90 ?_
        refine xg_Table_1 hx hb hts hown hK hP rfl q95 d_Nm_evening_93 ?_
        obtain ⟨h_96, hl96, hlit⟩ := bindS hlit
        refine fCallQ (fRunV (As := [.int (h 4 0), .int (h 4 1)]) (rest := []) (q0 := 0) (ci := 0) hx hb hml hown hts hK hN hP (cx_Nm_at l E a ha mm h _ (h 4 0) (h 4 1) (h9 := h_96) hl96) q351 q352 q13 q49 q353 hd_x_Nm_at rfl rfl ⟨Nat.le_of_ble_eq_true rfl, Nat.le_of_ble_eq_true rfl⟩ xe_0 rfl rfl rfl hl.1 rfl (Nat.le_of_ble_eq_true rfl) d_Nm_evening_96 ⟨Nat.zero_le _, Nat.zero_le _⟩) hS (xA_up hS.1) (fun z96_ H locs hu96 hP hS _ _ => ?_)
        have hP : va_P E.1 xcl (xV E a (a 6) (a 10) (a 6) h_96) H := hP
        refine W.eq (g2 := F0 m 99 ls [.ref (a 5)]) rfl ?_
        refine lv_astore (lv' := [(4, .ref (a 5)), (0, .ref (a 0)), (1, .int p1), (2, .int p2), (3, .int p3)]) hx hb d_Nm_evening_99 hl (by decide) rfl (fun ls hl => ?_)
        refine lv_iload_n hx hb d_Nm_evening_101 rfl (lv_at hl 4 rfl) ?_
        refine lv_if_ne (tgt := 113) hx hb d_Nm_evening_102 (by decide) (fun c102 => ?_) (fun c102 => ?_)
        · have hlit := brN _ hlit c102
          refine lv_aload hx hb d_Nm_evening_113 (lv_at hl 0 rfl) ?_
          refine lv_iconst (v := (-1 : Int32)) hx hb d_Nm_evening_115 (by decide) ?_
          obtain ⟨r116, hl116, hlit⟩ := bindS hlit
          refine fCallI (fRunV (As := [.int (-1 : Int32)]) (rest := []) (q0 := 5) (ci := 2) hx hb hml hown hts hK hN hP (cx_Moment_mostDish l E a ha (a 6) (a 10) h_96 _ (-1 : Int32) (r0 := r116) hl116) q477 q478 q479 q56 q480 hd_x_Moment_mostDish rfl rfl ⟨Nat.le_of_ble_eq_true rfl, Nat.le_of_ble_eq_true rfl⟩ xe_5 rfl rfl rfl hl.1 rfl (Nat.le_of_ble_eq_true rfl) d_Nm_evening_116 ⟨Nat.zero_le _, Nat.zero_le _⟩) hS (xA_up hS.1) (fun _ H locs hu116 hP hS _ _ => ?_)
          have hP : va_P E.1 xcl (xV E a (a 6) (a 10) (a 6) h_96) H := hP
          cases hlit
          exact ret (a 6) _ _ _ _ trivial hP hS rfl d_Nm_evening_119
        · have hlit := brP _ hlit c102
          refine lv_aload hx hb d_Nm_evening_105 (lv_at hl 0 rfl) ?_
          refine xg_Moment_2 hx hb hts hown hK hP q187 d_Nm_evening_107 ?_
          refine lv_goto (tgt := 119) hx hb d_Nm_evening_110 (by decide) ?_
          cases hlit
          exact ret (a 6) _ _ _ _ trivial hP hS rfl d_Nm_evening_119
      · have hlit := brN _ hlit c62
        refine lv_aload_n hx hb d_Nm_evening_65 rfl (lv_at hl 0 rfl) ?_
        refine lv_iload_n hx hb d_Nm_evening_66 rfl (lv_at hl 1 rfl) ?_
        refine lv_iload hx hb d_Nm_evening_67 (lv_at hl 4 rfl) ?_
        obtain ⟨r69, hl69, hlit⟩ := bindS hlit
        refine fCallI (fRunS (As := [.int p1, .int x4]) (rest := [.ref (a 0)]) hx hb hml hown hts hK hN hP (cx_Nm_drawOf l E a ha (a 6) (a 10) mm h _ p1 x4 (r0 := r69) hl69) q633 q634 q49 q635 hd_x_Nm_drawOf rfl rfl ⟨Nat.le_of_ble_eq_true rfl, Nat.le_of_ble_eq_true rfl⟩ rfl hl.1 rfl (Nat.le_of_ble_eq_true rfl) d_Nm_evening_69 ⟨Nat.zero_le _, Nat.zero_le _⟩) hS (xA_up hS.1) (fun _ H locs hu69 hP hS _ _ => ?_)
        have hP : va_P E.1 xcl (xV E a (a 6) (a 10) mm h) H := hP
        obtain ⟨h_72, hl72, hlit⟩ := bindS hlit
        refine fCallV (fRunV (As := [.int r69]) (rest := []) (q0 := 0) (ci := 0) hx hb hml hown hts hK hN hP (cx_Nm_pretend l E a ha mm h _ r69 (h9 := h_72) hl72) q640 q641 q22 q49 q642 hd_x_Nm_pretend rfl rfl ⟨Nat.le_of_ble_eq_true rfl, Nat.le_of_ble_eq_true rfl⟩ xe_0 rfl rfl rfl hl.1 rfl (Nat.le_of_ble_eq_true rfl) d_Nm_evening_72 ⟨Nat.zero_le _, Nat.zero_le _⟩) hS (xA_up hS.1) (fun z72_ H locs hu72 hP hS _ _ => ?_)
        have hP : va_P E.1 xcl (xV E a (a 6) (a 10) z72_ h_72) H := hP
        refine lv_iinc (v := (x4 + (1 : Int32))) (lv' := [(4, .int (x4 + (1 : Int32))), (0, .ref (a 0)), (1, .int p1), (2, .int p2), (3, .int p3)]) hx hb d_Nm_evening_75 hl (k := 4) rfl rfl (by decide) rfl (fun ls hl => ?_)
        refine lv_goto (tgt := 59) hx hb d_Nm_evening_78 (by decide) ?_
        exact ih (x4 + (1 : Int32)) h_72 z72_ _ _ _ hlit hP hS (lv_sub hl [1, 2, 3, 4, 0] rfl)
  refine lv_iload_n hx hb d_Nm_evening_0 rfl (lv_at hl 1 rfl) ?_
  refine lv_iconst (v := (0 : Int32)) hx hb d_Nm_evening_1 (by decide) ?_
  refine lv_sipush (v := (9999 : Int32)) hx hb d_Nm_evening_2 (by decide) ?_
  obtain ⟨r5, hl5, hlit⟩ := bindS hlit
  refine fCallI (fRunS (As := [.int p1, .int (0 : Int32), .int (9999 : Int32)]) (rest := []) hx hb hml hown hts hK hN hP (cx_Nm_isOutside l E a ha (a 6) (a 10) mm h _ p1 (0 : Int32) (9999 : Int32) (r0 := r5) hl5) q310 q263 q49 q264 hd_x_Nm_isOutside rfl rfl ⟨Nat.le_of_ble_eq_true rfl, Nat.le_of_ble_eq_true rfl⟩ rfl hl.1 rfl (Nat.le_of_ble_eq_true rfl) d_Nm_evening_5 ⟨Nat.zero_le _, Nat.zero_le _⟩) hS (xA_up hS.1) (fun _ H locs hu5 hP hS _ _ => ?_)
  have hP : va_P E.1 xcl (xV E a (a 6) (a 10) mm h) H := hP
  refine lv_if_ne (tgt := 30) hx hb d_Nm_evening_8 (by decide) (fun c8 => ?_) (fun c8 => ?_)
  · have hlit := brN _ hlit c8
    refine lv_iconst (v := (-1 : Int32)) hx hb d_Nm_evening_30 (by decide) ?_
    cases hlit
    exact ret mm _ _ _ _ trivial hP hS rfl d_Nm_evening_31
  · have hlit := brP _ hlit c8
    refine lv_iload_n hx hb d_Nm_evening_11 rfl (lv_at hl 2 rfl) ?_
    refine lv_iconst (v := (1 : Int32)) hx hb d_Nm_evening_12 (by decide) ?_
    refine lv_bipush (v := (20 : Int32)) hx hb d_Nm_evening_13 (by decide) ?_
    obtain ⟨r15, hl15, hlit⟩ := bindS hlit
    refine fCallI (fRunS (As := [.int p2, .int (1 : Int32), .int (20 : Int32)]) (rest := []) hx hb hml hown hts hK hN hP (cx_Nm_isOutside l E a ha (a 6) (a 10) mm h _ p2 (1 : Int32) (20 : Int32) (r0 := r15) hl15) q310 q263 q49 q264 hd_x_Nm_isOutside rfl rfl ⟨Nat.le_of_ble_eq_true rfl, Nat.le_of_ble_eq_true rfl⟩ rfl hl.1 rfl (Nat.le_of_ble_eq_true rfl) d_Nm_evening_15 ⟨Nat.zero_le _, Nat.zero_le _⟩) hS (xA_up hS.1) (fun _ H locs hu15 hP hS _ _ => ?_)
    have hP : va_P E.1 xcl (xV E a (a 6) (a 10) mm h) H := hP
    refine lv_if_ne (tgt := 30) hx hb d_Nm_evening_18 (by decide) (fun c18 => ?_) (fun c18 => ?_)
    · have hlit := brN _ hlit c18
      refine lv_iconst (v := (-1 : Int32)) hx hb d_Nm_evening_30 (by decide) ?_
      cases hlit
      exact ret mm _ _ _ _ trivial hP hS rfl d_Nm_evening_31
    · have hlit := brP _ hlit c18
      refine lv_iload_n hx hb d_Nm_evening_21 rfl (lv_at hl 3 rfl) ?_
      refine lv_iconst (v := (0 : Int32)) hx hb d_Nm_evening_22 (by decide) ?_
      refine lv_iconst (v := (1 : Int32)) hx hb d_Nm_evening_23 (by decide) ?_
      obtain ⟨r24, hl24, hlit⟩ := bindS hlit
      refine fCallI (fRunS (As := [.int p3, .int (0 : Int32), .int (1 : Int32)]) (rest := []) hx hb hml hown hts hK hN hP (cx_Nm_isOutside l E a ha (a 6) (a 10) mm h _ p3 (0 : Int32) (1 : Int32) (r0 := r24) hl24) q310 q263 q49 q264 hd_x_Nm_isOutside rfl rfl ⟨Nat.le_of_ble_eq_true rfl, Nat.le_of_ble_eq_true rfl⟩ rfl hl.1 rfl (Nat.le_of_ble_eq_true rfl) d_Nm_evening_24 ⟨Nat.zero_le _, Nat.zero_le _⟩) hS (xA_up hS.1) (fun _ H locs hu24 hP hS _ _ => ?_)
      have hP : va_P E.1 xcl (xV E a (a 6) (a 10) mm h) H := hP
      refine lv_if_eq (tgt := 32) hx hb d_Nm_evening_27 (by decide) (fun c27 => ?_) (fun c27 => ?_)
      · have hlit := brP _ hlit c27
        refine lv_aload_n hx hb d_Nm_evening_32 rfl (lv_at hl 0 rfl) ?_
        refine xg_Nm_1 hx hb hts hown hK hP q288 d_Nm_evening_33 ?_
        obtain ⟨r36, hl36, hlit⟩ := bindS hlit
        refine fCallI (fRunV (As := []) (rest := []) (q0 := 3) (ci := 7) hx hb hml hown hts hK hN hP (cx_Table_isOrdered l E a ha (a 6) (a 10) mm h _ 3 rfl (r0 := r36) hl36) q418 q419 q420 q51 q421 hd_x_Table_isOrdered rfl rfl ⟨Nat.le_of_ble_eq_true rfl, Nat.le_of_ble_eq_true rfl⟩ (xeT rfl) rfl rfl rfl hl.1 rfl (Nat.le_of_ble_eq_true rfl) d_Nm_evening_36 ⟨Nat.zero_le _, Nat.zero_le _⟩) hS (xA_up hS.1) (fun _ H locs hu36 hP hS _ _ => ?_)
        have hP : va_P E.1 xcl (xV E a (a 6) (a 10) mm h) H := hP
        refine lv_if_eq (tgt := 45) hx hb d_Nm_evening_39 (by decide) (fun c39 => ?_) (fun c39 => ?_)
        · have hlit := brP _ hlit c39
          refine lv_aload_n hx hb d_Nm_evening_45 rfl (lv_at hl 0 rfl) ?_
          refine xg_Nm_2 hx hb hts hown hK hP q289 d_Nm_evening_46 ?_
          refine lv_aload_n hx hb d_Nm_evening_49 rfl (lv_at hl 0 rfl) ?_
          refine xg_Nm_1 hx hb hts hown hK hP q288 d_Nm_evening_50 ?_
          obtain ⟨h_53, hl53, hlit⟩ := bindS hlit
          refine fCallV (fRunV (As := [.ref (a 3)]) (rest := []) (q0 := 4) (ci := 7) hx hb hml hown hts hK hN hP (cx_Table_copyFrom l E a ha (a 6) (a 10) mm h _ 4 rfl 3 rfl (h9 := h_53) hl53) q632 q436 q437 q51 q438 hd_x_Table_copyFrom rfl rfl ⟨Nat.le_of_ble_eq_true rfl, Nat.le_of_ble_eq_true rfl⟩ (xeT rfl) rfl rfl rfl hl.1 rfl (Nat.le_of_ble_eq_true rfl) d_Nm_evening_53 ⟨Nat.zero_le _, Nat.zero_le _⟩) hS (xA_up hS.1) (fun _ H locs hu53 hP hS _ _ => ?_)
          have hP : va_P E.1 xcl (xV E a (a 6) (a 10) mm h_53) H := hP
          refine lv_iconst (v := (0 : Int32)) hx hb d_Nm_evening_56 (by decide) ?_
          refine lv_istore (lv' := [(4, .int (0 : Int32)), (0, .ref (a 0)), (1, .int p1), (2, .int p2), (3, .int p3)]) hx hb d_Nm_evening_57 hl (by decide) rfl (fun ls hl => ?_)
          exact b59 FU (0 : Int32) h_53 mm _ _ _ hlit hP hS (lv_sub hl [1, 2, 3, 4, 0] rfl)
        · have hlit := brN _ hlit c39
          refine lv_bipush (v := (-2 : Int32)) hx hb d_Nm_evening_42 (by decide) ?_
          cases hlit
          exact ret mm _ _ _ _ trivial hP hS rfl d_Nm_evening_44
      · have hlit := brN _ hlit c27
        refine lv_iconst (v := (-1 : Int32)) hx hb d_Nm_evening_30 (by decide) ?_
        cases hlit
        exact ret mm _ _ _ _ trivial hP hS rfl d_Nm_evening_31

abbrev rm_x_Nm_keep : Room := { frames := 4, cells := 0, slots := 0, locals := 84 }
theorem hd_x_Nm_keep : y_Nm_keep.cls ≠ "java/lang/invoke/MethodHandle" ∧ y_Nm_keep.cls ≠ "java/lang/invoke/VarHandle" ∧ (parseMethodDescriptor y_Nm_keep.desc).map (fun d => d.parameters.length) = some 0 := by decide +kernel
set_option maxHeartbeats 4000000 in
set_option maxRecDepth 100000 in
theorem cx_Nm_keep (l : Launch) (E : xE) (a : Nat → Nat) (ha : xInj a 38) (mm : Nat) (h : Hp) (sz : Nat) {r0 : Int32} {h9 : Hp} (hlit : x_Nm_keep h = some (r0, h9)) : Met l y_Nm_keep (Cond.code y_Nm_keep b_Nm_keep 1 (some .int) :: TB) rm_x_Nm_keep (fPc [.ref (a 0)] E.1 (xtys E) sz (xV E a (a 6) (a 10) mm h)) (fQi (fun _ : Nat => True) r0 E.1 (fun (_ : Nat) => xV E a (a 6) (a 10) mm h9) (xA a 38 sz)) 0 0 (xA a 38 sz) := by
  refine fl_startI (by decide) (Nat.le_of_ble_eq_true rfl) ?_
  intro p e s m args below meth c Q hx hb hml hown hts hsz hP hK hN ret ls hl
  subst hsz
  have hA : ∀ k, k < 38 → (xA a 38 s.heap.size) (a k) := xA_in
  have hS : va_S (xA a 38 s.heap.size) s.heap s.heap [] := va_S.rf
  have hl : lv_has ls 1 [(0, .ref (a 0))] := hl
  refine lv_aload_n hx hb d_Nm_keep_0 rfl (lv_at hl 0 rfl) ?_
  refine xg_Nm_5 hx hb hts hown hK hP q292 d_Nm_keep_1 ?_
  refine xg_Pileb_0 hx hb hts hown hK hP q111 d_Nm_keep_4 ?_
  refine lv_iconst (v := (2 : Int32)) hx hb d_Nm_keep_7 (by decide) ?_
  refine lv_icmp_lt (tgt := 14) hx hb d_Nm_keep_8 (by decide) (fun c8 => ?_) (fun c8 => ?_)
  · have hlit := brP _ hlit c8
    refine lv_aload_n hx hb d_Nm_keep_14 rfl (lv_at hl 0 rfl) ?_
    refine xg_Nm_5 hx hb hts hown hK hP q292 d_Nm_keep_15 ?_
    refine lv_aload_n hx hb d_Nm_keep_18 rfl (lv_at hl 0 rfl) ?_
    refine xg_Nm_1 hx hb hts hown hK hP q288 d_Nm_keep_19 ?_
    obtain ⟨h_22, hl22, hlit⟩ := bindS hlit
    refine fCallV (fRunV (As := [.ref (a 3)]) (rest := []) (q0 := 24) (ci := 5) hx hb hml hown hts hK hN hP (cx_Pile_push_b l E a ha (a 6) (a 10) mm h _ 3 rfl (h9 := h_22) hl22) q422 q423 q424 q52 q425 hd_x_Pile_push_b rfl rfl ⟨Nat.le_of_ble_eq_true rfl, Nat.le_of_ble_eq_true rfl⟩ xe_24 rfl rfl rfl hl.1 rfl (Nat.le_of_ble_eq_true rfl) d_Nm_keep_22 ⟨Nat.zero_le _, Nat.zero_le _⟩) hS (xA_up hS.1) (fun _ H locs hu22 hP hS _ _ => ?_)
    have hP : va_P E.1 xcl (xV E a (a 6) (a 10) mm h_22) H := hP
    refine lv_aload_n hx hb d_Nm_keep_25 rfl (lv_at hl 0 rfl) ?_
    refine xg_Nm_5 hx hb hts hown hK hP q292 d_Nm_keep_26 ?_
    refine xg_Pileb_0 hx hb hts hown hK hP q111 d_Nm_keep_29 ?_
    cases hlit
    exact ret 0 _ _ _ _ trivial hP hS rfl d_Nm_keep_32
  · have hlit := brN _ hlit c8
    refine lv_bipush (v := (-3 : Int32)) hx hb d_Nm_keep_11 (by decide) ?_
    cases hlit
    exact ret 0 _ _ _ _ trivial hP hS rfl d_Nm_keep_13

abbrev rm_x_Nm_back : Room := { frames := 3, cells := 0, slots := 0, locals := 63 }
theorem hd_x_Nm_back : y_Nm_back.cls ≠ "java/lang/invoke/MethodHandle" ∧ y_Nm_back.cls ≠ "java/lang/invoke/VarHandle" ∧ (parseMethodDescriptor y_Nm_back.desc).map (fun d => d.parameters.length) = some 0 := by decide +kernel
set_option maxHeartbeats 4000000 in
set_option maxRecDepth 100000 in
theorem cx_Nm_back (l : Launch) (E : xE) (a : Nat → Nat) (ha : xInj a 38) (mm : Nat) (h : Hp) (sz : Nat) {r0 : Int32} {h9 : Hp} (hlit : x_Nm_back h = some (r0, h9)) : Met l y_Nm_back (Cond.code y_Nm_back b_Nm_back 1 (some .int) :: TB) rm_x_Nm_back (fPc [.ref (a 0)] E.1 (xtys E) sz (xV E a (a 6) (a 10) mm h)) (fQi (fun _ : Nat => True) r0 E.1 (fun (_ : Nat) => xV E a (a 6) (a 10) mm h9) (xA a 38 sz)) 0 0 (xA a 38 sz) := by
  refine fl_startI (by decide) (Nat.le_of_ble_eq_true rfl) ?_
  intro p e s m args below meth c Q hx hb hml hown hts hsz hP hK hN ret ls hl
  subst hsz
  have hA : ∀ k, k < 38 → (xA a 38 s.heap.size) (a k) := xA_in
  have hS : va_S (xA a 38 s.heap.size) s.heap s.heap [] := va_S.rf
  have hl : lv_has ls 1 [(0, .ref (a 0))] := hl
  refine lv_aload_n hx hb d_Nm_back_0 rfl (lv_at hl 0 rfl) ?_
  refine xg_Nm_5 hx hb hts hown hK hP q292 d_Nm_back_1 ?_
  refine lv_aload_n hx hb d_Nm_back_4 rfl (lv_at hl 0 rfl) ?_
  refine xg_Nm_1 hx hb hts hown hK hP q288 d_Nm_back_5 ?_
  obtain ⟨z8, hl8, hlit⟩ := bindS hlit
  refine fCallI (fRunV (As := [.ref (a 3)]) (rest := []) (q0 := 24) (ci := 5) hx hb hml hown hts hK hN hP (cx_Pile_popInto_b l E a ha (a 6) (a 10) mm h _ 3 rfl (r0 := z8.1) (h9 := z8.2) hl8) q469 q470 q471 q52 q472 hd_x_Pile_popInto_b rfl rfl ⟨Nat.le_of_ble_eq_true rfl, Nat.le_of_ble_eq_true rfl⟩ xe_24 rfl rfl rfl hl.1 rfl (Nat.le_of_ble_eq_true rfl) d_Nm_back_8 ⟨Nat.zero_le _, Nat.zero_le _⟩) hS (xA_up hS.1) (fun _ H locs hu8 hP hS _ _ => ?_)
  have hP : va_P E.1 xcl (xV E a (a 6) (a 10) mm z8.2) H := hP
  refine lv_if_ne (tgt := 17) hx hb d_Nm_back_11 (by decide) (fun c11 => ?_) (fun c11 => ?_)
  · have hlit := brN _ hlit c11
    refine lv_aload_n hx hb d_Nm_back_17 rfl (lv_at hl 0 rfl) ?_
    refine xg_Nm_4 hx hb hts hown hK hP q291 d_Nm_back_18 ?_
    refine lv_iconst (v := (0 : Int32)) hx hb d_Nm_back_21 (by decide) ?_
    refine xp_Pilea_0 hx hb hts hown hK hP ha hA hS q111 d_Nm_back_22 (fun H locs hP hS => ?_)
    obtain ⟨h_22, eh_22, hlit⟩ := bindS hlit
    rw [Option.some.inj eh_22] at hP
    refine lv_aload_n hx hb d_Nm_back_25 rfl (lv_at hl 0 rfl) ?_
    refine xg_Nm_5 hx hb hts hown hK hP q292 d_Nm_back_26 ?_
    refine xg_Pileb_0 hx hb hts hown hK hP q111 d_Nm_back_29 ?_
    cases hlit
    exact ret 0 _ _ _ _ trivial hP hS rfl d_Nm_back_32
  · have hlit := brP _ hlit c11
    refine lv_bipush (v := (-2 : Int32)) hx hb d_Nm_back_14 (by decide) ?_
    cases hlit
    exact ret 0 _ _ _ _ trivial hP hS rfl d_Nm_back_16

abbrev rm_x_Nm_count : Room := { frames := 1, cells := 0, slots := 0, locals := 20 }
theorem hd_x_Nm_count : y_Nm_count.cls ≠ "java/lang/invoke/MethodHandle" ∧ y_Nm_count.cls ≠ "java/lang/invoke/VarHandle" ∧ (parseMethodDescriptor y_Nm_count.desc).map (fun d => d.parameters.length) = some 1 := by decide +kernel
set_option maxHeartbeats 4000000 in
set_option maxRecDepth 100000 in
theorem cx_Nm_count (l : Launch) (E : xE) (a : Nat → Nat) (ha : xInj a 38) (mm : Nat) (h : Hp) (sz : Nat) (p1 : Int32) {r0 : Int32} (hlit : x_Nm_count p1 h = some r0) : Met l y_Nm_count (Cond.code y_Nm_count b_Nm_count 2 (some .int) :: TB) rm_x_Nm_count (fPc [.ref (a 0), .int p1] E.1 (xtys E) sz (xV E a (a 6) (a 10) mm h)) (fQi (fun _ : Nat => True) r0 E.1 (fun (_ : Nat) => xV E a (a 6) (a 10) mm h) (xA a 38 sz)) 0 0 (xA a 38 sz) := by
  refine fl_startI (by decide) (Nat.le_of_ble_eq_true rfl) ?_
  intro p e s m args below meth c Q hx hb hml hown hts hsz hP hK hN ret ls hl
  subst hsz
  have hA : ∀ k, k < 38 → (xA a 38 s.heap.size) (a k) := xA_in
  have hS : va_S (xA a 38 s.heap.size) s.heap s.heap [] := va_S.rf
  have hl : lv_has ls 2 [(0, .ref (a 0)), (1, .int p1)] := hl
  refine lv_iload_n hx hb d_Nm_count_0 rfl (lv_at hl 1 rfl) ?_
  by_cases c1_0 : p1 = 0
  · have hlit := brP _ hlit c1_0
    refine lv_tableIn (off := 51) (tgt := 52) hx hb d_Nm_count_1 (by rw [c1_0]; decide) (by rw [c1_0]; decide) (by rw [c1_0]; rfl) (by decide) ?_
    refine lv_aload_n hx hb d_Nm_count_52 rfl (lv_at hl 0 rfl) ?_
    refine xg_Nm_7 hx hb hts hown hK hP q294 d_Nm_count_53 ?_
    refine xg_Menu_1 hx hb hts hown hK hP rfl q152 d_Nm_count_56 ?_
    cases hlit
    exact ret 0 _ _ _ _ trivial hP hS rfl d_Nm_count_59
  · have hlit := brN _ hlit c1_0
    by_cases c1_1 : p1 = 1
    · have hlit := brP _ hlit c1_1
      refine lv_tableIn (off := 59) (tgt := 60) hx hb d_Nm_count_1 (by rw [c1_1]; decide) (by rw [c1_1]; decide) (by rw [c1_1]; rfl) (by decide) ?_
      refine lv_aload_n hx hb d_Nm_count_60 rfl (lv_at hl 0 rfl) ?_
      refine xg_Nm_7 hx hb hts hown hK hP q294 d_Nm_count_61 ?_
      refine xg_Menu_0 hx hb hts hown hK hP rfl q149 d_Nm_count_64 ?_
      cases hlit
      exact ret 0 _ _ _ _ trivial hP hS rfl d_Nm_count_67
    · have hlit := brN _ hlit c1_1
      by_cases c1_2 : p1 = 2
      · have hlit := brP _ hlit c1_2
        refine lv_tableIn (off := 67) (tgt := 68) hx hb d_Nm_count_1 (by rw [c1_2]; decide) (by rw [c1_2]; decide) (by rw [c1_2]; rfl) (by decide) ?_
        refine lv_aload_n hx hb d_Nm_count_68 rfl (lv_at hl 0 rfl) ?_
        refine xg_Nm_1 hx hb hts hown hK hP q288 d_Nm_count_69 ?_
        refine xg_Table_0 hx hb hts hown hK hP rfl q93 d_Nm_count_72 ?_
        cases hlit
        exact ret 0 _ _ _ _ trivial hP hS rfl d_Nm_count_75
      · have hlit := brN _ hlit c1_2
        by_cases c1_3 : p1 = 3
        · have hlit := brP _ hlit c1_3
          refine lv_tableIn (off := 75) (tgt := 76) hx hb d_Nm_count_1 (by rw [c1_3]; decide) (by rw [c1_3]; decide) (by rw [c1_3]; rfl) (by decide) ?_
          refine lv_aload_n hx hb d_Nm_count_76 rfl (lv_at hl 0 rfl) ?_
          refine xg_Nm_1 hx hb hts hown hK hP q288 d_Nm_count_77 ?_
          refine xg_Table_1 hx hb hts hown hK hP rfl q95 d_Nm_count_80 ?_
          obtain ⟨r83, hl83, hlit⟩ := bindS hlit
          refine fCallI (fRunS (As := [.int (h 3 1)]) (rest := []) hx hb hml hown hts hK hN hP (cx_Int_bitCount l E a ha (a 6) (a 10) mm h _ (h 3 1) (r0 := r83) hl83) q446 q447 q63 q448 hd_x_Int_bitCount rfl rfl ⟨Nat.le_of_ble_eq_true rfl, Nat.le_of_ble_eq_true rfl⟩ rfl hl.1 rfl (Nat.le_of_ble_eq_true rfl) d_Nm_count_83 ⟨Nat.zero_le _, Nat.zero_le _⟩) hS (xA_up hS.1) (fun _ H locs hu83 hP hS _ _ => ?_)
          have hP : va_P E.1 xcl (xV E a (a 6) (a 10) mm h) H := hP
          cases hlit
          exact ret 0 _ _ _ _ trivial hP hS rfl d_Nm_count_86
        · have hlit := brN _ hlit c1_3
          by_cases c1_4 : p1 = 4
          · have hlit := brP _ hlit c1_4
            refine lv_tableIn (off := 86) (tgt := 87) hx hb d_Nm_count_1 (by rw [c1_4]; decide) (by rw [c1_4]; decide) (by rw [c1_4]; rfl) (by decide) ?_
            refine lv_aload_n hx hb d_Nm_count_87 rfl (lv_at hl 0 rfl) ?_
            refine xg_Nm_1 hx hb hts hown hK hP q288 d_Nm_count_88 ?_
            obtain ⟨r91, hl91, hlit⟩ := bindS hlit
            refine fCallI (fRunV (As := []) (rest := []) (q0 := 3) (ci := 7) hx hb hml hown hts hK hN hP (cx_Table_isOrdered l E a ha (a 6) (a 10) mm h _ 3 rfl (r0 := r91) hl91) q418 q419 q420 q51 q421 hd_x_Table_isOrdered rfl rfl ⟨Nat.le_of_ble_eq_true rfl, Nat.le_of_ble_eq_true rfl⟩ (xeT rfl) rfl rfl rfl hl.1 rfl (Nat.le_of_ble_eq_true rfl) d_Nm_count_91 ⟨Nat.zero_le _, Nat.zero_le _⟩) hS (xA_up hS.1) (fun _ H locs hu91 hP hS _ _ => ?_)
            have hP : va_P E.1 xcl (xV E a (a 6) (a 10) mm h) H := hP
            refine lv_if_eq (tgt := 107) hx hb d_Nm_count_94 (by decide) (fun c94 => ?_) (fun c94 => ?_)
            · have hlit := brP _ hlit c94
              refine lv_bipush (v := (-4 : Int32)) hx hb d_Nm_count_107 (by decide) ?_
              cases hlit
              exact ret 0 _ _ _ _ trivial hP hS rfl d_Nm_count_109
            · have hlit := brN _ hlit c94
              refine lv_aload_n hx hb d_Nm_count_97 rfl (lv_at hl 0 rfl) ?_
              refine xg_Nm_1 hx hb hts hown hK hP q288 d_Nm_count_98 ?_
              refine xg_Table_2 hx hb hts hown hK hP rfl q97 d_Nm_count_101 ?_
              refine lv_goto (tgt := 109) hx hb d_Nm_count_104 (by decide) ?_
              cases hlit
              exact ret 0 _ _ _ _ trivial hP hS rfl d_Nm_count_109
          · have hlit := brN _ hlit c1_4
            by_cases c1_5 : p1 = 5
            · have hlit := brP _ hlit c1_5
              refine lv_tableIn (off := 109) (tgt := 110) hx hb d_Nm_count_1 (by rw [c1_5]; decide) (by rw [c1_5]; decide) (by rw [c1_5]; rfl) (by decide) ?_
              refine lv_aload_n hx hb d_Nm_count_110 rfl (lv_at hl 0 rfl) ?_
              refine xg_Nm_6 hx hb hts hown hK hP q293 d_Nm_count_111 ?_
              refine xg_Notes_0 hx hb hts hown hK hP q137 d_Nm_count_114 ?_
              cases hlit
              exact ret 0 _ _ _ _ trivial hP hS rfl d_Nm_count_117
            · have hlit := brN _ hlit c1_5
              by_cases c1_6 : p1 = 6
              · have hlit := brP _ hlit c1_6
                refine lv_tableIn (off := 117) (tgt := 118) hx hb d_Nm_count_1 (by rw [c1_6]; decide) (by rw [c1_6]; decide) (by rw [c1_6]; rfl) (by decide) ?_
                refine lv_aload_n hx hb d_Nm_count_118 rfl (lv_at hl 0 rfl) ?_
                refine xg_Nm_4 hx hb hts hown hK hP q291 d_Nm_count_119 ?_
                refine xg_Pilea_0 hx hb hts hown hK hP q111 d_Nm_count_122 ?_
                cases hlit
                exact ret 0 _ _ _ _ trivial hP hS rfl d_Nm_count_125
              · have hlit := brN _ hlit c1_6
                by_cases c1_7 : p1 = 7
                · have hlit := brP _ hlit c1_7
                  refine lv_tableIn (off := 125) (tgt := 126) hx hb d_Nm_count_1 (by rw [c1_7]; decide) (by rw [c1_7]; decide) (by rw [c1_7]; rfl) (by decide) ?_
                  refine lv_aload_n hx hb d_Nm_count_126 rfl (lv_at hl 0 rfl) ?_
                  refine xg_Nm_5 hx hb hts hown hK hP q292 d_Nm_count_127 ?_
                  refine xg_Pileb_0 hx hb hts hown hK hP q111 d_Nm_count_130 ?_
                  cases hlit
                  exact ret 0 _ _ _ _ trivial hP hS rfl d_Nm_count_133
                · have hlit := brN _ hlit c1_7
                  by_cases c1_8 : p1 = 8
                  · have hlit := brP _ hlit c1_8
                    refine lv_tableIn (off := 133) (tgt := 134) hx hb d_Nm_count_1 (by rw [c1_8]; decide) (by rw [c1_8]; decide) (by rw [c1_8]; rfl) (by decide) ?_
                    refine lv_aload_n hx hb d_Nm_count_134 rfl (lv_at hl 0 rfl) ?_
                    refine xg_Nm_0 hx hb hts hown hK hP q287 d_Nm_count_135 ?_
                    refine xg_Reader_1 hx hb hts hown hK hP q78 d_Nm_count_138 ?_
                    cases hlit
                    exact ret 0 _ _ _ _ trivial hP hS rfl d_Nm_count_141
                  · have hlit := brN _ hlit c1_8
                    refine lv_tableOut (tgt := 142) hx hb d_Nm_count_1 (sw_out8 c1_0 c1_1 c1_2 c1_3 c1_4 c1_5 c1_6 c1_7 c1_8) (by decide) ?_
                    refine lv_iconst (v := (-1 : Int32)) hx hb d_Nm_count_142 (by decide) ?_
                    cases hlit
                    exact ret 0 _ _ _ _ trivial hP hS rfl d_Nm_count_143
