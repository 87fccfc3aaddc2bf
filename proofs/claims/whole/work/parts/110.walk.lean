abbrev rm_m_Mo_two : Room := { frames := 4, cells := 0, slots := 0, locals := 93 }
theorem hd_m_Mo_two : y_Mo_two.cls ≠ "java/lang/invoke/MethodHandle" ∧ y_Mo_two.cls ≠ "java/lang/invoke/VarHandle" ∧ (parseMethodDescriptor y_Mo_two.desc).map (fun d => d.parameters.length) = some 1 := by decide +kernel
set_option maxHeartbeats 4000000 in
set_option maxRecDepth 100000 in
theorem cm_Mo_two (l : Launch) (E : mE) (a : Nat → Nat) (ha : xInj a 10) (h : Hp) (sz : Nat) (p1 : Int32) {r0 : Int32} (hlit : m_Mo_two p1 h = some r0) : Met l y_Mo_two (Cond.code y_Mo_two b_Mo_two 3 (some .int) :: TB) rm_m_Mo_two (fPc [.ref (a 0), .int p1] E.1 (mtys E) sz (mV E a h)) (fQi (fun _ : Nat => True) r0 E.1 (fun (_ : Nat) => mV E a h) (xA a 10 sz)) 0 0 (xA a 10 sz) := by
  refine fl_startI (by decide) (Nat.le_of_ble_eq_true rfl) ?_
  intro p e s m args below meth c Q hx hb hml hown hts hsz hP hK hN ret ls hl
  subst hsz
  have hA : ∀ k, k < 10 → (xA a 10 s.heap.size) (a k) := xA_in
  have hS : va_S (xA a 10 s.heap.size) s.heap s.heap [] := va_S.rf
  have hl : lv_has ls 3 [(0, .ref (a 0)), (1, .int p1)] := hl
  refine lv_iload_n hx hb d_Mo_two_0 rfl (lv_at hl 1 rfl) ?_
  refine lv_i2l (v := p1.toInt64) hx hb d_Mo_two_1 rfl ?_
  refine lv_lconst (v := (0 : Int64)) hx hb d_Mo_two_2 (by decide) ?_
  refine lv_lconst (v := (1 : Int64)) hx hb d_Mo_two_3 (by decide) ?_
  obtain ⟨r4, hl4, hlit⟩ := bindS hlit
  refine fCallI (fRunS (As := [.long (p1.toInt64), .long (0 : Int64), .long (1 : Int64)]) (rest := []) hx hb hml hown hts hK hN hP (cm_Mo_in l E a ha h _ (p1.toInt64) (0 : Int64) (1 : Int64) (r0 := r4) hl4) q707 q708 q61 q709 hd_m_Mo_in rfl rfl ⟨Nat.le_of_ble_eq_true rfl, Nat.le_of_ble_eq_true rfl⟩ rfl hl.1 rfl (Nat.le_of_ble_eq_true rfl) d_Mo_two_4 ⟨Nat.zero_le _, Nat.zero_le _⟩) hS (xA_up hS.1) (fun _ H locs hu4 hP hS _ _ => ?_)
  have hP : va_P E.1 xcl (mV E a h) H := hP
  refine lv_if_ne (tgt := 12) hx hb d_Mo_two_7 (by decide) (fun c7 => ?_) (fun c7 => ?_)
  · have hlit := brN _ hlit c7
    refine lv_aload_n hx hb d_Mo_two_12 rfl (lv_at hl 0 rfl) ?_
    obtain ⟨r13, hl13, hlit⟩ := bindS hlit
    refine fCallI (fRunV (As := []) (rest := []) (q0 := 0) (ci := 8) hx hb hml hown hts hK hN hP (cm_Mo_bestTwo l E a ha h _ (r0 := r13) hl13) q851 q852 q46 q61 q853 hd_m_Mo_bestTwo rfl rfl ⟨Nat.le_of_ble_eq_true rfl, Nat.le_of_ble_eq_true rfl⟩ me_0 rfl rfl rfl hl.1 rfl (Nat.le_of_ble_eq_true rfl) d_Mo_two_13 ⟨Nat.zero_le _, Nat.zero_le _⟩) hS (xA_up hS.1) (fun _ H locs hu13 hP hS _ _ => ?_)
    have hP : va_P E.1 xcl (mV E a h) H := hP
    refine lv_istore_n (lv' := [(2, .int r13), (0, .ref (a 0)), (1, .int p1)]) hx hb d_Mo_two_16 rfl hl (by decide) rfl (fun ls hl => ?_)
    refine lv_iload_n hx hb d_Mo_two_17 rfl (lv_at hl 0 rfl) ?_
    refine lv_if_lt (tgt := 25) hx hb d_Mo_two_18 (by decide) (fun c18 => ?_) (fun c18 => ?_)
    · have hlit := brP _ hlit c18
      refine lv_iload_n hx hb d_Mo_two_25 rfl (lv_at hl 0 rfl) ?_
      refine lv_goto (tgt := 41) hx hb d_Mo_two_26 (by decide) ?_
      cases hlit
      exact ret 0 _ _ _ _ trivial hP hS rfl d_Mo_two_41
    · have hlit := brN _ hlit c18
      refine lv_iload_n hx hb d_Mo_two_21 rfl (lv_at hl 2 rfl) ?_
      refine lv_if_ne (tgt := 29) hx hb d_Mo_two_22 (by decide) (fun c22 => ?_) (fun c22 => ?_)
      · have hlit := brN _ hlit c22
        refine lv_aload_n hx hb d_Mo_two_29 rfl (lv_at hl 1 rfl) ?_
        refine lv_iload_n hx hb d_Mo_two_30 rfl (lv_at hl 0 rfl) ?_
        refine lv_bipush (v := (8 : Int32)) hx hb d_Mo_two_31 (by decide) ?_
        refine lv_idiv hx hb d_Mo_two_33 (by decide) ?_
        refine lv_iload_n hx hb d_Mo_two_34 rfl (lv_at hl 0 rfl) ?_
        refine lv_bipush (v := (8 : Int32)) hx hb d_Mo_two_35 (by decide) ?_
        refine lv_irem hx hb d_Mo_two_37 (by decide) ?_
        obtain ⟨r38, hl38, hlit⟩ := bindS hlit
        refine fCallI (fRunV (As := [.int (r13 / (8 : Int32)), .int (r13 - r13 / (8 : Int32) * (8 : Int32))]) (rest := []) (q0 := 0) (ci := 8) hx hb hml hown hts hK hN hP (cm_Mo_both l E a ha h _ (r13 / (8 : Int32)) (r13 - r13 / (8 : Int32) * (8 : Int32)) (r0 := r38) hl38) q854 q855 q47 q61 q856 hd_m_Mo_both rfl rfl ⟨Nat.le_of_ble_eq_true rfl, Nat.le_of_ble_eq_true rfl⟩ me_0 rfl rfl rfl hl.1 rfl (Nat.le_of_ble_eq_true rfl) d_Mo_two_38 ⟨Nat.zero_le _, Nat.zero_le _⟩) hS (xA_up hS.1) (fun _ H locs hu38 hP hS _ _ => ?_)
        have hP : va_P E.1 xcl (mV E a h) H := hP
        cases hlit
        exact ret 0 _ _ _ _ trivial hP hS rfl d_Mo_two_41
      · have hlit := brP _ hlit c22
        refine lv_iload_n hx hb d_Mo_two_25 rfl (lv_at hl 0 rfl) ?_
        refine lv_goto (tgt := 41) hx hb d_Mo_two_26 (by decide) ?_
        cases hlit
        exact ret 0 _ _ _ _ trivial hP hS rfl d_Mo_two_41
  · have hlit := brP _ hlit c7
    refine lv_iconst (v := (-1 : Int32)) hx hb d_Mo_two_10 (by decide) ?_
    cases hlit
    exact ret 0 _ _ _ _ trivial hP hS rfl d_Mo_two_11

abbrev rm_m_Mo_houses : Room := { frames := 4, cells := 0, slots := 0, locals := 99 }
theorem hd_m_Mo_houses : y_Mo_houses.cls ≠ "java/lang/invoke/MethodHandle" ∧ y_Mo_houses.cls ≠ "java/lang/invoke/VarHandle" ∧ (parseMethodDescriptor y_Mo_houses.desc).map (fun d => d.parameters.length) = some 1 := by decide +kernel
set_option maxHeartbeats 4000000 in
set_option maxRecDepth 100000 in
theorem cm_Mo_houses (l : Launch) (E : mE) (a : Nat → Nat) (ha : xInj a 10) (h : Hp) (sz : Nat) (p1 : Int32) {r0 : Int32} (hlit : m_Mo_houses p1 h = some r0) : Met l y_Mo_houses (Cond.code y_Mo_houses b_Mo_houses 3 (some .int) :: TB) rm_m_Mo_houses (fPc [.ref (a 0), .int p1] E.1 (mtys E) sz (mV E a h)) (fQi (fun _ : Nat => True) r0 E.1 (fun (_ : Nat) => mV E a h) (xA a 10 sz)) 0 0 (xA a 10 sz) := by
  refine fl_startI (by decide) (Nat.le_of_ble_eq_true rfl) ?_
  intro p e s m args below meth c Q hx hb hml hown hts hsz hP hK hN ret ls hl
  subst hsz
  have hA : ∀ k, k < 10 → (xA a 10 s.heap.size) (a k) := xA_in
  have hS : va_S (xA a 10 s.heap.size) s.heap s.heap [] := va_S.rf
  have hl : lv_has ls 3 [(0, .ref (a 0)), (1, .int p1)] := hl
  refine lv_iload_n hx hb d_Mo_houses_0 rfl (lv_at hl 1 rfl) ?_
  refine lv_i2l (v := p1.toInt64) hx hb d_Mo_houses_1 rfl ?_
  refine lv_lconst (v := (0 : Int64)) hx hb d_Mo_houses_2 (by decide) ?_
  refine lv_ldc2 (v := (99 : Int64)) hx hb hown (hts _ q861) d_Mo_houses_3 ?_
  obtain ⟨r6, hl6, hlit⟩ := bindS hlit
  refine fCallI (fRunS (As := [.long (p1.toInt64), .long (0 : Int64), .long (99 : Int64)]) (rest := []) hx hb hml hown hts hK hN hP (cm_Mo_in l E a ha h _ (p1.toInt64) (0 : Int64) (99 : Int64) (r0 := r6) hl6) q707 q708 q61 q709 hd_m_Mo_in rfl rfl ⟨Nat.le_of_ble_eq_true rfl, Nat.le_of_ble_eq_true rfl⟩ rfl hl.1 rfl (Nat.le_of_ble_eq_true rfl) d_Mo_houses_6 ⟨Nat.zero_le _, Nat.zero_le _⟩) hS (xA_up hS.1) (fun _ H locs hu6 hP hS _ _ => ?_)
  have hP : va_P E.1 xcl (mV E a h) H := hP
  refine lv_if_ne (tgt := 14) hx hb d_Mo_houses_9 (by decide) (fun c9 => ?_) (fun c9 => ?_)
  · have hlit := brN _ hlit c9
    refine lv_aload_n hx hb d_Mo_houses_14 rfl (lv_at hl 0 rfl) ?_
    obtain ⟨r15, hl15, hlit⟩ := bindS hlit
    refine fCallI (fRunV (As := []) (rest := []) (q0 := 0) (ci := 8) hx hb hml hown hts hK hN hP (cm_Mo_bestTwo l E a ha h _ (r0 := r15) hl15) q851 q852 q46 q61 q853 hd_m_Mo_bestTwo rfl rfl ⟨Nat.le_of_ble_eq_true rfl, Nat.le_of_ble_eq_true rfl⟩ me_0 rfl rfl rfl hl.1 rfl (Nat.le_of_ble_eq_true rfl) d_Mo_houses_15 ⟨Nat.zero_le _, Nat.zero_le _⟩) hS (xA_up hS.1) (fun _ H locs hu15 hP hS _ _ => ?_)
    have hP : va_P E.1 xcl (mV E a h) H := hP
    refine lv_istore_n (lv' := [(2, .int r15), (0, .ref (a 0)), (1, .int p1)]) hx hb d_Mo_houses_18 rfl hl (by decide) rfl (fun ls hl => ?_)
    refine lv_iload_n hx hb d_Mo_houses_19 rfl (lv_at hl 0 rfl) ?_
    refine lv_if_lt (tgt := 49) hx hb d_Mo_houses_20 (by decide) (fun c20 => ?_) (fun c20 => ?_)
    · have hlit := brP _ hlit c20
      refine lv_iconst (v := (2 : Int32)) hx hb d_Mo_houses_49 (by decide) ?_
      cases hlit
      exact ret 0 _ _ _ _ trivial hP hS rfl d_Mo_houses_50
    · have hlit := brN _ hlit c20
      refine lv_aload_n hx hb d_Mo_houses_23 rfl (lv_at hl 1 rfl) ?_
      refine lv_iload_n hx hb d_Mo_houses_24 rfl (lv_at hl 0 rfl) ?_
      refine lv_bipush (v := (8 : Int32)) hx hb d_Mo_houses_25 (by decide) ?_
      refine lv_idiv hx hb d_Mo_houses_27 (by decide) ?_
      refine lv_iload_n hx hb d_Mo_houses_28 rfl (lv_at hl 0 rfl) ?_
      refine lv_bipush (v := (8 : Int32)) hx hb d_Mo_houses_29 (by decide) ?_
      refine lv_irem hx hb d_Mo_houses_31 (by decide) ?_
      obtain ⟨r32, hl32, hlit⟩ := bindS hlit
      refine fCallI (fRunV (As := [.int (r15 / (8 : Int32)), .int (r15 - r15 / (8 : Int32) * (8 : Int32))]) (rest := []) (q0 := 0) (ci := 8) hx hb hml hown hts hK hN hP (cm_Mo_both l E a ha h _ (r15 / (8 : Int32)) (r15 - r15 / (8 : Int32) * (8 : Int32)) (r0 := r32) hl32) q854 q855 q47 q61 q856 hd_m_Mo_both rfl rfl ⟨Nat.le_of_ble_eq_true rfl, Nat.le_of_ble_eq_true rfl⟩ me_0 rfl rfl rfl hl.1 rfl (Nat.le_of_ble_eq_true rfl) d_Mo_houses_32 ⟨Nat.zero_le _, Nat.zero_le _⟩) hS (xA_up hS.1) (fun _ H locs hu32 hP hS _ _ => ?_)
      have hP : va_P E.1 xcl (mV E a h) H := hP
      refine lv_iload_n hx hb d_Mo_houses_35 rfl (lv_at hl 2 rfl) ?_
      refine lv_isub hx hb d_Mo_houses_36 ?_
      refine lv_aload_n hx hb d_Mo_houses_37 rfl (lv_at hl 1 rfl) ?_
      refine lv_iconst (v := (1 : Int32)) hx hb d_Mo_houses_38 (by decide) ?_
      obtain ⟨r39, hl39, hlit⟩ := bindS hlit
      refine fCallI (fRunV (As := [.int (1 : Int32)]) (rest := [.int (r32 - p1)]) (q0 := 0) (ci := 8) hx hb hml hown hts hK hN hP (cm_Mo_most l E a ha h _ (1 : Int32) (r0 := r39) hl39) q862 q809 q810 q61 q811 hd_m_Mo_most rfl rfl ⟨Nat.le_of_ble_eq_true rfl, Nat.le_of_ble_eq_true rfl⟩ me_0 rfl rfl rfl hl.1 rfl (Nat.le_of_ble_eq_true rfl) d_Mo_houses_39 ⟨Nat.zero_le _, Nat.zero_le _⟩) hS (xA_up hS.1) (fun _ H locs hu39 hP hS _ _ => ?_)
      have hP : va_P E.1 xcl (mV E a h) H := hP
      refine lv_icmp_le (tgt := 49) hx hb d_Mo_houses_42 (by decide) (fun c42 => ?_) (fun c42 => ?_)
      · have hlit := brP _ hlit c42
        refine lv_iconst (v := (2 : Int32)) hx hb d_Mo_houses_49 (by decide) ?_
        cases hlit
        exact ret 0 _ _ _ _ trivial hP hS rfl d_Mo_houses_50
      · have hlit := brN _ hlit c42
        refine lv_iconst (v := (1 : Int32)) hx hb d_Mo_houses_45 (by decide) ?_
        refine lv_goto (tgt := 50) hx hb d_Mo_houses_46 (by decide) ?_
        cases hlit
        exact ret 0 _ _ _ _ trivial hP hS rfl d_Mo_houses_50
  · have hlit := brP _ hlit c9
    refine lv_iconst (v := (-1 : Int32)) hx hb d_Mo_houses_12 (by decide) ?_
    cases hlit
    exact ret 0 _ _ _ _ trivial hP hS rfl d_Mo_houses_13

abbrev rm_m_Mo_waits : Room := { frames := 2, cells := 0, slots := 0, locals := 50 }
theorem hd_m_Mo_waits : y_Mo_waits.cls ≠ "java/lang/invoke/MethodHandle" ∧ y_Mo_waits.cls ≠ "java/lang/invoke/VarHandle" ∧ (parseMethodDescriptor y_Mo_waits.desc).map (fun d => d.parameters.length) = some 2 := by decide +kernel
set_option maxHeartbeats 4000000 in
set_option maxRecDepth 100000 in
theorem cm_Mo_waits (l : Launch) (E : mE) (a : Nat → Nat) (ha : xInj a 10) (h : Hp) (sz : Nat) (p1 : Int32) (p2 : Int32) {r0 : Int32} (hlit : m_Mo_waits p1 p2 h = some r0) : Met l y_Mo_waits (Cond.code y_Mo_waits b_Mo_waits 7 (some .int) :: TB) rm_m_Mo_waits (fPc [.ref (a 0), .int p1, .int p2] E.1 (mtys E) sz (mV E a h)) (fQi (fun _ : Nat => True) r0 E.1 (fun (_ : Nat) => mV E a h) (xA a 10 sz)) 0 0 (xA a 10 sz) := by
  refine fl_startI (by decide) (Nat.le_of_ble_eq_true rfl) ?_
  intro p e s m args below meth c Q hx hb hml hown hts hsz hP hK hN ret ls hl
  subst hsz
  have hA : ∀ k, k < 10 → (xA a 10 s.heap.size) (a k) := xA_in
  have hS : va_S (xA a 10 s.heap.size) s.heap s.heap [] := va_S.rf
  have hl : lv_has ls 7 [(0, .ref (a 0)), (1, .int p1), (2, .int p2)] := hl
  have b81 : ∀ (k35 : Int32 → Int32 → Int32 → Option Int32), (∀ (x3 : Int32) (x4 : Int32) (x5 : Int32) (H : Heap) (locs : List Loc) (ls : Array Slot), k35 x3 x4 x5 = some r0 → va_P E.1 xcl (mV E a h) H → va_S (xA a 10 s.heap.size) s.heap H locs → lv_has ls 7 [(0, .ref (a 0)), (1, .int p1), (2, .int p2), (3, .int x3), (4, .int x4), (5, .int x5)] → W p l e rm_m_Mo_waits s m args below meth c H locs 0 0 Q (F0 m 35 ls [])) → ∀ (x4 : Int32) (x5 : Int32) (x6 : Int32) (s0 : Int32) (H : Heap) (locs : List Loc) (ls : Array Slot), m_Mo_waits_b81 k35 p1 p2 h x4 x5 x6 s0 = some r0 → va_P E.1 xcl (mV E a h) H → va_S (xA a 10 s.heap.size) s.heap H locs → lv_has ls 7 [(0, .ref (a 0)), (1, .int p1), (2, .int p2), (4, .int x4), (5, .int x5), (6, .int x6)] → W p l e rm_m_Mo_waits s m args below meth c H locs 0 0 Q (F0 m 81 ls [.int s0]) := by
    intro k35 hk35 x4 x5 x6 s0 H locs ls hlit hP hS hl
    refine lv_istore_n (lv' := [(3, .int s0), (0, .ref (a 0)), (1, .int p1), (2, .int p2), (4, .int x4), (5, .int x5), (6, .int x6)]) hx hb d_Mo_waits_81 rfl hl (by decide) rfl (fun ls hl => ?_)
    refine lv_iload hx hb d_Mo_waits_82 (lv_at hl 6 rfl) ?_
    refine lv_iload hx hb d_Mo_waits_84 (lv_at hl 4 rfl) ?_
    refine lv_icmp_le (tgt := 94) hx hb d_Mo_waits_86 (by decide) (fun c86 => ?_) (fun c86 => ?_)
    · have hlit := brP _ hlit c86
      refine lv_iload hx hb d_Mo_waits_94 (lv_at hl 4 rfl) ?_
      refine lv_istore (lv' := [(4, .int x4), (3, .int s0), (0, .ref (a 0)), (1, .int p1), (2, .int p2), (5, .int x5), (6, .int x6)]) hx hb d_Mo_waits_96 hl (by decide) rfl (fun ls hl => ?_)
      refine lv_iinc (v := (x5 + (1 : Int32))) (lv' := [(5, .int (x5 + (1 : Int32))), (4, .int x4), (3, .int s0), (0, .ref (a 0)), (1, .int p1), (2, .int p2), (6, .int x6)]) hx hb d_Mo_waits_98 hl (k := 5) rfl rfl (by decide) rfl (fun ls hl => ?_)
      refine lv_goto (tgt := 35) hx hb d_Mo_waits_101 (by decide) ?_
      exact hk35 s0 x4 (x5 + (1 : Int32)) _ _ _ hlit hP hS (lv_sub hl [3, 4, 5, 2, 1, 0] rfl)
    · have hlit := brN _ hlit c86
      refine lv_iload hx hb d_Mo_waits_89 (lv_at hl 6 rfl) ?_
      refine lv_goto (tgt := 96) hx hb d_Mo_waits_91 (by decide) ?_
      refine lv_istore (lv' := [(4, .int x6), (3, .int s0), (0, .ref (a 0)), (1, .int p1), (2, .int p2), (5, .int x5), (6, .int x6)]) hx hb d_Mo_waits_96 hl (by decide) rfl (fun ls hl => ?_)
      refine lv_iinc (v := (x5 + (1 : Int32))) (lv' := [(5, .int (x5 + (1 : Int32))), (4, .int x6), (3, .int s0), (0, .ref (a 0)), (1, .int p1), (2, .int p2), (6, .int x6)]) hx hb d_Mo_waits_98 hl (k := 5) rfl rfl (by decide) rfl (fun ls hl => ?_)
      refine lv_goto (tgt := 35) hx hb d_Mo_waits_101 (by decide) ?_
      exact hk35 s0 x6 (x5 + (1 : Int32)) _ _ _ hlit hP hS (lv_sub hl [3, 4, 5, 2, 1, 0] rfl)
  have b66 : ∀ (k35 : Int32 → Int32 → Int32 → Option Int32), (∀ (x3 : Int32) (x4 : Int32) (x5 : Int32) (H : Heap) (locs : List Loc) (ls : Array Slot), k35 x3 x4 x5 = some r0 → va_P E.1 xcl (mV E a h) H → va_S (xA a 10 s.heap.size) s.heap H locs → lv_has ls 7 [(0, .ref (a 0)), (1, .int p1), (2, .int p2), (3, .int x3), (4, .int x4), (5, .int x5)] → W p l e rm_m_Mo_waits s m args below meth c H locs 0 0 Q (F0 m 35 ls [])) → ∀ (x3 : Int32) (x4 : Int32) (x5 : Int32) (s0 : Int32) (H : Heap) (locs : List Loc) (ls : Array Slot), m_Mo_waits_b66 k35 p1 p2 h x3 x4 x5 s0 = some r0 → va_P E.1 xcl (mV E a h) H → va_S (xA a 10 s.heap.size) s.heap H locs → lv_has ls 7 [(0, .ref (a 0)), (1, .int p1), (2, .int p2), (3, .int x3), (4, .int x4), (5, .int x5)] → W p l e rm_m_Mo_waits s m args below meth c H locs 0 0 Q (F0 m 66 ls [.int s0]) := by
    intro k35 hk35 x3 x4 x5 s0 H locs ls hlit hP hS hl
    refine lv_istore (lv' := [(6, .int s0), (0, .ref (a 0)), (1, .int p1), (2, .int p2), (3, .int x3), (4, .int x4), (5, .int x5)]) hx hb d_Mo_waits_66 hl (by decide) rfl (fun ls hl => ?_)
    refine lv_iload hx hb d_Mo_waits_68 (lv_at hl 0 rfl) ?_
    refine lv_iload hx hb d_Mo_waits_70 (lv_at hl 5 rfl) ?_
    refine lv_icmp_le (tgt := 80) hx hb d_Mo_waits_72 (by decide) (fun c72 => ?_) (fun c72 => ?_)
    · have hlit := brP _ hlit c72
      refine lv_iload_n hx hb d_Mo_waits_80 rfl (lv_at hl 4 rfl) ?_
      exact b81 (k35) hk35 x4 x5 s0 x3 _ _ _ hlit hP hS (lv_sub hl [1, 2, 3, 5, 6, 0] rfl)
    · have hlit := brN _ hlit c72
      refine lv_iload hx hb d_Mo_waits_75 (lv_at hl 6 rfl) ?_
      refine lv_goto (tgt := 81) hx hb d_Mo_waits_77 (by decide) ?_
      exact b81 (k35) hk35 x4 x5 s0 x5 _ _ _ hlit hP hS (lv_sub hl [1, 2, 3, 5, 6, 0] rfl)
  have b35 : ∀ (n : Nat), ∀ (x3 : Int32) (x4 : Int32) (x5 : Int32) (H : Heap) (locs : List Loc) (ls : Array Slot), m_Mo_waits_b35 p1 p2 h n x3 x4 x5 = some r0 → va_P E.1 xcl (mV E a h) H → va_S (xA a 10 s.heap.size) s.heap H locs → lv_has ls 7 [(0, .ref (a 0)), (1, .int p1), (2, .int p2), (3, .int x3), (4, .int x4), (5, .int x5)] → W p l e rm_m_Mo_waits s m args below meth c H locs 0 0 Q (F0 m 35 ls []) := by
    intro n
    induction n with
    | zero => intro x3 x4 x5 H locs ls hlit hP hS hl; exact nnF hlit
    | succ n ih =>
      intro x3 x4 x5 H locs ls hlit hP hS hl
      refine lv_iload hx hb d_Mo_waits_35 (lv_at hl 5 rfl) ?_
      refine lv_bipush (v := (100 : Int32)) hx hb d_Mo_waits_37 (by decide) ?_
      refine lv_icmp_ge (tgt := 104) hx hb d_Mo_waits_39 (by decide) (fun c39 => ?_) (fun c39 => ?_)
      · have hlit := brP _ hlit c39
        refine lv_iload_n hx hb d_Mo_waits_104 rfl (lv_at hl 2 rfl) ?_
        refine lv_if_ne (tgt := 112) hx hb d_Mo_waits_105 (by decide) (fun c105 => ?_) (fun c105 => ?_)
        · have hlit := brN _ hlit c105
          refine lv_iload hx hb d_Mo_waits_112 (lv_at hl 4 rfl) ?_
          cases hlit
          exact ret 0 _ _ _ _ trivial hP hS rfl d_Mo_waits_114
        · have hlit := brP _ hlit c105
          refine lv_iload_n hx hb d_Mo_waits_108 rfl (lv_at hl 3 rfl) ?_
          refine lv_goto (tgt := 114) hx hb d_Mo_waits_109 (by decide) ?_
          cases hlit
          exact ret 0 _ _ _ _ trivial hP hS rfl d_Mo_waits_114
      · have hlit := brN _ hlit c39
        refine lv_aload_n hx hb d_Mo_waits_42 rfl (lv_at hl 0 rfl) ?_
        refine lv_iload_n hx hb d_Mo_waits_43 rfl (lv_at hl 1 rfl) ?_
        refine lv_iload hx hb d_Mo_waits_44 (lv_at hl 5 rfl) ?_
        obtain ⟨r46, hl46, hlit⟩ := bindS hlit
        refine fCallI (fRunV (As := [.int p1, .int x5]) (rest := []) (q0 := 0) (ci := 8) hx hb hml hown hts hK hN hP (cm_Mo_canOrder l E a ha h _ p1 x5 (r0 := r46) hl46) q801 q802 q40 q61 q803 hd_m_Mo_canOrder rfl rfl ⟨Nat.le_of_ble_eq_true rfl, Nat.le_of_ble_eq_true rfl⟩ me_0 rfl rfl rfl hl.1 rfl (Nat.le_of_ble_eq_true rfl) d_Mo_waits_46 ⟨Nat.zero_le _, Nat.zero_le _⟩) hS (xA_up hS.1) (fun _ H locs hu46 hP hS _ _ => ?_)
        have hP : va_P E.1 xcl (mV E a h) H := hP
        refine lv_if_eq (tgt := 64) hx hb d_Mo_waits_49 (by decide) (fun c49 => ?_) (fun c49 => ?_)
        · have hlit := brP _ hlit c49
          refine lv_bipush (v := (-4 : Int32)) hx hb d_Mo_waits_64 (by decide) ?_
          exact b66 (m_Mo_waits_b35 p1 p2 h n) ih x3 x4 x5 (-4 : Int32) _ _ _ hlit hP hS (lv_sub hl [0, 1, 2, 3, 4, 5] rfl)
        · have hlit := brN _ hlit c49
          refine lv_aload_n hx hb d_Mo_waits_52 rfl (lv_at hl 0 rfl) ?_
          refine lv_iload_n hx hb d_Mo_waits_53 rfl (lv_at hl 1 rfl) ?_
          refine lv_iload hx hb d_Mo_waits_54 (lv_at hl 5 rfl) ?_
          refine lv_bipush (v := (-4 : Int32)) hx hb d_Mo_waits_56 (by decide) ?_
          obtain ⟨r58, hl58, hlit⟩ := bindS hlit
          refine fCallI (fRunV (As := [.int p1, .int x5, .int (-4 : Int32)]) (rest := []) (q0 := 0) (ci := 8) hx hb hml hown hts hK hN hP (cm_Mo_sumOf l E a ha h _ p1 x5 (-4 : Int32) (r0 := r58) hl58) q775 q776 q38 q61 q777 hd_m_Mo_sumOf rfl rfl ⟨Nat.le_of_ble_eq_true rfl, Nat.le_of_ble_eq_true rfl⟩ me_0 rfl rfl rfl hl.1 rfl (Nat.le_of_ble_eq_true rfl) d_Mo_waits_58 ⟨Nat.zero_le _, Nat.zero_le _⟩) hS (xA_up hS.1) (fun _ H locs hu58 hP hS _ _ => ?_)
          have hP : va_P E.1 xcl (mV E a h) H := hP
          refine lv_goto (tgt := 66) hx hb d_Mo_waits_61 (by decide) ?_
          exact b66 (m_Mo_waits_b35 p1 p2 h n) ih x3 x4 x5 r58 _ _ _ hlit hP hS (lv_sub hl [0, 1, 2, 3, 4, 5] rfl)
  refine lv_aload_n hx hb d_Mo_waits_0 rfl (lv_at hl 0 rfl) ?_
  refine lv_iload_n hx hb d_Mo_waits_1 rfl (lv_at hl 1 rfl) ?_
  obtain ⟨r2, hl2, hlit⟩ := bindS hlit
  refine fCallI (fRunV (As := [.int p1]) (rest := []) (q0 := 0) (ci := 8) hx hb hml hown hts hK hN hP (cm_Mo_isDish l E a ha h _ p1 (r0 := r2) hl2) q772 q773 q37 q61 q774 hd_m_Mo_isDish rfl rfl ⟨Nat.le_of_ble_eq_true rfl, Nat.le_of_ble_eq_true rfl⟩ me_0 rfl rfl rfl hl.1 rfl (Nat.le_of_ble_eq_true rfl) d_Mo_waits_2 ⟨Nat.zero_le _, Nat.zero_le _⟩) hS (xA_up hS.1) (fun _ H locs hu2 hP hS _ _ => ?_)
  have hP : va_P E.1 xcl (mV E a h) H := hP
  refine lv_if_eq (tgt := 18) hx hb d_Mo_waits_5 (by decide) (fun c5 => ?_) (fun c5 => ?_)
  · have hlit := brP _ hlit c5
    refine lv_iconst (v := (-1 : Int32)) hx hb d_Mo_waits_18 (by decide) ?_
    cases hlit
    exact ret 0 _ _ _ _ trivial hP hS rfl d_Mo_waits_19
  · have hlit := brN _ hlit c5
    refine lv_iload_n hx hb d_Mo_waits_8 rfl (lv_at hl 2 rfl) ?_
    refine lv_i2l (v := p2.toInt64) hx hb d_Mo_waits_9 rfl ?_
    refine lv_lconst (v := (0 : Int64)) hx hb d_Mo_waits_10 (by decide) ?_
    refine lv_lconst (v := (1 : Int64)) hx hb d_Mo_waits_11 (by decide) ?_
    obtain ⟨r12, hl12, hlit⟩ := bindS hlit
    refine fCallI (fRunS (As := [.long (p2.toInt64), .long (0 : Int64), .long (1 : Int64)]) (rest := []) hx hb hml hown hts hK hN hP (cm_Mo_in l E a ha h _ (p2.toInt64) (0 : Int64) (1 : Int64) (r0 := r12) hl12) q707 q708 q61 q709 hd_m_Mo_in rfl rfl ⟨Nat.le_of_ble_eq_true rfl, Nat.le_of_ble_eq_true rfl⟩ rfl hl.1 rfl (Nat.le_of_ble_eq_true rfl) d_Mo_waits_12 ⟨Nat.zero_le _, Nat.zero_le _⟩) hS (xA_up hS.1) (fun _ H locs hu12 hP hS _ _ => ?_)
    have hP : va_P E.1 xcl (mV E a h) H := hP
    refine lv_if_ne (tgt := 20) hx hb d_Mo_waits_15 (by decide) (fun c15 => ?_) (fun c15 => ?_)
    · have hlit := brN _ hlit c15
      refine lv_bipush (v := (-4 : Int32)) hx hb d_Mo_waits_20 (by decide) ?_
      refine lv_istore_n (lv' := [(3, .int (-4 : Int32)), (0, .ref (a 0)), (1, .int p1), (2, .int p2)]) hx hb d_Mo_waits_22 rfl hl (by decide) rfl (fun ls hl => ?_)
      refine lv_bipush (v := (-4 : Int32)) hx hb d_Mo_waits_23 (by decide) ?_
      refine lv_istore (lv' := [(4, .int (-4 : Int32)), (3, .int (-4 : Int32)), (0, .ref (a 0)), (1, .int p1), (2, .int p2)]) hx hb d_Mo_waits_25 hl (by decide) rfl (fun ls hl => ?_)
      refine lv_aload_n hx hb d_Mo_waits_27 rfl (lv_at hl 2 rfl) ?_
      refine mg_Mo_5 hx hb hts hown hK hP q676 d_Mo_waits_28 ?_
      refine lv_iconst (v := (0 : Int32)) hx hb d_Mo_waits_31 (by decide) ?_
      refine mald4 hx hb hK hP (j := 0) rfl (vpin_c (by decide)) d_Mo_waits_32 ?_
      obtain ⟨y33, ey33, hlit⟩ := bindS hlit
      refine topn ey33 ?_
      refine lv_istore (lv' := [(5, .int y33), (4, .int (-4 : Int32)), (3, .int (-4 : Int32)), (0, .ref (a 0)), (1, .int p1), (2, .int p2)]) hx hb d_Mo_waits_33 hl (by decide) rfl (fun ls hl => ?_)
      exact b35 FU (-4 : Int32) (-4 : Int32) y33 _ _ _ hlit hP hS (lv_sub hl [3, 4, 5, 2, 1, 0] rfl)
    · have hlit := brP _ hlit c15
      refine lv_iconst (v := (-1 : Int32)) hx hb d_Mo_waits_18 (by decide) ?_
      cases hlit
      exact ret 0 _ _ _ _ trivial hP hS rfl d_Mo_waits_19

abbrev rm_m_Mo_heard : Room := { frames := 2, cells := 0, slots := 0, locals := 46 }
theorem hd_m_Mo_heard : y_Mo_heard.cls ≠ "java/lang/invoke/MethodHandle" ∧ y_Mo_heard.cls ≠ "java/lang/invoke/VarHandle" ∧ (parseMethodDescriptor y_Mo_heard.desc).map (fun d => d.parameters.length) = some 3 := by decide +kernel
set_option maxHeartbeats 4000000 in
set_option maxRecDepth 100000 in
theorem cm_Mo_heard (l : Launch) (E : mE) (a : Nat → Nat) (ha : xInj a 10) (h : Hp) (sz : Nat) (p1 : Int32) (p2 : Int32) (p3 : Int32) {r0 : Int32} {h9 : Hp} (hlit : m_Mo_heard p1 p2 p3 h = some (r0, h9)) : Met l y_Mo_heard (Cond.code y_Mo_heard b_Mo_heard 4 (some .int) :: TB) rm_m_Mo_heard (fPc [.ref (a 0), .int p1, .int p2, .int p3] E.1 (mtys E) sz (mV E a h)) (fQi (fun _ : Nat => True) r0 E.1 (fun (_ : Nat) => mV E a h9) (xA a 10 sz)) 0 0 (xA a 10 sz) := by
  refine fl_startI (by decide) (Nat.le_of_ble_eq_true rfl) ?_
  intro p e s m args below meth c Q hx hb hml hown hts hsz hP hK hN ret ls hl
  subst hsz
  have hA : ∀ k, k < 10 → (xA a 10 s.heap.size) (a k) := xA_in
  have hS : va_S (xA a 10 s.heap.size) s.heap s.heap [] := va_S.rf
  have hl : lv_has ls 4 [(0, .ref (a 0)), (1, .int p1), (2, .int p2), (3, .int p3)] := hl
  refine lv_aload_n hx hb d_Mo_heard_0 rfl (lv_at hl 0 rfl) ?_
  refine lv_iload_n hx hb d_Mo_heard_1 rfl (lv_at hl 1 rfl) ?_
  obtain ⟨r2, hl2, hlit⟩ := bindS hlit
  refine fCallI (fRunV (As := [.int p1]) (rest := []) (q0 := 0) (ci := 8) hx hb hml hown hts hK hN hP (cm_Mo_isGuest l E a ha h _ p1 (r0 := r2) hl2) q750 q751 q32 q61 q752 hd_m_Mo_isGuest rfl rfl ⟨Nat.le_of_ble_eq_true rfl, Nat.le_of_ble_eq_true rfl⟩ me_0 rfl rfl rfl hl.1 rfl (Nat.le_of_ble_eq_true rfl) d_Mo_heard_2 ⟨Nat.zero_le _, Nat.zero_le _⟩) hS (xA_up hS.1) (fun _ H locs hu2 hP hS _ _ => ?_)
  have hP : va_P E.1 xcl (mV E a h) H := hP
  refine lv_if_eq (tgt := 26) hx hb d_Mo_heard_5 (by decide) (fun c5 => ?_) (fun c5 => ?_)
  · have hlit := brP _ hlit c5
    refine lv_iconst (v := (-1 : Int32)) hx hb d_Mo_heard_26 (by decide) ?_
    cases hlit
    exact ret 0 _ _ _ _ trivial hP hS rfl d_Mo_heard_27
  · have hlit := brN _ hlit c5
    refine lv_aload_n hx hb d_Mo_heard_8 rfl (lv_at hl 0 rfl) ?_
    refine lv_iload_n hx hb d_Mo_heard_9 rfl (lv_at hl 2 rfl) ?_
    obtain ⟨r10, hl10, hlit⟩ := bindS hlit
    refine fCallI (fRunV (As := [.int p2]) (rest := []) (q0 := 0) (ci := 8) hx hb hml hown hts hK hN hP (cm_Mo_isDish l E a ha h _ p2 (r0 := r10) hl10) q772 q773 q37 q61 q774 hd_m_Mo_isDish rfl rfl ⟨Nat.le_of_ble_eq_true rfl, Nat.le_of_ble_eq_true rfl⟩ me_0 rfl rfl rfl hl.1 rfl (Nat.le_of_ble_eq_true rfl) d_Mo_heard_10 ⟨Nat.zero_le _, Nat.zero_le _⟩) hS (xA_up hS.1) (fun _ H locs hu10 hP hS _ _ => ?_)
    have hP : va_P E.1 xcl (mV E a h) H := hP
    refine lv_if_eq (tgt := 26) hx hb d_Mo_heard_13 (by decide) (fun c13 => ?_) (fun c13 => ?_)
    · have hlit := brP _ hlit c13
      refine lv_iconst (v := (-1 : Int32)) hx hb d_Mo_heard_26 (by decide) ?_
      cases hlit
      exact ret 0 _ _ _ _ trivial hP hS rfl d_Mo_heard_27
    · have hlit := brN _ hlit c13
      refine lv_iload_n hx hb d_Mo_heard_16 rfl (lv_at hl 3 rfl) ?_
      refine lv_i2l (v := p3.toInt64) hx hb d_Mo_heard_17 rfl ?_
      refine lv_lconst (v := (0 : Int64)) hx hb d_Mo_heard_18 (by decide) ?_
      refine lv_lconst (v := (1 : Int64)) hx hb d_Mo_heard_19 (by decide) ?_
      obtain ⟨r20, hl20, hlit⟩ := bindS hlit
      refine fCallI (fRunS (As := [.long (p3.toInt64), .long (0 : Int64), .long (1 : Int64)]) (rest := []) hx hb hml hown hts hK hN hP (cm_Mo_in l E a ha h _ (p3.toInt64) (0 : Int64) (1 : Int64) (r0 := r20) hl20) q707 q708 q61 q709 hd_m_Mo_in rfl rfl ⟨Nat.le_of_ble_eq_true rfl, Nat.le_of_ble_eq_true rfl⟩ rfl hl.1 rfl (Nat.le_of_ble_eq_true rfl) d_Mo_heard_20 ⟨Nat.zero_le _, Nat.zero_le _⟩) hS (xA_up hS.1) (fun _ H locs hu20 hP hS _ _ => ?_)
      have hP : va_P E.1 xcl (mV E a h) H := hP
      refine lv_if_ne (tgt := 28) hx hb d_Mo_heard_23 (by decide) (fun c23 => ?_) (fun c23 => ?_)
      · have hlit := brN _ hlit c23
        refine lv_aload_n hx hb d_Mo_heard_28 rfl (lv_at hl 0 rfl) ?_
        refine mg_Mo_11 hx hb hts hown hK hP q682 d_Mo_heard_29 ?_
        refine lv_bipush (v := (8 : Int32)) hx hb d_Mo_heard_32 (by decide) ?_
        refine lv_icmp_ne (tgt := 40) hx hb d_Mo_heard_34 (by decide) (fun c34 => ?_) (fun c34 => ?_)
        · have hlit := brN _ hlit c34
          refine lv_aload_n hx hb d_Mo_heard_40 rfl (lv_at hl 0 rfl) ?_
          refine mg_Mo_10 hx hb hts hown hK hP q681 d_Mo_heard_41 ?_
          refine lv_iconst (v := (5 : Int32)) hx hb d_Mo_heard_44 (by decide) ?_
          refine lv_aload_n hx hb d_Mo_heard_45 rfl (lv_at hl 0 rfl) ?_
          refine mg_Mo_11 hx hb hts hown hK hP q682 d_Mo_heard_46 ?_
          refine lv_imul hx hb d_Mo_heard_49 ?_
          refine lv_iload_n hx hb d_Mo_heard_50 rfl (lv_at hl 1 rfl) ?_
          obtain ⟨g51, hlit⟩ := gdP _ hlit
          refine mast7 hx hb hK hP ha hA hS (j := (((5 : Int32) * (h 0 11))).toNatClampNeg) rfl (vpin_c g51) d_Mo_heard_51 (fun H locs hP hS => ?_)
          obtain ⟨h_51, eh_51, hlit⟩ := bindS hlit
          rw [Option.some.inj eh_51] at hP
          refine lv_aload_n hx hb d_Mo_heard_52 rfl (lv_at hl 0 rfl) ?_
          refine mg_Mo_10 hx hb hts hown hK hP q681 d_Mo_heard_53 ?_
          refine lv_iconst (v := (5 : Int32)) hx hb d_Mo_heard_56 (by decide) ?_
          refine lv_aload_n hx hb d_Mo_heard_57 rfl (lv_at hl 0 rfl) ?_
          refine mg_Mo_11 hx hb hts hown hK hP q682 d_Mo_heard_58 ?_
          refine lv_imul hx hb d_Mo_heard_61 ?_
          refine lv_iconst (v := (1 : Int32)) hx hb d_Mo_heard_62 (by decide) ?_
          refine lv_iadd hx hb d_Mo_heard_63 ?_
          refine lv_iload_n hx hb d_Mo_heard_64 rfl (lv_at hl 2 rfl) ?_
          obtain ⟨g65, hlit⟩ := gdP _ hlit
          refine mast7 hx hb hK hP ha hA hS (j := ((((5 : Int32) * (h_51 0 11)) + (1 : Int32))).toNatClampNeg) rfl (vpin_c g65) d_Mo_heard_65 (fun H locs hP hS => ?_)
          obtain ⟨h_65, eh_65, hlit⟩ := bindS hlit
          rw [Option.some.inj eh_65] at hP
          refine lv_aload_n hx hb d_Mo_heard_66 rfl (lv_at hl 0 rfl) ?_
          refine mg_Mo_10 hx hb hts hown hK hP q681 d_Mo_heard_67 ?_
          refine lv_iconst (v := (5 : Int32)) hx hb d_Mo_heard_70 (by decide) ?_
          refine lv_aload_n hx hb d_Mo_heard_71 rfl (lv_at hl 0 rfl) ?_
          refine mg_Mo_11 hx hb hts hown hK hP q682 d_Mo_heard_72 ?_
          refine lv_imul hx hb d_Mo_heard_75 ?_
          refine lv_iconst (v := (2 : Int32)) hx hb d_Mo_heard_76 (by decide) ?_
          refine lv_iadd hx hb d_Mo_heard_77 ?_
          refine lv_iload_n hx hb d_Mo_heard_78 rfl (lv_at hl 3 rfl) ?_
          obtain ⟨g79, hlit⟩ := gdP _ hlit
          refine mast7 hx hb hK hP ha hA hS (j := ((((5 : Int32) * (h_65 0 11)) + (2 : Int32))).toNatClampNeg) rfl (vpin_c g79) d_Mo_heard_79 (fun H locs hP hS => ?_)
          obtain ⟨h_79, eh_79, hlit⟩ := bindS hlit
          rw [Option.some.inj eh_79] at hP
          refine lv_aload_n hx hb d_Mo_heard_80 rfl (lv_at hl 0 rfl) ?_
          refine mg_Mo_10 hx hb hts hown hK hP q681 d_Mo_heard_81 ?_
          refine lv_iconst (v := (5 : Int32)) hx hb d_Mo_heard_84 (by decide) ?_
          refine lv_aload_n hx hb d_Mo_heard_85 rfl (lv_at hl 0 rfl) ?_
          refine mg_Mo_11 hx hb hts hown hK hP q682 d_Mo_heard_86 ?_
          refine lv_imul hx hb d_Mo_heard_89 ?_
          refine lv_iconst (v := (3 : Int32)) hx hb d_Mo_heard_90 (by decide) ?_
          refine lv_iadd hx hb d_Mo_heard_91 ?_
          refine lv_aload_n hx hb d_Mo_heard_92 rfl (lv_at hl 0 rfl) ?_
          refine mg_Mo_5 hx hb hts hown hK hP q676 d_Mo_heard_93 ?_
          refine lv_iconst (v := (0 : Int32)) hx hb d_Mo_heard_96 (by decide) ?_
          refine mald4 hx hb hK hP (j := 0) rfl (vpin_c (by decide)) d_Mo_heard_97 ?_
          obtain ⟨g98, hlit⟩ := gdP _ hlit
          refine mast7 hx hb hK hP ha hA hS (j := ((((5 : Int32) * (h_79 0 11)) + (3 : Int32))).toNatClampNeg) rfl (vpin_c g98) d_Mo_heard_98 (fun H locs hP hS => ?_)
          obtain ⟨h_98, eh_98, hlit⟩ := bindS hlit
          rw [Option.some.inj eh_98] at hP
          refine lv_aload_n hx hb d_Mo_heard_99 rfl (lv_at hl 0 rfl) ?_
          refine mg_Mo_10 hx hb hts hown hK hP q681 d_Mo_heard_100 ?_
          refine lv_iconst (v := (5 : Int32)) hx hb d_Mo_heard_103 (by decide) ?_
          refine lv_aload_n hx hb d_Mo_heard_104 rfl (lv_at hl 0 rfl) ?_
          refine mg_Mo_11 hx hb hts hown hK hP q682 d_Mo_heard_105 ?_
          refine lv_imul hx hb d_Mo_heard_108 ?_
          refine lv_iconst (v := (4 : Int32)) hx hb d_Mo_heard_109 (by decide) ?_
          refine lv_iadd hx hb d_Mo_heard_110 ?_
          refine lv_aload_n hx hb d_Mo_heard_111 rfl (lv_at hl 0 rfl) ?_
          refine mg_Mo_5 hx hb hts hown hK hP q676 d_Mo_heard_112 ?_
          refine lv_iconst (v := (1 : Int32)) hx hb d_Mo_heard_115 (by decide) ?_
          refine mald4 hx hb hK hP (j := 1) rfl (vpin_c (by decide)) d_Mo_heard_116 ?_
          obtain ⟨g117, hlit⟩ := gdP _ hlit
          refine mast7 hx hb hK hP ha hA hS (j := ((((5 : Int32) * (h_98 0 11)) + (4 : Int32))).toNatClampNeg) rfl (vpin_c g117) d_Mo_heard_117 (fun H locs hP hS => ?_)
          obtain ⟨h_117, eh_117, hlit⟩ := bindS hlit
          rw [Option.some.inj eh_117] at hP
          refine lv_aload_n hx hb d_Mo_heard_118 rfl (lv_at hl 0 rfl) ?_
          refine lv_dup hx hb d_Mo_heard_119 rfl ?_
          refine mg_Mo_11 hx hb hts hown hK hP q682 d_Mo_heard_120 ?_
          refine lv_iconst (v := (1 : Int32)) hx hb d_Mo_heard_123 (by decide) ?_
          refine lv_iadd hx hb d_Mo_heard_124 ?_
          refine mp_Mo_11 hx hb hts hown hK hP ha hA hS q682 d_Mo_heard_125 (fun H locs hP hS => ?_)
          obtain ⟨h_125, eh_125, hlit⟩ := bindS hlit
          rw [Option.some.inj eh_125] at hP
          refine lv_aload_n hx hb d_Mo_heard_128 rfl (lv_at hl 0 rfl) ?_
          refine mg_Mo_11 hx hb hts hown hK hP q682 d_Mo_heard_129 ?_
          cases hlit
          exact ret 0 _ _ _ _ trivial hP hS rfl d_Mo_heard_132
        · have hlit := brP _ hlit c34
          refine lv_bipush (v := (-3 : Int32)) hx hb d_Mo_heard_37 (by decide) ?_
          cases hlit
          exact ret 0 _ _ _ _ trivial hP hS rfl d_Mo_heard_39
      · have hlit := brP _ hlit c23
        refine lv_iconst (v := (-1 : Int32)) hx hb d_Mo_heard_26 (by decide) ?_
        cases hlit
        exact ret 0 _ _ _ _ trivial hP hS rfl d_Mo_heard_27

abbrev rm_m_Mo_forget : Room := { frames := 0, cells := 0, slots := 0, locals := 0 }
theorem hd_m_Mo_forget : y_Mo_forget.cls ≠ "java/lang/invoke/MethodHandle" ∧ y_Mo_forget.cls ≠ "java/lang/invoke/VarHandle" ∧ (parseMethodDescriptor y_Mo_forget.desc).map (fun d => d.parameters.length) = some 0 := by decide +kernel
set_option maxHeartbeats 4000000 in
set_option maxRecDepth 100000 in
theorem cm_Mo_forget (l : Launch) (E : mE) (a : Nat → Nat) (ha : xInj a 10) (h : Hp) (sz : Nat) {r0 : Int32} {h9 : Hp} (hlit : m_Mo_forget h = some (r0, h9)) : Met l y_Mo_forget (Cond.code y_Mo_forget b_Mo_forget 2 (some .int) :: TB) rm_m_Mo_forget (fPc [.ref (a 0)] E.1 (mtys E) sz (mV E a h)) (fQi (fun _ : Nat => True) r0 E.1 (fun (_ : Nat) => mV E a h9) (xA a 10 sz)) 0 0 (xA a 10 sz) := by
  refine fl_startI (by decide) (Nat.le_of_ble_eq_true rfl) ?_
  intro p e s m args below meth c Q hx hb hml hown hts hsz hP hK hN ret ls hl
  subst hsz
  have hA : ∀ k, k < 10 → (xA a 10 s.heap.size) (a k) := xA_in
  have hS : va_S (xA a 10 s.heap.size) s.heap s.heap [] := va_S.rf
  have hl : lv_has ls 2 [(0, .ref (a 0))] := hl
  refine lv_aload_n hx hb d_Mo_forget_0 rfl (lv_at hl 0 rfl) ?_
  refine mg_Mo_11 hx hb hts hown hK hP q682 d_Mo_forget_1 ?_
  obtain ⟨y4, ey4, hlit⟩ := bindS hlit
  refine topn ey4 ?_
  refine lv_istore_n (lv' := [(1, .int y4), (0, .ref (a 0))]) hx hb d_Mo_forget_4 rfl hl (by decide) rfl (fun ls hl => ?_)
  refine lv_aload_n hx hb d_Mo_forget_5 rfl (lv_at hl 1 rfl) ?_
  refine lv_iconst (v := (0 : Int32)) hx hb d_Mo_forget_6 (by decide) ?_
  refine mp_Mo_11 hx hb hts hown hK hP ha hA hS q682 d_Mo_forget_7 (fun H locs hP hS => ?_)
  obtain ⟨h_7, eh_7, hlit⟩ := bindS hlit
  rw [Option.some.inj eh_7] at hP
  refine lv_iload_n hx hb d_Mo_forget_10 rfl (lv_at hl 0 rfl) ?_
  cases hlit
  exact ret 0 _ _ _ _ trivial hP hS rfl d_Mo_forget_11

abbrev rm_m_Mo_may : Room := { frames := 3, cells := 0, slots := 0, locals := 76 }
theorem hd_m_Mo_may : y_Mo_may.cls ≠ "java/lang/invoke/MethodHandle" ∧ y_Mo_may.cls ≠ "java/lang/invoke/VarHandle" ∧ (parseMethodDescriptor y_Mo_may.desc).map (fun d => d.parameters.length) = some 1 := by decide +kernel
set_option maxHeartbeats 4000000 in
set_option maxRecDepth 100000 in
theorem cm_Mo_may (l : Launch) (E : mE) (a : Nat → Nat) (ha : xInj a 10) (h : Hp) (sz : Nat) (p1 : Int32) {r0 : Int32} (hlit : m_Mo_may p1 h = some r0) : Met l y_Mo_may (Cond.code y_Mo_may b_Mo_may 7 (some .int) :: TB) rm_m_Mo_may (fPc [.ref (a 0), .int p1] E.1 (mtys E) sz (mV E a h)) (fQi (fun _ : Nat => True) r0 E.1 (fun (_ : Nat) => mV E a h) (xA a 10 sz)) 0 0 (xA a 10 sz) := by
  refine fl_startI (by decide) (Nat.le_of_ble_eq_true rfl) ?_
  intro p e s m args below meth c Q hx hb hml hown hts hsz hP hK hN ret ls hl
  subst hsz
  have hA : ∀ k, k < 10 → (xA a 10 s.heap.size) (a k) := xA_in
  have hS : va_S (xA a 10 s.heap.size) s.heap s.heap [] := va_S.rf
  have hl : lv_has ls 7 [(0, .ref (a 0)), (1, .int p1)] := hl
  have b25 : ∀ (k14 : Int32 → Int32 → Option Int32), (∀ (x2 : Int32) (x3 : Int32) (H : Heap) (locs : List Loc) (ls : Array Slot), k14 x2 x3 = some r0 → va_P E.1 xcl (mV E a h) H → va_S (xA a 10 s.heap.size) s.heap H locs → lv_has ls 7 [(0, .ref (a 0)), (1, .int p1), (2, .int x2), (3, .int x3)] → W p l e rm_m_Mo_may s m args below meth c H locs 0 0 Q (F0 m 14 ls [])) → ∀ (n : Nat), ∀ (x2 : Int32) (x3 : Int32) (x4 : Int32) (x5 : Int32) (H : Heap) (locs : List Loc) (ls : Array Slot), m_Mo_may_b25 k14 p1 h n x2 x3 x4 x5 = some r0 → va_P E.1 xcl (mV E a h) H → va_S (xA a 10 s.heap.size) s.heap H locs → lv_has ls 7 [(0, .ref (a 0)), (1, .int p1), (2, .int x2), (3, .int x3), (4, .int x4), (5, .int x5)] → W p l e rm_m_Mo_may s m args below meth c H locs 0 0 Q (F0 m 25 ls []) := by
    intro k14 hk14 n
    induction n with
    | zero => intro x2 x3 x4 x5 H locs ls hlit hP hS hl; exact nnF hlit
    | succ n ih =>
      intro x2 x3 x4 x5 H locs ls hlit hP hS hl
      refine lv_iload hx hb d_Mo_may_25 (lv_at hl 5 rfl) ?_
      refine lv_aload_n hx hb d_Mo_may_27 rfl (lv_at hl 0 rfl) ?_
      refine mg_Mo_11 hx hb hts hown hK hP q682 d_Mo_may_28 ?_
      refine lv_icmp_ge (tgt := 131) hx hb d_Mo_may_31 (by decide) (fun c31 => ?_) (fun c31 => ?_)
      · have hlit := brP _ hlit c31
        refine lv_iload_n hx hb d_Mo_may_131 rfl (lv_at hl 2 rfl) ?_
        refine lv_iload hx hb d_Mo_may_132 (lv_at hl 4 rfl) ?_
        refine lv_if_eq (tgt := 143) hx hb d_Mo_may_134 (by decide) (fun c134 => ?_) (fun c134 => ?_)
        · have hlit := brP _ hlit c134
          refine lv_iconst (v := (0 : Int32)) hx hb d_Mo_may_143 (by decide) ?_
          refine lv_ior hx hb d_Mo_may_144 ?_
          obtain ⟨y145, ey145, hlit⟩ := bindS hlit
          refine topn ey145 ?_
          refine lv_istore_n (lv' := [(2, .int y145), (0, .ref (a 0)), (1, .int p1), (3, .int x3), (4, .int x4), (5, .int x5)]) hx hb d_Mo_may_145 rfl hl (by decide) rfl (fun ls hl => ?_)
          refine lv_iinc (v := (x3 + (1 : Int32))) (lv' := [(3, .int (x3 + (1 : Int32))), (2, .int y145), (0, .ref (a 0)), (1, .int p1), (4, .int x4), (5, .int x5)]) hx hb d_Mo_may_146 hl (k := 3) rfl rfl (by decide) rfl (fun ls hl => ?_)
          refine lv_goto (tgt := 14) hx hb d_Mo_may_149 (by decide) ?_
          exact hk14 y145 (x3 + (1 : Int32)) _ _ _ hlit hP hS (lv_sub hl [2, 3, 1, 0] rfl)
        · have hlit := brN _ hlit c134
          refine lv_iconst (v := (1 : Int32)) hx hb d_Mo_may_137 (by decide) ?_
          refine lv_iload_n hx hb d_Mo_may_138 rfl (lv_at hl 3 rfl) ?_
          refine lv_ishl hx hb d_Mo_may_139 ?_
          refine lv_goto (tgt := 144) hx hb d_Mo_may_140 (by decide) ?_
          refine lv_ior hx hb d_Mo_may_144 ?_
          obtain ⟨y145, ey145, hlit⟩ := bindS hlit
          refine topn ey145 ?_
          refine lv_istore_n (lv' := [(2, .int y145), (0, .ref (a 0)), (1, .int p1), (3, .int x3), (4, .int x4), (5, .int x5)]) hx hb d_Mo_may_145 rfl hl (by decide) rfl (fun ls hl => ?_)
          refine lv_iinc (v := (x3 + (1 : Int32))) (lv' := [(3, .int (x3 + (1 : Int32))), (2, .int y145), (0, .ref (a 0)), (1, .int p1), (4, .int x4), (5, .int x5)]) hx hb d_Mo_may_146 hl (k := 3) rfl rfl (by decide) rfl (fun ls hl => ?_)
          refine lv_goto (tgt := 14) hx hb d_Mo_may_149 (by decide) ?_
          exact hk14 y145 (x3 + (1 : Int32)) _ _ _ hlit hP hS (lv_sub hl [2, 3, 1, 0] rfl)
      · have hlit := brN _ hlit c31
        refine lv_aload_n hx hb d_Mo_may_34 rfl (lv_at hl 0 rfl) ?_
        refine lv_iload_n hx hb d_Mo_may_35 rfl (lv_at hl 3 rfl) ?_
        refine lv_iload_n hx hb d_Mo_may_36 rfl (lv_at hl 1 rfl) ?_
        refine lv_aload_n hx hb d_Mo_may_37 rfl (lv_at hl 0 rfl) ?_
        refine mg_Mo_10 hx hb hts hown hK hP q681 d_Mo_may_38 ?_
        refine lv_iconst (v := (5 : Int32)) hx hb d_Mo_may_41 (by decide) ?_
        refine lv_iload hx hb d_Mo_may_42 (lv_at hl 5 rfl) ?_
        refine lv_imul hx hb d_Mo_may_44 ?_
        refine lv_iconst (v := (1 : Int32)) hx hb d_Mo_may_45 (by decide) ?_
        refine lv_iadd hx hb d_Mo_may_46 ?_
        obtain ⟨g47, hlit⟩ := gdP _ hlit
        refine mald7 hx hb hK hP (j := ((((5 : Int32) * x5) + (1 : Int32))).toNatClampNeg) rfl (vpin_c g47) d_Mo_may_47 ?_
        refine lv_aload_n hx hb d_Mo_may_48 rfl (lv_at hl 0 rfl) ?_
        refine mg_Mo_10 hx hb hts hown hK hP q681 d_Mo_may_49 ?_
        refine lv_iconst (v := (5 : Int32)) hx hb d_Mo_may_52 (by decide) ?_
        refine lv_iload hx hb d_Mo_may_53 (lv_at hl 5 rfl) ?_
        refine lv_imul hx hb d_Mo_may_55 ?_
        refine lv_iconst (v := (3 : Int32)) hx hb d_Mo_may_56 (by decide) ?_
        refine lv_iadd hx hb d_Mo_may_57 ?_
        obtain ⟨g58, hlit⟩ := gdP _ hlit
        refine mald7 hx hb hK hP (j := ((((5 : Int32) * x5) + (3 : Int32))).toNatClampNeg) rfl (vpin_c g58) d_Mo_may_58 ?_
        refine lv_aload_n hx hb d_Mo_may_59 rfl (lv_at hl 0 rfl) ?_
        refine mg_Mo_10 hx hb hts hown hK hP q681 d_Mo_may_60 ?_
        refine lv_iconst (v := (5 : Int32)) hx hb d_Mo_may_63 (by decide) ?_
        refine lv_iload hx hb d_Mo_may_64 (lv_at hl 5 rfl) ?_
        refine lv_imul hx hb d_Mo_may_66 ?_
        refine lv_iconst (v := (4 : Int32)) hx hb d_Mo_may_67 (by decide) ?_
        refine lv_iadd hx hb d_Mo_may_68 ?_
        obtain ⟨g69, hlit⟩ := gdP _ hlit
        refine mald7 hx hb hK hP (j := ((((5 : Int32) * x5) + (4 : Int32))).toNatClampNeg) rfl (vpin_c g69) d_Mo_may_69 ?_
        obtain ⟨r70, hl70, hlit⟩ := bindS hlit
        refine fCallI (fRunV (As := [.int x3, .int p1, .int (h 7 (((((5 : Int32) * x5) + (1 : Int32))).toNatClampNeg)), .int (h 7 (((((5 : Int32) * x5) + (3 : Int32))).toNatClampNeg)), .int (h 7 (((((5 : Int32) * x5) + (4 : Int32))).toNatClampNeg))]) (rest := []) (q0 := 0) (ci := 8) hx hb hml hown hts hK hN hP (cm_Mo_hasHeart l E a ha h _ x3 p1 (h 7 (((((5 : Int32) * x5) + (1 : Int32))).toNatClampNeg)) (h 7 (((((5 : Int32) * x5) + (3 : Int32))).toNatClampNeg)) (h 7 (((((5 : Int32) * x5) + (4 : Int32))).toNatClampNeg)) (r0 := r70) hl70) q753 q754 q33 q61 q755 hd_m_Mo_hasHeart rfl rfl ⟨Nat.le_of_ble_eq_true rfl, Nat.le_of_ble_eq_true rfl⟩ me_0 rfl rfl rfl hl.1 rfl (Nat.le_of_ble_eq_true rfl) d_Mo_may_70 ⟨Nat.zero_le _, Nat.zero_le _⟩) hS (xA_up hS.1) (fun _ H locs hu70 hP hS _ _ => ?_)
        have hP : va_P E.1 xcl (mV E a h) H := hP
        refine lv_istore (lv' := [(6, .int r70), (0, .ref (a 0)), (1, .int p1), (2, .int x2), (3, .int x3), (4, .int x4), (5, .int x5)]) hx hb d_Mo_may_73 hl (by decide) rfl (fun ls hl => ?_)
        refine lv_iload hx hb d_Mo_may_75 (lv_at hl 5 rfl) ?_
        refine lv_if_eq (tgt := 122) hx hb d_Mo_may_77 (by decide) (fun c77 => ?_) (fun c77 => ?_)
        · have hlit := brP _ hlit c77
          refine lv_iconst (v := (0 : Int32)) hx hb d_Mo_may_122 (by decide) ?_
          refine lv_istore (lv' := [(4, .int (0 : Int32)), (6, .int r70), (0, .ref (a 0)), (1, .int p1), (2, .int x2), (3, .int x3), (5, .int x5)]) hx hb d_Mo_may_123 hl (by decide) rfl (fun ls hl => ?_)
          refine lv_iinc (v := (x5 + (1 : Int32))) (lv' := [(5, .int (x5 + (1 : Int32))), (4, .int (0 : Int32)), (6, .int r70), (0, .ref (a 0)), (1, .int p1), (2, .int x2), (3, .int x3)]) hx hb d_Mo_may_125 hl (k := 6) rfl rfl (by decide) rfl (fun ls hl => ?_)
          refine lv_goto (tgt := 25) hx hb d_Mo_may_128 (by decide) ?_
          exact ih x2 x3 (0 : Int32) (x5 + (1 : Int32)) _ _ _ hlit hP hS (lv_sub hl [3, 4, 5, 6, 1, 0] rfl)
        · have hlit := brN _ hlit c77
          refine lv_aload_n hx hb d_Mo_may_80 rfl (lv_at hl 1 rfl) ?_
          refine mg_Mo_10 hx hb hts hown hK hP q681 d_Mo_may_81 ?_
          refine lv_iconst (v := (5 : Int32)) hx hb d_Mo_may_84 (by decide) ?_
          refine lv_iload hx hb d_Mo_may_85 (lv_at hl 6 rfl) ?_
          refine lv_imul hx hb d_Mo_may_87 ?_
          obtain ⟨g88, hlit⟩ := gdP _ hlit
          refine mald7 hx hb hK hP (j := (((5 : Int32) * x5)).toNatClampNeg) rfl (vpin_c g88) d_Mo_may_88 ?_
          refine lv_iload_n hx hb d_Mo_may_89 rfl (lv_at hl 2 rfl) ?_
          refine lv_icmp_ne (tgt := 118) hx hb d_Mo_may_90 (by decide) (fun c90 => ?_) (fun c90 => ?_)
          · have hlit := brN _ hlit c90
            refine lv_iconst (v := (1 : Int32)) hx hb d_Mo_may_118 (by decide) ?_
            refine lv_goto (tgt := 123) hx hb d_Mo_may_119 (by decide) ?_
            refine lv_istore (lv' := [(4, .int (1 : Int32)), (6, .int r70), (0, .ref (a 0)), (1, .int p1), (2, .int x2), (3, .int x3), (5, .int x5)]) hx hb d_Mo_may_123 hl (by decide) rfl (fun ls hl => ?_)
            refine lv_iinc (v := (x5 + (1 : Int32))) (lv' := [(5, .int (x5 + (1 : Int32))), (4, .int (1 : Int32)), (6, .int r70), (0, .ref (a 0)), (1, .int p1), (2, .int x2), (3, .int x3)]) hx hb d_Mo_may_125 hl (k := 6) rfl rfl (by decide) rfl (fun ls hl => ?_)
            refine lv_goto (tgt := 25) hx hb d_Mo_may_128 (by decide) ?_
            exact ih x2 x3 (1 : Int32) (x5 + (1 : Int32)) _ _ _ hlit hP hS (lv_sub hl [3, 4, 5, 6, 1, 0] rfl)
          · have hlit := brP _ hlit c90
            refine lv_iload hx hb d_Mo_may_93 (lv_at hl 0 rfl) ?_
            refine lv_aload_n hx hb d_Mo_may_95 rfl (lv_at hl 1 rfl) ?_
            refine mg_Mo_10 hx hb hts hown hK hP q681 d_Mo_may_96 ?_
            refine lv_iconst (v := (5 : Int32)) hx hb d_Mo_may_99 (by decide) ?_
            refine lv_iload hx hb d_Mo_may_100 (lv_at hl 6 rfl) ?_
            refine lv_imul hx hb d_Mo_may_102 ?_
            refine lv_iconst (v := (2 : Int32)) hx hb d_Mo_may_103 (by decide) ?_
            refine lv_iadd hx hb d_Mo_may_104 ?_
            obtain ⟨g105, hlit⟩ := gdP _ hlit
            refine mald7 hx hb hK hP (j := ((((5 : Int32) * x5) + (2 : Int32))).toNatClampNeg) rfl (vpin_c g105) d_Mo_may_105 ?_
            refine lv_iconst (v := (1 : Int32)) hx hb d_Mo_may_106 (by decide) ?_
            refine lv_icmp_ne (tgt := 114) hx hb d_Mo_may_107 (by decide) (fun c107 => ?_) (fun c107 => ?_)
            · have hlit := brN _ hlit c107
              refine lv_iconst (v := (0 : Int32)) hx hb d_Mo_may_114 (by decide) ?_
              refine lv_icmp_ne (tgt := 122) hx hb d_Mo_may_115 (by decide) (fun c115 => ?_) (fun c115 => ?_)
              · have hlit := brN _ hlit c115
                refine lv_iconst (v := (0 : Int32)) hx hb d_Mo_may_122 (by decide) ?_
                refine lv_istore (lv' := [(4, .int (0 : Int32)), (6, .int r70), (0, .ref (a 0)), (1, .int p1), (2, .int x2), (3, .int x3), (5, .int x5)]) hx hb d_Mo_may_123 hl (by decide) rfl (fun ls hl => ?_)
                refine lv_iinc (v := (x5 + (1 : Int32))) (lv' := [(5, .int (x5 + (1 : Int32))), (4, .int (0 : Int32)), (6, .int r70), (0, .ref (a 0)), (1, .int p1), (2, .int x2), (3, .int x3)]) hx hb d_Mo_may_125 hl (k := 6) rfl rfl (by decide) rfl (fun ls hl => ?_)
                refine lv_goto (tgt := 25) hx hb d_Mo_may_128 (by decide) ?_
                exact ih x2 x3 (0 : Int32) (x5 + (1 : Int32)) _ _ _ hlit hP hS (lv_sub hl [3, 4, 5, 6, 1, 0] rfl)
              · have hlit := brP _ hlit c115
                refine lv_iconst (v := (1 : Int32)) hx hb d_Mo_may_118 (by decide) ?_
                refine lv_goto (tgt := 123) hx hb d_Mo_may_119 (by decide) ?_
                refine lv_istore (lv' := [(4, .int (1 : Int32)), (6, .int r70), (0, .ref (a 0)), (1, .int p1), (2, .int x2), (3, .int x3), (5, .int x5)]) hx hb d_Mo_may_123 hl (by decide) rfl (fun ls hl => ?_)
                refine lv_iinc (v := (x5 + (1 : Int32))) (lv' := [(5, .int (x5 + (1 : Int32))), (4, .int (1 : Int32)), (6, .int r70), (0, .ref (a 0)), (1, .int p1), (2, .int x2), (3, .int x3)]) hx hb d_Mo_may_125 hl (k := 6) rfl rfl (by decide) rfl (fun ls hl => ?_)
                refine lv_goto (tgt := 25) hx hb d_Mo_may_128 (by decide) ?_
                exact ih x2 x3 (1 : Int32) (x5 + (1 : Int32)) _ _ _ hlit hP hS (lv_sub hl [3, 4, 5, 6, 1, 0] rfl)
            · have hlit := brP _ hlit c107
              refine lv_iconst (v := (1 : Int32)) hx hb d_Mo_may_110 (by decide) ?_
              refine lv_goto (tgt := 115) hx hb d_Mo_may_111 (by decide) ?_
              refine lv_icmp_ne (tgt := 122) hx hb d_Mo_may_115 (by decide) (fun c115 => ?_) (fun c115 => ?_)
              · have hlit := brN _ hlit c115
                refine lv_iconst (v := (0 : Int32)) hx hb d_Mo_may_122 (by decide) ?_
                refine lv_istore (lv' := [(4, .int (0 : Int32)), (6, .int r70), (0, .ref (a 0)), (1, .int p1), (2, .int x2), (3, .int x3), (5, .int x5)]) hx hb d_Mo_may_123 hl (by decide) rfl (fun ls hl => ?_)
                refine lv_iinc (v := (x5 + (1 : Int32))) (lv' := [(5, .int (x5 + (1 : Int32))), (4, .int (0 : Int32)), (6, .int r70), (0, .ref (a 0)), (1, .int p1), (2, .int x2), (3, .int x3)]) hx hb d_Mo_may_125 hl (k := 6) rfl rfl (by decide) rfl (fun ls hl => ?_)
                refine lv_goto (tgt := 25) hx hb d_Mo_may_128 (by decide) ?_
                exact ih x2 x3 (0 : Int32) (x5 + (1 : Int32)) _ _ _ hlit hP hS (lv_sub hl [3, 4, 5, 6, 1, 0] rfl)
              · have hlit := brP _ hlit c115
                refine lv_iconst (v := (1 : Int32)) hx hb d_Mo_may_118 (by decide) ?_
                refine lv_goto (tgt := 123) hx hb d_Mo_may_119 (by decide) ?_
                refine lv_istore (lv' := [(4, .int (1 : Int32)), (6, .int r70), (0, .ref (a 0)), (1, .int p1), (2, .int x2), (3, .int x3), (5, .int x5)]) hx hb d_Mo_may_123 hl (by decide) rfl (fun ls hl => ?_)
                refine lv_iinc (v := (x5 + (1 : Int32))) (lv' := [(5, .int (x5 + (1 : Int32))), (4, .int (1 : Int32)), (6, .int r70), (0, .ref (a 0)), (1, .int p1), (2, .int x2), (3, .int x3)]) hx hb d_Mo_may_125 hl (k := 6) rfl rfl (by decide) rfl (fun ls hl => ?_)
                refine lv_goto (tgt := 25) hx hb d_Mo_may_128 (by decide) ?_
                exact ih x2 x3 (1 : Int32) (x5 + (1 : Int32)) _ _ _ hlit hP hS (lv_sub hl [3, 4, 5, 6, 1, 0] rfl)
  have b14 : ∀ (n : Nat), ∀ (x2 : Int32) (x3 : Int32) (H : Heap) (locs : List Loc) (ls : Array Slot), m_Mo_may_b14 p1 h n x2 x3 = some r0 → va_P E.1 xcl (mV E a h) H → va_S (xA a 10 s.heap.size) s.heap H locs → lv_has ls 7 [(0, .ref (a 0)), (1, .int p1), (2, .int x2), (3, .int x3)] → W p l e rm_m_Mo_may s m args below meth c H locs 0 0 Q (F0 m 14 ls []) := by
    intro n
    induction n with
    | zero => intro x2 x3 H locs ls hlit hP hS hl; exact nnF hlit
    | succ n ih =>
      intro x2 x3 H locs ls hlit hP hS hl
      refine lv_iload_n hx hb d_Mo_may_14 rfl (lv_at hl 3 rfl) ?_
      refine lv_iconst (v := (4 : Int32)) hx hb d_Mo_may_15 (by decide) ?_
      refine lv_icmp_ge (tgt := 152) hx hb d_Mo_may_16 (by decide) (fun c16 => ?_) (fun c16 => ?_)
      · have hlit := brP _ hlit c16
        refine lv_iload_n hx hb d_Mo_may_152 rfl (lv_at hl 2 rfl) ?_
        cases hlit
        exact ret 0 _ _ _ _ trivial hP hS rfl d_Mo_may_153
      · have hlit := brN _ hlit c16
        refine lv_iconst (v := (1 : Int32)) hx hb d_Mo_may_19 (by decide) ?_
        refine lv_istore (lv' := [(4, .int (1 : Int32)), (0, .ref (a 0)), (1, .int p1), (2, .int x2), (3, .int x3)]) hx hb d_Mo_may_20 hl (by decide) rfl (fun ls hl => ?_)
        refine lv_iconst (v := (0 : Int32)) hx hb d_Mo_may_22 (by decide) ?_
        refine lv_istore (lv' := [(5, .int (0 : Int32)), (4, .int (1 : Int32)), (0, .ref (a 0)), (1, .int p1), (2, .int x2), (3, .int x3)]) hx hb d_Mo_may_23 hl (by decide) rfl (fun ls hl => ?_)
        exact b25 (m_Mo_may_b14 p1 h n) ih FU x2 x3 (1 : Int32) (0 : Int32) _ _ _ hlit hP hS (lv_sub hl [2, 3, 4, 5, 1, 0] rfl)
  refine lv_aload_n hx hb d_Mo_may_0 rfl (lv_at hl 0 rfl) ?_
  refine lv_iload_n hx hb d_Mo_may_1 rfl (lv_at hl 1 rfl) ?_
  obtain ⟨r2, hl2, hlit⟩ := bindS hlit
  refine fCallI (fRunV (As := [.int p1]) (rest := []) (q0 := 0) (ci := 8) hx hb hml hown hts hK hN hP (cm_Mo_isGuest l E a ha h _ p1 (r0 := r2) hl2) q750 q751 q32 q61 q752 hd_m_Mo_isGuest rfl rfl ⟨Nat.le_of_ble_eq_true rfl, Nat.le_of_ble_eq_true rfl⟩ me_0 rfl rfl rfl hl.1 rfl (Nat.le_of_ble_eq_true rfl) d_Mo_may_2 ⟨Nat.zero_le _, Nat.zero_le _⟩) hS (xA_up hS.1) (fun _ H locs hu2 hP hS _ _ => ?_)
  have hP : va_P E.1 xcl (mV E a h) H := hP
  refine lv_if_ne (tgt := 10) hx hb d_Mo_may_5 (by decide) (fun c5 => ?_) (fun c5 => ?_)
  · have hlit := brN _ hlit c5
    refine lv_iconst (v := (0 : Int32)) hx hb d_Mo_may_10 (by decide) ?_
    refine lv_istore_n (lv' := [(2, .int (0 : Int32)), (0, .ref (a 0)), (1, .int p1)]) hx hb d_Mo_may_11 rfl hl (by decide) rfl (fun ls hl => ?_)
    refine lv_iconst (v := (0 : Int32)) hx hb d_Mo_may_12 (by decide) ?_
    refine lv_istore_n (lv' := [(3, .int (0 : Int32)), (2, .int (0 : Int32)), (0, .ref (a 0)), (1, .int p1)]) hx hb d_Mo_may_13 rfl hl (by decide) rfl (fun ls hl => ?_)
    exact b14 FU (0 : Int32) (0 : Int32) _ _ _ hlit hP hS (lv_sub hl [2, 3, 1, 0] rfl)
  · have hlit := brP _ hlit c5
    refine lv_iconst (v := (-1 : Int32)) hx hb d_Mo_may_8 (by decide) ?_
    cases hlit
    exact ret 0 _ _ _ _ trivial hP hS rfl d_Mo_may_9

abbrev rm_m_Mo_suits : Room := { frames := 4, cells := 0, slots := 0, locals := 99 }
theorem hd_m_Mo_suits : y_Mo_suits.cls ≠ "java/lang/invoke/MethodHandle" ∧ y_Mo_suits.cls ≠ "java/lang/invoke/VarHandle" ∧ (parseMethodDescriptor y_Mo_suits.desc).map (fun d => d.parameters.length) = some 1 := by decide +kernel
set_option maxHeartbeats 4000000 in
set_option maxRecDepth 100000 in
theorem cm_Mo_suits (l : Launch) (E : mE) (a : Nat → Nat) (ha : xInj a 10) (h : Hp) (sz : Nat) (p1 : Int32) {r0 : Int32} (hlit : m_Mo_suits p1 h = some r0) : Met l y_Mo_suits (Cond.code y_Mo_suits b_Mo_suits 5 (some .int) :: TB) rm_m_Mo_suits (fPc [.ref (a 0), .int p1] E.1 (mtys E) sz (mV E a h)) (fQi (fun _ : Nat => True) r0 E.1 (fun (_ : Nat) => mV E a h) (xA a 10 sz)) 0 0 (xA a 10 sz) := by
  refine fl_startI (by decide) (Nat.le_of_ble_eq_true rfl) ?_
  intro p e s m args below meth c Q hx hb hml hown hts hsz hP hK hN ret ls hl
  subst hsz
  have hA : ∀ k, k < 10 → (xA a 10 s.heap.size) (a k) := xA_in
  have hS : va_S (xA a 10 s.heap.size) s.heap s.heap [] := va_S.rf
  have hl : lv_has ls 5 [(0, .ref (a 0)), (1, .int p1)] := hl
  have b21 : ∀ (n : Nat), ∀ (x2 : Int32) (x3 : Int32) (x4 : Int32) (H : Heap) (locs : List Loc) (ls : Array Slot), m_Mo_suits_b21 p1 h n x2 x3 x4 = some r0 → va_P E.1 xcl (mV E a h) H → va_S (xA a 10 s.heap.size) s.heap H locs → lv_has ls 5 [(0, .ref (a 0)), (1, .int p1), (2, .int x2), (3, .int x3), (4, .int x4)] → W p l e rm_m_Mo_suits s m args below meth c H locs 0 0 Q (F0 m 21 ls []) := by
    intro n
    induction n with
    | zero => intro x2 x3 x4 H locs ls hlit hP hS hl; exact nnF hlit
    | succ n ih =>
      intro x2 x3 x4 H locs ls hlit hP hS hl
      refine lv_iload hx hb d_Mo_suits_21 (lv_at hl 4 rfl) ?_
      refine lv_aload_n hx hb d_Mo_suits_23 rfl (lv_at hl 0 rfl) ?_
      refine mg_Mo_2 hx hb hts hown hK hP q673 d_Mo_suits_24 ?_
      refine lv_iconst (v := (1 : Int32)) hx hb d_Mo_suits_27 (by decide) ?_
      refine mald2 hx hb hK hP (j := 1) rfl (vpin_c (by decide)) d_Mo_suits_28 ?_
      refine lv_icmp_ge (tgt := 78) hx hb d_Mo_suits_29 (by decide) (fun c29 => ?_) (fun c29 => ?_)
      · have hlit := brP _ hlit c29
        refine lv_iload_n hx hb d_Mo_suits_78 rfl (lv_at hl 3 rfl) ?_
        cases hlit
        exact ret 0 _ _ _ _ trivial hP hS rfl d_Mo_suits_79
      · have hlit := brN _ hlit c29
        refine lv_iload_n hx hb d_Mo_suits_32 rfl (lv_at hl 3 rfl) ?_
        refine lv_aload_n hx hb d_Mo_suits_33 rfl (lv_at hl 0 rfl) ?_
        refine lv_iload hx hb d_Mo_suits_34 (lv_at hl 4 rfl) ?_
        refine lv_iload_n hx hb d_Mo_suits_36 rfl (lv_at hl 1 rfl) ?_
        refine lv_aload_n hx hb d_Mo_suits_37 rfl (lv_at hl 0 rfl) ?_
        refine mg_Mo_5 hx hb hts hown hK hP q676 d_Mo_suits_38 ?_
        refine lv_iconst (v := (0 : Int32)) hx hb d_Mo_suits_41 (by decide) ?_
        refine mald4 hx hb hK hP (j := 0) rfl (vpin_c (by decide)) d_Mo_suits_42 ?_
        obtain ⟨r43, hl43, hlit⟩ := bindS hlit
        refine fCallI (fRunV (As := [.int x4, .int p1, .int (h 4 0)]) (rest := [.int x3]) (q0 := 0) (ci := 8) hx hb hml hown hts hK hN hP (cm_Mo_worthAt l E a ha h _ x4 p1 (h 4 0) (r0 := r43) hl43) q759 q760 q34 q61 q761 hd_m_Mo_worthAt rfl rfl ⟨Nat.le_of_ble_eq_true rfl, Nat.le_of_ble_eq_true rfl⟩ me_0 rfl rfl rfl hl.1 rfl (Nat.le_of_ble_eq_true rfl) d_Mo_suits_43 ⟨Nat.zero_le _, Nat.zero_le _⟩) hS (xA_up hS.1) (fun _ H locs hu43 hP hS _ _ => ?_)
        have hP : va_P E.1 xcl (mV E a h) H := hP
        refine lv_aload_n hx hb d_Mo_suits_46 rfl (lv_at hl 0 rfl) ?_
        refine lv_iload hx hb d_Mo_suits_47 (lv_at hl 4 rfl) ?_
        refine lv_iload_n hx hb d_Mo_suits_49 rfl (lv_at hl 2 rfl) ?_
        refine lv_aload_n hx hb d_Mo_suits_50 rfl (lv_at hl 0 rfl) ?_
        refine mg_Mo_5 hx hb hts hown hK hP q676 d_Mo_suits_51 ?_
        refine lv_iconst (v := (0 : Int32)) hx hb d_Mo_suits_54 (by decide) ?_
        refine mald4 hx hb hK hP (j := 0) rfl (vpin_c (by decide)) d_Mo_suits_55 ?_
        obtain ⟨r56, hl56, hlit⟩ := bindS hlit
        refine fCallI (fRunV (As := [.int x4, .int x2, .int (h 4 0)]) (rest := [.int r43, .int x3]) (q0 := 0) (ci := 8) hx hb hml hown hts hK hN hP (cm_Mo_worthAt l E a ha h _ x4 x2 (h 4 0) (r0 := r56) hl56) q759 q760 q34 q61 q761 hd_m_Mo_worthAt rfl rfl ⟨Nat.le_of_ble_eq_true rfl, Nat.le_of_ble_eq_true rfl⟩ me_0 rfl rfl rfl hl.1 rfl (Nat.le_of_ble_eq_true rfl) d_Mo_suits_56 ⟨Nat.zero_le _, Nat.zero_le _⟩) hS (xA_up hS.1) (fun _ H locs hu56 hP hS _ _ => ?_)
        have hP : va_P E.1 xcl (mV E a h) H := hP
        refine lv_icmp_lt (tgt := 69) hx hb d_Mo_suits_59 (by decide) (fun c59 => ?_) (fun c59 => ?_)
        · have hlit := brP _ hlit c59
          refine lv_iconst (v := (0 : Int32)) hx hb d_Mo_suits_69 (by decide) ?_
          refine lv_ior hx hb d_Mo_suits_70 ?_
          obtain ⟨y71, ey71, hlit⟩ := bindS hlit
          refine topn ey71 ?_
          refine lv_istore_n (lv' := [(3, .int y71), (0, .ref (a 0)), (1, .int p1), (2, .int x2), (4, .int x4)]) hx hb d_Mo_suits_71 rfl hl (by decide) rfl (fun ls hl => ?_)
          refine lv_iinc (v := (x4 + (1 : Int32))) (lv' := [(4, .int (x4 + (1 : Int32))), (3, .int y71), (0, .ref (a 0)), (1, .int p1), (2, .int x2)]) hx hb d_Mo_suits_72 hl (k := 4) rfl rfl (by decide) rfl (fun ls hl => ?_)
          refine lv_goto (tgt := 21) hx hb d_Mo_suits_75 (by decide) ?_
          exact ih x2 y71 (x4 + (1 : Int32)) _ _ _ hlit hP hS (lv_sub hl [2, 3, 4, 1, 0] rfl)
        · have hlit := brN _ hlit c59
          refine lv_iconst (v := (1 : Int32)) hx hb d_Mo_suits_62 (by decide) ?_
          refine lv_iload hx hb d_Mo_suits_63 (lv_at hl 4 rfl) ?_
          refine lv_ishl hx hb d_Mo_suits_65 ?_
          refine lv_goto (tgt := 70) hx hb d_Mo_suits_66 (by decide) ?_
          refine lv_ior hx hb d_Mo_suits_70 ?_
          obtain ⟨y71, ey71, hlit⟩ := bindS hlit
          refine topn ey71 ?_
          refine lv_istore_n (lv' := [(3, .int y71), (0, .ref (a 0)), (1, .int p1), (2, .int x2), (4, .int x4)]) hx hb d_Mo_suits_71 rfl hl (by decide) rfl (fun ls hl => ?_)
          refine lv_iinc (v := (x4 + (1 : Int32))) (lv' := [(4, .int (x4 + (1 : Int32))), (3, .int y71), (0, .ref (a 0)), (1, .int p1), (2, .int x2)]) hx hb d_Mo_suits_72 hl (k := 4) rfl rfl (by decide) rfl (fun ls hl => ?_)
          refine lv_goto (tgt := 21) hx hb d_Mo_suits_75 (by decide) ?_
          exact ih x2 y71 (x4 + (1 : Int32)) _ _ _ hlit hP hS (lv_sub hl [2, 3, 4, 1, 0] rfl)
  refine lv_aload_n hx hb d_Mo_suits_0 rfl (lv_at hl 0 rfl) ?_
  refine lv_iload_n hx hb d_Mo_suits_1 rfl (lv_at hl 1 rfl) ?_
  obtain ⟨r2, hl2, hlit⟩ := bindS hlit
  refine fCallI (fRunV (As := [.int p1]) (rest := []) (q0 := 0) (ci := 8) hx hb hml hown hts hK hN hP (cm_Mo_isLeft l E a ha h _ p1 (r0 := r2) hl2) q826 q827 q43 q61 q828 hd_m_Mo_isLeft rfl rfl ⟨Nat.le_of_ble_eq_true rfl, Nat.le_of_ble_eq_true rfl⟩ me_0 rfl rfl rfl hl.1 rfl (Nat.le_of_ble_eq_true rfl) d_Mo_suits_2 ⟨Nat.zero_le _, Nat.zero_le _⟩) hS (xA_up hS.1) (fun _ H locs hu2 hP hS _ _ => ?_)
  have hP : va_P E.1 xcl (mV E a h) H := hP
  refine lv_if_ne (tgt := 10) hx hb d_Mo_suits_5 (by decide) (fun c5 => ?_) (fun c5 => ?_)
  · have hlit := brN _ hlit c5
    refine lv_aload_n hx hb d_Mo_suits_10 rfl (lv_at hl 0 rfl) ?_
    refine lv_iconst (v := (0 : Int32)) hx hb d_Mo_suits_11 (by decide) ?_
    obtain ⟨r12, hl12, hlit⟩ := bindS hlit
    refine fCallI (fRunV (As := [.int (0 : Int32)]) (rest := []) (q0 := 0) (ci := 8) hx hb hml hown hts hK hN hP (cm_Mo_most l E a ha h _ (0 : Int32) (r0 := r12) hl12) q862 q809 q810 q61 q811 hd_m_Mo_most rfl rfl ⟨Nat.le_of_ble_eq_true rfl, Nat.le_of_ble_eq_true rfl⟩ me_0 rfl rfl rfl hl.1 rfl (Nat.le_of_ble_eq_true rfl) d_Mo_suits_12 ⟨Nat.zero_le _, Nat.zero_le _⟩) hS (xA_up hS.1) (fun _ H locs hu12 hP hS _ _ => ?_)
    have hP : va_P E.1 xcl (mV E a h) H := hP
    refine lv_istore_n (lv' := [(2, .int r12), (0, .ref (a 0)), (1, .int p1)]) hx hb d_Mo_suits_15 rfl hl (by decide) rfl (fun ls hl => ?_)
    refine lv_iconst (v := (0 : Int32)) hx hb d_Mo_suits_16 (by decide) ?_
    refine lv_istore_n (lv' := [(3, .int (0 : Int32)), (2, .int r12), (0, .ref (a 0)), (1, .int p1)]) hx hb d_Mo_suits_17 rfl hl (by decide) rfl (fun ls hl => ?_)
    refine lv_iconst (v := (0 : Int32)) hx hb d_Mo_suits_18 (by decide) ?_
    refine lv_istore (lv' := [(4, .int (0 : Int32)), (3, .int (0 : Int32)), (2, .int r12), (0, .ref (a 0)), (1, .int p1)]) hx hb d_Mo_suits_19 hl (by decide) rfl (fun ls hl => ?_)
    exact b21 FU r12 (0 : Int32) (0 : Int32) _ _ _ hlit hP hS (lv_sub hl [3, 4, 2, 1, 0] rfl)
  · have hlit := brP _ hlit c5
    refine lv_iconst (v := (-1 : Int32)) hx hb d_Mo_suits_8 (by decide) ?_
    cases hlit
    exact ret 0 _ _ _ _ trivial hP hS rfl d_Mo_suits_9

abbrev rm_m_Mo_against : Room := { frames := 2, cells := 0, slots := 0, locals := 48 }
theorem hd_m_Mo_against : y_Mo_against.cls ≠ "java/lang/invoke/MethodHandle" ∧ y_Mo_against.cls ≠ "java/lang/invoke/VarHandle" ∧ (parseMethodDescriptor y_Mo_against.desc).map (fun d => d.parameters.length) = some 2 := by decide +kernel
set_option maxHeartbeats 4000000 in
set_option maxRecDepth 100000 in
theorem cm_Mo_against (l : Launch) (E : mE) (a : Nat → Nat) (ha : xInj a 10) (h : Hp) (sz : Nat) (p1 : Int32) (p2 : Int32) {r0 : Int32} (hlit : m_Mo_against p1 p2 h = some r0) : Met l y_Mo_against (Cond.code y_Mo_against b_Mo_against 4 (some .int) :: TB) rm_m_Mo_against (fPc [.ref (a 0), .int p1, .int p2] E.1 (mtys E) sz (mV E a h)) (fQi (fun _ : Nat => True) r0 E.1 (fun (_ : Nat) => mV E a h) (xA a 10 sz)) 0 0 (xA a 10 sz) := by
  refine fl_startI (by decide) (Nat.le_of_ble_eq_true rfl) ?_
  intro p e s m args below meth c Q hx hb hml hown hts hsz hP hK hN ret ls hl
  subst hsz
  have hA : ∀ k, k < 10 → (xA a 10 s.heap.size) (a k) := xA_in
  have hS : va_S (xA a 10 s.heap.size) s.heap s.heap [] := va_S.rf
  have hl : lv_has ls 4 [(0, .ref (a 0)), (1, .int p1), (2, .int p2)] := hl
  refine lv_aload_n hx hb d_Mo_against_0 rfl (lv_at hl 0 rfl) ?_
  refine lv_iload_n hx hb d_Mo_against_1 rfl (lv_at hl 1 rfl) ?_
  obtain ⟨r2, hl2, hlit⟩ := bindS hlit
  refine fCallI (fRunV (As := [.int p1]) (rest := []) (q0 := 0) (ci := 8) hx hb hml hown hts hK hN hP (cm_Mo_isDish l E a ha h _ p1 (r0 := r2) hl2) q772 q773 q37 q61 q774 hd_m_Mo_isDish rfl rfl ⟨Nat.le_of_ble_eq_true rfl, Nat.le_of_ble_eq_true rfl⟩ me_0 rfl rfl rfl hl.1 rfl (Nat.le_of_ble_eq_true rfl) d_Mo_against_2 ⟨Nat.zero_le _, Nat.zero_le _⟩) hS (xA_up hS.1) (fun _ H locs hu2 hP hS _ _ => ?_)
  have hP : va_P E.1 xcl (mV E a h) H := hP
  refine lv_if_eq (tgt := 18) hx hb d_Mo_against_5 (by decide) (fun c5 => ?_) (fun c5 => ?_)
  · have hlit := brP _ hlit c5
    refine lv_iconst (v := (-1 : Int32)) hx hb d_Mo_against_18 (by decide) ?_
    cases hlit
    exact ret 0 _ _ _ _ trivial hP hS rfl d_Mo_against_19
  · have hlit := brN _ hlit c5
    refine lv_iload_n hx hb d_Mo_against_8 rfl (lv_at hl 2 rfl) ?_
    refine lv_i2l (v := p2.toInt64) hx hb d_Mo_against_9 rfl ?_
    refine lv_lconst (v := (0 : Int64)) hx hb d_Mo_against_10 (by decide) ?_
    refine lv_lconst (v := (1 : Int64)) hx hb d_Mo_against_11 (by decide) ?_
    obtain ⟨r12, hl12, hlit⟩ := bindS hlit
    refine fCallI (fRunS (As := [.long (p2.toInt64), .long (0 : Int64), .long (1 : Int64)]) (rest := []) hx hb hml hown hts hK hN hP (cm_Mo_in l E a ha h _ (p2.toInt64) (0 : Int64) (1 : Int64) (r0 := r12) hl12) q707 q708 q61 q709 hd_m_Mo_in rfl rfl ⟨Nat.le_of_ble_eq_true rfl, Nat.le_of_ble_eq_true rfl⟩ rfl hl.1 rfl (Nat.le_of_ble_eq_true rfl) d_Mo_against_12 ⟨Nat.zero_le _, Nat.zero_le _⟩) hS (xA_up hS.1) (fun _ H locs hu12 hP hS _ _ => ?_)
    have hP : va_P E.1 xcl (mV E a h) H := hP
    refine lv_if_ne (tgt := 20) hx hb d_Mo_against_15 (by decide) (fun c15 => ?_) (fun c15 => ?_)
    · have hlit := brN _ hlit c15
      refine lv_aload_n hx hb d_Mo_against_20 rfl (lv_at hl 0 rfl) ?_
      refine lv_iload_n hx hb d_Mo_against_21 rfl (lv_at hl 1 rfl) ?_
      obtain ⟨r22, hl22, hlit⟩ := bindS hlit
      refine fCallI (fRunV (As := [.int p1]) (rest := []) (q0 := 0) (ci := 8) hx hb hml hown hts hK hN hP (cm_Mo_worstOff l E a ha h _ p1 (r0 := r22) hl22) q819 q820 q42 q61 q821 hd_m_Mo_worstOff rfl rfl ⟨Nat.le_of_ble_eq_true rfl, Nat.le_of_ble_eq_true rfl⟩ me_0 rfl rfl rfl hl.1 rfl (Nat.le_of_ble_eq_true rfl) d_Mo_against_22 ⟨Nat.zero_le _, Nat.zero_le _⟩) hS (xA_up hS.1) (fun _ H locs hu22 hP hS _ _ => ?_)
      have hP : va_P E.1 xcl (mV E a h) H := hP
      refine lv_istore_n (lv' := [(3, .int r22), (0, .ref (a 0)), (1, .int p1), (2, .int p2)]) hx hb d_Mo_against_25 rfl hl (by decide) rfl (fun ls hl => ?_)
      refine lv_iload_n hx hb d_Mo_against_26 rfl (lv_at hl 3 rfl) ?_
      refine lv_if_ne (tgt := 34) hx hb d_Mo_against_27 (by decide) (fun c27 => ?_) (fun c27 => ?_)
      · have hlit := brN _ hlit c27
        refine lv_aload_n hx hb d_Mo_against_34 rfl (lv_at hl 1 rfl) ?_
        refine lv_iload_n hx hb d_Mo_against_35 rfl (lv_at hl 0 rfl) ?_
        refine lv_iload_n hx hb d_Mo_against_36 rfl (lv_at hl 2 rfl) ?_
        refine lv_aload_n hx hb d_Mo_against_37 rfl (lv_at hl 1 rfl) ?_
        refine mg_Mo_5 hx hb hts hown hK hP q676 d_Mo_against_38 ?_
        refine lv_iconst (v := (0 : Int32)) hx hb d_Mo_against_41 (by decide) ?_
        refine mald4 hx hb hK hP (j := 0) rfl (vpin_c (by decide)) d_Mo_against_42 ?_
        obtain ⟨r43, hl43, hlit⟩ := bindS hlit
        refine fCallI (fRunV (As := [.int r22, .int p1, .int (h 4 0)]) (rest := []) (q0 := 0) (ci := 8) hx hb hml hown hts hK hN hP (cm_Mo_worthAt l E a ha h _ r22 p1 (h 4 0) (r0 := r43) hl43) q759 q760 q34 q61 q761 hd_m_Mo_worthAt rfl rfl ⟨Nat.le_of_ble_eq_true rfl, Nat.le_of_ble_eq_true rfl⟩ me_0 rfl rfl rfl hl.1 rfl (Nat.le_of_ble_eq_true rfl) d_Mo_against_43 ⟨Nat.zero_le _, Nat.zero_le _⟩) hS (xA_up hS.1) (fun _ H locs hu43 hP hS _ _ => ?_)
        have hP : va_P E.1 xcl (mV E a h) H := hP
        cases hlit
        exact ret 0 _ _ _ _ trivial hP hS rfl d_Mo_against_46
      · have hlit := brP _ hlit c27
        refine lv_iload_n hx hb d_Mo_against_30 rfl (lv_at hl 0 rfl) ?_
        refine lv_goto (tgt := 46) hx hb d_Mo_against_31 (by decide) ?_
        cases hlit
        exact ret 0 _ _ _ _ trivial hP hS rfl d_Mo_against_46
    · have hlit := brP _ hlit c15
      refine lv_iconst (v := (-1 : Int32)) hx hb d_Mo_against_18 (by decide) ?_
      cases hlit
      exact ret 0 _ _ _ _ trivial hP hS rfl d_Mo_against_19

abbrev rm_m_Mo_ask : Room := { frames := 4, cells := 0, slots := 0, locals := 99 }
theorem hd_m_Mo_ask : y_Mo_ask.cls ≠ "java/lang/invoke/MethodHandle" ∧ y_Mo_ask.cls ≠ "java/lang/invoke/VarHandle" ∧ (parseMethodDescriptor y_Mo_ask.desc).map (fun d => d.parameters.length) = some 1 := by decide +kernel
set_option maxHeartbeats 4000000 in
set_option maxRecDepth 100000 in
theorem cm_Mo_ask (l : Launch) (E : mE) (a : Nat → Nat) (ha : xInj a 10) (h : Hp) (sz : Nat) (p1 : Int32) {r0 : Int32} (hlit : m_Mo_ask p1 h = some r0) : Met l y_Mo_ask (Cond.code y_Mo_ask b_Mo_ask 4 (some .int) :: TB) rm_m_Mo_ask (fPc [.ref (a 0), .int p1] E.1 (mtys E) sz (mV E a h)) (fQi (fun _ : Nat => True) r0 E.1 (fun (_ : Nat) => mV E a h) (xA a 10 sz)) 0 0 (xA a 10 sz) := by
  refine fl_startI (by decide) (Nat.le_of_ble_eq_true rfl) ?_
  intro p e s m args below meth c Q hx hb hml hown hts hsz hP hK hN ret ls hl
  subst hsz
  have hA : ∀ k, k < 10 → (xA a 10 s.heap.size) (a k) := xA_in
  have hS : va_S (xA a 10 s.heap.size) s.heap s.heap [] := va_S.rf
  have hl : lv_has ls 4 [(0, .ref (a 0)), (1, .int p1)] := hl
  have b22 : ∀ (n : Nat), ∀ (x2 : Int32) (x3 : Int32) (H : Heap) (locs : List Loc) (ls : Array Slot), m_Mo_ask_b22 p1 h n x2 x3 = some r0 → va_P E.1 xcl (mV E a h) H → va_S (xA a 10 s.heap.size) s.heap H locs → lv_has ls 4 [(0, .ref (a 0)), (1, .int p1), (2, .int x2), (3, .int x3)] → W p l e rm_m_Mo_ask s m args below meth c H locs 0 0 Q (F0 m 22 ls []) := by
    intro n
    induction n with
    | zero => intro x2 x3 H locs ls hlit hP hS hl; exact nnF hlit
    | succ n ih =>
      intro x2 x3 H locs ls hlit hP hS hl
      refine lv_iload_n hx hb d_Mo_ask_22 rfl (lv_at hl 3 rfl) ?_
      refine lv_iload_n hx hb d_Mo_ask_23 rfl (lv_at hl 1 rfl) ?_
      refine lv_icmp_ge (tgt := 70) hx hb d_Mo_ask_24 (by decide) (fun c24 => ?_) (fun c24 => ?_)
      · have hlit := brP _ hlit c24
        refine lv_bipush (v := (-4 : Int32)) hx hb d_Mo_ask_70 (by decide) ?_
        cases hlit
        exact ret 0 _ _ _ _ trivial hP hS rfl d_Mo_ask_72
      · have hlit := brN _ hlit c24
        refine lv_iload_n hx hb d_Mo_ask_27 rfl (lv_at hl 3 rfl) ?_
        refine lv_aload_n hx hb d_Mo_ask_28 rfl (lv_at hl 0 rfl) ?_
        refine mg_Mo_2 hx hb hts hown hK hP q673 d_Mo_ask_29 ?_
        refine lv_iconst (v := (1 : Int32)) hx hb d_Mo_ask_32 (by decide) ?_
        refine mald2 hx hb hK hP (j := 1) rfl (vpin_c (by decide)) d_Mo_ask_33 ?_
        refine lv_icmp_ge (tgt := 70) hx hb d_Mo_ask_34 (by decide) (fun c34 => ?_) (fun c34 => ?_)
        · have hlit := brP _ hlit c34
          refine lv_bipush (v := (-4 : Int32)) hx hb d_Mo_ask_70 (by decide) ?_
          cases hlit
          exact ret 0 _ _ _ _ trivial hP hS rfl d_Mo_ask_72
        · have hlit := brN _ hlit c34
          refine lv_aload_n hx hb d_Mo_ask_37 rfl (lv_at hl 0 rfl) ?_
          refine lv_aload_n hx hb d_Mo_ask_38 rfl (lv_at hl 0 rfl) ?_
          refine lv_aload_n hx hb d_Mo_ask_39 rfl (lv_at hl 0 rfl) ?_
          refine mg_Mo_5 hx hb hts hown hK hP q676 d_Mo_ask_40 ?_
          refine lv_iconst (v := (1 : Int32)) hx hb d_Mo_ask_43 (by decide) ?_
          refine mald4 hx hb hK hP (j := 1) rfl (vpin_c (by decide)) d_Mo_ask_44 ?_
          obtain ⟨r45, hl45, hlit⟩ := bindS hlit
          refine fCallI (fRunV (As := [.int (h 4 1)]) (rest := [.ref (a 0)]) (q0 := 0) (ci := 8) hx hb hml hown hts hK hN hP (cm_Mo_leftBy l E a ha h _ (h 4 1) (r0 := r45) hl45) q762 q763 q35 q61 q764 hd_m_Mo_leftBy rfl rfl ⟨Nat.le_of_ble_eq_true rfl, Nat.le_of_ble_eq_true rfl⟩ me_0 rfl rfl rfl hl.1 rfl (Nat.le_of_ble_eq_true rfl) d_Mo_ask_45 ⟨Nat.zero_le _, Nat.zero_le _⟩) hS (xA_up hS.1) (fun _ H locs hu45 hP hS _ _ => ?_)
          have hP : va_P E.1 xcl (mV E a h) H := hP
          refine lv_aload_n hx hb d_Mo_ask_48 rfl (lv_at hl 0 rfl) ?_
          refine mg_Mo_5 hx hb hts hown hK hP q676 d_Mo_ask_49 ?_
          refine lv_iconst (v := (0 : Int32)) hx hb d_Mo_ask_52 (by decide) ?_
          refine mald4 hx hb hK hP (j := 0) rfl (vpin_c (by decide)) d_Mo_ask_53 ?_
          refine lv_iload_n hx hb d_Mo_ask_54 rfl (lv_at hl 3 rfl) ?_
          obtain ⟨r55, hl55, hlit⟩ := bindS hlit
          refine fCallI (fRunV (As := [.int r45, .int (h 4 0), .int x3]) (rest := []) (q0 := 0) (ci := 8) hx hb hml hown hts hK hN hP (cm_Mo_mostToAll l E a ha h _ r45 (h 4 0) x3 (r0 := r55) hl55) q812 q813 q41 q61 q814 hd_m_Mo_mostToAll rfl rfl ⟨Nat.le_of_ble_eq_true rfl, Nat.le_of_ble_eq_true rfl⟩ me_0 rfl rfl rfl hl.1 rfl (Nat.le_of_ble_eq_true rfl) d_Mo_ask_55 ⟨Nat.zero_le _, Nat.zero_le _⟩) hS (xA_up hS.1) (fun _ H locs hu55 hP hS _ _ => ?_)
          have hP : va_P E.1 xcl (mV E a h) H := hP
          refine lv_iload_n hx hb d_Mo_ask_58 rfl (lv_at hl 2 rfl) ?_
          refine lv_icmp_eq (tgt := 64) hx hb d_Mo_ask_59 (by decide) (fun c59 => ?_) (fun c59 => ?_)
          · have hlit := brP _ hlit c59
            refine lv_iinc (v := (x3 + (1 : Int32))) (lv' := [(3, .int (x3 + (1 : Int32))), (0, .ref (a 0)), (1, .int p1), (2, .int x2)]) hx hb d_Mo_ask_64 hl (k := 3) rfl rfl (by decide) rfl (fun ls hl => ?_)
            refine lv_goto (tgt := 22) hx hb d_Mo_ask_67 (by decide) ?_
            exact ih x2 (x3 + (1 : Int32)) _ _ _ hlit hP hS (lv_sub hl [1, 2, 3, 0] rfl)
          · have hlit := brN _ hlit c59
            refine lv_iload_n hx hb d_Mo_ask_62 rfl (lv_at hl 3 rfl) ?_
            cases hlit
            exact ret 0 _ _ _ _ trivial hP hS rfl d_Mo_ask_63
  refine lv_iload_n hx hb d_Mo_ask_0 rfl (lv_at hl 1 rfl) ?_
  refine lv_i2l (v := p1.toInt64) hx hb d_Mo_ask_1 rfl ?_
  refine lv_lconst (v := (1 : Int64)) hx hb d_Mo_ask_2 (by decide) ?_
  refine lv_ldc2 (v := (9 : Int64)) hx hb hown (hts _ q740) d_Mo_ask_3 ?_
  obtain ⟨r6, hl6, hlit⟩ := bindS hlit
  refine fCallI (fRunS (As := [.long (p1.toInt64), .long (1 : Int64), .long (9 : Int64)]) (rest := []) hx hb hml hown hts hK hN hP (cm_Mo_in l E a ha h _ (p1.toInt64) (1 : Int64) (9 : Int64) (r0 := r6) hl6) q707 q708 q61 q709 hd_m_Mo_in rfl rfl ⟨Nat.le_of_ble_eq_true rfl, Nat.le_of_ble_eq_true rfl⟩ rfl hl.1 rfl (Nat.le_of_ble_eq_true rfl) d_Mo_ask_6 ⟨Nat.zero_le _, Nat.zero_le _⟩) hS (xA_up hS.1) (fun _ H locs hu6 hP hS _ _ => ?_)
  have hP : va_P E.1 xcl (mV E a h) H := hP
  refine lv_if_ne (tgt := 14) hx hb d_Mo_ask_9 (by decide) (fun c9 => ?_) (fun c9 => ?_)
  · have hlit := brN _ hlit c9
    refine lv_aload_n hx hb d_Mo_ask_14 rfl (lv_at hl 0 rfl) ?_
    refine lv_iconst (v := (0 : Int32)) hx hb d_Mo_ask_15 (by decide) ?_
    obtain ⟨r16, hl16, hlit⟩ := bindS hlit
    refine fCallI (fRunV (As := [.int (0 : Int32)]) (rest := []) (q0 := 0) (ci := 8) hx hb hml hown hts hK hN hP (cm_Mo_most l E a ha h _ (0 : Int32) (r0 := r16) hl16) q862 q809 q810 q61 q811 hd_m_Mo_most rfl rfl ⟨Nat.le_of_ble_eq_true rfl, Nat.le_of_ble_eq_true rfl⟩ me_0 rfl rfl rfl hl.1 rfl (Nat.le_of_ble_eq_true rfl) d_Mo_ask_16 ⟨Nat.zero_le _, Nat.zero_le _⟩) hS (xA_up hS.1) (fun _ H locs hu16 hP hS _ _ => ?_)
    have hP : va_P E.1 xcl (mV E a h) H := hP
    refine lv_istore_n (lv' := [(2, .int r16), (0, .ref (a 0)), (1, .int p1)]) hx hb d_Mo_ask_19 rfl hl (by decide) rfl (fun ls hl => ?_)
    refine lv_iconst (v := (0 : Int32)) hx hb d_Mo_ask_20 (by decide) ?_
    refine lv_istore_n (lv' := [(3, .int (0 : Int32)), (2, .int r16), (0, .ref (a 0)), (1, .int p1)]) hx hb d_Mo_ask_21 rfl hl (by decide) rfl (fun ls hl => ?_)
    exact b22 FU r16 (0 : Int32) _ _ _ hlit hP hS (lv_sub hl [2, 3, 1, 0] rfl)
  · have hlit := brP _ hlit c9
    refine lv_iconst (v := (-1 : Int32)) hx hb d_Mo_ask_12 (by decide) ?_
    cases hlit
    exact ret 0 _ _ _ _ trivial hP hS rfl d_Mo_ask_13
