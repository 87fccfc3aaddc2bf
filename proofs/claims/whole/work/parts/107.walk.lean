abbrev rm_m_Mo_readAll : Room := { frames := 4, cells := 0, slots := 0, locals := 93 }
theorem hd_m_Mo_readAll : y_Mo_readAll.cls ≠ "java/lang/invoke/MethodHandle" ∧ y_Mo_readAll.cls ≠ "java/lang/invoke/VarHandle" ∧ (parseMethodDescriptor y_Mo_readAll.desc).map (fun d => d.parameters.length) = some 0 := by decide +kernel
set_option maxHeartbeats 4000000 in
set_option maxRecDepth 100000 in
theorem cm_Mo_readAll (l : Launch) (E : mE) (a : Nat → Nat) (ha : xInj a 10) (h : Hp) (sz : Nat) {r0 : Int32} {h9 : Hp} (hlit : m_Mo_readAll h = some (r0, h9)) : Met l y_Mo_readAll (Cond.code y_Mo_readAll b_Mo_readAll 2 (some .int) :: TB) rm_m_Mo_readAll (fPc [.ref (a 0)] E.1 (mtys E) sz (mV E a h)) (fQi (fun _ : Nat => True) r0 E.1 (fun (_ : Nat) => mV E a h9) (xA a 10 sz)) 0 0 (xA a 10 sz) := by
  refine fl_startI (by decide) (Nat.le_of_ble_eq_true rfl) ?_
  intro p e s m args below meth c Q hx hb hml hown hts hsz hP hK hN ret ls hl
  subst hsz
  have hA : ∀ k, k < 10 → (xA a 10 s.heap.size) (a k) := xA_in
  have hS : va_S (xA a 10 s.heap.size) s.heap s.heap [] := va_S.rf
  have hl : lv_has ls 2 [(0, .ref (a 0))] := hl
  have b9 : ∀ (n : Nat), ∀ (h : Hp) (H : Heap) (locs : List Loc) (ls : Array Slot), m_Mo_readAll_b9 n h = some (r0, h9) → va_P E.1 xcl (mV E a h) H → va_S (xA a 10 s.heap.size) s.heap H locs → lv_has ls 2 [(0, .ref (a 0))] → W p l e rm_m_Mo_readAll s m args below meth c H locs 0 0 Q (F0 m 9 ls []) := by
    intro n
    induction n with
    | zero => intro h H locs ls hlit hP hS hl; exact nnF hlit
    | succ n ih =>
      intro h H locs ls hlit hP hS hl
      refine lv_aload_n hx hb d_Mo_readAll_9 rfl (lv_at hl 0 rfl) ?_
      refine mg_Mo_12 hx hb hts hown hK hP q683 d_Mo_readAll_10 ?_
      refine lv_aload_n hx hb d_Mo_readAll_13 rfl (lv_at hl 0 rfl) ?_
      refine mg_Mo_0 hx hb hts hown hK hP q671 d_Mo_readAll_14 ?_
      refine lv_icmp_ge (tgt := 37) hx hb d_Mo_readAll_17 (by decide) (fun c17 => ?_) (fun c17 => ?_)
      · have hlit := brP _ hlit c17
        refine lv_bipush (v := (-4 : Int32)) hx hb d_Mo_readAll_37 (by decide) ?_
        cases hlit
        exact ret 0 _ _ _ _ trivial hP hS rfl d_Mo_readAll_39
      · have hlit := brN _ hlit c17
        refine lv_aload_n hx hb d_Mo_readAll_20 rfl (lv_at hl 0 rfl) ?_
        refine mg_Mo_12 hx hb hts hown hK hP q683 d_Mo_readAll_21 ?_
        obtain ⟨y24, ey24, hlit⟩ := bindS hlit
        refine topn ey24 ?_
        refine lv_istore_n (lv' := [(1, .int y24), (0, .ref (a 0))]) hx hb d_Mo_readAll_24 rfl hl (by decide) rfl (fun ls hl => ?_)
        refine lv_aload_n hx hb d_Mo_readAll_25 rfl (lv_at hl 1 rfl) ?_
        obtain ⟨z26, hl26, hlit⟩ := bindS hlit
        refine fCallI (fRunV (As := []) (rest := []) (q0 := 0) (ci := 8) hx hb hml hown hts hK hN hP (cm_Mo_item l E a ha h _ (r0 := z26.1) (h9 := z26.2) hl26) q721 q722 q27 q61 q723 hd_m_Mo_item rfl rfl ⟨Nat.le_of_ble_eq_true rfl, Nat.le_of_ble_eq_true rfl⟩ me_0 rfl rfl rfl hl.1 rfl (Nat.le_of_ble_eq_true rfl) d_Mo_readAll_26 ⟨Nat.zero_le _, Nat.zero_le _⟩) hS (xA_up hS.1) (fun _ H locs hu26 hP hS _ _ => ?_)
        have hP : va_P E.1 xcl (mV E a z26.2) H := hP
        refine lv_if_ne (tgt := 34) hx hb d_Mo_readAll_29 (by decide) (fun c29 => ?_) (fun c29 => ?_)
        · have hlit := brN _ hlit c29
          refine lv_goto (tgt := 9) hx hb d_Mo_readAll_34 (by decide) ?_
          exact ih z26.2 _ _ _ hlit hP hS (lv_sub hl [1] rfl)
        · have hlit := brP _ hlit c29
          refine lv_iload_n hx hb d_Mo_readAll_32 rfl (lv_at hl 0 rfl) ?_
          cases hlit
          exact ret 0 _ _ _ _ trivial hP hS rfl d_Mo_readAll_33
  refine lv_aload_n hx hb d_Mo_readAll_0 rfl (lv_at hl 0 rfl) ?_
  obtain ⟨h_1, hl1, hlit⟩ := bindS hlit
  refine fCallV (fRunV (As := []) (rest := []) (q0 := 0) (ci := 8) hx hb hml hown hts hK hN hP (cm_Mo_empty l E a ha h _ (h9 := h_1) hl1) q662 q663 q23 q61 q664 hd_m_Mo_empty rfl rfl ⟨Nat.le_of_ble_eq_true rfl, Nat.le_of_ble_eq_true rfl⟩ me_0 rfl rfl rfl hl.1 rfl (Nat.le_of_ble_eq_true rfl) d_Mo_readAll_1 ⟨Nat.zero_le _, Nat.zero_le _⟩) hS (xA_up hS.1) (fun _ H locs hu1 hP hS _ _ => ?_)
  have hP : va_P E.1 xcl (mV E a h_1) H := hP
  refine lv_aload_n hx hb d_Mo_readAll_4 rfl (lv_at hl 0 rfl) ?_
  refine lv_iconst (v := (0 : Int32)) hx hb d_Mo_readAll_5 (by decide) ?_
  refine mp_Mo_12 hx hb hts hown hK hP ha hA hS q683 d_Mo_readAll_6 (fun H locs hP hS => ?_)
  obtain ⟨h_6, eh_6, hlit⟩ := bindS hlit
  rw [Option.some.inj eh_6] at hP
  exact b9 FU h_6 _ _ _ hlit hP hS (lv_sub hl [0] rfl)

abbrev rm_m_Mo_fault : Room := { frames := 5, cells := 0, slots := 0, locals := 114 }
theorem hd_m_Mo_fault : y_Mo_fault.cls ≠ "java/lang/invoke/MethodHandle" ∧ y_Mo_fault.cls ≠ "java/lang/invoke/VarHandle" ∧ (parseMethodDescriptor y_Mo_fault.desc).map (fun d => d.parameters.length) = some 0 := by decide +kernel
set_option maxHeartbeats 4000000 in
set_option maxRecDepth 100000 in
theorem cm_Mo_fault (l : Launch) (E : mE) (a : Nat → Nat) (ha : xInj a 10) (h : Hp) (sz : Nat) {r0 : Int32} {h9 : Hp} (hlit : m_Mo_fault h = some (r0, h9)) : Met l y_Mo_fault (Cond.code y_Mo_fault b_Mo_fault 1 (some .int) :: TB) rm_m_Mo_fault (fPc [.ref (a 0)] E.1 (mtys E) sz (mV E a h)) (fQi (fun _ : Nat => True) r0 E.1 (fun (_ : Nat) => mV E a h9) (xA a 10 sz)) 0 0 (xA a 10 sz) := by
  refine fl_startI (by decide) (Nat.le_of_ble_eq_true rfl) ?_
  intro p e s m args below meth c Q hx hb hml hown hts hsz hP hK hN ret ls hl
  subst hsz
  have hA : ∀ k, k < 10 → (xA a 10 s.heap.size) (a k) := xA_in
  have hS : va_S (xA a 10 s.heap.size) s.heap s.heap [] := va_S.rf
  have hl : lv_has ls 1 [(0, .ref (a 0))] := hl
  refine lv_aload_n hx hb d_Mo_fault_0 rfl (lv_at hl 0 rfl) ?_
  obtain ⟨z1, hl1, hlit⟩ := bindS hlit
  refine fCallI (fRunV (As := []) (rest := []) (q0 := 0) (ci := 8) hx hb hml hown hts hK hN hP (cm_Mo_readAll l E a ha h _ (r0 := z1.1) (h9 := z1.2) hl1) q718 q719 q26 q61 q720 hd_m_Mo_readAll rfl rfl ⟨Nat.le_of_ble_eq_true rfl, Nat.le_of_ble_eq_true rfl⟩ me_0 rfl rfl rfl hl.1 rfl (Nat.le_of_ble_eq_true rfl) d_Mo_fault_1 ⟨Nat.zero_le _, Nat.zero_le _⟩) hS (xA_up hS.1) (fun _ H locs hu1 hP hS _ _ => ?_)
  have hP : va_P E.1 xcl (mV E a z1.2) H := hP
  cases hlit
  exact ret 0 _ _ _ _ trivial hP hS rfl d_Mo_fault_4

abbrev rm_m_Mo_begin : Room := { frames := 0, cells := 0, slots := 0, locals := 0 }
theorem hd_m_Mo_begin : y_Mo_begin.cls ≠ "java/lang/invoke/MethodHandle" ∧ y_Mo_begin.cls ≠ "java/lang/invoke/VarHandle" ∧ (parseMethodDescriptor y_Mo_begin.desc).map (fun d => d.parameters.length) = some 0 := by decide +kernel
set_option maxHeartbeats 4000000 in
set_option maxRecDepth 100000 in
theorem cm_Mo_begin (l : Launch) (E : mE) (a : Nat → Nat) (ha : xInj a 10) (h : Hp) (sz : Nat) {h9 : Hp} (hlit : m_Mo_begin h = some h9) : Met l y_Mo_begin (Cond.code y_Mo_begin b_Mo_begin 2 none :: TB) rm_m_Mo_begin (fPc [.ref (a 0)] E.1 (mtys E) sz (mV E a h)) (fQv (fun _ : Nat => True) E.1 (fun (_ : Nat) => mV E a h9) (xA a 10 sz)) 0 0 (xA a 10 sz) := by
  refine fl_startV (by decide) (Nat.le_of_ble_eq_true rfl) ?_
  intro p e s m args below meth c Q hx hb hml hown hts hsz hP hK hN ret ls hl
  subst hsz
  have hA : ∀ k, k < 10 → (xA a 10 s.heap.size) (a k) := xA_in
  have hS : va_S (xA a 10 s.heap.size) s.heap s.heap [] := va_S.rf
  have hl : lv_has ls 2 [(0, .ref (a 0))] := hl
  have b28 : ∀ (n : Nat), ∀ (x1 : Int32) (h : Hp) (H : Heap) (locs : List Loc) (ls : Array Slot), m_Mo_begin_b28 n x1 h = some h9 → va_P E.1 xcl (mV E a h) H → va_S (xA a 10 s.heap.size) s.heap H locs → lv_has ls 2 [(0, .ref (a 0)), (1, .int x1)] → W p l e rm_m_Mo_begin s m args below meth c H locs 0 0 Q (F0 m 28 ls []) := by
    intro n
    induction n with
    | zero => intro x1 h H locs ls hlit hP hS hl; exact nnF hlit
    | succ n ih =>
      intro x1 h H locs ls hlit hP hS hl
      refine lv_iload_n hx hb d_Mo_begin_28 rfl (lv_at hl 1 rfl) ?_
      refine lv_bipush (v := (9 : Int32)) hx hb d_Mo_begin_29 (by decide) ?_
      refine lv_icmp_ge (tgt := 54) hx hb d_Mo_begin_31 (by decide) (fun c31 => ?_) (fun c31 => ?_)
      · have hlit := brP _ hlit c31
        refine lv_aload_n hx hb d_Mo_begin_54 rfl (lv_at hl 0 rfl) ?_
        refine mg_Mo_5 hx hb hts hown hK hP q676 d_Mo_begin_55 ?_
        refine lv_iconst (v := (0 : Int32)) hx hb d_Mo_begin_58 (by decide) ?_
        refine lv_iconst (v := (0 : Int32)) hx hb d_Mo_begin_59 (by decide) ?_
        refine mast4 hx hb hK hP ha hA hS (j := 0) rfl (vpin_c (by decide)) d_Mo_begin_60 (fun H locs hP hS => ?_)
        obtain ⟨h_60, eh_60, hlit⟩ := bindS hlit
        rw [Option.some.inj eh_60] at hP
        refine lv_aload_n hx hb d_Mo_begin_61 rfl (lv_at hl 0 rfl) ?_
        refine mg_Mo_5 hx hb hts hown hK hP q676 d_Mo_begin_62 ?_
        refine lv_iconst (v := (1 : Int32)) hx hb d_Mo_begin_65 (by decide) ?_
        refine lv_iconst (v := (0 : Int32)) hx hb d_Mo_begin_66 (by decide) ?_
        refine mast4 hx hb hK hP ha hA hS (j := 1) rfl (vpin_c (by decide)) d_Mo_begin_67 (fun H locs hP hS => ?_)
        obtain ⟨h_67, eh_67, hlit⟩ := bindS hlit
        rw [Option.some.inj eh_67] at hP
        refine lv_aload_n hx hb d_Mo_begin_68 rfl (lv_at hl 0 rfl) ?_
        refine mg_Mo_5 hx hb hts hown hK hP q676 d_Mo_begin_69 ?_
        refine lv_iconst (v := (2 : Int32)) hx hb d_Mo_begin_72 (by decide) ?_
        refine lv_bipush (v := (-4 : Int32)) hx hb d_Mo_begin_73 (by decide) ?_
        refine mast4 hx hb hK hP ha hA hS (j := 2) rfl (vpin_c (by decide)) d_Mo_begin_75 (fun H locs hP hS => ?_)
        obtain ⟨h_75, eh_75, hlit⟩ := bindS hlit
        rw [Option.some.inj eh_75] at hP
        refine lv_aload_n hx hb d_Mo_begin_76 rfl (lv_at hl 0 rfl) ?_
        refine lv_iconst (v := (0 : Int32)) hx hb d_Mo_begin_77 (by decide) ?_
        refine mp_Mo_11 hx hb hts hown hK hP ha hA hS q682 d_Mo_begin_78 (fun H locs hP hS => ?_)
        obtain ⟨h_78, eh_78, hlit⟩ := bindS hlit
        rw [Option.some.inj eh_78] at hP
        refine lv_aload_n hx hb d_Mo_begin_81 rfl (lv_at hl 0 rfl) ?_
        refine lv_iconst (v := (0 : Int32)) hx hb d_Mo_begin_82 (by decide) ?_
        refine mp_Mo_7 hx hb hts hown hK hP ha hA hS q678 d_Mo_begin_83 (fun H locs hP hS => ?_)
        obtain ⟨h_83, eh_83, hlit⟩ := bindS hlit
        rw [Option.some.inj eh_83] at hP
        refine lv_aload_n hx hb d_Mo_begin_86 rfl (lv_at hl 0 rfl) ?_
        refine lv_iconst (v := (0 : Int32)) hx hb d_Mo_begin_87 (by decide) ?_
        refine mp_Mo_9 hx hb hts hown hK hP ha hA hS q680 d_Mo_begin_88 (fun H locs hP hS => ?_)
        obtain ⟨h_88, eh_88, hlit⟩ := bindS hlit
        rw [Option.some.inj eh_88] at hP
        cases hlit
        exact ret 0 _ _ _ _ trivial hP hS d_Mo_begin_91
      · have hlit := brN _ hlit c31
        refine lv_aload_n hx hb d_Mo_begin_34 rfl (lv_at hl 0 rfl) ?_
        refine mg_Mo_5 hx hb hts hown hK hP q676 d_Mo_begin_35 ?_
        refine lv_iconst (v := (3 : Int32)) hx hb d_Mo_begin_38 (by decide) ?_
        refine lv_iload_n hx hb d_Mo_begin_39 rfl (lv_at hl 1 rfl) ?_
        refine lv_iadd hx hb d_Mo_begin_40 ?_
        refine lv_aload_n hx hb d_Mo_begin_41 rfl (lv_at hl 0 rfl) ?_
        refine mg_Mo_2 hx hb hts hown hK hP q673 d_Mo_begin_42 ?_
        refine lv_iconst (v := (2 : Int32)) hx hb d_Mo_begin_45 (by decide) ?_
        refine mald2 hx hb hK hP (j := 2) rfl (vpin_c (by decide)) d_Mo_begin_46 ?_
        obtain ⟨g47, hlit⟩ := gdP _ hlit
        refine mast4 hx hb hK hP ha hA hS (j := (((3 : Int32) + x1)).toNatClampNeg) rfl (vpin_c g47) d_Mo_begin_47 (fun H locs hP hS => ?_)
        obtain ⟨h_47, eh_47, hlit⟩ := bindS hlit
        rw [Option.some.inj eh_47] at hP
        refine lv_iinc (v := (x1 + (1 : Int32))) (lv' := [(1, .int (x1 + (1 : Int32))), (0, .ref (a 0))]) hx hb d_Mo_begin_48 hl (k := 1) rfl rfl (by decide) rfl (fun ls hl => ?_)
        refine lv_goto (tgt := 28) hx hb d_Mo_begin_51 (by decide) ?_
        exact ih (x1 + (1 : Int32)) h_47 _ _ _ hlit hP hS (lv_sub hl [1, 0] rfl)
  have b2 : ∀ (n : Nat), ∀ (x1 : Int32) (h : Hp) (H : Heap) (locs : List Loc) (ls : Array Slot), m_Mo_begin_b2 n x1 h = some h9 → va_P E.1 xcl (mV E a h) H → va_S (xA a 10 s.heap.size) s.heap H locs → lv_has ls 2 [(0, .ref (a 0)), (1, .int x1)] → W p l e rm_m_Mo_begin s m args below meth c H locs 0 0 Q (F0 m 2 ls []) := by
    intro n
    induction n with
    | zero => intro x1 h H locs ls hlit hP hS hl; exact nnF hlit
    | succ n ih =>
      intro x1 h H locs ls hlit hP hS hl
      refine lv_iload_n hx hb d_Mo_begin_2 rfl (lv_at hl 1 rfl) ?_
      refine lv_bipush (v := (74 : Int32)) hx hb d_Mo_begin_3 (by decide) ?_
      refine lv_icmp_ge (tgt := 26) hx hb d_Mo_begin_5 (by decide) (fun c5 => ?_) (fun c5 => ?_)
      · have hlit := brP _ hlit c5
        refine lv_iconst (v := (0 : Int32)) hx hb d_Mo_begin_26 (by decide) ?_
        refine lv_istore_n (lv' := [(1, .int (0 : Int32)), (0, .ref (a 0))]) hx hb d_Mo_begin_27 rfl hl (by decide) rfl (fun ls hl => ?_)
        exact b28 FU (0 : Int32) h _ _ _ hlit hP hS (lv_sub hl [1, 0] rfl)
      · have hlit := brN _ hlit c5
        refine lv_aload_n hx hb d_Mo_begin_8 rfl (lv_at hl 0 rfl) ?_
        refine mg_Mo_2 hx hb hts hown hK hP q673 d_Mo_begin_9 ?_
        refine lv_iload_n hx hb d_Mo_begin_12 rfl (lv_at hl 1 rfl) ?_
        refine lv_aload_n hx hb d_Mo_begin_13 rfl (lv_at hl 0 rfl) ?_
        refine mg_Mo_3 hx hb hts hown hK hP q674 d_Mo_begin_14 ?_
        refine lv_iload_n hx hb d_Mo_begin_17 rfl (lv_at hl 1 rfl) ?_
        obtain ⟨g18, hlit⟩ := gdP _ hlit
        refine mald3 hx hb hK hP (j := (x1).toNatClampNeg) rfl (vpin_c g18) d_Mo_begin_18 ?_
        obtain ⟨g19, hlit⟩ := gdP _ hlit
        refine mast2 hx hb hK hP ha hA hS (j := (x1).toNatClampNeg) rfl (vpin_c g19) d_Mo_begin_19 (fun H locs hP hS => ?_)
        obtain ⟨h_19, eh_19, hlit⟩ := bindS hlit
        rw [Option.some.inj eh_19] at hP
        refine lv_iinc (v := (x1 + (1 : Int32))) (lv' := [(1, .int (x1 + (1 : Int32))), (0, .ref (a 0))]) hx hb d_Mo_begin_20 hl (k := 1) rfl rfl (by decide) rfl (fun ls hl => ?_)
        refine lv_goto (tgt := 2) hx hb d_Mo_begin_23 (by decide) ?_
        exact ih (x1 + (1 : Int32)) h_19 _ _ _ hlit hP hS (lv_sub hl [1, 0] rfl)
  refine lv_iconst (v := (0 : Int32)) hx hb d_Mo_begin_0 (by decide) ?_
  refine lv_istore_n (lv' := [(1, .int (0 : Int32)), (0, .ref (a 0))]) hx hb d_Mo_begin_1 rfl hl (by decide) rfl (fun ls hl => ?_)
  exact b2 FU (0 : Int32) h _ _ _ hlit hP hS (lv_sub hl [1, 0] rfl)

abbrev rm_m_Mo_lay : Room := { frames := 5, cells := 0, slots := 0, locals := 114 }
theorem hd_m_Mo_lay : y_Mo_lay.cls ≠ "java/lang/invoke/MethodHandle" ∧ y_Mo_lay.cls ≠ "java/lang/invoke/VarHandle" ∧ (parseMethodDescriptor y_Mo_lay.desc).map (fun d => d.parameters.length) = some 0 := by decide +kernel
set_option maxHeartbeats 4000000 in
set_option maxRecDepth 100000 in
theorem cm_Mo_lay (l : Launch) (E : mE) (a : Nat → Nat) (ha : xInj a 10) (h : Hp) (sz : Nat) {r0 : Int32} {h9 : Hp} (hlit : m_Mo_lay h = some (r0, h9)) : Met l y_Mo_lay (Cond.code y_Mo_lay b_Mo_lay 1 (some .int) :: TB) rm_m_Mo_lay (fPc [.ref (a 0)] E.1 (mtys E) sz (mV E a h)) (fQi (fun _ : Nat => True) r0 E.1 (fun (_ : Nat) => mV E a h9) (xA a 10 sz)) 0 0 (xA a 10 sz) := by
  refine fl_startI (by decide) (Nat.le_of_ble_eq_true rfl) ?_
  intro p e s m args below meth c Q hx hb hml hown hts hsz hP hK hN ret ls hl
  subst hsz
  have hA : ∀ k, k < 10 → (xA a 10 s.heap.size) (a k) := xA_in
  have hS : va_S (xA a 10 s.heap.size) s.heap s.heap [] := va_S.rf
  have hl : lv_has ls 1 [(0, .ref (a 0))] := hl
  refine lv_aload_n hx hb d_Mo_lay_0 rfl (lv_at hl 0 rfl) ?_
  obtain ⟨z1, hl1, hlit⟩ := bindS hlit
  refine fCallI (fRunV (As := []) (rest := []) (q0 := 0) (ci := 8) hx hb hml hown hts hK hN hP (cm_Mo_readAll l E a ha h _ (r0 := z1.1) (h9 := z1.2) hl1) q718 q719 q26 q61 q720 hd_m_Mo_readAll rfl rfl ⟨Nat.le_of_ble_eq_true rfl, Nat.le_of_ble_eq_true rfl⟩ me_0 rfl rfl rfl hl.1 rfl (Nat.le_of_ble_eq_true rfl) d_Mo_lay_1 ⟨Nat.zero_le _, Nat.zero_le _⟩) hS (xA_up hS.1) (fun _ H locs hu1 hP hS _ _ => ?_)
  have hP : va_P E.1 xcl (mV E a z1.2) H := hP
  refine lv_bipush (v := (-4 : Int32)) hx hb d_Mo_lay_4 (by decide) ?_
  refine lv_icmp_ne (tgt := 18) hx hb d_Mo_lay_6 (by decide) (fun c6 => ?_) (fun c6 => ?_)
  · have hlit := brN _ hlit c6
    refine lv_bipush (v := (-2 : Int32)) hx hb d_Mo_lay_18 (by decide) ?_
    cases hlit
    exact ret 0 _ _ _ _ trivial hP hS rfl d_Mo_lay_20
  · have hlit := brP _ hlit c6
    refine lv_aload_n hx hb d_Mo_lay_9 rfl (lv_at hl 0 rfl) ?_
    refine mg_Mo_3 hx hb hts hown hK hP q674 d_Mo_lay_10 ?_
    refine lv_iconst (v := (1 : Int32)) hx hb d_Mo_lay_13 (by decide) ?_
    refine mald3 hx hb hK hP (j := 1) rfl (vpin_c (by decide)) d_Mo_lay_14 ?_
    refine lv_if_ne (tgt := 21) hx hb d_Mo_lay_15 (by decide) (fun c15 => ?_) (fun c15 => ?_)
    · have hlit := brN _ hlit c15
      refine lv_aload_n hx hb d_Mo_lay_21 rfl (lv_at hl 0 rfl) ?_
      obtain ⟨h_22, hl22, hlit⟩ := bindS hlit
      refine fCallV (fRunV (As := []) (rest := []) (q0 := 0) (ci := 8) hx hb hml hown hts hK hN hP (cm_Mo_begin l E a ha z1.2 _ (h9 := h_22) hl22) q668 q669 q25 q61 q670 hd_m_Mo_begin rfl rfl ⟨Nat.le_of_ble_eq_true rfl, Nat.le_of_ble_eq_true rfl⟩ me_0 rfl rfl rfl hl.1 rfl (Nat.le_of_ble_eq_true rfl) d_Mo_lay_22 ⟨Nat.zero_le _, Nat.zero_le _⟩) hS (xA_up hS.1) (fun _ H locs hu22 hP hS _ _ => ?_)
      have hP : va_P E.1 xcl (mV E a h_22) H := hP
      refine lv_aload_n hx hb d_Mo_lay_25 rfl (lv_at hl 0 rfl) ?_
      refine mg_Mo_2 hx hb hts hown hK hP q673 d_Mo_lay_26 ?_
      refine lv_iconst (v := (1 : Int32)) hx hb d_Mo_lay_29 (by decide) ?_
      refine mald2 hx hb hK hP (j := 1) rfl (vpin_c (by decide)) d_Mo_lay_30 ?_
      cases hlit
      exact ret 0 _ _ _ _ trivial hP hS rfl d_Mo_lay_31
    · have hlit := brP _ hlit c15
      refine lv_bipush (v := (-2 : Int32)) hx hb d_Mo_lay_18 (by decide) ?_
      cases hlit
      exact ret 0 _ _ _ _ trivial hP hS rfl d_Mo_lay_20

abbrev rm_m_Mo_isGuest : Room := { frames := 1, cells := 0, slots := 0, locals := 25 }
theorem hd_m_Mo_isGuest : y_Mo_isGuest.cls ≠ "java/lang/invoke/MethodHandle" ∧ y_Mo_isGuest.cls ≠ "java/lang/invoke/VarHandle" ∧ (parseMethodDescriptor y_Mo_isGuest.desc).map (fun d => d.parameters.length) = some 1 := by decide +kernel
set_option maxHeartbeats 4000000 in
set_option maxRecDepth 100000 in
theorem cm_Mo_isGuest (l : Launch) (E : mE) (a : Nat → Nat) (ha : xInj a 10) (h : Hp) (sz : Nat) (p1 : Int32) {r0 : Int32} (hlit : m_Mo_isGuest p1 h = some r0) : Met l y_Mo_isGuest (Cond.code y_Mo_isGuest b_Mo_isGuest 2 (some .boolean) :: TB) rm_m_Mo_isGuest (fPc [.ref (a 0), .int p1] E.1 (mtys E) sz (mV E a h)) (fQi (fun _ : Nat => True) r0 E.1 (fun (_ : Nat) => mV E a h) (xA a 10 sz)) 0 0 (xA a 10 sz) := by
  refine fl_startI (by decide) (Nat.le_of_ble_eq_true rfl) ?_
  intro p e s m args below meth c Q hx hb hml hown hts hsz hP hK hN ret ls hl
  subst hsz
  have hA : ∀ k, k < 10 → (xA a 10 s.heap.size) (a k) := xA_in
  have hS : va_S (xA a 10 s.heap.size) s.heap s.heap [] := va_S.rf
  have hl : lv_has ls 2 [(0, .ref (a 0)), (1, .int p1)] := hl
  refine lv_iload_n hx hb d_Mo_isGuest_0 rfl (lv_at hl 1 rfl) ?_
  refine lv_i2l (v := p1.toInt64) hx hb d_Mo_isGuest_1 rfl ?_
  refine lv_lconst (v := (0 : Int64)) hx hb d_Mo_isGuest_2 (by decide) ?_
  refine lv_aload_n hx hb d_Mo_isGuest_3 rfl (lv_at hl 0 rfl) ?_
  refine mg_Mo_2 hx hb hts hown hK hP q673 d_Mo_isGuest_4 ?_
  refine lv_iconst (v := (1 : Int32)) hx hb d_Mo_isGuest_7 (by decide) ?_
  refine mald2 hx hb hK hP (j := 1) rfl (vpin_c (by decide)) d_Mo_isGuest_8 ?_
  refine lv_iconst (v := (1 : Int32)) hx hb d_Mo_isGuest_9 (by decide) ?_
  refine lv_isub hx hb d_Mo_isGuest_10 ?_
  refine lv_i2l (v := ((h 2 1) - (1 : Int32)).toInt64) hx hb d_Mo_isGuest_11 rfl ?_
  obtain ⟨r12, hl12, hlit⟩ := bindS hlit
  refine fCallI (fRunS (As := [.long (p1.toInt64), .long (0 : Int64), .long (((h 2 1) - (1 : Int32)).toInt64)]) (rest := []) hx hb hml hown hts hK hN hP (cm_Mo_in l E a ha h _ (p1.toInt64) (0 : Int64) (((h 2 1) - (1 : Int32)).toInt64) (r0 := r12) hl12) q707 q708 q61 q709 hd_m_Mo_in rfl rfl ⟨Nat.le_of_ble_eq_true rfl, Nat.le_of_ble_eq_true rfl⟩ rfl hl.1 rfl (Nat.le_of_ble_eq_true rfl) d_Mo_isGuest_12 ⟨Nat.zero_le _, Nat.zero_le _⟩) hS (xA_up hS.1) (fun _ H locs hu12 hP hS _ _ => ?_)
  have hP : va_P E.1 xcl (mV E a h) H := hP
  obtain ⟨g15, hlit⟩ := gdP _ hlit
  cases hlit
  exact ret 0 _ _ _ _ trivial hP hS (nar_b g15) d_Mo_isGuest_15

abbrev rm_m_Mo_isDish : Room := { frames := 1, cells := 0, slots := 0, locals := 25 }
theorem hd_m_Mo_isDish : y_Mo_isDish.cls ≠ "java/lang/invoke/MethodHandle" ∧ y_Mo_isDish.cls ≠ "java/lang/invoke/VarHandle" ∧ (parseMethodDescriptor y_Mo_isDish.desc).map (fun d => d.parameters.length) = some 1 := by decide +kernel
set_option maxHeartbeats 4000000 in
set_option maxRecDepth 100000 in
theorem cm_Mo_isDish (l : Launch) (E : mE) (a : Nat → Nat) (ha : xInj a 10) (h : Hp) (sz : Nat) (p1 : Int32) {r0 : Int32} (hlit : m_Mo_isDish p1 h = some r0) : Met l y_Mo_isDish (Cond.code y_Mo_isDish b_Mo_isDish 2 (some .boolean) :: TB) rm_m_Mo_isDish (fPc [.ref (a 0), .int p1] E.1 (mtys E) sz (mV E a h)) (fQi (fun _ : Nat => True) r0 E.1 (fun (_ : Nat) => mV E a h) (xA a 10 sz)) 0 0 (xA a 10 sz) := by
  refine fl_startI (by decide) (Nat.le_of_ble_eq_true rfl) ?_
  intro p e s m args below meth c Q hx hb hml hown hts hsz hP hK hN ret ls hl
  subst hsz
  have hA : ∀ k, k < 10 → (xA a 10 s.heap.size) (a k) := xA_in
  have hS : va_S (xA a 10 s.heap.size) s.heap s.heap [] := va_S.rf
  have hl : lv_has ls 2 [(0, .ref (a 0)), (1, .int p1)] := hl
  refine lv_iload_n hx hb d_Mo_isDish_0 rfl (lv_at hl 1 rfl) ?_
  refine lv_i2l (v := p1.toInt64) hx hb d_Mo_isDish_1 rfl ?_
  refine lv_lconst (v := (0 : Int64)) hx hb d_Mo_isDish_2 (by decide) ?_
  refine lv_aload_n hx hb d_Mo_isDish_3 rfl (lv_at hl 0 rfl) ?_
  refine mg_Mo_2 hx hb hts hown hK hP q673 d_Mo_isDish_4 ?_
  refine lv_iconst (v := (0 : Int32)) hx hb d_Mo_isDish_7 (by decide) ?_
  refine mald2 hx hb hK hP (j := 0) rfl (vpin_c (by decide)) d_Mo_isDish_8 ?_
  refine lv_iconst (v := (1 : Int32)) hx hb d_Mo_isDish_9 (by decide) ?_
  refine lv_isub hx hb d_Mo_isDish_10 ?_
  refine lv_i2l (v := ((h 2 0) - (1 : Int32)).toInt64) hx hb d_Mo_isDish_11 rfl ?_
  obtain ⟨r12, hl12, hlit⟩ := bindS hlit
  refine fCallI (fRunS (As := [.long (p1.toInt64), .long (0 : Int64), .long (((h 2 0) - (1 : Int32)).toInt64)]) (rest := []) hx hb hml hown hts hK hN hP (cm_Mo_in l E a ha h _ (p1.toInt64) (0 : Int64) (((h 2 0) - (1 : Int32)).toInt64) (r0 := r12) hl12) q707 q708 q61 q709 hd_m_Mo_in rfl rfl ⟨Nat.le_of_ble_eq_true rfl, Nat.le_of_ble_eq_true rfl⟩ rfl hl.1 rfl (Nat.le_of_ble_eq_true rfl) d_Mo_isDish_12 ⟨Nat.zero_le _, Nat.zero_le _⟩) hS (xA_up hS.1) (fun _ H locs hu12 hP hS _ _ => ?_)
  have hP : va_P E.1 xcl (mV E a h) H := hP
  obtain ⟨g15, hlit⟩ := gdP _ hlit
  cases hlit
  exact ret 0 _ _ _ _ trivial hP hS (nar_b g15) d_Mo_isDish_15

abbrev rm_m_Mo_leftBy : Room := { frames := 0, cells := 0, slots := 0, locals := 0 }
theorem hd_m_Mo_leftBy : y_Mo_leftBy.cls ≠ "java/lang/invoke/MethodHandle" ∧ y_Mo_leftBy.cls ≠ "java/lang/invoke/VarHandle" ∧ (parseMethodDescriptor y_Mo_leftBy.desc).map (fun d => d.parameters.length) = some 1 := by decide +kernel
set_option maxHeartbeats 4000000 in
set_option maxRecDepth 100000 in
theorem cm_Mo_leftBy (l : Launch) (E : mE) (a : Nat → Nat) (ha : xInj a 10) (h : Hp) (sz : Nat) (p1 : Int32) {r0 : Int32} (hlit : m_Mo_leftBy p1 h = some r0) : Met l y_Mo_leftBy (Cond.code y_Mo_leftBy b_Mo_leftBy 2 (some .int) :: TB) rm_m_Mo_leftBy (fPc [.ref (a 0), .int p1] E.1 (mtys E) sz (mV E a h)) (fQi (fun _ : Nat => True) r0 E.1 (fun (_ : Nat) => mV E a h) (xA a 10 sz)) 0 0 (xA a 10 sz) := by
  refine fl_startI (by decide) (Nat.le_of_ble_eq_true rfl) ?_
  intro p e s m args below meth c Q hx hb hml hown hts hsz hP hK hN ret ls hl
  subst hsz
  have hA : ∀ k, k < 10 → (xA a 10 s.heap.size) (a k) := xA_in
  have hS : va_S (xA a 10 s.heap.size) s.heap s.heap [] := va_S.rf
  have hl : lv_has ls 2 [(0, .ref (a 0)), (1, .int p1)] := hl
  refine lv_iconst (v := (1 : Int32)) hx hb d_Mo_leftBy_0 (by decide) ?_
  refine lv_aload_n hx hb d_Mo_leftBy_1 rfl (lv_at hl 0 rfl) ?_
  refine mg_Mo_2 hx hb hts hown hK hP q673 d_Mo_leftBy_2 ?_
  refine lv_iconst (v := (0 : Int32)) hx hb d_Mo_leftBy_5 (by decide) ?_
  refine mald2 hx hb hK hP (j := 0) rfl (vpin_c (by decide)) d_Mo_leftBy_6 ?_
  refine lv_ishl hx hb d_Mo_leftBy_7 ?_
  refine lv_iconst (v := (1 : Int32)) hx hb d_Mo_leftBy_8 (by decide) ?_
  refine lv_isub hx hb d_Mo_leftBy_9 ?_
  refine lv_iload_n hx hb d_Mo_leftBy_10 rfl (lv_at hl 1 rfl) ?_
  refine lv_iconst (v := (-1 : Int32)) hx hb d_Mo_leftBy_11 (by decide) ?_
  refine lv_ixor hx hb d_Mo_leftBy_12 ?_
  refine lv_iand hx hb d_Mo_leftBy_13 ?_
  cases hlit
  exact ret 0 _ _ _ _ trivial hP hS rfl d_Mo_leftBy_14

abbrev rm_m_Mo_worthAt : Room := { frames := 0, cells := 0, slots := 0, locals := 0 }
theorem hd_m_Mo_worthAt : y_Mo_worthAt.cls ≠ "java/lang/invoke/MethodHandle" ∧ y_Mo_worthAt.cls ≠ "java/lang/invoke/VarHandle" ∧ (parseMethodDescriptor y_Mo_worthAt.desc).map (fun d => d.parameters.length) = some 3 := by decide +kernel
set_option maxHeartbeats 4000000 in
set_option maxRecDepth 100000 in
theorem cm_Mo_worthAt (l : Launch) (E : mE) (a : Nat → Nat) (ha : xInj a 10) (h : Hp) (sz : Nat) (p1 : Int32) (p2 : Int32) (p3 : Int32) {r0 : Int32} (hlit : m_Mo_worthAt p1 p2 p3 h = some r0) : Met l y_Mo_worthAt (Cond.code y_Mo_worthAt b_Mo_worthAt 6 (some .int) :: TB) rm_m_Mo_worthAt (fPc [.ref (a 0), .int p1, .int p2, .int p3] E.1 (mtys E) sz (mV E a h)) (fQi (fun _ : Nat => True) r0 E.1 (fun (_ : Nat) => mV E a h) (xA a 10 sz)) 0 0 (xA a 10 sz) := by
  refine fl_startI (by decide) (Nat.le_of_ble_eq_true rfl) ?_
  intro p e s m args below meth c Q hx hb hml hown hts hsz hP hK hN ret ls hl
  subst hsz
  have hA : ∀ k, k < 10 → (xA a 10 s.heap.size) (a k) := xA_in
  have hS : va_S (xA a 10 s.heap.size) s.heap s.heap [] := va_S.rf
  have hl : lv_has ls 6 [(0, .ref (a 0)), (1, .int p1), (2, .int p2), (3, .int p3)] := hl
  have b36 : ∀ (s0 : Int32) (H : Heap) (locs : List Loc) (ls : Array Slot), m_Mo_worthAt_b36 p1 p2 p3 h s0 = some r0 → va_P E.1 xcl (mV E a h) H → va_S (xA a 10 s.heap.size) s.heap H locs → lv_has ls 6 [] → W p l e rm_m_Mo_worthAt s m args below meth c H locs 0 0 Q (F0 m 36 ls [.int s0]) := by
    intro s0 H locs ls hlit hP hS hl
    refine lv_istore (lv' := [(5, .int s0)]) hx hb d_Mo_worthAt_36 hl (by decide) rfl (fun ls hl => ?_)
    refine lv_iload hx hb d_Mo_worthAt_38 (lv_at hl 0 rfl) ?_
    refine lv_bipush (v := (9 : Int32)) hx hb d_Mo_worthAt_40 (by decide) ?_
    refine lv_icmp_le (tgt := 50) hx hb d_Mo_worthAt_42 (by decide) (fun c42 => ?_) (fun c42 => ?_)
    · have hlit := brP _ hlit c42
      refine lv_iload hx hb d_Mo_worthAt_50 (lv_at hl 0 rfl) ?_
      cases hlit
      exact ret 0 _ _ _ _ trivial hP hS rfl d_Mo_worthAt_52
    · have hlit := brN _ hlit c42
      refine lv_bipush (v := (9 : Int32)) hx hb d_Mo_worthAt_45 (by decide) ?_
      refine lv_goto (tgt := 52) hx hb d_Mo_worthAt_47 (by decide) ?_
      cases hlit
      exact ret 0 _ _ _ _ trivial hP hS rfl d_Mo_worthAt_52
  refine lv_aload_n hx hb d_Mo_worthAt_0 rfl (lv_at hl 0 rfl) ?_
  refine mg_Mo_2 hx hb hts hown hK hP q673 d_Mo_worthAt_1 ?_
  refine lv_bipush (v := (20 : Int32)) hx hb d_Mo_worthAt_4 (by decide) ?_
  refine lv_bipush (v := (6 : Int32)) hx hb d_Mo_worthAt_6 (by decide) ?_
  refine lv_iload_n hx hb d_Mo_worthAt_8 rfl (lv_at hl 1 rfl) ?_
  refine lv_imul hx hb d_Mo_worthAt_9 ?_
  refine lv_iadd hx hb d_Mo_worthAt_10 ?_
  refine lv_iload_n hx hb d_Mo_worthAt_11 rfl (lv_at hl 2 rfl) ?_
  refine lv_iadd hx hb d_Mo_worthAt_12 ?_
  obtain ⟨g13, hlit⟩ := gdP _ hlit
  refine mald2 hx hb hK hP (j := ((((20 : Int32) + ((6 : Int32) * p1)) + p2)).toNatClampNeg) rfl (vpin_c g13) d_Mo_worthAt_13 ?_
  obtain ⟨y14, ey14, hlit⟩ := bindS hlit
  refine topn ey14 ?_
  refine lv_istore (lv' := [(4, .int y14), (0, .ref (a 0)), (1, .int p1), (2, .int p2), (3, .int p3)]) hx hb d_Mo_worthAt_14 hl (by decide) rfl (fun ls hl => ?_)
  refine lv_iload hx hb d_Mo_worthAt_16 (lv_at hl 0 rfl) ?_
  refine lv_if_ne (tgt := 25) hx hb d_Mo_worthAt_18 (by decide) (fun c18 => ?_) (fun c18 => ?_)
  · have hlit := brN _ hlit c18
    refine lv_iload hx hb d_Mo_worthAt_25 (lv_at hl 0 rfl) ?_
    refine lv_iload_n hx hb d_Mo_worthAt_27 rfl (lv_at hl 4 rfl) ?_
    refine lv_aload_n hx hb d_Mo_worthAt_28 rfl (lv_at hl 1 rfl) ?_
    refine mg_Mo_2 hx hb hts hown hK hP q673 d_Mo_worthAt_29 ?_
    refine lv_iconst (v := (4 : Int32)) hx hb d_Mo_worthAt_32 (by decide) ?_
    refine mald2 hx hb hK hP (j := 4) rfl (vpin_c (by decide)) d_Mo_worthAt_33 ?_
    obtain ⟨g34, hlit⟩ := gdP _ hlit
    refine lv_idiv hx hb d_Mo_worthAt_34 g34 ?_
    refine lv_iadd hx hb d_Mo_worthAt_35 ?_
    exact b36 (y14 + (p3 / (h 2 4))) _ _ _ hlit hP hS (lv_sub hl [] rfl)
  · have hlit := brP _ hlit c18
    refine lv_iconst (v := (0 : Int32)) hx hb d_Mo_worthAt_21 (by decide) ?_
    refine lv_goto (tgt := 36) hx hb d_Mo_worthAt_22 (by decide) ?_
    exact b36 (0 : Int32) _ _ _ hlit hP hS (lv_sub hl [] rfl)

abbrev rm_m_Mo_mostOf : Room := { frames := 1, cells := 0, slots := 0, locals := 25 }
theorem hd_m_Mo_mostOf : y_Mo_mostOf.cls ≠ "java/lang/invoke/MethodHandle" ∧ y_Mo_mostOf.cls ≠ "java/lang/invoke/VarHandle" ∧ (parseMethodDescriptor y_Mo_mostOf.desc).map (fun d => d.parameters.length) = some 3 := by decide +kernel
set_option maxHeartbeats 4000000 in
set_option maxRecDepth 100000 in
theorem cm_Mo_mostOf (l : Launch) (E : mE) (a : Nat → Nat) (ha : xInj a 10) (h : Hp) (sz : Nat) (p1 : Int32) (p2 : Int32) (p3 : Int32) {r0 : Int32} (hlit : m_Mo_mostOf p1 p2 p3 h = some r0) : Met l y_Mo_mostOf (Cond.code y_Mo_mostOf b_Mo_mostOf 6 (some .int) :: TB) rm_m_Mo_mostOf (fPc [.ref (a 0), .int p1, .int p2, .int p3] E.1 (mtys E) sz (mV E a h)) (fQi (fun _ : Nat => True) r0 E.1 (fun (_ : Nat) => mV E a h) (xA a 10 sz)) 0 0 (xA a 10 sz) := by
  refine fl_startI (by decide) (Nat.le_of_ble_eq_true rfl) ?_
  intro p e s m args below meth c Q hx hb hml hown hts hsz hP hK hN ret ls hl
  subst hsz
  have hA : ∀ k, k < 10 → (xA a 10 s.heap.size) (a k) := xA_in
  have hS : va_S (xA a 10 s.heap.size) s.heap s.heap [] := va_S.rf
  have hl : lv_has ls 6 [(0, .ref (a 0)), (1, .int p1), (2, .int p2), (3, .int p3)] := hl
  have b14 : ∀ (n : Nat), ∀ (x4 : Int32) (x5 : Int32) (H : Heap) (locs : List Loc) (ls : Array Slot), m_Mo_mostOf_b14 p1 p2 p3 h n x4 x5 = some r0 → va_P E.1 xcl (mV E a h) H → va_S (xA a 10 s.heap.size) s.heap H locs → lv_has ls 6 [(0, .ref (a 0)), (1, .int p1), (2, .int p2), (3, .int p3), (4, .int x4), (5, .int x5)] → W p l e rm_m_Mo_mostOf s m args below meth c H locs 0 0 Q (F0 m 14 ls []) := by
    intro n
    induction n with
    | zero => intro x4 x5 H locs ls hlit hP hS hl; exact nnF hlit
    | succ n ih =>
      intro x4 x5 H locs ls hlit hP hS hl
      refine lv_iload hx hb d_Mo_mostOf_14 (lv_at hl 5 rfl) ?_
      refine lv_if_lt (tgt := 67) hx hb d_Mo_mostOf_16 (by decide) (fun c16 => ?_) (fun c16 => ?_)
      · have hlit := brP _ hlit c16
        refine lv_iload hx hb d_Mo_mostOf_67 (lv_at hl 4 rfl) ?_
        cases hlit
        exact ret 0 _ _ _ _ trivial hP hS rfl d_Mo_mostOf_69
      · have hlit := brN _ hlit c16
        refine lv_iload_n hx hb d_Mo_mostOf_19 rfl (lv_at hl 2 rfl) ?_
        refine lv_iload hx hb d_Mo_mostOf_20 (lv_at hl 5 rfl) ?_
        obtain ⟨r22, hl22, hlit⟩ := bindS hlit
        refine fCallI (fRunS (As := [.int p2, .int x5]) (rest := []) hx hb hml hown hts hK hN hP (cm_Mo_has l E a ha h _ p2 x5 (r0 := r22) hl22) q756 q757 q61 q758 hd_m_Mo_has rfl rfl ⟨Nat.le_of_ble_eq_true rfl, Nat.le_of_ble_eq_true rfl⟩ rfl hl.1 rfl (Nat.le_of_ble_eq_true rfl) d_Mo_mostOf_22 ⟨Nat.zero_le _, Nat.zero_le _⟩) hS (xA_up hS.1) (fun _ H locs hu22 hP hS _ _ => ?_)
        have hP : va_P E.1 xcl (mV E a h) H := hP
        refine lv_if_eq (tgt := 57) hx hb d_Mo_mostOf_25 (by decide) (fun c25 => ?_) (fun c25 => ?_)
        · have hlit := brP _ hlit c25
          refine lv_iload hx hb d_Mo_mostOf_57 (lv_at hl 4 rfl) ?_
          refine lv_istore (lv' := [(4, .int x4), (0, .ref (a 0)), (1, .int p1), (2, .int p2), (3, .int p3), (5, .int x5)]) hx hb d_Mo_mostOf_59 hl (by decide) rfl (fun ls hl => ?_)
          refine lv_iinc (v := (x5 + (-1 : Int32))) (lv' := [(5, .int (x5 + (-1 : Int32))), (4, .int x4), (0, .ref (a 0)), (1, .int p1), (2, .int p2), (3, .int p3)]) hx hb d_Mo_mostOf_61 hl (k := 5) rfl rfl (by decide) rfl (fun ls hl => ?_)
          refine lv_goto (tgt := 14) hx hb d_Mo_mostOf_64 (by decide) ?_
          exact ih x4 (x5 + (-1 : Int32)) _ _ _ hlit hP hS (lv_sub hl [2, 3, 4, 5, 1, 0] rfl)
        · have hlit := brN _ hlit c25
          refine lv_iload hx hb d_Mo_mostOf_28 (lv_at hl 4 rfl) ?_
          refine lv_if_lt (tgt := 52) hx hb d_Mo_mostOf_30 (by decide) (fun c30 => ?_) (fun c30 => ?_)
          · have hlit := brP _ hlit c30
            refine lv_iload hx hb d_Mo_mostOf_52 (lv_at hl 5 rfl) ?_
            refine lv_goto (tgt := 59) hx hb d_Mo_mostOf_54 (by decide) ?_
            refine lv_istore (lv' := [(4, .int x5), (0, .ref (a 0)), (1, .int p1), (2, .int p2), (3, .int p3), (5, .int x5)]) hx hb d_Mo_mostOf_59 hl (by decide) rfl (fun ls hl => ?_)
            refine lv_iinc (v := (x5 + (-1 : Int32))) (lv' := [(5, .int (x5 + (-1 : Int32))), (4, .int x5), (0, .ref (a 0)), (1, .int p1), (2, .int p2), (3, .int p3)]) hx hb d_Mo_mostOf_61 hl (k := 5) rfl rfl (by decide) rfl (fun ls hl => ?_)
            refine lv_goto (tgt := 14) hx hb d_Mo_mostOf_64 (by decide) ?_
            exact ih x5 (x5 + (-1 : Int32)) _ _ _ hlit hP hS (lv_sub hl [2, 3, 4, 5, 1, 0] rfl)
          · have hlit := brN _ hlit c30
            refine lv_aload_n hx hb d_Mo_mostOf_33 rfl (lv_at hl 0 rfl) ?_
            refine lv_iload_n hx hb d_Mo_mostOf_34 rfl (lv_at hl 1 rfl) ?_
            refine lv_iload hx hb d_Mo_mostOf_35 (lv_at hl 5 rfl) ?_
            refine lv_iload_n hx hb d_Mo_mostOf_37 rfl (lv_at hl 3 rfl) ?_
            obtain ⟨r38, hl38, hlit⟩ := bindS hlit
            refine fCallI (fRunV (As := [.int p1, .int x5, .int p3]) (rest := []) (q0 := 0) (ci := 8) hx hb hml hown hts hK hN hP (cm_Mo_worthAt l E a ha h _ p1 x5 p3 (r0 := r38) hl38) q759 q760 q34 q61 q761 hd_m_Mo_worthAt rfl rfl ⟨Nat.le_of_ble_eq_true rfl, Nat.le_of_ble_eq_true rfl⟩ me_0 rfl rfl rfl hl.1 rfl (Nat.le_of_ble_eq_true rfl) d_Mo_mostOf_38 ⟨Nat.zero_le _, Nat.zero_le _⟩) hS (xA_up hS.1) (fun _ H locs hu38 hP hS _ _ => ?_)
            have hP : va_P E.1 xcl (mV E a h) H := hP
            refine lv_aload_n hx hb d_Mo_mostOf_41 rfl (lv_at hl 0 rfl) ?_
            refine lv_iload_n hx hb d_Mo_mostOf_42 rfl (lv_at hl 1 rfl) ?_
            refine lv_iload hx hb d_Mo_mostOf_43 (lv_at hl 4 rfl) ?_
            refine lv_iload_n hx hb d_Mo_mostOf_45 rfl (lv_at hl 3 rfl) ?_
            obtain ⟨r46, hl46, hlit⟩ := bindS hlit
            refine fCallI (fRunV (As := [.int p1, .int x4, .int p3]) (rest := [.int r38]) (q0 := 0) (ci := 8) hx hb hml hown hts hK hN hP (cm_Mo_worthAt l E a ha h _ p1 x4 p3 (r0 := r46) hl46) q759 q760 q34 q61 q761 hd_m_Mo_worthAt rfl rfl ⟨Nat.le_of_ble_eq_true rfl, Nat.le_of_ble_eq_true rfl⟩ me_0 rfl rfl rfl hl.1 rfl (Nat.le_of_ble_eq_true rfl) d_Mo_mostOf_46 ⟨Nat.zero_le _, Nat.zero_le _⟩) hS (xA_up hS.1) (fun _ H locs hu46 hP hS _ _ => ?_)
            have hP : va_P E.1 xcl (mV E a h) H := hP
            refine lv_icmp_lt (tgt := 57) hx hb d_Mo_mostOf_49 (by decide) (fun c49 => ?_) (fun c49 => ?_)
            · have hlit := brP _ hlit c49
              refine lv_iload hx hb d_Mo_mostOf_57 (lv_at hl 4 rfl) ?_
              refine lv_istore (lv' := [(4, .int x4), (0, .ref (a 0)), (1, .int p1), (2, .int p2), (3, .int p3), (5, .int x5)]) hx hb d_Mo_mostOf_59 hl (by decide) rfl (fun ls hl => ?_)
              refine lv_iinc (v := (x5 + (-1 : Int32))) (lv' := [(5, .int (x5 + (-1 : Int32))), (4, .int x4), (0, .ref (a 0)), (1, .int p1), (2, .int p2), (3, .int p3)]) hx hb d_Mo_mostOf_61 hl (k := 5) rfl rfl (by decide) rfl (fun ls hl => ?_)
              refine lv_goto (tgt := 14) hx hb d_Mo_mostOf_64 (by decide) ?_
              exact ih x4 (x5 + (-1 : Int32)) _ _ _ hlit hP hS (lv_sub hl [2, 3, 4, 5, 1, 0] rfl)
            · have hlit := brN _ hlit c49
              refine lv_iload hx hb d_Mo_mostOf_52 (lv_at hl 5 rfl) ?_
              refine lv_goto (tgt := 59) hx hb d_Mo_mostOf_54 (by decide) ?_
              refine lv_istore (lv' := [(4, .int x5), (0, .ref (a 0)), (1, .int p1), (2, .int p2), (3, .int p3), (5, .int x5)]) hx hb d_Mo_mostOf_59 hl (by decide) rfl (fun ls hl => ?_)
              refine lv_iinc (v := (x5 + (-1 : Int32))) (lv' := [(5, .int (x5 + (-1 : Int32))), (4, .int x5), (0, .ref (a 0)), (1, .int p1), (2, .int p2), (3, .int p3)]) hx hb d_Mo_mostOf_61 hl (k := 5) rfl rfl (by decide) rfl (fun ls hl => ?_)
              refine lv_goto (tgt := 14) hx hb d_Mo_mostOf_64 (by decide) ?_
              exact ih x5 (x5 + (-1 : Int32)) _ _ _ hlit hP hS (lv_sub hl [2, 3, 4, 5, 1, 0] rfl)
  refine lv_bipush (v := (-4 : Int32)) hx hb d_Mo_mostOf_0 (by decide) ?_
  refine lv_istore (lv' := [(4, .int (-4 : Int32)), (0, .ref (a 0)), (1, .int p1), (2, .int p2), (3, .int p3)]) hx hb d_Mo_mostOf_2 hl (by decide) rfl (fun ls hl => ?_)
  refine lv_aload_n hx hb d_Mo_mostOf_4 rfl (lv_at hl 1 rfl) ?_
  refine mg_Mo_2 hx hb hts hown hK hP q673 d_Mo_mostOf_5 ?_
  refine lv_iconst (v := (0 : Int32)) hx hb d_Mo_mostOf_8 (by decide) ?_
  refine mald2 hx hb hK hP (j := 0) rfl (vpin_c (by decide)) d_Mo_mostOf_9 ?_
  refine lv_iconst (v := (1 : Int32)) hx hb d_Mo_mostOf_10 (by decide) ?_
  refine lv_isub hx hb d_Mo_mostOf_11 ?_
  obtain ⟨y12, ey12, hlit⟩ := bindS hlit
  refine topn ey12 ?_
  refine lv_istore (lv' := [(5, .int y12), (4, .int (-4 : Int32)), (0, .ref (a 0)), (1, .int p1), (2, .int p2), (3, .int p3)]) hx hb d_Mo_mostOf_12 hl (by decide) rfl (fun ls hl => ?_)
  exact b14 FU (-4 : Int32) y12 _ _ _ hlit hP hS (lv_sub hl [2, 3, 4, 5, 1, 0] rfl)

abbrev rm_m_Mo_leastOf : Room := { frames := 1, cells := 0, slots := 0, locals := 25 }
theorem hd_m_Mo_leastOf : y_Mo_leastOf.cls ≠ "java/lang/invoke/MethodHandle" ∧ y_Mo_leastOf.cls ≠ "java/lang/invoke/VarHandle" ∧ (parseMethodDescriptor y_Mo_leastOf.desc).map (fun d => d.parameters.length) = some 3 := by decide +kernel
set_option maxHeartbeats 4000000 in
set_option maxRecDepth 100000 in
theorem cm_Mo_leastOf (l : Launch) (E : mE) (a : Nat → Nat) (ha : xInj a 10) (h : Hp) (sz : Nat) (p1 : Int32) (p2 : Int32) (p3 : Int32) {r0 : Int32} (hlit : m_Mo_leastOf p1 p2 p3 h = some r0) : Met l y_Mo_leastOf (Cond.code y_Mo_leastOf b_Mo_leastOf 6 (some .int) :: TB) rm_m_Mo_leastOf (fPc [.ref (a 0), .int p1, .int p2, .int p3] E.1 (mtys E) sz (mV E a h)) (fQi (fun _ : Nat => True) r0 E.1 (fun (_ : Nat) => mV E a h) (xA a 10 sz)) 0 0 (xA a 10 sz) := by
  refine fl_startI (by decide) (Nat.le_of_ble_eq_true rfl) ?_
  intro p e s m args below meth c Q hx hb hml hown hts hsz hP hK hN ret ls hl
  subst hsz
  have hA : ∀ k, k < 10 → (xA a 10 s.heap.size) (a k) := xA_in
  have hS : va_S (xA a 10 s.heap.size) s.heap s.heap [] := va_S.rf
  have hl : lv_has ls 6 [(0, .ref (a 0)), (1, .int p1), (2, .int p2), (3, .int p3)] := hl
  have b7 : ∀ (n : Nat), ∀ (x4 : Int32) (x5 : Int32) (H : Heap) (locs : List Loc) (ls : Array Slot), m_Mo_leastOf_b7 p1 p2 p3 h n x4 x5 = some r0 → va_P E.1 xcl (mV E a h) H → va_S (xA a 10 s.heap.size) s.heap H locs → lv_has ls 6 [(0, .ref (a 0)), (1, .int p1), (2, .int p2), (3, .int p3), (4, .int x4), (5, .int x5)] → W p l e rm_m_Mo_leastOf s m args below meth c H locs 0 0 Q (F0 m 7 ls []) := by
    intro n
    induction n with
    | zero => intro x4 x5 H locs ls hlit hP hS hl; exact nnF hlit
    | succ n ih =>
      intro x4 x5 H locs ls hlit hP hS hl
      refine lv_iload hx hb d_Mo_leastOf_7 (lv_at hl 5 rfl) ?_
      refine lv_aload_n hx hb d_Mo_leastOf_9 rfl (lv_at hl 0 rfl) ?_
      refine mg_Mo_2 hx hb hts hown hK hP q673 d_Mo_leastOf_10 ?_
      refine lv_iconst (v := (0 : Int32)) hx hb d_Mo_leastOf_13 (by decide) ?_
      refine mald2 hx hb hK hP (j := 0) rfl (vpin_c (by decide)) d_Mo_leastOf_14 ?_
      refine lv_icmp_ge (tgt := 66) hx hb d_Mo_leastOf_15 (by decide) (fun c15 => ?_) (fun c15 => ?_)
      · have hlit := brP _ hlit c15
        refine lv_iload hx hb d_Mo_leastOf_66 (lv_at hl 4 rfl) ?_
        cases hlit
        exact ret 0 _ _ _ _ trivial hP hS rfl d_Mo_leastOf_68
      · have hlit := brN _ hlit c15
        refine lv_iload_n hx hb d_Mo_leastOf_18 rfl (lv_at hl 2 rfl) ?_
        refine lv_iload hx hb d_Mo_leastOf_19 (lv_at hl 5 rfl) ?_
        obtain ⟨r21, hl21, hlit⟩ := bindS hlit
        refine fCallI (fRunS (As := [.int p2, .int x5]) (rest := []) hx hb hml hown hts hK hN hP (cm_Mo_has l E a ha h _ p2 x5 (r0 := r21) hl21) q756 q757 q61 q758 hd_m_Mo_has rfl rfl ⟨Nat.le_of_ble_eq_true rfl, Nat.le_of_ble_eq_true rfl⟩ rfl hl.1 rfl (Nat.le_of_ble_eq_true rfl) d_Mo_leastOf_21 ⟨Nat.zero_le _, Nat.zero_le _⟩) hS (xA_up hS.1) (fun _ H locs hu21 hP hS _ _ => ?_)
        have hP : va_P E.1 xcl (mV E a h) H := hP
        refine lv_if_eq (tgt := 56) hx hb d_Mo_leastOf_24 (by decide) (fun c24 => ?_) (fun c24 => ?_)
        · have hlit := brP _ hlit c24
          refine lv_iload hx hb d_Mo_leastOf_56 (lv_at hl 4 rfl) ?_
          refine lv_istore (lv' := [(4, .int x4), (0, .ref (a 0)), (1, .int p1), (2, .int p2), (3, .int p3), (5, .int x5)]) hx hb d_Mo_leastOf_58 hl (by decide) rfl (fun ls hl => ?_)
          refine lv_iinc (v := (x5 + (1 : Int32))) (lv' := [(5, .int (x5 + (1 : Int32))), (4, .int x4), (0, .ref (a 0)), (1, .int p1), (2, .int p2), (3, .int p3)]) hx hb d_Mo_leastOf_60 hl (k := 5) rfl rfl (by decide) rfl (fun ls hl => ?_)
          refine lv_goto (tgt := 7) hx hb d_Mo_leastOf_63 (by decide) ?_
          exact ih x4 (x5 + (1 : Int32)) _ _ _ hlit hP hS (lv_sub hl [2, 3, 4, 5, 1, 0] rfl)
        · have hlit := brN _ hlit c24
          refine lv_iload hx hb d_Mo_leastOf_27 (lv_at hl 4 rfl) ?_
          refine lv_if_lt (tgt := 51) hx hb d_Mo_leastOf_29 (by decide) (fun c29 => ?_) (fun c29 => ?_)
          · have hlit := brP _ hlit c29
            refine lv_iload hx hb d_Mo_leastOf_51 (lv_at hl 5 rfl) ?_
            refine lv_goto (tgt := 58) hx hb d_Mo_leastOf_53 (by decide) ?_
            refine lv_istore (lv' := [(4, .int x5), (0, .ref (a 0)), (1, .int p1), (2, .int p2), (3, .int p3), (5, .int x5)]) hx hb d_Mo_leastOf_58 hl (by decide) rfl (fun ls hl => ?_)
            refine lv_iinc (v := (x5 + (1 : Int32))) (lv' := [(5, .int (x5 + (1 : Int32))), (4, .int x5), (0, .ref (a 0)), (1, .int p1), (2, .int p2), (3, .int p3)]) hx hb d_Mo_leastOf_60 hl (k := 5) rfl rfl (by decide) rfl (fun ls hl => ?_)
            refine lv_goto (tgt := 7) hx hb d_Mo_leastOf_63 (by decide) ?_
            exact ih x5 (x5 + (1 : Int32)) _ _ _ hlit hP hS (lv_sub hl [2, 3, 4, 5, 1, 0] rfl)
          · have hlit := brN _ hlit c29
            refine lv_aload_n hx hb d_Mo_leastOf_32 rfl (lv_at hl 0 rfl) ?_
            refine lv_iload_n hx hb d_Mo_leastOf_33 rfl (lv_at hl 1 rfl) ?_
            refine lv_iload hx hb d_Mo_leastOf_34 (lv_at hl 5 rfl) ?_
            refine lv_iload_n hx hb d_Mo_leastOf_36 rfl (lv_at hl 3 rfl) ?_
            obtain ⟨r37, hl37, hlit⟩ := bindS hlit
            refine fCallI (fRunV (As := [.int p1, .int x5, .int p3]) (rest := []) (q0 := 0) (ci := 8) hx hb hml hown hts hK hN hP (cm_Mo_worthAt l E a ha h _ p1 x5 p3 (r0 := r37) hl37) q759 q760 q34 q61 q761 hd_m_Mo_worthAt rfl rfl ⟨Nat.le_of_ble_eq_true rfl, Nat.le_of_ble_eq_true rfl⟩ me_0 rfl rfl rfl hl.1 rfl (Nat.le_of_ble_eq_true rfl) d_Mo_leastOf_37 ⟨Nat.zero_le _, Nat.zero_le _⟩) hS (xA_up hS.1) (fun _ H locs hu37 hP hS _ _ => ?_)
            have hP : va_P E.1 xcl (mV E a h) H := hP
            refine lv_aload_n hx hb d_Mo_leastOf_40 rfl (lv_at hl 0 rfl) ?_
            refine lv_iload_n hx hb d_Mo_leastOf_41 rfl (lv_at hl 1 rfl) ?_
            refine lv_iload hx hb d_Mo_leastOf_42 (lv_at hl 4 rfl) ?_
            refine lv_iload_n hx hb d_Mo_leastOf_44 rfl (lv_at hl 3 rfl) ?_
            obtain ⟨r45, hl45, hlit⟩ := bindS hlit
            refine fCallI (fRunV (As := [.int p1, .int x4, .int p3]) (rest := [.int r37]) (q0 := 0) (ci := 8) hx hb hml hown hts hK hN hP (cm_Mo_worthAt l E a ha h _ p1 x4 p3 (r0 := r45) hl45) q759 q760 q34 q61 q761 hd_m_Mo_worthAt rfl rfl ⟨Nat.le_of_ble_eq_true rfl, Nat.le_of_ble_eq_true rfl⟩ me_0 rfl rfl rfl hl.1 rfl (Nat.le_of_ble_eq_true rfl) d_Mo_leastOf_45 ⟨Nat.zero_le _, Nat.zero_le _⟩) hS (xA_up hS.1) (fun _ H locs hu45 hP hS _ _ => ?_)
            have hP : va_P E.1 xcl (mV E a h) H := hP
            refine lv_icmp_gt (tgt := 56) hx hb d_Mo_leastOf_48 (by decide) (fun c48 => ?_) (fun c48 => ?_)
            · have hlit := brP _ hlit c48
              refine lv_iload hx hb d_Mo_leastOf_56 (lv_at hl 4 rfl) ?_
              refine lv_istore (lv' := [(4, .int x4), (0, .ref (a 0)), (1, .int p1), (2, .int p2), (3, .int p3), (5, .int x5)]) hx hb d_Mo_leastOf_58 hl (by decide) rfl (fun ls hl => ?_)
              refine lv_iinc (v := (x5 + (1 : Int32))) (lv' := [(5, .int (x5 + (1 : Int32))), (4, .int x4), (0, .ref (a 0)), (1, .int p1), (2, .int p2), (3, .int p3)]) hx hb d_Mo_leastOf_60 hl (k := 5) rfl rfl (by decide) rfl (fun ls hl => ?_)
              refine lv_goto (tgt := 7) hx hb d_Mo_leastOf_63 (by decide) ?_
              exact ih x4 (x5 + (1 : Int32)) _ _ _ hlit hP hS (lv_sub hl [2, 3, 4, 5, 1, 0] rfl)
            · have hlit := brN _ hlit c48
              refine lv_iload hx hb d_Mo_leastOf_51 (lv_at hl 5 rfl) ?_
              refine lv_goto (tgt := 58) hx hb d_Mo_leastOf_53 (by decide) ?_
              refine lv_istore (lv' := [(4, .int x5), (0, .ref (a 0)), (1, .int p1), (2, .int p2), (3, .int p3), (5, .int x5)]) hx hb d_Mo_leastOf_58 hl (by decide) rfl (fun ls hl => ?_)
              refine lv_iinc (v := (x5 + (1 : Int32))) (lv' := [(5, .int (x5 + (1 : Int32))), (4, .int x5), (0, .ref (a 0)), (1, .int p1), (2, .int p2), (3, .int p3)]) hx hb d_Mo_leastOf_60 hl (k := 5) rfl rfl (by decide) rfl (fun ls hl => ?_)
              refine lv_goto (tgt := 7) hx hb d_Mo_leastOf_63 (by decide) ?_
              exact ih x5 (x5 + (1 : Int32)) _ _ _ hlit hP hS (lv_sub hl [2, 3, 4, 5, 1, 0] rfl)
  refine lv_bipush (v := (-4 : Int32)) hx hb d_Mo_leastOf_0 (by decide) ?_
  refine lv_istore (lv' := [(4, .int (-4 : Int32)), (0, .ref (a 0)), (1, .int p1), (2, .int p2), (3, .int p3)]) hx hb d_Mo_leastOf_2 hl (by decide) rfl (fun ls hl => ?_)
  refine lv_iconst (v := (0 : Int32)) hx hb d_Mo_leastOf_4 (by decide) ?_
  refine lv_istore (lv' := [(5, .int (0 : Int32)), (4, .int (-4 : Int32)), (0, .ref (a 0)), (1, .int p1), (2, .int p2), (3, .int p3)]) hx hb d_Mo_leastOf_5 hl (by decide) rfl (fun ls hl => ?_)
  exact b7 FU (-4 : Int32) (0 : Int32) _ _ _ hlit hP hS (lv_sub hl [2, 3, 4, 5, 1, 0] rfl)

abbrev rm_m_Mo_hasHeart : Room := { frames := 2, cells := 0, slots := 0, locals := 50 }
theorem hd_m_Mo_hasHeart : y_Mo_hasHeart.cls ≠ "java/lang/invoke/MethodHandle" ∧ y_Mo_hasHeart.cls ≠ "java/lang/invoke/VarHandle" ∧ (parseMethodDescriptor y_Mo_hasHeart.desc).map (fun d => d.parameters.length) = some 5 := by decide +kernel
set_option maxHeartbeats 4000000 in
set_option maxRecDepth 100000 in
theorem cm_Mo_hasHeart (l : Launch) (E : mE) (a : Nat → Nat) (ha : xInj a 10) (h : Hp) (sz : Nat) (p1 : Int32) (p2 : Int32) (p3 : Int32) (p4 : Int32) (p5 : Int32) {r0 : Int32} (hlit : m_Mo_hasHeart p1 p2 p3 p4 p5 h = some r0) : Met l y_Mo_hasHeart (Cond.code y_Mo_hasHeart b_Mo_hasHeart 7 (some .boolean) :: TB) rm_m_Mo_hasHeart (fPc [.ref (a 0), .int p1, .int p2, .int p3, .int p4, .int p5] E.1 (mtys E) sz (mV E a h)) (fQi (fun _ : Nat => True) r0 E.1 (fun (_ : Nat) => mV E a h) (xA a 10 sz)) 0 0 (xA a 10 sz) := by
  refine fl_startI (by decide) (Nat.le_of_ble_eq_true rfl) ?_
  intro p e s m args below meth c Q hx hb hml hown hts hsz hP hK hN ret ls hl
  subst hsz
  have hA : ∀ k, k < 10 → (xA a 10 s.heap.size) (a k) := xA_in
  have hS : va_S (xA a 10 s.heap.size) s.heap s.heap [] := va_S.rf
  have hl : lv_has ls 7 [(0, .ref (a 0)), (1, .int p1), (2, .int p2), (3, .int p3), (4, .int p4), (5, .int p5)] := hl
  refine lv_iload hx hb d_Mo_hasHeart_0 (lv_at hl 5 rfl) ?_
  refine lv_iload_n hx hb d_Mo_hasHeart_2 rfl (lv_at hl 3 rfl) ?_
  obtain ⟨r3, hl3, hlit⟩ := bindS hlit
  refine fCallI (fRunS (As := [.int p5, .int p3]) (rest := []) hx hb hml hown hts hK hN hP (cm_Mo_has l E a ha h _ p5 p3 (r0 := r3) hl3) q756 q757 q61 q758 hd_m_Mo_has rfl rfl ⟨Nat.le_of_ble_eq_true rfl, Nat.le_of_ble_eq_true rfl⟩ rfl hl.1 rfl (Nat.le_of_ble_eq_true rfl) d_Mo_hasHeart_3 ⟨Nat.zero_le _, Nat.zero_le _⟩) hS (xA_up hS.1) (fun _ H locs hu3 hP hS _ _ => ?_)
  have hP : va_P E.1 xcl (mV E a h) H := hP
  refine lv_if_eq (tgt := 11) hx hb d_Mo_hasHeart_6 (by decide) (fun c6 => ?_) (fun c6 => ?_)
  · have hlit := brP _ hlit c6
    refine lv_aload_n hx hb d_Mo_hasHeart_11 rfl (lv_at hl 0 rfl) ?_
    refine lv_iload_n hx hb d_Mo_hasHeart_12 rfl (lv_at hl 2 rfl) ?_
    refine lv_iload_n hx hb d_Mo_hasHeart_13 rfl (lv_at hl 3 rfl) ?_
    refine lv_iload hx hb d_Mo_hasHeart_14 (lv_at hl 4 rfl) ?_
    obtain ⟨r16, hl16, hlit⟩ := bindS hlit
    refine fCallI (fRunV (As := [.int p2, .int p3, .int p4]) (rest := []) (q0 := 0) (ci := 8) hx hb hml hown hts hK hN hP (cm_Mo_worthAt l E a ha h _ p2 p3 p4 (r0 := r16) hl16) q759 q760 q34 q61 q761 hd_m_Mo_worthAt rfl rfl ⟨Nat.le_of_ble_eq_true rfl, Nat.le_of_ble_eq_true rfl⟩ me_0 rfl rfl rfl hl.1 rfl (Nat.le_of_ble_eq_true rfl) d_Mo_hasHeart_16 ⟨Nat.zero_le _, Nat.zero_le _⟩) hS (xA_up hS.1) (fun _ H locs hu16 hP hS _ _ => ?_)
    have hP : va_P E.1 xcl (mV E a h) H := hP
    refine lv_istore (lv' := [(6, .int r16), (0, .ref (a 0)), (1, .int p1), (2, .int p2), (3, .int p3), (4, .int p4), (5, .int p5)]) hx hb d_Mo_hasHeart_19 hl (by decide) rfl (fun ls hl => ?_)
    refine lv_iload_n hx hb d_Mo_hasHeart_21 rfl (lv_at hl 2 rfl) ?_
    refine lv_if_ne (tgt := 39) hx hb d_Mo_hasHeart_22 (by decide) (fun c22 => ?_) (fun c22 => ?_)
    · have hlit := brN _ hlit c22
      refine lv_iload_n hx hb d_Mo_hasHeart_39 rfl (lv_at hl 2 rfl) ?_
      refine lv_iconst (v := (1 : Int32)) hx hb d_Mo_hasHeart_40 (by decide) ?_
      refine lv_icmp_eq (tgt := 71) hx hb d_Mo_hasHeart_41 (by decide) (fun c41 => ?_) (fun c41 => ?_)
      · have hlit := brP _ hlit c41
        refine lv_iconst (v := (1 : Int32)) hx hb d_Mo_hasHeart_71 (by decide) ?_
        refine lv_goto (tgt := 76) hx hb d_Mo_hasHeart_72 (by decide) ?_
        cases hlit
        exact ret 0 _ _ _ _ trivial hP hS rfl d_Mo_hasHeart_76
      · have hlit := brN _ hlit c41
        refine lv_iload_n hx hb d_Mo_hasHeart_44 rfl (lv_at hl 2 rfl) ?_
        refine lv_iconst (v := (3 : Int32)) hx hb d_Mo_hasHeart_45 (by decide) ?_
        refine lv_icmp_ne (tgt := 75) hx hb d_Mo_hasHeart_46 (by decide) (fun c46 => ?_) (fun c46 => ?_)
        · have hlit := brN _ hlit c46
          refine lv_iconst (v := (0 : Int32)) hx hb d_Mo_hasHeart_75 (by decide) ?_
          cases hlit
          exact ret 0 _ _ _ _ trivial hP hS rfl d_Mo_hasHeart_76
        · have hlit := brP _ hlit c46
          refine lv_iload hx hb d_Mo_hasHeart_49 (lv_at hl 0 rfl) ?_
          refine lv_if_le (tgt := 75) hx hb d_Mo_hasHeart_51 (by decide) (fun c51 => ?_) (fun c51 => ?_)
          · have hlit := brP _ hlit c51
            refine lv_iconst (v := (0 : Int32)) hx hb d_Mo_hasHeart_75 (by decide) ?_
            cases hlit
            exact ret 0 _ _ _ _ trivial hP hS rfl d_Mo_hasHeart_76
          · have hlit := brN _ hlit c51
            refine lv_aload_n hx hb d_Mo_hasHeart_54 rfl (lv_at hl 1 rfl) ?_
            refine lv_iload_n hx hb d_Mo_hasHeart_55 rfl (lv_at hl 3 rfl) ?_
            refine lv_aload_n hx hb d_Mo_hasHeart_56 rfl (lv_at hl 1 rfl) ?_
            refine lv_iload hx hb d_Mo_hasHeart_57 (lv_at hl 6 rfl) ?_
            obtain ⟨r59, hl59, hlit⟩ := bindS hlit
            refine fCallI (fRunV (As := [.int p5]) (rest := [.int p2, .ref (a 0)]) (q0 := 0) (ci := 8) hx hb hml hown hts hK hN hP (cm_Mo_leftBy l E a ha h _ p5 (r0 := r59) hl59) q762 q763 q35 q61 q764 hd_m_Mo_leftBy rfl rfl ⟨Nat.le_of_ble_eq_true rfl, Nat.le_of_ble_eq_true rfl⟩ me_0 rfl rfl rfl hl.1 rfl (Nat.le_of_ble_eq_true rfl) d_Mo_hasHeart_59 ⟨Nat.zero_le _, Nat.zero_le _⟩) hS (xA_up hS.1) (fun _ H locs hu59 hP hS _ _ => ?_)
            have hP : va_P E.1 xcl (mV E a h) H := hP
            refine lv_iload hx hb d_Mo_hasHeart_62 (lv_at hl 5 rfl) ?_
            obtain ⟨r64, hl64, hlit⟩ := bindS hlit
            refine fCallI (fRunV (As := [.int p2, .int r59, .int p4]) (rest := []) (q0 := 0) (ci := 8) hx hb hml hown hts hK hN hP (cm_Mo_mostOf l E a ha h _ p2 r59 p4 (r0 := r64) hl64) q765 q766 q36 q61 q767 hd_m_Mo_mostOf rfl rfl ⟨Nat.le_of_ble_eq_true rfl, Nat.le_of_ble_eq_true rfl⟩ me_0 rfl rfl rfl hl.1 rfl (Nat.le_of_ble_eq_true rfl) d_Mo_hasHeart_64 ⟨Nat.zero_le _, Nat.zero_le _⟩) hS (xA_up hS.1) (fun _ H locs hu64 hP hS _ _ => ?_)
            have hP : va_P E.1 xcl (mV E a h) H := hP
            refine lv_iload_n hx hb d_Mo_hasHeart_67 rfl (lv_at hl 4 rfl) ?_
            refine lv_icmp_ne (tgt := 75) hx hb d_Mo_hasHeart_68 (by decide) (fun c68 => ?_) (fun c68 => ?_)
            · have hlit := brN _ hlit c68
              refine lv_iconst (v := (0 : Int32)) hx hb d_Mo_hasHeart_75 (by decide) ?_
              cases hlit
              exact ret 0 _ _ _ _ trivial hP hS rfl d_Mo_hasHeart_76
            · have hlit := brP _ hlit c68
              refine lv_iconst (v := (1 : Int32)) hx hb d_Mo_hasHeart_71 (by decide) ?_
              refine lv_goto (tgt := 76) hx hb d_Mo_hasHeart_72 (by decide) ?_
              cases hlit
              exact ret 0 _ _ _ _ trivial hP hS rfl d_Mo_hasHeart_76
    · have hlit := brP _ hlit c22
      refine lv_iload hx hb d_Mo_hasHeart_25 (lv_at hl 0 rfl) ?_
      refine lv_iconst (v := (4 : Int32)) hx hb d_Mo_hasHeart_27 (by decide) ?_
      refine lv_icmp_le (tgt := 35) hx hb d_Mo_hasHeart_28 (by decide) (fun c28 => ?_) (fun c28 => ?_)
      · have hlit := brP _ hlit c28
        refine lv_iconst (v := (0 : Int32)) hx hb d_Mo_hasHeart_35 (by decide) ?_
        refine lv_goto (tgt := 76) hx hb d_Mo_hasHeart_36 (by decide) ?_
        cases hlit
        exact ret 0 _ _ _ _ trivial hP hS rfl d_Mo_hasHeart_76
      · have hlit := brN _ hlit c28
        refine lv_iconst (v := (1 : Int32)) hx hb d_Mo_hasHeart_31 (by decide) ?_
        refine lv_goto (tgt := 76) hx hb d_Mo_hasHeart_32 (by decide) ?_
        cases hlit
        exact ret 0 _ _ _ _ trivial hP hS rfl d_Mo_hasHeart_76
  · have hlit := brN _ hlit c6
    refine lv_iconst (v := (0 : Int32)) hx hb d_Mo_hasHeart_9 (by decide) ?_
    cases hlit
    exact ret 0 _ _ _ _ trivial hP hS rfl d_Mo_hasHeart_10

abbrev rm_m_Mo_sumOf : Room := { frames := 1, cells := 0, slots := 0, locals := 25 }
theorem hd_m_Mo_sumOf : y_Mo_sumOf.cls ≠ "java/lang/invoke/MethodHandle" ∧ y_Mo_sumOf.cls ≠ "java/lang/invoke/VarHandle" ∧ (parseMethodDescriptor y_Mo_sumOf.desc).map (fun d => d.parameters.length) = some 3 := by decide +kernel
set_option maxHeartbeats 4000000 in
set_option maxRecDepth 100000 in
theorem cm_Mo_sumOf (l : Launch) (E : mE) (a : Nat → Nat) (ha : xInj a 10) (h : Hp) (sz : Nat) (p1 : Int32) (p2 : Int32) (p3 : Int32) {r0 : Int32} (hlit : m_Mo_sumOf p1 p2 p3 h = some r0) : Met l y_Mo_sumOf (Cond.code y_Mo_sumOf b_Mo_sumOf 6 (some .int) :: TB) rm_m_Mo_sumOf (fPc [.ref (a 0), .int p1, .int p2, .int p3] E.1 (mtys E) sz (mV E a h)) (fQi (fun _ : Nat => True) r0 E.1 (fun (_ : Nat) => mV E a h) (xA a 10 sz)) 0 0 (xA a 10 sz) := by
  refine fl_startI (by decide) (Nat.le_of_ble_eq_true rfl) ?_
  intro p e s m args below meth c Q hx hb hml hown hts hsz hP hK hN ret ls hl
  subst hsz
  have hA : ∀ k, k < 10 → (xA a 10 s.heap.size) (a k) := xA_in
  have hS : va_S (xA a 10 s.heap.size) s.heap s.heap [] := va_S.rf
  have hl : lv_has ls 6 [(0, .ref (a 0)), (1, .int p1), (2, .int p2), (3, .int p3)] := hl
  have b6 : ∀ (n : Nat), ∀ (x4 : Int32) (x5 : Int32) (H : Heap) (locs : List Loc) (ls : Array Slot), m_Mo_sumOf_b6 p1 p2 p3 h n x4 x5 = some r0 → va_P E.1 xcl (mV E a h) H → va_S (xA a 10 s.heap.size) s.heap H locs → lv_has ls 6 [(0, .ref (a 0)), (1, .int p1), (2, .int p2), (3, .int p3), (4, .int x4), (5, .int x5)] → W p l e rm_m_Mo_sumOf s m args below meth c H locs 0 0 Q (F0 m 6 ls []) := by
    intro n
    induction n with
    | zero => intro x4 x5 H locs ls hlit hP hS hl; exact nnF hlit
    | succ n ih =>
      intro x4 x5 H locs ls hlit hP hS hl
      refine lv_iload hx hb d_Mo_sumOf_6 (lv_at hl 5 rfl) ?_
      refine lv_aload_n hx hb d_Mo_sumOf_8 rfl (lv_at hl 0 rfl) ?_
      refine mg_Mo_2 hx hb hts hown hK hP q673 d_Mo_sumOf_9 ?_
      refine lv_iconst (v := (1 : Int32)) hx hb d_Mo_sumOf_12 (by decide) ?_
      refine mald2 hx hb hK hP (j := 1) rfl (vpin_c (by decide)) d_Mo_sumOf_13 ?_
      refine lv_icmp_ge (tgt := 46) hx hb d_Mo_sumOf_14 (by decide) (fun c14 => ?_) (fun c14 => ?_)
      · have hlit := brP _ hlit c14
        refine lv_iload hx hb d_Mo_sumOf_46 (lv_at hl 4 rfl) ?_
        cases hlit
        exact ret 0 _ _ _ _ trivial hP hS rfl d_Mo_sumOf_48
      · have hlit := brN _ hlit c14
        refine lv_iload hx hb d_Mo_sumOf_17 (lv_at hl 4 rfl) ?_
        refine lv_iload hx hb d_Mo_sumOf_19 (lv_at hl 5 rfl) ?_
        refine lv_iload_n hx hb d_Mo_sumOf_21 rfl (lv_at hl 3 rfl) ?_
        refine lv_icmp_ne (tgt := 29) hx hb d_Mo_sumOf_22 (by decide) (fun c22 => ?_) (fun c22 => ?_)
        · have hlit := brN _ hlit c22
          refine lv_aload_n hx hb d_Mo_sumOf_29 rfl (lv_at hl 0 rfl) ?_
          refine lv_iload hx hb d_Mo_sumOf_30 (lv_at hl 5 rfl) ?_
          refine lv_iload_n hx hb d_Mo_sumOf_32 rfl (lv_at hl 1 rfl) ?_
          refine lv_iload_n hx hb d_Mo_sumOf_33 rfl (lv_at hl 2 rfl) ?_
          obtain ⟨r34, hl34, hlit⟩ := bindS hlit
          refine fCallI (fRunV (As := [.int x5, .int p1, .int p2]) (rest := [.int x4]) (q0 := 0) (ci := 8) hx hb hml hown hts hK hN hP (cm_Mo_worthAt l E a ha h _ x5 p1 p2 (r0 := r34) hl34) q759 q760 q34 q61 q761 hd_m_Mo_worthAt rfl rfl ⟨Nat.le_of_ble_eq_true rfl, Nat.le_of_ble_eq_true rfl⟩ me_0 rfl rfl rfl hl.1 rfl (Nat.le_of_ble_eq_true rfl) d_Mo_sumOf_34 ⟨Nat.zero_le _, Nat.zero_le _⟩) hS (xA_up hS.1) (fun _ H locs hu34 hP hS _ _ => ?_)
          have hP : va_P E.1 xcl (mV E a h) H := hP
          refine lv_iadd hx hb d_Mo_sumOf_37 ?_
          obtain ⟨y38, ey38, hlit⟩ := bindS hlit
          refine topn ey38 ?_
          refine lv_istore (lv' := [(4, .int y38), (0, .ref (a 0)), (1, .int p1), (2, .int p2), (3, .int p3), (5, .int x5)]) hx hb d_Mo_sumOf_38 hl (by decide) rfl (fun ls hl => ?_)
          refine lv_iinc (v := (x5 + (1 : Int32))) (lv' := [(5, .int (x5 + (1 : Int32))), (4, .int y38), (0, .ref (a 0)), (1, .int p1), (2, .int p2), (3, .int p3)]) hx hb d_Mo_sumOf_40 hl (k := 5) rfl rfl (by decide) rfl (fun ls hl => ?_)
          refine lv_goto (tgt := 6) hx hb d_Mo_sumOf_43 (by decide) ?_
          exact ih y38 (x5 + (1 : Int32)) _ _ _ hlit hP hS (lv_sub hl [2, 3, 4, 5, 1, 0] rfl)
        · have hlit := brP _ hlit c22
          refine lv_iconst (v := (0 : Int32)) hx hb d_Mo_sumOf_25 (by decide) ?_
          refine lv_goto (tgt := 37) hx hb d_Mo_sumOf_26 (by decide) ?_
          refine lv_iadd hx hb d_Mo_sumOf_37 ?_
          obtain ⟨y38, ey38, hlit⟩ := bindS hlit
          refine topn ey38 ?_
          refine lv_istore (lv' := [(4, .int y38), (0, .ref (a 0)), (1, .int p1), (2, .int p2), (3, .int p3), (5, .int x5)]) hx hb d_Mo_sumOf_38 hl (by decide) rfl (fun ls hl => ?_)
          refine lv_iinc (v := (x5 + (1 : Int32))) (lv' := [(5, .int (x5 + (1 : Int32))), (4, .int y38), (0, .ref (a 0)), (1, .int p1), (2, .int p2), (3, .int p3)]) hx hb d_Mo_sumOf_40 hl (k := 5) rfl rfl (by decide) rfl (fun ls hl => ?_)
          refine lv_goto (tgt := 6) hx hb d_Mo_sumOf_43 (by decide) ?_
          exact ih y38 (x5 + (1 : Int32)) _ _ _ hlit hP hS (lv_sub hl [2, 3, 4, 5, 1, 0] rfl)
  refine lv_iconst (v := (0 : Int32)) hx hb d_Mo_sumOf_0 (by decide) ?_
  refine lv_istore (lv' := [(4, .int (0 : Int32)), (0, .ref (a 0)), (1, .int p1), (2, .int p2), (3, .int p3)]) hx hb d_Mo_sumOf_1 hl (by decide) rfl (fun ls hl => ?_)
  refine lv_iconst (v := (0 : Int32)) hx hb d_Mo_sumOf_3 (by decide) ?_
  refine lv_istore (lv' := [(5, .int (0 : Int32)), (4, .int (0 : Int32)), (0, .ref (a 0)), (1, .int p1), (2, .int p2), (3, .int p3)]) hx hb d_Mo_sumOf_4 hl (by decide) rfl (fun ls hl => ?_)
  exact b6 FU (0 : Int32) (0 : Int32) _ _ _ hlit hP hS (lv_sub hl [2, 3, 4, 5, 1, 0] rfl)

abbrev rm_m_Mo_mostToAll : Room := { frames := 2, cells := 0, slots := 0, locals := 50 }
theorem hd_m_Mo_mostToAll : y_Mo_mostToAll.cls ≠ "java/lang/invoke/MethodHandle" ∧ y_Mo_mostToAll.cls ≠ "java/lang/invoke/VarHandle" ∧ (parseMethodDescriptor y_Mo_mostToAll.desc).map (fun d => d.parameters.length) = some 3 := by decide +kernel
set_option maxHeartbeats 4000000 in
set_option maxRecDepth 100000 in
theorem cm_Mo_mostToAll (l : Launch) (E : mE) (a : Nat → Nat) (ha : xInj a 10) (h : Hp) (sz : Nat) (p1 : Int32) (p2 : Int32) (p3 : Int32) {r0 : Int32} (hlit : m_Mo_mostToAll p1 p2 p3 h = some r0) : Met l y_Mo_mostToAll (Cond.code y_Mo_mostToAll b_Mo_mostToAll 8 (some .int) :: TB) rm_m_Mo_mostToAll (fPc [.ref (a 0), .int p1, .int p2, .int p3] E.1 (mtys E) sz (mV E a h)) (fQi (fun _ : Nat => True) r0 E.1 (fun (_ : Nat) => mV E a h) (xA a 10 sz)) 0 0 (xA a 10 sz) := by
  refine fl_startI (by decide) (Nat.le_of_ble_eq_true rfl) ?_
  intro p e s m args below meth c Q hx hb hml hown hts hsz hP hK hN ret ls hl
  subst hsz
  have hA : ∀ k, k < 10 → (xA a 10 s.heap.size) (a k) := xA_in
  have hS : va_S (xA a 10 s.heap.size) s.heap s.heap [] := va_S.rf
  have hl : lv_has ls 8 [(0, .ref (a 0)), (1, .int p1), (2, .int p2), (3, .int p3)] := hl
  have b60 : ∀ (k11 : Int32 → Int32 → Int32 → Option Int32), (∀ (x4 : Int32) (x5 : Int32) (x6 : Int32) (H : Heap) (locs : List Loc) (ls : Array Slot), k11 x4 x5 x6 = some r0 → va_P E.1 xcl (mV E a h) H → va_S (xA a 10 s.heap.size) s.heap H locs → lv_has ls 8 [(0, .ref (a 0)), (1, .int p1), (2, .int p2), (3, .int p3), (4, .int x4), (5, .int x5), (6, .int x6)] → W p l e rm_m_Mo_mostToAll s m args below meth c H locs 0 0 Q (F0 m 11 ls [])) → ∀ (x5 : Int32) (x6 : Int32) (x7 : Int32) (s0 : Int32) (H : Heap) (locs : List Loc) (ls : Array Slot), m_Mo_mostToAll_b60 k11 p1 p2 p3 h x5 x6 x7 s0 = some r0 → va_P E.1 xcl (mV E a h) H → va_S (xA a 10 s.heap.size) s.heap H locs → lv_has ls 8 [(0, .ref (a 0)), (1, .int p1), (2, .int p2), (3, .int p3), (5, .int x5), (6, .int x6), (7, .int x7)] → W p l e rm_m_Mo_mostToAll s m args below meth c H locs 0 0 Q (F0 m 60 ls [.int s0]) := by
    intro k11 hk11 x5 x6 x7 s0 H locs ls hlit hP hS hl
    refine lv_istore (lv' := [(4, .int s0), (0, .ref (a 0)), (1, .int p1), (2, .int p2), (3, .int p3), (5, .int x5), (6, .int x6), (7, .int x7)]) hx hb d_Mo_mostToAll_60 hl (by decide) rfl (fun ls hl => ?_)
    refine lv_iload hx hb d_Mo_mostToAll_62 (lv_at hl 7 rfl) ?_
    refine lv_iload hx hb d_Mo_mostToAll_64 (lv_at hl 5 rfl) ?_
    refine lv_icmp_le (tgt := 74) hx hb d_Mo_mostToAll_66 (by decide) (fun c66 => ?_) (fun c66 => ?_)
    · have hlit := brP _ hlit c66
      refine lv_iload hx hb d_Mo_mostToAll_74 (lv_at hl 5 rfl) ?_
      refine lv_istore (lv' := [(5, .int x5), (4, .int s0), (0, .ref (a 0)), (1, .int p1), (2, .int p2), (3, .int p3), (6, .int x6), (7, .int x7)]) hx hb d_Mo_mostToAll_76 hl (by decide) rfl (fun ls hl => ?_)
      refine lv_iinc (v := (x6 + (1 : Int32))) (lv' := [(6, .int (x6 + (1 : Int32))), (5, .int x5), (4, .int s0), (0, .ref (a 0)), (1, .int p1), (2, .int p2), (3, .int p3), (7, .int x7)]) hx hb d_Mo_mostToAll_78 hl (k := 6) rfl rfl (by decide) rfl (fun ls hl => ?_)
      refine lv_goto (tgt := 11) hx hb d_Mo_mostToAll_81 (by decide) ?_
      exact hk11 s0 x5 (x6 + (1 : Int32)) _ _ _ hlit hP hS (lv_sub hl [3, 4, 5, 6, 2, 1, 0] rfl)
    · have hlit := brN _ hlit c66
      refine lv_iload hx hb d_Mo_mostToAll_69 (lv_at hl 7 rfl) ?_
      refine lv_goto (tgt := 76) hx hb d_Mo_mostToAll_71 (by decide) ?_
      refine lv_istore (lv' := [(5, .int x7), (4, .int s0), (0, .ref (a 0)), (1, .int p1), (2, .int p2), (3, .int p3), (6, .int x6), (7, .int x7)]) hx hb d_Mo_mostToAll_76 hl (by decide) rfl (fun ls hl => ?_)
      refine lv_iinc (v := (x6 + (1 : Int32))) (lv' := [(6, .int (x6 + (1 : Int32))), (5, .int x7), (4, .int s0), (0, .ref (a 0)), (1, .int p1), (2, .int p2), (3, .int p3), (7, .int x7)]) hx hb d_Mo_mostToAll_78 hl (k := 6) rfl rfl (by decide) rfl (fun ls hl => ?_)
      refine lv_goto (tgt := 11) hx hb d_Mo_mostToAll_81 (by decide) ?_
      exact hk11 s0 x7 (x6 + (1 : Int32)) _ _ _ hlit hP hS (lv_sub hl [3, 4, 5, 6, 2, 1, 0] rfl)
  have b44 : ∀ (k11 : Int32 → Int32 → Int32 → Option Int32), (∀ (x4 : Int32) (x5 : Int32) (x6 : Int32) (H : Heap) (locs : List Loc) (ls : Array Slot), k11 x4 x5 x6 = some r0 → va_P E.1 xcl (mV E a h) H → va_S (xA a 10 s.heap.size) s.heap H locs → lv_has ls 8 [(0, .ref (a 0)), (1, .int p1), (2, .int p2), (3, .int p3), (4, .int x4), (5, .int x5), (6, .int x6)] → W p l e rm_m_Mo_mostToAll s m args below meth c H locs 0 0 Q (F0 m 11 ls [])) → ∀ (x4 : Int32) (x5 : Int32) (x6 : Int32) (s0 : Int32) (H : Heap) (locs : List Loc) (ls : Array Slot), m_Mo_mostToAll_b44 k11 p1 p2 p3 h x4 x5 x6 s0 = some r0 → va_P E.1 xcl (mV E a h) H → va_S (xA a 10 s.heap.size) s.heap H locs → lv_has ls 8 [(0, .ref (a 0)), (1, .int p1), (2, .int p2), (3, .int p3), (4, .int x4), (5, .int x5), (6, .int x6)] → W p l e rm_m_Mo_mostToAll s m args below meth c H locs 0 0 Q (F0 m 44 ls [.int s0]) := by
    intro k11 hk11 x4 x5 x6 s0 H locs ls hlit hP hS hl
    refine lv_istore (lv' := [(7, .int s0), (0, .ref (a 0)), (1, .int p1), (2, .int p2), (3, .int p3), (4, .int x4), (5, .int x5), (6, .int x6)]) hx hb d_Mo_mostToAll_44 hl (by decide) rfl (fun ls hl => ?_)
    refine lv_iload hx hb d_Mo_mostToAll_46 (lv_at hl 0 rfl) ?_
    refine lv_iload hx hb d_Mo_mostToAll_48 (lv_at hl 6 rfl) ?_
    refine lv_icmp_le (tgt := 58) hx hb d_Mo_mostToAll_50 (by decide) (fun c50 => ?_) (fun c50 => ?_)
    · have hlit := brP _ hlit c50
      refine lv_iload hx hb d_Mo_mostToAll_58 (lv_at hl 5 rfl) ?_
      exact b60 (k11) hk11 x5 x6 s0 x4 _ _ _ hlit hP hS (lv_sub hl [1, 2, 3, 4, 6, 7, 0] rfl)
    · have hlit := brN _ hlit c50
      refine lv_iload hx hb d_Mo_mostToAll_53 (lv_at hl 7 rfl) ?_
      refine lv_goto (tgt := 60) hx hb d_Mo_mostToAll_55 (by decide) ?_
      exact b60 (k11) hk11 x5 x6 s0 x6 _ _ _ hlit hP hS (lv_sub hl [1, 2, 3, 4, 6, 7, 0] rfl)
  have b11 : ∀ (n : Nat), ∀ (x4 : Int32) (x5 : Int32) (x6 : Int32) (H : Heap) (locs : List Loc) (ls : Array Slot), m_Mo_mostToAll_b11 p1 p2 p3 h n x4 x5 x6 = some r0 → va_P E.1 xcl (mV E a h) H → va_S (xA a 10 s.heap.size) s.heap H locs → lv_has ls 8 [(0, .ref (a 0)), (1, .int p1), (2, .int p2), (3, .int p3), (4, .int x4), (5, .int x5), (6, .int x6)] → W p l e rm_m_Mo_mostToAll s m args below meth c H locs 0 0 Q (F0 m 11 ls []) := by
    intro n
    induction n with
    | zero => intro x4 x5 x6 H locs ls hlit hP hS hl; exact nnF hlit
    | succ n ih =>
      intro x4 x5 x6 H locs ls hlit hP hS hl
      refine lv_iload hx hb d_Mo_mostToAll_11 (lv_at hl 6 rfl) ?_
      refine lv_aload_n hx hb d_Mo_mostToAll_13 rfl (lv_at hl 0 rfl) ?_
      refine mg_Mo_2 hx hb hts hown hK hP q673 d_Mo_mostToAll_14 ?_
      refine lv_iconst (v := (0 : Int32)) hx hb d_Mo_mostToAll_17 (by decide) ?_
      refine mald2 hx hb hK hP (j := 0) rfl (vpin_c (by decide)) d_Mo_mostToAll_18 ?_
      refine lv_icmp_ge (tgt := 84) hx hb d_Mo_mostToAll_19 (by decide) (fun c19 => ?_) (fun c19 => ?_)
      · have hlit := brP _ hlit c19
        refine lv_iload hx hb d_Mo_mostToAll_84 (lv_at hl 4 rfl) ?_
        cases hlit
        exact ret 0 _ _ _ _ trivial hP hS rfl d_Mo_mostToAll_86
      · have hlit := brN _ hlit c19
        refine lv_iload_n hx hb d_Mo_mostToAll_22 rfl (lv_at hl 1 rfl) ?_
        refine lv_iload hx hb d_Mo_mostToAll_23 (lv_at hl 6 rfl) ?_
        obtain ⟨r25, hl25, hlit⟩ := bindS hlit
        refine fCallI (fRunS (As := [.int p1, .int x6]) (rest := []) hx hb hml hown hts hK hN hP (cm_Mo_has l E a ha h _ p1 x6 (r0 := r25) hl25) q756 q757 q61 q758 hd_m_Mo_has rfl rfl ⟨Nat.le_of_ble_eq_true rfl, Nat.le_of_ble_eq_true rfl⟩ rfl hl.1 rfl (Nat.le_of_ble_eq_true rfl) d_Mo_mostToAll_25 ⟨Nat.zero_le _, Nat.zero_le _⟩) hS (xA_up hS.1) (fun _ H locs hu25 hP hS _ _ => ?_)
        have hP : va_P E.1 xcl (mV E a h) H := hP
        refine lv_if_eq (tgt := 42) hx hb d_Mo_mostToAll_28 (by decide) (fun c28 => ?_) (fun c28 => ?_)
        · have hlit := brP _ hlit c28
          refine lv_bipush (v := (-4 : Int32)) hx hb d_Mo_mostToAll_42 (by decide) ?_
          exact b44 (m_Mo_mostToAll_b11 p1 p2 p3 h n) ih x4 x5 x6 (-4 : Int32) _ _ _ hlit hP hS (lv_sub hl [0, 1, 2, 3, 4, 5, 6] rfl)
        · have hlit := brN _ hlit c28
          refine lv_aload_n hx hb d_Mo_mostToAll_31 rfl (lv_at hl 0 rfl) ?_
          refine lv_iload hx hb d_Mo_mostToAll_32 (lv_at hl 6 rfl) ?_
          refine lv_iload_n hx hb d_Mo_mostToAll_34 rfl (lv_at hl 2 rfl) ?_
          refine lv_iload_n hx hb d_Mo_mostToAll_35 rfl (lv_at hl 3 rfl) ?_
          obtain ⟨r36, hl36, hlit⟩ := bindS hlit
          refine fCallI (fRunV (As := [.int x6, .int p2, .int p3]) (rest := []) (q0 := 0) (ci := 8) hx hb hml hown hts hK hN hP (cm_Mo_sumOf l E a ha h _ x6 p2 p3 (r0 := r36) hl36) q775 q776 q38 q61 q777 hd_m_Mo_sumOf rfl rfl ⟨Nat.le_of_ble_eq_true rfl, Nat.le_of_ble_eq_true rfl⟩ me_0 rfl rfl rfl hl.1 rfl (Nat.le_of_ble_eq_true rfl) d_Mo_mostToAll_36 ⟨Nat.zero_le _, Nat.zero_le _⟩) hS (xA_up hS.1) (fun _ H locs hu36 hP hS _ _ => ?_)
          have hP : va_P E.1 xcl (mV E a h) H := hP
          refine lv_goto (tgt := 44) hx hb d_Mo_mostToAll_39 (by decide) ?_
          exact b44 (m_Mo_mostToAll_b11 p1 p2 p3 h n) ih x4 x5 x6 r36 _ _ _ hlit hP hS (lv_sub hl [0, 1, 2, 3, 4, 5, 6] rfl)
  refine lv_bipush (v := (-4 : Int32)) hx hb d_Mo_mostToAll_0 (by decide) ?_
  refine lv_istore (lv' := [(4, .int (-4 : Int32)), (0, .ref (a 0)), (1, .int p1), (2, .int p2), (3, .int p3)]) hx hb d_Mo_mostToAll_2 hl (by decide) rfl (fun ls hl => ?_)
  refine lv_bipush (v := (-4 : Int32)) hx hb d_Mo_mostToAll_4 (by decide) ?_
  refine lv_istore (lv' := [(5, .int (-4 : Int32)), (4, .int (-4 : Int32)), (0, .ref (a 0)), (1, .int p1), (2, .int p2), (3, .int p3)]) hx hb d_Mo_mostToAll_6 hl (by decide) rfl (fun ls hl => ?_)
  refine lv_iconst (v := (0 : Int32)) hx hb d_Mo_mostToAll_8 (by decide) ?_
  refine lv_istore (lv' := [(6, .int (0 : Int32)), (5, .int (-4 : Int32)), (4, .int (-4 : Int32)), (0, .ref (a 0)), (1, .int p1), (2, .int p2), (3, .int p3)]) hx hb d_Mo_mostToAll_9 hl (by decide) rfl (fun ls hl => ?_)
  exact b11 FU (-4 : Int32) (-4 : Int32) (0 : Int32) _ _ _ hlit hP hS (lv_sub hl [3, 4, 5, 6, 2, 1, 0] rfl)

abbrev rm_m_Mo_guest : Room := { frames := 3, cells := 0, slots := 0, locals := 76 }
theorem hd_m_Mo_guest : y_Mo_guest.cls ≠ "java/lang/invoke/MethodHandle" ∧ y_Mo_guest.cls ≠ "java/lang/invoke/VarHandle" ∧ (parseMethodDescriptor y_Mo_guest.desc).map (fun d => d.parameters.length) = some 2 := by decide +kernel
set_option maxHeartbeats 4000000 in
set_option maxRecDepth 100000 in
theorem cm_Mo_guest (l : Launch) (E : mE) (a : Nat → Nat) (ha : xInj a 10) (h : Hp) (sz : Nat) (p1 : Int32) (p2 : Int32) {r0 : Int32} (hlit : m_Mo_guest p1 p2 h = some r0) : Met l y_Mo_guest (Cond.code y_Mo_guest b_Mo_guest 5 (some .int) :: TB) rm_m_Mo_guest (fPc [.ref (a 0), .int p1, .int p2] E.1 (mtys E) sz (mV E a h)) (fQi (fun _ : Nat => True) r0 E.1 (fun (_ : Nat) => mV E a h) (xA a 10 sz)) 0 0 (xA a 10 sz) := by
  refine fl_startI (by decide) (Nat.le_of_ble_eq_true rfl) ?_
  intro p e s m args below meth c Q hx hb hml hown hts hsz hP hK hN ret ls hl
  subst hsz
  have hA : ∀ k, k < 10 → (xA a 10 s.heap.size) (a k) := xA_in
  have hS : va_S (xA a 10 s.heap.size) s.heap s.heap [] := va_S.rf
  have hl : lv_has ls 5 [(0, .ref (a 0)), (1, .int p1), (2, .int p2)] := hl
  have b27 : ∀ (n : Nat), ∀ (x3 : Int32) (x4 : Int32) (H : Heap) (locs : List Loc) (ls : Array Slot), m_Mo_guest_b27 p1 p2 h n x3 x4 = some r0 → va_P E.1 xcl (mV E a h) H → va_S (xA a 10 s.heap.size) s.heap H locs → lv_has ls 5 [(0, .ref (a 0)), (1, .int p1), (2, .int p2), (3, .int x3), (4, .int x4)] → W p l e rm_m_Mo_guest s m args below meth c H locs 0 0 Q (F0 m 27 ls []) := by
    intro n
    induction n with
    | zero => intro x3 x4 H locs ls hlit hP hS hl; exact nnF hlit
    | succ n ih =>
      intro x3 x4 H locs ls hlit hP hS hl
      refine lv_iload hx hb d_Mo_guest_27 (lv_at hl 4 rfl) ?_
      refine lv_aload_n hx hb d_Mo_guest_29 rfl (lv_at hl 0 rfl) ?_
      refine mg_Mo_2 hx hb hts hown hK hP q673 d_Mo_guest_30 ?_
      refine lv_iconst (v := (0 : Int32)) hx hb d_Mo_guest_33 (by decide) ?_
      refine mald2 hx hb hK hP (j := 0) rfl (vpin_c (by decide)) d_Mo_guest_34 ?_
      refine lv_icmp_ge (tgt := 85) hx hb d_Mo_guest_35 (by decide) (fun c35 => ?_) (fun c35 => ?_)
      · have hlit := brP _ hlit c35
        refine lv_iload_n hx hb d_Mo_guest_85 rfl (lv_at hl 2 rfl) ?_
        refine lv_if_ne (tgt := 100) hx hb d_Mo_guest_86 (by decide) (fun c86 => ?_) (fun c86 => ?_)
        · have hlit := brN _ hlit c86
          refine lv_iload_n hx hb d_Mo_guest_100 rfl (lv_at hl 2 rfl) ?_
          refine lv_iconst (v := (1 : Int32)) hx hb d_Mo_guest_101 (by decide) ?_
          refine lv_icmp_ne (tgt := 116) hx hb d_Mo_guest_102 (by decide) (fun c102 => ?_) (fun c102 => ?_)
          · have hlit := brN _ hlit c102
            refine lv_iload_n hx hb d_Mo_guest_116 rfl (lv_at hl 2 rfl) ?_
            refine lv_iconst (v := (2 : Int32)) hx hb d_Mo_guest_117 (by decide) ?_
            refine lv_icmp_ne (tgt := 125) hx hb d_Mo_guest_118 (by decide) (fun c118 => ?_) (fun c118 => ?_)
            · have hlit := brN _ hlit c118
              refine lv_aload_n hx hb d_Mo_guest_125 rfl (lv_at hl 0 rfl) ?_
              refine lv_iload_n hx hb d_Mo_guest_126 rfl (lv_at hl 1 rfl) ?_
              refine lv_aload_n hx hb d_Mo_guest_127 rfl (lv_at hl 0 rfl) ?_
              refine lv_aload_n hx hb d_Mo_guest_128 rfl (lv_at hl 0 rfl) ?_
              refine mg_Mo_5 hx hb hts hown hK hP q676 d_Mo_guest_129 ?_
              refine lv_iconst (v := (1 : Int32)) hx hb d_Mo_guest_132 (by decide) ?_
              refine mald4 hx hb hK hP (j := 1) rfl (vpin_c (by decide)) d_Mo_guest_133 ?_
              obtain ⟨r134, hl134, hlit⟩ := bindS hlit
              refine fCallI (fRunV (As := [.int (h 4 1)]) (rest := [.int p1, .ref (a 0)]) (q0 := 0) (ci := 8) hx hb hml hown hts hK hN hP (cm_Mo_leftBy l E a ha h _ (h 4 1) (r0 := r134) hl134) q762 q763 q35 q61 q764 hd_m_Mo_leftBy rfl rfl ⟨Nat.le_of_ble_eq_true rfl, Nat.le_of_ble_eq_true rfl⟩ me_0 rfl rfl rfl hl.1 rfl (Nat.le_of_ble_eq_true rfl) d_Mo_guest_134 ⟨Nat.zero_le _, Nat.zero_le _⟩) hS (xA_up hS.1) (fun _ H locs hu134 hP hS _ _ => ?_)
              have hP : va_P E.1 xcl (mV E a h) H := hP
              refine lv_aload_n hx hb d_Mo_guest_137 rfl (lv_at hl 0 rfl) ?_
              refine mg_Mo_5 hx hb hts hown hK hP q676 d_Mo_guest_138 ?_
              refine lv_iconst (v := (0 : Int32)) hx hb d_Mo_guest_141 (by decide) ?_
              refine mald4 hx hb hK hP (j := 0) rfl (vpin_c (by decide)) d_Mo_guest_142 ?_
              obtain ⟨r143, hl143, hlit⟩ := bindS hlit
              refine fCallI (fRunV (As := [.int p1, .int r134, .int (h 4 0)]) (rest := []) (q0 := 0) (ci := 8) hx hb hml hown hts hK hN hP (cm_Mo_mostOf l E a ha h _ p1 r134 (h 4 0) (r0 := r143) hl143) q765 q766 q36 q61 q767 hd_m_Mo_mostOf rfl rfl ⟨Nat.le_of_ble_eq_true rfl, Nat.le_of_ble_eq_true rfl⟩ me_0 rfl rfl rfl hl.1 rfl (Nat.le_of_ble_eq_true rfl) d_Mo_guest_143 ⟨Nat.zero_le _, Nat.zero_le _⟩) hS (xA_up hS.1) (fun _ H locs hu143 hP hS _ _ => ?_)
              have hP : va_P E.1 xcl (mV E a h) H := hP
              cases hlit
              exact ret 0 _ _ _ _ trivial hP hS rfl d_Mo_guest_146
            · have hlit := brP _ hlit c118
              refine lv_iload_n hx hb d_Mo_guest_121 rfl (lv_at hl 3 rfl) ?_
              refine lv_goto (tgt := 146) hx hb d_Mo_guest_122 (by decide) ?_
              cases hlit
              exact ret 0 _ _ _ _ trivial hP hS rfl d_Mo_guest_146
          · have hlit := brP _ hlit c102
            refine lv_aload_n hx hb d_Mo_guest_105 rfl (lv_at hl 0 rfl) ?_
            refine mg_Mo_5 hx hb hts hown hK hP q676 d_Mo_guest_106 ?_
            refine lv_iconst (v := (3 : Int32)) hx hb d_Mo_guest_109 (by decide) ?_
            refine lv_iload_n hx hb d_Mo_guest_110 rfl (lv_at hl 1 rfl) ?_
            refine lv_iadd hx hb d_Mo_guest_111 ?_
            obtain ⟨g112, hlit⟩ := gdP _ hlit
            refine mald4 hx hb hK hP (j := (((3 : Int32) + p1)).toNatClampNeg) rfl (vpin_c g112) d_Mo_guest_112 ?_
            refine lv_goto (tgt := 146) hx hb d_Mo_guest_113 (by decide) ?_
            cases hlit
            exact ret 0 _ _ _ _ trivial hP hS rfl d_Mo_guest_146
        · have hlit := brP _ hlit c86
          refine lv_aload_n hx hb d_Mo_guest_89 rfl (lv_at hl 0 rfl) ?_
          refine mg_Mo_2 hx hb hts hown hK hP q673 d_Mo_guest_90 ?_
          refine lv_iconst (v := (5 : Int32)) hx hb d_Mo_guest_93 (by decide) ?_
          refine lv_iload_n hx hb d_Mo_guest_94 rfl (lv_at hl 1 rfl) ?_
          refine lv_iadd hx hb d_Mo_guest_95 ?_
          obtain ⟨g96, hlit⟩ := gdP _ hlit
          refine mald2 hx hb hK hP (j := (((5 : Int32) + p1)).toNatClampNeg) rfl (vpin_c g96) d_Mo_guest_96 ?_
          refine lv_goto (tgt := 146) hx hb d_Mo_guest_97 (by decide) ?_
          cases hlit
          exact ret 0 _ _ _ _ trivial hP hS rfl d_Mo_guest_146
      · have hlit := brN _ hlit c35
        refine lv_iload_n hx hb d_Mo_guest_38 rfl (lv_at hl 3 rfl) ?_
        refine lv_aload_n hx hb d_Mo_guest_39 rfl (lv_at hl 0 rfl) ?_
        refine lv_aload_n hx hb d_Mo_guest_40 rfl (lv_at hl 0 rfl) ?_
        refine mg_Mo_2 hx hb hts hown hK hP q673 d_Mo_guest_41 ?_
        refine lv_iconst (v := (5 : Int32)) hx hb d_Mo_guest_44 (by decide) ?_
        refine lv_iload_n hx hb d_Mo_guest_45 rfl (lv_at hl 1 rfl) ?_
        refine lv_iadd hx hb d_Mo_guest_46 ?_
        obtain ⟨g47, hlit⟩ := gdP _ hlit
        refine mald2 hx hb hK hP (j := (((5 : Int32) + p1)).toNatClampNeg) rfl (vpin_c g47) d_Mo_guest_47 ?_
        refine lv_iload_n hx hb d_Mo_guest_48 rfl (lv_at hl 1 rfl) ?_
        refine lv_iload hx hb d_Mo_guest_49 (lv_at hl 4 rfl) ?_
        refine lv_aload_n hx hb d_Mo_guest_51 rfl (lv_at hl 0 rfl) ?_
        refine mg_Mo_5 hx hb hts hown hK hP q676 d_Mo_guest_52 ?_
        refine lv_iconst (v := (0 : Int32)) hx hb d_Mo_guest_55 (by decide) ?_
        refine mald4 hx hb hK hP (j := 0) rfl (vpin_c (by decide)) d_Mo_guest_56 ?_
        refine lv_aload_n hx hb d_Mo_guest_57 rfl (lv_at hl 0 rfl) ?_
        refine mg_Mo_5 hx hb hts hown hK hP q676 d_Mo_guest_58 ?_
        refine lv_iconst (v := (1 : Int32)) hx hb d_Mo_guest_61 (by decide) ?_
        refine mald4 hx hb hK hP (j := 1) rfl (vpin_c (by decide)) d_Mo_guest_62 ?_
        obtain ⟨r63, hl63, hlit⟩ := bindS hlit
        refine fCallI (fRunV (As := [.int (h 2 ((((5 : Int32) + p1)).toNatClampNeg)), .int p1, .int x4, .int (h 4 0), .int (h 4 1)]) (rest := [.int x3]) (q0 := 0) (ci := 8) hx hb hml hown hts hK hN hP (cm_Mo_hasHeart l E a ha h _ (h 2 ((((5 : Int32) + p1)).toNatClampNeg)) p1 x4 (h 4 0) (h 4 1) (r0 := r63) hl63) q753 q754 q33 q61 q755 hd_m_Mo_hasHeart rfl rfl ⟨Nat.le_of_ble_eq_true rfl, Nat.le_of_ble_eq_true rfl⟩ me_0 rfl rfl rfl hl.1 rfl (Nat.le_of_ble_eq_true rfl) d_Mo_guest_63 ⟨Nat.zero_le _, Nat.zero_le _⟩) hS (xA_up hS.1) (fun _ H locs hu63 hP hS _ _ => ?_)
        have hP : va_P E.1 xcl (mV E a h) H := hP
        refine lv_if_eq (tgt := 76) hx hb d_Mo_guest_66 (by decide) (fun c66 => ?_) (fun c66 => ?_)
        · have hlit := brP _ hlit c66
          refine lv_iconst (v := (0 : Int32)) hx hb d_Mo_guest_76 (by decide) ?_
          refine lv_ior hx hb d_Mo_guest_77 ?_
          obtain ⟨y78, ey78, hlit⟩ := bindS hlit
          refine topn ey78 ?_
          refine lv_istore_n (lv' := [(3, .int y78), (0, .ref (a 0)), (1, .int p1), (2, .int p2), (4, .int x4)]) hx hb d_Mo_guest_78 rfl hl (by decide) rfl (fun ls hl => ?_)
          refine lv_iinc (v := (x4 + (1 : Int32))) (lv' := [(4, .int (x4 + (1 : Int32))), (3, .int y78), (0, .ref (a 0)), (1, .int p1), (2, .int p2)]) hx hb d_Mo_guest_79 hl (k := 4) rfl rfl (by decide) rfl (fun ls hl => ?_)
          refine lv_goto (tgt := 27) hx hb d_Mo_guest_82 (by decide) ?_
          exact ih y78 (x4 + (1 : Int32)) _ _ _ hlit hP hS (lv_sub hl [2, 3, 4, 1, 0] rfl)
        · have hlit := brN _ hlit c66
          refine lv_iconst (v := (1 : Int32)) hx hb d_Mo_guest_69 (by decide) ?_
          refine lv_iload hx hb d_Mo_guest_70 (lv_at hl 4 rfl) ?_
          refine lv_ishl hx hb d_Mo_guest_72 ?_
          refine lv_goto (tgt := 77) hx hb d_Mo_guest_73 (by decide) ?_
          refine lv_ior hx hb d_Mo_guest_77 ?_
          obtain ⟨y78, ey78, hlit⟩ := bindS hlit
          refine topn ey78 ?_
          refine lv_istore_n (lv' := [(3, .int y78), (0, .ref (a 0)), (1, .int p1), (2, .int p2), (4, .int x4)]) hx hb d_Mo_guest_78 rfl hl (by decide) rfl (fun ls hl => ?_)
          refine lv_iinc (v := (x4 + (1 : Int32))) (lv' := [(4, .int (x4 + (1 : Int32))), (3, .int y78), (0, .ref (a 0)), (1, .int p1), (2, .int p2)]) hx hb d_Mo_guest_79 hl (k := 4) rfl rfl (by decide) rfl (fun ls hl => ?_)
          refine lv_goto (tgt := 27) hx hb d_Mo_guest_82 (by decide) ?_
          exact ih y78 (x4 + (1 : Int32)) _ _ _ hlit hP hS (lv_sub hl [2, 3, 4, 1, 0] rfl)
  refine lv_aload_n hx hb d_Mo_guest_0 rfl (lv_at hl 0 rfl) ?_
  refine lv_iload_n hx hb d_Mo_guest_1 rfl (lv_at hl 1 rfl) ?_
  obtain ⟨r2, hl2, hlit⟩ := bindS hlit
  refine fCallI (fRunV (As := [.int p1]) (rest := []) (q0 := 0) (ci := 8) hx hb hml hown hts hK hN hP (cm_Mo_isGuest l E a ha h _ p1 (r0 := r2) hl2) q750 q751 q32 q61 q752 hd_m_Mo_isGuest rfl rfl ⟨Nat.le_of_ble_eq_true rfl, Nat.le_of_ble_eq_true rfl⟩ me_0 rfl rfl rfl hl.1 rfl (Nat.le_of_ble_eq_true rfl) d_Mo_guest_2 ⟨Nat.zero_le _, Nat.zero_le _⟩) hS (xA_up hS.1) (fun _ H locs hu2 hP hS _ _ => ?_)
  have hP : va_P E.1 xcl (mV E a h) H := hP
  refine lv_if_eq (tgt := 20) hx hb d_Mo_guest_5 (by decide) (fun c5 => ?_) (fun c5 => ?_)
  · have hlit := brP _ hlit c5
    refine lv_iconst (v := (-1 : Int32)) hx hb d_Mo_guest_20 (by decide) ?_
    cases hlit
    exact ret 0 _ _ _ _ trivial hP hS rfl d_Mo_guest_21
  · have hlit := brN _ hlit c5
    refine lv_iload_n hx hb d_Mo_guest_8 rfl (lv_at hl 2 rfl) ?_
    refine lv_i2l (v := p2.toInt64) hx hb d_Mo_guest_9 rfl ?_
    refine lv_lconst (v := (0 : Int64)) hx hb d_Mo_guest_10 (by decide) ?_
    refine lv_ldc2 (v := (3 : Int64)) hx hb hown (hts _ q739) d_Mo_guest_11 ?_
    obtain ⟨r14, hl14, hlit⟩ := bindS hlit
    refine fCallI (fRunS (As := [.long (p2.toInt64), .long (0 : Int64), .long (3 : Int64)]) (rest := []) hx hb hml hown hts hK hN hP (cm_Mo_in l E a ha h _ (p2.toInt64) (0 : Int64) (3 : Int64) (r0 := r14) hl14) q707 q708 q61 q709 hd_m_Mo_in rfl rfl ⟨Nat.le_of_ble_eq_true rfl, Nat.le_of_ble_eq_true rfl⟩ rfl hl.1 rfl (Nat.le_of_ble_eq_true rfl) d_Mo_guest_14 ⟨Nat.zero_le _, Nat.zero_le _⟩) hS (xA_up hS.1) (fun _ H locs hu14 hP hS _ _ => ?_)
    have hP : va_P E.1 xcl (mV E a h) H := hP
    refine lv_if_ne (tgt := 22) hx hb d_Mo_guest_17 (by decide) (fun c17 => ?_) (fun c17 => ?_)
    · have hlit := brN _ hlit c17
      refine lv_iconst (v := (0 : Int32)) hx hb d_Mo_guest_22 (by decide) ?_
      refine lv_istore_n (lv' := [(3, .int (0 : Int32)), (0, .ref (a 0)), (1, .int p1), (2, .int p2)]) hx hb d_Mo_guest_23 rfl hl (by decide) rfl (fun ls hl => ?_)
      refine lv_iconst (v := (0 : Int32)) hx hb d_Mo_guest_24 (by decide) ?_
      refine lv_istore (lv' := [(4, .int (0 : Int32)), (3, .int (0 : Int32)), (0, .ref (a 0)), (1, .int p1), (2, .int p2)]) hx hb d_Mo_guest_25 hl (by decide) rfl (fun ls hl => ?_)
      exact b27 FU (0 : Int32) (0 : Int32) _ _ _ hlit hP hS (lv_sub hl [2, 3, 4, 1, 0] rfl)
    · have hlit := brP _ hlit c17
      refine lv_iconst (v := (-1 : Int32)) hx hb d_Mo_guest_20 (by decide) ?_
      cases hlit
      exact ret 0 _ _ _ _ trivial hP hS rfl d_Mo_guest_21
