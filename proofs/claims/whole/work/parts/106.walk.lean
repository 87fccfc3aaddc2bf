abbrev rm_m_Mo_firstGuest : Room := { frames := 0, cells := 0, slots := 0, locals := 0 }
theorem hd_m_Mo_firstGuest : y_Mo_firstGuest.cls ≠ "java/lang/invoke/MethodHandle" ∧ y_Mo_firstGuest.cls ≠ "java/lang/invoke/VarHandle" ∧ (parseMethodDescriptor y_Mo_firstGuest.desc).map (fun d => d.parameters.length) = some 3 := by decide +kernel
set_option maxHeartbeats 4000000 in
set_option maxRecDepth 100000 in
theorem cm_Mo_firstGuest (l : Launch) (E : mE) (a : Nat → Nat) (ha : xInj a 10) (h : Hp) (sz : Nat) (p1 : Int32) (p2 : Int32) (p3 : Int32) {h9 : Hp} (hlit : m_Mo_firstGuest p1 p2 p3 h = some h9) : Met l y_Mo_firstGuest (Cond.code y_Mo_firstGuest b_Mo_firstGuest 4 none :: TB) rm_m_Mo_firstGuest (fPc [.ref (a 0), .int p1, .int p2, .int p3] E.1 (mtys E) sz (mV E a h)) (fQv (fun _ : Nat => True) E.1 (fun (_ : Nat) => mV E a h9) (xA a 10 sz)) 0 0 (xA a 10 sz) := by
  refine fl_startV (by decide) (Nat.le_of_ble_eq_true rfl) ?_
  intro p e s m args below meth c Q hx hb hml hown hts hsz hP hK hN ret ls hl
  subst hsz
  have hA : ∀ k, k < 10 → (xA a 10 s.heap.size) (a k) := xA_in
  have hS : va_S (xA a 10 s.heap.size) s.heap s.heap [] := va_S.rf
  have hl : lv_has ls 4 [(0, .ref (a 0)), (1, .int p1), (2, .int p2), (3, .int p3)] := hl
  refine lv_aload_n hx hb d_Mo_firstGuest_0 rfl (lv_at hl 0 rfl) ?_
  refine mg_Mo_3 hx hb hts hown hK hP q674 d_Mo_firstGuest_1 ?_
  refine lv_iconst (v := (5 : Int32)) hx hb d_Mo_firstGuest_4 (by decide) ?_
  refine lv_iload_n hx hb d_Mo_firstGuest_5 rfl (lv_at hl 1 rfl) ?_
  refine lv_iadd hx hb d_Mo_firstGuest_6 ?_
  refine lv_iload_n hx hb d_Mo_firstGuest_7 rfl (lv_at hl 2 rfl) ?_
  obtain ⟨g8, hlit⟩ := gdP _ hlit
  refine mast3 hx hb hK hP ha hA hS (j := (((5 : Int32) + p1)).toNatClampNeg) rfl (vpin_c g8) d_Mo_firstGuest_8 (fun H locs hP hS => ?_)
  obtain ⟨h_8, eh_8, hlit⟩ := bindS hlit
  rw [Option.some.inj eh_8] at hP
  refine lv_aload_n hx hb d_Mo_firstGuest_9 rfl (lv_at hl 0 rfl) ?_
  refine mg_Mo_3 hx hb hts hown hK hP q674 d_Mo_firstGuest_10 ?_
  refine lv_bipush (v := (20 : Int32)) hx hb d_Mo_firstGuest_13 (by decide) ?_
  refine lv_bipush (v := (6 : Int32)) hx hb d_Mo_firstGuest_15 (by decide) ?_
  refine lv_iload_n hx hb d_Mo_firstGuest_17 rfl (lv_at hl 1 rfl) ?_
  refine lv_imul hx hb d_Mo_firstGuest_18 ?_
  refine lv_iadd hx hb d_Mo_firstGuest_19 ?_
  refine lv_iload_n hx hb d_Mo_firstGuest_20 rfl (lv_at hl 3 rfl) ?_
  refine lv_sipush (v := (1000 : Int32)) hx hb d_Mo_firstGuest_21 (by decide) ?_
  refine lv_idiv hx hb d_Mo_firstGuest_24 (by decide) ?_
  obtain ⟨g25, hlit⟩ := gdP _ hlit
  refine mast3 hx hb hK hP ha hA hS (j := (((20 : Int32) + ((6 : Int32) * p1))).toNatClampNeg) rfl (vpin_c g25) d_Mo_firstGuest_25 (fun H locs hP hS => ?_)
  obtain ⟨h_25, eh_25, hlit⟩ := bindS hlit
  rw [Option.some.inj eh_25] at hP
  refine lv_aload_n hx hb d_Mo_firstGuest_26 rfl (lv_at hl 0 rfl) ?_
  refine mg_Mo_3 hx hb hts hown hK hP q674 d_Mo_firstGuest_27 ?_
  refine lv_bipush (v := (21 : Int32)) hx hb d_Mo_firstGuest_30 (by decide) ?_
  refine lv_bipush (v := (6 : Int32)) hx hb d_Mo_firstGuest_32 (by decide) ?_
  refine lv_iload_n hx hb d_Mo_firstGuest_34 rfl (lv_at hl 1 rfl) ?_
  refine lv_imul hx hb d_Mo_firstGuest_35 ?_
  refine lv_iadd hx hb d_Mo_firstGuest_36 ?_
  refine lv_iload_n hx hb d_Mo_firstGuest_37 rfl (lv_at hl 3 rfl) ?_
  refine lv_bipush (v := (100 : Int32)) hx hb d_Mo_firstGuest_38 (by decide) ?_
  refine lv_idiv hx hb d_Mo_firstGuest_40 (by decide) ?_
  refine lv_bipush (v := (10 : Int32)) hx hb d_Mo_firstGuest_41 (by decide) ?_
  refine lv_irem hx hb d_Mo_firstGuest_43 (by decide) ?_
  obtain ⟨g44, hlit⟩ := gdP _ hlit
  refine mast3 hx hb hK hP ha hA hS (j := (((21 : Int32) + ((6 : Int32) * p1))).toNatClampNeg) rfl (vpin_c g44) d_Mo_firstGuest_44 (fun H locs hP hS => ?_)
  obtain ⟨h_44, eh_44, hlit⟩ := bindS hlit
  rw [Option.some.inj eh_44] at hP
  refine lv_aload_n hx hb d_Mo_firstGuest_45 rfl (lv_at hl 0 rfl) ?_
  refine mg_Mo_3 hx hb hts hown hK hP q674 d_Mo_firstGuest_46 ?_
  refine lv_bipush (v := (22 : Int32)) hx hb d_Mo_firstGuest_49 (by decide) ?_
  refine lv_bipush (v := (6 : Int32)) hx hb d_Mo_firstGuest_51 (by decide) ?_
  refine lv_iload_n hx hb d_Mo_firstGuest_53 rfl (lv_at hl 1 rfl) ?_
  refine lv_imul hx hb d_Mo_firstGuest_54 ?_
  refine lv_iadd hx hb d_Mo_firstGuest_55 ?_
  refine lv_iload_n hx hb d_Mo_firstGuest_56 rfl (lv_at hl 3 rfl) ?_
  refine lv_bipush (v := (10 : Int32)) hx hb d_Mo_firstGuest_57 (by decide) ?_
  refine lv_idiv hx hb d_Mo_firstGuest_59 (by decide) ?_
  refine lv_bipush (v := (10 : Int32)) hx hb d_Mo_firstGuest_60 (by decide) ?_
  refine lv_irem hx hb d_Mo_firstGuest_62 (by decide) ?_
  obtain ⟨g63, hlit⟩ := gdP _ hlit
  refine mast3 hx hb hK hP ha hA hS (j := (((22 : Int32) + ((6 : Int32) * p1))).toNatClampNeg) rfl (vpin_c g63) d_Mo_firstGuest_63 (fun H locs hP hS => ?_)
  obtain ⟨h_63, eh_63, hlit⟩ := bindS hlit
  rw [Option.some.inj eh_63] at hP
  refine lv_aload_n hx hb d_Mo_firstGuest_64 rfl (lv_at hl 0 rfl) ?_
  refine mg_Mo_3 hx hb hts hown hK hP q674 d_Mo_firstGuest_65 ?_
  refine lv_bipush (v := (23 : Int32)) hx hb d_Mo_firstGuest_68 (by decide) ?_
  refine lv_bipush (v := (6 : Int32)) hx hb d_Mo_firstGuest_70 (by decide) ?_
  refine lv_iload_n hx hb d_Mo_firstGuest_72 rfl (lv_at hl 1 rfl) ?_
  refine lv_imul hx hb d_Mo_firstGuest_73 ?_
  refine lv_iadd hx hb d_Mo_firstGuest_74 ?_
  refine lv_iload_n hx hb d_Mo_firstGuest_75 rfl (lv_at hl 3 rfl) ?_
  refine lv_bipush (v := (10 : Int32)) hx hb d_Mo_firstGuest_76 (by decide) ?_
  refine lv_irem hx hb d_Mo_firstGuest_78 (by decide) ?_
  obtain ⟨g79, hlit⟩ := gdP _ hlit
  refine mast3 hx hb hK hP ha hA hS (j := (((23 : Int32) + ((6 : Int32) * p1))).toNatClampNeg) rfl (vpin_c g79) d_Mo_firstGuest_79 (fun H locs hP hS => ?_)
  obtain ⟨h_79, eh_79, hlit⟩ := bindS hlit
  rw [Option.some.inj eh_79] at hP
  cases hlit
  exact ret 0 _ _ _ _ trivial hP hS d_Mo_firstGuest_80

abbrev rm_m_Mo_in : Room := { frames := 0, cells := 0, slots := 0, locals := 0 }
theorem hd_m_Mo_in : y_Mo_in.cls ≠ "java/lang/invoke/MethodHandle" ∧ y_Mo_in.cls ≠ "java/lang/invoke/VarHandle" ∧ (parseMethodDescriptor y_Mo_in.desc).map (fun d => d.parameters.length) = some 3 := by decide +kernel
set_option maxHeartbeats 4000000 in
set_option maxRecDepth 100000 in
theorem cm_Mo_in (l : Launch) (E : mE) (a : Nat → Nat) (ha : xInj a 10) (h : Hp) (sz : Nat) (p0 : Int64) (p2 : Int64) (p4 : Int64) {r0 : Int32} (hlit : m_Mo_in p0 p2 p4 h = some r0) : Met l y_Mo_in (Cond.code y_Mo_in b_Mo_in 6 (some .boolean) :: TB) rm_m_Mo_in (fPc [.long p0, .long p2, .long p4] E.1 (mtys E) sz (mV E a h)) (fQi (fun _ : Nat => True) r0 E.1 (fun (_ : Nat) => mV E a h) (xA a 10 sz)) 0 0 (xA a 10 sz) := by
  refine fl_startI (by decide) (Nat.le_of_ble_eq_true rfl) ?_
  intro p e s m args below meth c Q hx hb hml hown hts hsz hP hK hN ret ls hl
  subst hsz
  have hA : ∀ k, k < 10 → (xA a 10 s.heap.size) (a k) := xA_in
  have hS : va_S (xA a 10 s.heap.size) s.heap s.heap [] := va_S.rf
  have hl : lv_has ls 6 [(0, .long p0), (2, .long p2), (4, .long p4)] := hl
  refine lv_lload_n hx hb d_Mo_in_0 rfl (lv_at hl 0 rfl) ?_
  refine lv_lload_n hx hb d_Mo_in_1 rfl (lv_at hl 1 rfl) ?_
  refine W.lcmp hx hb d_Mo_in_2 ?_
  refine lv_if_lt (tgt := 17) hx hb d_Mo_in_3 (by decide) (fun c3 => ?_) (fun c3 => ?_)
  · have hlit := brP _ hlit c3
    refine lv_iconst (v := (0 : Int32)) hx hb d_Mo_in_17 (by decide) ?_
    cases hlit
    exact ret 0 _ _ _ _ trivial hP hS rfl d_Mo_in_18
  · have hlit := brN _ hlit c3
    refine lv_lload_n hx hb d_Mo_in_6 rfl (lv_at hl 0 rfl) ?_
    refine lv_lload hx hb d_Mo_in_7 (lv_at hl 2 rfl) ?_
    refine W.lcmp hx hb d_Mo_in_9 ?_
    refine lv_if_gt (tgt := 17) hx hb d_Mo_in_10 (by decide) (fun c10 => ?_) (fun c10 => ?_)
    · have hlit := brP _ hlit c10
      refine lv_iconst (v := (0 : Int32)) hx hb d_Mo_in_17 (by decide) ?_
      cases hlit
      exact ret 0 _ _ _ _ trivial hP hS rfl d_Mo_in_18
    · have hlit := brN _ hlit c10
      refine lv_iconst (v := (1 : Int32)) hx hb d_Mo_in_13 (by decide) ?_
      refine lv_goto (tgt := 18) hx hb d_Mo_in_14 (by decide) ?_
      cases hlit
      exact ret 0 _ _ _ _ trivial hP hS rfl d_Mo_in_18

abbrev rm_m_Mo_has : Room := { frames := 0, cells := 0, slots := 0, locals := 0 }
theorem hd_m_Mo_has : y_Mo_has.cls ≠ "java/lang/invoke/MethodHandle" ∧ y_Mo_has.cls ≠ "java/lang/invoke/VarHandle" ∧ (parseMethodDescriptor y_Mo_has.desc).map (fun d => d.parameters.length) = some 2 := by decide +kernel
set_option maxHeartbeats 4000000 in
set_option maxRecDepth 100000 in
theorem cm_Mo_has (l : Launch) (E : mE) (a : Nat → Nat) (ha : xInj a 10) (h : Hp) (sz : Nat) (p0 : Int32) (p1 : Int32) {r0 : Int32} (hlit : m_Mo_has p0 p1 h = some r0) : Met l y_Mo_has (Cond.code y_Mo_has b_Mo_has 2 (some .boolean) :: TB) rm_m_Mo_has (fPc [.int p0, .int p1] E.1 (mtys E) sz (mV E a h)) (fQi (fun _ : Nat => True) r0 E.1 (fun (_ : Nat) => mV E a h) (xA a 10 sz)) 0 0 (xA a 10 sz) := by
  refine fl_startI (by decide) (Nat.le_of_ble_eq_true rfl) ?_
  intro p e s m args below meth c Q hx hb hml hown hts hsz hP hK hN ret ls hl
  subst hsz
  have hA : ∀ k, k < 10 → (xA a 10 s.heap.size) (a k) := xA_in
  have hS : va_S (xA a 10 s.heap.size) s.heap s.heap [] := va_S.rf
  have hl : lv_has ls 2 [(0, .int p0), (1, .int p1)] := hl
  refine lv_iload_n hx hb d_Mo_has_0 rfl (lv_at hl 0 rfl) ?_
  refine lv_iload_n hx hb d_Mo_has_1 rfl (lv_at hl 1 rfl) ?_
  refine lv_ishr hx hb d_Mo_has_2 ?_
  refine lv_iconst (v := (1 : Int32)) hx hb d_Mo_has_3 (by decide) ?_
  refine lv_iand hx hb d_Mo_has_4 ?_
  refine lv_iconst (v := (1 : Int32)) hx hb d_Mo_has_5 (by decide) ?_
  refine lv_icmp_ne (tgt := 13) hx hb d_Mo_has_6 (by decide) (fun c6 => ?_) (fun c6 => ?_)
  · have hlit := brN _ hlit c6
    refine lv_iconst (v := (0 : Int32)) hx hb d_Mo_has_13 (by decide) ?_
    cases hlit
    exact ret 0 _ _ _ _ trivial hP hS rfl d_Mo_has_14
  · have hlit := brP _ hlit c6
    refine lv_iconst (v := (1 : Int32)) hx hb d_Mo_has_9 (by decide) ?_
    refine lv_goto (tgt := 14) hx hb d_Mo_has_10 (by decide) ?_
    cases hlit
    exact ret 0 _ _ _ _ trivial hP hS rfl d_Mo_has_14

abbrev rm_m_Mo_ones : Room := { frames := 0, cells := 0, slots := 0, locals := 0 }
theorem hd_m_Mo_ones : y_Mo_ones.cls ≠ "java/lang/invoke/MethodHandle" ∧ y_Mo_ones.cls ≠ "java/lang/invoke/VarHandle" ∧ (parseMethodDescriptor y_Mo_ones.desc).map (fun d => d.parameters.length) = some 1 := by decide +kernel
set_option maxHeartbeats 4000000 in
set_option maxRecDepth 100000 in
theorem cm_Mo_ones (l : Launch) (E : mE) (a : Nat → Nat) (ha : xInj a 10) (h : Hp) (sz : Nat) (p0 : Int32) {r0 : Int32} (hlit : m_Mo_ones p0 h = some r0) : Met l y_Mo_ones (Cond.code y_Mo_ones b_Mo_ones 3 (some .int) :: TB) rm_m_Mo_ones (fPc [.int p0] E.1 (mtys E) sz (mV E a h)) (fQi (fun _ : Nat => True) r0 E.1 (fun (_ : Nat) => mV E a h) (xA a 10 sz)) 0 0 (xA a 10 sz) := by
  refine fl_startI (by decide) (Nat.le_of_ble_eq_true rfl) ?_
  intro p e s m args below meth c Q hx hb hml hown hts hsz hP hK hN ret ls hl
  subst hsz
  have hA : ∀ k, k < 10 → (xA a 10 s.heap.size) (a k) := xA_in
  have hS : va_S (xA a 10 s.heap.size) s.heap s.heap [] := va_S.rf
  have hl : lv_has ls 3 [(0, .int p0)] := hl
  have b4 : ∀ (n : Nat), ∀ (x1 : Int32) (x2 : Int32) (H : Heap) (locs : List Loc) (ls : Array Slot), m_Mo_ones_b4 p0 h n x1 x2 = some r0 → va_P E.1 xcl (mV E a h) H → va_S (xA a 10 s.heap.size) s.heap H locs → lv_has ls 3 [(1, .int x1), (2, .int x2)] → W p l e rm_m_Mo_ones s m args below meth c H locs 0 0 Q (F0 m 4 ls []) := by
    intro n
    induction n with
    | zero => intro x1 x2 H locs ls hlit hP hS hl; exact nnF hlit
    | succ n ih =>
      intro x1 x2 H locs ls hlit hP hS hl
      refine lv_iload_n hx hb d_Mo_ones_4 rfl (lv_at hl 1 rfl) ?_
      refine lv_if_eq (tgt := 20) hx hb d_Mo_ones_5 (by decide) (fun c5 => ?_) (fun c5 => ?_)
      · have hlit := brP _ hlit c5
        refine lv_iload_n hx hb d_Mo_ones_20 rfl (lv_at hl 0 rfl) ?_
        cases hlit
        exact ret 0 _ _ _ _ trivial hP hS rfl d_Mo_ones_21
      · have hlit := brN _ hlit c5
        refine lv_iinc (v := (x1 + (1 : Int32))) (lv' := [(1, .int (x1 + (1 : Int32))), (2, .int x2)]) hx hb d_Mo_ones_8 hl (k := 0) rfl rfl (by decide) rfl (fun ls hl => ?_)
        refine lv_iload_n hx hb d_Mo_ones_11 rfl (lv_at hl 1 rfl) ?_
        refine lv_iload_n hx hb d_Mo_ones_12 rfl (lv_at hl 1 rfl) ?_
        refine lv_iconst (v := (1 : Int32)) hx hb d_Mo_ones_13 (by decide) ?_
        refine lv_isub hx hb d_Mo_ones_14 ?_
        refine lv_iand hx hb d_Mo_ones_15 ?_
        obtain ⟨y16, ey16, hlit⟩ := bindS hlit
        refine topn ey16 ?_
        refine lv_istore_n (lv' := [(2, .int y16), (1, .int (x1 + (1 : Int32)))]) hx hb d_Mo_ones_16 rfl hl (by decide) rfl (fun ls hl => ?_)
        refine lv_goto (tgt := 4) hx hb d_Mo_ones_17 (by decide) ?_
        exact ih (x1 + (1 : Int32)) y16 _ _ _ hlit hP hS (lv_sub hl [1, 0] rfl)
  refine lv_iconst (v := (0 : Int32)) hx hb d_Mo_ones_0 (by decide) ?_
  refine lv_istore_n (lv' := [(1, .int (0 : Int32)), (0, .int p0)]) hx hb d_Mo_ones_1 rfl hl (by decide) rfl (fun ls hl => ?_)
  refine lv_iload_n hx hb d_Mo_ones_2 rfl (lv_at hl 1 rfl) ?_
  refine lv_istore_n (lv' := [(2, .int p0), (1, .int (0 : Int32)), (0, .int p0)]) hx hb d_Mo_ones_3 rfl hl (by decide) rfl (fun ls hl => ?_)
  exact b4 FU (0 : Int32) p0 _ _ _ hlit hP hS (lv_sub hl [1, 0] rfl)

abbrev rm_m_Mo_empty : Room := { frames := 0, cells := 0, slots := 0, locals := 0 }
theorem hd_m_Mo_empty : y_Mo_empty.cls ≠ "java/lang/invoke/MethodHandle" ∧ y_Mo_empty.cls ≠ "java/lang/invoke/VarHandle" ∧ (parseMethodDescriptor y_Mo_empty.desc).map (fun d => d.parameters.length) = some 0 := by decide +kernel
set_option maxHeartbeats 4000000 in
set_option maxRecDepth 100000 in
theorem cm_Mo_empty (l : Launch) (E : mE) (a : Nat → Nat) (ha : xInj a 10) (h : Hp) (sz : Nat) {h9 : Hp} (hlit : m_Mo_empty h = some h9) : Met l y_Mo_empty (Cond.code y_Mo_empty b_Mo_empty 2 none :: TB) rm_m_Mo_empty (fPc [.ref (a 0)] E.1 (mtys E) sz (mV E a h)) (fQv (fun _ : Nat => True) E.1 (fun (_ : Nat) => mV E a h9) (xA a 10 sz)) 0 0 (xA a 10 sz) := by
  refine fl_startV (by decide) (Nat.le_of_ble_eq_true rfl) ?_
  intro p e s m args below meth c Q hx hb hml hown hts hsz hP hK hN ret ls hl
  subst hsz
  have hA : ∀ k, k < 10 → (xA a 10 s.heap.size) (a k) := xA_in
  have hS : va_S (xA a 10 s.heap.size) s.heap s.heap [] := va_S.rf
  have hl : lv_has ls 2 [(0, .ref (a 0))] := hl
  have b53 : ∀ (n : Nat), ∀ (x1 : Int32) (h : Hp) (H : Heap) (locs : List Loc) (ls : Array Slot), m_Mo_empty_b53 n x1 h = some h9 → va_P E.1 xcl (mV E a h) H → va_S (xA a 10 s.heap.size) s.heap H locs → lv_has ls 2 [(0, .ref (a 0)), (1, .int x1)] → W p l e rm_m_Mo_empty s m args below meth c H locs 0 0 Q (F0 m 53 ls []) := by
    intro n
    induction n with
    | zero => intro x1 h H locs ls hlit hP hS hl; exact nnF hlit
    | succ n ih =>
      intro x1 h H locs ls hlit hP hS hl
      refine lv_iload_n hx hb d_Mo_empty_53 rfl (lv_at hl 1 rfl) ?_
      refine lv_bipush (v := (6 : Int32)) hx hb d_Mo_empty_54 (by decide) ?_
      refine lv_icmp_ge (tgt := 76) hx hb d_Mo_empty_56 (by decide) (fun c56 => ?_) (fun c56 => ?_)
      · have hlit := brP _ hlit c56
        refine lv_aload_n hx hb d_Mo_empty_76 rfl (lv_at hl 0 rfl) ?_
        refine lv_iconst (v := (0 : Int32)) hx hb d_Mo_empty_77 (by decide) ?_
        refine mp_Mo_4 hx hb hts hown hK hP ha hA hS (Or.inl rfl) q675 d_Mo_empty_78 (fun H locs hP hS => ?_)
        obtain ⟨h_78, eh_78, hlit⟩ := bindS hlit
        rw [Option.some.inj eh_78] at hP
        cases hlit
        exact ret 0 _ _ _ _ trivial hP hS d_Mo_empty_81
      · have hlit := brN _ hlit c56
        refine lv_aload_n hx hb d_Mo_empty_59 rfl (lv_at hl 0 rfl) ?_
        refine mg_Mo_3 hx hb hts hown hK hP q674 d_Mo_empty_60 ?_
        refine lv_bipush (v := (14 : Int32)) hx hb d_Mo_empty_63 (by decide) ?_
        refine lv_iload_n hx hb d_Mo_empty_65 rfl (lv_at hl 1 rfl) ?_
        refine lv_iadd hx hb d_Mo_empty_66 ?_
        refine lv_bipush (v := (20 : Int32)) hx hb d_Mo_empty_67 (by decide) ?_
        obtain ⟨g69, hlit⟩ := gdP _ hlit
        refine mast3 hx hb hK hP ha hA hS (j := (((14 : Int32) + x1)).toNatClampNeg) rfl (vpin_c g69) d_Mo_empty_69 (fun H locs hP hS => ?_)
        obtain ⟨h_69, eh_69, hlit⟩ := bindS hlit
        rw [Option.some.inj eh_69] at hP
        refine lv_iinc (v := (x1 + (1 : Int32))) (lv' := [(1, .int (x1 + (1 : Int32))), (0, .ref (a 0))]) hx hb d_Mo_empty_70 hl (k := 1) rfl rfl (by decide) rfl (fun ls hl => ?_)
        refine lv_goto (tgt := 53) hx hb d_Mo_empty_73 (by decide) ?_
        exact ih (x1 + (1 : Int32)) h_69 _ _ _ hlit hP hS (lv_sub hl [1, 0] rfl)
  have b2 : ∀ (n : Nat), ∀ (x1 : Int32) (h : Hp) (H : Heap) (locs : List Loc) (ls : Array Slot), m_Mo_empty_b2 n x1 h = some h9 → va_P E.1 xcl (mV E a h) H → va_S (xA a 10 s.heap.size) s.heap H locs → lv_has ls 2 [(0, .ref (a 0)), (1, .int x1)] → W p l e rm_m_Mo_empty s m args below meth c H locs 0 0 Q (F0 m 2 ls []) := by
    intro n
    induction n with
    | zero => intro x1 h H locs ls hlit hP hS hl; exact nnF hlit
    | succ n ih =>
      intro x1 h H locs ls hlit hP hS hl
      refine lv_iload_n hx hb d_Mo_empty_2 rfl (lv_at hl 1 rfl) ?_
      refine lv_bipush (v := (74 : Int32)) hx hb d_Mo_empty_3 (by decide) ?_
      refine lv_icmp_ge (tgt := 21) hx hb d_Mo_empty_5 (by decide) (fun c5 => ?_) (fun c5 => ?_)
      · have hlit := brP _ hlit c5
        refine lv_aload_n hx hb d_Mo_empty_21 rfl (lv_at hl 0 rfl) ?_
        refine mg_Mo_3 hx hb hts hown hK hP q674 d_Mo_empty_22 ?_
        refine lv_iconst (v := (0 : Int32)) hx hb d_Mo_empty_25 (by decide) ?_
        refine lv_iconst (v := (4 : Int32)) hx hb d_Mo_empty_26 (by decide) ?_
        refine mast3 hx hb hK hP ha hA hS (j := 0) rfl (vpin_c (by decide)) d_Mo_empty_27 (fun H locs hP hS => ?_)
        obtain ⟨h_27, eh_27, hlit⟩ := bindS hlit
        rw [Option.some.inj eh_27] at hP
        refine lv_aload_n hx hb d_Mo_empty_28 rfl (lv_at hl 0 rfl) ?_
        refine mg_Mo_3 hx hb hts hown hK hP q674 d_Mo_empty_29 ?_
        refine lv_iconst (v := (2 : Int32)) hx hb d_Mo_empty_32 (by decide) ?_
        refine lv_iconst (v := (1 : Int32)) hx hb d_Mo_empty_33 (by decide) ?_
        refine mast3 hx hb hK hP ha hA hS (j := 2) rfl (vpin_c (by decide)) d_Mo_empty_34 (fun H locs hP hS => ?_)
        obtain ⟨h_34, eh_34, hlit⟩ := bindS hlit
        rw [Option.some.inj eh_34] at hP
        refine lv_aload_n hx hb d_Mo_empty_35 rfl (lv_at hl 0 rfl) ?_
        refine mg_Mo_3 hx hb hts hown hK hP q674 d_Mo_empty_36 ?_
        refine lv_iconst (v := (3 : Int32)) hx hb d_Mo_empty_39 (by decide) ?_
        refine lv_bipush (v := (90 : Int32)) hx hb d_Mo_empty_40 (by decide) ?_
        refine mast3 hx hb hK hP ha hA hS (j := 3) rfl (vpin_c (by decide)) d_Mo_empty_42 (fun H locs hP hS => ?_)
        obtain ⟨h_42, eh_42, hlit⟩ := bindS hlit
        rw [Option.some.inj eh_42] at hP
        refine lv_aload_n hx hb d_Mo_empty_43 rfl (lv_at hl 0 rfl) ?_
        refine mg_Mo_3 hx hb hts hown hK hP q674 d_Mo_empty_44 ?_
        refine lv_iconst (v := (4 : Int32)) hx hb d_Mo_empty_47 (by decide) ?_
        refine lv_bipush (v := (20 : Int32)) hx hb d_Mo_empty_48 (by decide) ?_
        refine mast3 hx hb hK hP ha hA hS (j := 4) rfl (vpin_c (by decide)) d_Mo_empty_50 (fun H locs hP hS => ?_)
        obtain ⟨h_50, eh_50, hlit⟩ := bindS hlit
        rw [Option.some.inj eh_50] at hP
        refine lv_iconst (v := (0 : Int32)) hx hb d_Mo_empty_51 (by decide) ?_
        refine lv_istore_n (lv' := [(1, .int (0 : Int32)), (0, .ref (a 0))]) hx hb d_Mo_empty_52 rfl hl (by decide) rfl (fun ls hl => ?_)
        exact b53 FU (0 : Int32) h_50 _ _ _ hlit hP hS (lv_sub hl [1, 0] rfl)
      · have hlit := brN _ hlit c5
        refine lv_aload_n hx hb d_Mo_empty_8 rfl (lv_at hl 0 rfl) ?_
        refine mg_Mo_3 hx hb hts hown hK hP q674 d_Mo_empty_9 ?_
        refine lv_iload_n hx hb d_Mo_empty_12 rfl (lv_at hl 1 rfl) ?_
        refine lv_iconst (v := (0 : Int32)) hx hb d_Mo_empty_13 (by decide) ?_
        obtain ⟨g14, hlit⟩ := gdP _ hlit
        refine mast3 hx hb hK hP ha hA hS (j := (x1).toNatClampNeg) rfl (vpin_c g14) d_Mo_empty_14 (fun H locs hP hS => ?_)
        obtain ⟨h_14, eh_14, hlit⟩ := bindS hlit
        rw [Option.some.inj eh_14] at hP
        refine lv_iinc (v := (x1 + (1 : Int32))) (lv' := [(1, .int (x1 + (1 : Int32))), (0, .ref (a 0))]) hx hb d_Mo_empty_15 hl (k := 1) rfl rfl (by decide) rfl (fun ls hl => ?_)
        refine lv_goto (tgt := 2) hx hb d_Mo_empty_18 (by decide) ?_
        exact ih (x1 + (1 : Int32)) h_14 _ _ _ hlit hP hS (lv_sub hl [1, 0] rfl)
  refine lv_iconst (v := (0 : Int32)) hx hb d_Mo_empty_0 (by decide) ?_
  refine lv_istore_n (lv' := [(1, .int (0 : Int32)), (0, .ref (a 0))]) hx hb d_Mo_empty_1 rfl hl (by decide) rfl (fun ls hl => ?_)
  exact b2 FU (0 : Int32) h _ _ _ hlit hP hS (lv_sub hl [1, 0] rfl)

abbrev rm_m_Mo_write : Room := { frames := 1, cells := 0, slots := 0, locals := 25 }
theorem hd_m_Mo_write : y_Mo_write.cls ≠ "java/lang/invoke/MethodHandle" ∧ y_Mo_write.cls ≠ "java/lang/invoke/VarHandle" ∧ (parseMethodDescriptor y_Mo_write.desc).map (fun d => d.parameters.length) = some 1 := by decide +kernel
set_option maxHeartbeats 4000000 in
set_option maxRecDepth 100000 in
theorem cm_Mo_write (l : Launch) (E : mE) (a : Nat → Nat) (ha : xInj a 10) (h : Hp) (sz : Nat) (p1 : Int32) {r0 : Int32} {h9 : Hp} (hlit : m_Mo_write p1 h = some (r0, h9)) : Met l y_Mo_write (Cond.code y_Mo_write b_Mo_write 2 (some .int) :: TB) rm_m_Mo_write (fPc [.ref (a 0), .int p1] E.1 (mtys E) sz (mV E a h)) (fQi (fun _ : Nat => True) r0 E.1 (fun (_ : Nat) => mV E a h9) (xA a 10 sz)) 0 0 (xA a 10 sz) := by
  refine fl_startI (by decide) (Nat.le_of_ble_eq_true rfl) ?_
  intro p e s m args below meth c Q hx hb hml hown hts hsz hP hK hN ret ls hl
  subst hsz
  have hA : ∀ k, k < 10 → (xA a 10 s.heap.size) (a k) := xA_in
  have hS : va_S (xA a 10 s.heap.size) s.heap s.heap [] := va_S.rf
  have hl : lv_has ls 2 [(0, .ref (a 0)), (1, .int p1)] := hl
  refine lv_iload_n hx hb d_Mo_write_0 rfl (lv_at hl 1 rfl) ?_
  refine lv_i2l (v := p1.toInt64) hx hb d_Mo_write_1 rfl ?_
  refine lv_ldc2 (v := (32 : Int64)) hx hb hown (hts _ q705) d_Mo_write_2 ?_
  refine lv_ldc2 (v := (126 : Int64)) hx hb hown (hts _ q706) d_Mo_write_5 ?_
  obtain ⟨r8, hl8, hlit⟩ := bindS hlit
  refine fCallI (fRunS (As := [.long (p1.toInt64), .long (32 : Int64), .long (126 : Int64)]) (rest := []) hx hb hml hown hts hK hN hP (cm_Mo_in l E a ha h _ (p1.toInt64) (32 : Int64) (126 : Int64) (r0 := r8) hl8) q707 q708 q61 q709 hd_m_Mo_in rfl rfl ⟨Nat.le_of_ble_eq_true rfl, Nat.le_of_ble_eq_true rfl⟩ rfl hl.1 rfl (Nat.le_of_ble_eq_true rfl) d_Mo_write_8 ⟨Nat.zero_le _, Nat.zero_le _⟩) hS (xA_up hS.1) (fun _ H locs hu8 hP hS _ _ => ?_)
  have hP : va_P E.1 xcl (mV E a h) H := hP
  refine lv_if_ne (tgt := 16) hx hb d_Mo_write_11 (by decide) (fun c11 => ?_) (fun c11 => ?_)
  · have hlit := brN _ hlit c11
    refine lv_aload_n hx hb d_Mo_write_16 rfl (lv_at hl 0 rfl) ?_
    refine mg_Mo_0 hx hb hts hown hK hP q671 d_Mo_write_17 ?_
    refine lv_sipush (v := (200 : Int32)) hx hb d_Mo_write_20 (by decide) ?_
    refine lv_icmp_ne (tgt := 29) hx hb d_Mo_write_23 (by decide) (fun c23 => ?_) (fun c23 => ?_)
    · have hlit := brN _ hlit c23
      refine lv_aload_n hx hb d_Mo_write_29 rfl (lv_at hl 0 rfl) ?_
      refine mg_Mo_1 hx hb hts hown hK hP q672 d_Mo_write_30 ?_
      refine lv_aload_n hx hb d_Mo_write_33 rfl (lv_at hl 0 rfl) ?_
      refine mg_Mo_0 hx hb hts hown hK hP q671 d_Mo_write_34 ?_
      refine lv_iload_n hx hb d_Mo_write_37 rfl (lv_at hl 1 rfl) ?_
      obtain ⟨g38, hlit⟩ := gdP _ hlit
      refine mast1 hx hb hK hP ha hA hS (j := (h 0 0).toNatClampNeg) rfl (vpin_c g38) d_Mo_write_38 (fun H locs hP hS => ?_)
      obtain ⟨h_38, eh_38, hlit⟩ := bindS hlit
      rw [Option.some.inj eh_38] at hP
      refine lv_aload_n hx hb d_Mo_write_39 rfl (lv_at hl 0 rfl) ?_
      refine lv_dup hx hb d_Mo_write_40 rfl ?_
      refine mg_Mo_0 hx hb hts hown hK hP q671 d_Mo_write_41 ?_
      refine lv_iconst (v := (1 : Int32)) hx hb d_Mo_write_44 (by decide) ?_
      refine lv_iadd hx hb d_Mo_write_45 ?_
      refine mp_Mo_0 hx hb hts hown hK hP ha hA hS q671 d_Mo_write_46 (fun H locs hP hS => ?_)
      obtain ⟨h_46, eh_46, hlit⟩ := bindS hlit
      rw [Option.some.inj eh_46] at hP
      refine lv_aload_n hx hb d_Mo_write_49 rfl (lv_at hl 0 rfl) ?_
      refine mg_Mo_0 hx hb hts hown hK hP q671 d_Mo_write_50 ?_
      cases hlit
      exact ret 0 _ _ _ _ trivial hP hS rfl d_Mo_write_53
    · have hlit := brP _ hlit c23
      refine lv_bipush (v := (-3 : Int32)) hx hb d_Mo_write_26 (by decide) ?_
      cases hlit
      exact ret 0 _ _ _ _ trivial hP hS rfl d_Mo_write_28
  · have hlit := brP _ hlit c11
    refine lv_iconst (v := (-1 : Int32)) hx hb d_Mo_write_14 (by decide) ?_
    cases hlit
    exact ret 0 _ _ _ _ trivial hP hS rfl d_Mo_write_15

abbrev rm_m_Mo_wipe : Room := { frames := 0, cells := 0, slots := 0, locals := 0 }
theorem hd_m_Mo_wipe : y_Mo_wipe.cls ≠ "java/lang/invoke/MethodHandle" ∧ y_Mo_wipe.cls ≠ "java/lang/invoke/VarHandle" ∧ (parseMethodDescriptor y_Mo_wipe.desc).map (fun d => d.parameters.length) = some 0 := by decide +kernel
set_option maxHeartbeats 4000000 in
set_option maxRecDepth 100000 in
theorem cm_Mo_wipe (l : Launch) (E : mE) (a : Nat → Nat) (ha : xInj a 10) (h : Hp) (sz : Nat) {r0 : Int32} {h9 : Hp} (hlit : m_Mo_wipe h = some (r0, h9)) : Met l y_Mo_wipe (Cond.code y_Mo_wipe b_Mo_wipe 2 (some .int) :: TB) rm_m_Mo_wipe (fPc [.ref (a 0)] E.1 (mtys E) sz (mV E a h)) (fQi (fun _ : Nat => True) r0 E.1 (fun (_ : Nat) => mV E a h9) (xA a 10 sz)) 0 0 (xA a 10 sz) := by
  refine fl_startI (by decide) (Nat.le_of_ble_eq_true rfl) ?_
  intro p e s m args below meth c Q hx hb hml hown hts hsz hP hK hN ret ls hl
  subst hsz
  have hA : ∀ k, k < 10 → (xA a 10 s.heap.size) (a k) := xA_in
  have hS : va_S (xA a 10 s.heap.size) s.heap s.heap [] := va_S.rf
  have hl : lv_has ls 2 [(0, .ref (a 0))] := hl
  refine lv_aload_n hx hb d_Mo_wipe_0 rfl (lv_at hl 0 rfl) ?_
  refine mg_Mo_0 hx hb hts hown hK hP q671 d_Mo_wipe_1 ?_
  obtain ⟨y4, ey4, hlit⟩ := bindS hlit
  refine topn ey4 ?_
  refine lv_istore_n (lv' := [(1, .int y4), (0, .ref (a 0))]) hx hb d_Mo_wipe_4 rfl hl (by decide) rfl (fun ls hl => ?_)
  refine lv_aload_n hx hb d_Mo_wipe_5 rfl (lv_at hl 1 rfl) ?_
  refine lv_iconst (v := (0 : Int32)) hx hb d_Mo_wipe_6 (by decide) ?_
  refine mp_Mo_0 hx hb hts hown hK hP ha hA hS q671 d_Mo_wipe_7 (fun H locs hP hS => ?_)
  obtain ⟨h_7, eh_7, hlit⟩ := bindS hlit
  rw [Option.some.inj eh_7] at hP
  refine lv_iload_n hx hb d_Mo_wipe_10 rfl (lv_at hl 0 rfl) ?_
  cases hlit
  exact ret 0 _ _ _ _ trivial hP hS rfl d_Mo_wipe_11

abbrev rm_m_Mo_letterAt : Room := { frames := 0, cells := 0, slots := 0, locals := 0 }
theorem hd_m_Mo_letterAt : y_Mo_letterAt.cls ≠ "java/lang/invoke/MethodHandle" ∧ y_Mo_letterAt.cls ≠ "java/lang/invoke/VarHandle" ∧ (parseMethodDescriptor y_Mo_letterAt.desc).map (fun d => d.parameters.length) = some 1 := by decide +kernel
set_option maxHeartbeats 4000000 in
set_option maxRecDepth 100000 in
theorem cm_Mo_letterAt (l : Launch) (E : mE) (a : Nat → Nat) (ha : xInj a 10) (h : Hp) (sz : Nat) (p1 : Int32) {r0 : Int32} (hlit : m_Mo_letterAt p1 h = some r0) : Met l y_Mo_letterAt (Cond.code y_Mo_letterAt b_Mo_letterAt 2 (some .int) :: TB) rm_m_Mo_letterAt (fPc [.ref (a 0), .int p1] E.1 (mtys E) sz (mV E a h)) (fQi (fun _ : Nat => True) r0 E.1 (fun (_ : Nat) => mV E a h) (xA a 10 sz)) 0 0 (xA a 10 sz) := by
  refine fl_startI (by decide) (Nat.le_of_ble_eq_true rfl) ?_
  intro p e s m args below meth c Q hx hb hml hown hts hsz hP hK hN ret ls hl
  subst hsz
  have hA : ∀ k, k < 10 → (xA a 10 s.heap.size) (a k) := xA_in
  have hS : va_S (xA a 10 s.heap.size) s.heap s.heap [] := va_S.rf
  have hl : lv_has ls 2 [(0, .ref (a 0)), (1, .int p1)] := hl
  refine lv_iload_n hx hb d_Mo_letterAt_0 rfl (lv_at hl 1 rfl) ?_
  refine lv_aload_n hx hb d_Mo_letterAt_1 rfl (lv_at hl 0 rfl) ?_
  refine mg_Mo_0 hx hb hts hown hK hP q671 d_Mo_letterAt_2 ?_
  refine lv_icmp_ge (tgt := 17) hx hb d_Mo_letterAt_5 (by decide) (fun c5 => ?_) (fun c5 => ?_)
  · have hlit := brP _ hlit c5
    refine lv_iconst (v := (0 : Int32)) hx hb d_Mo_letterAt_17 (by decide) ?_
    cases hlit
    exact ret 0 _ _ _ _ trivial hP hS rfl d_Mo_letterAt_18
  · have hlit := brN _ hlit c5
    refine lv_aload_n hx hb d_Mo_letterAt_8 rfl (lv_at hl 0 rfl) ?_
    refine mg_Mo_1 hx hb hts hown hK hP q672 d_Mo_letterAt_9 ?_
    refine lv_iload_n hx hb d_Mo_letterAt_12 rfl (lv_at hl 1 rfl) ?_
    obtain ⟨g13, hlit⟩ := gdP _ hlit
    refine mald1 hx hb hK hP (j := (p1).toNatClampNeg) rfl (vpin_c g13) d_Mo_letterAt_13 ?_
    refine lv_goto (tgt := 18) hx hb d_Mo_letterAt_14 (by decide) ?_
    cases hlit
    exact ret 0 _ _ _ _ trivial hP hS rfl d_Mo_letterAt_18

abbrev rm_m_Mo_numbers : Room := { frames := 1, cells := 0, slots := 0, locals := 25 }
theorem hd_m_Mo_numbers : y_Mo_numbers.cls ≠ "java/lang/invoke/MethodHandle" ∧ y_Mo_numbers.cls ≠ "java/lang/invoke/VarHandle" ∧ (parseMethodDescriptor y_Mo_numbers.desc).map (fun d => d.parameters.length) = some 1 := by decide +kernel
set_option maxHeartbeats 4000000 in
set_option maxRecDepth 100000 in
theorem cm_Mo_numbers (l : Launch) (E : mE) (a : Nat → Nat) (ha : xInj a 10) (h : Hp) (sz : Nat) (p1 : Int32) {r0 : Int32} {h9 : Hp} (hlit : m_Mo_numbers p1 h = some (r0, h9)) : Met l y_Mo_numbers (Cond.code y_Mo_numbers b_Mo_numbers 5 (some .boolean) :: TB) rm_m_Mo_numbers (fPc [.ref (a 0), .int p1] E.1 (mtys E) sz (mV E a h)) (fQi (fun _ : Nat => True) r0 E.1 (fun (_ : Nat) => mV E a h9) (xA a 10 sz)) 0 0 (xA a 10 sz) := by
  refine fl_startI (by decide) (Nat.le_of_ble_eq_true rfl) ?_
  intro p e s m args below meth c Q hx hb hml hown hts hsz hP hK hN ret ls hl
  subst hsz
  have hA : ∀ k, k < 10 → (xA a 10 s.heap.size) (a k) := xA_in
  have hS : va_S (xA a 10 s.heap.size) s.heap s.heap [] := va_S.rf
  have hl : lv_has ls 5 [(0, .ref (a 0)), (1, .int p1)] := hl
  have b107 : ∀ (k2 : Int32 → Hp → Option (Int32 × Hp)), (∀ (x2 : Int32) (h : Hp) (H : Heap) (locs : List Loc) (ls : Array Slot), k2 x2 h = some (r0, h9) → va_P E.1 xcl (mV E a h) H → va_S (xA a 10 s.heap.size) s.heap H locs → lv_has ls 5 [(0, .ref (a 0)), (1, .int p1), (2, .int x2)] → W p l e rm_m_Mo_numbers s m args below meth c H locs 0 0 Q (F0 m 2 ls [])) → ∀ (x2 : Int32) (x4 : Int32) (s0 : Int32) (s1 : Int32) (h : Hp) (H : Heap) (locs : List Loc) (ls : Array Slot), m_Mo_numbers_b107 k2 p1 x2 x4 s0 s1 h = some (r0, h9) → va_P E.1 xcl (mV E a h) H → va_S (xA a 10 s.heap.size) s.heap H locs → lv_has ls 5 [(0, .ref (a 0)), (1, .int p1), (2, .int x2), (4, .int x4)] → W p l e rm_m_Mo_numbers s m args below meth c H locs 0 0 Q (F0 m 107 ls [.int s1, .int s0]) := by
    intro k2 hk2 x2 x4 s0 s1 h H locs ls hlit hP hS hl
    refine lv_icmp_eq (tgt := 112) hx hb d_Mo_numbers_107 (by decide) (fun c107 => ?_) (fun c107 => ?_)
    · have hlit := brP _ hlit c107
      refine lv_aload_n hx hb d_Mo_numbers_112 rfl (lv_at hl 0 rfl) ?_
      refine mg_Mo_13 hx hb hts hown hK hP q684 d_Mo_numbers_113 ?_
      refine lv_iload_n hx hb d_Mo_numbers_116 rfl (lv_at hl 2 rfl) ?_
      refine lv_iload hx hb d_Mo_numbers_117 (lv_at hl 3 rfl) ?_
      obtain ⟨g119, hlit⟩ := gdP _ hlit
      refine mast8 hx hb hK hP ha hA hS (j := (x2).toNatClampNeg) rfl (vpin_c g119) d_Mo_numbers_119 (fun H locs hP hS => ?_)
      obtain ⟨h_119, eh_119, hlit⟩ := bindS hlit
      rw [Option.some.inj eh_119] at hP
      refine lv_aload_n hx hb d_Mo_numbers_120 rfl (lv_at hl 0 rfl) ?_
      refine lv_dup hx hb d_Mo_numbers_121 rfl ?_
      refine mg_Mo_12 hx hb hts hown hK hP q683 d_Mo_numbers_122 ?_
      refine lv_iconst (v := (1 : Int32)) hx hb d_Mo_numbers_125 (by decide) ?_
      refine lv_iadd hx hb d_Mo_numbers_126 ?_
      refine mp_Mo_12 hx hb hts hown hK hP ha hA hS q683 d_Mo_numbers_127 (fun H locs hP hS => ?_)
      obtain ⟨h_127, eh_127, hlit⟩ := bindS hlit
      rw [Option.some.inj eh_127] at hP
      refine lv_iinc (v := (x2 + (1 : Int32))) (lv' := [(2, .int (x2 + (1 : Int32))), (0, .ref (a 0)), (1, .int p1), (4, .int x4)]) hx hb d_Mo_numbers_130 hl (k := 2) rfl rfl (by decide) rfl (fun ls hl => ?_)
      refine lv_goto (tgt := 2) hx hb d_Mo_numbers_133 (by decide) ?_
      exact hk2 (x2 + (1 : Int32)) h_127 _ _ _ hlit hP hS (lv_sub hl [1, 2, 0] rfl)
    · have hlit := brN _ hlit c107
      refine lv_iconst (v := (0 : Int32)) hx hb d_Mo_numbers_110 (by decide) ?_
      cases hlit
      exact ret 0 _ _ _ _ trivial hP hS rfl d_Mo_numbers_111
  have b73 : ∀ (k2 : Int32 → Hp → Option (Int32 × Hp)), (∀ (x2 : Int32) (h : Hp) (H : Heap) (locs : List Loc) (ls : Array Slot), k2 x2 h = some (r0, h9) → va_P E.1 xcl (mV E a h) H → va_S (xA a 10 s.heap.size) s.heap H locs → lv_has ls 5 [(0, .ref (a 0)), (1, .int p1), (2, .int x2)] → W p l e rm_m_Mo_numbers s m args below meth c H locs 0 0 Q (F0 m 2 ls [])) → ∀ (x2 : Int32) (x3 : Int32) (x4 : Int32) (h : Hp) (H : Heap) (locs : List Loc) (ls : Array Slot), m_Mo_numbers_b73 k2 p1 x2 x3 x4 h = some (r0, h9) → va_P E.1 xcl (mV E a h) H → va_S (xA a 10 s.heap.size) s.heap H locs → lv_has ls 5 [(0, .ref (a 0)), (1, .int p1), (2, .int x2), (3, .int x3), (4, .int x4)] → W p l e rm_m_Mo_numbers s m args below meth c H locs 0 0 Q (F0 m 73 ls []) := by
    intro k2 hk2 x2 x3 x4 h H locs ls hlit hP hS hl
    refine lv_iload_n hx hb d_Mo_numbers_73 rfl (lv_at hl 3 rfl) ?_
    refine lv_i2l (v := x3.toInt64) hx hb d_Mo_numbers_74 rfl ?_
    refine lv_lconst (v := (1 : Int64)) hx hb d_Mo_numbers_75 (by decide) ?_
    refine lv_ldc2 (v := (2 : Int64)) hx hb hown (hts _ q735) d_Mo_numbers_76 ?_
    obtain ⟨r79, hl79, hlit⟩ := bindS hlit
    refine fCallI (fRunS (As := [.long (x3.toInt64), .long (1 : Int64), .long (2 : Int64)]) (rest := []) hx hb hml hown hts hK hN hP (cm_Mo_in l E a ha h _ (x3.toInt64) (1 : Int64) (2 : Int64) (r0 := r79) hl79) q707 q708 q61 q709 hd_m_Mo_in rfl rfl ⟨Nat.le_of_ble_eq_true rfl, Nat.le_of_ble_eq_true rfl⟩ rfl hl.1 rfl (Nat.le_of_ble_eq_true rfl) d_Mo_numbers_79 ⟨Nat.zero_le _, Nat.zero_le _⟩) hS (xA_up hS.1) (fun _ H locs hu79 hP hS _ _ => ?_)
    have hP : va_P E.1 xcl (mV E a h) H := hP
    refine lv_if_eq (tgt := 110) hx hb d_Mo_numbers_82 (by decide) (fun c82 => ?_) (fun c82 => ?_)
    · have hlit := brP _ hlit c82
      refine lv_iconst (v := (0 : Int32)) hx hb d_Mo_numbers_110 (by decide) ?_
      cases hlit
      exact ret 0 _ _ _ _ trivial hP hS rfl d_Mo_numbers_111
    · have hlit := brN _ hlit c82
      refine lv_aload_n hx hb d_Mo_numbers_85 rfl (lv_at hl 0 rfl) ?_
      refine lv_aload_n hx hb d_Mo_numbers_86 rfl (lv_at hl 0 rfl) ?_
      refine mg_Mo_12 hx hb hts hown hK hP q683 d_Mo_numbers_87 ?_
      obtain ⟨r90, hl90, hlit⟩ := bindS hlit
      refine fCallI (fRunV (As := [.int (h 0 12)]) (rest := []) (q0 := 0) (ci := 8) hx hb hml hown hts hK hN hP (cm_Mo_letterAt l E a ha h _ (h 0 12) (r0 := r90) hl90) q724 q725 q28 q61 q726 hd_m_Mo_letterAt rfl rfl ⟨Nat.le_of_ble_eq_true rfl, Nat.le_of_ble_eq_true rfl⟩ me_0 rfl rfl rfl hl.1 rfl (Nat.le_of_ble_eq_true rfl) d_Mo_numbers_90 ⟨Nat.zero_le _, Nat.zero_le _⟩) hS (xA_up hS.1) (fun _ H locs hu90 hP hS _ _ => ?_)
      have hP : va_P E.1 xcl (mV E a h) H := hP
      refine lv_iload_n hx hb d_Mo_numbers_93 rfl (lv_at hl 2 rfl) ?_
      refine lv_iload_n hx hb d_Mo_numbers_94 rfl (lv_at hl 1 rfl) ?_
      refine lv_iconst (v := (1 : Int32)) hx hb d_Mo_numbers_95 (by decide) ?_
      refine lv_isub hx hb d_Mo_numbers_96 ?_
      refine lv_icmp_ge (tgt := 105) hx hb d_Mo_numbers_97 (by decide) (fun c97 => ?_) (fun c97 => ?_)
      · have hlit := brP _ hlit c97
        refine lv_bipush (v := (59 : Int32)) hx hb d_Mo_numbers_105 (by decide) ?_
        exact b107 (k2) hk2 x2 x4 r90 (59 : Int32) h _ _ _ hlit hP hS (lv_sub hl [0, 1, 2, 4] rfl)
      · have hlit := brN _ hlit c97
        refine lv_bipush (v := (44 : Int32)) hx hb d_Mo_numbers_100 (by decide) ?_
        refine lv_goto (tgt := 107) hx hb d_Mo_numbers_102 (by decide) ?_
        exact b107 (k2) hk2 x2 x4 r90 (44 : Int32) h _ _ _ hlit hP hS (lv_sub hl [0, 1, 2, 4] rfl)
  have b12 : ∀ (k2 : Int32 → Hp → Option (Int32 × Hp)), (∀ (x2 : Int32) (h : Hp) (H : Heap) (locs : List Loc) (ls : Array Slot), k2 x2 h = some (r0, h9) → va_P E.1 xcl (mV E a h) H → va_S (xA a 10 s.heap.size) s.heap H locs → lv_has ls 5 [(0, .ref (a 0)), (1, .int p1), (2, .int x2)] → W p l e rm_m_Mo_numbers s m args below meth c H locs 0 0 Q (F0 m 2 ls [])) → ∀ (n : Nat), ∀ (x2 : Int32) (x3 : Int32) (x4 : Int32) (h : Hp) (H : Heap) (locs : List Loc) (ls : Array Slot), m_Mo_numbers_b12 k2 p1 n x2 x3 x4 h = some (r0, h9) → va_P E.1 xcl (mV E a h) H → va_S (xA a 10 s.heap.size) s.heap H locs → lv_has ls 5 [(0, .ref (a 0)), (1, .int p1), (2, .int x2), (3, .int x3), (4, .int x4)] → W p l e rm_m_Mo_numbers s m args below meth c H locs 0 0 Q (F0 m 12 ls []) := by
    intro k2 hk2 n
    induction n with
    | zero => intro x2 x3 x4 h H locs ls hlit hP hS hl; exact nnF hlit
    | succ n ih =>
      intro x2 x3 x4 h H locs ls hlit hP hS hl
      refine lv_aload_n hx hb d_Mo_numbers_12 rfl (lv_at hl 0 rfl) ?_
      refine lv_aload_n hx hb d_Mo_numbers_13 rfl (lv_at hl 0 rfl) ?_
      refine mg_Mo_12 hx hb hts hown hK hP q683 d_Mo_numbers_14 ?_
      obtain ⟨r17, hl17, hlit⟩ := bindS hlit
      refine fCallI (fRunV (As := [.int (h 0 12)]) (rest := []) (q0 := 0) (ci := 8) hx hb hml hown hts hK hN hP (cm_Mo_letterAt l E a ha h _ (h 0 12) (r0 := r17) hl17) q724 q725 q28 q61 q726 hd_m_Mo_letterAt rfl rfl ⟨Nat.le_of_ble_eq_true rfl, Nat.le_of_ble_eq_true rfl⟩ me_0 rfl rfl rfl hl.1 rfl (Nat.le_of_ble_eq_true rfl) d_Mo_numbers_17 ⟨Nat.zero_le _, Nat.zero_le _⟩) hS (xA_up hS.1) (fun _ H locs hu17 hP hS _ _ => ?_)
      have hP : va_P E.1 xcl (mV E a h) H := hP
      refine lv_i2l (v := r17.toInt64) hx hb d_Mo_numbers_20 rfl ?_
      refine lv_ldc2 (v := (48 : Int64)) hx hb hown (hts _ q733) d_Mo_numbers_21 ?_
      refine lv_ldc2 (v := (57 : Int64)) hx hb hown (hts _ q734) d_Mo_numbers_24 ?_
      obtain ⟨r27, hl27, hlit⟩ := bindS hlit
      refine fCallI (fRunS (As := [.long (r17.toInt64), .long (48 : Int64), .long (57 : Int64)]) (rest := []) hx hb hml hown hts hK hN hP (cm_Mo_in l E a ha h _ (r17.toInt64) (48 : Int64) (57 : Int64) (r0 := r27) hl27) q707 q708 q61 q709 hd_m_Mo_in rfl rfl ⟨Nat.le_of_ble_eq_true rfl, Nat.le_of_ble_eq_true rfl⟩ rfl hl.1 rfl (Nat.le_of_ble_eq_true rfl) d_Mo_numbers_27 ⟨Nat.zero_le _, Nat.zero_le _⟩) hS (xA_up hS.1) (fun _ H locs hu27 hP hS _ _ => ?_)
      have hP : va_P E.1 xcl (mV E a h) H := hP
      refine lv_if_eq (tgt := 73) hx hb d_Mo_numbers_30 (by decide) (fun c30 => ?_) (fun c30 => ?_)
      · have hlit := brP _ hlit c30
        exact b73 (k2) hk2 x2 x3 x4 h _ _ _ hlit hP hS (lv_sub hl [0, 1, 2, 3, 4] rfl)
      · have hlit := brN _ hlit c30
        refine lv_iload_n hx hb d_Mo_numbers_33 rfl (lv_at hl 3 rfl) ?_
        refine lv_iconst (v := (3 : Int32)) hx hb d_Mo_numbers_34 (by decide) ?_
        refine lv_icmp_ge (tgt := 73) hx hb d_Mo_numbers_35 (by decide) (fun c35 => ?_) (fun c35 => ?_)
        · have hlit := brP _ hlit c35
          exact b73 (k2) hk2 x2 x3 x4 h _ _ _ hlit hP hS (lv_sub hl [0, 1, 2, 3, 4] rfl)
        · have hlit := brN _ hlit c35
          refine lv_bipush (v := (10 : Int32)) hx hb d_Mo_numbers_38 (by decide) ?_
          refine lv_iload hx hb d_Mo_numbers_40 (lv_at hl 4 rfl) ?_
          refine lv_imul hx hb d_Mo_numbers_42 ?_
          refine lv_aload_n hx hb d_Mo_numbers_43 rfl (lv_at hl 0 rfl) ?_
          refine lv_aload_n hx hb d_Mo_numbers_44 rfl (lv_at hl 0 rfl) ?_
          refine mg_Mo_12 hx hb hts hown hK hP q683 d_Mo_numbers_45 ?_
          obtain ⟨r48, hl48, hlit⟩ := bindS hlit
          refine fCallI (fRunV (As := [.int (h 0 12)]) (rest := [.int ((10 : Int32) * x4)]) (q0 := 0) (ci := 8) hx hb hml hown hts hK hN hP (cm_Mo_letterAt l E a ha h _ (h 0 12) (r0 := r48) hl48) q724 q725 q28 q61 q726 hd_m_Mo_letterAt rfl rfl ⟨Nat.le_of_ble_eq_true rfl, Nat.le_of_ble_eq_true rfl⟩ me_0 rfl rfl rfl hl.1 rfl (Nat.le_of_ble_eq_true rfl) d_Mo_numbers_48 ⟨Nat.zero_le _, Nat.zero_le _⟩) hS (xA_up hS.1) (fun _ H locs hu48 hP hS _ _ => ?_)
          have hP : va_P E.1 xcl (mV E a h) H := hP
          refine lv_iadd hx hb d_Mo_numbers_51 ?_
          refine lv_bipush (v := (48 : Int32)) hx hb d_Mo_numbers_52 (by decide) ?_
          refine lv_isub hx hb d_Mo_numbers_54 ?_
          obtain ⟨y55, ey55, hlit⟩ := bindS hlit
          refine topn ey55 ?_
          refine lv_istore (lv' := [(4, .int y55), (0, .ref (a 0)), (1, .int p1), (2, .int x2), (3, .int x3)]) hx hb d_Mo_numbers_55 hl (by decide) rfl (fun ls hl => ?_)
          refine lv_iinc (v := (x3 + (1 : Int32))) (lv' := [(3, .int (x3 + (1 : Int32))), (4, .int y55), (0, .ref (a 0)), (1, .int p1), (2, .int x2)]) hx hb d_Mo_numbers_57 hl (k := 4) rfl rfl (by decide) rfl (fun ls hl => ?_)
          refine lv_aload_n hx hb d_Mo_numbers_60 rfl (lv_at hl 2 rfl) ?_
          refine lv_dup hx hb d_Mo_numbers_61 rfl ?_
          refine mg_Mo_12 hx hb hts hown hK hP q683 d_Mo_numbers_62 ?_
          refine lv_iconst (v := (1 : Int32)) hx hb d_Mo_numbers_65 (by decide) ?_
          refine lv_iadd hx hb d_Mo_numbers_66 ?_
          refine mp_Mo_12 hx hb hts hown hK hP ha hA hS q683 d_Mo_numbers_67 (fun H locs hP hS => ?_)
          obtain ⟨h_67, eh_67, hlit⟩ := bindS hlit
          rw [Option.some.inj eh_67] at hP
          refine lv_goto (tgt := 12) hx hb d_Mo_numbers_70 (by decide) ?_
          exact ih x2 (x3 + (1 : Int32)) y55 h_67 _ _ _ hlit hP hS (lv_sub hl [2, 3, 4, 0, 1] rfl)
  have b2 : ∀ (n : Nat), ∀ (x2 : Int32) (h : Hp) (H : Heap) (locs : List Loc) (ls : Array Slot), m_Mo_numbers_b2 p1 n x2 h = some (r0, h9) → va_P E.1 xcl (mV E a h) H → va_S (xA a 10 s.heap.size) s.heap H locs → lv_has ls 5 [(0, .ref (a 0)), (1, .int p1), (2, .int x2)] → W p l e rm_m_Mo_numbers s m args below meth c H locs 0 0 Q (F0 m 2 ls []) := by
    intro n
    induction n with
    | zero => intro x2 h H locs ls hlit hP hS hl; exact nnF hlit
    | succ n ih =>
      intro x2 h H locs ls hlit hP hS hl
      refine lv_iload_n hx hb d_Mo_numbers_2 rfl (lv_at hl 2 rfl) ?_
      refine lv_iload_n hx hb d_Mo_numbers_3 rfl (lv_at hl 1 rfl) ?_
      refine lv_icmp_ge (tgt := 136) hx hb d_Mo_numbers_4 (by decide) (fun c4 => ?_) (fun c4 => ?_)
      · have hlit := brP _ hlit c4
        refine lv_iconst (v := (1 : Int32)) hx hb d_Mo_numbers_136 (by decide) ?_
        cases hlit
        exact ret 0 _ _ _ _ trivial hP hS rfl d_Mo_numbers_137
      · have hlit := brN _ hlit c4
        refine lv_iconst (v := (0 : Int32)) hx hb d_Mo_numbers_7 (by decide) ?_
        refine lv_istore_n (lv' := [(3, .int (0 : Int32)), (0, .ref (a 0)), (1, .int p1), (2, .int x2)]) hx hb d_Mo_numbers_8 rfl hl (by decide) rfl (fun ls hl => ?_)
        refine lv_iconst (v := (0 : Int32)) hx hb d_Mo_numbers_9 (by decide) ?_
        refine lv_istore (lv' := [(4, .int (0 : Int32)), (3, .int (0 : Int32)), (0, .ref (a 0)), (1, .int p1), (2, .int x2)]) hx hb d_Mo_numbers_10 hl (by decide) rfl (fun ls hl => ?_)
        exact b12 (m_Mo_numbers_b2 p1 n) ih FU x2 (0 : Int32) (0 : Int32) h _ _ _ hlit hP hS (lv_sub hl [2, 3, 4, 1, 0] rfl)
  refine lv_iconst (v := (0 : Int32)) hx hb d_Mo_numbers_0 (by decide) ?_
  refine lv_istore_n (lv' := [(2, .int (0 : Int32)), (0, .ref (a 0)), (1, .int p1)]) hx hb d_Mo_numbers_1 rfl hl (by decide) rfl (fun ls hl => ?_)
  exact b2 FU (0 : Int32) h _ _ _ hlit hP hS (lv_sub hl [1, 2, 0] rfl)

abbrev rm_m_Mo_guestItem : Room := { frames := 1, cells := 0, slots := 0, locals := 25 }
theorem hd_m_Mo_guestItem : y_Mo_guestItem.cls ≠ "java/lang/invoke/MethodHandle" ∧ y_Mo_guestItem.cls ≠ "java/lang/invoke/VarHandle" ∧ (parseMethodDescriptor y_Mo_guestItem.desc).map (fun d => d.parameters.length) = some 0 := by decide +kernel
set_option maxHeartbeats 4000000 in
set_option maxRecDepth 100000 in
theorem cm_Mo_guestItem (l : Launch) (E : mE) (a : Nat → Nat) (ha : xInj a 10) (h : Hp) (sz : Nat) {r0 : Int32} {h9 : Hp} (hlit : m_Mo_guestItem h = some (r0, h9)) : Met l y_Mo_guestItem (Cond.code y_Mo_guestItem b_Mo_guestItem 4 (some .boolean) :: TB) rm_m_Mo_guestItem (fPc [.ref (a 0)] E.1 (mtys E) sz (mV E a h)) (fQi (fun _ : Nat => True) r0 E.1 (fun (_ : Nat) => mV E a h9) (xA a 10 sz)) 0 0 (xA a 10 sz) := by
  refine fl_startI (by decide) (Nat.le_of_ble_eq_true rfl) ?_
  intro p e s m args below meth c Q hx hb hml hown hts hsz hP hK hN ret ls hl
  subst hsz
  have hA : ∀ k, k < 10 → (xA a 10 s.heap.size) (a k) := xA_in
  have hS : va_S (xA a 10 s.heap.size) s.heap s.heap [] := va_S.rf
  have hl : lv_has ls 4 [(0, .ref (a 0))] := hl
  have b122 : ∀ (s0 : Int32) (h : Hp) (H : Heap) (locs : List Loc) (ls : Array Slot), m_Mo_guestItem_b122 s0 h = some (r0, h9) → va_P E.1 xcl (mV E a h) H → va_S (xA a 10 s.heap.size) s.heap H locs → lv_has ls 4 [(0, .ref (a 0))] → W p l e rm_m_Mo_guestItem s m args below meth c H locs 0 0 Q (F0 m 122 ls [.int s0]) := by
    intro s0 h H locs ls hlit hP hS hl
    refine lv_istore_n (lv' := [(2, .int s0), (0, .ref (a 0))]) hx hb d_Mo_guestItem_122 rfl hl (by decide) rfl (fun ls hl => ?_)
    refine lv_aload_n hx hb d_Mo_guestItem_123 rfl (lv_at hl 1 rfl) ?_
    refine lv_dup hx hb d_Mo_guestItem_124 rfl ?_
    refine mg_Mo_12 hx hb hts hown hK hP q683 d_Mo_guestItem_125 ?_
    refine lv_iconst (v := (1 : Int32)) hx hb d_Mo_guestItem_128 (by decide) ?_
    refine lv_iadd hx hb d_Mo_guestItem_129 ?_
    refine mp_Mo_12 hx hb hts hown hK hP ha hA hS q683 d_Mo_guestItem_130 (fun H locs hP hS => ?_)
    obtain ⟨h_130, eh_130, hlit⟩ := bindS hlit
    rw [Option.some.inj eh_130] at hP
    refine lv_aload_n hx hb d_Mo_guestItem_133 rfl (lv_at hl 1 rfl) ?_
    refine mg_Mo_3 hx hb hts hown hK hP q674 d_Mo_guestItem_134 ?_
    refine lv_iconst (v := (1 : Int32)) hx hb d_Mo_guestItem_137 (by decide) ?_
    refine lv_dup2_11 hx hb d_Mo_guestItem_138 rfl rfl ?_
    refine mald3 hx hb hK hP (j := 1) rfl (vpin_c (by decide)) d_Mo_guestItem_139 ?_
    refine lv_iconst (v := (1 : Int32)) hx hb d_Mo_guestItem_140 (by decide) ?_
    refine lv_iadd hx hb d_Mo_guestItem_141 ?_
    refine mast3 hx hb hK hP ha hA hS (j := 1) rfl (vpin_c (by decide)) d_Mo_guestItem_142 (fun H locs hP hS => ?_)
    obtain ⟨h_142, eh_142, hlit⟩ := bindS hlit
    rw [Option.some.inj eh_142] at hP
    refine lv_iload_n hx hb d_Mo_guestItem_143 rfl (lv_at hl 0 rfl) ?_
    obtain ⟨g144, hlit⟩ := gdP _ hlit
    cases hlit
    exact ret 0 _ _ _ _ trivial hP hS (nar_b g144) d_Mo_guestItem_144
  have b86 : ∀ (k17 : Int32 → Int32 → Hp → Option (Int32 × Hp)), (∀ (x1 : Int32) (x2 : Int32) (h : Hp) (H : Heap) (locs : List Loc) (ls : Array Slot), k17 x1 x2 h = some (r0, h9) → va_P E.1 xcl (mV E a h) H → va_S (xA a 10 s.heap.size) s.heap H locs → lv_has ls 4 [(0, .ref (a 0)), (1, .int x1), (2, .int x2)] → W p l e rm_m_Mo_guestItem s m args below meth c H locs 0 0 Q (F0 m 17 ls [])) → ∀ (x1 : Int32) (x2 : Int32) (x3 : Int32) (s1 : Int32) (h : Hp) (H : Heap) (locs : List Loc) (ls : Array Slot), m_Mo_guestItem_b86 k17 x1 x2 x3 s1 h = some (r0, h9) → va_P E.1 xcl (mV E a h) H → va_S (xA a 10 s.heap.size) s.heap H locs → lv_has ls 4 [(0, .ref (a 0)), (1, .int x1), (2, .int x2), (3, .int x3)] → W p l e rm_m_Mo_guestItem s m args below meth c H locs 0 0 Q (F0 m 86 ls [.int s1, .ref (a 3)]) := by
    intro k17 hk17 x1 x2 x3 s1 h H locs ls hlit hP hS hl
    refine lv_iload_n hx hb d_Mo_guestItem_86 rfl (lv_at hl 3 rfl) ?_
    obtain ⟨g87, hlit⟩ := gdP _ hlit
    refine mast3 hx hb hK hP ha hA hS (j := (s1).toNatClampNeg) rfl (vpin_c g87) d_Mo_guestItem_87 (fun H locs hP hS => ?_)
    obtain ⟨h_87, eh_87, hlit⟩ := bindS hlit
    rw [Option.some.inj eh_87] at hP
    refine lv_aload_n hx hb d_Mo_guestItem_88 rfl (lv_at hl 0 rfl) ?_
    refine lv_dup hx hb d_Mo_guestItem_89 rfl ?_
    refine mg_Mo_12 hx hb hts hown hK hP q683 d_Mo_guestItem_90 ?_
    refine lv_iconst (v := (1 : Int32)) hx hb d_Mo_guestItem_93 (by decide) ?_
    refine lv_iadd hx hb d_Mo_guestItem_94 ?_
    refine mp_Mo_12 hx hb hts hown hK hP ha hA hS q683 d_Mo_guestItem_95 (fun H locs hP hS => ?_)
    obtain ⟨h_95, eh_95, hlit⟩ := bindS hlit
    rw [Option.some.inj eh_95] at hP
    refine lv_iinc (v := (x2 + (1 : Int32))) (lv' := [(2, .int (x2 + (1 : Int32))), (0, .ref (a 0)), (1, .int x1), (3, .int x3)]) hx hb d_Mo_guestItem_98 hl (k := 2) rfl rfl (by decide) rfl (fun ls hl => ?_)
    refine lv_goto (tgt := 17) hx hb d_Mo_guestItem_101 (by decide) ?_
    exact hk17 x1 (x2 + (1 : Int32)) h_95 _ _ _ hlit hP hS (lv_sub hl [1, 2, 0] rfl)
  have b55 : ∀ (k17 : Int32 → Int32 → Hp → Option (Int32 × Hp)), (∀ (x1 : Int32) (x2 : Int32) (h : Hp) (H : Heap) (locs : List Loc) (ls : Array Slot), k17 x1 x2 h = some (r0, h9) → va_P E.1 xcl (mV E a h) H → va_S (xA a 10 s.heap.size) s.heap H locs → lv_has ls 4 [(0, .ref (a 0)), (1, .int x1), (2, .int x2)] → W p l e rm_m_Mo_guestItem s m args below meth c H locs 0 0 Q (F0 m 17 ls [])) → ∀ (x1 : Int32) (x2 : Int32) (x3 : Int32) (s0 : Int64) (s1 : Int64) (s2 : Int64) (h : Hp) (H : Heap) (locs : List Loc) (ls : Array Slot), m_Mo_guestItem_b55 k17 x1 x2 x3 s0 s1 s2 h = some (r0, h9) → va_P E.1 xcl (mV E a h) H → va_S (xA a 10 s.heap.size) s.heap H locs → lv_has ls 4 [(0, .ref (a 0)), (1, .int x1), (2, .int x2), (3, .int x3)] → W p l e rm_m_Mo_guestItem s m args below meth c H locs 0 0 Q (F0 m 55 ls [.long s2, .long s1, .long s0]) := by
    intro k17 hk17 x1 x2 x3 s0 s1 s2 h H locs ls hlit hP hS hl
    obtain ⟨r55, hl55, hlit⟩ := bindS hlit
    refine fCallI (fRunS (As := [.long s0, .long s1, .long s2]) (rest := []) hx hb hml hown hts hK hN hP (cm_Mo_in l E a ha h _ s0 s1 s2 (r0 := r55) hl55) q707 q708 q61 q709 hd_m_Mo_in rfl rfl ⟨Nat.le_of_ble_eq_true rfl, Nat.le_of_ble_eq_true rfl⟩ rfl hl.1 rfl (Nat.le_of_ble_eq_true rfl) d_Mo_guestItem_55 ⟨Nat.zero_le _, Nat.zero_le _⟩) hS (xA_up hS.1) (fun _ H locs hu55 hP hS _ _ => ?_)
    have hP : va_P E.1 xcl (mV E a h) H := hP
    refine lv_if_ne (tgt := 63) hx hb d_Mo_guestItem_58 (by decide) (fun c58 => ?_) (fun c58 => ?_)
    · have hlit := brN _ hlit c58
      refine lv_aload_n hx hb d_Mo_guestItem_63 rfl (lv_at hl 0 rfl) ?_
      refine mg_Mo_3 hx hb hts hown hK hP q674 d_Mo_guestItem_64 ?_
      refine lv_iload_n hx hb d_Mo_guestItem_67 rfl (lv_at hl 2 rfl) ?_
      refine lv_if_ne (tgt := 77) hx hb d_Mo_guestItem_68 (by decide) (fun c68 => ?_) (fun c68 => ?_)
      · have hlit := brN _ hlit c68
        refine lv_bipush (v := (19 : Int32)) hx hb d_Mo_guestItem_77 (by decide) ?_
        refine lv_bipush (v := (6 : Int32)) hx hb d_Mo_guestItem_79 (by decide) ?_
        refine lv_iload_n hx hb d_Mo_guestItem_81 rfl (lv_at hl 1 rfl) ?_
        refine lv_imul hx hb d_Mo_guestItem_82 ?_
        refine lv_iadd hx hb d_Mo_guestItem_83 ?_
        refine lv_iload_n hx hb d_Mo_guestItem_84 rfl (lv_at hl 2 rfl) ?_
        refine lv_iadd hx hb d_Mo_guestItem_85 ?_
        exact b86 (k17) hk17 x1 x2 x3 (((19 : Int32) + ((6 : Int32) * x1)) + x2) h _ _ _ hlit hP hS (lv_sub hl [0, 1, 2, 3] rfl)
      · have hlit := brP _ hlit c68
        refine lv_iconst (v := (5 : Int32)) hx hb d_Mo_guestItem_71 (by decide) ?_
        refine lv_iload_n hx hb d_Mo_guestItem_72 rfl (lv_at hl 1 rfl) ?_
        refine lv_iadd hx hb d_Mo_guestItem_73 ?_
        refine lv_goto (tgt := 86) hx hb d_Mo_guestItem_74 (by decide) ?_
        exact b86 (k17) hk17 x1 x2 x3 ((5 : Int32) + x1) h _ _ _ hlit hP hS (lv_sub hl [0, 1, 2, 3] rfl)
    · have hlit := brP _ hlit c58
      refine lv_iconst (v := (0 : Int32)) hx hb d_Mo_guestItem_61 (by decide) ?_
      cases hlit
      exact ret 0 _ _ _ _ trivial hP hS rfl d_Mo_guestItem_62
  have b17 : ∀ (n : Nat), ∀ (x1 : Int32) (x2 : Int32) (h : Hp) (H : Heap) (locs : List Loc) (ls : Array Slot), m_Mo_guestItem_b17 n x1 x2 h = some (r0, h9) → va_P E.1 xcl (mV E a h) H → va_S (xA a 10 s.heap.size) s.heap H locs → lv_has ls 4 [(0, .ref (a 0)), (1, .int x1), (2, .int x2)] → W p l e rm_m_Mo_guestItem s m args below meth c H locs 0 0 Q (F0 m 17 ls []) := by
    intro n
    induction n with
    | zero => intro x1 x2 h H locs ls hlit hP hS hl; exact nnF hlit
    | succ n ih =>
      intro x1 x2 h H locs ls hlit hP hS hl
      refine lv_iload_n hx hb d_Mo_guestItem_17 rfl (lv_at hl 2 rfl) ?_
      refine lv_aload_n hx hb d_Mo_guestItem_18 rfl (lv_at hl 0 rfl) ?_
      refine mg_Mo_3 hx hb hts hown hK hP q674 d_Mo_guestItem_19 ?_
      refine lv_iconst (v := (0 : Int32)) hx hb d_Mo_guestItem_22 (by decide) ?_
      refine mald3 hx hb hK hP (j := 0) rfl (vpin_c (by decide)) d_Mo_guestItem_23 ?_
      refine lv_icmp_gt (tgt := 104) hx hb d_Mo_guestItem_24 (by decide) (fun c24 => ?_) (fun c24 => ?_)
      · have hlit := brP _ hlit c24
        refine lv_aload_n hx hb d_Mo_guestItem_104 rfl (lv_at hl 0 rfl) ?_
        refine lv_aload_n hx hb d_Mo_guestItem_105 rfl (lv_at hl 0 rfl) ?_
        refine mg_Mo_12 hx hb hts hown hK hP q683 d_Mo_guestItem_106 ?_
        obtain ⟨r109, hl109, hlit⟩ := bindS hlit
        refine fCallI (fRunV (As := [.int (h 0 12)]) (rest := []) (q0 := 0) (ci := 8) hx hb hml hown hts hK hN hP (cm_Mo_letterAt l E a ha h _ (h 0 12) (r0 := r109) hl109) q724 q725 q28 q61 q726 hd_m_Mo_letterAt rfl rfl ⟨Nat.le_of_ble_eq_true rfl, Nat.le_of_ble_eq_true rfl⟩ me_0 rfl rfl rfl hl.1 rfl (Nat.le_of_ble_eq_true rfl) d_Mo_guestItem_109 ⟨Nat.zero_le _, Nat.zero_le _⟩) hS (xA_up hS.1) (fun _ H locs hu109 hP hS _ _ => ?_)
        have hP : va_P E.1 xcl (mV E a h) H := hP
        refine lv_bipush (v := (59 : Int32)) hx hb d_Mo_guestItem_112 (by decide) ?_
        refine lv_icmp_ne (tgt := 121) hx hb d_Mo_guestItem_114 (by decide) (fun c114 => ?_) (fun c114 => ?_)
        · have hlit := brN _ hlit c114
          refine lv_iconst (v := (0 : Int32)) hx hb d_Mo_guestItem_121 (by decide) ?_
          exact b122 (0 : Int32) h _ _ _ hlit hP hS (lv_sub hl [0] rfl)
        · have hlit := brP _ hlit c114
          refine lv_iconst (v := (1 : Int32)) hx hb d_Mo_guestItem_117 (by decide) ?_
          refine lv_goto (tgt := 122) hx hb d_Mo_guestItem_118 (by decide) ?_
          exact b122 (1 : Int32) h _ _ _ hlit hP hS (lv_sub hl [0] rfl)
      · have hlit := brN _ hlit c24
        refine lv_aload_n hx hb d_Mo_guestItem_27 rfl (lv_at hl 0 rfl) ?_
        refine lv_aload_n hx hb d_Mo_guestItem_28 rfl (lv_at hl 0 rfl) ?_
        refine mg_Mo_12 hx hb hts hown hK hP q683 d_Mo_guestItem_29 ?_
        obtain ⟨r32, hl32, hlit⟩ := bindS hlit
        refine fCallI (fRunV (As := [.int (h 0 12)]) (rest := []) (q0 := 0) (ci := 8) hx hb hml hown hts hK hN hP (cm_Mo_letterAt l E a ha h _ (h 0 12) (r0 := r32) hl32) q724 q725 q28 q61 q726 hd_m_Mo_letterAt rfl rfl ⟨Nat.le_of_ble_eq_true rfl, Nat.le_of_ble_eq_true rfl⟩ me_0 rfl rfl rfl hl.1 rfl (Nat.le_of_ble_eq_true rfl) d_Mo_guestItem_32 ⟨Nat.zero_le _, Nat.zero_le _⟩) hS (xA_up hS.1) (fun _ H locs hu32 hP hS _ _ => ?_)
        have hP : va_P E.1 xcl (mV E a h) H := hP
        refine lv_bipush (v := (48 : Int32)) hx hb d_Mo_guestItem_35 (by decide) ?_
        refine lv_isub hx hb d_Mo_guestItem_37 ?_
        obtain ⟨y38, ey38, hlit⟩ := bindS hlit
        refine topn ey38 ?_
        refine lv_istore_n (lv' := [(3, .int y38), (0, .ref (a 0)), (1, .int x1), (2, .int x2)]) hx hb d_Mo_guestItem_38 rfl hl (by decide) rfl (fun ls hl => ?_)
        refine lv_iload_n hx hb d_Mo_guestItem_39 rfl (lv_at hl 0 rfl) ?_
        refine lv_i2l (v := y38.toInt64) hx hb d_Mo_guestItem_40 rfl ?_
        refine lv_lconst (v := (0 : Int64)) hx hb d_Mo_guestItem_41 (by decide) ?_
        refine lv_iload_n hx hb d_Mo_guestItem_42 rfl (lv_at hl 3 rfl) ?_
        refine lv_if_ne (tgt := 52) hx hb d_Mo_guestItem_43 (by decide) (fun c43 => ?_) (fun c43 => ?_)
        · have hlit := brN _ hlit c43
          refine lv_ldc2 (v := (9 : Int64)) hx hb hown (hts _ q740) d_Mo_guestItem_52 ?_
          exact b55 (m_Mo_guestItem_b17 n) ih x1 x2 y38 (y38.toInt64) (0 : Int64) (9 : Int64) h _ _ _ hlit hP hS (lv_sub hl [1, 2, 3, 0] rfl)
        · have hlit := brP _ hlit c43
          refine lv_ldc2 (v := (3 : Int64)) hx hb hown (hts _ q739) d_Mo_guestItem_46 ?_
          refine lv_goto (tgt := 55) hx hb d_Mo_guestItem_49 (by decide) ?_
          exact b55 (m_Mo_guestItem_b17 n) ih x1 x2 y38 (y38.toInt64) (0 : Int64) (3 : Int64) h _ _ _ hlit hP hS (lv_sub hl [1, 2, 3, 0] rfl)
  refine lv_aload_n hx hb d_Mo_guestItem_0 rfl (lv_at hl 0 rfl) ?_
  refine mg_Mo_3 hx hb hts hown hK hP q674 d_Mo_guestItem_1 ?_
  refine lv_iconst (v := (1 : Int32)) hx hb d_Mo_guestItem_4 (by decide) ?_
  refine mald3 hx hb hK hP (j := 1) rfl (vpin_c (by decide)) d_Mo_guestItem_5 ?_
  obtain ⟨y6, ey6, hlit⟩ := bindS hlit
  refine topn ey6 ?_
  refine lv_istore_n (lv' := [(1, .int y6), (0, .ref (a 0))]) hx hb d_Mo_guestItem_6 rfl hl (by decide) rfl (fun ls hl => ?_)
  refine lv_iload_n hx hb d_Mo_guestItem_7 rfl (lv_at hl 0 rfl) ?_
  refine lv_bipush (v := (9 : Int32)) hx hb d_Mo_guestItem_8 (by decide) ?_
  refine lv_icmp_ne (tgt := 15) hx hb d_Mo_guestItem_10 (by decide) (fun c10 => ?_) (fun c10 => ?_)
  · have hlit := brN _ hlit c10
    refine lv_iconst (v := (0 : Int32)) hx hb d_Mo_guestItem_15 (by decide) ?_
    refine lv_istore_n (lv' := [(2, .int (0 : Int32)), (1, .int y6), (0, .ref (a 0))]) hx hb d_Mo_guestItem_16 rfl hl (by decide) rfl (fun ls hl => ?_)
    exact b17 FU y6 (0 : Int32) h _ _ _ hlit hP hS (lv_sub hl [2, 1, 0] rfl)
  · have hlit := brP _ hlit c10
    refine lv_iconst (v := (0 : Int32)) hx hb d_Mo_guestItem_13 (by decide) ?_
    cases hlit
    exact ret 0 _ _ _ _ trivial hP hS rfl d_Mo_guestItem_14

abbrev rm_m_Mo_one : Room := { frames := 2, cells := 0, slots := 0, locals := 49 }
theorem hd_m_Mo_one : y_Mo_one.cls ≠ "java/lang/invoke/MethodHandle" ∧ y_Mo_one.cls ≠ "java/lang/invoke/VarHandle" ∧ (parseMethodDescriptor y_Mo_one.desc).map (fun d => d.parameters.length) = some 3 := by decide +kernel
set_option maxHeartbeats 4000000 in
set_option maxRecDepth 100000 in
theorem cm_Mo_one (l : Launch) (E : mE) (a : Nat → Nat) (ha : xInj a 10) (h : Hp) (sz : Nat) (p1 : Int32) (p2 : Int32) (p3 : Int32) {r0 : Int32} {h9 : Hp} (hlit : m_Mo_one p1 p2 p3 h = some (r0, h9)) : Met l y_Mo_one (Cond.code y_Mo_one b_Mo_one 4 (some .boolean) :: TB) rm_m_Mo_one (fPc [.ref (a 0), .int p1, .int p2, .int p3] E.1 (mtys E) sz (mV E a h)) (fQi (fun _ : Nat => True) r0 E.1 (fun (_ : Nat) => mV E a h9) (xA a 10 sz)) 0 0 (xA a 10 sz) := by
  refine fl_startI (by decide) (Nat.le_of_ble_eq_true rfl) ?_
  intro p e s m args below meth c Q hx hb hml hown hts hsz hP hK hN ret ls hl
  subst hsz
  have hA : ∀ k, k < 10 → (xA a 10 s.heap.size) (a k) := xA_in
  have hS : va_S (xA a 10 s.heap.size) s.heap s.heap [] := va_S.rf
  have hl : lv_has ls 4 [(0, .ref (a 0)), (1, .int p1), (2, .int p2), (3, .int p3)] := hl
  refine lv_aload_n hx hb d_Mo_one_0 rfl (lv_at hl 0 rfl) ?_
  refine lv_iconst (v := (1 : Int32)) hx hb d_Mo_one_1 (by decide) ?_
  obtain ⟨z2, hl2, hlit⟩ := bindS hlit
  refine fCallI (fRunV (As := [.int (1 : Int32)]) (rest := []) (q0 := 0) (ci := 8) hx hb hml hown hts hK hN hP (cm_Mo_numbers l E a ha h _ (1 : Int32) (r0 := z2.1) (h9 := z2.2) hl2) q730 q731 q30 q61 q732 hd_m_Mo_numbers rfl rfl ⟨Nat.le_of_ble_eq_true rfl, Nat.le_of_ble_eq_true rfl⟩ me_0 rfl rfl rfl hl.1 rfl (Nat.le_of_ble_eq_true rfl) d_Mo_one_2 ⟨Nat.zero_le _, Nat.zero_le _⟩) hS (xA_up hS.1) (fun _ H locs hu2 hP hS _ _ => ?_)
  have hP : va_P E.1 xcl (mV E a z2.2) H := hP
  refine lv_if_eq (tgt := 25) hx hb d_Mo_one_5 (by decide) (fun c5 => ?_) (fun c5 => ?_)
  · have hlit := brP _ hlit c5
    refine lv_iconst (v := (0 : Int32)) hx hb d_Mo_one_25 (by decide) ?_
    cases hlit
    exact ret 0 _ _ _ _ trivial hP hS rfl d_Mo_one_26
  · have hlit := brN _ hlit c5
    refine lv_aload_n hx hb d_Mo_one_8 rfl (lv_at hl 0 rfl) ?_
    refine mg_Mo_13 hx hb hts hown hK hP q684 d_Mo_one_9 ?_
    refine lv_iconst (v := (0 : Int32)) hx hb d_Mo_one_12 (by decide) ?_
    refine mald8 hx hb hK hP (j := 0) rfl (vpin_c (by decide)) d_Mo_one_13 ?_
    refine lv_i2l (v := (z2.2 8 0).toInt64) hx hb d_Mo_one_14 rfl ?_
    refine lv_iload_n hx hb d_Mo_one_15 rfl (lv_at hl 2 rfl) ?_
    refine lv_i2l (v := p2.toInt64) hx hb d_Mo_one_16 rfl ?_
    refine lv_iload_n hx hb d_Mo_one_17 rfl (lv_at hl 3 rfl) ?_
    refine lv_i2l (v := p3.toInt64) hx hb d_Mo_one_18 rfl ?_
    obtain ⟨r19, hl19, hlit⟩ := bindS hlit
    refine fCallI (fRunS (As := [.long ((z2.2 8 0).toInt64), .long (p2.toInt64), .long (p3.toInt64)]) (rest := []) hx hb hml hown hts hK hN hP (cm_Mo_in l E a ha z2.2 _ ((z2.2 8 0).toInt64) (p2.toInt64) (p3.toInt64) (r0 := r19) hl19) q707 q708 q61 q709 hd_m_Mo_in rfl rfl ⟨Nat.le_of_ble_eq_true rfl, Nat.le_of_ble_eq_true rfl⟩ rfl hl.1 rfl (Nat.le_of_ble_eq_true rfl) d_Mo_one_19 ⟨Nat.zero_le _, Nat.zero_le _⟩) hS (xA_up hS.1) (fun _ H locs hu19 hP hS _ _ => ?_)
    have hP : va_P E.1 xcl (mV E a z2.2) H := hP
    refine lv_if_ne (tgt := 27) hx hb d_Mo_one_22 (by decide) (fun c22 => ?_) (fun c22 => ?_)
    · have hlit := brN _ hlit c22
      refine lv_aload_n hx hb d_Mo_one_27 rfl (lv_at hl 0 rfl) ?_
      refine mg_Mo_3 hx hb hts hown hK hP q674 d_Mo_one_28 ?_
      refine lv_iload_n hx hb d_Mo_one_31 rfl (lv_at hl 1 rfl) ?_
      refine lv_aload_n hx hb d_Mo_one_32 rfl (lv_at hl 0 rfl) ?_
      refine mg_Mo_13 hx hb hts hown hK hP q684 d_Mo_one_33 ?_
      refine lv_iconst (v := (0 : Int32)) hx hb d_Mo_one_36 (by decide) ?_
      refine mald8 hx hb hK hP (j := 0) rfl (vpin_c (by decide)) d_Mo_one_37 ?_
      obtain ⟨g38, hlit⟩ := gdP _ hlit
      refine mast3 hx hb hK hP ha hA hS (j := (p1).toNatClampNeg) rfl (vpin_c g38) d_Mo_one_38 (fun H locs hP hS => ?_)
      obtain ⟨h_38, eh_38, hlit⟩ := bindS hlit
      rw [Option.some.inj eh_38] at hP
      refine lv_iconst (v := (1 : Int32)) hx hb d_Mo_one_39 (by decide) ?_
      cases hlit
      exact ret 0 _ _ _ _ trivial hP hS rfl d_Mo_one_40
    · have hlit := brP _ hlit c22
      refine lv_iconst (v := (0 : Int32)) hx hb d_Mo_one_25 (by decide) ?_
      cases hlit
      exact ret 0 _ _ _ _ trivial hP hS rfl d_Mo_one_26

abbrev rm_m_Mo_item : Room := { frames := 3, cells := 0, slots := 0, locals := 72 }
theorem hd_m_Mo_item : y_Mo_item.cls ≠ "java/lang/invoke/MethodHandle" ∧ y_Mo_item.cls ≠ "java/lang/invoke/VarHandle" ∧ (parseMethodDescriptor y_Mo_item.desc).map (fun d => d.parameters.length) = some 0 := by decide +kernel
set_option maxHeartbeats 4000000 in
set_option maxRecDepth 100000 in
theorem cm_Mo_item (l : Launch) (E : mE) (a : Nat → Nat) (ha : xInj a 10) (h : Hp) (sz : Nat) {r0 : Int32} {h9 : Hp} (hlit : m_Mo_item h = some (r0, h9)) : Met l y_Mo_item (Cond.code y_Mo_item b_Mo_item 2 (some .boolean) :: TB) rm_m_Mo_item (fPc [.ref (a 0)] E.1 (mtys E) sz (mV E a h)) (fQi (fun _ : Nat => True) r0 E.1 (fun (_ : Nat) => mV E a h9) (xA a 10 sz)) 0 0 (xA a 10 sz) := by
  refine fl_startI (by decide) (Nat.le_of_ble_eq_true rfl) ?_
  intro p e s m args below meth c Q hx hb hml hown hts hsz hP hK hN ret ls hl
  subst hsz
  have hA : ∀ k, k < 10 → (xA a 10 s.heap.size) (a k) := xA_in
  have hS : va_S (xA a 10 s.heap.size) s.heap s.heap [] := va_S.rf
  have hl : lv_has ls 2 [(0, .ref (a 0))] := hl
  refine lv_aload_n hx hb d_Mo_item_0 rfl (lv_at hl 0 rfl) ?_
  refine lv_aload_n hx hb d_Mo_item_1 rfl (lv_at hl 0 rfl) ?_
  refine mg_Mo_12 hx hb hts hown hK hP q683 d_Mo_item_2 ?_
  obtain ⟨r5, hl5, hlit⟩ := bindS hlit
  refine fCallI (fRunV (As := [.int (h 0 12)]) (rest := []) (q0 := 0) (ci := 8) hx hb hml hown hts hK hN hP (cm_Mo_letterAt l E a ha h _ (h 0 12) (r0 := r5) hl5) q724 q725 q28 q61 q726 hd_m_Mo_letterAt rfl rfl ⟨Nat.le_of_ble_eq_true rfl, Nat.le_of_ble_eq_true rfl⟩ me_0 rfl rfl rfl hl.1 rfl (Nat.le_of_ble_eq_true rfl) d_Mo_item_5 ⟨Nat.zero_le _, Nat.zero_le _⟩) hS (xA_up hS.1) (fun _ H locs hu5 hP hS _ _ => ?_)
  have hP : va_P E.1 xcl (mV E a h) H := hP
  refine lv_istore_n (lv' := [(1, .int r5), (0, .ref (a 0))]) hx hb d_Mo_item_8 rfl hl (by decide) rfl (fun ls hl => ?_)
  refine lv_aload_n hx hb d_Mo_item_9 rfl (lv_at hl 1 rfl) ?_
  refine lv_dup hx hb d_Mo_item_10 rfl ?_
  refine mg_Mo_12 hx hb hts hown hK hP q683 d_Mo_item_11 ?_
  refine lv_iconst (v := (1 : Int32)) hx hb d_Mo_item_14 (by decide) ?_
  refine lv_iadd hx hb d_Mo_item_15 ?_
  refine mp_Mo_12 hx hb hts hown hK hP ha hA hS q683 d_Mo_item_16 (fun H locs hP hS => ?_)
  obtain ⟨h_16, eh_16, hlit⟩ := bindS hlit
  rw [Option.some.inj eh_16] at hP
  refine lv_iload_n hx hb d_Mo_item_19 rfl (lv_at hl 0 rfl) ?_
  refine lv_bipush (v := (100 : Int32)) hx hb d_Mo_item_20 (by decide) ?_
  refine lv_icmp_ne (tgt := 49) hx hb d_Mo_item_22 (by decide) (fun c22 => ?_) (fun c22 => ?_)
  · have hlit := brN _ hlit c22
    refine lv_aload_n hx hb d_Mo_item_49 rfl (lv_at hl 1 rfl) ?_
    refine lv_iconst (v := (1 : Int32)) hx hb d_Mo_item_50 (by decide) ?_
    refine mp_Mo_4 hx hb hts hown hK hP ha hA hS (Or.inr rfl) q675 d_Mo_item_51 (fun H locs hP hS => ?_)
    obtain ⟨h_51, eh_51, hlit⟩ := bindS hlit
    rw [Option.some.inj eh_51] at hP
    refine lv_iload_n hx hb d_Mo_item_54 rfl (lv_at hl 0 rfl) ?_
    by_cases c55_103 : r5 = 103
    · have hlit := brP _ hlit c55_103
      refine lv_lookup (off := 49) (tgt := 104) hx hb d_Mo_item_55 (by decide) (by rw [c55_103]; rfl) (by decide) ?_
      refine lv_aload_n hx hb d_Mo_item_104 rfl (lv_at hl 1 rfl) ?_
      obtain ⟨z105, hl105, hlit⟩ := bindS hlit
      refine fCallI (fRunV (As := []) (rest := []) (q0 := 0) (ci := 8) hx hb hml hown hts hK hN hP (cm_Mo_guestItem l E a ha h_51 _ (r0 := z105.1) (h9 := z105.2) hl105) q736 q737 q31 q61 q738 hd_m_Mo_guestItem rfl rfl ⟨Nat.le_of_ble_eq_true rfl, Nat.le_of_ble_eq_true rfl⟩ me_0 rfl rfl rfl hl.1 rfl (Nat.le_of_ble_eq_true rfl) d_Mo_item_105 ⟨Nat.zero_le _, Nat.zero_le _⟩) hS (xA_up hS.1) (fun _ H locs hu105 hP hS _ _ => ?_)
      have hP : va_P E.1 xcl (mV E a z105.2) H := hP
      obtain ⟨g108, hlit⟩ := gdP _ hlit
      cases hlit
      exact ret 0 _ _ _ _ trivial hP hS (nar_b g108) d_Mo_item_108
    · have hlit := brN _ hlit c55_103
      by_cases c55_104 : r5 = 104
      · have hlit := brP _ hlit c55_104
        refine lv_lookup (off := 135) (tgt := 190) hx hb d_Mo_item_55 (by decide) (by rw [c55_104]; rfl) (by decide) ?_
        refine lv_aload_n hx hb d_Mo_item_190 rfl (lv_at hl 1 rfl) ?_
        refine lv_iconst (v := (4 : Int32)) hx hb d_Mo_item_191 (by decide) ?_
        refine lv_iconst (v := (1 : Int32)) hx hb d_Mo_item_192 (by decide) ?_
        refine lv_bipush (v := (60 : Int32)) hx hb d_Mo_item_193 (by decide) ?_
        obtain ⟨z195, hl195, hlit⟩ := bindS hlit
        refine fCallI (fRunV (As := [.int (4 : Int32), .int (1 : Int32), .int (60 : Int32)]) (rest := []) (q0 := 0) (ci := 8) hx hb hml hown hts hK hN hP (cm_Mo_one l E a ha h_51 _ (4 : Int32) (1 : Int32) (60 : Int32) (r0 := z195.1) (h9 := z195.2) hl195) q727 q728 q29 q61 q729 hd_m_Mo_one rfl rfl ⟨Nat.le_of_ble_eq_true rfl, Nat.le_of_ble_eq_true rfl⟩ me_0 rfl rfl rfl hl.1 rfl (Nat.le_of_ble_eq_true rfl) d_Mo_item_195 ⟨Nat.zero_le _, Nat.zero_le _⟩) hS (xA_up hS.1) (fun _ H locs hu195 hP hS _ _ => ?_)
        have hP : va_P E.1 xcl (mV E a z195.2) H := hP
        obtain ⟨g198, hlit⟩ := gdP _ hlit
        cases hlit
        exact ret 0 _ _ _ _ trivial hP hS (nar_b g198) d_Mo_item_198
      · have hlit := brN _ hlit c55_104
        by_cases c55_115 : r5 = 115
        · have hlit := brP _ hlit c55_115
          refine lv_lookup (off := 126) (tgt := 181) hx hb d_Mo_item_55 (by decide) (by rw [c55_115]; rfl) (by decide) ?_
          refine lv_aload_n hx hb d_Mo_item_181 rfl (lv_at hl 1 rfl) ?_
          refine lv_iconst (v := (3 : Int32)) hx hb d_Mo_item_182 (by decide) ?_
          refine lv_iconst (v := (1 : Int32)) hx hb d_Mo_item_183 (by decide) ?_
          refine lv_bipush (v := (99 : Int32)) hx hb d_Mo_item_184 (by decide) ?_
          obtain ⟨z186, hl186, hlit⟩ := bindS hlit
          refine fCallI (fRunV (As := [.int (3 : Int32), .int (1 : Int32), .int (99 : Int32)]) (rest := []) (q0 := 0) (ci := 8) hx hb hml hown hts hK hN hP (cm_Mo_one l E a ha h_51 _ (3 : Int32) (1 : Int32) (99 : Int32) (r0 := z186.1) (h9 := z186.2) hl186) q727 q728 q29 q61 q729 hd_m_Mo_one rfl rfl ⟨Nat.le_of_ble_eq_true rfl, Nat.le_of_ble_eq_true rfl⟩ me_0 rfl rfl rfl hl.1 rfl (Nat.le_of_ble_eq_true rfl) d_Mo_item_186 ⟨Nat.zero_le _, Nat.zero_le _⟩) hS (xA_up hS.1) (fun _ H locs hu186 hP hS _ _ => ?_)
          have hP : va_P E.1 xcl (mV E a z186.2) H := hP
          obtain ⟨g189, hlit⟩ := gdP _ hlit
          cases hlit
          exact ret 0 _ _ _ _ trivial hP hS (nar_b g189) d_Mo_item_189
        · have hlit := brN _ hlit c55_115
          by_cases c55_116 : r5 = 116
          · have hlit := brP _ hlit c55_116
            refine lv_lookup (off := 54) (tgt := 109) hx hb d_Mo_item_55 (by decide) (by rw [c55_116]; rfl) (by decide) ?_
            refine lv_aload_n hx hb d_Mo_item_109 rfl (lv_at hl 1 rfl) ?_
            refine lv_iconst (v := (2 : Int32)) hx hb d_Mo_item_110 (by decide) ?_
            obtain ⟨z111, hl111, hlit⟩ := bindS hlit
            refine fCallI (fRunV (As := [.int (2 : Int32)]) (rest := []) (q0 := 0) (ci := 8) hx hb hml hown hts hK hN hP (cm_Mo_numbers l E a ha h_51 _ (2 : Int32) (r0 := z111.1) (h9 := z111.2) hl111) q730 q731 q30 q61 q732 hd_m_Mo_numbers rfl rfl ⟨Nat.le_of_ble_eq_true rfl, Nat.le_of_ble_eq_true rfl⟩ me_0 rfl rfl rfl hl.1 rfl (Nat.le_of_ble_eq_true rfl) d_Mo_item_111 ⟨Nat.zero_le _, Nat.zero_le _⟩) hS (xA_up hS.1) (fun _ H locs hu111 hP hS _ _ => ?_)
            have hP : va_P E.1 xcl (mV E a z111.2) H := hP
            refine lv_if_eq (tgt := 149) hx hb d_Mo_item_114 (by decide) (fun c114 => ?_) (fun c114 => ?_)
            · have hlit := brP _ hlit c114
              refine lv_iconst (v := (0 : Int32)) hx hb d_Mo_item_149 (by decide) ?_
              cases hlit
              exact ret 0 _ _ _ _ trivial hP hS rfl d_Mo_item_150
            · have hlit := brN _ hlit c114
              refine lv_aload_n hx hb d_Mo_item_117 rfl (lv_at hl 1 rfl) ?_
              refine mg_Mo_13 hx hb hts hown hK hP q684 d_Mo_item_118 ?_
              refine lv_iconst (v := (0 : Int32)) hx hb d_Mo_item_121 (by decide) ?_
              refine mald8 hx hb hK hP (j := 0) rfl (vpin_c (by decide)) d_Mo_item_122 ?_
              refine lv_aload_n hx hb d_Mo_item_123 rfl (lv_at hl 1 rfl) ?_
              refine mg_Mo_3 hx hb hts hown hK hP q674 d_Mo_item_124 ?_
              refine lv_iconst (v := (0 : Int32)) hx hb d_Mo_item_127 (by decide) ?_
              refine mald3 hx hb hK hP (j := 0) rfl (vpin_c (by decide)) d_Mo_item_128 ?_
              refine lv_icmp_ge (tgt := 149) hx hb d_Mo_item_129 (by decide) (fun c129 => ?_) (fun c129 => ?_)
              · have hlit := brP _ hlit c129
                refine lv_iconst (v := (0 : Int32)) hx hb d_Mo_item_149 (by decide) ?_
                cases hlit
                exact ret 0 _ _ _ _ trivial hP hS rfl d_Mo_item_150
              · have hlit := brN _ hlit c129
                refine lv_aload_n hx hb d_Mo_item_132 rfl (lv_at hl 1 rfl) ?_
                refine mg_Mo_13 hx hb hts hown hK hP q684 d_Mo_item_133 ?_
                refine lv_iconst (v := (1 : Int32)) hx hb d_Mo_item_136 (by decide) ?_
                refine mald8 hx hb hK hP (j := 1) rfl (vpin_c (by decide)) d_Mo_item_137 ?_
                refine lv_i2l (v := (z111.2 8 1).toInt64) hx hb d_Mo_item_138 rfl ?_
                refine lv_lconst (v := (1 : Int64)) hx hb d_Mo_item_139 (by decide) ?_
                refine lv_ldc2 (v := (60 : Int64)) hx hb hown (hts _ q741) d_Mo_item_140 ?_
                obtain ⟨r143, hl143, hlit⟩ := bindS hlit
                refine fCallI (fRunS (As := [.long ((z111.2 8 1).toInt64), .long (1 : Int64), .long (60 : Int64)]) (rest := []) hx hb hml hown hts hK hN hP (cm_Mo_in l E a ha z111.2 _ ((z111.2 8 1).toInt64) (1 : Int64) (60 : Int64) (r0 := r143) hl143) q707 q708 q61 q709 hd_m_Mo_in rfl rfl ⟨Nat.le_of_ble_eq_true rfl, Nat.le_of_ble_eq_true rfl⟩ rfl hl.1 rfl (Nat.le_of_ble_eq_true rfl) d_Mo_item_143 ⟨Nat.zero_le _, Nat.zero_le _⟩) hS (xA_up hS.1) (fun _ H locs hu143 hP hS _ _ => ?_)
                have hP : va_P E.1 xcl (mV E a z111.2) H := hP
                refine lv_if_ne (tgt := 151) hx hb d_Mo_item_146 (by decide) (fun c146 => ?_) (fun c146 => ?_)
                · have hlit := brN _ hlit c146
                  refine lv_aload_n hx hb d_Mo_item_151 rfl (lv_at hl 1 rfl) ?_
                  refine mg_Mo_3 hx hb hts hown hK hP q674 d_Mo_item_152 ?_
                  refine lv_bipush (v := (14 : Int32)) hx hb d_Mo_item_155 (by decide) ?_
                  refine lv_aload_n hx hb d_Mo_item_157 rfl (lv_at hl 1 rfl) ?_
                  refine mg_Mo_13 hx hb hts hown hK hP q684 d_Mo_item_158 ?_
                  refine lv_iconst (v := (0 : Int32)) hx hb d_Mo_item_161 (by decide) ?_
                  refine mald8 hx hb hK hP (j := 0) rfl (vpin_c (by decide)) d_Mo_item_162 ?_
                  refine lv_iadd hx hb d_Mo_item_163 ?_
                  refine lv_aload_n hx hb d_Mo_item_164 rfl (lv_at hl 1 rfl) ?_
                  refine mg_Mo_13 hx hb hts hown hK hP q684 d_Mo_item_165 ?_
                  refine lv_iconst (v := (1 : Int32)) hx hb d_Mo_item_168 (by decide) ?_
                  refine mald8 hx hb hK hP (j := 1) rfl (vpin_c (by decide)) d_Mo_item_169 ?_
                  obtain ⟨g170, hlit⟩ := gdP _ hlit
                  refine mast3 hx hb hK hP ha hA hS (j := (((14 : Int32) + (z111.2 8 0))).toNatClampNeg) rfl (vpin_c g170) d_Mo_item_170 (fun H locs hP hS => ?_)
                  obtain ⟨h_170, eh_170, hlit⟩ := bindS hlit
                  rw [Option.some.inj eh_170] at hP
                  refine lv_iconst (v := (1 : Int32)) hx hb d_Mo_item_171 (by decide) ?_
                  cases hlit
                  exact ret 0 _ _ _ _ trivial hP hS rfl d_Mo_item_172
                · have hlit := brP _ hlit c146
                  refine lv_iconst (v := (0 : Int32)) hx hb d_Mo_item_149 (by decide) ?_
                  cases hlit
                  exact ret 0 _ _ _ _ trivial hP hS rfl d_Mo_item_150
          · have hlit := brN _ hlit c55_116
            by_cases c55_118 : r5 = 118
            · have hlit := brP _ hlit c55_118
              refine lv_lookup (off := 118) (tgt := 173) hx hb d_Mo_item_55 (by decide) (by rw [c55_118]; rfl) (by decide) ?_
              refine lv_aload_n hx hb d_Mo_item_173 rfl (lv_at hl 1 rfl) ?_
              refine lv_iconst (v := (2 : Int32)) hx hb d_Mo_item_174 (by decide) ?_
              refine lv_iconst (v := (0 : Int32)) hx hb d_Mo_item_175 (by decide) ?_
              refine lv_iconst (v := (3 : Int32)) hx hb d_Mo_item_176 (by decide) ?_
              obtain ⟨z177, hl177, hlit⟩ := bindS hlit
              refine fCallI (fRunV (As := [.int (2 : Int32), .int (0 : Int32), .int (3 : Int32)]) (rest := []) (q0 := 0) (ci := 8) hx hb hml hown hts hK hN hP (cm_Mo_one l E a ha h_51 _ (2 : Int32) (0 : Int32) (3 : Int32) (r0 := z177.1) (h9 := z177.2) hl177) q727 q728 q29 q61 q729 hd_m_Mo_one rfl rfl ⟨Nat.le_of_ble_eq_true rfl, Nat.le_of_ble_eq_true rfl⟩ me_0 rfl rfl rfl hl.1 rfl (Nat.le_of_ble_eq_true rfl) d_Mo_item_177 ⟨Nat.zero_le _, Nat.zero_le _⟩) hS (xA_up hS.1) (fun _ H locs hu177 hP hS _ _ => ?_)
              have hP : va_P E.1 xcl (mV E a z177.2) H := hP
              obtain ⟨g180, hlit⟩ := gdP _ hlit
              cases hlit
              exact ret 0 _ _ _ _ trivial hP hS (nar_b g180) d_Mo_item_180
            · have hlit := brN _ hlit c55_118
              refine lv_lookup (off := 144) (tgt := 199) hx hb d_Mo_item_55 (by decide) (by show Op.lookupswitch.offset [(103, 49), (104, 135), (115, 126), (116, 54), (118, 118)] 144 _ = 144; rw [lv_osw (a := 103) c55_103 (by decide), lv_osw (a := 104) c55_104 (by decide), lv_osw (a := 115) c55_115 (by decide), lv_osw (a := 116) c55_116 (by decide), lv_osw (a := 118) c55_118 (by decide)]; rfl) (by decide) ?_
              refine lv_iconst (v := (0 : Int32)) hx hb d_Mo_item_199 (by decide) ?_
              cases hlit
              exact ret 0 _ _ _ _ trivial hP hS rfl d_Mo_item_200
  · have hlit := brP _ hlit c22
    refine lv_aload_n hx hb d_Mo_item_25 rfl (lv_at hl 1 rfl) ?_
    refine lv_iconst (v := (0 : Int32)) hx hb d_Mo_item_26 (by decide) ?_
    refine lv_iconst (v := (2 : Int32)) hx hb d_Mo_item_27 (by decide) ?_
    refine lv_bipush (v := (6 : Int32)) hx hb d_Mo_item_28 (by decide) ?_
    obtain ⟨z30, hl30, hlit⟩ := bindS hlit
    refine fCallI (fRunV (As := [.int (0 : Int32), .int (2 : Int32), .int (6 : Int32)]) (rest := []) (q0 := 0) (ci := 8) hx hb hml hown hts hK hN hP (cm_Mo_one l E a ha h_16 _ (0 : Int32) (2 : Int32) (6 : Int32) (r0 := z30.1) (h9 := z30.2) hl30) q727 q728 q29 q61 q729 hd_m_Mo_one rfl rfl ⟨Nat.le_of_ble_eq_true rfl, Nat.le_of_ble_eq_true rfl⟩ me_0 rfl rfl rfl hl.1 rfl (Nat.le_of_ble_eq_true rfl) d_Mo_item_30 ⟨Nat.zero_le _, Nat.zero_le _⟩) hS (xA_up hS.1) (fun _ H locs hu30 hP hS _ _ => ?_)
    have hP : va_P E.1 xcl (mV E a z30.2) H := hP
    refine lv_if_eq (tgt := 47) hx hb d_Mo_item_33 (by decide) (fun c33 => ?_) (fun c33 => ?_)
    · have hlit := brP _ hlit c33
      refine lv_iconst (v := (0 : Int32)) hx hb d_Mo_item_47 (by decide) ?_
      cases hlit
      exact ret 0 _ _ _ _ trivial hP hS rfl d_Mo_item_48
    · have hlit := brN _ hlit c33
      refine lv_aload_n hx hb d_Mo_item_36 rfl (lv_at hl 1 rfl) ?_
      refine mg_Mo_4 hx hb hts hown hK hP q675 d_Mo_item_37 ?_
      refine lv_if_ne (tgt := 47) hx hb d_Mo_item_40 (by decide) (fun c40 => ?_) (fun c40 => ?_)
      · have hlit := brN _ hlit c40
        refine lv_iconst (v := (0 : Int32)) hx hb d_Mo_item_47 (by decide) ?_
        cases hlit
        exact ret 0 _ _ _ _ trivial hP hS rfl d_Mo_item_48
      · have hlit := brP _ hlit c40
        refine lv_iconst (v := (1 : Int32)) hx hb d_Mo_item_43 (by decide) ?_
        refine lv_goto (tgt := 48) hx hb d_Mo_item_44 (by decide) ?_
        cases hlit
        exact ret 0 _ _ _ _ trivial hP hS rfl d_Mo_item_48
