abbrev rm_m_Mo_dish : Room := { frames := 3, cells := 0, slots := 0, locals := 76 }
theorem hd_m_Mo_dish : y_Mo_dish.cls ≠ "java/lang/invoke/MethodHandle" ∧ y_Mo_dish.cls ≠ "java/lang/invoke/VarHandle" ∧ (parseMethodDescriptor y_Mo_dish.desc).map (fun d => d.parameters.length) = some 2 := by decide +kernel
set_option maxHeartbeats 4000000 in
set_option maxRecDepth 100000 in
theorem cm_Mo_dish (l : Launch) (E : mE) (a : Nat → Nat) (ha : xInj a 10) (h : Hp) (sz : Nat) (p1 : Int32) (p2 : Int32) {r0 : Int32} (hlit : m_Mo_dish p1 p2 h = some r0) : Met l y_Mo_dish (Cond.code y_Mo_dish b_Mo_dish 5 (some .int) :: TB) rm_m_Mo_dish (fPc [.ref (a 0), .int p1, .int p2] E.1 (mtys E) sz (mV E a h)) (fQi (fun _ : Nat => True) r0 E.1 (fun (_ : Nat) => mV E a h) (xA a 10 sz)) 0 0 (xA a 10 sz) := by
  refine fl_startI (by decide) (Nat.le_of_ble_eq_true rfl) ?_
  intro p e s m args below meth c Q hx hb hml hown hts hsz hP hK hN ret ls hl
  subst hsz
  have hA : ∀ k, k < 10 → (xA a 10 s.heap.size) (a k) := xA_in
  have hS : va_S (xA a 10 s.heap.size) s.heap s.heap [] := va_S.rf
  have hl : lv_has ls 5 [(0, .ref (a 0)), (1, .int p1), (2, .int p2)] := hl
  have b27 : ∀ (n : Nat), ∀ (x3 : Int32) (x4 : Int32) (H : Heap) (locs : List Loc) (ls : Array Slot), m_Mo_dish_b27 p1 p2 h n x3 x4 = some r0 → va_P E.1 xcl (mV E a h) H → va_S (xA a 10 s.heap.size) s.heap H locs → lv_has ls 5 [(0, .ref (a 0)), (1, .int p1), (2, .int p2), (3, .int x3), (4, .int x4)] → W p l e rm_m_Mo_dish s m args below meth c H locs 0 0 Q (F0 m 27 ls []) := by
    intro n
    induction n with
    | zero => intro x3 x4 H locs ls hlit hP hS hl; exact nnF hlit
    | succ n ih =>
      intro x3 x4 H locs ls hlit hP hS hl
      refine lv_iload hx hb d_Mo_dish_27 (lv_at hl 4 rfl) ?_
      refine lv_aload_n hx hb d_Mo_dish_29 rfl (lv_at hl 0 rfl) ?_
      refine mg_Mo_2 hx hb hts hown hK hP q673 d_Mo_dish_30 ?_
      refine lv_iconst (v := (1 : Int32)) hx hb d_Mo_dish_33 (by decide) ?_
      refine mald2 hx hb hK hP (j := 1) rfl (vpin_c (by decide)) d_Mo_dish_34 ?_
      refine lv_icmp_ge (tgt := 83) hx hb d_Mo_dish_35 (by decide) (fun c35 => ?_) (fun c35 => ?_)
      · have hlit := brP _ hlit c35
        refine lv_iload_n hx hb d_Mo_dish_83 rfl (lv_at hl 2 rfl) ?_
        refine lv_if_ne (tgt := 99) hx hb d_Mo_dish_84 (by decide) (fun c84 => ?_) (fun c84 => ?_)
        · have hlit := brN _ hlit c84
          refine lv_iload_n hx hb d_Mo_dish_99 rfl (lv_at hl 2 rfl) ?_
          refine lv_iconst (v := (1 : Int32)) hx hb d_Mo_dish_100 (by decide) ?_
          refine lv_icmp_ne (tgt := 117) hx hb d_Mo_dish_101 (by decide) (fun c101 => ?_) (fun c101 => ?_)
          · have hlit := brN _ hlit c101
            refine lv_iload_n hx hb d_Mo_dish_117 rfl (lv_at hl 2 rfl) ?_
            refine lv_iconst (v := (2 : Int32)) hx hb d_Mo_dish_118 (by decide) ?_
            refine lv_icmp_ne (tgt := 126) hx hb d_Mo_dish_119 (by decide) (fun c119 => ?_) (fun c119 => ?_)
            · have hlit := brN _ hlit c119
              refine lv_aload_n hx hb d_Mo_dish_126 rfl (lv_at hl 0 rfl) ?_
              refine lv_iload_n hx hb d_Mo_dish_127 rfl (lv_at hl 1 rfl) ?_
              refine lv_aload_n hx hb d_Mo_dish_128 rfl (lv_at hl 0 rfl) ?_
              refine mg_Mo_5 hx hb hts hown hK hP q676 d_Mo_dish_129 ?_
              refine lv_iconst (v := (0 : Int32)) hx hb d_Mo_dish_132 (by decide) ?_
              refine mald4 hx hb hK hP (j := 0) rfl (vpin_c (by decide)) d_Mo_dish_133 ?_
              refine lv_bipush (v := (-4 : Int32)) hx hb d_Mo_dish_134 (by decide) ?_
              obtain ⟨r136, hl136, hlit⟩ := bindS hlit
              refine fCallI (fRunV (As := [.int p1, .int (h 4 0), .int (-4 : Int32)]) (rest := []) (q0 := 0) (ci := 8) hx hb hml hown hts hK hN hP (cm_Mo_sumOf l E a ha h _ p1 (h 4 0) (-4 : Int32) (r0 := r136) hl136) q775 q776 q38 q61 q777 hd_m_Mo_sumOf rfl rfl ⟨Nat.le_of_ble_eq_true rfl, Nat.le_of_ble_eq_true rfl⟩ me_0 rfl rfl rfl hl.1 rfl (Nat.le_of_ble_eq_true rfl) d_Mo_dish_136 ⟨Nat.zero_le _, Nat.zero_le _⟩) hS (xA_up hS.1) (fun _ H locs hu136 hP hS _ _ => ?_)
              have hP : va_P E.1 xcl (mV E a h) H := hP
              cases hlit
              exact ret 0 _ _ _ _ trivial hP hS rfl d_Mo_dish_139
            · have hlit := brP _ hlit c119
              refine lv_iload_n hx hb d_Mo_dish_122 rfl (lv_at hl 3 rfl) ?_
              refine lv_goto (tgt := 139) hx hb d_Mo_dish_123 (by decide) ?_
              cases hlit
              exact ret 0 _ _ _ _ trivial hP hS rfl d_Mo_dish_139
          · have hlit := brP _ hlit c101
            refine lv_aload_n hx hb d_Mo_dish_104 rfl (lv_at hl 0 rfl) ?_
            refine mg_Mo_5 hx hb hts hown hK hP q676 d_Mo_dish_105 ?_
            refine lv_iconst (v := (1 : Int32)) hx hb d_Mo_dish_108 (by decide) ?_
            refine mald4 hx hb hK hP (j := 1) rfl (vpin_c (by decide)) d_Mo_dish_109 ?_
            refine lv_iload_n hx hb d_Mo_dish_110 rfl (lv_at hl 1 rfl) ?_
            refine lv_ishr hx hb d_Mo_dish_111 ?_
            refine lv_iconst (v := (1 : Int32)) hx hb d_Mo_dish_112 (by decide) ?_
            refine lv_iand hx hb d_Mo_dish_113 ?_
            refine lv_goto (tgt := 139) hx hb d_Mo_dish_114 (by decide) ?_
            cases hlit
            exact ret 0 _ _ _ _ trivial hP hS rfl d_Mo_dish_139
        · have hlit := brP _ hlit c84
          refine lv_aload_n hx hb d_Mo_dish_87 rfl (lv_at hl 0 rfl) ?_
          refine mg_Mo_2 hx hb hts hown hK hP q673 d_Mo_dish_88 ?_
          refine lv_bipush (v := (14 : Int32)) hx hb d_Mo_dish_91 (by decide) ?_
          refine lv_iload_n hx hb d_Mo_dish_93 rfl (lv_at hl 1 rfl) ?_
          refine lv_iadd hx hb d_Mo_dish_94 ?_
          obtain ⟨g95, hlit⟩ := gdP _ hlit
          refine mald2 hx hb hK hP (j := (((14 : Int32) + p1)).toNatClampNeg) rfl (vpin_c g95) d_Mo_dish_95 ?_
          refine lv_goto (tgt := 139) hx hb d_Mo_dish_96 (by decide) ?_
          cases hlit
          exact ret 0 _ _ _ _ trivial hP hS rfl d_Mo_dish_139
      · have hlit := brN _ hlit c35
        refine lv_iload_n hx hb d_Mo_dish_38 rfl (lv_at hl 3 rfl) ?_
        refine lv_aload_n hx hb d_Mo_dish_39 rfl (lv_at hl 0 rfl) ?_
        refine lv_aload_n hx hb d_Mo_dish_40 rfl (lv_at hl 0 rfl) ?_
        refine mg_Mo_2 hx hb hts hown hK hP q673 d_Mo_dish_41 ?_
        refine lv_iconst (v := (5 : Int32)) hx hb d_Mo_dish_44 (by decide) ?_
        refine lv_iload hx hb d_Mo_dish_45 (lv_at hl 4 rfl) ?_
        refine lv_iadd hx hb d_Mo_dish_47 ?_
        obtain ⟨g48, hlit⟩ := gdP _ hlit
        refine mald2 hx hb hK hP (j := (((5 : Int32) + x4)).toNatClampNeg) rfl (vpin_c g48) d_Mo_dish_48 ?_
        refine lv_iload hx hb d_Mo_dish_49 (lv_at hl 4 rfl) ?_
        refine lv_iload_n hx hb d_Mo_dish_51 rfl (lv_at hl 1 rfl) ?_
        refine lv_aload_n hx hb d_Mo_dish_52 rfl (lv_at hl 0 rfl) ?_
        refine mg_Mo_5 hx hb hts hown hK hP q676 d_Mo_dish_53 ?_
        refine lv_iconst (v := (0 : Int32)) hx hb d_Mo_dish_56 (by decide) ?_
        refine mald4 hx hb hK hP (j := 0) rfl (vpin_c (by decide)) d_Mo_dish_57 ?_
        refine lv_aload_n hx hb d_Mo_dish_58 rfl (lv_at hl 0 rfl) ?_
        refine mg_Mo_5 hx hb hts hown hK hP q676 d_Mo_dish_59 ?_
        refine lv_iconst (v := (1 : Int32)) hx hb d_Mo_dish_62 (by decide) ?_
        refine mald4 hx hb hK hP (j := 1) rfl (vpin_c (by decide)) d_Mo_dish_63 ?_
        obtain ⟨r64, hl64, hlit⟩ := bindS hlit
        refine fCallI (fRunV (As := [.int (h 2 ((((5 : Int32) + x4)).toNatClampNeg)), .int x4, .int p1, .int (h 4 0), .int (h 4 1)]) (rest := [.int x3]) (q0 := 0) (ci := 8) hx hb hml hown hts hK hN hP (cm_Mo_hasHeart l E a ha h _ (h 2 ((((5 : Int32) + x4)).toNatClampNeg)) x4 p1 (h 4 0) (h 4 1) (r0 := r64) hl64) q753 q754 q33 q61 q755 hd_m_Mo_hasHeart rfl rfl ⟨Nat.le_of_ble_eq_true rfl, Nat.le_of_ble_eq_true rfl⟩ me_0 rfl rfl rfl hl.1 rfl (Nat.le_of_ble_eq_true rfl) d_Mo_dish_64 ⟨Nat.zero_le _, Nat.zero_le _⟩) hS (xA_up hS.1) (fun _ H locs hu64 hP hS _ _ => ?_)
        have hP : va_P E.1 xcl (mV E a h) H := hP
        refine lv_if_eq (tgt := 74) hx hb d_Mo_dish_67 (by decide) (fun c67 => ?_) (fun c67 => ?_)
        · have hlit := brP _ hlit c67
          refine lv_iconst (v := (0 : Int32)) hx hb d_Mo_dish_74 (by decide) ?_
          refine lv_iadd hx hb d_Mo_dish_75 ?_
          obtain ⟨y76, ey76, hlit⟩ := bindS hlit
          refine topn ey76 ?_
          refine lv_istore_n (lv' := [(3, .int y76), (0, .ref (a 0)), (1, .int p1), (2, .int p2), (4, .int x4)]) hx hb d_Mo_dish_76 rfl hl (by decide) rfl (fun ls hl => ?_)
          refine lv_iinc (v := (x4 + (1 : Int32))) (lv' := [(4, .int (x4 + (1 : Int32))), (3, .int y76), (0, .ref (a 0)), (1, .int p1), (2, .int p2)]) hx hb d_Mo_dish_77 hl (k := 4) rfl rfl (by decide) rfl (fun ls hl => ?_)
          refine lv_goto (tgt := 27) hx hb d_Mo_dish_80 (by decide) ?_
          exact ih y76 (x4 + (1 : Int32)) _ _ _ hlit hP hS (lv_sub hl [2, 3, 4, 1, 0] rfl)
        · have hlit := brN _ hlit c67
          refine lv_iconst (v := (1 : Int32)) hx hb d_Mo_dish_70 (by decide) ?_
          refine lv_goto (tgt := 75) hx hb d_Mo_dish_71 (by decide) ?_
          refine lv_iadd hx hb d_Mo_dish_75 ?_
          obtain ⟨y76, ey76, hlit⟩ := bindS hlit
          refine topn ey76 ?_
          refine lv_istore_n (lv' := [(3, .int y76), (0, .ref (a 0)), (1, .int p1), (2, .int p2), (4, .int x4)]) hx hb d_Mo_dish_76 rfl hl (by decide) rfl (fun ls hl => ?_)
          refine lv_iinc (v := (x4 + (1 : Int32))) (lv' := [(4, .int (x4 + (1 : Int32))), (3, .int y76), (0, .ref (a 0)), (1, .int p1), (2, .int p2)]) hx hb d_Mo_dish_77 hl (k := 4) rfl rfl (by decide) rfl (fun ls hl => ?_)
          refine lv_goto (tgt := 27) hx hb d_Mo_dish_80 (by decide) ?_
          exact ih y76 (x4 + (1 : Int32)) _ _ _ hlit hP hS (lv_sub hl [2, 3, 4, 1, 0] rfl)
  refine lv_aload_n hx hb d_Mo_dish_0 rfl (lv_at hl 0 rfl) ?_
  refine lv_iload_n hx hb d_Mo_dish_1 rfl (lv_at hl 1 rfl) ?_
  obtain ⟨r2, hl2, hlit⟩ := bindS hlit
  refine fCallI (fRunV (As := [.int p1]) (rest := []) (q0 := 0) (ci := 8) hx hb hml hown hts hK hN hP (cm_Mo_isDish l E a ha h _ p1 (r0 := r2) hl2) q772 q773 q37 q61 q774 hd_m_Mo_isDish rfl rfl ⟨Nat.le_of_ble_eq_true rfl, Nat.le_of_ble_eq_true rfl⟩ me_0 rfl rfl rfl hl.1 rfl (Nat.le_of_ble_eq_true rfl) d_Mo_dish_2 ⟨Nat.zero_le _, Nat.zero_le _⟩) hS (xA_up hS.1) (fun _ H locs hu2 hP hS _ _ => ?_)
  have hP : va_P E.1 xcl (mV E a h) H := hP
  refine lv_if_eq (tgt := 20) hx hb d_Mo_dish_5 (by decide) (fun c5 => ?_) (fun c5 => ?_)
  · have hlit := brP _ hlit c5
    refine lv_iconst (v := (-1 : Int32)) hx hb d_Mo_dish_20 (by decide) ?_
    cases hlit
    exact ret 0 _ _ _ _ trivial hP hS rfl d_Mo_dish_21
  · have hlit := brN _ hlit c5
    refine lv_iload_n hx hb d_Mo_dish_8 rfl (lv_at hl 2 rfl) ?_
    refine lv_i2l (v := p2.toInt64) hx hb d_Mo_dish_9 rfl ?_
    refine lv_lconst (v := (0 : Int64)) hx hb d_Mo_dish_10 (by decide) ?_
    refine lv_ldc2 (v := (3 : Int64)) hx hb hown (hts _ q739) d_Mo_dish_11 ?_
    obtain ⟨r14, hl14, hlit⟩ := bindS hlit
    refine fCallI (fRunS (As := [.long (p2.toInt64), .long (0 : Int64), .long (3 : Int64)]) (rest := []) hx hb hml hown hts hK hN hP (cm_Mo_in l E a ha h _ (p2.toInt64) (0 : Int64) (3 : Int64) (r0 := r14) hl14) q707 q708 q61 q709 hd_m_Mo_in rfl rfl ⟨Nat.le_of_ble_eq_true rfl, Nat.le_of_ble_eq_true rfl⟩ rfl hl.1 rfl (Nat.le_of_ble_eq_true rfl) d_Mo_dish_14 ⟨Nat.zero_le _, Nat.zero_le _⟩) hS (xA_up hS.1) (fun _ H locs hu14 hP hS _ _ => ?_)
    have hP : va_P E.1 xcl (mV E a h) H := hP
    refine lv_if_ne (tgt := 22) hx hb d_Mo_dish_17 (by decide) (fun c17 => ?_) (fun c17 => ?_)
    · have hlit := brN _ hlit c17
      refine lv_iconst (v := (0 : Int32)) hx hb d_Mo_dish_22 (by decide) ?_
      refine lv_istore_n (lv' := [(3, .int (0 : Int32)), (0, .ref (a 0)), (1, .int p1), (2, .int p2)]) hx hb d_Mo_dish_23 rfl hl (by decide) rfl (fun ls hl => ?_)
      refine lv_iconst (v := (0 : Int32)) hx hb d_Mo_dish_24 (by decide) ?_
      refine lv_istore (lv' := [(4, .int (0 : Int32)), (3, .int (0 : Int32)), (0, .ref (a 0)), (1, .int p1), (2, .int p2)]) hx hb d_Mo_dish_25 hl (by decide) rfl (fun ls hl => ?_)
      exact b27 FU (0 : Int32) (0 : Int32) _ _ _ hlit hP hS (lv_sub hl [2, 3, 4, 1, 0] rfl)
    · have hlit := brP _ hlit c17
      refine lv_iconst (v := (-1 : Int32)) hx hb d_Mo_dish_20 (by decide) ?_
      cases hlit
      exact ret 0 _ _ _ _ trivial hP hS rfl d_Mo_dish_21

abbrev rm_m_Mo_worth : Room := { frames := 2, cells := 0, slots := 0, locals := 46 }
theorem hd_m_Mo_worth : y_Mo_worth.cls ≠ "java/lang/invoke/MethodHandle" ∧ y_Mo_worth.cls ≠ "java/lang/invoke/VarHandle" ∧ (parseMethodDescriptor y_Mo_worth.desc).map (fun d => d.parameters.length) = some 2 := by decide +kernel
set_option maxHeartbeats 4000000 in
set_option maxRecDepth 100000 in
theorem cm_Mo_worth (l : Launch) (E : mE) (a : Nat → Nat) (ha : xInj a 10) (h : Hp) (sz : Nat) (p1 : Int32) (p2 : Int32) {r0 : Int32} (hlit : m_Mo_worth p1 p2 h = some r0) : Met l y_Mo_worth (Cond.code y_Mo_worth b_Mo_worth 3 (some .int) :: TB) rm_m_Mo_worth (fPc [.ref (a 0), .int p1, .int p2] E.1 (mtys E) sz (mV E a h)) (fQi (fun _ : Nat => True) r0 E.1 (fun (_ : Nat) => mV E a h) (xA a 10 sz)) 0 0 (xA a 10 sz) := by
  refine fl_startI (by decide) (Nat.le_of_ble_eq_true rfl) ?_
  intro p e s m args below meth c Q hx hb hml hown hts hsz hP hK hN ret ls hl
  subst hsz
  have hA : ∀ k, k < 10 → (xA a 10 s.heap.size) (a k) := xA_in
  have hS : va_S (xA a 10 s.heap.size) s.heap s.heap [] := va_S.rf
  have hl : lv_has ls 3 [(0, .ref (a 0)), (1, .int p1), (2, .int p2)] := hl
  refine lv_aload_n hx hb d_Mo_worth_0 rfl (lv_at hl 0 rfl) ?_
  refine lv_iload_n hx hb d_Mo_worth_1 rfl (lv_at hl 1 rfl) ?_
  obtain ⟨r2, hl2, hlit⟩ := bindS hlit
  refine fCallI (fRunV (As := [.int p1]) (rest := []) (q0 := 0) (ci := 8) hx hb hml hown hts hK hN hP (cm_Mo_isGuest l E a ha h _ p1 (r0 := r2) hl2) q750 q751 q32 q61 q752 hd_m_Mo_isGuest rfl rfl ⟨Nat.le_of_ble_eq_true rfl, Nat.le_of_ble_eq_true rfl⟩ me_0 rfl rfl rfl hl.1 rfl (Nat.le_of_ble_eq_true rfl) d_Mo_worth_2 ⟨Nat.zero_le _, Nat.zero_le _⟩) hS (xA_up hS.1) (fun _ H locs hu2 hP hS _ _ => ?_)
  have hP : va_P E.1 xcl (mV E a h) H := hP
  refine lv_if_eq (tgt := 31) hx hb d_Mo_worth_5 (by decide) (fun c5 => ?_) (fun c5 => ?_)
  · have hlit := brP _ hlit c5
    refine lv_iconst (v := (-1 : Int32)) hx hb d_Mo_worth_31 (by decide) ?_
    cases hlit
    exact ret 0 _ _ _ _ trivial hP hS rfl d_Mo_worth_32
  · have hlit := brN _ hlit c5
    refine lv_aload_n hx hb d_Mo_worth_8 rfl (lv_at hl 0 rfl) ?_
    refine lv_iload_n hx hb d_Mo_worth_9 rfl (lv_at hl 2 rfl) ?_
    obtain ⟨r10, hl10, hlit⟩ := bindS hlit
    refine fCallI (fRunV (As := [.int p2]) (rest := []) (q0 := 0) (ci := 8) hx hb hml hown hts hK hN hP (cm_Mo_isDish l E a ha h _ p2 (r0 := r10) hl10) q772 q773 q37 q61 q774 hd_m_Mo_isDish rfl rfl ⟨Nat.le_of_ble_eq_true rfl, Nat.le_of_ble_eq_true rfl⟩ me_0 rfl rfl rfl hl.1 rfl (Nat.le_of_ble_eq_true rfl) d_Mo_worth_10 ⟨Nat.zero_le _, Nat.zero_le _⟩) hS (xA_up hS.1) (fun _ H locs hu10 hP hS _ _ => ?_)
    have hP : va_P E.1 xcl (mV E a h) H := hP
    refine lv_if_eq (tgt := 31) hx hb d_Mo_worth_13 (by decide) (fun c13 => ?_) (fun c13 => ?_)
    · have hlit := brP _ hlit c13
      refine lv_iconst (v := (-1 : Int32)) hx hb d_Mo_worth_31 (by decide) ?_
      cases hlit
      exact ret 0 _ _ _ _ trivial hP hS rfl d_Mo_worth_32
    · have hlit := brN _ hlit c13
      refine lv_aload_n hx hb d_Mo_worth_16 rfl (lv_at hl 0 rfl) ?_
      refine lv_iload_n hx hb d_Mo_worth_17 rfl (lv_at hl 1 rfl) ?_
      refine lv_iload_n hx hb d_Mo_worth_18 rfl (lv_at hl 2 rfl) ?_
      refine lv_aload_n hx hb d_Mo_worth_19 rfl (lv_at hl 0 rfl) ?_
      refine mg_Mo_5 hx hb hts hown hK hP q676 d_Mo_worth_20 ?_
      refine lv_iconst (v := (0 : Int32)) hx hb d_Mo_worth_23 (by decide) ?_
      refine mald4 hx hb hK hP (j := 0) rfl (vpin_c (by decide)) d_Mo_worth_24 ?_
      obtain ⟨r25, hl25, hlit⟩ := bindS hlit
      refine fCallI (fRunV (As := [.int p1, .int p2, .int (h 4 0)]) (rest := []) (q0 := 0) (ci := 8) hx hb hml hown hts hK hN hP (cm_Mo_worthAt l E a ha h _ p1 p2 (h 4 0) (r0 := r25) hl25) q759 q760 q34 q61 q761 hd_m_Mo_worthAt rfl rfl ⟨Nat.le_of_ble_eq_true rfl, Nat.le_of_ble_eq_true rfl⟩ me_0 rfl rfl rfl hl.1 rfl (Nat.le_of_ble_eq_true rfl) d_Mo_worth_25 ⟨Nat.zero_le _, Nat.zero_le _⟩) hS (xA_up hS.1) (fun _ H locs hu25 hP hS _ _ => ?_)
      have hP : va_P E.1 xcl (mV E a h) H := hP
      refine lv_goto (tgt := 32) hx hb d_Mo_worth_28 (by decide) ?_
      cases hlit
      exact ret 0 _ _ _ _ trivial hP hS rfl d_Mo_worth_32

abbrev rm_m_Mo_note : Room := { frames := 0, cells := 0, slots := 0, locals := 0 }
theorem hd_m_Mo_note : y_Mo_note.cls ≠ "java/lang/invoke/MethodHandle" ∧ y_Mo_note.cls ≠ "java/lang/invoke/VarHandle" ∧ (parseMethodDescriptor y_Mo_note.desc).map (fun d => d.parameters.length) = some 0 := by decide +kernel
set_option maxHeartbeats 4000000 in
set_option maxRecDepth 100000 in
theorem cm_Mo_note (l : Launch) (E : mE) (a : Nat → Nat) (ha : xInj a 10) (h : Hp) (sz : Nat) {h9 : Hp} (hlit : m_Mo_note h = some h9) : Met l y_Mo_note (Cond.code y_Mo_note b_Mo_note 2 none :: TB) rm_m_Mo_note (fPc [.ref (a 0)] E.1 (mtys E) sz (mV E a h)) (fQv (fun _ : Nat => True) E.1 (fun (_ : Nat) => mV E a h9) (xA a 10 sz)) 0 0 (xA a 10 sz) := by
  refine fl_startV (by decide) (Nat.le_of_ble_eq_true rfl) ?_
  intro p e s m args below meth c Q hx hb hml hown hts hsz hP hK hN ret ls hl
  subst hsz
  have hA : ∀ k, k < 10 → (xA a 10 s.heap.size) (a k) := xA_in
  have hS : va_S (xA a 10 s.heap.size) s.heap s.heap [] := va_S.rf
  have hl : lv_has ls 2 [(0, .ref (a 0))] := hl
  have b50 : ∀ (n : Nat), ∀ (x1 : Int32) (h : Hp) (H : Heap) (locs : List Loc) (ls : Array Slot), m_Mo_note_b50 n x1 h = some h9 → va_P E.1 xcl (mV E a h) H → va_S (xA a 10 s.heap.size) s.heap H locs → lv_has ls 2 [(0, .ref (a 0)), (1, .int x1)] → W p l e rm_m_Mo_note s m args below meth c H locs 0 0 Q (F0 m 50 ls []) := by
    intro n
    induction n with
    | zero => intro x1 h H locs ls hlit hP hS hl; exact nnF hlit
    | succ n ih =>
      intro x1 h H locs ls hlit hP hS hl
      refine lv_iload_n hx hb d_Mo_note_50 rfl (lv_at hl 1 rfl) ?_
      refine lv_bipush (v := (12 : Int32)) hx hb d_Mo_note_51 (by decide) ?_
      refine lv_icmp_ge (tgt := 82) hx hb d_Mo_note_53 (by decide) (fun c53 => ?_) (fun c53 => ?_)
      · have hlit := brP _ hlit c53
        refine lv_aload_n hx hb d_Mo_note_82 rfl (lv_at hl 0 rfl) ?_
        refine lv_dup hx hb d_Mo_note_83 rfl ?_
        refine mg_Mo_7 hx hb hts hown hK hP q678 d_Mo_note_84 ?_
        refine lv_iconst (v := (1 : Int32)) hx hb d_Mo_note_87 (by decide) ?_
        refine lv_iadd hx hb d_Mo_note_88 ?_
        refine mp_Mo_7 hx hb hts hown hK hP ha hA hS q678 d_Mo_note_89 (fun H locs hP hS => ?_)
        obtain ⟨h_89, eh_89, hlit⟩ := bindS hlit
        rw [Option.some.inj eh_89] at hP
        cases hlit
        exact ret 0 _ _ _ _ trivial hP hS d_Mo_note_92
      · have hlit := brN _ hlit c53
        refine lv_aload_n hx hb d_Mo_note_56 rfl (lv_at hl 0 rfl) ?_
        refine mg_Mo_6 hx hb hts hown hK hP q677 d_Mo_note_57 ?_
        refine lv_bipush (v := (12 : Int32)) hx hb d_Mo_note_60 (by decide) ?_
        refine lv_aload_n hx hb d_Mo_note_62 rfl (lv_at hl 0 rfl) ?_
        refine mg_Mo_7 hx hb hts hown hK hP q678 d_Mo_note_63 ?_
        refine lv_imul hx hb d_Mo_note_66 ?_
        refine lv_iload_n hx hb d_Mo_note_67 rfl (lv_at hl 1 rfl) ?_
        refine lv_iadd hx hb d_Mo_note_68 ?_
        refine lv_aload_n hx hb d_Mo_note_69 rfl (lv_at hl 0 rfl) ?_
        refine mg_Mo_5 hx hb hts hown hK hP q676 d_Mo_note_70 ?_
        refine lv_iload_n hx hb d_Mo_note_73 rfl (lv_at hl 1 rfl) ?_
        obtain ⟨g74, hlit⟩ := gdP _ hlit
        refine mald4 hx hb hK hP (j := (x1).toNatClampNeg) rfl (vpin_c g74) d_Mo_note_74 ?_
        obtain ⟨g75, hlit⟩ := gdP _ hlit
        refine mast5 hx hb hK hP ha hA hS (j := ((((12 : Int32) * (h 0 7)) + x1)).toNatClampNeg) rfl (vpin_c g75) d_Mo_note_75 (fun H locs hP hS => ?_)
        obtain ⟨h_75, eh_75, hlit⟩ := bindS hlit
        rw [Option.some.inj eh_75] at hP
        refine lv_iinc (v := (x1 + (1 : Int32))) (lv' := [(1, .int (x1 + (1 : Int32))), (0, .ref (a 0))]) hx hb d_Mo_note_76 hl (k := 1) rfl rfl (by decide) rfl (fun ls hl => ?_)
        refine lv_goto (tgt := 50) hx hb d_Mo_note_79 (by decide) ?_
        exact ih (x1 + (1 : Int32)) h_75 _ _ _ hlit hP hS (lv_sub hl [1, 0] rfl)
  have b11 : ∀ (n : Nat), ∀ (x1 : Int32) (h : Hp) (H : Heap) (locs : List Loc) (ls : Array Slot), m_Mo_note_b11 n x1 h = some h9 → va_P E.1 xcl (mV E a h) H → va_S (xA a 10 s.heap.size) s.heap H locs → lv_has ls 2 [(0, .ref (a 0)), (1, .int x1)] → W p l e rm_m_Mo_note s m args below meth c H locs 0 0 Q (F0 m 11 ls []) := by
    intro n
    induction n with
    | zero => intro x1 h H locs ls hlit hP hS hl; exact nnF hlit
    | succ n ih =>
      intro x1 h H locs ls hlit hP hS hl
      refine lv_iload_n hx hb d_Mo_note_11 rfl (lv_at hl 1 rfl) ?_
      refine lv_bipush (v := (84 : Int32)) hx hb d_Mo_note_12 (by decide) ?_
      refine lv_icmp_ge (tgt := 38) hx hb d_Mo_note_14 (by decide) (fun c14 => ?_) (fun c14 => ?_)
      · have hlit := brP _ hlit c14
        refine lv_aload_n hx hb d_Mo_note_38 rfl (lv_at hl 0 rfl) ?_
        refine lv_dup hx hb d_Mo_note_39 rfl ?_
        refine mg_Mo_7 hx hb hts hown hK hP q678 d_Mo_note_40 ?_
        refine lv_iconst (v := (1 : Int32)) hx hb d_Mo_note_43 (by decide) ?_
        refine lv_isub hx hb d_Mo_note_44 ?_
        refine mp_Mo_7 hx hb hts hown hK hP ha hA hS q678 d_Mo_note_45 (fun H locs hP hS => ?_)
        obtain ⟨h_45, eh_45, hlit⟩ := bindS hlit
        rw [Option.some.inj eh_45] at hP
        refine lv_iconst (v := (0 : Int32)) hx hb d_Mo_note_48 (by decide) ?_
        refine lv_istore_n (lv' := [(1, .int (0 : Int32)), (0, .ref (a 0))]) hx hb d_Mo_note_49 rfl hl (by decide) rfl (fun ls hl => ?_)
        exact b50 FU (0 : Int32) h_45 _ _ _ hlit hP hS (lv_sub hl [1, 0] rfl)
      · have hlit := brN _ hlit c14
        refine lv_aload_n hx hb d_Mo_note_17 rfl (lv_at hl 0 rfl) ?_
        refine mg_Mo_6 hx hb hts hown hK hP q677 d_Mo_note_18 ?_
        refine lv_iload_n hx hb d_Mo_note_21 rfl (lv_at hl 1 rfl) ?_
        refine lv_aload_n hx hb d_Mo_note_22 rfl (lv_at hl 0 rfl) ?_
        refine mg_Mo_6 hx hb hts hown hK hP q677 d_Mo_note_23 ?_
        refine lv_bipush (v := (12 : Int32)) hx hb d_Mo_note_26 (by decide) ?_
        refine lv_iload_n hx hb d_Mo_note_28 rfl (lv_at hl 1 rfl) ?_
        refine lv_iadd hx hb d_Mo_note_29 ?_
        obtain ⟨g30, hlit⟩ := gdP _ hlit
        refine mald5 hx hb hK hP (j := (((12 : Int32) + x1)).toNatClampNeg) rfl (vpin_c g30) d_Mo_note_30 ?_
        obtain ⟨g31, hlit⟩ := gdP _ hlit
        refine mast5 hx hb hK hP ha hA hS (j := (x1).toNatClampNeg) rfl (vpin_c g31) d_Mo_note_31 (fun H locs hP hS => ?_)
        obtain ⟨h_31, eh_31, hlit⟩ := bindS hlit
        rw [Option.some.inj eh_31] at hP
        refine lv_iinc (v := (x1 + (1 : Int32))) (lv' := [(1, .int (x1 + (1 : Int32))), (0, .ref (a 0))]) hx hb d_Mo_note_32 hl (k := 1) rfl rfl (by decide) rfl (fun ls hl => ?_)
        refine lv_goto (tgt := 11) hx hb d_Mo_note_35 (by decide) ?_
        exact ih (x1 + (1 : Int32)) h_31 _ _ _ hlit hP hS (lv_sub hl [1, 0] rfl)
  refine lv_aload_n hx hb d_Mo_note_0 rfl (lv_at hl 0 rfl) ?_
  refine mg_Mo_7 hx hb hts hown hK hP q678 d_Mo_note_1 ?_
  refine lv_bipush (v := (8 : Int32)) hx hb d_Mo_note_4 (by decide) ?_
  refine lv_icmp_ne (tgt := 48) hx hb d_Mo_note_6 (by decide) (fun c6 => ?_) (fun c6 => ?_)
  · have hlit := brN _ hlit c6
    refine lv_iconst (v := (0 : Int32)) hx hb d_Mo_note_48 (by decide) ?_
    refine lv_istore_n (lv' := [(1, .int (0 : Int32)), (0, .ref (a 0))]) hx hb d_Mo_note_49 rfl hl (by decide) rfl (fun ls hl => ?_)
    exact b50 FU (0 : Int32) h _ _ _ hlit hP hS (lv_sub hl [1, 0] rfl)
  · have hlit := brP _ hlit c6
    refine lv_iconst (v := (0 : Int32)) hx hb d_Mo_note_9 (by decide) ?_
    refine lv_istore_n (lv' := [(1, .int (0 : Int32)), (0, .ref (a 0))]) hx hb d_Mo_note_10 rfl hl (by decide) rfl (fun ls hl => ?_)
    exact b11 FU (0 : Int32) h _ _ _ hlit hP hS (lv_sub hl [1, 0] rfl)

abbrev rm_m_Mo_pass : Room := { frames := 1, cells := 0, slots := 0, locals := 25 }
theorem hd_m_Mo_pass : y_Mo_pass.cls ≠ "java/lang/invoke/MethodHandle" ∧ y_Mo_pass.cls ≠ "java/lang/invoke/VarHandle" ∧ (parseMethodDescriptor y_Mo_pass.desc).map (fun d => d.parameters.length) = some 1 := by decide +kernel
set_option maxHeartbeats 4000000 in
set_option maxRecDepth 100000 in
theorem cm_Mo_pass (l : Launch) (E : mE) (a : Nat → Nat) (ha : xInj a 10) (h : Hp) (sz : Nat) (p1 : Int32) {r0 : Int32} {h9 : Hp} (hlit : m_Mo_pass p1 h = some (r0, h9)) : Met l y_Mo_pass (Cond.code y_Mo_pass b_Mo_pass 2 (some .int) :: TB) rm_m_Mo_pass (fPc [.ref (a 0), .int p1] E.1 (mtys E) sz (mV E a h)) (fQi (fun _ : Nat => True) r0 E.1 (fun (_ : Nat) => mV E a h9) (xA a 10 sz)) 0 0 (xA a 10 sz) := by
  refine fl_startI (by decide) (Nat.le_of_ble_eq_true rfl) ?_
  intro p e s m args below meth c Q hx hb hml hown hts hsz hP hK hN ret ls hl
  subst hsz
  have hA : ∀ k, k < 10 → (xA a 10 s.heap.size) (a k) := xA_in
  have hS : va_S (xA a 10 s.heap.size) s.heap s.heap [] := va_S.rf
  have hl : lv_has ls 2 [(0, .ref (a 0)), (1, .int p1)] := hl
  refine lv_iload_n hx hb d_Mo_pass_0 rfl (lv_at hl 1 rfl) ?_
  refine lv_i2l (v := p1.toInt64) hx hb d_Mo_pass_1 rfl ?_
  refine lv_lconst (v := (1 : Int64)) hx hb d_Mo_pass_2 (by decide) ?_
  refine lv_ldc2 (v := (30 : Int64)) hx hb hown (hts _ q786) d_Mo_pass_3 ?_
  obtain ⟨r6, hl6, hlit⟩ := bindS hlit
  refine fCallI (fRunS (As := [.long (p1.toInt64), .long (1 : Int64), .long (30 : Int64)]) (rest := []) hx hb hml hown hts hK hN hP (cm_Mo_in l E a ha h _ (p1.toInt64) (1 : Int64) (30 : Int64) (r0 := r6) hl6) q707 q708 q61 q709 hd_m_Mo_in rfl rfl ⟨Nat.le_of_ble_eq_true rfl, Nat.le_of_ble_eq_true rfl⟩ rfl hl.1 rfl (Nat.le_of_ble_eq_true rfl) d_Mo_pass_6 ⟨Nat.zero_le _, Nat.zero_le _⟩) hS (xA_up hS.1) (fun _ H locs hu6 hP hS _ _ => ?_)
  have hP : va_P E.1 xcl (mV E a h) H := hP
  refine lv_if_ne (tgt := 14) hx hb d_Mo_pass_9 (by decide) (fun c9 => ?_) (fun c9 => ?_)
  · have hlit := brN _ hlit c9
    refine lv_aload_n hx hb d_Mo_pass_14 rfl (lv_at hl 0 rfl) ?_
    refine mg_Mo_5 hx hb hts hown hK hP q676 d_Mo_pass_15 ?_
    refine lv_iconst (v := (0 : Int32)) hx hb d_Mo_pass_18 (by decide) ?_
    refine mald4 hx hb hK hP (j := 0) rfl (vpin_c (by decide)) d_Mo_pass_19 ?_
    refine lv_iload_n hx hb d_Mo_pass_20 rfl (lv_at hl 1 rfl) ?_
    refine lv_iadd hx hb d_Mo_pass_21 ?_
    refine lv_bipush (v := (99 : Int32)) hx hb d_Mo_pass_22 (by decide) ?_
    refine lv_icmp_gt (tgt := 36) hx hb d_Mo_pass_24 (by decide) (fun c24 => ?_) (fun c24 => ?_)
    · have hlit := brP _ hlit c24
      refine lv_bipush (v := (-2 : Int32)) hx hb d_Mo_pass_36 (by decide) ?_
      cases hlit
      exact ret 0 _ _ _ _ trivial hP hS rfl d_Mo_pass_38
    · have hlit := brN _ hlit c24
      refine lv_aload_n hx hb d_Mo_pass_27 rfl (lv_at hl 0 rfl) ?_
      refine mg_Mo_5 hx hb hts hown hK hP q676 d_Mo_pass_28 ?_
      refine lv_iconst (v := (2 : Int32)) hx hb d_Mo_pass_31 (by decide) ?_
      refine mald4 hx hb hK hP (j := 2) rfl (vpin_c (by decide)) d_Mo_pass_32 ?_
      refine lv_if_lt (tgt := 39) hx hb d_Mo_pass_33 (by decide) (fun c33 => ?_) (fun c33 => ?_)
      · have hlit := brP _ hlit c33
        refine lv_aload_n hx hb d_Mo_pass_39 rfl (lv_at hl 0 rfl) ?_
        obtain ⟨h_40, hl40, hlit⟩ := bindS hlit
        refine fCallV (fRunV (As := []) (rest := []) (q0 := 0) (ci := 8) hx hb hml hown hts hK hN hP (cm_Mo_note l E a ha h _ (h9 := h_40) hl40) q787 q788 q39 q61 q789 hd_m_Mo_note rfl rfl ⟨Nat.le_of_ble_eq_true rfl, Nat.le_of_ble_eq_true rfl⟩ me_0 rfl rfl rfl hl.1 rfl (Nat.le_of_ble_eq_true rfl) d_Mo_pass_40 ⟨Nat.zero_le _, Nat.zero_le _⟩) hS (xA_up hS.1) (fun _ H locs hu40 hP hS _ _ => ?_)
        have hP : va_P E.1 xcl (mV E a h_40) H := hP
        refine lv_aload_n hx hb d_Mo_pass_43 rfl (lv_at hl 0 rfl) ?_
        refine mg_Mo_5 hx hb hts hown hK hP q676 d_Mo_pass_44 ?_
        refine lv_iconst (v := (0 : Int32)) hx hb d_Mo_pass_47 (by decide) ?_
        refine lv_dup2_11 hx hb d_Mo_pass_48 rfl rfl ?_
        refine mald4 hx hb hK hP (j := 0) rfl (vpin_c (by decide)) d_Mo_pass_49 ?_
        refine lv_iload_n hx hb d_Mo_pass_50 rfl (lv_at hl 1 rfl) ?_
        refine lv_iadd hx hb d_Mo_pass_51 ?_
        refine mast4 hx hb hK hP ha hA hS (j := 0) rfl (vpin_c (by decide)) d_Mo_pass_52 (fun H locs hP hS => ?_)
        obtain ⟨h_52, eh_52, hlit⟩ := bindS hlit
        rw [Option.some.inj eh_52] at hP
        refine lv_aload_n hx hb d_Mo_pass_53 rfl (lv_at hl 0 rfl) ?_
        refine mg_Mo_5 hx hb hts hown hK hP q676 d_Mo_pass_54 ?_
        refine lv_iconst (v := (0 : Int32)) hx hb d_Mo_pass_57 (by decide) ?_
        refine mald4 hx hb hK hP (j := 0) rfl (vpin_c (by decide)) d_Mo_pass_58 ?_
        cases hlit
        exact ret 0 _ _ _ _ trivial hP hS rfl d_Mo_pass_59
      · have hlit := brN _ hlit c33
        refine lv_bipush (v := (-2 : Int32)) hx hb d_Mo_pass_36 (by decide) ?_
        cases hlit
        exact ret 0 _ _ _ _ trivial hP hS rfl d_Mo_pass_38
  · have hlit := brP _ hlit c9
    refine lv_iconst (v := (-1 : Int32)) hx hb d_Mo_pass_12 (by decide) ?_
    cases hlit
    exact ret 0 _ _ _ _ trivial hP hS rfl d_Mo_pass_13

abbrev rm_m_Mo_veto : Room := { frames := 2, cells := 0, slots := 0, locals := 46 }
theorem hd_m_Mo_veto : y_Mo_veto.cls ≠ "java/lang/invoke/MethodHandle" ∧ y_Mo_veto.cls ≠ "java/lang/invoke/VarHandle" ∧ (parseMethodDescriptor y_Mo_veto.desc).map (fun d => d.parameters.length) = some 2 := by decide +kernel
set_option maxHeartbeats 4000000 in
set_option maxRecDepth 100000 in
theorem cm_Mo_veto (l : Launch) (E : mE) (a : Nat → Nat) (ha : xInj a 10) (h : Hp) (sz : Nat) (p1 : Int32) (p2 : Int32) {r0 : Int32} {h9 : Hp} (hlit : m_Mo_veto p1 p2 h = some (r0, h9)) : Met l y_Mo_veto (Cond.code y_Mo_veto b_Mo_veto 4 (some .int) :: TB) rm_m_Mo_veto (fPc [.ref (a 0), .int p1, .int p2] E.1 (mtys E) sz (mV E a h)) (fQi (fun _ : Nat => True) r0 E.1 (fun (_ : Nat) => mV E a h9) (xA a 10 sz)) 0 0 (xA a 10 sz) := by
  refine fl_startI (by decide) (Nat.le_of_ble_eq_true rfl) ?_
  intro p e s m args below meth c Q hx hb hml hown hts hsz hP hK hN ret ls hl
  subst hsz
  have hA : ∀ k, k < 10 → (xA a 10 s.heap.size) (a k) := xA_in
  have hS : va_S (xA a 10 s.heap.size) s.heap s.heap [] := va_S.rf
  have hl : lv_has ls 4 [(0, .ref (a 0)), (1, .int p1), (2, .int p2)] := hl
  refine lv_aload_n hx hb d_Mo_veto_0 rfl (lv_at hl 0 rfl) ?_
  refine lv_iload_n hx hb d_Mo_veto_1 rfl (lv_at hl 1 rfl) ?_
  obtain ⟨r2, hl2, hlit⟩ := bindS hlit
  refine fCallI (fRunV (As := [.int p1]) (rest := []) (q0 := 0) (ci := 8) hx hb hml hown hts hK hN hP (cm_Mo_isGuest l E a ha h _ p1 (r0 := r2) hl2) q750 q751 q32 q61 q752 hd_m_Mo_isGuest rfl rfl ⟨Nat.le_of_ble_eq_true rfl, Nat.le_of_ble_eq_true rfl⟩ me_0 rfl rfl rfl hl.1 rfl (Nat.le_of_ble_eq_true rfl) d_Mo_veto_2 ⟨Nat.zero_le _, Nat.zero_le _⟩) hS (xA_up hS.1) (fun _ H locs hu2 hP hS _ _ => ?_)
  have hP : va_P E.1 xcl (mV E a h) H := hP
  refine lv_if_eq (tgt := 16) hx hb d_Mo_veto_5 (by decide) (fun c5 => ?_) (fun c5 => ?_)
  · have hlit := brP _ hlit c5
    refine lv_iconst (v := (-1 : Int32)) hx hb d_Mo_veto_16 (by decide) ?_
    cases hlit
    exact ret 0 _ _ _ _ trivial hP hS rfl d_Mo_veto_17
  · have hlit := brN _ hlit c5
    refine lv_aload_n hx hb d_Mo_veto_8 rfl (lv_at hl 0 rfl) ?_
    refine lv_iload_n hx hb d_Mo_veto_9 rfl (lv_at hl 2 rfl) ?_
    obtain ⟨r10, hl10, hlit⟩ := bindS hlit
    refine fCallI (fRunV (As := [.int p2]) (rest := []) (q0 := 0) (ci := 8) hx hb hml hown hts hK hN hP (cm_Mo_isDish l E a ha h _ p2 (r0 := r10) hl10) q772 q773 q37 q61 q774 hd_m_Mo_isDish rfl rfl ⟨Nat.le_of_ble_eq_true rfl, Nat.le_of_ble_eq_true rfl⟩ me_0 rfl rfl rfl hl.1 rfl (Nat.le_of_ble_eq_true rfl) d_Mo_veto_10 ⟨Nat.zero_le _, Nat.zero_le _⟩) hS (xA_up hS.1) (fun _ H locs hu10 hP hS _ _ => ?_)
    have hP : va_P E.1 xcl (mV E a h) H := hP
    refine lv_if_ne (tgt := 18) hx hb d_Mo_veto_13 (by decide) (fun c13 => ?_) (fun c13 => ?_)
    · have hlit := brN _ hlit c13
      refine lv_aload_n hx hb d_Mo_veto_18 rfl (lv_at hl 0 rfl) ?_
      refine lv_aload_n hx hb d_Mo_veto_19 rfl (lv_at hl 0 rfl) ?_
      refine mg_Mo_5 hx hb hts hown hK hP q676 d_Mo_veto_20 ?_
      refine lv_iconst (v := (1 : Int32)) hx hb d_Mo_veto_23 (by decide) ?_
      refine mald4 hx hb hK hP (j := 1) rfl (vpin_c (by decide)) d_Mo_veto_24 ?_
      obtain ⟨r25, hl25, hlit⟩ := bindS hlit
      refine fCallI (fRunV (As := [.int (h 4 1)]) (rest := []) (q0 := 0) (ci := 8) hx hb hml hown hts hK hN hP (cm_Mo_leftBy l E a ha h _ (h 4 1) (r0 := r25) hl25) q762 q763 q35 q61 q764 hd_m_Mo_leftBy rfl rfl ⟨Nat.le_of_ble_eq_true rfl, Nat.le_of_ble_eq_true rfl⟩ me_0 rfl rfl rfl hl.1 rfl (Nat.le_of_ble_eq_true rfl) d_Mo_veto_25 ⟨Nat.zero_le _, Nat.zero_le _⟩) hS (xA_up hS.1) (fun _ H locs hu25 hP hS _ _ => ?_)
      have hP : va_P E.1 xcl (mV E a h) H := hP
      refine lv_istore_n (lv' := [(3, .int r25), (0, .ref (a 0)), (1, .int p1), (2, .int p2)]) hx hb d_Mo_veto_28 rfl hl (by decide) rfl (fun ls hl => ?_)
      refine lv_iload_n hx hb d_Mo_veto_29 rfl (lv_at hl 0 rfl) ?_
      refine lv_iload_n hx hb d_Mo_veto_30 rfl (lv_at hl 3 rfl) ?_
      obtain ⟨r31, hl31, hlit⟩ := bindS hlit
      refine fCallI (fRunS (As := [.int r25, .int p2]) (rest := []) hx hb hml hown hts hK hN hP (cm_Mo_has l E a ha h _ r25 p2 (r0 := r31) hl31) q756 q757 q61 q758 hd_m_Mo_has rfl rfl ⟨Nat.le_of_ble_eq_true rfl, Nat.le_of_ble_eq_true rfl⟩ rfl hl.1 rfl (Nat.le_of_ble_eq_true rfl) d_Mo_veto_31 ⟨Nat.zero_le _, Nat.zero_le _⟩) hS (xA_up hS.1) (fun _ H locs hu31 hP hS _ _ => ?_)
      have hP : va_P E.1 xcl (mV E a h) H := hP
      refine lv_if_eq (tgt := 65) hx hb d_Mo_veto_34 (by decide) (fun c34 => ?_) (fun c34 => ?_)
      · have hlit := brP _ hlit c34
        refine lv_bipush (v := (-2 : Int32)) hx hb d_Mo_veto_65 (by decide) ?_
        cases hlit
        exact ret 0 _ _ _ _ trivial hP hS rfl d_Mo_veto_67
      · have hlit := brN _ hlit c34
        refine lv_aload_n hx hb d_Mo_veto_37 rfl (lv_at hl 1 rfl) ?_
        refine mg_Mo_5 hx hb hts hown hK hP q676 d_Mo_veto_38 ?_
        refine lv_iconst (v := (3 : Int32)) hx hb d_Mo_veto_41 (by decide) ?_
        refine lv_iload_n hx hb d_Mo_veto_42 rfl (lv_at hl 2 rfl) ?_
        refine lv_iadd hx hb d_Mo_veto_43 ?_
        obtain ⟨g44, hlit⟩ := gdP _ hlit
        refine mald4 hx hb hK hP (j := (((3 : Int32) + p1)).toNatClampNeg) rfl (vpin_c g44) d_Mo_veto_44 ?_
        refine lv_if_eq (tgt := 65) hx hb d_Mo_veto_45 (by decide) (fun c45 => ?_) (fun c45 => ?_)
        · have hlit := brP _ hlit c45
          refine lv_bipush (v := (-2 : Int32)) hx hb d_Mo_veto_65 (by decide) ?_
          cases hlit
          exact ret 0 _ _ _ _ trivial hP hS rfl d_Mo_veto_67
        · have hlit := brN _ hlit c45
          refine lv_iload_n hx hb d_Mo_veto_48 rfl (lv_at hl 0 rfl) ?_
          obtain ⟨r49, hl49, hlit⟩ := bindS hlit
          refine fCallI (fRunS (As := [.int r25]) (rest := []) hx hb hml hown hts hK hN hP (cm_Mo_ones l E a ha h _ r25 (r0 := r49) hl49) q794 q795 q61 q796 hd_m_Mo_ones rfl rfl ⟨Nat.le_of_ble_eq_true rfl, Nat.le_of_ble_eq_true rfl⟩ rfl hl.1 rfl (Nat.le_of_ble_eq_true rfl) d_Mo_veto_49 ⟨Nat.zero_le _, Nat.zero_le _⟩) hS (xA_up hS.1) (fun _ H locs hu49 hP hS _ _ => ?_)
          have hP : va_P E.1 xcl (mV E a h) H := hP
          refine lv_iconst (v := (2 : Int32)) hx hb d_Mo_veto_52 (by decide) ?_
          refine lv_icmp_lt (tgt := 65) hx hb d_Mo_veto_53 (by decide) (fun c53 => ?_) (fun c53 => ?_)
          · have hlit := brP _ hlit c53
            refine lv_bipush (v := (-2 : Int32)) hx hb d_Mo_veto_65 (by decide) ?_
            cases hlit
            exact ret 0 _ _ _ _ trivial hP hS rfl d_Mo_veto_67
          · have hlit := brN _ hlit c53
            refine lv_aload_n hx hb d_Mo_veto_56 rfl (lv_at hl 1 rfl) ?_
            refine mg_Mo_5 hx hb hts hown hK hP q676 d_Mo_veto_57 ?_
            refine lv_iconst (v := (2 : Int32)) hx hb d_Mo_veto_60 (by decide) ?_
            refine mald4 hx hb hK hP (j := 2) rfl (vpin_c (by decide)) d_Mo_veto_61 ?_
            refine lv_if_lt (tgt := 68) hx hb d_Mo_veto_62 (by decide) (fun c62 => ?_) (fun c62 => ?_)
            · have hlit := brP _ hlit c62
              refine lv_aload_n hx hb d_Mo_veto_68 rfl (lv_at hl 1 rfl) ?_
              obtain ⟨h_69, hl69, hlit⟩ := bindS hlit
              refine fCallV (fRunV (As := []) (rest := []) (q0 := 0) (ci := 8) hx hb hml hown hts hK hN hP (cm_Mo_note l E a ha h _ (h9 := h_69) hl69) q787 q788 q39 q61 q789 hd_m_Mo_note rfl rfl ⟨Nat.le_of_ble_eq_true rfl, Nat.le_of_ble_eq_true rfl⟩ me_0 rfl rfl rfl hl.1 rfl (Nat.le_of_ble_eq_true rfl) d_Mo_veto_69 ⟨Nat.zero_le _, Nat.zero_le _⟩) hS (xA_up hS.1) (fun _ H locs hu69 hP hS _ _ => ?_)
              have hP : va_P E.1 xcl (mV E a h_69) H := hP
              refine lv_aload_n hx hb d_Mo_veto_72 rfl (lv_at hl 1 rfl) ?_
              refine mg_Mo_5 hx hb hts hown hK hP q676 d_Mo_veto_73 ?_
              refine lv_iconst (v := (1 : Int32)) hx hb d_Mo_veto_76 (by decide) ?_
              refine lv_dup2_11 hx hb d_Mo_veto_77 rfl rfl ?_
              refine mald4 hx hb hK hP (j := 1) rfl (vpin_c (by decide)) d_Mo_veto_78 ?_
              refine lv_iconst (v := (1 : Int32)) hx hb d_Mo_veto_79 (by decide) ?_
              refine lv_iload_n hx hb d_Mo_veto_80 rfl (lv_at hl 3 rfl) ?_
              refine lv_ishl hx hb d_Mo_veto_81 ?_
              refine lv_ior hx hb d_Mo_veto_82 ?_
              refine mast4 hx hb hK hP ha hA hS (j := 1) rfl (vpin_c (by decide)) d_Mo_veto_83 (fun H locs hP hS => ?_)
              obtain ⟨h_83, eh_83, hlit⟩ := bindS hlit
              rw [Option.some.inj eh_83] at hP
              refine lv_aload_n hx hb d_Mo_veto_84 rfl (lv_at hl 1 rfl) ?_
              refine mg_Mo_5 hx hb hts hown hK hP q676 d_Mo_veto_85 ?_
              refine lv_iconst (v := (3 : Int32)) hx hb d_Mo_veto_88 (by decide) ?_
              refine lv_iload_n hx hb d_Mo_veto_89 rfl (lv_at hl 2 rfl) ?_
              refine lv_iadd hx hb d_Mo_veto_90 ?_
              refine lv_dup2_11 hx hb d_Mo_veto_91 rfl rfl ?_
              obtain ⟨g92, hlit⟩ := gdP _ hlit
              refine mald4 hx hb hK hP (j := (((3 : Int32) + p1)).toNatClampNeg) rfl (vpin_c g92) d_Mo_veto_92 ?_
              refine lv_iconst (v := (1 : Int32)) hx hb d_Mo_veto_93 (by decide) ?_
              refine lv_isub hx hb d_Mo_veto_94 ?_
              obtain ⟨g95, hlit⟩ := gdP _ hlit
              refine mast4 hx hb hK hP ha hA hS (j := (((3 : Int32) + p1)).toNatClampNeg) rfl (vpin_c g95) d_Mo_veto_95 (fun H locs hP hS => ?_)
              obtain ⟨h_95, eh_95, hlit⟩ := bindS hlit
              rw [Option.some.inj eh_95] at hP
              refine lv_iload_n hx hb d_Mo_veto_96 rfl (lv_at hl 0 rfl) ?_
              obtain ⟨r97, hl97, hlit⟩ := bindS hlit
              refine fCallI (fRunS (As := [.int r25]) (rest := []) hx hb hml hown hts hK hN hP (cm_Mo_ones l E a ha h_95 _ r25 (r0 := r97) hl97) q794 q795 q61 q796 hd_m_Mo_ones rfl rfl ⟨Nat.le_of_ble_eq_true rfl, Nat.le_of_ble_eq_true rfl⟩ rfl hl.1 rfl (Nat.le_of_ble_eq_true rfl) d_Mo_veto_97 ⟨Nat.zero_le _, Nat.zero_le _⟩) hS (xA_up hS.1) (fun _ H locs hu97 hP hS _ _ => ?_)
              have hP : va_P E.1 xcl (mV E a h_95) H := hP
              refine lv_iconst (v := (1 : Int32)) hx hb d_Mo_veto_100 (by decide) ?_
              refine lv_isub hx hb d_Mo_veto_101 ?_
              cases hlit
              exact ret 0 _ _ _ _ trivial hP hS rfl d_Mo_veto_102
            · have hlit := brN _ hlit c62
              refine lv_bipush (v := (-2 : Int32)) hx hb d_Mo_veto_65 (by decide) ?_
              cases hlit
              exact ret 0 _ _ _ _ trivial hP hS rfl d_Mo_veto_67
    · have hlit := brP _ hlit c13
      refine lv_iconst (v := (-1 : Int32)) hx hb d_Mo_veto_16 (by decide) ?_
      cases hlit
      exact ret 0 _ _ _ _ trivial hP hS rfl d_Mo_veto_17

abbrev rm_m_Mo_canOrder : Room := { frames := 1, cells := 0, slots := 0, locals := 21 }
theorem hd_m_Mo_canOrder : y_Mo_canOrder.cls ≠ "java/lang/invoke/MethodHandle" ∧ y_Mo_canOrder.cls ≠ "java/lang/invoke/VarHandle" ∧ (parseMethodDescriptor y_Mo_canOrder.desc).map (fun d => d.parameters.length) = some 2 := by decide +kernel
set_option maxHeartbeats 4000000 in
set_option maxRecDepth 100000 in
theorem cm_Mo_canOrder (l : Launch) (E : mE) (a : Nat → Nat) (ha : xInj a 10) (h : Hp) (sz : Nat) (p1 : Int32) (p2 : Int32) {r0 : Int32} (hlit : m_Mo_canOrder p1 p2 h = some r0) : Met l y_Mo_canOrder (Cond.code y_Mo_canOrder b_Mo_canOrder 3 (some .boolean) :: TB) rm_m_Mo_canOrder (fPc [.ref (a 0), .int p1, .int p2] E.1 (mtys E) sz (mV E a h)) (fQi (fun _ : Nat => True) r0 E.1 (fun (_ : Nat) => mV E a h) (xA a 10 sz)) 0 0 (xA a 10 sz) := by
  refine fl_startI (by decide) (Nat.le_of_ble_eq_true rfl) ?_
  intro p e s m args below meth c Q hx hb hml hown hts hsz hP hK hN ret ls hl
  subst hsz
  have hA : ∀ k, k < 10 → (xA a 10 s.heap.size) (a k) := xA_in
  have hS : va_S (xA a 10 s.heap.size) s.heap s.heap [] := va_S.rf
  have hl : lv_has ls 3 [(0, .ref (a 0)), (1, .int p1), (2, .int p2)] := hl
  refine lv_aload_n hx hb d_Mo_canOrder_0 rfl (lv_at hl 0 rfl) ?_
  refine mg_Mo_5 hx hb hts hown hK hP q676 d_Mo_canOrder_1 ?_
  refine lv_iconst (v := (1 : Int32)) hx hb d_Mo_canOrder_4 (by decide) ?_
  refine mald4 hx hb hK hP (j := 1) rfl (vpin_c (by decide)) d_Mo_canOrder_5 ?_
  refine lv_iload_n hx hb d_Mo_canOrder_6 rfl (lv_at hl 1 rfl) ?_
  obtain ⟨r7, hl7, hlit⟩ := bindS hlit
  refine fCallI (fRunS (As := [.int (h 4 1), .int p1]) (rest := []) hx hb hml hown hts hK hN hP (cm_Mo_has l E a ha h _ (h 4 1) p1 (r0 := r7) hl7) q756 q757 q61 q758 hd_m_Mo_has rfl rfl ⟨Nat.le_of_ble_eq_true rfl, Nat.le_of_ble_eq_true rfl⟩ rfl hl.1 rfl (Nat.le_of_ble_eq_true rfl) d_Mo_canOrder_7 ⟨Nat.zero_le _, Nat.zero_le _⟩) hS (xA_up hS.1) (fun _ H locs hu7 hP hS _ _ => ?_)
  have hP : va_P E.1 xcl (mV E a h) H := hP
  refine lv_if_ne (tgt := 46) hx hb d_Mo_canOrder_10 (by decide) (fun c10 => ?_) (fun c10 => ?_)
  · have hlit := brN _ hlit c10
    refine lv_iconst (v := (0 : Int32)) hx hb d_Mo_canOrder_46 (by decide) ?_
    cases hlit
    exact ret 0 _ _ _ _ trivial hP hS rfl d_Mo_canOrder_47
  · have hlit := brP _ hlit c10
    refine lv_aload_n hx hb d_Mo_canOrder_13 rfl (lv_at hl 0 rfl) ?_
    refine mg_Mo_5 hx hb hts hown hK hP q676 d_Mo_canOrder_14 ?_
    refine lv_iconst (v := (2 : Int32)) hx hb d_Mo_canOrder_17 (by decide) ?_
    refine mald4 hx hb hK hP (j := 2) rfl (vpin_c (by decide)) d_Mo_canOrder_18 ?_
    refine lv_if_ge (tgt := 46) hx hb d_Mo_canOrder_19 (by decide) (fun c19 => ?_) (fun c19 => ?_)
    · have hlit := brP _ hlit c19
      refine lv_iconst (v := (0 : Int32)) hx hb d_Mo_canOrder_46 (by decide) ?_
      cases hlit
      exact ret 0 _ _ _ _ trivial hP hS rfl d_Mo_canOrder_47
    · have hlit := brN _ hlit c19
      refine lv_iload_n hx hb d_Mo_canOrder_22 rfl (lv_at hl 2 rfl) ?_
      refine lv_aload_n hx hb d_Mo_canOrder_23 rfl (lv_at hl 0 rfl) ?_
      refine mg_Mo_2 hx hb hts hown hK hP q673 d_Mo_canOrder_24 ?_
      refine lv_bipush (v := (14 : Int32)) hx hb d_Mo_canOrder_27 (by decide) ?_
      refine lv_iload_n hx hb d_Mo_canOrder_29 rfl (lv_at hl 1 rfl) ?_
      refine lv_iadd hx hb d_Mo_canOrder_30 ?_
      obtain ⟨g31, hlit⟩ := gdP _ hlit
      refine mald2 hx hb hK hP (j := (((14 : Int32) + p1)).toNatClampNeg) rfl (vpin_c g31) d_Mo_canOrder_31 ?_
      refine lv_iadd hx hb d_Mo_canOrder_32 ?_
      refine lv_aload_n hx hb d_Mo_canOrder_33 rfl (lv_at hl 0 rfl) ?_
      refine mg_Mo_2 hx hb hts hown hK hP q673 d_Mo_canOrder_34 ?_
      refine lv_iconst (v := (3 : Int32)) hx hb d_Mo_canOrder_37 (by decide) ?_
      refine mald2 hx hb hK hP (j := 3) rfl (vpin_c (by decide)) d_Mo_canOrder_38 ?_
      refine lv_icmp_gt (tgt := 46) hx hb d_Mo_canOrder_39 (by decide) (fun c39 => ?_) (fun c39 => ?_)
      · have hlit := brP _ hlit c39
        refine lv_iconst (v := (0 : Int32)) hx hb d_Mo_canOrder_46 (by decide) ?_
        cases hlit
        exact ret 0 _ _ _ _ trivial hP hS rfl d_Mo_canOrder_47
      · have hlit := brN _ hlit c39
        refine lv_iconst (v := (1 : Int32)) hx hb d_Mo_canOrder_42 (by decide) ?_
        refine lv_goto (tgt := 47) hx hb d_Mo_canOrder_43 (by decide) ?_
        cases hlit
        exact ret 0 _ _ _ _ trivial hP hS rfl d_Mo_canOrder_47

abbrev rm_m_Mo_order : Room := { frames := 2, cells := 0, slots := 0, locals := 46 }
theorem hd_m_Mo_order : y_Mo_order.cls ≠ "java/lang/invoke/MethodHandle" ∧ y_Mo_order.cls ≠ "java/lang/invoke/VarHandle" ∧ (parseMethodDescriptor y_Mo_order.desc).map (fun d => d.parameters.length) = some 1 := by decide +kernel
set_option maxHeartbeats 4000000 in
set_option maxRecDepth 100000 in
theorem cm_Mo_order (l : Launch) (E : mE) (a : Nat → Nat) (ha : xInj a 10) (h : Hp) (sz : Nat) (p1 : Int32) {r0 : Int32} {h9 : Hp} (hlit : m_Mo_order p1 h = some (r0, h9)) : Met l y_Mo_order (Cond.code y_Mo_order b_Mo_order 2 (some .int) :: TB) rm_m_Mo_order (fPc [.ref (a 0), .int p1] E.1 (mtys E) sz (mV E a h)) (fQi (fun _ : Nat => True) r0 E.1 (fun (_ : Nat) => mV E a h9) (xA a 10 sz)) 0 0 (xA a 10 sz) := by
  refine fl_startI (by decide) (Nat.le_of_ble_eq_true rfl) ?_
  intro p e s m args below meth c Q hx hb hml hown hts hsz hP hK hN ret ls hl
  subst hsz
  have hA : ∀ k, k < 10 → (xA a 10 s.heap.size) (a k) := xA_in
  have hS : va_S (xA a 10 s.heap.size) s.heap s.heap [] := va_S.rf
  have hl : lv_has ls 2 [(0, .ref (a 0)), (1, .int p1)] := hl
  refine lv_aload_n hx hb d_Mo_order_0 rfl (lv_at hl 0 rfl) ?_
  refine lv_iload_n hx hb d_Mo_order_1 rfl (lv_at hl 1 rfl) ?_
  obtain ⟨r2, hl2, hlit⟩ := bindS hlit
  refine fCallI (fRunV (As := [.int p1]) (rest := []) (q0 := 0) (ci := 8) hx hb hml hown hts hK hN hP (cm_Mo_isDish l E a ha h _ p1 (r0 := r2) hl2) q772 q773 q37 q61 q774 hd_m_Mo_isDish rfl rfl ⟨Nat.le_of_ble_eq_true rfl, Nat.le_of_ble_eq_true rfl⟩ me_0 rfl rfl rfl hl.1 rfl (Nat.le_of_ble_eq_true rfl) d_Mo_order_2 ⟨Nat.zero_le _, Nat.zero_le _⟩) hS (xA_up hS.1) (fun _ H locs hu2 hP hS _ _ => ?_)
  have hP : va_P E.1 xcl (mV E a h) H := hP
  refine lv_if_ne (tgt := 10) hx hb d_Mo_order_5 (by decide) (fun c5 => ?_) (fun c5 => ?_)
  · have hlit := brN _ hlit c5
    refine lv_aload_n hx hb d_Mo_order_10 rfl (lv_at hl 0 rfl) ?_
    refine lv_iload_n hx hb d_Mo_order_11 rfl (lv_at hl 1 rfl) ?_
    refine lv_aload_n hx hb d_Mo_order_12 rfl (lv_at hl 0 rfl) ?_
    refine mg_Mo_5 hx hb hts hown hK hP q676 d_Mo_order_13 ?_
    refine lv_iconst (v := (0 : Int32)) hx hb d_Mo_order_16 (by decide) ?_
    refine mald4 hx hb hK hP (j := 0) rfl (vpin_c (by decide)) d_Mo_order_17 ?_
    obtain ⟨r18, hl18, hlit⟩ := bindS hlit
    refine fCallI (fRunV (As := [.int p1, .int (h 4 0)]) (rest := []) (q0 := 0) (ci := 8) hx hb hml hown hts hK hN hP (cm_Mo_canOrder l E a ha h _ p1 (h 4 0) (r0 := r18) hl18) q801 q802 q40 q61 q803 hd_m_Mo_canOrder rfl rfl ⟨Nat.le_of_ble_eq_true rfl, Nat.le_of_ble_eq_true rfl⟩ me_0 rfl rfl rfl hl.1 rfl (Nat.le_of_ble_eq_true rfl) d_Mo_order_18 ⟨Nat.zero_le _, Nat.zero_le _⟩) hS (xA_up hS.1) (fun _ H locs hu18 hP hS _ _ => ?_)
    have hP : va_P E.1 xcl (mV E a h) H := hP
    refine lv_if_ne (tgt := 27) hx hb d_Mo_order_21 (by decide) (fun c21 => ?_) (fun c21 => ?_)
    · have hlit := brN _ hlit c21
      refine lv_aload_n hx hb d_Mo_order_27 rfl (lv_at hl 0 rfl) ?_
      obtain ⟨h_28, hl28, hlit⟩ := bindS hlit
      refine fCallV (fRunV (As := []) (rest := []) (q0 := 0) (ci := 8) hx hb hml hown hts hK hN hP (cm_Mo_note l E a ha h _ (h9 := h_28) hl28) q787 q788 q39 q61 q789 hd_m_Mo_note rfl rfl ⟨Nat.le_of_ble_eq_true rfl, Nat.le_of_ble_eq_true rfl⟩ me_0 rfl rfl rfl hl.1 rfl (Nat.le_of_ble_eq_true rfl) d_Mo_order_28 ⟨Nat.zero_le _, Nat.zero_le _⟩) hS (xA_up hS.1) (fun _ H locs hu28 hP hS _ _ => ?_)
      have hP : va_P E.1 xcl (mV E a h_28) H := hP
      refine lv_aload_n hx hb d_Mo_order_31 rfl (lv_at hl 0 rfl) ?_
      refine mg_Mo_5 hx hb hts hown hK hP q676 d_Mo_order_32 ?_
      refine lv_iconst (v := (2 : Int32)) hx hb d_Mo_order_35 (by decide) ?_
      refine lv_iload_n hx hb d_Mo_order_36 rfl (lv_at hl 1 rfl) ?_
      refine mast4 hx hb hK hP ha hA hS (j := 2) rfl (vpin_c (by decide)) d_Mo_order_37 (fun H locs hP hS => ?_)
      obtain ⟨h_37, eh_37, hlit⟩ := bindS hlit
      rw [Option.some.inj eh_37] at hP
      refine lv_aload_n hx hb d_Mo_order_38 rfl (lv_at hl 0 rfl) ?_
      refine mg_Mo_5 hx hb hts hown hK hP q676 d_Mo_order_39 ?_
      refine lv_iconst (v := (0 : Int32)) hx hb d_Mo_order_42 (by decide) ?_
      refine mald4 hx hb hK hP (j := 0) rfl (vpin_c (by decide)) d_Mo_order_43 ?_
      refine lv_aload_n hx hb d_Mo_order_44 rfl (lv_at hl 0 rfl) ?_
      refine mg_Mo_2 hx hb hts hown hK hP q673 d_Mo_order_45 ?_
      refine lv_bipush (v := (14 : Int32)) hx hb d_Mo_order_48 (by decide) ?_
      refine lv_iload_n hx hb d_Mo_order_50 rfl (lv_at hl 1 rfl) ?_
      refine lv_iadd hx hb d_Mo_order_51 ?_
      obtain ⟨g52, hlit⟩ := gdP _ hlit
      refine mald2 hx hb hK hP (j := (((14 : Int32) + p1)).toNatClampNeg) rfl (vpin_c g52) d_Mo_order_52 ?_
      refine lv_iadd hx hb d_Mo_order_53 ?_
      cases hlit
      exact ret 0 _ _ _ _ trivial hP hS rfl d_Mo_order_54
    · have hlit := brP _ hlit c21
      refine lv_bipush (v := (-2 : Int32)) hx hb d_Mo_order_24 (by decide) ?_
      cases hlit
      exact ret 0 _ _ _ _ trivial hP hS rfl d_Mo_order_26
  · have hlit := brP _ hlit c5
    refine lv_iconst (v := (-1 : Int32)) hx hb d_Mo_order_8 (by decide) ?_
    cases hlit
    exact ret 0 _ _ _ _ trivial hP hS rfl d_Mo_order_9

abbrev rm_m_Mo_undo : Room := { frames := 0, cells := 0, slots := 0, locals := 0 }
theorem hd_m_Mo_undo : y_Mo_undo.cls ≠ "java/lang/invoke/MethodHandle" ∧ y_Mo_undo.cls ≠ "java/lang/invoke/VarHandle" ∧ (parseMethodDescriptor y_Mo_undo.desc).map (fun d => d.parameters.length) = some 0 := by decide +kernel
set_option maxHeartbeats 4000000 in
set_option maxRecDepth 100000 in
theorem cm_Mo_undo (l : Launch) (E : mE) (a : Nat → Nat) (ha : xInj a 10) (h : Hp) (sz : Nat) {r0 : Int32} {h9 : Hp} (hlit : m_Mo_undo h = some (r0, h9)) : Met l y_Mo_undo (Cond.code y_Mo_undo b_Mo_undo 2 (some .int) :: TB) rm_m_Mo_undo (fPc [.ref (a 0)] E.1 (mtys E) sz (mV E a h)) (fQi (fun _ : Nat => True) r0 E.1 (fun (_ : Nat) => mV E a h9) (xA a 10 sz)) 0 0 (xA a 10 sz) := by
  refine fl_startI (by decide) (Nat.le_of_ble_eq_true rfl) ?_
  intro p e s m args below meth c Q hx hb hml hown hts hsz hP hK hN ret ls hl
  subst hsz
  have hA : ∀ k, k < 10 → (xA a 10 s.heap.size) (a k) := xA_in
  have hS : va_S (xA a 10 s.heap.size) s.heap s.heap [] := va_S.rf
  have hl : lv_has ls 2 [(0, .ref (a 0))] := hl
  have b22 : ∀ (n : Nat), ∀ (x1 : Int32) (h : Hp) (H : Heap) (locs : List Loc) (ls : Array Slot), m_Mo_undo_b22 n x1 h = some (r0, h9) → va_P E.1 xcl (mV E a h) H → va_S (xA a 10 s.heap.size) s.heap H locs → lv_has ls 2 [(0, .ref (a 0)), (1, .int x1)] → W p l e rm_m_Mo_undo s m args below meth c H locs 0 0 Q (F0 m 22 ls []) := by
    intro n
    induction n with
    | zero => intro x1 h H locs ls hlit hP hS hl; exact nnF hlit
    | succ n ih =>
      intro x1 h H locs ls hlit hP hS hl
      refine lv_iload_n hx hb d_Mo_undo_22 rfl (lv_at hl 1 rfl) ?_
      refine lv_bipush (v := (12 : Int32)) hx hb d_Mo_undo_23 (by decide) ?_
      refine lv_icmp_ge (tgt := 54) hx hb d_Mo_undo_25 (by decide) (fun c25 => ?_) (fun c25 => ?_)
      · have hlit := brP _ hlit c25
        refine lv_aload_n hx hb d_Mo_undo_54 rfl (lv_at hl 0 rfl) ?_
        refine mg_Mo_7 hx hb hts hown hK hP q678 d_Mo_undo_55 ?_
        cases hlit
        exact ret 0 _ _ _ _ trivial hP hS rfl d_Mo_undo_58
      · have hlit := brN _ hlit c25
        refine lv_aload_n hx hb d_Mo_undo_28 rfl (lv_at hl 0 rfl) ?_
        refine mg_Mo_5 hx hb hts hown hK hP q676 d_Mo_undo_29 ?_
        refine lv_iload_n hx hb d_Mo_undo_32 rfl (lv_at hl 1 rfl) ?_
        refine lv_aload_n hx hb d_Mo_undo_33 rfl (lv_at hl 0 rfl) ?_
        refine mg_Mo_6 hx hb hts hown hK hP q677 d_Mo_undo_34 ?_
        refine lv_bipush (v := (12 : Int32)) hx hb d_Mo_undo_37 (by decide) ?_
        refine lv_aload_n hx hb d_Mo_undo_39 rfl (lv_at hl 0 rfl) ?_
        refine mg_Mo_7 hx hb hts hown hK hP q678 d_Mo_undo_40 ?_
        refine lv_imul hx hb d_Mo_undo_43 ?_
        refine lv_iload_n hx hb d_Mo_undo_44 rfl (lv_at hl 1 rfl) ?_
        refine lv_iadd hx hb d_Mo_undo_45 ?_
        obtain ⟨g46, hlit⟩ := gdP _ hlit
        refine mald5 hx hb hK hP (j := ((((12 : Int32) * (h 0 7)) + x1)).toNatClampNeg) rfl (vpin_c g46) d_Mo_undo_46 ?_
        obtain ⟨g47, hlit⟩ := gdP _ hlit
        refine mast4 hx hb hK hP ha hA hS (j := (x1).toNatClampNeg) rfl (vpin_c g47) d_Mo_undo_47 (fun H locs hP hS => ?_)
        obtain ⟨h_47, eh_47, hlit⟩ := bindS hlit
        rw [Option.some.inj eh_47] at hP
        refine lv_iinc (v := (x1 + (1 : Int32))) (lv' := [(1, .int (x1 + (1 : Int32))), (0, .ref (a 0))]) hx hb d_Mo_undo_48 hl (k := 1) rfl rfl (by decide) rfl (fun ls hl => ?_)
        refine lv_goto (tgt := 22) hx hb d_Mo_undo_51 (by decide) ?_
        exact ih (x1 + (1 : Int32)) h_47 _ _ _ hlit hP hS (lv_sub hl [1, 0] rfl)
  refine lv_aload_n hx hb d_Mo_undo_0 rfl (lv_at hl 0 rfl) ?_
  refine mg_Mo_7 hx hb hts hown hK hP q678 d_Mo_undo_1 ?_
  refine lv_if_ne (tgt := 10) hx hb d_Mo_undo_4 (by decide) (fun c4 => ?_) (fun c4 => ?_)
  · have hlit := brN _ hlit c4
    refine lv_aload_n hx hb d_Mo_undo_10 rfl (lv_at hl 0 rfl) ?_
    refine lv_dup hx hb d_Mo_undo_11 rfl ?_
    refine mg_Mo_7 hx hb hts hown hK hP q678 d_Mo_undo_12 ?_
    refine lv_iconst (v := (1 : Int32)) hx hb d_Mo_undo_15 (by decide) ?_
    refine lv_isub hx hb d_Mo_undo_16 ?_
    refine mp_Mo_7 hx hb hts hown hK hP ha hA hS q678 d_Mo_undo_17 (fun H locs hP hS => ?_)
    obtain ⟨h_17, eh_17, hlit⟩ := bindS hlit
    rw [Option.some.inj eh_17] at hP
    refine lv_iconst (v := (0 : Int32)) hx hb d_Mo_undo_20 (by decide) ?_
    refine lv_istore_n (lv' := [(1, .int (0 : Int32)), (0, .ref (a 0))]) hx hb d_Mo_undo_21 rfl hl (by decide) rfl (fun ls hl => ?_)
    exact b22 FU (0 : Int32) h_17 _ _ _ hlit hP hS (lv_sub hl [1, 0] rfl)
  · have hlit := brP _ hlit c4
    refine lv_bipush (v := (-2 : Int32)) hx hb d_Mo_undo_7 (by decide) ?_
    cases hlit
    exact ret 0 _ _ _ _ trivial hP hS rfl d_Mo_undo_9

abbrev rm_m_Mo_most : Room := { frames := 3, cells := 0, slots := 0, locals := 77 }
theorem hd_m_Mo_most : y_Mo_most.cls ≠ "java/lang/invoke/MethodHandle" ∧ y_Mo_most.cls ≠ "java/lang/invoke/VarHandle" ∧ (parseMethodDescriptor y_Mo_most.desc).map (fun d => d.parameters.length) = some 1 := by decide +kernel
set_option maxHeartbeats 4000000 in
set_option maxRecDepth 100000 in
theorem cm_Mo_most (l : Launch) (E : mE) (a : Nat → Nat) (ha : xInj a 10) (h : Hp) (sz : Nat) (p1 : Int32) {r0 : Int32} (hlit : m_Mo_most p1 h = some r0) : Met l y_Mo_most (Cond.code y_Mo_most b_Mo_most 3 (some .int) :: TB) rm_m_Mo_most (fPc [.ref (a 0), .int p1] E.1 (mtys E) sz (mV E a h)) (fQi (fun _ : Nat => True) r0 E.1 (fun (_ : Nat) => mV E a h) (xA a 10 sz)) 0 0 (xA a 10 sz) := by
  refine fl_startI (by decide) (Nat.le_of_ble_eq_true rfl) ?_
  intro p e s m args below meth c Q hx hb hml hown hts hsz hP hK hN ret ls hl
  subst hsz
  have hA : ∀ k, k < 10 → (xA a 10 s.heap.size) (a k) := xA_in
  have hS : va_S (xA a 10 s.heap.size) s.heap s.heap [] := va_S.rf
  have hl : lv_has ls 3 [(0, .ref (a 0)), (1, .int p1)] := hl
  refine lv_iload_n hx hb d_Mo_most_0 rfl (lv_at hl 1 rfl) ?_
  refine lv_i2l (v := p1.toInt64) hx hb d_Mo_most_1 rfl ?_
  refine lv_lconst (v := (0 : Int64)) hx hb d_Mo_most_2 (by decide) ?_
  refine lv_lconst (v := (1 : Int64)) hx hb d_Mo_most_3 (by decide) ?_
  obtain ⟨r4, hl4, hlit⟩ := bindS hlit
  refine fCallI (fRunS (As := [.long (p1.toInt64), .long (0 : Int64), .long (1 : Int64)]) (rest := []) hx hb hml hown hts hK hN hP (cm_Mo_in l E a ha h _ (p1.toInt64) (0 : Int64) (1 : Int64) (r0 := r4) hl4) q707 q708 q61 q709 hd_m_Mo_in rfl rfl ⟨Nat.le_of_ble_eq_true rfl, Nat.le_of_ble_eq_true rfl⟩ rfl hl.1 rfl (Nat.le_of_ble_eq_true rfl) d_Mo_most_4 ⟨Nat.zero_le _, Nat.zero_le _⟩) hS (xA_up hS.1) (fun _ H locs hu4 hP hS _ _ => ?_)
  have hP : va_P E.1 xcl (mV E a h) H := hP
  refine lv_if_ne (tgt := 12) hx hb d_Mo_most_7 (by decide) (fun c7 => ?_) (fun c7 => ?_)
  · have hlit := brN _ hlit c7
    refine lv_aload_n hx hb d_Mo_most_12 rfl (lv_at hl 0 rfl) ?_
    refine lv_aload_n hx hb d_Mo_most_13 rfl (lv_at hl 0 rfl) ?_
    refine lv_aload_n hx hb d_Mo_most_14 rfl (lv_at hl 0 rfl) ?_
    refine mg_Mo_5 hx hb hts hown hK hP q676 d_Mo_most_15 ?_
    refine lv_iconst (v := (1 : Int32)) hx hb d_Mo_most_18 (by decide) ?_
    refine mald4 hx hb hK hP (j := 1) rfl (vpin_c (by decide)) d_Mo_most_19 ?_
    obtain ⟨r20, hl20, hlit⟩ := bindS hlit
    refine fCallI (fRunV (As := [.int (h 4 1)]) (rest := [.ref (a 0)]) (q0 := 0) (ci := 8) hx hb hml hown hts hK hN hP (cm_Mo_leftBy l E a ha h _ (h 4 1) (r0 := r20) hl20) q762 q763 q35 q61 q764 hd_m_Mo_leftBy rfl rfl ⟨Nat.le_of_ble_eq_true rfl, Nat.le_of_ble_eq_true rfl⟩ me_0 rfl rfl rfl hl.1 rfl (Nat.le_of_ble_eq_true rfl) d_Mo_most_20 ⟨Nat.zero_le _, Nat.zero_le _⟩) hS (xA_up hS.1) (fun _ H locs hu20 hP hS _ _ => ?_)
    have hP : va_P E.1 xcl (mV E a h) H := hP
    refine lv_aload_n hx hb d_Mo_most_23 rfl (lv_at hl 0 rfl) ?_
    refine mg_Mo_5 hx hb hts hown hK hP q676 d_Mo_most_24 ?_
    refine lv_iconst (v := (0 : Int32)) hx hb d_Mo_most_27 (by decide) ?_
    refine mald4 hx hb hK hP (j := 0) rfl (vpin_c (by decide)) d_Mo_most_28 ?_
    refine lv_bipush (v := (-4 : Int32)) hx hb d_Mo_most_29 (by decide) ?_
    obtain ⟨r31, hl31, hlit⟩ := bindS hlit
    refine fCallI (fRunV (As := [.int r20, .int (h 4 0), .int (-4 : Int32)]) (rest := []) (q0 := 0) (ci := 8) hx hb hml hown hts hK hN hP (cm_Mo_mostToAll l E a ha h _ r20 (h 4 0) (-4 : Int32) (r0 := r31) hl31) q812 q813 q41 q61 q814 hd_m_Mo_mostToAll rfl rfl ⟨Nat.le_of_ble_eq_true rfl, Nat.le_of_ble_eq_true rfl⟩ me_0 rfl rfl rfl hl.1 rfl (Nat.le_of_ble_eq_true rfl) d_Mo_most_31 ⟨Nat.zero_le _, Nat.zero_le _⟩) hS (xA_up hS.1) (fun _ H locs hu31 hP hS _ _ => ?_)
    have hP : va_P E.1 xcl (mV E a h) H := hP
    refine lv_istore_n (lv' := [(2, .int r31), (0, .ref (a 0)), (1, .int p1)]) hx hb d_Mo_most_34 rfl hl (by decide) rfl (fun ls hl => ?_)
    refine lv_iload_n hx hb d_Mo_most_35 rfl (lv_at hl 2 rfl) ?_
    refine lv_if_ne (tgt := 43) hx hb d_Mo_most_36 (by decide) (fun c36 => ?_) (fun c36 => ?_)
    · have hlit := brN _ hlit c36
      refine lv_aload_n hx hb d_Mo_most_43 rfl (lv_at hl 1 rfl) ?_
      refine lv_iload_n hx hb d_Mo_most_44 rfl (lv_at hl 0 rfl) ?_
      refine lv_aload_n hx hb d_Mo_most_45 rfl (lv_at hl 1 rfl) ?_
      refine mg_Mo_5 hx hb hts hown hK hP q676 d_Mo_most_46 ?_
      refine lv_iconst (v := (0 : Int32)) hx hb d_Mo_most_49 (by decide) ?_
      refine mald4 hx hb hK hP (j := 0) rfl (vpin_c (by decide)) d_Mo_most_50 ?_
      refine lv_bipush (v := (-4 : Int32)) hx hb d_Mo_most_51 (by decide) ?_
      obtain ⟨r53, hl53, hlit⟩ := bindS hlit
      refine fCallI (fRunV (As := [.int r31, .int (h 4 0), .int (-4 : Int32)]) (rest := []) (q0 := 0) (ci := 8) hx hb hml hown hts hK hN hP (cm_Mo_sumOf l E a ha h _ r31 (h 4 0) (-4 : Int32) (r0 := r53) hl53) q775 q776 q38 q61 q777 hd_m_Mo_sumOf rfl rfl ⟨Nat.le_of_ble_eq_true rfl, Nat.le_of_ble_eq_true rfl⟩ me_0 rfl rfl rfl hl.1 rfl (Nat.le_of_ble_eq_true rfl) d_Mo_most_53 ⟨Nat.zero_le _, Nat.zero_le _⟩) hS (xA_up hS.1) (fun _ H locs hu53 hP hS _ _ => ?_)
      have hP : va_P E.1 xcl (mV E a h) H := hP
      cases hlit
      exact ret 0 _ _ _ _ trivial hP hS rfl d_Mo_most_56
    · have hlit := brP _ hlit c36
      refine lv_iload_n hx hb d_Mo_most_39 rfl (lv_at hl 0 rfl) ?_
      refine lv_goto (tgt := 56) hx hb d_Mo_most_40 (by decide) ?_
      cases hlit
      exact ret 0 _ _ _ _ trivial hP hS rfl d_Mo_most_56
  · have hlit := brP _ hlit c7
    refine lv_iconst (v := (-1 : Int32)) hx hb d_Mo_most_10 (by decide) ?_
    cases hlit
    exact ret 0 _ _ _ _ trivial hP hS rfl d_Mo_most_11

abbrev rm_m_Mo_worstOff : Room := { frames := 1, cells := 0, slots := 0, locals := 25 }
theorem hd_m_Mo_worstOff : y_Mo_worstOff.cls ≠ "java/lang/invoke/MethodHandle" ∧ y_Mo_worstOff.cls ≠ "java/lang/invoke/VarHandle" ∧ (parseMethodDescriptor y_Mo_worstOff.desc).map (fun d => d.parameters.length) = some 1 := by decide +kernel
set_option maxHeartbeats 4000000 in
set_option maxRecDepth 100000 in
theorem cm_Mo_worstOff (l : Launch) (E : mE) (a : Nat → Nat) (ha : xInj a 10) (h : Hp) (sz : Nat) (p1 : Int32) {r0 : Int32} (hlit : m_Mo_worstOff p1 h = some r0) : Met l y_Mo_worstOff (Cond.code y_Mo_worstOff b_Mo_worstOff 4 (some .int) :: TB) rm_m_Mo_worstOff (fPc [.ref (a 0), .int p1] E.1 (mtys E) sz (mV E a h)) (fQi (fun _ : Nat => True) r0 E.1 (fun (_ : Nat) => mV E a h) (xA a 10 sz)) 0 0 (xA a 10 sz) := by
  refine fl_startI (by decide) (Nat.le_of_ble_eq_true rfl) ?_
  intro p e s m args below meth c Q hx hb hml hown hts hsz hP hK hN ret ls hl
  subst hsz
  have hA : ∀ k, k < 10 → (xA a 10 s.heap.size) (a k) := xA_in
  have hS : va_S (xA a 10 s.heap.size) s.heap s.heap [] := va_S.rf
  have hl : lv_has ls 4 [(0, .ref (a 0)), (1, .int p1)] := hl
  have b4 : ∀ (n : Nat), ∀ (x2 : Int32) (x3 : Int32) (H : Heap) (locs : List Loc) (ls : Array Slot), m_Mo_worstOff_b4 p1 h n x2 x3 = some r0 → va_P E.1 xcl (mV E a h) H → va_S (xA a 10 s.heap.size) s.heap H locs → lv_has ls 4 [(0, .ref (a 0)), (1, .int p1), (2, .int x2), (3, .int x3)] → W p l e rm_m_Mo_worstOff s m args below meth c H locs 0 0 Q (F0 m 4 ls []) := by
    intro n
    induction n with
    | zero => intro x2 x3 H locs ls hlit hP hS hl; exact nnF hlit
    | succ n ih =>
      intro x2 x3 H locs ls hlit hP hS hl
      refine lv_iload_n hx hb d_Mo_worstOff_4 rfl (lv_at hl 3 rfl) ?_
      refine lv_aload_n hx hb d_Mo_worstOff_5 rfl (lv_at hl 0 rfl) ?_
      refine mg_Mo_2 hx hb hts hown hK hP q673 d_Mo_worstOff_6 ?_
      refine lv_iconst (v := (1 : Int32)) hx hb d_Mo_worstOff_9 (by decide) ?_
      refine mald2 hx hb hK hP (j := 1) rfl (vpin_c (by decide)) d_Mo_worstOff_10 ?_
      refine lv_icmp_ge (tgt := 53) hx hb d_Mo_worstOff_11 (by decide) (fun c11 => ?_) (fun c11 => ?_)
      · have hlit := brP _ hlit c11
        refine lv_iload_n hx hb d_Mo_worstOff_53 rfl (lv_at hl 2 rfl) ?_
        cases hlit
        exact ret 0 _ _ _ _ trivial hP hS rfl d_Mo_worstOff_54
      · have hlit := brN _ hlit c11
        refine lv_aload_n hx hb d_Mo_worstOff_14 rfl (lv_at hl 0 rfl) ?_
        refine lv_iload_n hx hb d_Mo_worstOff_15 rfl (lv_at hl 3 rfl) ?_
        refine lv_iload_n hx hb d_Mo_worstOff_16 rfl (lv_at hl 1 rfl) ?_
        refine lv_aload_n hx hb d_Mo_worstOff_17 rfl (lv_at hl 0 rfl) ?_
        refine mg_Mo_5 hx hb hts hown hK hP q676 d_Mo_worstOff_18 ?_
        refine lv_iconst (v := (0 : Int32)) hx hb d_Mo_worstOff_21 (by decide) ?_
        refine mald4 hx hb hK hP (j := 0) rfl (vpin_c (by decide)) d_Mo_worstOff_22 ?_
        obtain ⟨r23, hl23, hlit⟩ := bindS hlit
        refine fCallI (fRunV (As := [.int x3, .int p1, .int (h 4 0)]) (rest := []) (q0 := 0) (ci := 8) hx hb hml hown hts hK hN hP (cm_Mo_worthAt l E a ha h _ x3 p1 (h 4 0) (r0 := r23) hl23) q759 q760 q34 q61 q761 hd_m_Mo_worthAt rfl rfl ⟨Nat.le_of_ble_eq_true rfl, Nat.le_of_ble_eq_true rfl⟩ me_0 rfl rfl rfl hl.1 rfl (Nat.le_of_ble_eq_true rfl) d_Mo_worstOff_23 ⟨Nat.zero_le _, Nat.zero_le _⟩) hS (xA_up hS.1) (fun _ H locs hu23 hP hS _ _ => ?_)
        have hP : va_P E.1 xcl (mV E a h) H := hP
        refine lv_aload_n hx hb d_Mo_worstOff_26 rfl (lv_at hl 0 rfl) ?_
        refine lv_iload_n hx hb d_Mo_worstOff_27 rfl (lv_at hl 2 rfl) ?_
        refine lv_iload_n hx hb d_Mo_worstOff_28 rfl (lv_at hl 1 rfl) ?_
        refine lv_aload_n hx hb d_Mo_worstOff_29 rfl (lv_at hl 0 rfl) ?_
        refine mg_Mo_5 hx hb hts hown hK hP q676 d_Mo_worstOff_30 ?_
        refine lv_iconst (v := (0 : Int32)) hx hb d_Mo_worstOff_33 (by decide) ?_
        refine mald4 hx hb hK hP (j := 0) rfl (vpin_c (by decide)) d_Mo_worstOff_34 ?_
        obtain ⟨r35, hl35, hlit⟩ := bindS hlit
        refine fCallI (fRunV (As := [.int x2, .int p1, .int (h 4 0)]) (rest := [.int r23]) (q0 := 0) (ci := 8) hx hb hml hown hts hK hN hP (cm_Mo_worthAt l E a ha h _ x2 p1 (h 4 0) (r0 := r35) hl35) q759 q760 q34 q61 q761 hd_m_Mo_worthAt rfl rfl ⟨Nat.le_of_ble_eq_true rfl, Nat.le_of_ble_eq_true rfl⟩ me_0 rfl rfl rfl hl.1 rfl (Nat.le_of_ble_eq_true rfl) d_Mo_worstOff_35 ⟨Nat.zero_le _, Nat.zero_le _⟩) hS (xA_up hS.1) (fun _ H locs hu35 hP hS _ _ => ?_)
        have hP : va_P E.1 xcl (mV E a h) H := hP
        refine lv_icmp_ge (tgt := 45) hx hb d_Mo_worstOff_38 (by decide) (fun c38 => ?_) (fun c38 => ?_)
        · have hlit := brP _ hlit c38
          refine lv_iload_n hx hb d_Mo_worstOff_45 rfl (lv_at hl 2 rfl) ?_
          refine lv_istore_n (lv' := [(2, .int x2), (0, .ref (a 0)), (1, .int p1), (3, .int x3)]) hx hb d_Mo_worstOff_46 rfl hl (by decide) rfl (fun ls hl => ?_)
          refine lv_iinc (v := (x3 + (1 : Int32))) (lv' := [(3, .int (x3 + (1 : Int32))), (2, .int x2), (0, .ref (a 0)), (1, .int p1)]) hx hb d_Mo_worstOff_47 hl (k := 3) rfl rfl (by decide) rfl (fun ls hl => ?_)
          refine lv_goto (tgt := 4) hx hb d_Mo_worstOff_50 (by decide) ?_
          exact ih x2 (x3 + (1 : Int32)) _ _ _ hlit hP hS (lv_sub hl [2, 3, 1, 0] rfl)
        · have hlit := brN _ hlit c38
          refine lv_iload_n hx hb d_Mo_worstOff_41 rfl (lv_at hl 3 rfl) ?_
          refine lv_goto (tgt := 46) hx hb d_Mo_worstOff_42 (by decide) ?_
          refine lv_istore_n (lv' := [(2, .int x3), (0, .ref (a 0)), (1, .int p1), (3, .int x3)]) hx hb d_Mo_worstOff_46 rfl hl (by decide) rfl (fun ls hl => ?_)
          refine lv_iinc (v := (x3 + (1 : Int32))) (lv' := [(3, .int (x3 + (1 : Int32))), (2, .int x3), (0, .ref (a 0)), (1, .int p1)]) hx hb d_Mo_worstOff_47 hl (k := 3) rfl rfl (by decide) rfl (fun ls hl => ?_)
          refine lv_goto (tgt := 4) hx hb d_Mo_worstOff_50 (by decide) ?_
          exact ih x3 (x3 + (1 : Int32)) _ _ _ hlit hP hS (lv_sub hl [2, 3, 1, 0] rfl)
  refine lv_iconst (v := (0 : Int32)) hx hb d_Mo_worstOff_0 (by decide) ?_
  refine lv_istore_n (lv' := [(2, .int (0 : Int32)), (0, .ref (a 0)), (1, .int p1)]) hx hb d_Mo_worstOff_1 rfl hl (by decide) rfl (fun ls hl => ?_)
  refine lv_iconst (v := (1 : Int32)) hx hb d_Mo_worstOff_2 (by decide) ?_
  refine lv_istore_n (lv' := [(3, .int (1 : Int32)), (2, .int (0 : Int32)), (0, .ref (a 0)), (1, .int p1)]) hx hb d_Mo_worstOff_3 rfl hl (by decide) rfl (fun ls hl => ?_)
  exact b4 FU (0 : Int32) (1 : Int32) _ _ _ hlit hP hS (lv_sub hl [2, 3, 1, 0] rfl)
