abbrev rm_m_Mo_wheel : Room := { frames := 2, cells := 0, slots := 0, locals := 48 }
theorem hd_m_Mo_wheel : y_Mo_wheel.cls ≠ "java/lang/invoke/MethodHandle" ∧ y_Mo_wheel.cls ≠ "java/lang/invoke/VarHandle" ∧ (parseMethodDescriptor y_Mo_wheel.desc).map (fun d => d.parameters.length) = some 2 := by decide +kernel
set_option maxHeartbeats 4000000 in
set_option maxRecDepth 100000 in
theorem cm_Mo_wheel (l : Launch) (E : mE) (a : Nat → Nat) (ha : xInj a 10) (h : Hp) (sz : Nat) (p1 : Int32) (p2 : Int32) {r0 : Int32} (hlit : m_Mo_wheel p1 p2 h = some r0) : Met l y_Mo_wheel (Cond.code y_Mo_wheel b_Mo_wheel 10 (some .int) :: TB) rm_m_Mo_wheel (fPc [.ref (a 0), .int p1, .int p2] E.1 (mtys E) sz (mV E a h)) (fQi (fun _ : Nat => True) r0 E.1 (fun (_ : Nat) => mV E a h) (xA a 10 sz)) 0 0 (xA a 10 sz) := by
  refine fl_startI (by decide) (Nat.le_of_ble_eq_true rfl) ?_
  intro p e s m args below meth c Q hx hb hml hown hts hsz hP hK hN ret ls hl
  subst hsz
  have hA : ∀ k, k < 10 → (xA a 10 s.heap.size) (a k) := xA_in
  have hS : va_S (xA a 10 s.heap.size) s.heap s.heap [] := va_S.rf
  have hl : lv_has ls 10 [(0, .ref (a 0)), (1, .int p1), (2, .int p2)] := hl
  have b146 : ∀ (n : Nat), ∀ (x5 : Int32) (x6 : Int32) (x7 : Int32) (x8 : Int32) (H : Heap) (locs : List Loc) (ls : Array Slot), m_Mo_wheel_b146 p1 p2 h n x5 x6 x7 x8 = some r0 → va_P E.1 xcl (mV E a h) H → va_S (xA a 10 s.heap.size) s.heap H locs → lv_has ls 10 [(2, .int p2), (5, .int x5), (6, .int x6), (7, .int x7), (8, .int x8)] → W p l e rm_m_Mo_wheel s m args below meth c H locs 0 0 Q (F0 m 146 ls []) := by
    intro n
    induction n with
    | zero => intro x5 x6 x7 x8 H locs ls hlit hP hS hl; exact nnF hlit
    | succ n ih =>
      intro x5 x6 x7 x8 H locs ls hlit hP hS hl
      refine lv_iload hx hb d_Mo_wheel_146 (lv_at hl 4 rfl) ?_
      refine lv_if_eq (tgt := 169) hx hb d_Mo_wheel_148 (by decide) (fun c148 => ?_) (fun c148 => ?_)
      · have hlit := brP _ hlit c148
        refine lv_iload_n hx hb d_Mo_wheel_169 rfl (lv_at hl 0 rfl) ?_
        refine lv_if_ne (tgt := 184) hx hb d_Mo_wheel_170 (by decide) (fun c170 => ?_) (fun c170 => ?_)
        · have hlit := brN _ hlit c170
          refine lv_iload hx hb d_Mo_wheel_184 (lv_at hl 1 rfl) ?_
          refine lv_iload hx hb d_Mo_wheel_186 (lv_at hl 3 rfl) ?_
          obtain ⟨g188, hlit⟩ := gdP _ hlit
          refine lv_idiv hx hb d_Mo_wheel_188 g188 ?_
          cases hlit
          exact ret 0 _ _ _ _ trivial hP hS rfl d_Mo_wheel_189
        · have hlit := brP _ hlit c170
          refine lv_iload hx hb d_Mo_wheel_173 (lv_at hl 1 rfl) ?_
          refine lv_iload hx hb d_Mo_wheel_175 (lv_at hl 2 rfl) ?_
          refine lv_isub hx hb d_Mo_wheel_177 ?_
          refine lv_iload hx hb d_Mo_wheel_178 (lv_at hl 3 rfl) ?_
          obtain ⟨g180, hlit⟩ := gdP _ hlit
          refine lv_idiv hx hb d_Mo_wheel_180 g180 ?_
          refine lv_goto (tgt := 189) hx hb d_Mo_wheel_181 (by decide) ?_
          cases hlit
          exact ret 0 _ _ _ _ trivial hP hS rfl d_Mo_wheel_189
      · have hlit := brN _ hlit c148
        refine lv_iload hx hb d_Mo_wheel_151 (lv_at hl 3 rfl) ?_
        refine lv_iload hx hb d_Mo_wheel_153 (lv_at hl 4 rfl) ?_
        obtain ⟨g155, hlit⟩ := gdP _ hlit
        refine lv_irem hx hb d_Mo_wheel_155 g155 ?_
        obtain ⟨y156, ey156, hlit⟩ := bindS hlit
        refine topn ey156 ?_
        refine lv_istore (lv' := [(9, .int y156), (2, .int p2), (5, .int x5), (6, .int x6), (7, .int x7), (8, .int x8)]) hx hb d_Mo_wheel_156 hl (by decide) rfl (fun ls hl => ?_)
        refine lv_iload hx hb d_Mo_wheel_158 (lv_at hl 5 rfl) ?_
        refine lv_istore (lv' := [(7, .int x8), (9, .int y156), (2, .int p2), (5, .int x5), (6, .int x6), (8, .int x8)]) hx hb d_Mo_wheel_160 hl (by decide) rfl (fun ls hl => ?_)
        refine lv_iload hx hb d_Mo_wheel_162 (lv_at hl 1 rfl) ?_
        refine lv_istore (lv' := [(8, .int y156), (7, .int x8), (9, .int y156), (2, .int p2), (5, .int x5), (6, .int x6)]) hx hb d_Mo_wheel_164 hl (by decide) rfl (fun ls hl => ?_)
        refine lv_goto (tgt := 146) hx hb d_Mo_wheel_166 (by decide) ?_
        exact ih x5 x6 x8 y156 _ _ _ hlit hP hS (lv_sub hl [3, 4, 5, 1, 0] rfl)
  have b107 : ∀ (n : Nat), ∀ (x3 : Int32) (x4 : Int32) (x5 : Int32) (x6 : Int32) (x7 : Int32) (H : Heap) (locs : List Loc) (ls : Array Slot), m_Mo_wheel_b107 p1 p2 h n x3 x4 x5 x6 x7 = some r0 → va_P E.1 xcl (mV E a h) H → va_S (xA a 10 s.heap.size) s.heap H locs → lv_has ls 10 [(1, .int p1), (2, .int p2), (3, .int x3), (4, .int x4), (5, .int x5), (6, .int x6), (7, .int x7)] → W p l e rm_m_Mo_wheel s m args below meth c H locs 0 0 Q (F0 m 107 ls []) := by
    intro n
    induction n with
    | zero => intro x3 x4 x5 x6 x7 H locs ls hlit hP hS hl; exact nnF hlit
    | succ n ih =>
      intro x3 x4 x5 x6 x7 H locs ls hlit hP hS hl
      refine lv_iload hx hb d_Mo_wheel_107 (lv_at hl 6 rfl) ?_
      refine lv_iload_n hx hb d_Mo_wheel_109 rfl (lv_at hl 0 rfl) ?_
      refine lv_icmp_ge (tgt := 135) hx hb d_Mo_wheel_110 (by decide) (fun c110 => ?_) (fun c110 => ?_)
      · have hlit := brP _ hlit c110
        refine lv_iload hx hb d_Mo_wheel_135 (lv_at hl 4 rfl) ?_
        refine lv_iload hx hb d_Mo_wheel_137 (lv_at hl 5 rfl) ?_
        refine lv_isub hx hb d_Mo_wheel_139 ?_
        obtain ⟨y140, ey140, hlit⟩ := bindS hlit
        refine topn ey140 ?_
        refine lv_istore (lv' := [(7, .int y140), (1, .int p1), (2, .int p2), (3, .int x3), (4, .int x4), (5, .int x5), (6, .int x6)]) hx hb d_Mo_wheel_140 hl (by decide) rfl (fun ls hl => ?_)
        refine lv_iload hx hb d_Mo_wheel_142 (lv_at hl 5 rfl) ?_
        refine lv_istore (lv' := [(8, .int x5), (7, .int y140), (1, .int p1), (2, .int p2), (3, .int x3), (4, .int x4), (5, .int x5), (6, .int x6)]) hx hb d_Mo_wheel_144 hl (by decide) rfl (fun ls hl => ?_)
        exact b146 FU x5 x6 y140 x5 _ _ _ hlit hP hS (lv_sub hl [3, 6, 7, 1, 0] rfl)
      · have hlit := brN _ hlit c110
        refine lv_iload hx hb d_Mo_wheel_113 (lv_at hl 4 rfl) ?_
        refine lv_iload_n hx hb d_Mo_wheel_115 rfl (lv_at hl 2 rfl) ?_
        obtain ⟨r116, hl116, hlit⟩ := bindS hlit
        refine fCallI (fRunS (As := [.int x3]) (rest := [.int x5]) hx hb hml hown hts hK hN hP (cm_Mo_ones l E a ha h _ x3 (r0 := r116) hl116) q794 q795 q61 q796 hd_m_Mo_ones rfl rfl ⟨Nat.le_of_ble_eq_true rfl, Nat.le_of_ble_eq_true rfl⟩ rfl hl.1 rfl (Nat.le_of_ble_eq_true rfl) d_Mo_wheel_116 ⟨Nat.zero_le _, Nat.zero_le _⟩) hS (xA_up hS.1) (fun _ H locs hu116 hP hS _ _ => ?_)
        have hP : va_P E.1 xcl (mV E a h) H := hP
        refine lv_imul hx hb d_Mo_wheel_119 ?_
        obtain ⟨y120, ey120, hlit⟩ := bindS hlit
        refine topn ey120 ?_
        refine lv_istore (lv' := [(5, .int y120), (1, .int p1), (2, .int p2), (3, .int x3), (4, .int x4), (6, .int x6), (7, .int x7)]) hx hb d_Mo_wheel_120 hl (by decide) rfl (fun ls hl => ?_)
        refine lv_iload hx hb d_Mo_wheel_122 (lv_at hl 5 rfl) ?_
        refine lv_iload hx hb d_Mo_wheel_124 (lv_at hl 4 rfl) ?_
        refine lv_imul hx hb d_Mo_wheel_126 ?_
        obtain ⟨y127, ey127, hlit⟩ := bindS hlit
        refine topn ey127 ?_
        refine lv_istore (lv' := [(6, .int y127), (5, .int y120), (1, .int p1), (2, .int p2), (3, .int x3), (4, .int x4), (7, .int x7)]) hx hb d_Mo_wheel_127 hl (by decide) rfl (fun ls hl => ?_)
        refine lv_iinc (v := (x7 + (1 : Int32))) (lv' := [(7, .int (x7 + (1 : Int32))), (6, .int y127), (5, .int y120), (1, .int p1), (2, .int p2), (3, .int x3), (4, .int x4)]) hx hb d_Mo_wheel_129 hl (k := 6) rfl rfl (by decide) rfl (fun ls hl => ?_)
        refine lv_goto (tgt := 107) hx hb d_Mo_wheel_132 (by decide) ?_
        exact ih x3 x4 y120 y127 (x7 + (1 : Int32)) _ _ _ hlit hP hS (lv_sub hl [3, 4, 5, 6, 2, 1, 0] rfl)
  have b41 : ∀ (n : Nat), ∀ (x3 : Int32) (x4 : Int32) (x5 : Int32) (H : Heap) (locs : List Loc) (ls : Array Slot), m_Mo_wheel_b41 p1 p2 h n x3 x4 x5 = some r0 → va_P E.1 xcl (mV E a h) H → va_S (xA a 10 s.heap.size) s.heap H locs → lv_has ls 10 [(0, .ref (a 0)), (1, .int p1), (2, .int p2), (3, .int x3), (4, .int x4), (5, .int x5)] → W p l e rm_m_Mo_wheel s m args below meth c H locs 0 0 Q (F0 m 41 ls []) := by
    intro n
    induction n with
    | zero => intro x3 x4 x5 H locs ls hlit hP hS hl; exact nnF hlit
    | succ n ih =>
      intro x3 x4 x5 H locs ls hlit hP hS hl
      refine lv_iload hx hb d_Mo_wheel_41 (lv_at hl 5 rfl) ?_
      refine lv_aload_n hx hb d_Mo_wheel_43 rfl (lv_at hl 0 rfl) ?_
      refine mg_Mo_2 hx hb hts hown hK hP q673 d_Mo_wheel_44 ?_
      refine lv_iconst (v := (0 : Int32)) hx hb d_Mo_wheel_47 (by decide) ?_
      refine mald2 hx hb hK hP (j := 0) rfl (vpin_c (by decide)) d_Mo_wheel_48 ?_
      refine lv_icmp_ge (tgt := 98) hx hb d_Mo_wheel_49 (by decide) (fun c49 => ?_) (fun c49 => ?_)
      · have hlit := brP _ hlit c49
        refine lv_iconst (v := (1 : Int32)) hx hb d_Mo_wheel_98 (by decide) ?_
        refine lv_istore (lv' := [(5, .int (1 : Int32)), (0, .ref (a 0)), (1, .int p1), (2, .int p2), (3, .int x3), (4, .int x4)]) hx hb d_Mo_wheel_99 hl (by decide) rfl (fun ls hl => ?_)
        refine lv_iconst (v := (1 : Int32)) hx hb d_Mo_wheel_101 (by decide) ?_
        refine lv_istore (lv' := [(6, .int (1 : Int32)), (5, .int (1 : Int32)), (0, .ref (a 0)), (1, .int p1), (2, .int p2), (3, .int x3), (4, .int x4)]) hx hb d_Mo_wheel_102 hl (by decide) rfl (fun ls hl => ?_)
        refine lv_iconst (v := (0 : Int32)) hx hb d_Mo_wheel_104 (by decide) ?_
        refine lv_istore (lv' := [(7, .int (0 : Int32)), (6, .int (1 : Int32)), (5, .int (1 : Int32)), (0, .ref (a 0)), (1, .int p1), (2, .int p2), (3, .int x3), (4, .int x4)]) hx hb d_Mo_wheel_105 hl (by decide) rfl (fun ls hl => ?_)
        exact b107 FU x3 x4 (1 : Int32) (1 : Int32) (0 : Int32) _ _ _ hlit hP hS (lv_sub hl [4, 5, 6, 7, 2, 1, 0] rfl)
      · have hlit := brN _ hlit c49
        refine lv_iload hx hb d_Mo_wheel_52 (lv_at hl 4 rfl) ?_
        refine lv_iload_n hx hb d_Mo_wheel_54 rfl (lv_at hl 3 rfl) ?_
        refine lv_iload hx hb d_Mo_wheel_55 (lv_at hl 5 rfl) ?_
        obtain ⟨r57, hl57, hlit⟩ := bindS hlit
        refine fCallI (fRunS (As := [.int x3, .int x5]) (rest := [.int x4]) hx hb hml hown hts hK hN hP (cm_Mo_has l E a ha h _ x3 x5 (r0 := r57) hl57) q756 q757 q61 q758 hd_m_Mo_has rfl rfl ⟨Nat.le_of_ble_eq_true rfl, Nat.le_of_ble_eq_true rfl⟩ rfl hl.1 rfl (Nat.le_of_ble_eq_true rfl) d_Mo_wheel_57 ⟨Nat.zero_le _, Nat.zero_le _⟩) hS (xA_up hS.1) (fun _ H locs hu57 hP hS _ _ => ?_)
        have hP : va_P E.1 xcl (mV E a h) H := hP
        refine lv_if_eq (tgt := 88) hx hb d_Mo_wheel_60 (by decide) (fun c60 => ?_) (fun c60 => ?_)
        · have hlit := brP _ hlit c60
          refine lv_iconst (v := (0 : Int32)) hx hb d_Mo_wheel_88 (by decide) ?_
          refine lv_iadd hx hb d_Mo_wheel_89 ?_
          obtain ⟨y90, ey90, hlit⟩ := bindS hlit
          refine topn ey90 ?_
          refine lv_istore (lv' := [(4, .int y90), (0, .ref (a 0)), (1, .int p1), (2, .int p2), (3, .int x3), (5, .int x5)]) hx hb d_Mo_wheel_90 hl (by decide) rfl (fun ls hl => ?_)
          refine lv_iinc (v := (x5 + (1 : Int32))) (lv' := [(5, .int (x5 + (1 : Int32))), (4, .int y90), (0, .ref (a 0)), (1, .int p1), (2, .int p2), (3, .int x3)]) hx hb d_Mo_wheel_92 hl (k := 5) rfl rfl (by decide) rfl (fun ls hl => ?_)
          refine lv_goto (tgt := 41) hx hb d_Mo_wheel_95 (by decide) ?_
          exact ih x3 y90 (x5 + (1 : Int32)) _ _ _ hlit hP hS (lv_sub hl [2, 3, 4, 5, 1, 0] rfl)
        · have hlit := brN _ hlit c60
          refine lv_aload_n hx hb d_Mo_wheel_63 rfl (lv_at hl 0 rfl) ?_
          refine lv_aload_n hx hb d_Mo_wheel_64 rfl (lv_at hl 0 rfl) ?_
          refine lv_iload hx hb d_Mo_wheel_65 (lv_at hl 5 rfl) ?_
          obtain ⟨r67, hl67, hlit⟩ := bindS hlit
          refine fCallI (fRunV (As := [.int x5]) (rest := [.ref (a 0), .int x4]) (q0 := 0) (ci := 8) hx hb hml hown hts hK hN hP (cm_Mo_worstOff l E a ha h _ x5 (r0 := r67) hl67) q819 q820 q42 q61 q821 hd_m_Mo_worstOff rfl rfl ⟨Nat.le_of_ble_eq_true rfl, Nat.le_of_ble_eq_true rfl⟩ me_0 rfl rfl rfl hl.1 rfl (Nat.le_of_ble_eq_true rfl) d_Mo_wheel_67 ⟨Nat.zero_le _, Nat.zero_le _⟩) hS (xA_up hS.1) (fun _ H locs hu67 hP hS _ _ => ?_)
          have hP : va_P E.1 xcl (mV E a h) H := hP
          refine lv_iload hx hb d_Mo_wheel_70 (lv_at hl 5 rfl) ?_
          refine lv_aload_n hx hb d_Mo_wheel_72 rfl (lv_at hl 0 rfl) ?_
          refine mg_Mo_5 hx hb hts hown hK hP q676 d_Mo_wheel_73 ?_
          refine lv_iconst (v := (0 : Int32)) hx hb d_Mo_wheel_76 (by decide) ?_
          refine mald4 hx hb hK hP (j := 0) rfl (vpin_c (by decide)) d_Mo_wheel_77 ?_
          obtain ⟨r78, hl78, hlit⟩ := bindS hlit
          refine fCallI (fRunV (As := [.int r67, .int x5, .int (h 4 0)]) (rest := [.int x4]) (q0 := 0) (ci := 8) hx hb hml hown hts hK hN hP (cm_Mo_worthAt l E a ha h _ r67 x5 (h 4 0) (r0 := r78) hl78) q759 q760 q34 q61 q761 hd_m_Mo_worthAt rfl rfl ⟨Nat.le_of_ble_eq_true rfl, Nat.le_of_ble_eq_true rfl⟩ me_0 rfl rfl rfl hl.1 rfl (Nat.le_of_ble_eq_true rfl) d_Mo_wheel_78 ⟨Nat.zero_le _, Nat.zero_le _⟩) hS (xA_up hS.1) (fun _ H locs hu78 hP hS _ _ => ?_)
          have hP : va_P E.1 xcl (mV E a h) H := hP
          refine lv_if_ne (tgt := 88) hx hb d_Mo_wheel_81 (by decide) (fun c81 => ?_) (fun c81 => ?_)
          · have hlit := brN _ hlit c81
            refine lv_iconst (v := (0 : Int32)) hx hb d_Mo_wheel_88 (by decide) ?_
            refine lv_iadd hx hb d_Mo_wheel_89 ?_
            obtain ⟨y90, ey90, hlit⟩ := bindS hlit
            refine topn ey90 ?_
            refine lv_istore (lv' := [(4, .int y90), (0, .ref (a 0)), (1, .int p1), (2, .int p2), (3, .int x3), (5, .int x5)]) hx hb d_Mo_wheel_90 hl (by decide) rfl (fun ls hl => ?_)
            refine lv_iinc (v := (x5 + (1 : Int32))) (lv' := [(5, .int (x5 + (1 : Int32))), (4, .int y90), (0, .ref (a 0)), (1, .int p1), (2, .int p2), (3, .int x3)]) hx hb d_Mo_wheel_92 hl (k := 5) rfl rfl (by decide) rfl (fun ls hl => ?_)
            refine lv_goto (tgt := 41) hx hb d_Mo_wheel_95 (by decide) ?_
            exact ih x3 y90 (x5 + (1 : Int32)) _ _ _ hlit hP hS (lv_sub hl [2, 3, 4, 5, 1, 0] rfl)
          · have hlit := brP _ hlit c81
            refine lv_iconst (v := (1 : Int32)) hx hb d_Mo_wheel_84 (by decide) ?_
            refine lv_goto (tgt := 89) hx hb d_Mo_wheel_85 (by decide) ?_
            refine lv_iadd hx hb d_Mo_wheel_89 ?_
            obtain ⟨y90, ey90, hlit⟩ := bindS hlit
            refine topn ey90 ?_
            refine lv_istore (lv' := [(4, .int y90), (0, .ref (a 0)), (1, .int p1), (2, .int p2), (3, .int x3), (5, .int x5)]) hx hb d_Mo_wheel_90 hl (by decide) rfl (fun ls hl => ?_)
            refine lv_iinc (v := (x5 + (1 : Int32))) (lv' := [(5, .int (x5 + (1 : Int32))), (4, .int y90), (0, .ref (a 0)), (1, .int p1), (2, .int p2), (3, .int x3)]) hx hb d_Mo_wheel_92 hl (k := 5) rfl rfl (by decide) rfl (fun ls hl => ?_)
            refine lv_goto (tgt := 41) hx hb d_Mo_wheel_95 (by decide) ?_
            exact ih x3 y90 (x5 + (1 : Int32)) _ _ _ hlit hP hS (lv_sub hl [2, 3, 4, 5, 1, 0] rfl)
  refine lv_iload_n hx hb d_Mo_wheel_0 rfl (lv_at hl 1 rfl) ?_
  refine lv_i2l (v := p1.toInt64) hx hb d_Mo_wheel_1 rfl ?_
  refine lv_lconst (v := (0 : Int64)) hx hb d_Mo_wheel_2 (by decide) ?_
  refine lv_ldc2 (v := (6 : Int64)) hx hb hown (hts _ q895) d_Mo_wheel_3 ?_
  obtain ⟨r6, hl6, hlit⟩ := bindS hlit
  refine fCallI (fRunS (As := [.long (p1.toInt64), .long (0 : Int64), .long (6 : Int64)]) (rest := []) hx hb hml hown hts hK hN hP (cm_Mo_in l E a ha h _ (p1.toInt64) (0 : Int64) (6 : Int64) (r0 := r6) hl6) q707 q708 q61 q709 hd_m_Mo_in rfl rfl ⟨Nat.le_of_ble_eq_true rfl, Nat.le_of_ble_eq_true rfl⟩ rfl hl.1 rfl (Nat.le_of_ble_eq_true rfl) d_Mo_wheel_6 ⟨Nat.zero_le _, Nat.zero_le _⟩) hS (xA_up hS.1) (fun _ H locs hu6 hP hS _ _ => ?_)
  have hP : va_P E.1 xcl (mV E a h) H := hP
  refine lv_if_eq (tgt := 22) hx hb d_Mo_wheel_9 (by decide) (fun c9 => ?_) (fun c9 => ?_)
  · have hlit := brP _ hlit c9
    refine lv_iconst (v := (-1 : Int32)) hx hb d_Mo_wheel_22 (by decide) ?_
    cases hlit
    exact ret 0 _ _ _ _ trivial hP hS rfl d_Mo_wheel_23
  · have hlit := brN _ hlit c9
    refine lv_iload_n hx hb d_Mo_wheel_12 rfl (lv_at hl 2 rfl) ?_
    refine lv_i2l (v := p2.toInt64) hx hb d_Mo_wheel_13 rfl ?_
    refine lv_lconst (v := (0 : Int64)) hx hb d_Mo_wheel_14 (by decide) ?_
    refine lv_lconst (v := (1 : Int64)) hx hb d_Mo_wheel_15 (by decide) ?_
    obtain ⟨r16, hl16, hlit⟩ := bindS hlit
    refine fCallI (fRunS (As := [.long (p2.toInt64), .long (0 : Int64), .long (1 : Int64)]) (rest := []) hx hb hml hown hts hK hN hP (cm_Mo_in l E a ha h _ (p2.toInt64) (0 : Int64) (1 : Int64) (r0 := r16) hl16) q707 q708 q61 q709 hd_m_Mo_in rfl rfl ⟨Nat.le_of_ble_eq_true rfl, Nat.le_of_ble_eq_true rfl⟩ rfl hl.1 rfl (Nat.le_of_ble_eq_true rfl) d_Mo_wheel_16 ⟨Nat.zero_le _, Nat.zero_le _⟩) hS (xA_up hS.1) (fun _ H locs hu16 hP hS _ _ => ?_)
    have hP : va_P E.1 xcl (mV E a h) H := hP
    refine lv_if_ne (tgt := 24) hx hb d_Mo_wheel_19 (by decide) (fun c19 => ?_) (fun c19 => ?_)
    · have hlit := brN _ hlit c19
      refine lv_aload_n hx hb d_Mo_wheel_24 rfl (lv_at hl 0 rfl) ?_
      refine lv_aload_n hx hb d_Mo_wheel_25 rfl (lv_at hl 0 rfl) ?_
      refine mg_Mo_5 hx hb hts hown hK hP q676 d_Mo_wheel_26 ?_
      refine lv_iconst (v := (1 : Int32)) hx hb d_Mo_wheel_29 (by decide) ?_
      refine mald4 hx hb hK hP (j := 1) rfl (vpin_c (by decide)) d_Mo_wheel_30 ?_
      obtain ⟨r31, hl31, hlit⟩ := bindS hlit
      refine fCallI (fRunV (As := [.int (h 4 1)]) (rest := []) (q0 := 0) (ci := 8) hx hb hml hown hts hK hN hP (cm_Mo_leftBy l E a ha h _ (h 4 1) (r0 := r31) hl31) q762 q763 q35 q61 q764 hd_m_Mo_leftBy rfl rfl ⟨Nat.le_of_ble_eq_true rfl, Nat.le_of_ble_eq_true rfl⟩ me_0 rfl rfl rfl hl.1 rfl (Nat.le_of_ble_eq_true rfl) d_Mo_wheel_31 ⟨Nat.zero_le _, Nat.zero_le _⟩) hS (xA_up hS.1) (fun _ H locs hu31 hP hS _ _ => ?_)
      have hP : va_P E.1 xcl (mV E a h) H := hP
      refine lv_istore_n (lv' := [(3, .int r31), (0, .ref (a 0)), (1, .int p1), (2, .int p2)]) hx hb d_Mo_wheel_34 rfl hl (by decide) rfl (fun ls hl => ?_)
      refine lv_iconst (v := (0 : Int32)) hx hb d_Mo_wheel_35 (by decide) ?_
      refine lv_istore (lv' := [(4, .int (0 : Int32)), (3, .int r31), (0, .ref (a 0)), (1, .int p1), (2, .int p2)]) hx hb d_Mo_wheel_36 hl (by decide) rfl (fun ls hl => ?_)
      refine lv_iconst (v := (0 : Int32)) hx hb d_Mo_wheel_38 (by decide) ?_
      refine lv_istore (lv' := [(5, .int (0 : Int32)), (4, .int (0 : Int32)), (3, .int r31), (0, .ref (a 0)), (1, .int p1), (2, .int p2)]) hx hb d_Mo_wheel_39 hl (by decide) rfl (fun ls hl => ?_)
      exact b41 FU r31 (0 : Int32) (0 : Int32) _ _ _ hlit hP hS (lv_sub hl [3, 4, 5, 2, 1, 0] rfl)
    · have hlit := brP _ hlit c19
      refine lv_iconst (v := (-1 : Int32)) hx hb d_Mo_wheel_22 (by decide) ?_
      cases hlit
      exact ret 0 _ _ _ _ trivial hP hS rfl d_Mo_wheel_23

abbrev rm_m_Mo_evening : Room := { frames := 3, cells := 0, slots := 0, locals := 77 }
theorem hd_m_Mo_evening : y_Mo_evening.cls ≠ "java/lang/invoke/MethodHandle" ∧ y_Mo_evening.cls ≠ "java/lang/invoke/VarHandle" ∧ (parseMethodDescriptor y_Mo_evening.desc).map (fun d => d.parameters.length) = some 3 := by decide +kernel
set_option maxHeartbeats 4000000 in
set_option maxRecDepth 100000 in
theorem cm_Mo_evening (l : Launch) (E : mE) (a : Nat → Nat) (ha : xInj a 10) (h : Hp) (sz : Nat) (p1 : Int32) (p2 : Int32) (p3 : Int32) {r0 : Int32} {h9 : Hp} (hlit : m_Mo_evening p1 p2 p3 h = some (r0, h9)) : Met l y_Mo_evening (Cond.code y_Mo_evening b_Mo_evening 11 (some .int) :: TB) rm_m_Mo_evening (fPc [.ref (a 0), .int p1, .int p2, .int p3] E.1 (mtys E) sz (mV E a h)) (fQi (fun _ : Nat => True) r0 E.1 (fun (_ : Nat) => mV E a h9) (xA a 10 sz)) 0 0 (xA a 10 sz) := by
  refine fl_startI (by decide) (Nat.le_of_ble_eq_true rfl) ?_
  intro p e s m args below meth c Q hx hb hml hown hts hsz hP hK hN ret ls hl
  subst hsz
  have hA : ∀ k, k < 10 → (xA a 10 s.heap.size) (a k) := xA_in
  have hS : va_S (xA a 10 s.heap.size) s.heap s.heap [] := va_S.rf
  have hl : lv_has ls 11 [(0, .ref (a 0)), (1, .int p1), (2, .int p2), (3, .int p3)] := hl
  have b163 : ∀ (k99 : Int32 → Int32 → Int32 → Hp → Option (Int32 × Hp)), (∀ (x4 : Int32) (x5 : Int32) (x6 : Int32) (h : Hp) (H : Heap) (locs : List Loc) (ls : Array Slot), k99 x4 x5 x6 h = some (r0, h9) → va_P E.1 xcl (mV E a h) H → va_S (xA a 10 s.heap.size) s.heap H locs → lv_has ls 11 [(0, .ref (a 0)), (1, .int p1), (2, .int p2), (3, .int p3), (4, .int x4), (5, .int x5), (6, .int x6)] → W p l e rm_m_Mo_evening s m args below meth c H locs 0 0 Q (F0 m 99 ls [])) → ∀ (x5 : Int32) (x6 : Int32) (x9 : Int32) (s0 : Int32) (s1 : Int32) (h : Hp) (H : Heap) (locs : List Loc) (ls : Array Slot), m_Mo_evening_b163 k99 p1 p2 p3 x5 x6 x9 s0 s1 h = some (r0, h9) → va_P E.1 xcl (mV E a h) H → va_S (xA a 10 s.heap.size) s.heap H locs → lv_has ls 11 [(0, .ref (a 0)), (1, .int p1), (2, .int p2), (3, .int p3), (5, .int x5), (6, .int x6), (9, .int x9)] → W p l e rm_m_Mo_evening s m args below meth c H locs 0 0 Q (F0 m 163 ls [.int s1, .int s0]) := by
    intro k99 hk99 x5 x6 x9 s0 s1 h H locs ls hlit hP hS hl
    refine lv_iadd hx hb d_Mo_evening_163 ?_
    obtain ⟨y164, ey164, hlit⟩ := bindS hlit
    refine topn ey164 ?_
    refine lv_istore (lv' := [(4, .int y164), (0, .ref (a 0)), (1, .int p1), (2, .int p2), (3, .int p3), (5, .int x5), (6, .int x6), (9, .int x9)]) hx hb d_Mo_evening_164 hl (by decide) rfl (fun ls hl => ?_)
    refine lv_iload hx hb d_Mo_evening_166 (lv_at hl 7 rfl) ?_
    refine lv_bipush (v := (8 : Int32)) hx hb d_Mo_evening_168 (by decide) ?_
    refine lv_idiv hx hb d_Mo_evening_170 (by decide) ?_
    refine lv_aload_n hx hb d_Mo_evening_171 rfl (lv_at hl 1 rfl) ?_
    refine mg_Mo_2 hx hb hts hown hK hP q673 d_Mo_evening_172 ?_
    refine lv_iconst (v := (1 : Int32)) hx hb d_Mo_evening_175 (by decide) ?_
    refine mald2 hx hb hK hP (j := 1) rfl (vpin_c (by decide)) d_Mo_evening_176 ?_
    obtain ⟨g177, hlit⟩ := gdP _ hlit
    refine lv_irem hx hb d_Mo_evening_177 g177 ?_
    obtain ⟨y178, ey178, hlit⟩ := bindS hlit
    refine topn ey178 ?_
    refine lv_istore (lv' := [(10, .int y178), (4, .int y164), (0, .ref (a 0)), (1, .int p1), (2, .int p2), (3, .int p3), (5, .int x5), (6, .int x6), (9, .int x9)]) hx hb d_Mo_evening_178 hl (by decide) rfl (fun ls hl => ?_)
    refine lv_aload_n hx hb d_Mo_evening_180 rfl (lv_at hl 2 rfl) ?_
    refine mg_Mo_14 hx hb hts hown hK hP q685 d_Mo_evening_181 ?_
    refine lv_iload hx hb d_Mo_evening_184 (lv_at hl 0 rfl) ?_
    obtain ⟨g186, hlit⟩ := gdP _ hlit
    refine mald9 hx hb hK hP (j := (y178).toNatClampNeg) rfl (vpin_c g186) d_Mo_evening_186 ?_
    refine lv_if_le (tgt := 246) hx hb d_Mo_evening_187 (by decide) (fun c187 => ?_) (fun c187 => ?_)
    · have hlit := brP _ hlit c187
      refine lv_iinc (v := (x6 + (1 : Int32))) (lv' := [(6, .int (x6 + (1 : Int32))), (10, .int y178), (4, .int y164), (0, .ref (a 0)), (1, .int p1), (2, .int p2), (3, .int p3), (5, .int x5), (9, .int x9)]) hx hb d_Mo_evening_246 hl (k := 7) rfl rfl (by decide) rfl (fun ls hl => ?_)
      refine lv_goto (tgt := 99) hx hb d_Mo_evening_249 (by decide) ?_
      exact hk99 y164 x5 (x6 + (1 : Int32)) h _ _ _ hlit hP hS (lv_sub hl [3, 4, 5, 6, 2, 7, 0] rfl)
    · have hlit := brN _ hlit c187
      refine lv_aload_n hx hb d_Mo_evening_190 rfl (lv_at hl 2 rfl) ?_
      refine lv_iload hx hb d_Mo_evening_191 (lv_at hl 6 rfl) ?_
      obtain ⟨r193, hl193, hlit⟩ := bindS hlit
      refine fCallI (fRunV (As := [.int x5]) (rest := []) (q0 := 0) (ci := 8) hx hb hml hown hts hK hN hP (cm_Mo_leftBy l E a ha h _ x5 (r0 := r193) hl193) q762 q763 q35 q61 q764 hd_m_Mo_leftBy rfl rfl ⟨Nat.le_of_ble_eq_true rfl, Nat.le_of_ble_eq_true rfl⟩ me_0 rfl rfl rfl hl.1 rfl (Nat.le_of_ble_eq_true rfl) d_Mo_evening_193 ⟨Nat.zero_le _, Nat.zero_le _⟩) hS (xA_up hS.1) (fun _ H locs hu193 hP hS _ _ => ?_)
      have hP : va_P E.1 xcl (mV E a h) H := hP
      obtain ⟨r196, hl196, hlit⟩ := bindS hlit
      refine fCallI (fRunS (As := [.int r193]) (rest := []) hx hb hml hown hts hK hN hP (cm_Mo_ones l E a ha h _ r193 (r0 := r196) hl196) q794 q795 q61 q796 hd_m_Mo_ones rfl rfl ⟨Nat.le_of_ble_eq_true rfl, Nat.le_of_ble_eq_true rfl⟩ rfl hl.1 rfl (Nat.le_of_ble_eq_true rfl) d_Mo_evening_196 ⟨Nat.zero_le _, Nat.zero_le _⟩) hS (xA_up hS.1) (fun _ H locs hu196 hP hS _ _ => ?_)
      have hP : va_P E.1 xcl (mV E a h) H := hP
      refine lv_iconst (v := (1 : Int32)) hx hb d_Mo_evening_199 (by decide) ?_
      refine lv_icmp_le (tgt := 246) hx hb d_Mo_evening_200 (by decide) (fun c200 => ?_) (fun c200 => ?_)
      · have hlit := brP _ hlit c200
        refine lv_iinc (v := (x6 + (1 : Int32))) (lv' := [(6, .int (x6 + (1 : Int32))), (10, .int y178), (4, .int y164), (0, .ref (a 0)), (1, .int p1), (2, .int p2), (3, .int p3), (5, .int x5), (9, .int x9)]) hx hb d_Mo_evening_246 hl (k := 7) rfl rfl (by decide) rfl (fun ls hl => ?_)
        refine lv_goto (tgt := 99) hx hb d_Mo_evening_249 (by decide) ?_
        exact hk99 y164 x5 (x6 + (1 : Int32)) h _ _ _ hlit hP hS (lv_sub hl [3, 4, 5, 6, 2, 7, 0] rfl)
      · have hlit := brN _ hlit c200
        refine lv_iload hx hb d_Mo_evening_203 (lv_at hl 8 rfl) ?_
        refine lv_sipush (v := (128 : Int32)) hx hb d_Mo_evening_205 (by decide) ?_
        refine lv_idiv hx hb d_Mo_evening_208 (by decide) ?_
        refine lv_iconst (v := (3 : Int32)) hx hb d_Mo_evening_209 (by decide) ?_
        refine lv_irem hx hb d_Mo_evening_210 (by decide) ?_
        refine lv_if_ne (tgt := 246) hx hb d_Mo_evening_211 (by decide) (fun c211 => ?_) (fun c211 => ?_)
        · have hlit := brN _ hlit c211
          refine lv_iinc (v := (x6 + (1 : Int32))) (lv' := [(6, .int (x6 + (1 : Int32))), (10, .int y178), (4, .int y164), (0, .ref (a 0)), (1, .int p1), (2, .int p2), (3, .int p3), (5, .int x5), (9, .int x9)]) hx hb d_Mo_evening_246 hl (k := 7) rfl rfl (by decide) rfl (fun ls hl => ?_)
          refine lv_goto (tgt := 99) hx hb d_Mo_evening_249 (by decide) ?_
          exact hk99 y164 x5 (x6 + (1 : Int32)) h _ _ _ hlit hP hS (lv_sub hl [3, 4, 5, 6, 2, 7, 0] rfl)
        · have hlit := brP _ hlit c211
          refine lv_iload hx hb d_Mo_evening_214 (lv_at hl 6 rfl) ?_
          refine lv_iconst (v := (1 : Int32)) hx hb d_Mo_evening_216 (by decide) ?_
          refine lv_aload_n hx hb d_Mo_evening_217 rfl (lv_at hl 2 rfl) ?_
          refine lv_iload hx hb d_Mo_evening_218 (lv_at hl 0 rfl) ?_
          refine lv_aload_n hx hb d_Mo_evening_220 rfl (lv_at hl 2 rfl) ?_
          refine lv_iload hx hb d_Mo_evening_221 (lv_at hl 6 rfl) ?_
          obtain ⟨r223, hl223, hlit⟩ := bindS hlit
          refine fCallI (fRunV (As := [.int x5]) (rest := [.int y178, .ref (a 0), .int (1 : Int32), .int x5]) (q0 := 0) (ci := 8) hx hb hml hown hts hK hN hP (cm_Mo_leftBy l E a ha h _ x5 (r0 := r223) hl223) q762 q763 q35 q61 q764 hd_m_Mo_leftBy rfl rfl ⟨Nat.le_of_ble_eq_true rfl, Nat.le_of_ble_eq_true rfl⟩ me_0 rfl rfl rfl hl.1 rfl (Nat.le_of_ble_eq_true rfl) d_Mo_evening_223 ⟨Nat.zero_le _, Nat.zero_le _⟩) hS (xA_up hS.1) (fun _ H locs hu223 hP hS _ _ => ?_)
          have hP : va_P E.1 xcl (mV E a h) H := hP
          refine lv_iload hx hb d_Mo_evening_226 (lv_at hl 1 rfl) ?_
          obtain ⟨r228, hl228, hlit⟩ := bindS hlit
          refine fCallI (fRunV (As := [.int y178, .int r223, .int y164]) (rest := [.int (1 : Int32), .int x5]) (q0 := 0) (ci := 8) hx hb hml hown hts hK hN hP (cm_Mo_leastOf l E a ha h _ y178 r223 y164 (r0 := r228) hl228) q844 q845 q45 q61 q846 hd_m_Mo_leastOf rfl rfl ⟨Nat.le_of_ble_eq_true rfl, Nat.le_of_ble_eq_true rfl⟩ me_0 rfl rfl rfl hl.1 rfl (Nat.le_of_ble_eq_true rfl) d_Mo_evening_228 ⟨Nat.zero_le _, Nat.zero_le _⟩) hS (xA_up hS.1) (fun _ H locs hu228 hP hS _ _ => ?_)
          have hP : va_P E.1 xcl (mV E a h) H := hP
          refine lv_ishl hx hb d_Mo_evening_231 ?_
          refine lv_ior hx hb d_Mo_evening_232 ?_
          obtain ⟨y233, ey233, hlit⟩ := bindS hlit
          refine topn ey233 ?_
          refine lv_istore (lv' := [(5, .int y233), (10, .int y178), (4, .int y164), (0, .ref (a 0)), (1, .int p1), (2, .int p2), (3, .int p3), (6, .int x6), (9, .int x9)]) hx hb d_Mo_evening_233 hl (by decide) rfl (fun ls hl => ?_)
          refine lv_aload_n hx hb d_Mo_evening_235 rfl (lv_at hl 3 rfl) ?_
          refine mg_Mo_14 hx hb hts hown hK hP q685 d_Mo_evening_236 ?_
          refine lv_iload hx hb d_Mo_evening_239 (lv_at hl 1 rfl) ?_
          refine lv_dup2_11 hx hb d_Mo_evening_241 rfl rfl ?_
          obtain ⟨g242, hlit⟩ := gdP _ hlit
          refine mald9 hx hb hK hP (j := (y178).toNatClampNeg) rfl (vpin_c g242) d_Mo_evening_242 ?_
          refine lv_iconst (v := (1 : Int32)) hx hb d_Mo_evening_243 (by decide) ?_
          refine lv_isub hx hb d_Mo_evening_244 ?_
          obtain ⟨g245, hlit⟩ := gdP _ hlit
          refine mast9 hx hb hK hP ha hA hS (j := (y178).toNatClampNeg) rfl (vpin_c g245) d_Mo_evening_245 (fun H locs hP hS => ?_)
          obtain ⟨h_245, eh_245, hlit⟩ := bindS hlit
          rw [Option.some.inj eh_245] at hP
          refine lv_iinc (v := (x6 + (1 : Int32))) (lv' := [(6, .int (x6 + (1 : Int32))), (5, .int y233), (10, .int y178), (4, .int y164), (0, .ref (a 0)), (1, .int p1), (2, .int p2), (3, .int p3), (9, .int x9)]) hx hb d_Mo_evening_246 hl (k := 7) rfl rfl (by decide) rfl (fun ls hl => ?_)
          refine lv_goto (tgt := 99) hx hb d_Mo_evening_249 (by decide) ?_
          exact hk99 y164 y233 (x6 + (1 : Int32)) h_245 _ _ _ hlit hP hS (lv_sub hl [4, 5, 6, 7, 3, 1, 0] rfl)
  have b99 : ∀ (n : Nat), ∀ (x4 : Int32) (x5 : Int32) (x6 : Int32) (h : Hp) (H : Heap) (locs : List Loc) (ls : Array Slot), m_Mo_evening_b99 p1 p2 p3 n x4 x5 x6 h = some (r0, h9) → va_P E.1 xcl (mV E a h) H → va_S (xA a 10 s.heap.size) s.heap H locs → lv_has ls 11 [(0, .ref (a 0)), (1, .int p1), (2, .int p2), (3, .int p3), (4, .int x4), (5, .int x5), (6, .int x6)] → W p l e rm_m_Mo_evening s m args below meth c H locs 0 0 Q (F0 m 99 ls []) := by
    intro n
    induction n with
    | zero => intro x4 x5 x6 h H locs ls hlit hP hS hl; exact nnF hlit
    | succ n ih =>
      intro x4 x5 x6 h H locs ls hlit hP hS hl
      refine lv_iload hx hb d_Mo_evening_99 (lv_at hl 6 rfl) ?_
      refine lv_iload_n hx hb d_Mo_evening_101 rfl (lv_at hl 2 rfl) ?_
      refine lv_icmp_ge (tgt := 252) hx hb d_Mo_evening_102 (by decide) (fun c102 => ?_) (fun c102 => ?_)
      · have hlit := brP _ hlit c102
        refine lv_iload_n hx hb d_Mo_evening_252 rfl (lv_at hl 3 rfl) ?_
        refine lv_if_ne (tgt := 265) hx hb d_Mo_evening_253 (by decide) (fun c253 => ?_) (fun c253 => ?_)
        · have hlit := brN _ hlit c253
          refine lv_aload_n hx hb d_Mo_evening_265 rfl (lv_at hl 0 rfl) ?_
          refine lv_aload_n hx hb d_Mo_evening_266 rfl (lv_at hl 0 rfl) ?_
          refine lv_iload hx hb d_Mo_evening_267 (lv_at hl 5 rfl) ?_
          obtain ⟨r269, hl269, hlit⟩ := bindS hlit
          refine fCallI (fRunV (As := [.int x5]) (rest := [.ref (a 0)]) (q0 := 0) (ci := 8) hx hb hml hown hts hK hN hP (cm_Mo_leftBy l E a ha h _ x5 (r0 := r269) hl269) q762 q763 q35 q61 q764 hd_m_Mo_leftBy rfl rfl ⟨Nat.le_of_ble_eq_true rfl, Nat.le_of_ble_eq_true rfl⟩ me_0 rfl rfl rfl hl.1 rfl (Nat.le_of_ble_eq_true rfl) d_Mo_evening_269 ⟨Nat.zero_le _, Nat.zero_le _⟩) hS (xA_up hS.1) (fun _ H locs hu269 hP hS _ _ => ?_)
          have hP : va_P E.1 xcl (mV E a h) H := hP
          refine lv_iload hx hb d_Mo_evening_272 (lv_at hl 4 rfl) ?_
          refine lv_bipush (v := (-4 : Int32)) hx hb d_Mo_evening_274 (by decide) ?_
          obtain ⟨r276, hl276, hlit⟩ := bindS hlit
          refine fCallI (fRunV (As := [.int r269, .int x4, .int (-4 : Int32)]) (rest := []) (q0 := 0) (ci := 8) hx hb hml hown hts hK hN hP (cm_Mo_mostToAll l E a ha h _ r269 x4 (-4 : Int32) (r0 := r276) hl276) q812 q813 q41 q61 q814 hd_m_Mo_mostToAll rfl rfl ⟨Nat.le_of_ble_eq_true rfl, Nat.le_of_ble_eq_true rfl⟩ me_0 rfl rfl rfl hl.1 rfl (Nat.le_of_ble_eq_true rfl) d_Mo_evening_276 ⟨Nat.zero_le _, Nat.zero_le _⟩) hS (xA_up hS.1) (fun _ H locs hu276 hP hS _ _ => ?_)
          have hP : va_P E.1 xcl (mV E a h) H := hP
          cases hlit
          exact ret 0 _ _ _ _ trivial hP hS rfl d_Mo_evening_279
        · have hlit := brP _ hlit c253
          refine lv_aload_n hx hb d_Mo_evening_256 rfl (lv_at hl 0 rfl) ?_
          refine lv_iload hx hb d_Mo_evening_257 (lv_at hl 5 rfl) ?_
          obtain ⟨r259, hl259, hlit⟩ := bindS hlit
          refine fCallI (fRunV (As := [.int x5]) (rest := []) (q0 := 0) (ci := 8) hx hb hml hown hts hK hN hP (cm_Mo_leftBy l E a ha h _ x5 (r0 := r259) hl259) q762 q763 q35 q61 q764 hd_m_Mo_leftBy rfl rfl ⟨Nat.le_of_ble_eq_true rfl, Nat.le_of_ble_eq_true rfl⟩ me_0 rfl rfl rfl hl.1 rfl (Nat.le_of_ble_eq_true rfl) d_Mo_evening_259 ⟨Nat.zero_le _, Nat.zero_le _⟩) hS (xA_up hS.1) (fun _ H locs hu259 hP hS _ _ => ?_)
          have hP : va_P E.1 xcl (mV E a h) H := hP
          refine lv_goto (tgt := 279) hx hb d_Mo_evening_262 (by decide) ?_
          cases hlit
          exact ret 0 _ _ _ _ trivial hP hS rfl d_Mo_evening_279
      · have hlit := brN _ hlit c102
        refine lv_ldc2 (v := (7919 : Int64)) hx hb hown (hts _ q902) d_Mo_evening_105 ?_
        refine lv_iload_n hx hb d_Mo_evening_108 rfl (lv_at hl 1 rfl) ?_
        refine lv_i2l (v := p1.toInt64) hx hb d_Mo_evening_109 rfl ?_
        refine lv_lmul hx hb d_Mo_evening_110 ?_
        refine lv_ldc2 (v := (6151 : Int64)) hx hb hown (hts _ q903) d_Mo_evening_111 ?_
        refine lv_iload hx hb d_Mo_evening_114 (lv_at hl 6 rfl) ?_
        refine lv_i2l (v := x6.toInt64) hx hb d_Mo_evening_116 rfl ?_
        refine lv_lmul hx hb d_Mo_evening_117 ?_
        refine lv_ladd hx hb d_Mo_evening_118 ?_
        refine lv_lconst (v := (1 : Int64)) hx hb d_Mo_evening_119 (by decide) ?_
        refine lv_ladd hx hb d_Mo_evening_120 ?_
        obtain ⟨y121, ey121, hlit⟩ := bindS hlit
        refine topnL ey121 ?_
        refine lv_lstore (lv' := [(7, .long y121), (0, .ref (a 0)), (1, .int p1), (2, .int p2), (3, .int p3), (4, .int x4), (5, .int x5), (6, .int x6)]) hx hb d_Mo_evening_121 hl (by decide) rfl (fun ls hl => ?_)
        refine lv_lload hx hb d_Mo_evening_123 (lv_at hl 0 rfl) ?_
        refine lv_lload hx hb d_Mo_evening_125 (lv_at hl 0 rfl) ?_
        refine lv_lmul hx hb d_Mo_evening_127 ?_
        refine lv_ldc2 (v := (65521 : Int64)) hx hb hown (hts _ q904) d_Mo_evening_128 ?_
        refine lv_lrem hx hb d_Mo_evening_131 (by decide) ?_
        refine lv_l2i (v := ((y121 * y121) - (y121 * y121) / (65521 : Int64) * (65521 : Int64)).toInt32) hx hb d_Mo_evening_132 rfl ?_
        refine lv_iconst (v := (2 : Int32)) hx hb d_Mo_evening_133 (by decide) ?_
        refine lv_idiv hx hb d_Mo_evening_134 (by decide) ?_
        obtain ⟨y135, ey135, hlit⟩ := bindS hlit
        refine topn ey135 ?_
        refine lv_istore (lv' := [(9, .int y135), (7, .long y121), (0, .ref (a 0)), (1, .int p1), (2, .int p2), (3, .int p3), (4, .int x4), (5, .int x5), (6, .int x6)]) hx hb d_Mo_evening_135 hl (by decide) rfl (fun ls hl => ?_)
        refine lv_iload hx hb d_Mo_evening_137 (lv_at hl 6 rfl) ?_
        refine lv_iload hx hb d_Mo_evening_139 (lv_at hl 6 rfl) ?_
        refine lv_iconst (v := (1 : Int32)) hx hb d_Mo_evening_141 (by decide) ?_
        refine lv_iadd hx hb d_Mo_evening_142 ?_
        refine lv_iload hx hb d_Mo_evening_143 (lv_at hl 0 rfl) ?_
        refine lv_iconst (v := (5 : Int32)) hx hb d_Mo_evening_145 (by decide) ?_
        refine lv_irem hx hb d_Mo_evening_146 (by decide) ?_
        refine lv_iadd hx hb d_Mo_evening_147 ?_
        refine lv_bipush (v := (99 : Int32)) hx hb d_Mo_evening_148 (by decide) ?_
        refine lv_icmp_le (tgt := 157) hx hb d_Mo_evening_150 (by decide) (fun c150 => ?_) (fun c150 => ?_)
        · have hlit := brP _ hlit c150
          refine lv_iconst (v := (1 : Int32)) hx hb d_Mo_evening_157 (by decide) ?_
          refine lv_iload hx hb d_Mo_evening_158 (lv_at hl 0 rfl) ?_
          refine lv_iconst (v := (5 : Int32)) hx hb d_Mo_evening_160 (by decide) ?_
          refine lv_irem hx hb d_Mo_evening_161 (by decide) ?_
          refine lv_iadd hx hb d_Mo_evening_162 ?_
          exact b163 (m_Mo_evening_b99 p1 p2 p3 n) ih x5 x6 y135 x4 ((1 : Int32) + (y135 - y135 / (5 : Int32) * (5 : Int32))) h _ _ _ hlit hP hS (lv_sub hl [2, 3, 4, 5, 7, 8, 0] rfl)
        · have hlit := brN _ hlit c150
          refine lv_iconst (v := (0 : Int32)) hx hb d_Mo_evening_153 (by decide) ?_
          refine lv_goto (tgt := 163) hx hb d_Mo_evening_154 (by decide) ?_
          exact b163 (m_Mo_evening_b99 p1 p2 p3 n) ih x5 x6 y135 x4 (0 : Int32) h _ _ _ hlit hP hS (lv_sub hl [2, 3, 4, 5, 7, 8, 0] rfl)
  have b67 : ∀ (n : Nat), ∀ (x4 : Int32) (x5 : Int32) (x6 : Int32) (h : Hp) (H : Heap) (locs : List Loc) (ls : Array Slot), m_Mo_evening_b67 p1 p2 p3 n x4 x5 x6 h = some (r0, h9) → va_P E.1 xcl (mV E a h) H → va_S (xA a 10 s.heap.size) s.heap H locs → lv_has ls 11 [(0, .ref (a 0)), (1, .int p1), (2, .int p2), (3, .int p3), (4, .int x4), (5, .int x5), (6, .int x6)] → W p l e rm_m_Mo_evening s m args below meth c H locs 0 0 Q (F0 m 67 ls []) := by
    intro n
    induction n with
    | zero => intro x4 x5 x6 h H locs ls hlit hP hS hl; exact nnF hlit
    | succ n ih =>
      intro x4 x5 x6 h H locs ls hlit hP hS hl
      refine lv_iload hx hb d_Mo_evening_67 (lv_at hl 6 rfl) ?_
      refine lv_bipush (v := (9 : Int32)) hx hb d_Mo_evening_69 (by decide) ?_
      refine lv_icmp_ge (tgt := 96) hx hb d_Mo_evening_71 (by decide) (fun c71 => ?_) (fun c71 => ?_)
      · have hlit := brP _ hlit c71
        refine lv_iconst (v := (0 : Int32)) hx hb d_Mo_evening_96 (by decide) ?_
        refine lv_istore (lv' := [(6, .int (0 : Int32)), (0, .ref (a 0)), (1, .int p1), (2, .int p2), (3, .int p3), (4, .int x4), (5, .int x5)]) hx hb d_Mo_evening_97 hl (by decide) rfl (fun ls hl => ?_)
        exact b99 FU x4 x5 (0 : Int32) h _ _ _ hlit hP hS (lv_sub hl [1, 2, 3, 4, 5, 6, 0] rfl)
      · have hlit := brN _ hlit c71
        refine lv_aload_n hx hb d_Mo_evening_74 rfl (lv_at hl 0 rfl) ?_
        refine mg_Mo_14 hx hb hts hown hK hP q685 d_Mo_evening_75 ?_
        refine lv_iload hx hb d_Mo_evening_78 (lv_at hl 6 rfl) ?_
        refine lv_aload_n hx hb d_Mo_evening_80 rfl (lv_at hl 0 rfl) ?_
        refine mg_Mo_5 hx hb hts hown hK hP q676 d_Mo_evening_81 ?_
        refine lv_iconst (v := (3 : Int32)) hx hb d_Mo_evening_84 (by decide) ?_
        refine lv_iload hx hb d_Mo_evening_85 (lv_at hl 6 rfl) ?_
        refine lv_iadd hx hb d_Mo_evening_87 ?_
        obtain ⟨g88, hlit⟩ := gdP _ hlit
        refine mald4 hx hb hK hP (j := (((3 : Int32) + x6)).toNatClampNeg) rfl (vpin_c g88) d_Mo_evening_88 ?_
        obtain ⟨g89, hlit⟩ := gdP _ hlit
        refine mast9 hx hb hK hP ha hA hS (j := (x6).toNatClampNeg) rfl (vpin_c g89) d_Mo_evening_89 (fun H locs hP hS => ?_)
        obtain ⟨h_89, eh_89, hlit⟩ := bindS hlit
        rw [Option.some.inj eh_89] at hP
        refine lv_iinc (v := (x6 + (1 : Int32))) (lv' := [(6, .int (x6 + (1 : Int32))), (0, .ref (a 0)), (1, .int p1), (2, .int p2), (3, .int p3), (4, .int x4), (5, .int x5)]) hx hb d_Mo_evening_90 hl (k := 6) rfl rfl (by decide) rfl (fun ls hl => ?_)
        refine lv_goto (tgt := 67) hx hb d_Mo_evening_93 (by decide) ?_
        exact ih x4 x5 (x6 + (1 : Int32)) h_89 _ _ _ hlit hP hS (lv_sub hl [1, 2, 3, 4, 5, 6, 0] rfl)
  refine lv_iload_n hx hb d_Mo_evening_0 rfl (lv_at hl 1 rfl) ?_
  refine lv_i2l (v := p1.toInt64) hx hb d_Mo_evening_1 rfl ?_
  refine lv_lconst (v := (0 : Int64)) hx hb d_Mo_evening_2 (by decide) ?_
  refine lv_ldc2 (v := (9999 : Int64)) hx hb hown (hts _ q900) d_Mo_evening_3 ?_
  obtain ⟨r6, hl6, hlit⟩ := bindS hlit
  refine fCallI (fRunS (As := [.long (p1.toInt64), .long (0 : Int64), .long (9999 : Int64)]) (rest := []) hx hb hml hown hts hK hN hP (cm_Mo_in l E a ha h _ (p1.toInt64) (0 : Int64) (9999 : Int64) (r0 := r6) hl6) q707 q708 q61 q709 hd_m_Mo_in rfl rfl ⟨Nat.le_of_ble_eq_true rfl, Nat.le_of_ble_eq_true rfl⟩ rfl hl.1 rfl (Nat.le_of_ble_eq_true rfl) d_Mo_evening_6 ⟨Nat.zero_le _, Nat.zero_le _⟩) hS (xA_up hS.1) (fun _ H locs hu6 hP hS _ _ => ?_)
  have hP : va_P E.1 xcl (mV E a h) H := hP
  refine lv_if_eq (tgt := 34) hx hb d_Mo_evening_9 (by decide) (fun c9 => ?_) (fun c9 => ?_)
  · have hlit := brP _ hlit c9
    refine lv_iconst (v := (-1 : Int32)) hx hb d_Mo_evening_34 (by decide) ?_
    cases hlit
    exact ret 0 _ _ _ _ trivial hP hS rfl d_Mo_evening_35
  · have hlit := brN _ hlit c9
    refine lv_iload_n hx hb d_Mo_evening_12 rfl (lv_at hl 2 rfl) ?_
    refine lv_i2l (v := p2.toInt64) hx hb d_Mo_evening_13 rfl ?_
    refine lv_lconst (v := (1 : Int64)) hx hb d_Mo_evening_14 (by decide) ?_
    refine lv_ldc2 (v := (20 : Int64)) hx hb hown (hts _ q901) d_Mo_evening_15 ?_
    obtain ⟨r18, hl18, hlit⟩ := bindS hlit
    refine fCallI (fRunS (As := [.long (p2.toInt64), .long (1 : Int64), .long (20 : Int64)]) (rest := []) hx hb hml hown hts hK hN hP (cm_Mo_in l E a ha h _ (p2.toInt64) (1 : Int64) (20 : Int64) (r0 := r18) hl18) q707 q708 q61 q709 hd_m_Mo_in rfl rfl ⟨Nat.le_of_ble_eq_true rfl, Nat.le_of_ble_eq_true rfl⟩ rfl hl.1 rfl (Nat.le_of_ble_eq_true rfl) d_Mo_evening_18 ⟨Nat.zero_le _, Nat.zero_le _⟩) hS (xA_up hS.1) (fun _ H locs hu18 hP hS _ _ => ?_)
    have hP : va_P E.1 xcl (mV E a h) H := hP
    refine lv_if_eq (tgt := 34) hx hb d_Mo_evening_21 (by decide) (fun c21 => ?_) (fun c21 => ?_)
    · have hlit := brP _ hlit c21
      refine lv_iconst (v := (-1 : Int32)) hx hb d_Mo_evening_34 (by decide) ?_
      cases hlit
      exact ret 0 _ _ _ _ trivial hP hS rfl d_Mo_evening_35
    · have hlit := brN _ hlit c21
      refine lv_iload_n hx hb d_Mo_evening_24 rfl (lv_at hl 3 rfl) ?_
      refine lv_i2l (v := p3.toInt64) hx hb d_Mo_evening_25 rfl ?_
      refine lv_lconst (v := (0 : Int64)) hx hb d_Mo_evening_26 (by decide) ?_
      refine lv_lconst (v := (1 : Int64)) hx hb d_Mo_evening_27 (by decide) ?_
      obtain ⟨r28, hl28, hlit⟩ := bindS hlit
      refine fCallI (fRunS (As := [.long (p3.toInt64), .long (0 : Int64), .long (1 : Int64)]) (rest := []) hx hb hml hown hts hK hN hP (cm_Mo_in l E a ha h _ (p3.toInt64) (0 : Int64) (1 : Int64) (r0 := r28) hl28) q707 q708 q61 q709 hd_m_Mo_in rfl rfl ⟨Nat.le_of_ble_eq_true rfl, Nat.le_of_ble_eq_true rfl⟩ rfl hl.1 rfl (Nat.le_of_ble_eq_true rfl) d_Mo_evening_28 ⟨Nat.zero_le _, Nat.zero_le _⟩) hS (xA_up hS.1) (fun _ H locs hu28 hP hS _ _ => ?_)
      have hP : va_P E.1 xcl (mV E a h) H := hP
      refine lv_if_ne (tgt := 36) hx hb d_Mo_evening_31 (by decide) (fun c31 => ?_) (fun c31 => ?_)
      · have hlit := brN _ hlit c31
        refine lv_aload_n hx hb d_Mo_evening_36 rfl (lv_at hl 0 rfl) ?_
        refine mg_Mo_5 hx hb hts hown hK hP q676 d_Mo_evening_37 ?_
        refine lv_iconst (v := (2 : Int32)) hx hb d_Mo_evening_40 (by decide) ?_
        refine mald4 hx hb hK hP (j := 2) rfl (vpin_c (by decide)) d_Mo_evening_41 ?_
        refine lv_if_lt (tgt := 48) hx hb d_Mo_evening_42 (by decide) (fun c42 => ?_) (fun c42 => ?_)
        · have hlit := brP _ hlit c42
          refine lv_aload_n hx hb d_Mo_evening_48 rfl (lv_at hl 0 rfl) ?_
          refine mg_Mo_5 hx hb hts hown hK hP q676 d_Mo_evening_49 ?_
          refine lv_iconst (v := (0 : Int32)) hx hb d_Mo_evening_52 (by decide) ?_
          refine mald4 hx hb hK hP (j := 0) rfl (vpin_c (by decide)) d_Mo_evening_53 ?_
          obtain ⟨y54, ey54, hlit⟩ := bindS hlit
          refine topn ey54 ?_
          refine lv_istore (lv' := [(4, .int y54), (0, .ref (a 0)), (1, .int p1), (2, .int p2), (3, .int p3)]) hx hb d_Mo_evening_54 hl (by decide) rfl (fun ls hl => ?_)
          refine lv_aload_n hx hb d_Mo_evening_56 rfl (lv_at hl 1 rfl) ?_
          refine mg_Mo_5 hx hb hts hown hK hP q676 d_Mo_evening_57 ?_
          refine lv_iconst (v := (1 : Int32)) hx hb d_Mo_evening_60 (by decide) ?_
          refine mald4 hx hb hK hP (j := 1) rfl (vpin_c (by decide)) d_Mo_evening_61 ?_
          obtain ⟨y62, ey62, hlit⟩ := bindS hlit
          refine topn ey62 ?_
          refine lv_istore (lv' := [(5, .int y62), (4, .int y54), (0, .ref (a 0)), (1, .int p1), (2, .int p2), (3, .int p3)]) hx hb d_Mo_evening_62 hl (by decide) rfl (fun ls hl => ?_)
          refine lv_iconst (v := (0 : Int32)) hx hb d_Mo_evening_64 (by decide) ?_
          refine lv_istore (lv' := [(6, .int (0 : Int32)), (5, .int y62), (4, .int y54), (0, .ref (a 0)), (1, .int p1), (2, .int p2), (3, .int p3)]) hx hb d_Mo_evening_65 hl (by decide) rfl (fun ls hl => ?_)
          exact b67 FU y54 y62 (0 : Int32) h _ _ _ hlit hP hS (lv_sub hl [3, 4, 5, 6, 2, 1, 0] rfl)
        · have hlit := brN _ hlit c42
          refine lv_bipush (v := (-2 : Int32)) hx hb d_Mo_evening_45 (by decide) ?_
          cases hlit
          exact ret 0 _ _ _ _ trivial hP hS rfl d_Mo_evening_47
      · have hlit := brP _ hlit c31
        refine lv_iconst (v := (-1 : Int32)) hx hb d_Mo_evening_34 (by decide) ?_
        cases hlit
        exact ret 0 _ _ _ _ trivial hP hS rfl d_Mo_evening_35

abbrev rm_m_Mo_keep : Room := { frames := 0, cells := 0, slots := 0, locals := 0 }
theorem hd_m_Mo_keep : y_Mo_keep.cls ≠ "java/lang/invoke/MethodHandle" ∧ y_Mo_keep.cls ≠ "java/lang/invoke/VarHandle" ∧ (parseMethodDescriptor y_Mo_keep.desc).map (fun d => d.parameters.length) = some 0 := by decide +kernel
set_option maxHeartbeats 4000000 in
set_option maxRecDepth 100000 in
theorem cm_Mo_keep (l : Launch) (E : mE) (a : Nat → Nat) (ha : xInj a 10) (h : Hp) (sz : Nat) {r0 : Int32} {h9 : Hp} (hlit : m_Mo_keep h = some (r0, h9)) : Met l y_Mo_keep (Cond.code y_Mo_keep b_Mo_keep 2 (some .int) :: TB) rm_m_Mo_keep (fPc [.ref (a 0)] E.1 (mtys E) sz (mV E a h)) (fQi (fun _ : Nat => True) r0 E.1 (fun (_ : Nat) => mV E a h9) (xA a 10 sz)) 0 0 (xA a 10 sz) := by
  refine fl_startI (by decide) (Nat.le_of_ble_eq_true rfl) ?_
  intro p e s m args below meth c Q hx hb hml hown hts hsz hP hK hN ret ls hl
  subst hsz
  have hA : ∀ k, k < 10 → (xA a 10 s.heap.size) (a k) := xA_in
  have hS : va_S (xA a 10 s.heap.size) s.heap s.heap [] := va_S.rf
  have hl : lv_has ls 2 [(0, .ref (a 0))] := hl
  have b13 : ∀ (n : Nat), ∀ (x1 : Int32) (h : Hp) (H : Heap) (locs : List Loc) (ls : Array Slot), m_Mo_keep_b13 n x1 h = some (r0, h9) → va_P E.1 xcl (mV E a h) H → va_S (xA a 10 s.heap.size) s.heap H locs → lv_has ls 2 [(0, .ref (a 0)), (1, .int x1)] → W p l e rm_m_Mo_keep s m args below meth c H locs 0 0 Q (F0 m 13 ls []) := by
    intro n
    induction n with
    | zero => intro x1 h H locs ls hlit hP hS hl; exact nnF hlit
    | succ n ih =>
      intro x1 h H locs ls hlit hP hS hl
      refine lv_iload_n hx hb d_Mo_keep_13 rfl (lv_at hl 1 rfl) ?_
      refine lv_bipush (v := (12 : Int32)) hx hb d_Mo_keep_14 (by decide) ?_
      refine lv_icmp_ge (tgt := 45) hx hb d_Mo_keep_16 (by decide) (fun c16 => ?_) (fun c16 => ?_)
      · have hlit := brP _ hlit c16
        refine lv_aload_n hx hb d_Mo_keep_45 rfl (lv_at hl 0 rfl) ?_
        refine lv_dup hx hb d_Mo_keep_46 rfl ?_
        refine mg_Mo_9 hx hb hts hown hK hP q680 d_Mo_keep_47 ?_
        refine lv_iconst (v := (1 : Int32)) hx hb d_Mo_keep_50 (by decide) ?_
        refine lv_iadd hx hb d_Mo_keep_51 ?_
        refine mp_Mo_9 hx hb hts hown hK hP ha hA hS q680 d_Mo_keep_52 (fun H locs hP hS => ?_)
        obtain ⟨h_52, eh_52, hlit⟩ := bindS hlit
        rw [Option.some.inj eh_52] at hP
        refine lv_aload_n hx hb d_Mo_keep_55 rfl (lv_at hl 0 rfl) ?_
        refine mg_Mo_9 hx hb hts hown hK hP q680 d_Mo_keep_56 ?_
        cases hlit
        exact ret 0 _ _ _ _ trivial hP hS rfl d_Mo_keep_59
      · have hlit := brN _ hlit c16
        refine lv_aload_n hx hb d_Mo_keep_19 rfl (lv_at hl 0 rfl) ?_
        refine mg_Mo_8 hx hb hts hown hK hP q679 d_Mo_keep_20 ?_
        refine lv_bipush (v := (12 : Int32)) hx hb d_Mo_keep_23 (by decide) ?_
        refine lv_aload_n hx hb d_Mo_keep_25 rfl (lv_at hl 0 rfl) ?_
        refine mg_Mo_9 hx hb hts hown hK hP q680 d_Mo_keep_26 ?_
        refine lv_imul hx hb d_Mo_keep_29 ?_
        refine lv_iload_n hx hb d_Mo_keep_30 rfl (lv_at hl 1 rfl) ?_
        refine lv_iadd hx hb d_Mo_keep_31 ?_
        refine lv_aload_n hx hb d_Mo_keep_32 rfl (lv_at hl 0 rfl) ?_
        refine mg_Mo_5 hx hb hts hown hK hP q676 d_Mo_keep_33 ?_
        refine lv_iload_n hx hb d_Mo_keep_36 rfl (lv_at hl 1 rfl) ?_
        obtain ⟨g37, hlit⟩ := gdP _ hlit
        refine mald4 hx hb hK hP (j := (x1).toNatClampNeg) rfl (vpin_c g37) d_Mo_keep_37 ?_
        obtain ⟨g38, hlit⟩ := gdP _ hlit
        refine mast6 hx hb hK hP ha hA hS (j := ((((12 : Int32) * (h 0 9)) + x1)).toNatClampNeg) rfl (vpin_c g38) d_Mo_keep_38 (fun H locs hP hS => ?_)
        obtain ⟨h_38, eh_38, hlit⟩ := bindS hlit
        rw [Option.some.inj eh_38] at hP
        refine lv_iinc (v := (x1 + (1 : Int32))) (lv' := [(1, .int (x1 + (1 : Int32))), (0, .ref (a 0))]) hx hb d_Mo_keep_39 hl (k := 1) rfl rfl (by decide) rfl (fun ls hl => ?_)
        refine lv_goto (tgt := 13) hx hb d_Mo_keep_42 (by decide) ?_
        exact ih (x1 + (1 : Int32)) h_38 _ _ _ hlit hP hS (lv_sub hl [1, 0] rfl)
  refine lv_aload_n hx hb d_Mo_keep_0 rfl (lv_at hl 0 rfl) ?_
  refine mg_Mo_9 hx hb hts hown hK hP q680 d_Mo_keep_1 ?_
  refine lv_iconst (v := (2 : Int32)) hx hb d_Mo_keep_4 (by decide) ?_
  refine lv_icmp_ne (tgt := 11) hx hb d_Mo_keep_5 (by decide) (fun c5 => ?_) (fun c5 => ?_)
  · have hlit := brN _ hlit c5
    refine lv_iconst (v := (0 : Int32)) hx hb d_Mo_keep_11 (by decide) ?_
    refine lv_istore_n (lv' := [(1, .int (0 : Int32)), (0, .ref (a 0))]) hx hb d_Mo_keep_12 rfl hl (by decide) rfl (fun ls hl => ?_)
    exact b13 FU (0 : Int32) h _ _ _ hlit hP hS (lv_sub hl [1, 0] rfl)
  · have hlit := brP _ hlit c5
    refine lv_bipush (v := (-3 : Int32)) hx hb d_Mo_keep_8 (by decide) ?_
    cases hlit
    exact ret 0 _ _ _ _ trivial hP hS rfl d_Mo_keep_10

abbrev rm_m_Mo_back : Room := { frames := 0, cells := 0, slots := 0, locals := 0 }
theorem hd_m_Mo_back : y_Mo_back.cls ≠ "java/lang/invoke/MethodHandle" ∧ y_Mo_back.cls ≠ "java/lang/invoke/VarHandle" ∧ (parseMethodDescriptor y_Mo_back.desc).map (fun d => d.parameters.length) = some 0 := by decide +kernel
set_option maxHeartbeats 4000000 in
set_option maxRecDepth 100000 in
theorem cm_Mo_back (l : Launch) (E : mE) (a : Nat → Nat) (ha : xInj a 10) (h : Hp) (sz : Nat) {r0 : Int32} {h9 : Hp} (hlit : m_Mo_back h = some (r0, h9)) : Met l y_Mo_back (Cond.code y_Mo_back b_Mo_back 2 (some .int) :: TB) rm_m_Mo_back (fPc [.ref (a 0)] E.1 (mtys E) sz (mV E a h)) (fQi (fun _ : Nat => True) r0 E.1 (fun (_ : Nat) => mV E a h9) (xA a 10 sz)) 0 0 (xA a 10 sz) := by
  refine fl_startI (by decide) (Nat.le_of_ble_eq_true rfl) ?_
  intro p e s m args below meth c Q hx hb hml hown hts hsz hP hK hN ret ls hl
  subst hsz
  have hA : ∀ k, k < 10 → (xA a 10 s.heap.size) (a k) := xA_in
  have hS : va_S (xA a 10 s.heap.size) s.heap s.heap [] := va_S.rf
  have hl : lv_has ls 2 [(0, .ref (a 0))] := hl
  have b22 : ∀ (n : Nat), ∀ (x1 : Int32) (h : Hp) (H : Heap) (locs : List Loc) (ls : Array Slot), m_Mo_back_b22 n x1 h = some (r0, h9) → va_P E.1 xcl (mV E a h) H → va_S (xA a 10 s.heap.size) s.heap H locs → lv_has ls 2 [(0, .ref (a 0)), (1, .int x1)] → W p l e rm_m_Mo_back s m args below meth c H locs 0 0 Q (F0 m 22 ls []) := by
    intro n
    induction n with
    | zero => intro x1 h H locs ls hlit hP hS hl; exact nnF hlit
    | succ n ih =>
      intro x1 h H locs ls hlit hP hS hl
      refine lv_iload_n hx hb d_Mo_back_22 rfl (lv_at hl 1 rfl) ?_
      refine lv_bipush (v := (12 : Int32)) hx hb d_Mo_back_23 (by decide) ?_
      refine lv_icmp_ge (tgt := 54) hx hb d_Mo_back_25 (by decide) (fun c25 => ?_) (fun c25 => ?_)
      · have hlit := brP _ hlit c25
        refine lv_aload_n hx hb d_Mo_back_54 rfl (lv_at hl 0 rfl) ?_
        refine lv_iconst (v := (0 : Int32)) hx hb d_Mo_back_55 (by decide) ?_
        refine mp_Mo_7 hx hb hts hown hK hP ha hA hS q678 d_Mo_back_56 (fun H locs hP hS => ?_)
        obtain ⟨h_56, eh_56, hlit⟩ := bindS hlit
        rw [Option.some.inj eh_56] at hP
        refine lv_aload_n hx hb d_Mo_back_59 rfl (lv_at hl 0 rfl) ?_
        refine mg_Mo_9 hx hb hts hown hK hP q680 d_Mo_back_60 ?_
        cases hlit
        exact ret 0 _ _ _ _ trivial hP hS rfl d_Mo_back_63
      · have hlit := brN _ hlit c25
        refine lv_aload_n hx hb d_Mo_back_28 rfl (lv_at hl 0 rfl) ?_
        refine mg_Mo_5 hx hb hts hown hK hP q676 d_Mo_back_29 ?_
        refine lv_iload_n hx hb d_Mo_back_32 rfl (lv_at hl 1 rfl) ?_
        refine lv_aload_n hx hb d_Mo_back_33 rfl (lv_at hl 0 rfl) ?_
        refine mg_Mo_8 hx hb hts hown hK hP q679 d_Mo_back_34 ?_
        refine lv_bipush (v := (12 : Int32)) hx hb d_Mo_back_37 (by decide) ?_
        refine lv_aload_n hx hb d_Mo_back_39 rfl (lv_at hl 0 rfl) ?_
        refine mg_Mo_9 hx hb hts hown hK hP q680 d_Mo_back_40 ?_
        refine lv_imul hx hb d_Mo_back_43 ?_
        refine lv_iload_n hx hb d_Mo_back_44 rfl (lv_at hl 1 rfl) ?_
        refine lv_iadd hx hb d_Mo_back_45 ?_
        obtain ⟨g46, hlit⟩ := gdP _ hlit
        refine mald6 hx hb hK hP (j := ((((12 : Int32) * (h 0 9)) + x1)).toNatClampNeg) rfl (vpin_c g46) d_Mo_back_46 ?_
        obtain ⟨g47, hlit⟩ := gdP _ hlit
        refine mast4 hx hb hK hP ha hA hS (j := (x1).toNatClampNeg) rfl (vpin_c g47) d_Mo_back_47 (fun H locs hP hS => ?_)
        obtain ⟨h_47, eh_47, hlit⟩ := bindS hlit
        rw [Option.some.inj eh_47] at hP
        refine lv_iinc (v := (x1 + (1 : Int32))) (lv' := [(1, .int (x1 + (1 : Int32))), (0, .ref (a 0))]) hx hb d_Mo_back_48 hl (k := 1) rfl rfl (by decide) rfl (fun ls hl => ?_)
        refine lv_goto (tgt := 22) hx hb d_Mo_back_51 (by decide) ?_
        exact ih (x1 + (1 : Int32)) h_47 _ _ _ hlit hP hS (lv_sub hl [1, 0] rfl)
  refine lv_aload_n hx hb d_Mo_back_0 rfl (lv_at hl 0 rfl) ?_
  refine mg_Mo_9 hx hb hts hown hK hP q680 d_Mo_back_1 ?_
  refine lv_if_ne (tgt := 10) hx hb d_Mo_back_4 (by decide) (fun c4 => ?_) (fun c4 => ?_)
  · have hlit := brN _ hlit c4
    refine lv_aload_n hx hb d_Mo_back_10 rfl (lv_at hl 0 rfl) ?_
    refine lv_dup hx hb d_Mo_back_11 rfl ?_
    refine mg_Mo_9 hx hb hts hown hK hP q680 d_Mo_back_12 ?_
    refine lv_iconst (v := (1 : Int32)) hx hb d_Mo_back_15 (by decide) ?_
    refine lv_isub hx hb d_Mo_back_16 ?_
    refine mp_Mo_9 hx hb hts hown hK hP ha hA hS q680 d_Mo_back_17 (fun H locs hP hS => ?_)
    obtain ⟨h_17, eh_17, hlit⟩ := bindS hlit
    rw [Option.some.inj eh_17] at hP
    refine lv_iconst (v := (0 : Int32)) hx hb d_Mo_back_20 (by decide) ?_
    refine lv_istore_n (lv' := [(1, .int (0 : Int32)), (0, .ref (a 0))]) hx hb d_Mo_back_21 rfl hl (by decide) rfl (fun ls hl => ?_)
    exact b22 FU (0 : Int32) h_17 _ _ _ hlit hP hS (lv_sub hl [1, 0] rfl)
  · have hlit := brP _ hlit c4
    refine lv_bipush (v := (-2 : Int32)) hx hb d_Mo_back_7 (by decide) ?_
    cases hlit
    exact ret 0 _ _ _ _ trivial hP hS rfl d_Mo_back_9

abbrev rm_m_Mo_count : Room := { frames := 1, cells := 0, slots := 0, locals := 22 }
theorem hd_m_Mo_count : y_Mo_count.cls ≠ "java/lang/invoke/MethodHandle" ∧ y_Mo_count.cls ≠ "java/lang/invoke/VarHandle" ∧ (parseMethodDescriptor y_Mo_count.desc).map (fun d => d.parameters.length) = some 1 := by decide +kernel
set_option maxHeartbeats 4000000 in
set_option maxRecDepth 100000 in
theorem cm_Mo_count (l : Launch) (E : mE) (a : Nat → Nat) (ha : xInj a 10) (h : Hp) (sz : Nat) (p1 : Int32) {r0 : Int32} (hlit : m_Mo_count p1 h = some r0) : Met l y_Mo_count (Cond.code y_Mo_count b_Mo_count 2 (some .int) :: TB) rm_m_Mo_count (fPc [.ref (a 0), .int p1] E.1 (mtys E) sz (mV E a h)) (fQi (fun _ : Nat => True) r0 E.1 (fun (_ : Nat) => mV E a h) (xA a 10 sz)) 0 0 (xA a 10 sz) := by
  refine fl_startI (by decide) (Nat.le_of_ble_eq_true rfl) ?_
  intro p e s m args below meth c Q hx hb hml hown hts hsz hP hK hN ret ls hl
  subst hsz
  have hA : ∀ k, k < 10 → (xA a 10 s.heap.size) (a k) := xA_in
  have hS : va_S (xA a 10 s.heap.size) s.heap s.heap [] := va_S.rf
  have hl : lv_has ls 2 [(0, .ref (a 0)), (1, .int p1)] := hl
  refine lv_iload_n hx hb d_Mo_count_0 rfl (lv_at hl 1 rfl) ?_
  by_cases c1_0 : p1 = 0
  · have hlit := brP _ hlit c1_0
    refine lv_tableIn (off := 51) (tgt := 52) hx hb d_Mo_count_1 (by rw [c1_0]; decide) (by rw [c1_0]; decide) (by rw [c1_0]; rfl) (by decide) ?_
    refine lv_aload_n hx hb d_Mo_count_52 rfl (lv_at hl 0 rfl) ?_
    refine mg_Mo_2 hx hb hts hown hK hP q673 d_Mo_count_53 ?_
    refine lv_iconst (v := (1 : Int32)) hx hb d_Mo_count_56 (by decide) ?_
    refine mald2 hx hb hK hP (j := 1) rfl (vpin_c (by decide)) d_Mo_count_57 ?_
    cases hlit
    exact ret 0 _ _ _ _ trivial hP hS rfl d_Mo_count_58
  · have hlit := brN _ hlit c1_0
    by_cases c1_1 : p1 = 1
    · have hlit := brP _ hlit c1_1
      refine lv_tableIn (off := 58) (tgt := 59) hx hb d_Mo_count_1 (by rw [c1_1]; decide) (by rw [c1_1]; decide) (by rw [c1_1]; rfl) (by decide) ?_
      refine lv_aload_n hx hb d_Mo_count_59 rfl (lv_at hl 0 rfl) ?_
      refine mg_Mo_2 hx hb hts hown hK hP q673 d_Mo_count_60 ?_
      refine lv_iconst (v := (0 : Int32)) hx hb d_Mo_count_63 (by decide) ?_
      refine mald2 hx hb hK hP (j := 0) rfl (vpin_c (by decide)) d_Mo_count_64 ?_
      cases hlit
      exact ret 0 _ _ _ _ trivial hP hS rfl d_Mo_count_65
    · have hlit := brN _ hlit c1_1
      by_cases c1_2 : p1 = 2
      · have hlit := brP _ hlit c1_2
        refine lv_tableIn (off := 65) (tgt := 66) hx hb d_Mo_count_1 (by rw [c1_2]; decide) (by rw [c1_2]; decide) (by rw [c1_2]; rfl) (by decide) ?_
        refine lv_aload_n hx hb d_Mo_count_66 rfl (lv_at hl 0 rfl) ?_
        refine mg_Mo_5 hx hb hts hown hK hP q676 d_Mo_count_67 ?_
        refine lv_iconst (v := (0 : Int32)) hx hb d_Mo_count_70 (by decide) ?_
        refine mald4 hx hb hK hP (j := 0) rfl (vpin_c (by decide)) d_Mo_count_71 ?_
        cases hlit
        exact ret 0 _ _ _ _ trivial hP hS rfl d_Mo_count_72
      · have hlit := brN _ hlit c1_2
        by_cases c1_3 : p1 = 3
        · have hlit := brP _ hlit c1_3
          refine lv_tableIn (off := 72) (tgt := 73) hx hb d_Mo_count_1 (by rw [c1_3]; decide) (by rw [c1_3]; decide) (by rw [c1_3]; rfl) (by decide) ?_
          refine lv_aload_n hx hb d_Mo_count_73 rfl (lv_at hl 0 rfl) ?_
          refine mg_Mo_5 hx hb hts hown hK hP q676 d_Mo_count_74 ?_
          refine lv_iconst (v := (1 : Int32)) hx hb d_Mo_count_77 (by decide) ?_
          refine mald4 hx hb hK hP (j := 1) rfl (vpin_c (by decide)) d_Mo_count_78 ?_
          obtain ⟨r79, hl79, hlit⟩ := bindS hlit
          refine fCallI (fRunS (As := [.int (h 4 1)]) (rest := []) hx hb hml hown hts hK hN hP (cm_Mo_ones l E a ha h _ (h 4 1) (r0 := r79) hl79) q794 q795 q61 q796 hd_m_Mo_ones rfl rfl ⟨Nat.le_of_ble_eq_true rfl, Nat.le_of_ble_eq_true rfl⟩ rfl hl.1 rfl (Nat.le_of_ble_eq_true rfl) d_Mo_count_79 ⟨Nat.zero_le _, Nat.zero_le _⟩) hS (xA_up hS.1) (fun _ H locs hu79 hP hS _ _ => ?_)
          have hP : va_P E.1 xcl (mV E a h) H := hP
          cases hlit
          exact ret 0 _ _ _ _ trivial hP hS rfl d_Mo_count_82
        · have hlit := brN _ hlit c1_3
          by_cases c1_4 : p1 = 4
          · have hlit := brP _ hlit c1_4
            refine lv_tableIn (off := 82) (tgt := 83) hx hb d_Mo_count_1 (by rw [c1_4]; decide) (by rw [c1_4]; decide) (by rw [c1_4]; rfl) (by decide) ?_
            refine lv_aload_n hx hb d_Mo_count_83 rfl (lv_at hl 0 rfl) ?_
            refine mg_Mo_5 hx hb hts hown hK hP q676 d_Mo_count_84 ?_
            refine lv_iconst (v := (2 : Int32)) hx hb d_Mo_count_87 (by decide) ?_
            refine mald4 hx hb hK hP (j := 2) rfl (vpin_c (by decide)) d_Mo_count_88 ?_
            cases hlit
            exact ret 0 _ _ _ _ trivial hP hS rfl d_Mo_count_89
          · have hlit := brN _ hlit c1_4
            by_cases c1_5 : p1 = 5
            · have hlit := brP _ hlit c1_5
              refine lv_tableIn (off := 89) (tgt := 90) hx hb d_Mo_count_1 (by rw [c1_5]; decide) (by rw [c1_5]; decide) (by rw [c1_5]; rfl) (by decide) ?_
              refine lv_aload_n hx hb d_Mo_count_90 rfl (lv_at hl 0 rfl) ?_
              refine mg_Mo_11 hx hb hts hown hK hP q682 d_Mo_count_91 ?_
              cases hlit
              exact ret 0 _ _ _ _ trivial hP hS rfl d_Mo_count_94
            · have hlit := brN _ hlit c1_5
              by_cases c1_6 : p1 = 6
              · have hlit := brP _ hlit c1_6
                refine lv_tableIn (off := 94) (tgt := 95) hx hb d_Mo_count_1 (by rw [c1_6]; decide) (by rw [c1_6]; decide) (by rw [c1_6]; rfl) (by decide) ?_
                refine lv_aload_n hx hb d_Mo_count_95 rfl (lv_at hl 0 rfl) ?_
                refine mg_Mo_7 hx hb hts hown hK hP q678 d_Mo_count_96 ?_
                cases hlit
                exact ret 0 _ _ _ _ trivial hP hS rfl d_Mo_count_99
              · have hlit := brN _ hlit c1_6
                by_cases c1_7 : p1 = 7
                · have hlit := brP _ hlit c1_7
                  refine lv_tableIn (off := 99) (tgt := 100) hx hb d_Mo_count_1 (by rw [c1_7]; decide) (by rw [c1_7]; decide) (by rw [c1_7]; rfl) (by decide) ?_
                  refine lv_aload_n hx hb d_Mo_count_100 rfl (lv_at hl 0 rfl) ?_
                  refine mg_Mo_9 hx hb hts hown hK hP q680 d_Mo_count_101 ?_
                  cases hlit
                  exact ret 0 _ _ _ _ trivial hP hS rfl d_Mo_count_104
                · have hlit := brN _ hlit c1_7
                  by_cases c1_8 : p1 = 8
                  · have hlit := brP _ hlit c1_8
                    refine lv_tableIn (off := 104) (tgt := 105) hx hb d_Mo_count_1 (by rw [c1_8]; decide) (by rw [c1_8]; decide) (by rw [c1_8]; rfl) (by decide) ?_
                    refine lv_aload_n hx hb d_Mo_count_105 rfl (lv_at hl 0 rfl) ?_
                    refine mg_Mo_0 hx hb hts hown hK hP q671 d_Mo_count_106 ?_
                    cases hlit
                    exact ret 0 _ _ _ _ trivial hP hS rfl d_Mo_count_109
                  · have hlit := brN _ hlit c1_8
                    refine lv_tableOut (tgt := 110) hx hb d_Mo_count_1 (sw_out8 c1_0 c1_1 c1_2 c1_3 c1_4 c1_5 c1_6 c1_7 c1_8) (by decide) ?_
                    refine lv_iconst (v := (-1 : Int32)) hx hb d_Mo_count_110 (by decide) ?_
                    cases hlit
                    exact ret 0 _ _ _ _ trivial hP hS rfl d_Mo_count_111
