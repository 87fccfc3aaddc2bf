abbrev rm_m_Mo_fair : Room := { frames := 2, cells := 0, slots := 0, locals := 50 }
theorem hd_m_Mo_fair : y_Mo_fair.cls ≠ "java/lang/invoke/MethodHandle" ∧ y_Mo_fair.cls ≠ "java/lang/invoke/VarHandle" ∧ (parseMethodDescriptor y_Mo_fair.desc).map (fun d => d.parameters.length) = some 1 := by decide +kernel
set_option maxHeartbeats 4000000 in
set_option maxRecDepth 100000 in
theorem cm_Mo_fair (l : Launch) (E : mE) (a : Nat → Nat) (ha : xInj a 10) (h : Hp) (sz : Nat) (p1 : Int32) {r0 : Int32} (hlit : m_Mo_fair p1 h = some r0) : Met l y_Mo_fair (Cond.code y_Mo_fair b_Mo_fair 6 (some .int) :: TB) rm_m_Mo_fair (fPc [.ref (a 0), .int p1] E.1 (mtys E) sz (mV E a h)) (fQi (fun _ : Nat => True) r0 E.1 (fun (_ : Nat) => mV E a h) (xA a 10 sz)) 0 0 (xA a 10 sz) := by
  refine fl_startI (by decide) (Nat.le_of_ble_eq_true rfl) ?_
  intro p e s m args below meth c Q hx hb hml hown hts hsz hP hK hN ret ls hl
  subst hsz
  have hA : ∀ k, k < 10 → (xA a 10 s.heap.size) (a k) := xA_in
  have hS : va_S (xA a 10 s.heap.size) s.heap s.heap [] := va_S.rf
  have hl : lv_has ls 6 [(0, .ref (a 0)), (1, .int p1)] := hl
  have b101 : ∀ (k21 : Int32 → Int32 → Int32 → Option Int32), (∀ (x2 : Int32) (x3 : Int32) (x4 : Int32) (H : Heap) (locs : List Loc) (ls : Array Slot), k21 x2 x3 x4 = some r0 → va_P E.1 xcl (mV E a h) H → va_S (xA a 10 s.heap.size) s.heap H locs → lv_has ls 6 [(0, .ref (a 0)), (1, .int p1), (2, .int x2), (3, .int x3), (4, .int x4)] → W p l e rm_m_Mo_fair s m args below meth c H locs 0 0 Q (F0 m 21 ls [])) → ∀ (x3 : Int32) (x4 : Int32) (x5 : Int32) (s0 : Int32) (H : Heap) (locs : List Loc) (ls : Array Slot), m_Mo_fair_b101 k21 p1 h x3 x4 x5 s0 = some r0 → va_P E.1 xcl (mV E a h) H → va_S (xA a 10 s.heap.size) s.heap H locs → lv_has ls 6 [(0, .ref (a 0)), (1, .int p1), (3, .int x3), (4, .int x4), (5, .int x5)] → W p l e rm_m_Mo_fair s m args below meth c H locs 0 0 Q (F0 m 101 ls [.int s0]) := by
    intro k21 hk21 x3 x4 x5 s0 H locs ls hlit hP hS hl
    refine lv_istore_n (lv' := [(2, .int s0), (0, .ref (a 0)), (1, .int p1), (3, .int x3), (4, .int x4), (5, .int x5)]) hx hb d_Mo_fair_101 rfl hl (by decide) rfl (fun ls hl => ?_)
    refine lv_iload hx hb d_Mo_fair_102 (lv_at hl 5 rfl) ?_
    refine lv_iload_n hx hb d_Mo_fair_104 rfl (lv_at hl 3 rfl) ?_
    refine lv_icmp_le (tgt := 113) hx hb d_Mo_fair_105 (by decide) (fun c105 => ?_) (fun c105 => ?_)
    · have hlit := brP _ hlit c105
      refine lv_iload_n hx hb d_Mo_fair_113 rfl (lv_at hl 3 rfl) ?_
      refine lv_istore_n (lv' := [(3, .int x3), (2, .int s0), (0, .ref (a 0)), (1, .int p1), (4, .int x4), (5, .int x5)]) hx hb d_Mo_fair_114 rfl hl (by decide) rfl (fun ls hl => ?_)
      refine lv_iinc (v := (x4 + (1 : Int32))) (lv' := [(4, .int (x4 + (1 : Int32))), (3, .int x3), (2, .int s0), (0, .ref (a 0)), (1, .int p1), (5, .int x5)]) hx hb d_Mo_fair_115 hl (k := 4) rfl rfl (by decide) rfl (fun ls hl => ?_)
      refine lv_goto (tgt := 21) hx hb d_Mo_fair_118 (by decide) ?_
      exact hk21 s0 x3 (x4 + (1 : Int32)) _ _ _ hlit hP hS (lv_sub hl [3, 4, 2, 1, 0] rfl)
    · have hlit := brN _ hlit c105
      refine lv_iload hx hb d_Mo_fair_108 (lv_at hl 5 rfl) ?_
      refine lv_goto (tgt := 114) hx hb d_Mo_fair_110 (by decide) ?_
      refine lv_istore_n (lv' := [(3, .int x5), (2, .int s0), (0, .ref (a 0)), (1, .int p1), (4, .int x4), (5, .int x5)]) hx hb d_Mo_fair_114 rfl hl (by decide) rfl (fun ls hl => ?_)
      refine lv_iinc (v := (x4 + (1 : Int32))) (lv' := [(4, .int (x4 + (1 : Int32))), (3, .int x5), (2, .int s0), (0, .ref (a 0)), (1, .int p1), (5, .int x5)]) hx hb d_Mo_fair_115 hl (k := 4) rfl rfl (by decide) rfl (fun ls hl => ?_)
      refine lv_goto (tgt := 21) hx hb d_Mo_fair_118 (by decide) ?_
      exact hk21 s0 x5 (x4 + (1 : Int32)) _ _ _ hlit hP hS (lv_sub hl [3, 4, 2, 1, 0] rfl)
  have b87 : ∀ (k21 : Int32 → Int32 → Int32 → Option Int32), (∀ (x2 : Int32) (x3 : Int32) (x4 : Int32) (H : Heap) (locs : List Loc) (ls : Array Slot), k21 x2 x3 x4 = some r0 → va_P E.1 xcl (mV E a h) H → va_S (xA a 10 s.heap.size) s.heap H locs → lv_has ls 6 [(0, .ref (a 0)), (1, .int p1), (2, .int x2), (3, .int x3), (4, .int x4)] → W p l e rm_m_Mo_fair s m args below meth c H locs 0 0 Q (F0 m 21 ls [])) → ∀ (x2 : Int32) (x3 : Int32) (x4 : Int32) (s0 : Int32) (H : Heap) (locs : List Loc) (ls : Array Slot), m_Mo_fair_b87 k21 p1 h x2 x3 x4 s0 = some r0 → va_P E.1 xcl (mV E a h) H → va_S (xA a 10 s.heap.size) s.heap H locs → lv_has ls 6 [(0, .ref (a 0)), (1, .int p1), (2, .int x2), (3, .int x3), (4, .int x4)] → W p l e rm_m_Mo_fair s m args below meth c H locs 0 0 Q (F0 m 87 ls [.int s0]) := by
    intro k21 hk21 x2 x3 x4 s0 H locs ls hlit hP hS hl
    refine lv_istore (lv' := [(5, .int s0), (0, .ref (a 0)), (1, .int p1), (2, .int x2), (3, .int x3), (4, .int x4)]) hx hb d_Mo_fair_87 hl (by decide) rfl (fun ls hl => ?_)
    refine lv_iload hx hb d_Mo_fair_89 (lv_at hl 0 rfl) ?_
    refine lv_iload_n hx hb d_Mo_fair_91 rfl (lv_at hl 4 rfl) ?_
    refine lv_icmp_le (tgt := 100) hx hb d_Mo_fair_92 (by decide) (fun c92 => ?_) (fun c92 => ?_)
    · have hlit := brP _ hlit c92
      refine lv_iload_n hx hb d_Mo_fair_100 rfl (lv_at hl 3 rfl) ?_
      exact b101 (k21) hk21 x3 x4 s0 x2 _ _ _ hlit hP hS (lv_sub hl [1, 2, 4, 5, 0] rfl)
    · have hlit := brN _ hlit c92
      refine lv_iload hx hb d_Mo_fair_95 (lv_at hl 5 rfl) ?_
      refine lv_goto (tgt := 101) hx hb d_Mo_fair_97 (by decide) ?_
      exact b101 (k21) hk21 x3 x4 s0 x4 _ _ _ hlit hP hS (lv_sub hl [1, 2, 4, 5, 0] rfl)
  have b21 : ∀ (n : Nat), ∀ (x2 : Int32) (x3 : Int32) (x4 : Int32) (H : Heap) (locs : List Loc) (ls : Array Slot), m_Mo_fair_b21 p1 h n x2 x3 x4 = some r0 → va_P E.1 xcl (mV E a h) H → va_S (xA a 10 s.heap.size) s.heap H locs → lv_has ls 6 [(0, .ref (a 0)), (1, .int p1), (2, .int x2), (3, .int x3), (4, .int x4)] → W p l e rm_m_Mo_fair s m args below meth c H locs 0 0 Q (F0 m 21 ls []) := by
    intro n
    induction n with
    | zero => intro x2 x3 x4 H locs ls hlit hP hS hl; exact nnF hlit
    | succ n ih =>
      intro x2 x3 x4 H locs ls hlit hP hS hl
      refine lv_iload hx hb d_Mo_fair_21 (lv_at hl 4 rfl) ?_
      refine lv_aload_n hx hb d_Mo_fair_23 rfl (lv_at hl 0 rfl) ?_
      refine mg_Mo_2 hx hb hts hown hK hP q673 d_Mo_fair_24 ?_
      refine lv_iconst (v := (0 : Int32)) hx hb d_Mo_fair_27 (by decide) ?_
      refine mald2 hx hb hK hP (j := 0) rfl (vpin_c (by decide)) d_Mo_fair_28 ?_
      refine lv_icmp_ge (tgt := 121) hx hb d_Mo_fair_29 (by decide) (fun c29 => ?_) (fun c29 => ?_)
      · have hlit := brP _ hlit c29
        refine lv_iload_n hx hb d_Mo_fair_121 rfl (lv_at hl 1 rfl) ?_
        refine lv_if_ne (tgt := 129) hx hb d_Mo_fair_122 (by decide) (fun c122 => ?_) (fun c122 => ?_)
        · have hlit := brN _ hlit c122
          refine lv_iload_n hx hb d_Mo_fair_129 rfl (lv_at hl 3 rfl) ?_
          refine lv_bipush (v := (100 : Int32)) hx hb d_Mo_fair_130 (by decide) ?_
          refine lv_idiv hx hb d_Mo_fair_132 (by decide) ?_
          cases hlit
          exact ret 0 _ _ _ _ trivial hP hS rfl d_Mo_fair_133
        · have hlit := brP _ hlit c122
          refine lv_iload_n hx hb d_Mo_fair_125 rfl (lv_at hl 2 rfl) ?_
          refine lv_goto (tgt := 133) hx hb d_Mo_fair_126 (by decide) ?_
          cases hlit
          exact ret 0 _ _ _ _ trivial hP hS rfl d_Mo_fair_133
      · have hlit := brN _ hlit c29
        refine lv_aload_n hx hb d_Mo_fair_32 rfl (lv_at hl 0 rfl) ?_
        refine mg_Mo_5 hx hb hts hown hK hP q676 d_Mo_fair_33 ?_
        refine lv_iconst (v := (1 : Int32)) hx hb d_Mo_fair_36 (by decide) ?_
        refine mald4 hx hb hK hP (j := 1) rfl (vpin_c (by decide)) d_Mo_fair_37 ?_
        refine lv_iload hx hb d_Mo_fair_38 (lv_at hl 4 rfl) ?_
        obtain ⟨r40, hl40, hlit⟩ := bindS hlit
        refine fCallI (fRunS (As := [.int (h 4 1), .int x4]) (rest := []) hx hb hml hown hts hK hN hP (cm_Mo_has l E a ha h _ (h 4 1) x4 (r0 := r40) hl40) q756 q757 q61 q758 hd_m_Mo_has rfl rfl ⟨Nat.le_of_ble_eq_true rfl, Nat.le_of_ble_eq_true rfl⟩ rfl hl.1 rfl (Nat.le_of_ble_eq_true rfl) d_Mo_fair_40 ⟨Nat.zero_le _, Nat.zero_le _⟩) hS (xA_up hS.1) (fun _ H locs hu40 hP hS _ _ => ?_)
        have hP : va_P E.1 xcl (mV E a h) H := hP
        refine lv_if_eq (tgt := 51) hx hb d_Mo_fair_43 (by decide) (fun c43 => ?_) (fun c43 => ?_)
        · have hlit := brP _ hlit c43
          refine lv_bipush (v := (100 : Int32)) hx hb d_Mo_fair_51 (by decide) ?_
          refine lv_aload_n hx hb d_Mo_fair_53 rfl (lv_at hl 0 rfl) ?_
          refine lv_aload_n hx hb d_Mo_fair_54 rfl (lv_at hl 0 rfl) ?_
          refine lv_iload hx hb d_Mo_fair_55 (lv_at hl 4 rfl) ?_
          obtain ⟨r57, hl57, hlit⟩ := bindS hlit
          refine fCallI (fRunV (As := [.int x4]) (rest := [.ref (a 0), .int (100 : Int32)]) (q0 := 0) (ci := 8) hx hb hml hown hts hK hN hP (cm_Mo_worstOff l E a ha h _ x4 (r0 := r57) hl57) q819 q820 q42 q61 q821 hd_m_Mo_worstOff rfl rfl ⟨Nat.le_of_ble_eq_true rfl, Nat.le_of_ble_eq_true rfl⟩ me_0 rfl rfl rfl hl.1 rfl (Nat.le_of_ble_eq_true rfl) d_Mo_fair_57 ⟨Nat.zero_le _, Nat.zero_le _⟩) hS (xA_up hS.1) (fun _ H locs hu57 hP hS _ _ => ?_)
          have hP : va_P E.1 xcl (mV E a h) H := hP
          refine lv_iload hx hb d_Mo_fair_60 (lv_at hl 4 rfl) ?_
          refine lv_aload_n hx hb d_Mo_fair_62 rfl (lv_at hl 0 rfl) ?_
          refine mg_Mo_5 hx hb hts hown hK hP q676 d_Mo_fair_63 ?_
          refine lv_iconst (v := (0 : Int32)) hx hb d_Mo_fair_66 (by decide) ?_
          refine mald4 hx hb hK hP (j := 0) rfl (vpin_c (by decide)) d_Mo_fair_67 ?_
          obtain ⟨r68, hl68, hlit⟩ := bindS hlit
          refine fCallI (fRunV (As := [.int r57, .int x4, .int (h 4 0)]) (rest := [.int (100 : Int32)]) (q0 := 0) (ci := 8) hx hb hml hown hts hK hN hP (cm_Mo_worthAt l E a ha h _ r57 x4 (h 4 0) (r0 := r68) hl68) q759 q760 q34 q61 q761 hd_m_Mo_worthAt rfl rfl ⟨Nat.le_of_ble_eq_true rfl, Nat.le_of_ble_eq_true rfl⟩ me_0 rfl rfl rfl hl.1 rfl (Nat.le_of_ble_eq_true rfl) d_Mo_fair_68 ⟨Nat.zero_le _, Nat.zero_le _⟩) hS (xA_up hS.1) (fun _ H locs hu68 hP hS _ _ => ?_)
          have hP : va_P E.1 xcl (mV E a h) H := hP
          refine lv_imul hx hb d_Mo_fair_71 ?_
          refine lv_aload_n hx hb d_Mo_fair_72 rfl (lv_at hl 0 rfl) ?_
          refine lv_iload hx hb d_Mo_fair_73 (lv_at hl 4 rfl) ?_
          refine lv_aload_n hx hb d_Mo_fair_75 rfl (lv_at hl 0 rfl) ?_
          refine mg_Mo_5 hx hb hts hown hK hP q676 d_Mo_fair_76 ?_
          refine lv_iconst (v := (0 : Int32)) hx hb d_Mo_fair_79 (by decide) ?_
          refine mald4 hx hb hK hP (j := 0) rfl (vpin_c (by decide)) d_Mo_fair_80 ?_
          refine lv_bipush (v := (-4 : Int32)) hx hb d_Mo_fair_81 (by decide) ?_
          obtain ⟨r83, hl83, hlit⟩ := bindS hlit
          refine fCallI (fRunV (As := [.int x4, .int (h 4 0), .int (-4 : Int32)]) (rest := [.int ((100 : Int32) * r68)]) (q0 := 0) (ci := 8) hx hb hml hown hts hK hN hP (cm_Mo_sumOf l E a ha h _ x4 (h 4 0) (-4 : Int32) (r0 := r83) hl83) q775 q776 q38 q61 q777 hd_m_Mo_sumOf rfl rfl ⟨Nat.le_of_ble_eq_true rfl, Nat.le_of_ble_eq_true rfl⟩ me_0 rfl rfl rfl hl.1 rfl (Nat.le_of_ble_eq_true rfl) d_Mo_fair_83 ⟨Nat.zero_le _, Nat.zero_le _⟩) hS (xA_up hS.1) (fun _ H locs hu83 hP hS _ _ => ?_)
          have hP : va_P E.1 xcl (mV E a h) H := hP
          refine lv_iadd hx hb d_Mo_fair_86 ?_
          exact b87 (m_Mo_fair_b21 p1 h n) ih x2 x3 x4 (((100 : Int32) * r68) + r83) _ _ _ hlit hP hS (lv_sub hl [0, 1, 2, 3, 4] rfl)
        · have hlit := brN _ hlit c43
          refine lv_bipush (v := (-4 : Int32)) hx hb d_Mo_fair_46 (by decide) ?_
          refine lv_goto (tgt := 87) hx hb d_Mo_fair_48 (by decide) ?_
          exact b87 (m_Mo_fair_b21 p1 h n) ih x2 x3 x4 (-4 : Int32) _ _ _ hlit hP hS (lv_sub hl [0, 1, 2, 3, 4] rfl)
  refine lv_iload_n hx hb d_Mo_fair_0 rfl (lv_at hl 1 rfl) ?_
  refine lv_i2l (v := p1.toInt64) hx hb d_Mo_fair_1 rfl ?_
  refine lv_lconst (v := (0 : Int64)) hx hb d_Mo_fair_2 (by decide) ?_
  refine lv_lconst (v := (1 : Int64)) hx hb d_Mo_fair_3 (by decide) ?_
  obtain ⟨r4, hl4, hlit⟩ := bindS hlit
  refine fCallI (fRunS (As := [.long (p1.toInt64), .long (0 : Int64), .long (1 : Int64)]) (rest := []) hx hb hml hown hts hK hN hP (cm_Mo_in l E a ha h _ (p1.toInt64) (0 : Int64) (1 : Int64) (r0 := r4) hl4) q707 q708 q61 q709 hd_m_Mo_in rfl rfl ⟨Nat.le_of_ble_eq_true rfl, Nat.le_of_ble_eq_true rfl⟩ rfl hl.1 rfl (Nat.le_of_ble_eq_true rfl) d_Mo_fair_4 ⟨Nat.zero_le _, Nat.zero_le _⟩) hS (xA_up hS.1) (fun _ H locs hu4 hP hS _ _ => ?_)
  have hP : va_P E.1 xcl (mV E a h) H := hP
  refine lv_if_ne (tgt := 12) hx hb d_Mo_fair_7 (by decide) (fun c7 => ?_) (fun c7 => ?_)
  · have hlit := brN _ hlit c7
    refine lv_bipush (v := (-4 : Int32)) hx hb d_Mo_fair_12 (by decide) ?_
    refine lv_istore_n (lv' := [(2, .int (-4 : Int32)), (0, .ref (a 0)), (1, .int p1)]) hx hb d_Mo_fair_14 rfl hl (by decide) rfl (fun ls hl => ?_)
    refine lv_bipush (v := (-4 : Int32)) hx hb d_Mo_fair_15 (by decide) ?_
    refine lv_istore_n (lv' := [(3, .int (-4 : Int32)), (2, .int (-4 : Int32)), (0, .ref (a 0)), (1, .int p1)]) hx hb d_Mo_fair_17 rfl hl (by decide) rfl (fun ls hl => ?_)
    refine lv_iconst (v := (0 : Int32)) hx hb d_Mo_fair_18 (by decide) ?_
    refine lv_istore (lv' := [(4, .int (0 : Int32)), (3, .int (-4 : Int32)), (2, .int (-4 : Int32)), (0, .ref (a 0)), (1, .int p1)]) hx hb d_Mo_fair_19 hl (by decide) rfl (fun ls hl => ?_)
    exact b21 FU (-4 : Int32) (-4 : Int32) (0 : Int32) _ _ _ hlit hP hS (lv_sub hl [3, 4, 2, 1, 0] rfl)
  · have hlit := brP _ hlit c7
    refine lv_iconst (v := (-1 : Int32)) hx hb d_Mo_fair_10 (by decide) ?_
    cases hlit
    exact ret 0 _ _ _ _ trivial hP hS rfl d_Mo_fair_11

abbrev rm_m_Mo_lead : Room := { frames := 1, cells := 0, slots := 0, locals := 25 }
theorem hd_m_Mo_lead : y_Mo_lead.cls ≠ "java/lang/invoke/MethodHandle" ∧ y_Mo_lead.cls ≠ "java/lang/invoke/VarHandle" ∧ (parseMethodDescriptor y_Mo_lead.desc).map (fun d => d.parameters.length) = some 2 := by decide +kernel
set_option maxHeartbeats 4000000 in
set_option maxRecDepth 100000 in
theorem cm_Mo_lead (l : Launch) (E : mE) (a : Nat → Nat) (ha : xInj a 10) (h : Hp) (sz : Nat) (p1 : Int32) (p2 : Int32) {r0 : Int32} (hlit : m_Mo_lead p1 p2 h = some r0) : Met l y_Mo_lead (Cond.code y_Mo_lead b_Mo_lead 6 (some .int) :: TB) rm_m_Mo_lead (fPc [.ref (a 0), .int p1, .int p2] E.1 (mtys E) sz (mV E a h)) (fQi (fun _ : Nat => True) r0 E.1 (fun (_ : Nat) => mV E a h) (xA a 10 sz)) 0 0 (xA a 10 sz) := by
  refine fl_startI (by decide) (Nat.le_of_ble_eq_true rfl) ?_
  intro p e s m args below meth c Q hx hb hml hown hts hsz hP hK hN ret ls hl
  subst hsz
  have hA : ∀ k, k < 10 → (xA a 10 s.heap.size) (a k) := xA_in
  have hS : va_S (xA a 10 s.heap.size) s.heap s.heap [] := va_S.rf
  have hl : lv_has ls 6 [(0, .ref (a 0)), (1, .int p1), (2, .int p2)] := hl
  have b5 : ∀ (n : Nat), ∀ (x3 : Int32) (x4 : Int32) (H : Heap) (locs : List Loc) (ls : Array Slot), m_Mo_lead_b5 p1 p2 h n x3 x4 = some r0 → va_P E.1 xcl (mV E a h) H → va_S (xA a 10 s.heap.size) s.heap H locs → lv_has ls 6 [(0, .ref (a 0)), (1, .int p1), (2, .int p2), (3, .int x3), (4, .int x4)] → W p l e rm_m_Mo_lead s m args below meth c H locs 0 0 Q (F0 m 5 ls []) := by
    intro n
    induction n with
    | zero => intro x3 x4 H locs ls hlit hP hS hl; exact nnF hlit
    | succ n ih =>
      intro x3 x4 H locs ls hlit hP hS hl
      refine lv_iload hx hb d_Mo_lead_5 (lv_at hl 4 rfl) ?_
      refine lv_aload_n hx hb d_Mo_lead_7 rfl (lv_at hl 0 rfl) ?_
      refine mg_Mo_2 hx hb hts hown hK hP q673 d_Mo_lead_8 ?_
      refine lv_iconst (v := (1 : Int32)) hx hb d_Mo_lead_11 (by decide) ?_
      refine mald2 hx hb hK hP (j := 1) rfl (vpin_c (by decide)) d_Mo_lead_12 ?_
      refine lv_icmp_ge (tgt := 73) hx hb d_Mo_lead_13 (by decide) (fun c13 => ?_) (fun c13 => ?_)
      · have hlit := brP _ hlit c13
        refine lv_iload_n hx hb d_Mo_lead_73 rfl (lv_at hl 3 rfl) ?_
        cases hlit
        exact ret 0 _ _ _ _ trivial hP hS rfl d_Mo_lead_74
      · have hlit := brN _ hlit c13
        refine lv_aload_n hx hb d_Mo_lead_16 rfl (lv_at hl 0 rfl) ?_
        refine lv_iload hx hb d_Mo_lead_17 (lv_at hl 4 rfl) ?_
        refine lv_iload_n hx hb d_Mo_lead_19 rfl (lv_at hl 1 rfl) ?_
        refine lv_aload_n hx hb d_Mo_lead_20 rfl (lv_at hl 0 rfl) ?_
        refine mg_Mo_5 hx hb hts hown hK hP q676 d_Mo_lead_21 ?_
        refine lv_iconst (v := (0 : Int32)) hx hb d_Mo_lead_24 (by decide) ?_
        refine mald4 hx hb hK hP (j := 0) rfl (vpin_c (by decide)) d_Mo_lead_25 ?_
        obtain ⟨r26, hl26, hlit⟩ := bindS hlit
        refine fCallI (fRunV (As := [.int x4, .int p1, .int (h 4 0)]) (rest := []) (q0 := 0) (ci := 8) hx hb hml hown hts hK hN hP (cm_Mo_worthAt l E a ha h _ x4 p1 (h 4 0) (r0 := r26) hl26) q759 q760 q34 q61 q761 hd_m_Mo_worthAt rfl rfl ⟨Nat.le_of_ble_eq_true rfl, Nat.le_of_ble_eq_true rfl⟩ me_0 rfl rfl rfl hl.1 rfl (Nat.le_of_ble_eq_true rfl) d_Mo_lead_26 ⟨Nat.zero_le _, Nat.zero_le _⟩) hS (xA_up hS.1) (fun _ H locs hu26 hP hS _ _ => ?_)
        have hP : va_P E.1 xcl (mV E a h) H := hP
        refine lv_aload_n hx hb d_Mo_lead_29 rfl (lv_at hl 0 rfl) ?_
        refine lv_iload hx hb d_Mo_lead_30 (lv_at hl 4 rfl) ?_
        refine lv_iload_n hx hb d_Mo_lead_32 rfl (lv_at hl 2 rfl) ?_
        refine lv_aload_n hx hb d_Mo_lead_33 rfl (lv_at hl 0 rfl) ?_
        refine mg_Mo_5 hx hb hts hown hK hP q676 d_Mo_lead_34 ?_
        refine lv_iconst (v := (0 : Int32)) hx hb d_Mo_lead_37 (by decide) ?_
        refine mald4 hx hb hK hP (j := 0) rfl (vpin_c (by decide)) d_Mo_lead_38 ?_
        obtain ⟨r39, hl39, hlit⟩ := bindS hlit
        refine fCallI (fRunV (As := [.int x4, .int p2, .int (h 4 0)]) (rest := [.int r26]) (q0 := 0) (ci := 8) hx hb hml hown hts hK hN hP (cm_Mo_worthAt l E a ha h _ x4 p2 (h 4 0) (r0 := r39) hl39) q759 q760 q34 q61 q761 hd_m_Mo_worthAt rfl rfl ⟨Nat.le_of_ble_eq_true rfl, Nat.le_of_ble_eq_true rfl⟩ me_0 rfl rfl rfl hl.1 rfl (Nat.le_of_ble_eq_true rfl) d_Mo_lead_39 ⟨Nat.zero_le _, Nat.zero_le _⟩) hS (xA_up hS.1) (fun _ H locs hu39 hP hS _ _ => ?_)
        have hP : va_P E.1 xcl (mV E a h) H := hP
        refine lv_isub hx hb d_Mo_lead_42 ?_
        obtain ⟨y43, ey43, hlit⟩ := bindS hlit
        refine topn ey43 ?_
        refine lv_istore (lv' := [(5, .int y43), (0, .ref (a 0)), (1, .int p1), (2, .int p2), (3, .int x3), (4, .int x4)]) hx hb d_Mo_lead_43 hl (by decide) rfl (fun ls hl => ?_)
        refine lv_iload_n hx hb d_Mo_lead_45 rfl (lv_at hl 4 rfl) ?_
        refine lv_iload hx hb d_Mo_lead_46 (lv_at hl 0 rfl) ?_
        refine lv_if_le (tgt := 55) hx hb d_Mo_lead_48 (by decide) (fun c48 => ?_) (fun c48 => ?_)
        · have hlit := brP _ hlit c48
          refine lv_iload hx hb d_Mo_lead_55 (lv_at hl 0 rfl) ?_
          refine lv_if_ge (tgt := 64) hx hb d_Mo_lead_57 (by decide) (fun c57 => ?_) (fun c57 => ?_)
          · have hlit := brP _ hlit c57
            refine lv_iconst (v := (0 : Int32)) hx hb d_Mo_lead_64 (by decide) ?_
            refine lv_iadd hx hb d_Mo_lead_65 ?_
            obtain ⟨y66, ey66, hlit⟩ := bindS hlit
            refine topn ey66 ?_
            refine lv_istore_n (lv' := [(3, .int y66), (5, .int y43), (0, .ref (a 0)), (1, .int p1), (2, .int p2), (4, .int x4)]) hx hb d_Mo_lead_66 rfl hl (by decide) rfl (fun ls hl => ?_)
            refine lv_iinc (v := (x4 + (1 : Int32))) (lv' := [(4, .int (x4 + (1 : Int32))), (3, .int y66), (5, .int y43), (0, .ref (a 0)), (1, .int p1), (2, .int p2)]) hx hb d_Mo_lead_67 hl (k := 5) rfl rfl (by decide) rfl (fun ls hl => ?_)
            refine lv_goto (tgt := 5) hx hb d_Mo_lead_70 (by decide) ?_
            exact ih y66 (x4 + (1 : Int32)) _ _ _ hlit hP hS (lv_sub hl [3, 4, 5, 1, 0] rfl)
          · have hlit := brN _ hlit c57
            refine lv_iconst (v := (-1 : Int32)) hx hb d_Mo_lead_60 (by decide) ?_
            refine lv_goto (tgt := 65) hx hb d_Mo_lead_61 (by decide) ?_
            refine lv_iadd hx hb d_Mo_lead_65 ?_
            obtain ⟨y66, ey66, hlit⟩ := bindS hlit
            refine topn ey66 ?_
            refine lv_istore_n (lv' := [(3, .int y66), (5, .int y43), (0, .ref (a 0)), (1, .int p1), (2, .int p2), (4, .int x4)]) hx hb d_Mo_lead_66 rfl hl (by decide) rfl (fun ls hl => ?_)
            refine lv_iinc (v := (x4 + (1 : Int32))) (lv' := [(4, .int (x4 + (1 : Int32))), (3, .int y66), (5, .int y43), (0, .ref (a 0)), (1, .int p1), (2, .int p2)]) hx hb d_Mo_lead_67 hl (k := 5) rfl rfl (by decide) rfl (fun ls hl => ?_)
            refine lv_goto (tgt := 5) hx hb d_Mo_lead_70 (by decide) ?_
            exact ih y66 (x4 + (1 : Int32)) _ _ _ hlit hP hS (lv_sub hl [3, 4, 5, 1, 0] rfl)
        · have hlit := brN _ hlit c48
          refine lv_iconst (v := (1 : Int32)) hx hb d_Mo_lead_51 (by decide) ?_
          refine lv_goto (tgt := 65) hx hb d_Mo_lead_52 (by decide) ?_
          refine lv_iadd hx hb d_Mo_lead_65 ?_
          obtain ⟨y66, ey66, hlit⟩ := bindS hlit
          refine topn ey66 ?_
          refine lv_istore_n (lv' := [(3, .int y66), (5, .int y43), (0, .ref (a 0)), (1, .int p1), (2, .int p2), (4, .int x4)]) hx hb d_Mo_lead_66 rfl hl (by decide) rfl (fun ls hl => ?_)
          refine lv_iinc (v := (x4 + (1 : Int32))) (lv' := [(4, .int (x4 + (1 : Int32))), (3, .int y66), (5, .int y43), (0, .ref (a 0)), (1, .int p1), (2, .int p2)]) hx hb d_Mo_lead_67 hl (k := 5) rfl rfl (by decide) rfl (fun ls hl => ?_)
          refine lv_goto (tgt := 5) hx hb d_Mo_lead_70 (by decide) ?_
          exact ih y66 (x4 + (1 : Int32)) _ _ _ hlit hP hS (lv_sub hl [3, 4, 5, 1, 0] rfl)
  refine lv_iconst (v := (0 : Int32)) hx hb d_Mo_lead_0 (by decide) ?_
  refine lv_istore_n (lv' := [(3, .int (0 : Int32)), (0, .ref (a 0)), (1, .int p1), (2, .int p2)]) hx hb d_Mo_lead_1 rfl hl (by decide) rfl (fun ls hl => ?_)
  refine lv_iconst (v := (0 : Int32)) hx hb d_Mo_lead_2 (by decide) ?_
  refine lv_istore (lv' := [(4, .int (0 : Int32)), (3, .int (0 : Int32)), (0, .ref (a 0)), (1, .int p1), (2, .int p2)]) hx hb d_Mo_lead_3 hl (by decide) rfl (fun ls hl => ?_)
  exact b5 FU (0 : Int32) (0 : Int32) _ _ _ hlit hP hS (lv_sub hl [2, 3, 4, 1, 0] rfl)

abbrev rm_m_Mo_isLeft : Room := { frames := 2, cells := 0, slots := 0, locals := 46 }
theorem hd_m_Mo_isLeft : y_Mo_isLeft.cls ≠ "java/lang/invoke/MethodHandle" ∧ y_Mo_isLeft.cls ≠ "java/lang/invoke/VarHandle" ∧ (parseMethodDescriptor y_Mo_isLeft.desc).map (fun d => d.parameters.length) = some 1 := by decide +kernel
set_option maxHeartbeats 4000000 in
set_option maxRecDepth 100000 in
theorem cm_Mo_isLeft (l : Launch) (E : mE) (a : Nat → Nat) (ha : xInj a 10) (h : Hp) (sz : Nat) (p1 : Int32) {r0 : Int32} (hlit : m_Mo_isLeft p1 h = some r0) : Met l y_Mo_isLeft (Cond.code y_Mo_isLeft b_Mo_isLeft 2 (some .boolean) :: TB) rm_m_Mo_isLeft (fPc [.ref (a 0), .int p1] E.1 (mtys E) sz (mV E a h)) (fQi (fun _ : Nat => True) r0 E.1 (fun (_ : Nat) => mV E a h) (xA a 10 sz)) 0 0 (xA a 10 sz) := by
  refine fl_startI (by decide) (Nat.le_of_ble_eq_true rfl) ?_
  intro p e s m args below meth c Q hx hb hml hown hts hsz hP hK hN ret ls hl
  subst hsz
  have hA : ∀ k, k < 10 → (xA a 10 s.heap.size) (a k) := xA_in
  have hS : va_S (xA a 10 s.heap.size) s.heap s.heap [] := va_S.rf
  have hl : lv_has ls 2 [(0, .ref (a 0)), (1, .int p1)] := hl
  refine lv_aload_n hx hb d_Mo_isLeft_0 rfl (lv_at hl 0 rfl) ?_
  refine lv_iload_n hx hb d_Mo_isLeft_1 rfl (lv_at hl 1 rfl) ?_
  obtain ⟨r2, hl2, hlit⟩ := bindS hlit
  refine fCallI (fRunV (As := [.int p1]) (rest := []) (q0 := 0) (ci := 8) hx hb hml hown hts hK hN hP (cm_Mo_isDish l E a ha h _ p1 (r0 := r2) hl2) q772 q773 q37 q61 q774 hd_m_Mo_isDish rfl rfl ⟨Nat.le_of_ble_eq_true rfl, Nat.le_of_ble_eq_true rfl⟩ me_0 rfl rfl rfl hl.1 rfl (Nat.le_of_ble_eq_true rfl) d_Mo_isLeft_2 ⟨Nat.zero_le _, Nat.zero_le _⟩) hS (xA_up hS.1) (fun _ H locs hu2 hP hS _ _ => ?_)
  have hP : va_P E.1 xcl (mV E a h) H := hP
  refine lv_if_eq (tgt := 25) hx hb d_Mo_isLeft_5 (by decide) (fun c5 => ?_) (fun c5 => ?_)
  · have hlit := brP _ hlit c5
    refine lv_iconst (v := (0 : Int32)) hx hb d_Mo_isLeft_25 (by decide) ?_
    cases hlit
    exact ret 0 _ _ _ _ trivial hP hS rfl d_Mo_isLeft_26
  · have hlit := brN _ hlit c5
    refine lv_aload_n hx hb d_Mo_isLeft_8 rfl (lv_at hl 0 rfl) ?_
    refine mg_Mo_5 hx hb hts hown hK hP q676 d_Mo_isLeft_9 ?_
    refine lv_iconst (v := (1 : Int32)) hx hb d_Mo_isLeft_12 (by decide) ?_
    refine mald4 hx hb hK hP (j := 1) rfl (vpin_c (by decide)) d_Mo_isLeft_13 ?_
    refine lv_iload_n hx hb d_Mo_isLeft_14 rfl (lv_at hl 1 rfl) ?_
    obtain ⟨r15, hl15, hlit⟩ := bindS hlit
    refine fCallI (fRunS (As := [.int (h 4 1), .int p1]) (rest := []) hx hb hml hown hts hK hN hP (cm_Mo_has l E a ha h _ (h 4 1) p1 (r0 := r15) hl15) q756 q757 q61 q758 hd_m_Mo_has rfl rfl ⟨Nat.le_of_ble_eq_true rfl, Nat.le_of_ble_eq_true rfl⟩ rfl hl.1 rfl (Nat.le_of_ble_eq_true rfl) d_Mo_isLeft_15 ⟨Nat.zero_le _, Nat.zero_le _⟩) hS (xA_up hS.1) (fun _ H locs hu15 hP hS _ _ => ?_)
    have hP : va_P E.1 xcl (mV E a h) H := hP
    refine lv_if_ne (tgt := 25) hx hb d_Mo_isLeft_18 (by decide) (fun c18 => ?_) (fun c18 => ?_)
    · have hlit := brN _ hlit c18
      refine lv_iconst (v := (0 : Int32)) hx hb d_Mo_isLeft_25 (by decide) ?_
      cases hlit
      exact ret 0 _ _ _ _ trivial hP hS rfl d_Mo_isLeft_26
    · have hlit := brP _ hlit c18
      refine lv_iconst (v := (1 : Int32)) hx hb d_Mo_isLeft_21 (by decide) ?_
      refine lv_goto (tgt := 26) hx hb d_Mo_isLeft_22 (by decide) ?_
      cases hlit
      exact ret 0 _ _ _ _ trivial hP hS rfl d_Mo_isLeft_26

abbrev rm_m_Mo_beats : Room := { frames := 3, cells := 0, slots := 0, locals := 67 }
theorem hd_m_Mo_beats : y_Mo_beats.cls ≠ "java/lang/invoke/MethodHandle" ∧ y_Mo_beats.cls ≠ "java/lang/invoke/VarHandle" ∧ (parseMethodDescriptor y_Mo_beats.desc).map (fun d => d.parameters.length) = some 2 := by decide +kernel
set_option maxHeartbeats 4000000 in
set_option maxRecDepth 100000 in
theorem cm_Mo_beats (l : Launch) (E : mE) (a : Nat → Nat) (ha : xInj a 10) (h : Hp) (sz : Nat) (p1 : Int32) (p2 : Int32) {r0 : Int32} (hlit : m_Mo_beats p1 p2 h = some r0) : Met l y_Mo_beats (Cond.code y_Mo_beats b_Mo_beats 3 (some .int) :: TB) rm_m_Mo_beats (fPc [.ref (a 0), .int p1, .int p2] E.1 (mtys E) sz (mV E a h)) (fQi (fun _ : Nat => True) r0 E.1 (fun (_ : Nat) => mV E a h) (xA a 10 sz)) 0 0 (xA a 10 sz) := by
  refine fl_startI (by decide) (Nat.le_of_ble_eq_true rfl) ?_
  intro p e s m args below meth c Q hx hb hml hown hts hsz hP hK hN ret ls hl
  subst hsz
  have hA : ∀ k, k < 10 → (xA a 10 s.heap.size) (a k) := xA_in
  have hS : va_S (xA a 10 s.heap.size) s.heap s.heap [] := va_S.rf
  have hl : lv_has ls 3 [(0, .ref (a 0)), (1, .int p1), (2, .int p2)] := hl
  refine lv_aload_n hx hb d_Mo_beats_0 rfl (lv_at hl 0 rfl) ?_
  refine lv_iload_n hx hb d_Mo_beats_1 rfl (lv_at hl 1 rfl) ?_
  obtain ⟨r2, hl2, hlit⟩ := bindS hlit
  refine fCallI (fRunV (As := [.int p1]) (rest := []) (q0 := 0) (ci := 8) hx hb hml hown hts hK hN hP (cm_Mo_isLeft l E a ha h _ p1 (r0 := r2) hl2) q826 q827 q43 q61 q828 hd_m_Mo_isLeft rfl rfl ⟨Nat.le_of_ble_eq_true rfl, Nat.le_of_ble_eq_true rfl⟩ me_0 rfl rfl rfl hl.1 rfl (Nat.le_of_ble_eq_true rfl) d_Mo_beats_2 ⟨Nat.zero_le _, Nat.zero_le _⟩) hS (xA_up hS.1) (fun _ H locs hu2 hP hS _ _ => ?_)
  have hP : va_P E.1 xcl (mV E a h) H := hP
  refine lv_if_eq (tgt := 33) hx hb d_Mo_beats_5 (by decide) (fun c5 => ?_) (fun c5 => ?_)
  · have hlit := brP _ hlit c5
    refine lv_iconst (v := (-1 : Int32)) hx hb d_Mo_beats_33 (by decide) ?_
    cases hlit
    exact ret 0 _ _ _ _ trivial hP hS rfl d_Mo_beats_34
  · have hlit := brN _ hlit c5
    refine lv_aload_n hx hb d_Mo_beats_8 rfl (lv_at hl 0 rfl) ?_
    refine lv_iload_n hx hb d_Mo_beats_9 rfl (lv_at hl 2 rfl) ?_
    obtain ⟨r10, hl10, hlit⟩ := bindS hlit
    refine fCallI (fRunV (As := [.int p2]) (rest := []) (q0 := 0) (ci := 8) hx hb hml hown hts hK hN hP (cm_Mo_isLeft l E a ha h _ p2 (r0 := r10) hl10) q826 q827 q43 q61 q828 hd_m_Mo_isLeft rfl rfl ⟨Nat.le_of_ble_eq_true rfl, Nat.le_of_ble_eq_true rfl⟩ me_0 rfl rfl rfl hl.1 rfl (Nat.le_of_ble_eq_true rfl) d_Mo_beats_10 ⟨Nat.zero_le _, Nat.zero_le _⟩) hS (xA_up hS.1) (fun _ H locs hu10 hP hS _ _ => ?_)
    have hP : va_P E.1 xcl (mV E a h) H := hP
    refine lv_if_eq (tgt := 33) hx hb d_Mo_beats_13 (by decide) (fun c13 => ?_) (fun c13 => ?_)
    · have hlit := brP _ hlit c13
      refine lv_iconst (v := (-1 : Int32)) hx hb d_Mo_beats_33 (by decide) ?_
      cases hlit
      exact ret 0 _ _ _ _ trivial hP hS rfl d_Mo_beats_34
    · have hlit := brN _ hlit c13
      refine lv_iload_n hx hb d_Mo_beats_16 rfl (lv_at hl 1 rfl) ?_
      refine lv_iload_n hx hb d_Mo_beats_17 rfl (lv_at hl 2 rfl) ?_
      refine lv_icmp_eq (tgt := 33) hx hb d_Mo_beats_18 (by decide) (fun c18 => ?_) (fun c18 => ?_)
      · have hlit := brP _ hlit c18
        refine lv_iconst (v := (-1 : Int32)) hx hb d_Mo_beats_33 (by decide) ?_
        cases hlit
        exact ret 0 _ _ _ _ trivial hP hS rfl d_Mo_beats_34
      · have hlit := brN _ hlit c18
        refine lv_bipush (v := (50 : Int32)) hx hb d_Mo_beats_21 (by decide) ?_
        refine lv_aload_n hx hb d_Mo_beats_23 rfl (lv_at hl 0 rfl) ?_
        refine lv_iload_n hx hb d_Mo_beats_24 rfl (lv_at hl 1 rfl) ?_
        refine lv_iload_n hx hb d_Mo_beats_25 rfl (lv_at hl 2 rfl) ?_
        obtain ⟨r26, hl26, hlit⟩ := bindS hlit
        refine fCallI (fRunV (As := [.int p1, .int p2]) (rest := [.int (50 : Int32)]) (q0 := 0) (ci := 8) hx hb hml hown hts hK hN hP (cm_Mo_lead l E a ha h _ p1 p2 (r0 := r26) hl26) q829 q830 q44 q61 q831 hd_m_Mo_lead rfl rfl ⟨Nat.le_of_ble_eq_true rfl, Nat.le_of_ble_eq_true rfl⟩ me_0 rfl rfl rfl hl.1 rfl (Nat.le_of_ble_eq_true rfl) d_Mo_beats_26 ⟨Nat.zero_le _, Nat.zero_le _⟩) hS (xA_up hS.1) (fun _ H locs hu26 hP hS _ _ => ?_)
        have hP : va_P E.1 xcl (mV E a h) H := hP
        refine lv_iadd hx hb d_Mo_beats_29 ?_
        refine lv_goto (tgt := 34) hx hb d_Mo_beats_30 (by decide) ?_
        cases hlit
        exact ret 0 _ _ _ _ trivial hP hS rfl d_Mo_beats_34

abbrev rm_m_Mo_champion : Room := { frames := 3, cells := 0, slots := 0, locals := 67 }
theorem hd_m_Mo_champion : y_Mo_champion.cls ≠ "java/lang/invoke/MethodHandle" ∧ y_Mo_champion.cls ≠ "java/lang/invoke/VarHandle" ∧ (parseMethodDescriptor y_Mo_champion.desc).map (fun d => d.parameters.length) = some 0 := by decide +kernel
set_option maxHeartbeats 4000000 in
set_option maxRecDepth 100000 in
theorem cm_Mo_champion (l : Launch) (E : mE) (a : Nat → Nat) (ha : xInj a 10) (h : Hp) (sz : Nat) {r0 : Int32} (hlit : m_Mo_champion h = some r0) : Met l y_Mo_champion (Cond.code y_Mo_champion b_Mo_champion 4 (some .int) :: TB) rm_m_Mo_champion (fPc [.ref (a 0)] E.1 (mtys E) sz (mV E a h)) (fQi (fun _ : Nat => True) r0 E.1 (fun (_ : Nat) => mV E a h) (xA a 10 sz)) 0 0 (xA a 10 sz) := by
  refine fl_startI (by decide) (Nat.le_of_ble_eq_true rfl) ?_
  intro p e s m args below meth c Q hx hb hml hown hts hsz hP hK hN ret ls hl
  subst hsz
  have hA : ∀ k, k < 10 → (xA a 10 s.heap.size) (a k) := xA_in
  have hS : va_S (xA a 10 s.heap.size) s.heap s.heap [] := va_S.rf
  have hl : lv_has ls 4 [(0, .ref (a 0))] := hl
  have b20 : ∀ (k2 : Int32 → Option Int32), (∀ (x1 : Int32) (H : Heap) (locs : List Loc) (ls : Array Slot), k2 x1 = some r0 → va_P E.1 xcl (mV E a h) H → va_S (xA a 10 s.heap.size) s.heap H locs → lv_has ls 4 [(0, .ref (a 0)), (1, .int x1)] → W p l e rm_m_Mo_champion s m args below meth c H locs 0 0 Q (F0 m 2 ls [])) → ∀ (n : Nat), ∀ (x1 : Int32) (x2 : Int32) (x3 : Int32) (H : Heap) (locs : List Loc) (ls : Array Slot), m_Mo_champion_b20 k2 h n x1 x2 x3 = some r0 → va_P E.1 xcl (mV E a h) H → va_S (xA a 10 s.heap.size) s.heap H locs → lv_has ls 4 [(0, .ref (a 0)), (1, .int x1), (2, .int x2), (3, .int x3)] → W p l e rm_m_Mo_champion s m args below meth c H locs 0 0 Q (F0 m 20 ls []) := by
    intro k2 hk2 n
    induction n with
    | zero => intro x1 x2 x3 H locs ls hlit hP hS hl; exact nnF hlit
    | succ n ih =>
      intro x1 x2 x3 H locs ls hlit hP hS hl
      refine lv_iload_n hx hb d_Mo_champion_20 rfl (lv_at hl 3 rfl) ?_
      refine lv_aload_n hx hb d_Mo_champion_21 rfl (lv_at hl 0 rfl) ?_
      refine mg_Mo_2 hx hb hts hown hK hP q673 d_Mo_champion_22 ?_
      refine lv_iconst (v := (0 : Int32)) hx hb d_Mo_champion_25 (by decide) ?_
      refine mald2 hx hb hK hP (j := 0) rfl (vpin_c (by decide)) d_Mo_champion_26 ?_
      refine lv_icmp_ge (tgt := 68) hx hb d_Mo_champion_27 (by decide) (fun c27 => ?_) (fun c27 => ?_)
      · have hlit := brP _ hlit c27
        refine lv_iload_n hx hb d_Mo_champion_68 rfl (lv_at hl 2 rfl) ?_
        refine lv_if_eq (tgt := 74) hx hb d_Mo_champion_69 (by decide) (fun c69 => ?_) (fun c69 => ?_)
        · have hlit := brP _ hlit c69
          refine lv_iinc (v := (x1 + (1 : Int32))) (lv' := [(1, .int (x1 + (1 : Int32))), (0, .ref (a 0)), (2, .int x2), (3, .int x3)]) hx hb d_Mo_champion_74 hl (k := 1) rfl rfl (by decide) rfl (fun ls hl => ?_)
          refine lv_goto (tgt := 2) hx hb d_Mo_champion_77 (by decide) ?_
          exact hk2 (x1 + (1 : Int32)) _ _ _ hlit hP hS (lv_sub hl [1, 0] rfl)
        · have hlit := brN _ hlit c69
          refine lv_iload_n hx hb d_Mo_champion_72 rfl (lv_at hl 1 rfl) ?_
          cases hlit
          exact ret 0 _ _ _ _ trivial hP hS rfl d_Mo_champion_73
      · have hlit := brN _ hlit c27
        refine lv_iload_n hx hb d_Mo_champion_30 rfl (lv_at hl 2 rfl) ?_
        refine lv_if_eq (tgt := 60) hx hb d_Mo_champion_31 (by decide) (fun c31 => ?_) (fun c31 => ?_)
        · have hlit := brP _ hlit c31
          refine lv_iconst (v := (0 : Int32)) hx hb d_Mo_champion_60 (by decide) ?_
          refine lv_istore_n (lv' := [(2, .int (0 : Int32)), (0, .ref (a 0)), (1, .int x1), (3, .int x3)]) hx hb d_Mo_champion_61 rfl hl (by decide) rfl (fun ls hl => ?_)
          refine lv_iinc (v := (x3 + (1 : Int32))) (lv' := [(3, .int (x3 + (1 : Int32))), (2, .int (0 : Int32)), (0, .ref (a 0)), (1, .int x1)]) hx hb d_Mo_champion_62 hl (k := 3) rfl rfl (by decide) rfl (fun ls hl => ?_)
          refine lv_goto (tgt := 20) hx hb d_Mo_champion_65 (by decide) ?_
          exact ih x1 (0 : Int32) (x3 + (1 : Int32)) _ _ _ hlit hP hS (lv_sub hl [2, 3, 1, 0] rfl)
        · have hlit := brN _ hlit c31
          refine lv_iload_n hx hb d_Mo_champion_34 rfl (lv_at hl 3 rfl) ?_
          refine lv_iload_n hx hb d_Mo_champion_35 rfl (lv_at hl 1 rfl) ?_
          refine lv_icmp_eq (tgt := 56) hx hb d_Mo_champion_36 (by decide) (fun c36 => ?_) (fun c36 => ?_)
          · have hlit := brP _ hlit c36
            refine lv_iconst (v := (1 : Int32)) hx hb d_Mo_champion_56 (by decide) ?_
            refine lv_goto (tgt := 61) hx hb d_Mo_champion_57 (by decide) ?_
            refine lv_istore_n (lv' := [(2, .int (1 : Int32)), (0, .ref (a 0)), (1, .int x1), (3, .int x3)]) hx hb d_Mo_champion_61 rfl hl (by decide) rfl (fun ls hl => ?_)
            refine lv_iinc (v := (x3 + (1 : Int32))) (lv' := [(3, .int (x3 + (1 : Int32))), (2, .int (1 : Int32)), (0, .ref (a 0)), (1, .int x1)]) hx hb d_Mo_champion_62 hl (k := 3) rfl rfl (by decide) rfl (fun ls hl => ?_)
            refine lv_goto (tgt := 20) hx hb d_Mo_champion_65 (by decide) ?_
            exact ih x1 (1 : Int32) (x3 + (1 : Int32)) _ _ _ hlit hP hS (lv_sub hl [2, 3, 1, 0] rfl)
          · have hlit := brN _ hlit c36
            refine lv_aload_n hx hb d_Mo_champion_39 rfl (lv_at hl 0 rfl) ?_
            refine lv_iload_n hx hb d_Mo_champion_40 rfl (lv_at hl 3 rfl) ?_
            obtain ⟨r41, hl41, hlit⟩ := bindS hlit
            refine fCallI (fRunV (As := [.int x3]) (rest := []) (q0 := 0) (ci := 8) hx hb hml hown hts hK hN hP (cm_Mo_isLeft l E a ha h _ x3 (r0 := r41) hl41) q826 q827 q43 q61 q828 hd_m_Mo_isLeft rfl rfl ⟨Nat.le_of_ble_eq_true rfl, Nat.le_of_ble_eq_true rfl⟩ me_0 rfl rfl rfl hl.1 rfl (Nat.le_of_ble_eq_true rfl) d_Mo_champion_41 ⟨Nat.zero_le _, Nat.zero_le _⟩) hS (xA_up hS.1) (fun _ H locs hu41 hP hS _ _ => ?_)
            have hP : va_P E.1 xcl (mV E a h) H := hP
            refine lv_if_eq (tgt := 56) hx hb d_Mo_champion_44 (by decide) (fun c44 => ?_) (fun c44 => ?_)
            · have hlit := brP _ hlit c44
              refine lv_iconst (v := (1 : Int32)) hx hb d_Mo_champion_56 (by decide) ?_
              refine lv_goto (tgt := 61) hx hb d_Mo_champion_57 (by decide) ?_
              refine lv_istore_n (lv' := [(2, .int (1 : Int32)), (0, .ref (a 0)), (1, .int x1), (3, .int x3)]) hx hb d_Mo_champion_61 rfl hl (by decide) rfl (fun ls hl => ?_)
              refine lv_iinc (v := (x3 + (1 : Int32))) (lv' := [(3, .int (x3 + (1 : Int32))), (2, .int (1 : Int32)), (0, .ref (a 0)), (1, .int x1)]) hx hb d_Mo_champion_62 hl (k := 3) rfl rfl (by decide) rfl (fun ls hl => ?_)
              refine lv_goto (tgt := 20) hx hb d_Mo_champion_65 (by decide) ?_
              exact ih x1 (1 : Int32) (x3 + (1 : Int32)) _ _ _ hlit hP hS (lv_sub hl [2, 3, 1, 0] rfl)
            · have hlit := brN _ hlit c44
              refine lv_aload_n hx hb d_Mo_champion_47 rfl (lv_at hl 0 rfl) ?_
              refine lv_iload_n hx hb d_Mo_champion_48 rfl (lv_at hl 1 rfl) ?_
              refine lv_iload_n hx hb d_Mo_champion_49 rfl (lv_at hl 3 rfl) ?_
              obtain ⟨r50, hl50, hlit⟩ := bindS hlit
              refine fCallI (fRunV (As := [.int x1, .int x3]) (rest := []) (q0 := 0) (ci := 8) hx hb hml hown hts hK hN hP (cm_Mo_lead l E a ha h _ x1 x3 (r0 := r50) hl50) q829 q830 q44 q61 q831 hd_m_Mo_lead rfl rfl ⟨Nat.le_of_ble_eq_true rfl, Nat.le_of_ble_eq_true rfl⟩ me_0 rfl rfl rfl hl.1 rfl (Nat.le_of_ble_eq_true rfl) d_Mo_champion_50 ⟨Nat.zero_le _, Nat.zero_le _⟩) hS (xA_up hS.1) (fun _ H locs hu50 hP hS _ _ => ?_)
              have hP : va_P E.1 xcl (mV E a h) H := hP
              refine lv_if_le (tgt := 60) hx hb d_Mo_champion_53 (by decide) (fun c53 => ?_) (fun c53 => ?_)
              · have hlit := brP _ hlit c53
                refine lv_iconst (v := (0 : Int32)) hx hb d_Mo_champion_60 (by decide) ?_
                refine lv_istore_n (lv' := [(2, .int (0 : Int32)), (0, .ref (a 0)), (1, .int x1), (3, .int x3)]) hx hb d_Mo_champion_61 rfl hl (by decide) rfl (fun ls hl => ?_)
                refine lv_iinc (v := (x3 + (1 : Int32))) (lv' := [(3, .int (x3 + (1 : Int32))), (2, .int (0 : Int32)), (0, .ref (a 0)), (1, .int x1)]) hx hb d_Mo_champion_62 hl (k := 3) rfl rfl (by decide) rfl (fun ls hl => ?_)
                refine lv_goto (tgt := 20) hx hb d_Mo_champion_65 (by decide) ?_
                exact ih x1 (0 : Int32) (x3 + (1 : Int32)) _ _ _ hlit hP hS (lv_sub hl [2, 3, 1, 0] rfl)
              · have hlit := brN _ hlit c53
                refine lv_iconst (v := (1 : Int32)) hx hb d_Mo_champion_56 (by decide) ?_
                refine lv_goto (tgt := 61) hx hb d_Mo_champion_57 (by decide) ?_
                refine lv_istore_n (lv' := [(2, .int (1 : Int32)), (0, .ref (a 0)), (1, .int x1), (3, .int x3)]) hx hb d_Mo_champion_61 rfl hl (by decide) rfl (fun ls hl => ?_)
                refine lv_iinc (v := (x3 + (1 : Int32))) (lv' := [(3, .int (x3 + (1 : Int32))), (2, .int (1 : Int32)), (0, .ref (a 0)), (1, .int x1)]) hx hb d_Mo_champion_62 hl (k := 3) rfl rfl (by decide) rfl (fun ls hl => ?_)
                refine lv_goto (tgt := 20) hx hb d_Mo_champion_65 (by decide) ?_
                exact ih x1 (1 : Int32) (x3 + (1 : Int32)) _ _ _ hlit hP hS (lv_sub hl [2, 3, 1, 0] rfl)
  have b2 : ∀ (n : Nat), ∀ (x1 : Int32) (H : Heap) (locs : List Loc) (ls : Array Slot), m_Mo_champion_b2 h n x1 = some r0 → va_P E.1 xcl (mV E a h) H → va_S (xA a 10 s.heap.size) s.heap H locs → lv_has ls 4 [(0, .ref (a 0)), (1, .int x1)] → W p l e rm_m_Mo_champion s m args below meth c H locs 0 0 Q (F0 m 2 ls []) := by
    intro n
    induction n with
    | zero => intro x1 H locs ls hlit hP hS hl; exact nnF hlit
    | succ n ih =>
      intro x1 H locs ls hlit hP hS hl
      refine lv_iload_n hx hb d_Mo_champion_2 rfl (lv_at hl 1 rfl) ?_
      refine lv_aload_n hx hb d_Mo_champion_3 rfl (lv_at hl 0 rfl) ?_
      refine mg_Mo_2 hx hb hts hown hK hP q673 d_Mo_champion_4 ?_
      refine lv_iconst (v := (0 : Int32)) hx hb d_Mo_champion_7 (by decide) ?_
      refine mald2 hx hb hK hP (j := 0) rfl (vpin_c (by decide)) d_Mo_champion_8 ?_
      refine lv_icmp_ge (tgt := 80) hx hb d_Mo_champion_9 (by decide) (fun c9 => ?_) (fun c9 => ?_)
      · have hlit := brP _ hlit c9
        refine lv_bipush (v := (-4 : Int32)) hx hb d_Mo_champion_80 (by decide) ?_
        cases hlit
        exact ret 0 _ _ _ _ trivial hP hS rfl d_Mo_champion_82
      · have hlit := brN _ hlit c9
        refine lv_aload_n hx hb d_Mo_champion_12 rfl (lv_at hl 0 rfl) ?_
        refine lv_iload_n hx hb d_Mo_champion_13 rfl (lv_at hl 1 rfl) ?_
        obtain ⟨r14, hl14, hlit⟩ := bindS hlit
        refine fCallI (fRunV (As := [.int x1]) (rest := []) (q0 := 0) (ci := 8) hx hb hml hown hts hK hN hP (cm_Mo_isLeft l E a ha h _ x1 (r0 := r14) hl14) q826 q827 q43 q61 q828 hd_m_Mo_isLeft rfl rfl ⟨Nat.le_of_ble_eq_true rfl, Nat.le_of_ble_eq_true rfl⟩ me_0 rfl rfl rfl hl.1 rfl (Nat.le_of_ble_eq_true rfl) d_Mo_champion_14 ⟨Nat.zero_le _, Nat.zero_le _⟩) hS (xA_up hS.1) (fun _ H locs hu14 hP hS _ _ => ?_)
        have hP : va_P E.1 xcl (mV E a h) H := hP
        refine lv_istore_n (lv' := [(2, .int r14), (0, .ref (a 0)), (1, .int x1)]) hx hb d_Mo_champion_17 rfl hl (by decide) rfl (fun ls hl => ?_)
        refine lv_iconst (v := (0 : Int32)) hx hb d_Mo_champion_18 (by decide) ?_
        refine lv_istore_n (lv' := [(3, .int (0 : Int32)), (2, .int r14), (0, .ref (a 0)), (1, .int x1)]) hx hb d_Mo_champion_19 rfl hl (by decide) rfl (fun ls hl => ?_)
        exact b20 (m_Mo_champion_b2 h n) ih FU x1 r14 (0 : Int32) _ _ _ hlit hP hS (lv_sub hl [2, 3, 1, 0] rfl)
  refine lv_iconst (v := (0 : Int32)) hx hb d_Mo_champion_0 (by decide) ?_
  refine lv_istore_n (lv' := [(1, .int (0 : Int32)), (0, .ref (a 0))]) hx hb d_Mo_champion_1 rfl hl (by decide) rfl (fun ls hl => ?_)
  exact b2 FU (0 : Int32) _ _ _ hlit hP hS (lv_sub hl [1, 0] rfl)

abbrev rm_m_Mo_middle : Room := { frames := 1, cells := 0, slots := 0, locals := 25 }
theorem hd_m_Mo_middle : y_Mo_middle.cls ≠ "java/lang/invoke/MethodHandle" ∧ y_Mo_middle.cls ≠ "java/lang/invoke/VarHandle" ∧ (parseMethodDescriptor y_Mo_middle.desc).map (fun d => d.parameters.length) = some 0 := by decide +kernel
set_option maxHeartbeats 4000000 in
set_option maxRecDepth 100000 in
theorem cm_Mo_middle (l : Launch) (E : mE) (a : Nat → Nat) (ha : xInj a 10) (h : Hp) (sz : Nat) {r0 : Int32} (hlit : m_Mo_middle h = some r0) : Met l y_Mo_middle (Cond.code y_Mo_middle b_Mo_middle 7 (some .int) :: TB) rm_m_Mo_middle (fPc [.ref (a 0)] E.1 (mtys E) sz (mV E a h)) (fQi (fun _ : Nat => True) r0 E.1 (fun (_ : Nat) => mV E a h) (xA a 10 sz)) 0 0 (xA a 10 sz) := by
  refine fl_startI (by decide) (Nat.le_of_ble_eq_true rfl) ?_
  intro p e s m args below meth c Q hx hb hml hown hts hsz hP hK hN ret ls hl
  subst hsz
  have hA : ∀ k, k < 10 → (xA a 10 s.heap.size) (a k) := xA_in
  have hS : va_S (xA a 10 s.heap.size) s.heap s.heap [] := va_S.rf
  have hl : lv_has ls 7 [(0, .ref (a 0))] := hl
  have b60 : ∀ (k25 : Int32 → Int32 → Int32 → Option Int32), (∀ (x1 : Int32) (x2 : Int32) (x3 : Int32) (H : Heap) (locs : List Loc) (ls : Array Slot), k25 x1 x2 x3 = some r0 → va_P E.1 xcl (mV E a h) H → va_S (xA a 10 s.heap.size) s.heap H locs → lv_has ls 7 [(0, .ref (a 0)), (1, .int x1), (2, .int x2), (3, .int x3)] → W p l e rm_m_Mo_middle s m args below meth c H locs 0 0 Q (F0 m 25 ls [])) → ∀ (k38 : Int32 → Int32 → Int32 → Int32 → Option Int32), (∀ (x1 : Int32) (x2 : Int32) (x3 : Int32) (x4 : Int32) (H : Heap) (locs : List Loc) (ls : Array Slot), k38 x1 x2 x3 x4 = some r0 → va_P E.1 xcl (mV E a h) H → va_S (xA a 10 s.heap.size) s.heap H locs → lv_has ls 7 [(0, .ref (a 0)), (1, .int x1), (2, .int x2), (3, .int x3), (4, .int x4)] → W p l e rm_m_Mo_middle s m args below meth c H locs 0 0 Q (F0 m 38 ls [])) → ∀ (n : Nat), ∀ (x1 : Int32) (x2 : Int32) (x3 : Int32) (x4 : Int32) (x5 : Int32) (x6 : Int32) (H : Heap) (locs : List Loc) (ls : Array Slot), m_Mo_middle_b60 k25 k38 h n x1 x2 x3 x4 x5 x6 = some r0 → va_P E.1 xcl (mV E a h) H → va_S (xA a 10 s.heap.size) s.heap H locs → lv_has ls 7 [(0, .ref (a 0)), (1, .int x1), (2, .int x2), (3, .int x3), (4, .int x4), (5, .int x5), (6, .int x6)] → W p l e rm_m_Mo_middle s m args below meth c H locs 0 0 Q (F0 m 60 ls []) := by
    intro k25 hk25 k38 hk38 n
    induction n with
    | zero => intro x1 x2 x3 x4 x5 x6 H locs ls hlit hP hS hl; exact nnF hlit
    | succ n ih =>
      intro x1 x2 x3 x4 x5 x6 H locs ls hlit hP hS hl
      refine lv_iload hx hb d_Mo_middle_60 (lv_at hl 6 rfl) ?_
      refine lv_aload_n hx hb d_Mo_middle_62 rfl (lv_at hl 0 rfl) ?_
      refine mg_Mo_2 hx hb hts hown hK hP q673 d_Mo_middle_63 ?_
      refine lv_iconst (v := (0 : Int32)) hx hb d_Mo_middle_66 (by decide) ?_
      refine mald2 hx hb hK hP (j := 0) rfl (vpin_c (by decide)) d_Mo_middle_67 ?_
      refine lv_icmp_ge (tgt := 134) hx hb d_Mo_middle_68 (by decide) (fun c68 => ?_) (fun c68 => ?_)
      · have hlit := brP _ hlit c68
        refine lv_iload_n hx hb d_Mo_middle_134 rfl (lv_at hl 1 rfl) ?_
        refine lv_iload hx hb d_Mo_middle_135 (lv_at hl 5 rfl) ?_
        refine lv_if_eq (tgt := 149) hx hb d_Mo_middle_137 (by decide) (fun c137 => ?_) (fun c137 => ?_)
        · have hlit := brP _ hlit c137
          refine lv_iconst (v := (-1 : Int32)) hx hb d_Mo_middle_149 (by decide) ?_
          refine lv_iand hx hb d_Mo_middle_150 ?_
          obtain ⟨y151, ey151, hlit⟩ := bindS hlit
          refine topn ey151 ?_
          refine lv_istore_n (lv' := [(1, .int y151), (0, .ref (a 0)), (2, .int x2), (3, .int x3), (4, .int x4), (5, .int x5), (6, .int x6)]) hx hb d_Mo_middle_151 rfl hl (by decide) rfl (fun ls hl => ?_)
          refine lv_iinc (v := (x4 + (1 : Int32))) (lv' := [(4, .int (x4 + (1 : Int32))), (1, .int y151), (0, .ref (a 0)), (2, .int x2), (3, .int x3), (5, .int x5), (6, .int x6)]) hx hb d_Mo_middle_152 hl (k := 4) rfl rfl (by decide) rfl (fun ls hl => ?_)
          refine lv_goto (tgt := 38) hx hb d_Mo_middle_155 (by decide) ?_
          exact hk38 y151 x2 x3 (x4 + (1 : Int32)) _ _ _ hlit hP hS (lv_sub hl [2, 1, 3, 4, 0] rfl)
        · have hlit := brN _ hlit c137
          refine lv_iconst (v := (1 : Int32)) hx hb d_Mo_middle_140 (by decide) ?_
          refine lv_iload hx hb d_Mo_middle_141 (lv_at hl 4 rfl) ?_
          refine lv_ishl hx hb d_Mo_middle_143 ?_
          refine lv_iconst (v := (-1 : Int32)) hx hb d_Mo_middle_144 (by decide) ?_
          refine lv_ixor hx hb d_Mo_middle_145 ?_
          refine lv_goto (tgt := 150) hx hb d_Mo_middle_146 (by decide) ?_
          refine lv_iand hx hb d_Mo_middle_150 ?_
          obtain ⟨y151, ey151, hlit⟩ := bindS hlit
          refine topn ey151 ?_
          refine lv_istore_n (lv' := [(1, .int y151), (0, .ref (a 0)), (2, .int x2), (3, .int x3), (4, .int x4), (5, .int x5), (6, .int x6)]) hx hb d_Mo_middle_151 rfl hl (by decide) rfl (fun ls hl => ?_)
          refine lv_iinc (v := (x4 + (1 : Int32))) (lv' := [(4, .int (x4 + (1 : Int32))), (1, .int y151), (0, .ref (a 0)), (2, .int x2), (3, .int x3), (5, .int x5), (6, .int x6)]) hx hb d_Mo_middle_152 hl (k := 4) rfl rfl (by decide) rfl (fun ls hl => ?_)
          refine lv_goto (tgt := 38) hx hb d_Mo_middle_155 (by decide) ?_
          exact hk38 y151 x2 x3 (x4 + (1 : Int32)) _ _ _ hlit hP hS (lv_sub hl [2, 1, 3, 4, 0] rfl)
      · have hlit := brN _ hlit c68
        refine lv_iload hx hb d_Mo_middle_71 (lv_at hl 5 rfl) ?_
        refine lv_if_eq (tgt := 125) hx hb d_Mo_middle_73 (by decide) (fun c73 => ?_) (fun c73 => ?_)
        · have hlit := brP _ hlit c73
          refine lv_iconst (v := (0 : Int32)) hx hb d_Mo_middle_125 (by decide) ?_
          refine lv_istore (lv' := [(5, .int (0 : Int32)), (0, .ref (a 0)), (1, .int x1), (2, .int x2), (3, .int x3), (4, .int x4), (6, .int x6)]) hx hb d_Mo_middle_126 hl (by decide) rfl (fun ls hl => ?_)
          refine lv_iinc (v := (x6 + (1 : Int32))) (lv' := [(6, .int (x6 + (1 : Int32))), (5, .int (0 : Int32)), (0, .ref (a 0)), (1, .int x1), (2, .int x2), (3, .int x3), (4, .int x4)]) hx hb d_Mo_middle_128 hl (k := 6) rfl rfl (by decide) rfl (fun ls hl => ?_)
          refine lv_goto (tgt := 60) hx hb d_Mo_middle_131 (by decide) ?_
          exact ih x1 x2 x3 x4 (0 : Int32) (x6 + (1 : Int32)) _ _ _ hlit hP hS (lv_sub hl [2, 3, 4, 5, 6, 1, 0] rfl)
        · have hlit := brN _ hlit c73
          refine lv_iload hx hb d_Mo_middle_76 (lv_at hl 6 rfl) ?_
          refine lv_iload hx hb d_Mo_middle_78 (lv_at hl 4 rfl) ?_
          refine lv_icmp_eq (tgt := 121) hx hb d_Mo_middle_80 (by decide) (fun c80 => ?_) (fun c80 => ?_)
          · have hlit := brP _ hlit c80
            refine lv_iconst (v := (1 : Int32)) hx hb d_Mo_middle_121 (by decide) ?_
            refine lv_goto (tgt := 126) hx hb d_Mo_middle_122 (by decide) ?_
            refine lv_istore (lv' := [(5, .int (1 : Int32)), (0, .ref (a 0)), (1, .int x1), (2, .int x2), (3, .int x3), (4, .int x4), (6, .int x6)]) hx hb d_Mo_middle_126 hl (by decide) rfl (fun ls hl => ?_)
            refine lv_iinc (v := (x6 + (1 : Int32))) (lv' := [(6, .int (x6 + (1 : Int32))), (5, .int (1 : Int32)), (0, .ref (a 0)), (1, .int x1), (2, .int x2), (3, .int x3), (4, .int x4)]) hx hb d_Mo_middle_128 hl (k := 6) rfl rfl (by decide) rfl (fun ls hl => ?_)
            refine lv_goto (tgt := 60) hx hb d_Mo_middle_131 (by decide) ?_
            exact ih x1 x2 x3 x4 (1 : Int32) (x6 + (1 : Int32)) _ _ _ hlit hP hS (lv_sub hl [2, 3, 4, 5, 6, 1, 0] rfl)
          · have hlit := brN _ hlit c80
            refine lv_iload_n hx hb d_Mo_middle_83 rfl (lv_at hl 2 rfl) ?_
            refine lv_iload hx hb d_Mo_middle_84 (lv_at hl 6 rfl) ?_
            obtain ⟨r86, hl86, hlit⟩ := bindS hlit
            refine fCallI (fRunS (As := [.int x2, .int x6]) (rest := []) hx hb hml hown hts hK hN hP (cm_Mo_has l E a ha h _ x2 x6 (r0 := r86) hl86) q756 q757 q61 q758 hd_m_Mo_has rfl rfl ⟨Nat.le_of_ble_eq_true rfl, Nat.le_of_ble_eq_true rfl⟩ rfl hl.1 rfl (Nat.le_of_ble_eq_true rfl) d_Mo_middle_86 ⟨Nat.zero_le _, Nat.zero_le _⟩) hS (xA_up hS.1) (fun _ H locs hu86 hP hS _ _ => ?_)
            have hP : va_P E.1 xcl (mV E a h) H := hP
            refine lv_if_eq (tgt := 121) hx hb d_Mo_middle_89 (by decide) (fun c89 => ?_) (fun c89 => ?_)
            · have hlit := brP _ hlit c89
              refine lv_iconst (v := (1 : Int32)) hx hb d_Mo_middle_121 (by decide) ?_
              refine lv_goto (tgt := 126) hx hb d_Mo_middle_122 (by decide) ?_
              refine lv_istore (lv' := [(5, .int (1 : Int32)), (0, .ref (a 0)), (1, .int x1), (2, .int x2), (3, .int x3), (4, .int x4), (6, .int x6)]) hx hb d_Mo_middle_126 hl (by decide) rfl (fun ls hl => ?_)
              refine lv_iinc (v := (x6 + (1 : Int32))) (lv' := [(6, .int (x6 + (1 : Int32))), (5, .int (1 : Int32)), (0, .ref (a 0)), (1, .int x1), (2, .int x2), (3, .int x3), (4, .int x4)]) hx hb d_Mo_middle_128 hl (k := 6) rfl rfl (by decide) rfl (fun ls hl => ?_)
              refine lv_goto (tgt := 60) hx hb d_Mo_middle_131 (by decide) ?_
              exact ih x1 x2 x3 x4 (1 : Int32) (x6 + (1 : Int32)) _ _ _ hlit hP hS (lv_sub hl [2, 3, 4, 5, 6, 1, 0] rfl)
            · have hlit := brN _ hlit c89
              refine lv_aload_n hx hb d_Mo_middle_92 rfl (lv_at hl 0 rfl) ?_
              refine lv_iload_n hx hb d_Mo_middle_93 rfl (lv_at hl 3 rfl) ?_
              refine lv_iload hx hb d_Mo_middle_94 (lv_at hl 4 rfl) ?_
              refine lv_aload_n hx hb d_Mo_middle_96 rfl (lv_at hl 0 rfl) ?_
              refine mg_Mo_5 hx hb hts hown hK hP q676 d_Mo_middle_97 ?_
              refine lv_iconst (v := (0 : Int32)) hx hb d_Mo_middle_100 (by decide) ?_
              refine mald4 hx hb hK hP (j := 0) rfl (vpin_c (by decide)) d_Mo_middle_101 ?_
              obtain ⟨r102, hl102, hlit⟩ := bindS hlit
              refine fCallI (fRunV (As := [.int x3, .int x4, .int (h 4 0)]) (rest := []) (q0 := 0) (ci := 8) hx hb hml hown hts hK hN hP (cm_Mo_worthAt l E a ha h _ x3 x4 (h 4 0) (r0 := r102) hl102) q759 q760 q34 q61 q761 hd_m_Mo_worthAt rfl rfl ⟨Nat.le_of_ble_eq_true rfl, Nat.le_of_ble_eq_true rfl⟩ me_0 rfl rfl rfl hl.1 rfl (Nat.le_of_ble_eq_true rfl) d_Mo_middle_102 ⟨Nat.zero_le _, Nat.zero_le _⟩) hS (xA_up hS.1) (fun _ H locs hu102 hP hS _ _ => ?_)
              have hP : va_P E.1 xcl (mV E a h) H := hP
              refine lv_aload_n hx hb d_Mo_middle_105 rfl (lv_at hl 0 rfl) ?_
              refine lv_iload_n hx hb d_Mo_middle_106 rfl (lv_at hl 3 rfl) ?_
              refine lv_iload hx hb d_Mo_middle_107 (lv_at hl 6 rfl) ?_
              refine lv_aload_n hx hb d_Mo_middle_109 rfl (lv_at hl 0 rfl) ?_
              refine mg_Mo_5 hx hb hts hown hK hP q676 d_Mo_middle_110 ?_
              refine lv_iconst (v := (0 : Int32)) hx hb d_Mo_middle_113 (by decide) ?_
              refine mald4 hx hb hK hP (j := 0) rfl (vpin_c (by decide)) d_Mo_middle_114 ?_
              obtain ⟨r115, hl115, hlit⟩ := bindS hlit
              refine fCallI (fRunV (As := [.int x3, .int x6, .int (h 4 0)]) (rest := [.int r102]) (q0 := 0) (ci := 8) hx hb hml hown hts hK hN hP (cm_Mo_worthAt l E a ha h _ x3 x6 (h 4 0) (r0 := r115) hl115) q759 q760 q34 q61 q761 hd_m_Mo_worthAt rfl rfl ⟨Nat.le_of_ble_eq_true rfl, Nat.le_of_ble_eq_true rfl⟩ me_0 rfl rfl rfl hl.1 rfl (Nat.le_of_ble_eq_true rfl) d_Mo_middle_115 ⟨Nat.zero_le _, Nat.zero_le _⟩) hS (xA_up hS.1) (fun _ H locs hu115 hP hS _ _ => ?_)
              have hP : va_P E.1 xcl (mV E a h) H := hP
              refine lv_icmp_ge (tgt := 125) hx hb d_Mo_middle_118 (by decide) (fun c118 => ?_) (fun c118 => ?_)
              · have hlit := brP _ hlit c118
                refine lv_iconst (v := (0 : Int32)) hx hb d_Mo_middle_125 (by decide) ?_
                refine lv_istore (lv' := [(5, .int (0 : Int32)), (0, .ref (a 0)), (1, .int x1), (2, .int x2), (3, .int x3), (4, .int x4), (6, .int x6)]) hx hb d_Mo_middle_126 hl (by decide) rfl (fun ls hl => ?_)
                refine lv_iinc (v := (x6 + (1 : Int32))) (lv' := [(6, .int (x6 + (1 : Int32))), (5, .int (0 : Int32)), (0, .ref (a 0)), (1, .int x1), (2, .int x2), (3, .int x3), (4, .int x4)]) hx hb d_Mo_middle_128 hl (k := 6) rfl rfl (by decide) rfl (fun ls hl => ?_)
                refine lv_goto (tgt := 60) hx hb d_Mo_middle_131 (by decide) ?_
                exact ih x1 x2 x3 x4 (0 : Int32) (x6 + (1 : Int32)) _ _ _ hlit hP hS (lv_sub hl [2, 3, 4, 5, 6, 1, 0] rfl)
              · have hlit := brN _ hlit c118
                refine lv_iconst (v := (1 : Int32)) hx hb d_Mo_middle_121 (by decide) ?_
                refine lv_goto (tgt := 126) hx hb d_Mo_middle_122 (by decide) ?_
                refine lv_istore (lv' := [(5, .int (1 : Int32)), (0, .ref (a 0)), (1, .int x1), (2, .int x2), (3, .int x3), (4, .int x4), (6, .int x6)]) hx hb d_Mo_middle_126 hl (by decide) rfl (fun ls hl => ?_)
                refine lv_iinc (v := (x6 + (1 : Int32))) (lv' := [(6, .int (x6 + (1 : Int32))), (5, .int (1 : Int32)), (0, .ref (a 0)), (1, .int x1), (2, .int x2), (3, .int x3), (4, .int x4)]) hx hb d_Mo_middle_128 hl (k := 6) rfl rfl (by decide) rfl (fun ls hl => ?_)
                refine lv_goto (tgt := 60) hx hb d_Mo_middle_131 (by decide) ?_
                exact ih x1 x2 x3 x4 (1 : Int32) (x6 + (1 : Int32)) _ _ _ hlit hP hS (lv_sub hl [2, 3, 4, 5, 6, 1, 0] rfl)
  have b38 : ∀ (k25 : Int32 → Int32 → Int32 → Option Int32), (∀ (x1 : Int32) (x2 : Int32) (x3 : Int32) (H : Heap) (locs : List Loc) (ls : Array Slot), k25 x1 x2 x3 = some r0 → va_P E.1 xcl (mV E a h) H → va_S (xA a 10 s.heap.size) s.heap H locs → lv_has ls 7 [(0, .ref (a 0)), (1, .int x1), (2, .int x2), (3, .int x3)] → W p l e rm_m_Mo_middle s m args below meth c H locs 0 0 Q (F0 m 25 ls [])) → ∀ (n : Nat), ∀ (x1 : Int32) (x2 : Int32) (x3 : Int32) (x4 : Int32) (H : Heap) (locs : List Loc) (ls : Array Slot), m_Mo_middle_b38 k25 h n x1 x2 x3 x4 = some r0 → va_P E.1 xcl (mV E a h) H → va_S (xA a 10 s.heap.size) s.heap H locs → lv_has ls 7 [(0, .ref (a 0)), (1, .int x1), (2, .int x2), (3, .int x3), (4, .int x4)] → W p l e rm_m_Mo_middle s m args below meth c H locs 0 0 Q (F0 m 38 ls []) := by
    intro k25 hk25 n
    induction n with
    | zero => intro x1 x2 x3 x4 H locs ls hlit hP hS hl; exact nnF hlit
    | succ n ih =>
      intro x1 x2 x3 x4 H locs ls hlit hP hS hl
      refine lv_iload hx hb d_Mo_middle_38 (lv_at hl 4 rfl) ?_
      refine lv_aload_n hx hb d_Mo_middle_40 rfl (lv_at hl 0 rfl) ?_
      refine mg_Mo_2 hx hb hts hown hK hP q673 d_Mo_middle_41 ?_
      refine lv_iconst (v := (0 : Int32)) hx hb d_Mo_middle_44 (by decide) ?_
      refine mald2 hx hb hK hP (j := 0) rfl (vpin_c (by decide)) d_Mo_middle_45 ?_
      refine lv_icmp_ge (tgt := 158) hx hb d_Mo_middle_46 (by decide) (fun c46 => ?_) (fun c46 => ?_)
      · have hlit := brP _ hlit c46
        refine lv_iinc (v := (x3 + (1 : Int32))) (lv' := [(3, .int (x3 + (1 : Int32))), (0, .ref (a 0)), (1, .int x1), (2, .int x2), (4, .int x4)]) hx hb d_Mo_middle_158 hl (k := 3) rfl rfl (by decide) rfl (fun ls hl => ?_)
        refine lv_goto (tgt := 25) hx hb d_Mo_middle_161 (by decide) ?_
        exact hk25 x1 x2 (x3 + (1 : Int32)) _ _ _ hlit hP hS (lv_sub hl [1, 2, 3, 0] rfl)
      · have hlit := brN _ hlit c46
        refine lv_iload_n hx hb d_Mo_middle_49 rfl (lv_at hl 2 rfl) ?_
        refine lv_iload hx hb d_Mo_middle_50 (lv_at hl 4 rfl) ?_
        obtain ⟨r52, hl52, hlit⟩ := bindS hlit
        refine fCallI (fRunS (As := [.int x2, .int x4]) (rest := []) hx hb hml hown hts hK hN hP (cm_Mo_has l E a ha h _ x2 x4 (r0 := r52) hl52) q756 q757 q61 q758 hd_m_Mo_has rfl rfl ⟨Nat.le_of_ble_eq_true rfl, Nat.le_of_ble_eq_true rfl⟩ rfl hl.1 rfl (Nat.le_of_ble_eq_true rfl) d_Mo_middle_52 ⟨Nat.zero_le _, Nat.zero_le _⟩) hS (xA_up hS.1) (fun _ H locs hu52 hP hS _ _ => ?_)
        have hP : va_P E.1 xcl (mV E a h) H := hP
        refine lv_istore (lv' := [(5, .int r52), (0, .ref (a 0)), (1, .int x1), (2, .int x2), (3, .int x3), (4, .int x4)]) hx hb d_Mo_middle_55 hl (by decide) rfl (fun ls hl => ?_)
        refine lv_iconst (v := (0 : Int32)) hx hb d_Mo_middle_57 (by decide) ?_
        refine lv_istore (lv' := [(6, .int (0 : Int32)), (5, .int r52), (0, .ref (a 0)), (1, .int x1), (2, .int x2), (3, .int x3), (4, .int x4)]) hx hb d_Mo_middle_58 hl (by decide) rfl (fun ls hl => ?_)
        exact b60 (k25) hk25 (m_Mo_middle_b38 k25 h n) ih FU x1 x2 x3 x4 r52 (0 : Int32) _ _ _ hlit hP hS (lv_sub hl [2, 3, 4, 5, 6, 1, 0] rfl)
  have b25 : ∀ (n : Nat), ∀ (x1 : Int32) (x2 : Int32) (x3 : Int32) (H : Heap) (locs : List Loc) (ls : Array Slot), m_Mo_middle_b25 h n x1 x2 x3 = some r0 → va_P E.1 xcl (mV E a h) H → va_S (xA a 10 s.heap.size) s.heap H locs → lv_has ls 7 [(0, .ref (a 0)), (1, .int x1), (2, .int x2), (3, .int x3)] → W p l e rm_m_Mo_middle s m args below meth c H locs 0 0 Q (F0 m 25 ls []) := by
    intro n
    induction n with
    | zero => intro x1 x2 x3 H locs ls hlit hP hS hl; exact nnF hlit
    | succ n ih =>
      intro x1 x2 x3 H locs ls hlit hP hS hl
      refine lv_iload_n hx hb d_Mo_middle_25 rfl (lv_at hl 3 rfl) ?_
      refine lv_aload_n hx hb d_Mo_middle_26 rfl (lv_at hl 0 rfl) ?_
      refine mg_Mo_2 hx hb hts hown hK hP q673 d_Mo_middle_27 ?_
      refine lv_iconst (v := (1 : Int32)) hx hb d_Mo_middle_30 (by decide) ?_
      refine mald2 hx hb hK hP (j := 1) rfl (vpin_c (by decide)) d_Mo_middle_31 ?_
      refine lv_icmp_ge (tgt := 164) hx hb d_Mo_middle_32 (by decide) (fun c32 => ?_) (fun c32 => ?_)
      · have hlit := brP _ hlit c32
        refine lv_iload_n hx hb d_Mo_middle_164 rfl (lv_at hl 1 rfl) ?_
        cases hlit
        exact ret 0 _ _ _ _ trivial hP hS rfl d_Mo_middle_165
      · have hlit := brN _ hlit c32
        refine lv_iconst (v := (0 : Int32)) hx hb d_Mo_middle_35 (by decide) ?_
        refine lv_istore (lv' := [(4, .int (0 : Int32)), (0, .ref (a 0)), (1, .int x1), (2, .int x2), (3, .int x3)]) hx hb d_Mo_middle_36 hl (by decide) rfl (fun ls hl => ?_)
        exact b38 (m_Mo_middle_b25 h n) ih FU x1 x2 x3 (0 : Int32) _ _ _ hlit hP hS (lv_sub hl [1, 2, 3, 4, 0] rfl)
  refine lv_aload_n hx hb d_Mo_middle_0 rfl (lv_at hl 0 rfl) ?_
  refine lv_aload_n hx hb d_Mo_middle_1 rfl (lv_at hl 0 rfl) ?_
  refine mg_Mo_5 hx hb hts hown hK hP q676 d_Mo_middle_2 ?_
  refine lv_iconst (v := (1 : Int32)) hx hb d_Mo_middle_5 (by decide) ?_
  refine mald4 hx hb hK hP (j := 1) rfl (vpin_c (by decide)) d_Mo_middle_6 ?_
  obtain ⟨r7, hl7, hlit⟩ := bindS hlit
  refine fCallI (fRunV (As := [.int (h 4 1)]) (rest := []) (q0 := 0) (ci := 8) hx hb hml hown hts hK hN hP (cm_Mo_leftBy l E a ha h _ (h 4 1) (r0 := r7) hl7) q762 q763 q35 q61 q764 hd_m_Mo_leftBy rfl rfl ⟨Nat.le_of_ble_eq_true rfl, Nat.le_of_ble_eq_true rfl⟩ me_0 rfl rfl rfl hl.1 rfl (Nat.le_of_ble_eq_true rfl) d_Mo_middle_7 ⟨Nat.zero_le _, Nat.zero_le _⟩) hS (xA_up hS.1) (fun _ H locs hu7 hP hS _ _ => ?_)
  have hP : va_P E.1 xcl (mV E a h) H := hP
  refine lv_istore_n (lv' := [(1, .int r7), (0, .ref (a 0))]) hx hb d_Mo_middle_10 rfl hl (by decide) rfl (fun ls hl => ?_)
  refine lv_iload_n hx hb d_Mo_middle_11 rfl (lv_at hl 0 rfl) ?_
  obtain ⟨r12, hl12, hlit⟩ := bindS hlit
  refine fCallI (fRunS (As := [.int r7]) (rest := []) hx hb hml hown hts hK hN hP (cm_Mo_ones l E a ha h _ r7 (r0 := r12) hl12) q794 q795 q61 q796 hd_m_Mo_ones rfl rfl ⟨Nat.le_of_ble_eq_true rfl, Nat.le_of_ble_eq_true rfl⟩ rfl hl.1 rfl (Nat.le_of_ble_eq_true rfl) d_Mo_middle_12 ⟨Nat.zero_le _, Nat.zero_le _⟩) hS (xA_up hS.1) (fun _ H locs hu12 hP hS _ _ => ?_)
  have hP : va_P E.1 xcl (mV E a h) H := hP
  refine lv_iconst (v := (1 : Int32)) hx hb d_Mo_middle_15 (by decide) ?_
  refine lv_icmp_ne (tgt := 21) hx hb d_Mo_middle_16 (by decide) (fun c16 => ?_) (fun c16 => ?_)
  · have hlit := brN _ hlit c16
    refine lv_iload_n hx hb d_Mo_middle_21 rfl (lv_at hl 0 rfl) ?_
    refine lv_istore_n (lv' := [(2, .int r7), (1, .int r7), (0, .ref (a 0))]) hx hb d_Mo_middle_22 rfl hl (by decide) rfl (fun ls hl => ?_)
    refine lv_iconst (v := (0 : Int32)) hx hb d_Mo_middle_23 (by decide) ?_
    refine lv_istore_n (lv' := [(3, .int (0 : Int32)), (2, .int r7), (1, .int r7), (0, .ref (a 0))]) hx hb d_Mo_middle_24 rfl hl (by decide) rfl (fun ls hl => ?_)
    exact b25 FU r7 r7 (0 : Int32) _ _ _ hlit hP hS (lv_sub hl [3, 2, 1, 0] rfl)
  · have hlit := brP _ hlit c16
    refine lv_iload_n hx hb d_Mo_middle_19 rfl (lv_at hl 0 rfl) ?_
    cases hlit
    exact ret 0 _ _ _ _ trivial hP hS rfl d_Mo_middle_20

abbrev rm_m_Mo_struck : Room := { frames := 2, cells := 0, slots := 0, locals := 50 }
theorem hd_m_Mo_struck : y_Mo_struck.cls ≠ "java/lang/invoke/MethodHandle" ∧ y_Mo_struck.cls ≠ "java/lang/invoke/VarHandle" ∧ (parseMethodDescriptor y_Mo_struck.desc).map (fun d => d.parameters.length) = some 1 := by decide +kernel
set_option maxHeartbeats 4000000 in
set_option maxRecDepth 100000 in
theorem cm_Mo_struck (l : Launch) (E : mE) (a : Nat → Nat) (ha : xInj a 10) (h : Hp) (sz : Nat) (p1 : Int32) {r0 : Int32} (hlit : m_Mo_struck p1 h = some r0) : Met l y_Mo_struck (Cond.code y_Mo_struck b_Mo_struck 4 (some .int) :: TB) rm_m_Mo_struck (fPc [.ref (a 0), .int p1] E.1 (mtys E) sz (mV E a h)) (fQi (fun _ : Nat => True) r0 E.1 (fun (_ : Nat) => mV E a h) (xA a 10 sz)) 0 0 (xA a 10 sz) := by
  refine fl_startI (by decide) (Nat.le_of_ble_eq_true rfl) ?_
  intro p e s m args below meth c Q hx hb hml hown hts hsz hP hK hN ret ls hl
  subst hsz
  have hA : ∀ k, k < 10 → (xA a 10 s.heap.size) (a k) := xA_in
  have hS : va_S (xA a 10 s.heap.size) s.heap s.heap [] := va_S.rf
  have hl : lv_has ls 4 [(0, .ref (a 0)), (1, .int p1)] := hl
  have b23 : ∀ (n : Nat), ∀ (x2 : Int32) (x3 : Int32) (H : Heap) (locs : List Loc) (ls : Array Slot), m_Mo_struck_b23 p1 h n x2 x3 = some r0 → va_P E.1 xcl (mV E a h) H → va_S (xA a 10 s.heap.size) s.heap H locs → lv_has ls 4 [(0, .ref (a 0)), (1, .int p1), (2, .int x2), (3, .int x3)] → W p l e rm_m_Mo_struck s m args below meth c H locs 0 0 Q (F0 m 23 ls []) := by
    intro n
    induction n with
    | zero => intro x2 x3 H locs ls hlit hP hS hl; exact nnF hlit
    | succ n ih =>
      intro x2 x3 H locs ls hlit hP hS hl
      refine lv_iload_n hx hb d_Mo_struck_23 rfl (lv_at hl 2 rfl) ?_
      obtain ⟨r24, hl24, hlit⟩ := bindS hlit
      refine fCallI (fRunS (As := [.int x2]) (rest := []) hx hb hml hown hts hK hN hP (cm_Mo_ones l E a ha h _ x2 (r0 := r24) hl24) q794 q795 q61 q796 hd_m_Mo_ones rfl rfl ⟨Nat.le_of_ble_eq_true rfl, Nat.le_of_ble_eq_true rfl⟩ rfl hl.1 rfl (Nat.le_of_ble_eq_true rfl) d_Mo_struck_24 ⟨Nat.zero_le _, Nat.zero_le _⟩) hS (xA_up hS.1) (fun _ H locs hu24 hP hS _ _ => ?_)
      have hP : va_P E.1 xcl (mV E a h) H := hP
      refine lv_iconst (v := (1 : Int32)) hx hb d_Mo_struck_27 (by decide) ?_
      refine lv_icmp_le (tgt := 64) hx hb d_Mo_struck_28 (by decide) (fun c28 => ?_) (fun c28 => ?_)
      · have hlit := brP _ hlit c28
        refine lv_aload_n hx hb d_Mo_struck_64 rfl (lv_at hl 0 rfl) ?_
        refine lv_iload_n hx hb d_Mo_struck_65 rfl (lv_at hl 1 rfl) ?_
        refine lv_iload_n hx hb d_Mo_struck_66 rfl (lv_at hl 2 rfl) ?_
        refine lv_aload_n hx hb d_Mo_struck_67 rfl (lv_at hl 0 rfl) ?_
        refine mg_Mo_5 hx hb hts hown hK hP q676 d_Mo_struck_68 ?_
        refine lv_iconst (v := (0 : Int32)) hx hb d_Mo_struck_71 (by decide) ?_
        refine mald4 hx hb hK hP (j := 0) rfl (vpin_c (by decide)) d_Mo_struck_72 ?_
        obtain ⟨r73, hl73, hlit⟩ := bindS hlit
        refine fCallI (fRunV (As := [.int p1, .int x2, .int (h 4 0)]) (rest := []) (q0 := 0) (ci := 8) hx hb hml hown hts hK hN hP (cm_Mo_leastOf l E a ha h _ p1 x2 (h 4 0) (r0 := r73) hl73) q844 q845 q45 q61 q846 hd_m_Mo_leastOf rfl rfl ⟨Nat.le_of_ble_eq_true rfl, Nat.le_of_ble_eq_true rfl⟩ me_0 rfl rfl rfl hl.1 rfl (Nat.le_of_ble_eq_true rfl) d_Mo_struck_73 ⟨Nat.zero_le _, Nat.zero_le _⟩) hS (xA_up hS.1) (fun _ H locs hu73 hP hS _ _ => ?_)
        have hP : va_P E.1 xcl (mV E a h) H := hP
        cases hlit
        exact ret 0 _ _ _ _ trivial hP hS rfl d_Mo_struck_76
      · have hlit := brN _ hlit c28
        refine lv_iload_n hx hb d_Mo_struck_31 rfl (lv_at hl 2 rfl) ?_
        refine lv_iconst (v := (1 : Int32)) hx hb d_Mo_struck_32 (by decide) ?_
        refine lv_aload_n hx hb d_Mo_struck_33 rfl (lv_at hl 0 rfl) ?_
        refine lv_iload_n hx hb d_Mo_struck_34 rfl (lv_at hl 3 rfl) ?_
        refine lv_iload_n hx hb d_Mo_struck_35 rfl (lv_at hl 2 rfl) ?_
        refine lv_aload_n hx hb d_Mo_struck_36 rfl (lv_at hl 0 rfl) ?_
        refine mg_Mo_5 hx hb hts hown hK hP q676 d_Mo_struck_37 ?_
        refine lv_iconst (v := (0 : Int32)) hx hb d_Mo_struck_40 (by decide) ?_
        refine mald4 hx hb hK hP (j := 0) rfl (vpin_c (by decide)) d_Mo_struck_41 ?_
        obtain ⟨r42, hl42, hlit⟩ := bindS hlit
        refine fCallI (fRunV (As := [.int x3, .int x2, .int (h 4 0)]) (rest := [.int (1 : Int32), .int x2]) (q0 := 0) (ci := 8) hx hb hml hown hts hK hN hP (cm_Mo_leastOf l E a ha h _ x3 x2 (h 4 0) (r0 := r42) hl42) q844 q845 q45 q61 q846 hd_m_Mo_leastOf rfl rfl ⟨Nat.le_of_ble_eq_true rfl, Nat.le_of_ble_eq_true rfl⟩ me_0 rfl rfl rfl hl.1 rfl (Nat.le_of_ble_eq_true rfl) d_Mo_struck_42 ⟨Nat.zero_le _, Nat.zero_le _⟩) hS (xA_up hS.1) (fun _ H locs hu42 hP hS _ _ => ?_)
        have hP : va_P E.1 xcl (mV E a h) H := hP
        refine lv_ishl hx hb d_Mo_struck_45 ?_
        refine lv_iconst (v := (-1 : Int32)) hx hb d_Mo_struck_46 (by decide) ?_
        refine lv_ixor hx hb d_Mo_struck_47 ?_
        refine lv_iand hx hb d_Mo_struck_48 ?_
        obtain ⟨y49, ey49, hlit⟩ := bindS hlit
        refine topn ey49 ?_
        refine lv_istore_n (lv' := [(2, .int y49), (0, .ref (a 0)), (1, .int p1), (3, .int x3)]) hx hb d_Mo_struck_49 rfl hl (by decide) rfl (fun ls hl => ?_)
        refine lv_iload_n hx hb d_Mo_struck_50 rfl (lv_at hl 3 rfl) ?_
        refine lv_iconst (v := (1 : Int32)) hx hb d_Mo_struck_51 (by decide) ?_
        refine lv_iadd hx hb d_Mo_struck_52 ?_
        refine lv_aload_n hx hb d_Mo_struck_53 rfl (lv_at hl 1 rfl) ?_
        refine mg_Mo_2 hx hb hts hown hK hP q673 d_Mo_struck_54 ?_
        refine lv_iconst (v := (1 : Int32)) hx hb d_Mo_struck_57 (by decide) ?_
        refine mald2 hx hb hK hP (j := 1) rfl (vpin_c (by decide)) d_Mo_struck_58 ?_
        obtain ⟨g59, hlit⟩ := gdP _ hlit
        refine lv_irem hx hb d_Mo_struck_59 g59 ?_
        obtain ⟨y60, ey60, hlit⟩ := bindS hlit
        refine topn ey60 ?_
        refine lv_istore_n (lv' := [(3, .int y60), (2, .int y49), (0, .ref (a 0)), (1, .int p1)]) hx hb d_Mo_struck_60 rfl hl (by decide) rfl (fun ls hl => ?_)
        refine lv_goto (tgt := 23) hx hb d_Mo_struck_61 (by decide) ?_
        exact ih y49 y60 _ _ _ hlit hP hS (lv_sub hl [2, 3, 1, 0] rfl)
  refine lv_aload_n hx hb d_Mo_struck_0 rfl (lv_at hl 0 rfl) ?_
  refine lv_iload_n hx hb d_Mo_struck_1 rfl (lv_at hl 1 rfl) ?_
  obtain ⟨r2, hl2, hlit⟩ := bindS hlit
  refine fCallI (fRunV (As := [.int p1]) (rest := []) (q0 := 0) (ci := 8) hx hb hml hown hts hK hN hP (cm_Mo_isGuest l E a ha h _ p1 (r0 := r2) hl2) q750 q751 q32 q61 q752 hd_m_Mo_isGuest rfl rfl ⟨Nat.le_of_ble_eq_true rfl, Nat.le_of_ble_eq_true rfl⟩ me_0 rfl rfl rfl hl.1 rfl (Nat.le_of_ble_eq_true rfl) d_Mo_struck_2 ⟨Nat.zero_le _, Nat.zero_le _⟩) hS (xA_up hS.1) (fun _ H locs hu2 hP hS _ _ => ?_)
  have hP : va_P E.1 xcl (mV E a h) H := hP
  refine lv_if_ne (tgt := 10) hx hb d_Mo_struck_5 (by decide) (fun c5 => ?_) (fun c5 => ?_)
  · have hlit := brN _ hlit c5
    refine lv_aload_n hx hb d_Mo_struck_10 rfl (lv_at hl 0 rfl) ?_
    refine lv_aload_n hx hb d_Mo_struck_11 rfl (lv_at hl 0 rfl) ?_
    refine mg_Mo_5 hx hb hts hown hK hP q676 d_Mo_struck_12 ?_
    refine lv_iconst (v := (1 : Int32)) hx hb d_Mo_struck_15 (by decide) ?_
    refine mald4 hx hb hK hP (j := 1) rfl (vpin_c (by decide)) d_Mo_struck_16 ?_
    obtain ⟨r17, hl17, hlit⟩ := bindS hlit
    refine fCallI (fRunV (As := [.int (h 4 1)]) (rest := []) (q0 := 0) (ci := 8) hx hb hml hown hts hK hN hP (cm_Mo_leftBy l E a ha h _ (h 4 1) (r0 := r17) hl17) q762 q763 q35 q61 q764 hd_m_Mo_leftBy rfl rfl ⟨Nat.le_of_ble_eq_true rfl, Nat.le_of_ble_eq_true rfl⟩ me_0 rfl rfl rfl hl.1 rfl (Nat.le_of_ble_eq_true rfl) d_Mo_struck_17 ⟨Nat.zero_le _, Nat.zero_le _⟩) hS (xA_up hS.1) (fun _ H locs hu17 hP hS _ _ => ?_)
    have hP : va_P E.1 xcl (mV E a h) H := hP
    refine lv_istore_n (lv' := [(2, .int r17), (0, .ref (a 0)), (1, .int p1)]) hx hb d_Mo_struck_20 rfl hl (by decide) rfl (fun ls hl => ?_)
    refine lv_iload_n hx hb d_Mo_struck_21 rfl (lv_at hl 2 rfl) ?_
    refine lv_istore_n (lv' := [(3, .int p1), (2, .int r17), (0, .ref (a 0)), (1, .int p1)]) hx hb d_Mo_struck_22 rfl hl (by decide) rfl (fun ls hl => ?_)
    exact b23 FU r17 p1 _ _ _ hlit hP hS (lv_sub hl [2, 3, 1, 0] rfl)
  · have hlit := brP _ hlit c5
    refine lv_iconst (v := (-1 : Int32)) hx hb d_Mo_struck_8 (by decide) ?_
    cases hlit
    exact ret 0 _ _ _ _ trivial hP hS rfl d_Mo_struck_9

abbrev rm_m_Mo_both : Room := { frames := 1, cells := 0, slots := 0, locals := 25 }
theorem hd_m_Mo_both : y_Mo_both.cls ≠ "java/lang/invoke/MethodHandle" ∧ y_Mo_both.cls ≠ "java/lang/invoke/VarHandle" ∧ (parseMethodDescriptor y_Mo_both.desc).map (fun d => d.parameters.length) = some 2 := by decide +kernel
set_option maxHeartbeats 4000000 in
set_option maxRecDepth 100000 in
theorem cm_Mo_both (l : Launch) (E : mE) (a : Nat → Nat) (ha : xInj a 10) (h : Hp) (sz : Nat) (p1 : Int32) (p2 : Int32) {r0 : Int32} (hlit : m_Mo_both p1 p2 h = some r0) : Met l y_Mo_both (Cond.code y_Mo_both b_Mo_both 7 (some .int) :: TB) rm_m_Mo_both (fPc [.ref (a 0), .int p1, .int p2] E.1 (mtys E) sz (mV E a h)) (fQi (fun _ : Nat => True) r0 E.1 (fun (_ : Nat) => mV E a h) (xA a 10 sz)) 0 0 (xA a 10 sz) := by
  refine fl_startI (by decide) (Nat.le_of_ble_eq_true rfl) ?_
  intro p e s m args below meth c Q hx hb hml hown hts hsz hP hK hN ret ls hl
  subst hsz
  have hA : ∀ k, k < 10 → (xA a 10 s.heap.size) (a k) := xA_in
  have hS : va_S (xA a 10 s.heap.size) s.heap s.heap [] := va_S.rf
  have hl : lv_has ls 7 [(0, .ref (a 0)), (1, .int p1), (2, .int p2)] := hl
  have b5 : ∀ (n : Nat), ∀ (x3 : Int32) (x4 : Int32) (H : Heap) (locs : List Loc) (ls : Array Slot), m_Mo_both_b5 p1 p2 h n x3 x4 = some r0 → va_P E.1 xcl (mV E a h) H → va_S (xA a 10 s.heap.size) s.heap H locs → lv_has ls 7 [(0, .ref (a 0)), (1, .int p1), (2, .int p2), (3, .int x3), (4, .int x4)] → W p l e rm_m_Mo_both s m args below meth c H locs 0 0 Q (F0 m 5 ls []) := by
    intro n
    induction n with
    | zero => intro x3 x4 H locs ls hlit hP hS hl; exact nnF hlit
    | succ n ih =>
      intro x3 x4 H locs ls hlit hP hS hl
      refine lv_iload hx hb d_Mo_both_5 (lv_at hl 4 rfl) ?_
      refine lv_aload_n hx hb d_Mo_both_7 rfl (lv_at hl 0 rfl) ?_
      refine mg_Mo_2 hx hb hts hown hK hP q673 d_Mo_both_8 ?_
      refine lv_iconst (v := (1 : Int32)) hx hb d_Mo_both_11 (by decide) ?_
      refine mald2 hx hb hK hP (j := 1) rfl (vpin_c (by decide)) d_Mo_both_12 ?_
      refine lv_icmp_ge (tgt := 69) hx hb d_Mo_both_13 (by decide) (fun c13 => ?_) (fun c13 => ?_)
      · have hlit := brP _ hlit c13
        refine lv_iload_n hx hb d_Mo_both_69 rfl (lv_at hl 3 rfl) ?_
        cases hlit
        exact ret 0 _ _ _ _ trivial hP hS rfl d_Mo_both_70
      · have hlit := brN _ hlit c13
        refine lv_aload_n hx hb d_Mo_both_16 rfl (lv_at hl 0 rfl) ?_
        refine lv_iload hx hb d_Mo_both_17 (lv_at hl 4 rfl) ?_
        refine lv_iload_n hx hb d_Mo_both_19 rfl (lv_at hl 1 rfl) ?_
        refine lv_aload_n hx hb d_Mo_both_20 rfl (lv_at hl 0 rfl) ?_
        refine mg_Mo_5 hx hb hts hown hK hP q676 d_Mo_both_21 ?_
        refine lv_iconst (v := (0 : Int32)) hx hb d_Mo_both_24 (by decide) ?_
        refine mald4 hx hb hK hP (j := 0) rfl (vpin_c (by decide)) d_Mo_both_25 ?_
        obtain ⟨r26, hl26, hlit⟩ := bindS hlit
        refine fCallI (fRunV (As := [.int x4, .int p1, .int (h 4 0)]) (rest := []) (q0 := 0) (ci := 8) hx hb hml hown hts hK hN hP (cm_Mo_worthAt l E a ha h _ x4 p1 (h 4 0) (r0 := r26) hl26) q759 q760 q34 q61 q761 hd_m_Mo_worthAt rfl rfl ⟨Nat.le_of_ble_eq_true rfl, Nat.le_of_ble_eq_true rfl⟩ me_0 rfl rfl rfl hl.1 rfl (Nat.le_of_ble_eq_true rfl) d_Mo_both_26 ⟨Nat.zero_le _, Nat.zero_le _⟩) hS (xA_up hS.1) (fun _ H locs hu26 hP hS _ _ => ?_)
        have hP : va_P E.1 xcl (mV E a h) H := hP
        refine lv_istore (lv' := [(5, .int r26), (0, .ref (a 0)), (1, .int p1), (2, .int p2), (3, .int x3), (4, .int x4)]) hx hb d_Mo_both_29 hl (by decide) rfl (fun ls hl => ?_)
        refine lv_aload_n hx hb d_Mo_both_31 rfl (lv_at hl 1 rfl) ?_
        refine lv_iload hx hb d_Mo_both_32 (lv_at hl 5 rfl) ?_
        refine lv_iload_n hx hb d_Mo_both_34 rfl (lv_at hl 3 rfl) ?_
        refine lv_aload_n hx hb d_Mo_both_35 rfl (lv_at hl 1 rfl) ?_
        refine mg_Mo_5 hx hb hts hown hK hP q676 d_Mo_both_36 ?_
        refine lv_iconst (v := (0 : Int32)) hx hb d_Mo_both_39 (by decide) ?_
        refine mald4 hx hb hK hP (j := 0) rfl (vpin_c (by decide)) d_Mo_both_40 ?_
        obtain ⟨r41, hl41, hlit⟩ := bindS hlit
        refine fCallI (fRunV (As := [.int x4, .int p2, .int (h 4 0)]) (rest := []) (q0 := 0) (ci := 8) hx hb hml hown hts hK hN hP (cm_Mo_worthAt l E a ha h _ x4 p2 (h 4 0) (r0 := r41) hl41) q759 q760 q34 q61 q761 hd_m_Mo_worthAt rfl rfl ⟨Nat.le_of_ble_eq_true rfl, Nat.le_of_ble_eq_true rfl⟩ me_0 rfl rfl rfl hl.1 rfl (Nat.le_of_ble_eq_true rfl) d_Mo_both_41 ⟨Nat.zero_le _, Nat.zero_le _⟩) hS (xA_up hS.1) (fun _ H locs hu41 hP hS _ _ => ?_)
        have hP : va_P E.1 xcl (mV E a h) H := hP
        refine lv_istore (lv' := [(6, .int r41), (5, .int r26), (0, .ref (a 0)), (1, .int p1), (2, .int p2), (3, .int x3), (4, .int x4)]) hx hb d_Mo_both_44 hl (by decide) rfl (fun ls hl => ?_)
        refine lv_iload_n hx hb d_Mo_both_46 rfl (lv_at hl 5 rfl) ?_
        refine lv_iload hx hb d_Mo_both_47 (lv_at hl 1 rfl) ?_
        refine lv_iload hx hb d_Mo_both_49 (lv_at hl 0 rfl) ?_
        refine lv_icmp_le (tgt := 59) hx hb d_Mo_both_51 (by decide) (fun c51 => ?_) (fun c51 => ?_)
        · have hlit := brP _ hlit c51
          refine lv_iload hx hb d_Mo_both_59 (lv_at hl 0 rfl) ?_
          refine lv_iadd hx hb d_Mo_both_61 ?_
          obtain ⟨y62, ey62, hlit⟩ := bindS hlit
          refine topn ey62 ?_
          refine lv_istore_n (lv' := [(3, .int y62), (6, .int r41), (5, .int r26), (0, .ref (a 0)), (1, .int p1), (2, .int p2), (4, .int x4)]) hx hb d_Mo_both_62 rfl hl (by decide) rfl (fun ls hl => ?_)
          refine lv_iinc (v := (x4 + (1 : Int32))) (lv' := [(4, .int (x4 + (1 : Int32))), (3, .int y62), (6, .int r41), (5, .int r26), (0, .ref (a 0)), (1, .int p1), (2, .int p2)]) hx hb d_Mo_both_63 hl (k := 6) rfl rfl (by decide) rfl (fun ls hl => ?_)
          refine lv_goto (tgt := 5) hx hb d_Mo_both_66 (by decide) ?_
          exact ih y62 (x4 + (1 : Int32)) _ _ _ hlit hP hS (lv_sub hl [4, 5, 6, 1, 0] rfl)
        · have hlit := brN _ hlit c51
          refine lv_iload hx hb d_Mo_both_54 (lv_at hl 1 rfl) ?_
          refine lv_goto (tgt := 61) hx hb d_Mo_both_56 (by decide) ?_
          refine lv_iadd hx hb d_Mo_both_61 ?_
          obtain ⟨y62, ey62, hlit⟩ := bindS hlit
          refine topn ey62 ?_
          refine lv_istore_n (lv' := [(3, .int y62), (6, .int r41), (5, .int r26), (0, .ref (a 0)), (1, .int p1), (2, .int p2), (4, .int x4)]) hx hb d_Mo_both_62 rfl hl (by decide) rfl (fun ls hl => ?_)
          refine lv_iinc (v := (x4 + (1 : Int32))) (lv' := [(4, .int (x4 + (1 : Int32))), (3, .int y62), (6, .int r41), (5, .int r26), (0, .ref (a 0)), (1, .int p1), (2, .int p2)]) hx hb d_Mo_both_63 hl (k := 6) rfl rfl (by decide) rfl (fun ls hl => ?_)
          refine lv_goto (tgt := 5) hx hb d_Mo_both_66 (by decide) ?_
          exact ih y62 (x4 + (1 : Int32)) _ _ _ hlit hP hS (lv_sub hl [4, 5, 6, 1, 0] rfl)
  refine lv_iconst (v := (0 : Int32)) hx hb d_Mo_both_0 (by decide) ?_
  refine lv_istore_n (lv' := [(3, .int (0 : Int32)), (0, .ref (a 0)), (1, .int p1), (2, .int p2)]) hx hb d_Mo_both_1 rfl hl (by decide) rfl (fun ls hl => ?_)
  refine lv_iconst (v := (0 : Int32)) hx hb d_Mo_both_2 (by decide) ?_
  refine lv_istore (lv' := [(4, .int (0 : Int32)), (3, .int (0 : Int32)), (0, .ref (a 0)), (1, .int p1), (2, .int p2)]) hx hb d_Mo_both_3 hl (by decide) rfl (fun ls hl => ?_)
  exact b5 FU (0 : Int32) (0 : Int32) _ _ _ hlit hP hS (lv_sub hl [2, 3, 4, 1, 0] rfl)

abbrev rm_m_Mo_bestTwo : Room := { frames := 3, cells := 0, slots := 0, locals := 67 }
theorem hd_m_Mo_bestTwo : y_Mo_bestTwo.cls ≠ "java/lang/invoke/MethodHandle" ∧ y_Mo_bestTwo.cls ≠ "java/lang/invoke/VarHandle" ∧ (parseMethodDescriptor y_Mo_bestTwo.desc).map (fun d => d.parameters.length) = some 0 := by decide +kernel
set_option maxHeartbeats 4000000 in
set_option maxRecDepth 100000 in
theorem cm_Mo_bestTwo (l : Launch) (E : mE) (a : Nat → Nat) (ha : xInj a 10) (h : Hp) (sz : Nat) {r0 : Int32} (hlit : m_Mo_bestTwo h = some r0) : Met l y_Mo_bestTwo (Cond.code y_Mo_bestTwo b_Mo_bestTwo 7 (some .int) :: TB) rm_m_Mo_bestTwo (fPc [.ref (a 0)] E.1 (mtys E) sz (mV E a h)) (fQi (fun _ : Nat => True) r0 E.1 (fun (_ : Nat) => mV E a h) (xA a 10 sz)) 0 0 (xA a 10 sz) := by
  refine fl_startI (by decide) (Nat.le_of_ble_eq_true rfl) ?_
  intro p e s m args below meth c Q hx hb hml hown hts hsz hP hK hN ret ls hl
  subst hsz
  have hA : ∀ k, k < 10 → (xA a 10 s.heap.size) (a k) := xA_in
  have hS : va_S (xA a 10 s.heap.size) s.heap s.heap [] := va_S.rf
  have hl : lv_has ls 7 [(0, .ref (a 0))] := hl
  have b77 : ∀ (k8 : Int32 → Int32 → Int32 → Option Int32), (∀ (x1 : Int32) (x2 : Int32) (x3 : Int32) (H : Heap) (locs : List Loc) (ls : Array Slot), k8 x1 x2 x3 = some r0 → va_P E.1 xcl (mV E a h) H → va_S (xA a 10 s.heap.size) s.heap H locs → lv_has ls 7 [(0, .ref (a 0)), (1, .int x1), (2, .int x2), (3, .int x3)] → W p l e rm_m_Mo_bestTwo s m args below meth c H locs 0 0 Q (F0 m 8 ls [])) → ∀ (x2 : Int32) (x3 : Int32) (x6 : Int32) (s0 : Int32) (H : Heap) (locs : List Loc) (ls : Array Slot), m_Mo_bestTwo_b77 k8 h x2 x3 x6 s0 = some r0 → va_P E.1 xcl (mV E a h) H → va_S (xA a 10 s.heap.size) s.heap H locs → lv_has ls 7 [(0, .ref (a 0)), (2, .int x2), (3, .int x3), (6, .int x6)] → W p l e rm_m_Mo_bestTwo s m args below meth c H locs 0 0 Q (F0 m 77 ls [.int s0]) := by
    intro k8 hk8 x2 x3 x6 s0 H locs ls hlit hP hS hl
    refine lv_istore_n (lv' := [(1, .int s0), (0, .ref (a 0)), (2, .int x2), (3, .int x3), (6, .int x6)]) hx hb d_Mo_bestTwo_77 rfl hl (by decide) rfl (fun ls hl => ?_)
    refine lv_iload hx hb d_Mo_bestTwo_78 (lv_at hl 4 rfl) ?_
    refine lv_iload_n hx hb d_Mo_bestTwo_80 rfl (lv_at hl 2 rfl) ?_
    refine lv_icmp_le (tgt := 89) hx hb d_Mo_bestTwo_81 (by decide) (fun c81 => ?_) (fun c81 => ?_)
    · have hlit := brP _ hlit c81
      refine lv_iload_n hx hb d_Mo_bestTwo_89 rfl (lv_at hl 2 rfl) ?_
      refine lv_istore_n (lv' := [(2, .int x2), (1, .int s0), (0, .ref (a 0)), (3, .int x3), (6, .int x6)]) hx hb d_Mo_bestTwo_90 rfl hl (by decide) rfl (fun ls hl => ?_)
      refine lv_iinc (v := (x3 + (1 : Int32))) (lv' := [(3, .int (x3 + (1 : Int32))), (2, .int x2), (1, .int s0), (0, .ref (a 0)), (6, .int x6)]) hx hb d_Mo_bestTwo_91 hl (k := 3) rfl rfl (by decide) rfl (fun ls hl => ?_)
      refine lv_goto (tgt := 8) hx hb d_Mo_bestTwo_94 (by decide) ?_
      exact hk8 s0 x2 (x3 + (1 : Int32)) _ _ _ hlit hP hS (lv_sub hl [3, 2, 1, 0] rfl)
    · have hlit := brN _ hlit c81
      refine lv_iload hx hb d_Mo_bestTwo_84 (lv_at hl 4 rfl) ?_
      refine lv_goto (tgt := 90) hx hb d_Mo_bestTwo_86 (by decide) ?_
      refine lv_istore_n (lv' := [(2, .int x6), (1, .int s0), (0, .ref (a 0)), (3, .int x3), (6, .int x6)]) hx hb d_Mo_bestTwo_90 rfl hl (by decide) rfl (fun ls hl => ?_)
      refine lv_iinc (v := (x3 + (1 : Int32))) (lv' := [(3, .int (x3 + (1 : Int32))), (2, .int x6), (1, .int s0), (0, .ref (a 0)), (6, .int x6)]) hx hb d_Mo_bestTwo_91 hl (k := 3) rfl rfl (by decide) rfl (fun ls hl => ?_)
      refine lv_goto (tgt := 8) hx hb d_Mo_bestTwo_94 (by decide) ?_
      exact hk8 s0 x6 (x3 + (1 : Int32)) _ _ _ hlit hP hS (lv_sub hl [3, 2, 1, 0] rfl)
  have b64 : ∀ (k8 : Int32 → Int32 → Int32 → Option Int32), (∀ (x1 : Int32) (x2 : Int32) (x3 : Int32) (H : Heap) (locs : List Loc) (ls : Array Slot), k8 x1 x2 x3 = some r0 → va_P E.1 xcl (mV E a h) H → va_S (xA a 10 s.heap.size) s.heap H locs → lv_has ls 7 [(0, .ref (a 0)), (1, .int x1), (2, .int x2), (3, .int x3)] → W p l e rm_m_Mo_bestTwo s m args below meth c H locs 0 0 Q (F0 m 8 ls [])) → ∀ (x1 : Int32) (x2 : Int32) (x3 : Int32) (s0 : Int32) (H : Heap) (locs : List Loc) (ls : Array Slot), m_Mo_bestTwo_b64 k8 h x1 x2 x3 s0 = some r0 → va_P E.1 xcl (mV E a h) H → va_S (xA a 10 s.heap.size) s.heap H locs → lv_has ls 7 [(0, .ref (a 0)), (1, .int x1), (2, .int x2), (3, .int x3)] → W p l e rm_m_Mo_bestTwo s m args below meth c H locs 0 0 Q (F0 m 64 ls [.int s0]) := by
    intro k8 hk8 x1 x2 x3 s0 H locs ls hlit hP hS hl
    refine lv_istore (lv' := [(6, .int s0), (0, .ref (a 0)), (1, .int x1), (2, .int x2), (3, .int x3)]) hx hb d_Mo_bestTwo_64 hl (by decide) rfl (fun ls hl => ?_)
    refine lv_iload hx hb d_Mo_bestTwo_66 (lv_at hl 0 rfl) ?_
    refine lv_iload_n hx hb d_Mo_bestTwo_68 rfl (lv_at hl 3 rfl) ?_
    refine lv_icmp_le (tgt := 76) hx hb d_Mo_bestTwo_69 (by decide) (fun c69 => ?_) (fun c69 => ?_)
    · have hlit := brP _ hlit c69
      refine lv_iload_n hx hb d_Mo_bestTwo_76 rfl (lv_at hl 2 rfl) ?_
      exact b77 (k8) hk8 x2 x3 s0 x1 _ _ _ hlit hP hS (lv_sub hl [1, 3, 4, 0] rfl)
    · have hlit := brN _ hlit c69
      refine lv_iload_n hx hb d_Mo_bestTwo_72 rfl (lv_at hl 4 rfl) ?_
      refine lv_goto (tgt := 77) hx hb d_Mo_bestTwo_73 (by decide) ?_
      exact b77 (k8) hk8 x2 x3 s0 x3 _ _ _ hlit hP hS (lv_sub hl [1, 3, 4, 0] rfl)
  have b62 : ∀ (k8 : Int32 → Int32 → Int32 → Option Int32), (∀ (x1 : Int32) (x2 : Int32) (x3 : Int32) (H : Heap) (locs : List Loc) (ls : Array Slot), k8 x1 x2 x3 = some r0 → va_P E.1 xcl (mV E a h) H → va_S (xA a 10 s.heap.size) s.heap H locs → lv_has ls 7 [(0, .ref (a 0)), (1, .int x1), (2, .int x2), (3, .int x3)] → W p l e rm_m_Mo_bestTwo s m args below meth c H locs 0 0 Q (F0 m 8 ls [])) → ∀ (x1 : Int32) (x2 : Int32) (x3 : Int32) (H : Heap) (locs : List Loc) (ls : Array Slot), m_Mo_bestTwo_b62 k8 h x1 x2 x3 = some r0 → va_P E.1 xcl (mV E a h) H → va_S (xA a 10 s.heap.size) s.heap H locs → lv_has ls 7 [(0, .ref (a 0)), (1, .int x1), (2, .int x2), (3, .int x3)] → W p l e rm_m_Mo_bestTwo s m args below meth c H locs 0 0 Q (F0 m 62 ls []) := by
    intro k8 hk8 x1 x2 x3 H locs ls hlit hP hS hl
    refine lv_bipush (v := (-4 : Int32)) hx hb d_Mo_bestTwo_62 (by decide) ?_
    exact b64 (k8) hk8 x1 x2 x3 (-4 : Int32) _ _ _ hlit hP hS (lv_sub hl [0, 1, 2, 3] rfl)
  have b8 : ∀ (n : Nat), ∀ (x1 : Int32) (x2 : Int32) (x3 : Int32) (H : Heap) (locs : List Loc) (ls : Array Slot), m_Mo_bestTwo_b8 h n x1 x2 x3 = some r0 → va_P E.1 xcl (mV E a h) H → va_S (xA a 10 s.heap.size) s.heap H locs → lv_has ls 7 [(0, .ref (a 0)), (1, .int x1), (2, .int x2), (3, .int x3)] → W p l e rm_m_Mo_bestTwo s m args below meth c H locs 0 0 Q (F0 m 8 ls []) := by
    intro n
    induction n with
    | zero => intro x1 x2 x3 H locs ls hlit hP hS hl; exact nnF hlit
    | succ n ih =>
      intro x1 x2 x3 H locs ls hlit hP hS hl
      refine lv_iload_n hx hb d_Mo_bestTwo_8 rfl (lv_at hl 3 rfl) ?_
      refine lv_bipush (v := (64 : Int32)) hx hb d_Mo_bestTwo_9 (by decide) ?_
      refine lv_icmp_ge (tgt := 97) hx hb d_Mo_bestTwo_11 (by decide) (fun c11 => ?_) (fun c11 => ?_)
      · have hlit := brP _ hlit c11
        refine lv_iload_n hx hb d_Mo_bestTwo_97 rfl (lv_at hl 1 rfl) ?_
        cases hlit
        exact ret 0 _ _ _ _ trivial hP hS rfl d_Mo_bestTwo_98
      · have hlit := brN _ hlit c11
        refine lv_iload_n hx hb d_Mo_bestTwo_14 rfl (lv_at hl 3 rfl) ?_
        refine lv_bipush (v := (8 : Int32)) hx hb d_Mo_bestTwo_15 (by decide) ?_
        refine lv_idiv hx hb d_Mo_bestTwo_17 (by decide) ?_
        obtain ⟨y18, ey18, hlit⟩ := bindS hlit
        refine topn ey18 ?_
        refine lv_istore (lv' := [(4, .int y18), (0, .ref (a 0)), (1, .int x1), (2, .int x2), (3, .int x3)]) hx hb d_Mo_bestTwo_18 hl (by decide) rfl (fun ls hl => ?_)
        refine lv_iload_n hx hb d_Mo_bestTwo_20 rfl (lv_at hl 4 rfl) ?_
        refine lv_bipush (v := (8 : Int32)) hx hb d_Mo_bestTwo_21 (by decide) ?_
        refine lv_irem hx hb d_Mo_bestTwo_23 (by decide) ?_
        obtain ⟨y24, ey24, hlit⟩ := bindS hlit
        refine topn ey24 ?_
        refine lv_istore (lv' := [(5, .int y24), (4, .int y18), (0, .ref (a 0)), (1, .int x1), (2, .int x2), (3, .int x3)]) hx hb d_Mo_bestTwo_24 hl (by decide) rfl (fun ls hl => ?_)
        refine lv_iload hx hb d_Mo_bestTwo_26 (lv_at hl 1 rfl) ?_
        refine lv_iload hx hb d_Mo_bestTwo_28 (lv_at hl 0 rfl) ?_
        refine lv_icmp_ge (tgt := 62) hx hb d_Mo_bestTwo_30 (by decide) (fun c30 => ?_) (fun c30 => ?_)
        · have hlit := brP _ hlit c30
          exact b62 (m_Mo_bestTwo_b8 h n) ih x1 x2 x3 _ _ _ hlit hP hS (lv_sub hl [2, 3, 4, 5] rfl)
        · have hlit := brN _ hlit c30
          refine lv_aload_n hx hb d_Mo_bestTwo_33 rfl (lv_at hl 2 rfl) ?_
          refine lv_iload hx hb d_Mo_bestTwo_34 (lv_at hl 1 rfl) ?_
          obtain ⟨r36, hl36, hlit⟩ := bindS hlit
          refine fCallI (fRunV (As := [.int y18]) (rest := []) (q0 := 0) (ci := 8) hx hb hml hown hts hK hN hP (cm_Mo_isLeft l E a ha h _ y18 (r0 := r36) hl36) q826 q827 q43 q61 q828 hd_m_Mo_isLeft rfl rfl ⟨Nat.le_of_ble_eq_true rfl, Nat.le_of_ble_eq_true rfl⟩ me_0 rfl rfl rfl hl.1 rfl (Nat.le_of_ble_eq_true rfl) d_Mo_bestTwo_36 ⟨Nat.zero_le _, Nat.zero_le _⟩) hS (xA_up hS.1) (fun _ H locs hu36 hP hS _ _ => ?_)
          have hP : va_P E.1 xcl (mV E a h) H := hP
          refine lv_if_eq (tgt := 62) hx hb d_Mo_bestTwo_39 (by decide) (fun c39 => ?_) (fun c39 => ?_)
          · have hlit := brP _ hlit c39
            exact b62 (m_Mo_bestTwo_b8 h n) ih x1 x2 x3 _ _ _ hlit hP hS (lv_sub hl [2, 3, 4, 5] rfl)
          · have hlit := brN _ hlit c39
            refine lv_aload_n hx hb d_Mo_bestTwo_42 rfl (lv_at hl 2 rfl) ?_
            refine lv_iload hx hb d_Mo_bestTwo_43 (lv_at hl 0 rfl) ?_
            obtain ⟨r45, hl45, hlit⟩ := bindS hlit
            refine fCallI (fRunV (As := [.int y24]) (rest := []) (q0 := 0) (ci := 8) hx hb hml hown hts hK hN hP (cm_Mo_isLeft l E a ha h _ y24 (r0 := r45) hl45) q826 q827 q43 q61 q828 hd_m_Mo_isLeft rfl rfl ⟨Nat.le_of_ble_eq_true rfl, Nat.le_of_ble_eq_true rfl⟩ me_0 rfl rfl rfl hl.1 rfl (Nat.le_of_ble_eq_true rfl) d_Mo_bestTwo_45 ⟨Nat.zero_le _, Nat.zero_le _⟩) hS (xA_up hS.1) (fun _ H locs hu45 hP hS _ _ => ?_)
            have hP : va_P E.1 xcl (mV E a h) H := hP
            refine lv_if_eq (tgt := 62) hx hb d_Mo_bestTwo_48 (by decide) (fun c48 => ?_) (fun c48 => ?_)
            · have hlit := brP _ hlit c48
              exact b62 (m_Mo_bestTwo_b8 h n) ih x1 x2 x3 _ _ _ hlit hP hS (lv_sub hl [2, 3, 4, 5] rfl)
            · have hlit := brN _ hlit c48
              refine lv_aload_n hx hb d_Mo_bestTwo_51 rfl (lv_at hl 2 rfl) ?_
              refine lv_iload hx hb d_Mo_bestTwo_52 (lv_at hl 1 rfl) ?_
              refine lv_iload hx hb d_Mo_bestTwo_54 (lv_at hl 0 rfl) ?_
              obtain ⟨r56, hl56, hlit⟩ := bindS hlit
              refine fCallI (fRunV (As := [.int y18, .int y24]) (rest := []) (q0 := 0) (ci := 8) hx hb hml hown hts hK hN hP (cm_Mo_both l E a ha h _ y18 y24 (r0 := r56) hl56) q854 q855 q47 q61 q856 hd_m_Mo_both rfl rfl ⟨Nat.le_of_ble_eq_true rfl, Nat.le_of_ble_eq_true rfl⟩ me_0 rfl rfl rfl hl.1 rfl (Nat.le_of_ble_eq_true rfl) d_Mo_bestTwo_56 ⟨Nat.zero_le _, Nat.zero_le _⟩) hS (xA_up hS.1) (fun _ H locs hu56 hP hS _ _ => ?_)
              have hP : va_P E.1 xcl (mV E a h) H := hP
              refine lv_goto (tgt := 64) hx hb d_Mo_bestTwo_59 (by decide) ?_
              exact b64 (m_Mo_bestTwo_b8 h n) ih x1 x2 x3 r56 _ _ _ hlit hP hS (lv_sub hl [2, 3, 4, 5] rfl)
  refine lv_bipush (v := (-4 : Int32)) hx hb d_Mo_bestTwo_0 (by decide) ?_
  refine lv_istore_n (lv' := [(1, .int (-4 : Int32)), (0, .ref (a 0))]) hx hb d_Mo_bestTwo_2 rfl hl (by decide) rfl (fun ls hl => ?_)
  refine lv_bipush (v := (-4 : Int32)) hx hb d_Mo_bestTwo_3 (by decide) ?_
  refine lv_istore_n (lv' := [(2, .int (-4 : Int32)), (1, .int (-4 : Int32)), (0, .ref (a 0))]) hx hb d_Mo_bestTwo_5 rfl hl (by decide) rfl (fun ls hl => ?_)
  refine lv_iconst (v := (0 : Int32)) hx hb d_Mo_bestTwo_6 (by decide) ?_
  refine lv_istore_n (lv' := [(3, .int (0 : Int32)), (2, .int (-4 : Int32)), (1, .int (-4 : Int32)), (0, .ref (a 0))]) hx hb d_Mo_bestTwo_7 rfl hl (by decide) rfl (fun ls hl => ?_)
  exact b8 FU (-4 : Int32) (-4 : Int32) (0 : Int32) _ _ _ hlit hP hS (lv_sub hl [3, 2, 1, 0] rfl)
