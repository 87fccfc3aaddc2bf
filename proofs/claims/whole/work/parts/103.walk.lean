abbrev rm_x_Reader_readHunger : Room := { frames := 3, cells := 0, slots := 0, locals := 65 }
theorem hd_x_Reader_readHunger : y_Reader_readHunger.cls ≠ "java/lang/invoke/MethodHandle" ∧ y_Reader_readHunger.cls ≠ "java/lang/invoke/VarHandle" ∧ (parseMethodDescriptor y_Reader_readHunger.desc).map (fun d => d.parameters.length) = some 1 := by decide +kernel
set_option maxHeartbeats 4000000 in
set_option maxRecDepth 100000 in
theorem cx_Reader_readHunger (l : Launch) (E : xE) (a : Nat → Nat) (ha : xInj a 38) (u v : Nat) (mm : Nat) (h : Hp) (sz : Nat) (q1_ : Nat) (hq1_ : isU q1_ = true) {r0 : Int32} {h9 : Hp} (hlit : x_Reader_readHunger q1_ h = some (r0, h9)) : Met l y_Reader_readHunger (Cond.code y_Reader_readHunger b_Reader_readHunger 2 (some .boolean) :: TB) rm_x_Reader_readHunger (fPc [.ref (a 1), .ref (a q1_)] E.1 (xtys E) sz (xV E a u v mm h)) (fQi (fun _ : Nat => True) r0 E.1 (fun (_ : Nat) => xV E a u v mm h9) (xA a 38 sz)) 0 0 (xA a 38 sz) := by
  refine fl_startI (by decide) (Nat.le_of_ble_eq_true rfl) ?_
  intro p e s m args below meth c Q hx hb hml hown hts hsz hP hK hN ret ls hl
  subst hsz
  have hA : ∀ k, k < 38 → (xA a 38 s.heap.size) (a k) := xA_in
  have hS : va_S (xA a 38 s.heap.size) s.heap s.heap [] := va_S.rf
  have hl : lv_has ls 2 [(0, .ref (a 1)), (1, .ref (a q1_))] := hl
  refine lv_aload_n hx hb d_Reader_readHunger_0 rfl (lv_at hl 1 rfl) ?_
  refine lv_aload_n hx hb d_Reader_readHunger_1 rfl (lv_at hl 0 rfl) ?_
  obtain ⟨z2, hl2, hlit⟩ := bindS hlit
  refine fCallI (fRunV (As := []) (rest := [.ref (a q1_)]) (q0 := 1) (ci := 6) hx hb hml hown hts hK hN hP (cx_Reader_number l E a ha u v mm h _ (r0 := z2.1) (h9 := z2.2) hl2) q257 q258 q3 q50 q259 hd_x_Reader_number rfl rfl ⟨Nat.le_of_ble_eq_true rfl, Nat.le_of_ble_eq_true rfl⟩ xe_1 rfl rfl rfl hl.1 rfl (Nat.le_of_ble_eq_true rfl) d_Reader_readHunger_2 ⟨Nat.zero_le _, Nat.zero_le _⟩) hS (xA_up hS.1) (fun _ H locs hu2 hP hS _ _ => ?_)
  have hP : va_P E.1 xcl (xV E a u v mm z2.2) H := hP
  refine xp_Menu_4 hx hb hts hown hK hP ha hA hS hq1_ q161 d_Reader_readHunger_5 (fun H locs hP hS => ?_)
  obtain ⟨h_5, eh_5, hlit⟩ := bindS hlit
  rw [Option.some.inj eh_5] at hP
  refine lv_aload_n hx hb d_Reader_readHunger_8 rfl (lv_at hl 1 rfl) ?_
  refine xg_Menu_4 hx hb hts hown hK hP hq1_ q161 d_Reader_readHunger_9 ?_
  refine lv_iconst (v := (1 : Int32)) hx hb d_Reader_readHunger_12 (by decide) ?_
  refine lv_bipush (v := (60 : Int32)) hx hb d_Reader_readHunger_13 (by decide) ?_
  obtain ⟨r15, hl15, hlit⟩ := bindS hlit
  refine fCallI (fRunSN (As := [.int (h_5 q1_ 4), .int (1 : Int32), .int (60 : Int32)]) (rest := []) hx hb hml hown hts hK hN hP (cx_Nm_isOutside l E a ha u v mm h_5 _ (h_5 q1_ 4) (1 : Int32) (60 : Int32) (r0 := r15) hl15) (nw9 hN) q263 q49 q264 hd_x_Nm_isOutside rfl rfl ⟨Nat.le_of_ble_eq_true rfl, Nat.le_of_ble_eq_true rfl⟩ rfl hl.1 rfl (Nat.le_of_ble_eq_true rfl) d_Reader_readHunger_15 ⟨Nat.zero_le _, Nat.zero_le _⟩) hS (xA_up hS.1) (fun _ H locs hu15 hP hS _ _ => ?_)
  have hP : va_P E.1 xcl (xV E a u v mm h_5) H := hP
  refine lv_if_ne (tgt := 34) hx hb d_Reader_readHunger_18 (by decide) (fun c18 => ?_) (fun c18 => ?_)
  · have hlit := brN _ hlit c18
    refine lv_iconst (v := (0 : Int32)) hx hb d_Reader_readHunger_34 (by decide) ?_
    cases hlit
    exact ret 0 _ _ _ _ trivial hP hS rfl d_Reader_readHunger_35
  · have hlit := brP _ hlit c18
    refine lv_aload_n hx hb d_Reader_readHunger_21 rfl (lv_at hl 0 rfl) ?_
    refine lv_bipush (v := (59 : Int32)) hx hb d_Reader_readHunger_22 (by decide) ?_
    obtain ⟨z24, hl24, hlit⟩ := bindS hlit
    refine fCallI (fRunV (As := [.int (59 : Int32)]) (rest := []) (q0 := 1) (ci := 6) hx hb hml hown hts hK hN hP (cx_Reader_skip l E a ha u v mm h_5 _ (59 : Int32) (r0 := z24.1) (h9 := z24.2) hl24) q265 q266 q5 q50 q267 hd_x_Reader_skip rfl rfl ⟨Nat.le_of_ble_eq_true rfl, Nat.le_of_ble_eq_true rfl⟩ xe_1 rfl rfl rfl hl.1 rfl (Nat.le_of_ble_eq_true rfl) d_Reader_readHunger_24 ⟨Nat.zero_le _, Nat.zero_le _⟩) hS (xA_up hS.1) (fun _ H locs hu24 hP hS _ _ => ?_)
    have hP : va_P E.1 xcl (xV E a u v mm z24.2) H := hP
    refine lv_if_eq (tgt := 34) hx hb d_Reader_readHunger_27 (by decide) (fun c27 => ?_) (fun c27 => ?_)
    · have hlit := brP _ hlit c27
      refine lv_iconst (v := (0 : Int32)) hx hb d_Reader_readHunger_34 (by decide) ?_
      cases hlit
      exact ret 0 _ _ _ _ trivial hP hS rfl d_Reader_readHunger_35
    · have hlit := brN _ hlit c27
      refine lv_iconst (v := (1 : Int32)) hx hb d_Reader_readHunger_30 (by decide) ?_
      refine lv_goto (tgt := 35) hx hb d_Reader_readHunger_31 (by decide) ?_
      cases hlit
      exact ret 0 _ _ _ _ trivial hP hS rfl d_Reader_readHunger_35

abbrev rm_x_Reader_readItem : Room := { frames := 4, cells := 0, slots := 0, locals := 88 }
theorem hd_x_Reader_readItem : y_Reader_readItem.cls ≠ "java/lang/invoke/MethodHandle" ∧ y_Reader_readItem.cls ≠ "java/lang/invoke/VarHandle" ∧ (parseMethodDescriptor y_Reader_readItem.desc).map (fun d => d.parameters.length) = some 1 := by decide +kernel
set_option maxHeartbeats 4000000 in
set_option maxRecDepth 100000 in
theorem cx_Reader_readItem (l : Launch) (E : xE) (a : Nat → Nat) (ha : xInj a 38) (u v : Nat) (mm : Nat) (h : Hp) (sz : Nat) (q1_ : Nat) (hq1_ : isU q1_ = true) {r0 : Int32} {h9 : Hp} (hlit : x_Reader_readItem q1_ h = some (r0, h9)) : Met l y_Reader_readItem (Cond.code y_Reader_readItem b_Reader_readItem 3 (some .boolean) :: TB) rm_x_Reader_readItem (fPc [.ref (a 1), .ref (a q1_)] E.1 (xtys E) sz (xV E a u v mm h)) (fQi (fun _ : Nat => True) r0 E.1 (fun (_ : Nat) => xV E a u v mm h9) (xA a 38 sz)) 0 0 (xA a 38 sz) := by
  refine fl_startI (by decide) (Nat.le_of_ble_eq_true rfl) ?_
  intro p e s m args below meth c Q hx hb hml hown hts hsz hP hK hN ret ls hl
  subst hsz
  have hA : ∀ k, k < 38 → (xA a 38 s.heap.size) (a k) := xA_in
  have hS : va_S (xA a 38 s.heap.size) s.heap s.heap [] := va_S.rf
  have hl : lv_has ls 3 [(0, .ref (a 1)), (1, .ref (a q1_))] := hl
  refine lv_aload_n hx hb d_Reader_readItem_0 rfl (lv_at hl 0 rfl) ?_
  obtain ⟨r1, hl1, hlit⟩ := bindS hlit
  refine fCallI (fRunV (As := []) (rest := []) (q0 := 1) (ci := 6) hx hb hml hown hts hK hN hP (cx_Reader_peek l E a ha u v mm h _ (r0 := r1) hl1) q251 q252 q1 q50 q253 hd_x_Reader_peek rfl rfl ⟨Nat.le_of_ble_eq_true rfl, Nat.le_of_ble_eq_true rfl⟩ xe_1 rfl rfl rfl hl.1 rfl (Nat.le_of_ble_eq_true rfl) d_Reader_readItem_1 ⟨Nat.zero_le _, Nat.zero_le _⟩) hS (xA_up hS.1) (fun _ H locs hu1 hP hS _ _ => ?_)
  have hP : va_P E.1 xcl (xV E a u v mm h) H := hP
  refine lv_istore_n (lv' := [(2, .int r1), (0, .ref (a 1)), (1, .ref (a q1_))]) hx hb d_Reader_readItem_4 rfl hl (by decide) rfl (fun ls hl => ?_)
  refine lv_aload_n hx hb d_Reader_readItem_5 rfl (lv_at hl 1 rfl) ?_
  refine lv_dup hx hb d_Reader_readItem_6 rfl ?_
  refine xg_Reader_2 hx hb hts hown hK hP q80 d_Reader_readItem_7 ?_
  refine lv_iconst (v := (1 : Int32)) hx hb d_Reader_readItem_10 (by decide) ?_
  refine lv_iadd hx hb d_Reader_readItem_11 ?_
  refine xp_Reader_2 hx hb hts hown hK hP ha hA hS q80 d_Reader_readItem_12 (fun H locs hP hS => ?_)
  obtain ⟨h_12, eh_12, hlit⟩ := bindS hlit
  rw [Option.some.inj eh_12] at hP
  refine lv_iload_n hx hb d_Reader_readItem_15 rfl (lv_at hl 0 rfl) ?_
  refine lv_bipush (v := (100 : Int32)) hx hb d_Reader_readItem_16 (by decide) ?_
  refine lv_icmp_ne (tgt := 42) hx hb d_Reader_readItem_18 (by decide) (fun c18 => ?_) (fun c18 => ?_)
  · have hlit := brN _ hlit c18
    refine lv_aload_n hx hb d_Reader_readItem_42 rfl (lv_at hl 1 rfl) ?_
    refine lv_iconst (v := (0 : Int32)) hx hb d_Reader_readItem_43 (by decide) ?_
    refine xp_Reader_3 hx hb hts hown hK hP ha hA hS (Or.inl rfl) q81 d_Reader_readItem_44 (fun H locs hP hS => ?_)
    obtain ⟨h_44, eh_44, hlit⟩ := bindS hlit
    rw [Option.some.inj eh_44] at hP
    refine lv_iload_n hx hb d_Reader_readItem_47 rfl (lv_at hl 0 rfl) ?_
    by_cases c48_103 : r1 = 103
    · have hlit := brP _ hlit c48_103
      refine lv_lookup (off := 52) (tgt := 100) hx hb d_Reader_readItem_48 (by decide) (by rw [c48_103]; rfl) (by decide) ?_
      refine lv_aload_n hx hb d_Reader_readItem_100 rfl (lv_at hl 1 rfl) ?_
      refine lv_aload_n hx hb d_Reader_readItem_101 rfl (lv_at hl 2 rfl) ?_
      obtain ⟨z102, hl102, hlit⟩ := bindS hlit
      refine fCallI (fRunV (As := [.ref (a q1_)]) (rest := []) (q0 := 1) (ci := 6) hx hb hml hown hts hK hN hP (cx_Reader_readGuest l E a ha u v mm h_44 _ q1_ hq1_ (r0 := z102.1) (h9 := z102.2) hl102) q268 q269 q6 q50 q270 hd_x_Reader_readGuest rfl rfl ⟨Nat.le_of_ble_eq_true rfl, Nat.le_of_ble_eq_true rfl⟩ xe_1 rfl rfl rfl hl.1 rfl (Nat.le_of_ble_eq_true rfl) d_Reader_readItem_102 ⟨Nat.zero_le _, Nat.zero_le _⟩) hS (xA_up hS.1) (fun _ H locs hu102 hP hS _ _ => ?_)
      have hP : va_P E.1 xcl (xV E a u v mm z102.2) H := hP
      obtain ⟨g105, hlit⟩ := gdP _ hlit
      cases hlit
      exact ret 0 _ _ _ _ trivial hP hS (nar_b g105) d_Reader_readItem_105
    · have hlit := brN _ hlit c48_103
      by_cases c48_104 : r1 = 104
      · have hlit := brP _ hlit c48_104
        refine lv_lookup (off := 76) (tgt := 124) hx hb d_Reader_readItem_48 (by decide) (by rw [c48_104]; rfl) (by decide) ?_
        refine lv_aload_n hx hb d_Reader_readItem_124 rfl (lv_at hl 1 rfl) ?_
        refine lv_aload_n hx hb d_Reader_readItem_125 rfl (lv_at hl 2 rfl) ?_
        obtain ⟨z126, hl126, hlit⟩ := bindS hlit
        refine fCallI (fRunV (As := [.ref (a q1_)]) (rest := []) (q0 := 1) (ci := 6) hx hb hml hown hts hK hN hP (cx_Reader_readHunger l E a ha u v mm h_44 _ q1_ hq1_ (r0 := z126.1) (h9 := z126.2) hl126) q284 q285 q10 q50 q286 hd_x_Reader_readHunger rfl rfl ⟨Nat.le_of_ble_eq_true rfl, Nat.le_of_ble_eq_true rfl⟩ xe_1 rfl rfl rfl hl.1 rfl (Nat.le_of_ble_eq_true rfl) d_Reader_readItem_126 ⟨Nat.zero_le _, Nat.zero_le _⟩) hS (xA_up hS.1) (fun _ H locs hu126 hP hS _ _ => ?_)
        have hP : va_P E.1 xcl (xV E a u v mm z126.2) H := hP
        obtain ⟨g129, hlit⟩ := gdP _ hlit
        cases hlit
        exact ret 0 _ _ _ _ trivial hP hS (nar_b g129) d_Reader_readItem_129
      · have hlit := brN _ hlit c48_104
        by_cases c48_115 : r1 = 115
        · have hlit := brP _ hlit c48_115
          refine lv_lookup (off := 70) (tgt := 118) hx hb d_Reader_readItem_48 (by decide) (by rw [c48_115]; rfl) (by decide) ?_
          refine lv_aload_n hx hb d_Reader_readItem_118 rfl (lv_at hl 1 rfl) ?_
          refine lv_aload_n hx hb d_Reader_readItem_119 rfl (lv_at hl 2 rfl) ?_
          obtain ⟨z120, hl120, hlit⟩ := bindS hlit
          refine fCallI (fRunV (As := [.ref (a q1_)]) (rest := []) (q0 := 1) (ci := 6) hx hb hml hown hts hK hN hP (cx_Reader_readShuts l E a ha u v mm h_44 _ q1_ hq1_ (r0 := z120.1) (h9 := z120.2) hl120) q281 q282 q9 q50 q283 hd_x_Reader_readShuts rfl rfl ⟨Nat.le_of_ble_eq_true rfl, Nat.le_of_ble_eq_true rfl⟩ xe_1 rfl rfl rfl hl.1 rfl (Nat.le_of_ble_eq_true rfl) d_Reader_readItem_120 ⟨Nat.zero_le _, Nat.zero_le _⟩) hS (xA_up hS.1) (fun _ H locs hu120 hP hS _ _ => ?_)
          have hP : va_P E.1 xcl (xV E a u v mm z120.2) H := hP
          obtain ⟨g123, hlit⟩ := gdP _ hlit
          cases hlit
          exact ret 0 _ _ _ _ trivial hP hS (nar_b g123) d_Reader_readItem_123
        · have hlit := brN _ hlit c48_115
          by_cases c48_116 : r1 = 116
          · have hlit := brP _ hlit c48_116
            refine lv_lookup (off := 58) (tgt := 106) hx hb d_Reader_readItem_48 (by decide) (by rw [c48_116]; rfl) (by decide) ?_
            refine lv_aload_n hx hb d_Reader_readItem_106 rfl (lv_at hl 1 rfl) ?_
            refine lv_aload_n hx hb d_Reader_readItem_107 rfl (lv_at hl 2 rfl) ?_
            obtain ⟨z108, hl108, hlit⟩ := bindS hlit
            refine fCallI (fRunV (As := [.ref (a q1_)]) (rest := []) (q0 := 1) (ci := 6) hx hb hml hown hts hK hN hP (cx_Reader_readMinutes l E a ha u v mm h_44 _ q1_ hq1_ (r0 := z108.1) (h9 := z108.2) hl108) q271 q272 q7 q50 q273 hd_x_Reader_readMinutes rfl rfl ⟨Nat.le_of_ble_eq_true rfl, Nat.le_of_ble_eq_true rfl⟩ xe_1 rfl rfl rfl hl.1 rfl (Nat.le_of_ble_eq_true rfl) d_Reader_readItem_108 ⟨Nat.zero_le _, Nat.zero_le _⟩) hS (xA_up hS.1) (fun _ H locs hu108 hP hS _ _ => ?_)
            have hP : va_P E.1 xcl (xV E a u v mm z108.2) H := hP
            obtain ⟨g111, hlit⟩ := gdP _ hlit
            cases hlit
            exact ret 0 _ _ _ _ trivial hP hS (nar_b g111) d_Reader_readItem_111
          · have hlit := brN _ hlit c48_116
            by_cases c48_118 : r1 = 118
            · have hlit := brP _ hlit c48_118
              refine lv_lookup (off := 64) (tgt := 112) hx hb d_Reader_readItem_48 (by decide) (by rw [c48_118]; rfl) (by decide) ?_
              refine lv_aload_n hx hb d_Reader_readItem_112 rfl (lv_at hl 1 rfl) ?_
              refine lv_aload_n hx hb d_Reader_readItem_113 rfl (lv_at hl 2 rfl) ?_
              obtain ⟨z114, hl114, hlit⟩ := bindS hlit
              refine fCallI (fRunV (As := [.ref (a q1_)]) (rest := []) (q0 := 1) (ci := 6) hx hb hml hown hts hK hN hP (cx_Reader_readVetoes l E a ha u v mm h_44 _ q1_ hq1_ (r0 := z114.1) (h9 := z114.2) hl114) q278 q279 q8 q50 q280 hd_x_Reader_readVetoes rfl rfl ⟨Nat.le_of_ble_eq_true rfl, Nat.le_of_ble_eq_true rfl⟩ xe_1 rfl rfl rfl hl.1 rfl (Nat.le_of_ble_eq_true rfl) d_Reader_readItem_114 ⟨Nat.zero_le _, Nat.zero_le _⟩) hS (xA_up hS.1) (fun _ H locs hu114 hP hS _ _ => ?_)
              have hP : va_P E.1 xcl (xV E a u v mm z114.2) H := hP
              obtain ⟨g117, hlit⟩ := gdP _ hlit
              cases hlit
              exact ret 0 _ _ _ _ trivial hP hS (nar_b g117) d_Reader_readItem_117
            · have hlit := brN _ hlit c48_118
              refine lv_lookup (off := 82) (tgt := 130) hx hb d_Reader_readItem_48 (by decide) (by show Op.lookupswitch.offset [(103, 52), (104, 76), (115, 70), (116, 58), (118, 64)] 82 _ = 82; rw [lv_osw (a := 103) c48_103 (by decide), lv_osw (a := 104) c48_104 (by decide), lv_osw (a := 115) c48_115 (by decide), lv_osw (a := 116) c48_116 (by decide), lv_osw (a := 118) c48_118 (by decide)]; rfl) (by decide) ?_
              refine lv_iconst (v := (0 : Int32)) hx hb d_Reader_readItem_130 (by decide) ?_
              cases hlit
              exact ret 0 _ _ _ _ trivial hP hS rfl d_Reader_readItem_131
  · have hlit := brP _ hlit c18
    refine lv_aload_n hx hb d_Reader_readItem_21 rfl (lv_at hl 1 rfl) ?_
    refine xg_Reader_3 hx hb hts hown hK hP q81 d_Reader_readItem_22 ?_
    refine lv_if_eq (tgt := 40) hx hb d_Reader_readItem_25 (by decide) (fun c25 => ?_) (fun c25 => ?_)
    · have hlit := brP _ hlit c25
      refine lv_iconst (v := (0 : Int32)) hx hb d_Reader_readItem_40 (by decide) ?_
      cases hlit
      exact ret 0 _ _ _ _ trivial hP hS rfl d_Reader_readItem_41
    · have hlit := brN _ hlit c25
      refine lv_aload_n hx hb d_Reader_readItem_28 rfl (lv_at hl 1 rfl) ?_
      refine lv_aload_n hx hb d_Reader_readItem_29 rfl (lv_at hl 2 rfl) ?_
      obtain ⟨z30, hl30, hlit⟩ := bindS hlit
      refine fCallI (fRunV (As := [.ref (a q1_)]) (rest := []) (q0 := 1) (ci := 6) hx hb hml hown hts hK hN hP (cx_Reader_readDishes l E a ha u v mm h_12 _ q1_ hq1_ (r0 := z30.1) (h9 := z30.2) hl30) q254 q255 q2 q50 q256 hd_x_Reader_readDishes rfl rfl ⟨Nat.le_of_ble_eq_true rfl, Nat.le_of_ble_eq_true rfl⟩ xe_1 rfl rfl rfl hl.1 rfl (Nat.le_of_ble_eq_true rfl) d_Reader_readItem_30 ⟨Nat.zero_le _, Nat.zero_le _⟩) hS (xA_up hS.1) (fun _ H locs hu30 hP hS _ _ => ?_)
      have hP : va_P E.1 xcl (xV E a u v mm z30.2) H := hP
      refine lv_if_eq (tgt := 40) hx hb d_Reader_readItem_33 (by decide) (fun c33 => ?_) (fun c33 => ?_)
      · have hlit := brP _ hlit c33
        refine lv_iconst (v := (0 : Int32)) hx hb d_Reader_readItem_40 (by decide) ?_
        cases hlit
        exact ret 0 _ _ _ _ trivial hP hS rfl d_Reader_readItem_41
      · have hlit := brN _ hlit c33
        refine lv_iconst (v := (1 : Int32)) hx hb d_Reader_readItem_36 (by decide) ?_
        refine lv_goto (tgt := 41) hx hb d_Reader_readItem_37 (by decide) ?_
        cases hlit
        exact ret 0 _ _ _ _ trivial hP hS rfl d_Reader_readItem_41

abbrev rm_x_Reader_readInto : Room := { frames := 5, cells := 0, slots := 0, locals := 110 }
theorem hd_x_Reader_readInto : y_Reader_readInto.cls ≠ "java/lang/invoke/MethodHandle" ∧ y_Reader_readInto.cls ≠ "java/lang/invoke/VarHandle" ∧ (parseMethodDescriptor y_Reader_readInto.desc).map (fun d => d.parameters.length) = some 1 := by decide +kernel
set_option maxHeartbeats 4000000 in
set_option maxRecDepth 100000 in
theorem cx_Reader_readInto (l : Launch) (E : xE) (a : Nat → Nat) (ha : xInj a 38) (u v : Nat) (mm : Nat) (h : Hp) (sz : Nat) (q1_ : Nat) (hq1_ : isU q1_ = true) {r0 : Int32} {h9 : Hp} (hlit : x_Reader_readInto q1_ h = some (r0, h9)) : Met l y_Reader_readInto (Cond.code y_Reader_readInto b_Reader_readInto 4 (some .int) :: TB) rm_x_Reader_readInto (fPc [.ref (a 1), .ref (a q1_)] E.1 (xtys E) sz (xV E a u v mm h)) (fQi (fun _ : Nat => True) r0 E.1 (fun (_ : Nat) => xV E a u v mm h9) (xA a 38 sz)) 0 0 (xA a 38 sz) := by
  refine fl_startI (by decide) (Nat.le_of_ble_eq_true rfl) ?_
  intro p e s m args below meth c Q hx hb hml hown hts hsz hP hK hN ret ls hl
  subst hsz
  have hA : ∀ k, k < 38 → (xA a 38 s.heap.size) (a k) := xA_in
  have hS : va_S (xA a 38 s.heap.size) s.heap s.heap [] := va_S.rf
  have hl : lv_has ls 4 [(0, .ref (a 1)), (1, .ref (a q1_))] := hl
  have b16 : ∀ (n : Nat), ∀ (x2 : Int32) (h : Hp) (H : Heap) (locs : List Loc) (ls : Array Slot), x_Reader_readInto_b16 q1_ n x2 h = some (r0, h9) → va_P E.1 xcl (xV E a u v mm h) H → va_S (xA a 38 s.heap.size) s.heap H locs → lv_has ls 4 [(0, .ref (a 1)), (1, .ref (a q1_)), (2, .int x2)] → W p l e rm_x_Reader_readInto s m args below meth c H locs 0 0 Q (F0 m 16 ls []) := by
    intro n
    induction n with
    | zero => intro x2 h H locs ls hlit hP hS hl; exact nnF hlit
    | succ n ih =>
      intro x2 h H locs ls hlit hP hS hl
      refine lv_iload_n hx hb d_Reader_readInto_16 rfl (lv_at hl 2 rfl) ?_
      refine lv_sipush (v := (200 : Int32)) hx hb d_Reader_readInto_17 (by decide) ?_
      refine lv_icmp_ge (tgt := 55) hx hb d_Reader_readInto_20 (by decide) (fun c20 => ?_) (fun c20 => ?_)
      · have hlit := brP _ hlit c20
        refine lv_bipush (v := (-4 : Int32)) hx hb d_Reader_readInto_55 (by decide) ?_
        cases hlit
        exact ret 0 _ _ _ _ trivial hP hS rfl d_Reader_readInto_57
      · have hlit := brN _ hlit c20
        refine lv_aload_n hx hb d_Reader_readInto_23 rfl (lv_at hl 0 rfl) ?_
        refine xg_Reader_2 hx hb hts hown hK hP q80 d_Reader_readInto_24 ?_
        refine lv_aload_n hx hb d_Reader_readInto_27 rfl (lv_at hl 0 rfl) ?_
        refine xg_Reader_1 hx hb hts hown hK hP q79 d_Reader_readInto_28 ?_
        refine lv_icmp_ge (tgt := 55) hx hb d_Reader_readInto_31 (by decide) (fun c31 => ?_) (fun c31 => ?_)
        · have hlit := brP _ hlit c31
          refine lv_bipush (v := (-4 : Int32)) hx hb d_Reader_readInto_55 (by decide) ?_
          cases hlit
          exact ret 0 _ _ _ _ trivial hP hS rfl d_Reader_readInto_57
        · have hlit := brN _ hlit c31
          refine lv_aload_n hx hb d_Reader_readInto_34 rfl (lv_at hl 0 rfl) ?_
          refine xg_Reader_2 hx hb hts hown hK hP q80 d_Reader_readInto_35 ?_
          obtain ⟨y38, ey38, hlit⟩ := bindS hlit
          refine topn ey38 ?_
          refine lv_istore_n (lv' := [(3, .int y38), (0, .ref (a 1)), (1, .ref (a q1_)), (2, .int x2)]) hx hb d_Reader_readInto_38 rfl hl (by decide) rfl (fun ls hl => ?_)
          refine lv_aload_n hx hb d_Reader_readInto_39 rfl (lv_at hl 1 rfl) ?_
          refine lv_aload_n hx hb d_Reader_readInto_40 rfl (lv_at hl 2 rfl) ?_
          obtain ⟨z41, hl41, hlit⟩ := bindS hlit
          refine fCallI (fRunV (As := [.ref (a q1_)]) (rest := []) (q0 := 1) (ci := 6) hx hb hml hown hts hK hN hP (cx_Reader_readItem l E a ha u v mm h _ q1_ hq1_ (r0 := z41.1) (h9 := z41.2) hl41) q248 q249 q0 q50 q250 hd_x_Reader_readItem rfl rfl ⟨Nat.le_of_ble_eq_true rfl, Nat.le_of_ble_eq_true rfl⟩ xe_1 rfl rfl rfl hl.1 rfl (Nat.le_of_ble_eq_true rfl) d_Reader_readInto_41 ⟨Nat.zero_le _, Nat.zero_le _⟩) hS (xA_up hS.1) (fun _ H locs hu41 hP hS _ _ => ?_)
          have hP : va_P E.1 xcl (xV E a u v mm z41.2) H := hP
          refine lv_if_ne (tgt := 49) hx hb d_Reader_readInto_44 (by decide) (fun c44 => ?_) (fun c44 => ?_)
          · have hlit := brN _ hlit c44
            refine lv_iinc (v := (x2 + (1 : Int32))) (lv' := [(2, .int (x2 + (1 : Int32))), (3, .int y38), (0, .ref (a 1)), (1, .ref (a q1_))]) hx hb d_Reader_readInto_49 hl (k := 3) rfl rfl (by decide) rfl (fun ls hl => ?_)
            refine lv_goto (tgt := 16) hx hb d_Reader_readInto_52 (by decide) ?_
            exact ih (x2 + (1 : Int32)) z41.2 _ _ _ hlit hP hS (lv_sub hl [2, 3, 0] rfl)
          · have hlit := brP _ hlit c44
            refine lv_iload_n hx hb d_Reader_readInto_47 rfl (lv_at hl 0 rfl) ?_
            cases hlit
            exact ret 0 _ _ _ _ trivial hP hS rfl d_Reader_readInto_48
  refine lv_aload_n hx hb d_Reader_readInto_0 rfl (lv_at hl 1 rfl) ?_
  obtain ⟨h_1, hl1, hlit⟩ := bindS hlit
  refine fCallV (fRunV (As := []) (rest := []) (q0 := q1_) (ci := 1) hx hb hml hown hts hK hN hP (cx_Menu_clear l E a ha u v mm h _ q1_ hq1_ (h9 := h_1) hl1) q244 q245 q246 q55 q247 hd_x_Menu_clear rfl rfl ⟨Nat.le_of_ble_eq_true rfl, Nat.le_of_ble_eq_true rfl⟩ (xeU hq1_) rfl rfl rfl hl.1 rfl (Nat.le_of_ble_eq_true rfl) d_Reader_readInto_1 ⟨Nat.zero_le _, Nat.zero_le _⟩) hS (xA_up hS.1) (fun _ H locs hu1 hP hS _ _ => ?_)
  have hP : va_P E.1 xcl (xV E a u v mm h_1) H := hP
  refine lv_aload_n hx hb d_Reader_readInto_4 rfl (lv_at hl 0 rfl) ?_
  refine lv_iconst (v := (0 : Int32)) hx hb d_Reader_readInto_5 (by decide) ?_
  refine xp_Reader_2 hx hb hts hown hK hP ha hA hS q80 d_Reader_readInto_6 (fun H locs hP hS => ?_)
  obtain ⟨h_6, eh_6, hlit⟩ := bindS hlit
  rw [Option.some.inj eh_6] at hP
  refine lv_aload_n hx hb d_Reader_readInto_9 rfl (lv_at hl 0 rfl) ?_
  refine lv_iconst (v := (1 : Int32)) hx hb d_Reader_readInto_10 (by decide) ?_
  refine xp_Reader_3 hx hb hts hown hK hP ha hA hS (Or.inr rfl) q81 d_Reader_readInto_11 (fun H locs hP hS => ?_)
  obtain ⟨h_11, eh_11, hlit⟩ := bindS hlit
  rw [Option.some.inj eh_11] at hP
  refine lv_iconst (v := (0 : Int32)) hx hb d_Reader_readInto_14 (by decide) ?_
  refine lv_istore_n (lv' := [(2, .int (0 : Int32)), (0, .ref (a 1)), (1, .ref (a q1_))]) hx hb d_Reader_readInto_15 rfl hl (by decide) rfl (fun ls hl => ?_)
  exact b16 FU (0 : Int32) h_11 _ _ _ hlit hP hS (lv_sub hl [1, 2, 0] rfl)

abbrev rm_x_Nm_write : Room := { frames := 2, cells := 0, slots := 0, locals := 43 }
theorem hd_x_Nm_write : y_Nm_write.cls ≠ "java/lang/invoke/MethodHandle" ∧ y_Nm_write.cls ≠ "java/lang/invoke/VarHandle" ∧ (parseMethodDescriptor y_Nm_write.desc).map (fun d => d.parameters.length) = some 1 := by decide +kernel
set_option maxHeartbeats 4000000 in
set_option maxRecDepth 100000 in
theorem cx_Nm_write (l : Launch) (E : xE) (a : Nat → Nat) (ha : xInj a 38) (mm : Nat) (h : Hp) (sz : Nat) (p1 : Int32) {r0 : Int32} {h9 : Hp} (hlit : x_Nm_write p1 h = some (r0, h9)) : Met l y_Nm_write (Cond.code y_Nm_write b_Nm_write 2 (some .int) :: TB) rm_x_Nm_write (fPc [.ref (a 0), .int p1] E.1 (xtys E) sz (xV E a (a 6) (a 10) mm h)) (fQi (fun _ : Nat => True) r0 E.1 (fun (_ : Nat) => xV E a (a 6) (a 10) mm h9) (xA a 38 sz)) 0 0 (xA a 38 sz) := by
  refine fl_startI (by decide) (Nat.le_of_ble_eq_true rfl) ?_
  intro p e s m args below meth c Q hx hb hml hown hts hsz hP hK hN ret ls hl
  subst hsz
  have hA : ∀ k, k < 38 → (xA a 38 s.heap.size) (a k) := xA_in
  have hS : va_S (xA a 38 s.heap.size) s.heap s.heap [] := va_S.rf
  have hl : lv_has ls 2 [(0, .ref (a 0)), (1, .int p1)] := hl
  refine lv_iload_n hx hb d_Nm_write_0 rfl (lv_at hl 1 rfl) ?_
  refine lv_bipush (v := (32 : Int32)) hx hb d_Nm_write_1 (by decide) ?_
  refine lv_bipush (v := (126 : Int32)) hx hb d_Nm_write_3 (by decide) ?_
  obtain ⟨r5, hl5, hlit⟩ := bindS hlit
  refine fCallI (fRunS (As := [.int p1, .int (32 : Int32), .int (126 : Int32)]) (rest := []) hx hb hml hown hts hK hN hP (cx_Nm_isOutside l E a ha (a 6) (a 10) mm h _ p1 (32 : Int32) (126 : Int32) (r0 := r5) hl5) q310 q263 q49 q264 hd_x_Nm_isOutside rfl rfl ⟨Nat.le_of_ble_eq_true rfl, Nat.le_of_ble_eq_true rfl⟩ rfl hl.1 rfl (Nat.le_of_ble_eq_true rfl) d_Nm_write_5 ⟨Nat.zero_le _, Nat.zero_le _⟩) hS (xA_up hS.1) (fun _ H locs hu5 hP hS _ _ => ?_)
  have hP : va_P E.1 xcl (xV E a (a 6) (a 10) mm h) H := hP
  refine lv_if_eq (tgt := 13) hx hb d_Nm_write_8 (by decide) (fun c8 => ?_) (fun c8 => ?_)
  · have hlit := brP _ hlit c8
    refine lv_aload_n hx hb d_Nm_write_13 rfl (lv_at hl 0 rfl) ?_
    refine xg_Nm_0 hx hb hts hown hK hP q287 d_Nm_write_14 ?_
    refine xg_Reader_1 hx hb hts hown hK hP q78 d_Nm_write_17 ?_
    refine lv_sipush (v := (200 : Int32)) hx hb d_Nm_write_20 (by decide) ?_
    refine lv_icmp_lt (tgt := 29) hx hb d_Nm_write_23 (by decide) (fun c23 => ?_) (fun c23 => ?_)
    · have hlit := brP _ hlit c23
      refine lv_aload_n hx hb d_Nm_write_29 rfl (lv_at hl 0 rfl) ?_
      refine xg_Nm_0 hx hb hts hown hK hP q287 d_Nm_write_30 ?_
      refine lv_iload_n hx hb d_Nm_write_33 rfl (lv_at hl 1 rfl) ?_
      obtain ⟨h_34, hl34, hlit⟩ := bindS hlit
      refine fCallV (fRunV (As := [.int p1]) (rest := []) (q0 := 1) (ci := 6) hx hb hml hown hts hK hN hP (cx_Reader_append l E a ha (a 6) (a 10) mm h _ p1 (h9 := h_34) hl34) q234 q235 q236 q50 q237 hd_x_Reader_append rfl rfl ⟨Nat.le_of_ble_eq_true rfl, Nat.le_of_ble_eq_true rfl⟩ xe_1 rfl rfl rfl hl.1 rfl (Nat.le_of_ble_eq_true rfl) d_Nm_write_34 ⟨Nat.zero_le _, Nat.zero_le _⟩) hS (xA_up hS.1) (fun _ H locs hu34 hP hS _ _ => ?_)
      have hP : va_P E.1 xcl (xV E a (a 6) (a 10) mm h_34) H := hP
      refine lv_aload_n hx hb d_Nm_write_37 rfl (lv_at hl 0 rfl) ?_
      refine xg_Nm_0 hx hb hts hown hK hP q287 d_Nm_write_38 ?_
      refine xg_Reader_1 hx hb hts hown hK hP q78 d_Nm_write_41 ?_
      cases hlit
      exact ret 0 _ _ _ _ trivial hP hS rfl d_Nm_write_44
    · have hlit := brN _ hlit c23
      refine lv_bipush (v := (-3 : Int32)) hx hb d_Nm_write_26 (by decide) ?_
      cases hlit
      exact ret 0 _ _ _ _ trivial hP hS rfl d_Nm_write_28
  · have hlit := brN _ hlit c8
    refine lv_iconst (v := (-1 : Int32)) hx hb d_Nm_write_11 (by decide) ?_
    cases hlit
    exact ret 0 _ _ _ _ trivial hP hS rfl d_Nm_write_12

abbrev rm_x_Nm_wipe : Room := { frames := 0, cells := 0, slots := 0, locals := 0 }
theorem hd_x_Nm_wipe : y_Nm_wipe.cls ≠ "java/lang/invoke/MethodHandle" ∧ y_Nm_wipe.cls ≠ "java/lang/invoke/VarHandle" ∧ (parseMethodDescriptor y_Nm_wipe.desc).map (fun d => d.parameters.length) = some 0 := by decide +kernel
set_option maxHeartbeats 4000000 in
set_option maxRecDepth 100000 in
theorem cx_Nm_wipe (l : Launch) (E : xE) (a : Nat → Nat) (ha : xInj a 38) (mm : Nat) (h : Hp) (sz : Nat) {r0 : Int32} {h9 : Hp} (hlit : x_Nm_wipe h = some (r0, h9)) : Met l y_Nm_wipe (Cond.code y_Nm_wipe b_Nm_wipe 2 (some .int) :: TB) rm_x_Nm_wipe (fPc [.ref (a 0)] E.1 (xtys E) sz (xV E a (a 6) (a 10) mm h)) (fQi (fun _ : Nat => True) r0 E.1 (fun (_ : Nat) => xV E a (a 6) (a 10) mm h9) (xA a 38 sz)) 0 0 (xA a 38 sz) := by
  refine fl_startI (by decide) (Nat.le_of_ble_eq_true rfl) ?_
  intro p e s m args below meth c Q hx hb hml hown hts hsz hP hK hN ret ls hl
  subst hsz
  have hA : ∀ k, k < 38 → (xA a 38 s.heap.size) (a k) := xA_in
  have hS : va_S (xA a 38 s.heap.size) s.heap s.heap [] := va_S.rf
  have hl : lv_has ls 2 [(0, .ref (a 0))] := hl
  refine lv_aload_n hx hb d_Nm_wipe_0 rfl (lv_at hl 0 rfl) ?_
  refine xg_Nm_0 hx hb hts hown hK hP q287 d_Nm_wipe_1 ?_
  refine xg_Reader_1 hx hb hts hown hK hP q78 d_Nm_wipe_4 ?_
  obtain ⟨y7, ey7, hlit⟩ := bindS hlit
  refine topn ey7 ?_
  refine lv_istore_n (lv' := [(1, .int y7), (0, .ref (a 0))]) hx hb d_Nm_wipe_7 rfl hl (by decide) rfl (fun ls hl => ?_)
  refine lv_aload_n hx hb d_Nm_wipe_8 rfl (lv_at hl 1 rfl) ?_
  refine xg_Nm_0 hx hb hts hown hK hP q287 d_Nm_wipe_9 ?_
  refine lv_iconst (v := (0 : Int32)) hx hb d_Nm_wipe_12 (by decide) ?_
  refine xp_Reader_1 hx hb hts hown hK hP ha hA hS q78 d_Nm_wipe_13 (fun H locs hP hS => ?_)
  obtain ⟨h_13, eh_13, hlit⟩ := bindS hlit
  rw [Option.some.inj eh_13] at hP
  refine lv_iload_n hx hb d_Nm_wipe_16 rfl (lv_at hl 0 rfl) ?_
  cases hlit
  exact ret 0 _ _ _ _ trivial hP hS rfl d_Nm_wipe_17

abbrev rm_x_Nm_fault : Room := { frames := 6, cells := 0, slots := 0, locals := 133 }
theorem hd_x_Nm_fault : y_Nm_fault.cls ≠ "java/lang/invoke/MethodHandle" ∧ y_Nm_fault.cls ≠ "java/lang/invoke/VarHandle" ∧ (parseMethodDescriptor y_Nm_fault.desc).map (fun d => d.parameters.length) = some 0 := by decide +kernel
set_option maxHeartbeats 4000000 in
set_option maxRecDepth 100000 in
theorem cx_Nm_fault (l : Launch) (E : xE) (a : Nat → Nat) (ha : xInj a 38) (mm : Nat) (h : Hp) (sz : Nat) {r0 : Int32} {h9 : Hp} (hlit : x_Nm_fault h = some (r0, h9)) : Met l y_Nm_fault (Cond.code y_Nm_fault b_Nm_fault 1 (some .int) :: TB) rm_x_Nm_fault (fPc [.ref (a 0)] E.1 (xtys E) sz (xV E a (a 6) (a 10) mm h)) (fQi (fun _ : Nat => True) r0 E.1 (fun (_ : Nat) => xV E a (a 6) (a 10) mm h9) (xA a 38 sz)) 0 0 (xA a 38 sz) := by
  refine fl_startI (by decide) (Nat.le_of_ble_eq_true rfl) ?_
  intro p e s m args below meth c Q hx hb hml hown hts hsz hP hK hN ret ls hl
  subst hsz
  have hA : ∀ k, k < 38 → (xA a 38 s.heap.size) (a k) := xA_in
  have hS : va_S (xA a 38 s.heap.size) s.heap s.heap [] := va_S.rf
  have hl : lv_has ls 1 [(0, .ref (a 0))] := hl
  refine lv_aload_n hx hb d_Nm_fault_0 rfl (lv_at hl 0 rfl) ?_
  refine xg_Nm_0 hx hb hts hown hK hP q287 d_Nm_fault_1 ?_
  refine lv_aload_n hx hb d_Nm_fault_4 rfl (lv_at hl 0 rfl) ?_
  refine xg_Nm_8 hx hb hts hown hK hP q295 d_Nm_fault_5 ?_
  obtain ⟨z8, hl8, hlit⟩ := bindS hlit
  refine fCallI (fRunV (As := [.ref (a 10)]) (rest := []) (q0 := 1) (ci := 6) hx hb hml hown hts hK hN hP (cx_Reader_readInto l E a ha (a 6) (a 10) mm h _ 10 rfl (r0 := z8.1) (h9 := z8.2) hl8) q240 q241 q242 q50 q243 hd_x_Reader_readInto rfl rfl ⟨Nat.le_of_ble_eq_true rfl, Nat.le_of_ble_eq_true rfl⟩ xe_1 rfl rfl rfl hl.1 rfl (Nat.le_of_ble_eq_true rfl) d_Nm_fault_8 ⟨Nat.zero_le _, Nat.zero_le _⟩) hS (xA_up hS.1) (fun _ H locs hu8 hP hS _ _ => ?_)
  have hP : va_P E.1 xcl (xV E a (a 6) (a 10) mm z8.2) H := hP
  cases hlit
  exact ret 0 _ _ _ _ trivial hP hS rfl d_Nm_fault_11

abbrev rm_x_Nm_lay : Room := { frames := 6, cells := 0, slots := 0, locals := 133 }
theorem hd_x_Nm_lay : y_Nm_lay.cls ≠ "java/lang/invoke/MethodHandle" ∧ y_Nm_lay.cls ≠ "java/lang/invoke/VarHandle" ∧ (parseMethodDescriptor y_Nm_lay.desc).map (fun d => d.parameters.length) = some 0 := by decide +kernel
set_option maxHeartbeats 4000000 in
set_option maxRecDepth 100000 in
theorem cx_Nm_lay (l : Launch) (E : xE) (a : Nat → Nat) (ha : xInj a 38) (mm : Nat) (h : Hp) (sz : Nat) {r0 : Int32} {h9 : Hp} (hlit : x_Nm_lay h = some (r0, h9)) : Met l y_Nm_lay (Cond.code y_Nm_lay b_Nm_lay 2 (some .int) :: TB) rm_x_Nm_lay (fPc [.ref (a 0)] E.1 (xtys E) sz (xV E a (a 6) (a 10) mm h)) (fQi (fun z : (Nat → Nat) × Nat => xInj z.1 38 ∧ ∀ k, k < 38 → ∃ j, j < 38 ∧ z.1 k = a j) r0 E.1 (fun (z : (Nat → Nat) × Nat) => xV E z.1 (z.1 6) (z.1 10) z.2 h9) (xA a 38 sz)) 0 0 (xA a 38 sz) := by
  refine fl_startI (by decide) (Nat.le_of_ble_eq_true rfl) ?_
  intro p e s m args below meth c Q hx hb hml hown hts hsz hP hK hN ret ls hl
  subst hsz
  have hA : ∀ k, k < 38 → (xA a 38 s.heap.size) (a k) := xA_in
  have hS : va_S (xA a 38 s.heap.size) s.heap s.heap [] := va_S.rf
  have hl : lv_has ls 2 [(0, .ref (a 0))] := hl
  refine lv_aload_n hx hb d_Nm_lay_0 rfl (lv_at hl 0 rfl) ?_
  refine xg_Nm_0 hx hb hts hown hK hP q287 d_Nm_lay_1 ?_
  refine lv_aload_n hx hb d_Nm_lay_4 rfl (lv_at hl 0 rfl) ?_
  refine xg_Nm_8 hx hb hts hown hK hP q295 d_Nm_lay_5 ?_
  obtain ⟨z8, hl8, hlit⟩ := bindS hlit
  refine fCallI (fRunV (As := [.ref (a 10)]) (rest := []) (q0 := 1) (ci := 6) hx hb hml hown hts hK hN hP (cx_Reader_readInto l E a ha (a 6) (a 10) mm h _ 10 rfl (r0 := z8.1) (h9 := z8.2) hl8) q240 q241 q242 q50 q243 hd_x_Reader_readInto rfl rfl ⟨Nat.le_of_ble_eq_true rfl, Nat.le_of_ble_eq_true rfl⟩ xe_1 rfl rfl rfl hl.1 rfl (Nat.le_of_ble_eq_true rfl) d_Nm_lay_8 ⟨Nat.zero_le _, Nat.zero_le _⟩) hS (xA_up hS.1) (fun _ H locs hu8 hP hS _ _ => ?_)
  have hP : va_P E.1 xcl (xV E a (a 6) (a 10) mm z8.2) H := hP
  refine lv_bipush (v := (-4 : Int32)) hx hb d_Nm_lay_11 (by decide) ?_
  refine lv_icmp_ne (tgt := 26) hx hb d_Nm_lay_13 (by decide) (fun c13 => ?_) (fun c13 => ?_)
  · have hlit := brN _ hlit c13
    refine lv_bipush (v := (-2 : Int32)) hx hb d_Nm_lay_26 (by decide) ?_
    cases hlit
    exact ret (a, mm) _ _ _ _ ⟨ha, fun k hk => ⟨k, hk, rfl⟩⟩ hP hS rfl d_Nm_lay_28
  · have hlit := brP _ hlit c13
    refine lv_aload_n hx hb d_Nm_lay_16 rfl (lv_at hl 0 rfl) ?_
    refine xg_Nm_8 hx hb hts hown hK hP q295 d_Nm_lay_17 ?_
    refine xg_Menu_1 hx hb hts hown hK hP rfl q152 d_Nm_lay_20 ?_
    refine lv_if_ne (tgt := 29) hx hb d_Nm_lay_23 (by decide) (fun c23 => ?_) (fun c23 => ?_)
    · have hlit := brN _ hlit c23
      refine lv_aload_n hx hb d_Nm_lay_29 rfl (lv_at hl 0 rfl) ?_
      refine xg_Nm_7 hx hb hts hown hK hP q294 d_Nm_lay_30 ?_
      refine lv_astore_n (lv' := [(1, .ref (a 6)), (0, .ref (a 0))]) hx hb d_Nm_lay_33 rfl hl (by decide) rfl (fun ls hl => ?_)
      refine lv_aload_n hx hb d_Nm_lay_34 rfl (lv_at hl 1 rfl) ?_
      refine lv_aload_n hx hb d_Nm_lay_35 rfl (lv_at hl 1 rfl) ?_
      refine xg_Nm_8 hx hb hts hown hK hP q295 d_Nm_lay_36 ?_
      refine xp_Nm_7 hx hb hts hown hK hP ha hA hS q294 d_Nm_lay_39 (fun H locs hP hS => ?_)
      refine lv_aload_n hx hb d_Nm_lay_42 rfl (lv_at hl 1 rfl) ?_
      refine lv_aload_n hx hb d_Nm_lay_43 rfl (lv_at hl 0 rfl) ?_
      refine xp_Nm_8 hx hb hts hown hK hP ha hA hS q295 d_Nm_lay_44 (fun H locs hP hS => ?_)
      refine lv_aload_n hx hb d_Nm_lay_47 rfl (lv_at hl 1 rfl) ?_
      refine xg_Nm_1 hx hb hts hown hK hP q288 d_Nm_lay_48 ?_
      obtain ⟨h_51, hl51, hlit⟩ := bindS hlit
      refine fCallV (fRunV (As := []) (rest := []) (q0 := 3) (ci := 7) hx hb hml hown hts hK hN hP (cx_Table_clear l E a ha (a 10) (a 6) mm z8.2 _ 3 rfl (h9 := h_51) hl51) q323 q324 q325 q51 q326 hd_x_Table_clear rfl rfl ⟨Nat.le_of_ble_eq_true rfl, Nat.le_of_ble_eq_true rfl⟩ (xeT rfl) rfl rfl rfl hl.1 rfl (Nat.le_of_ble_eq_true rfl) d_Nm_lay_51 ⟨Nat.zero_le _, Nat.zero_le _⟩) hS (xA_up hS.1) (fun _ H locs hu51 hP hS _ _ => ?_)
      have hP : va_P E.1 xcl (xV E a (a 10) (a 6) mm h_51) H := hP
      refine lv_aload_n hx hb d_Nm_lay_54 rfl (lv_at hl 1 rfl) ?_
      refine xg_Nm_4 hx hb hts hown hK hP q291 d_Nm_lay_55 ?_
      refine lv_iconst (v := (0 : Int32)) hx hb d_Nm_lay_58 (by decide) ?_
      refine xp_Pilea_0 hx hb hts hown hK hP ha hA hS q111 d_Nm_lay_59 (fun H locs hP hS => ?_)
      obtain ⟨h_59, eh_59, hlit⟩ := bindS hlit
      rw [Option.some.inj eh_59] at hP
      refine lv_aload_n hx hb d_Nm_lay_62 rfl (lv_at hl 1 rfl) ?_
      refine xg_Nm_5 hx hb hts hown hK hP q292 d_Nm_lay_63 ?_
      refine lv_iconst (v := (0 : Int32)) hx hb d_Nm_lay_66 (by decide) ?_
      refine xp_Pileb_0 hx hb hts hown hK hP ha hA hS q111 d_Nm_lay_67 (fun H locs hP hS => ?_)
      obtain ⟨h_67, eh_67, hlit⟩ := bindS hlit
      rw [Option.some.inj eh_67] at hP
      refine lv_aload_n hx hb d_Nm_lay_70 rfl (lv_at hl 1 rfl) ?_
      refine xg_Nm_6 hx hb hts hown hK hP q293 d_Nm_lay_71 ?_
      refine lv_iconst (v := (0 : Int32)) hx hb d_Nm_lay_74 (by decide) ?_
      refine xp_Notes_0 hx hb hts hown hK hP ha hA hS q137 d_Nm_lay_75 (fun H locs hP hS => ?_)
      obtain ⟨h_75, eh_75, hlit⟩ := bindS hlit
      rw [Option.some.inj eh_75] at hP
      refine lv_aload_n hx hb d_Nm_lay_78 rfl (lv_at hl 1 rfl) ?_
      refine xg_Nm_7 hx hb hts hown hK hP q294 d_Nm_lay_79 ?_
      refine xg_Menu_1 hx hb hts hown hK hP rfl q152 d_Nm_lay_82 ?_
      have hP := x_swap hP
      cases hlit
      exact ret (sw a, mm) _ _ _ _ ⟨sw_inj ha, sw_set⟩ hP hS rfl d_Nm_lay_85
    · have hlit := brP _ hlit c23
      refine lv_bipush (v := (-2 : Int32)) hx hb d_Nm_lay_26 (by decide) ?_
      cases hlit
      exact ret (a, mm) _ _ _ _ ⟨ha, fun k hk => ⟨k, hk, rfl⟩⟩ hP hS rfl d_Nm_lay_28

abbrev rm_x_Nm_vetoesLeft : Room := { frames := 1, cells := 0, slots := 0, locals := 21 }
theorem hd_x_Nm_vetoesLeft : y_Nm_vetoesLeft.cls ≠ "java/lang/invoke/MethodHandle" ∧ y_Nm_vetoesLeft.cls ≠ "java/lang/invoke/VarHandle" ∧ (parseMethodDescriptor y_Nm_vetoesLeft.desc).map (fun d => d.parameters.length) = some 2 := by decide +kernel
set_option maxHeartbeats 4000000 in
set_option maxRecDepth 100000 in
theorem cx_Nm_vetoesLeft (l : Launch) (E : xE) (a : Nat → Nat) (ha : xInj a 38) (mm : Nat) (h : Hp) (sz : Nat) (q1_ : Nat) (hq1_ : isT q1_ = true) (p2 : Int32) {r0 : Int32} (hlit : x_Nm_vetoesLeft q1_ p2 h = some r0) : Met l y_Nm_vetoesLeft (Cond.code y_Nm_vetoesLeft b_Nm_vetoesLeft 3 (some .int) :: TB) rm_x_Nm_vetoesLeft (fPc [.ref (a 0), .ref (a q1_), .int p2] E.1 (xtys E) sz (xV E a (a 6) (a 10) mm h)) (fQi (fun _ : Nat => True) r0 E.1 (fun (_ : Nat) => xV E a (a 6) (a 10) mm h) (xA a 38 sz)) 0 0 (xA a 38 sz) := by
  refine fl_startI (by decide) (Nat.le_of_ble_eq_true rfl) ?_
  intro p e s m args below meth c Q hx hb hml hown hts hsz hP hK hN ret ls hl
  subst hsz
  have hA : ∀ k, k < 38 → (xA a 38 s.heap.size) (a k) := xA_in
  have hS : va_S (xA a 38 s.heap.size) s.heap s.heap [] := va_S.rf
  have hl : lv_has ls 3 [(0, .ref (a 0)), (1, .ref (a q1_)), (2, .int p2)] := hl
  refine lv_aload_n hx hb d_Nm_vetoesLeft_0 rfl (lv_at hl 0 rfl) ?_
  refine xg_Nm_7 hx hb hts hown hK hP q294 d_Nm_vetoesLeft_1 ?_
  refine xg_Menu_2 hx hb hts hown hK hP rfl q156 d_Nm_vetoesLeft_4 ?_
  refine lv_aload_n hx hb d_Nm_vetoesLeft_7 rfl (lv_at hl 1 rfl) ?_
  refine lv_iload_n hx hb d_Nm_vetoesLeft_8 rfl (lv_at hl 2 rfl) ?_
  obtain ⟨r9, hl9, hlit⟩ := bindS hlit
  refine fCallI (fRunV (As := [.int p2]) (rest := [.int (h 6 2)]) (q0 := q1_) (ci := 7) hx hb hml hown hts hK hN hP (cx_Table_spentBy l E a ha (a 6) (a 10) mm h _ q1_ hq1_ p2 (r0 := r9) hl9) q344 q345 q346 q51 q347 hd_x_Table_spentBy rfl rfl ⟨Nat.le_of_ble_eq_true rfl, Nat.le_of_ble_eq_true rfl⟩ (xeT hq1_) rfl rfl rfl hl.1 rfl (Nat.le_of_ble_eq_true rfl) d_Nm_vetoesLeft_9 ⟨Nat.zero_le _, Nat.zero_le _⟩) hS (xA_up hS.1) (fun _ H locs hu9 hP hS _ _ => ?_)
  have hP : va_P E.1 xcl (xV E a (a 6) (a 10) mm h) H := hP
  refine lv_isub hx hb d_Nm_vetoesLeft_12 ?_
  cases hlit
  exact ret 0 _ _ _ _ trivial hP hS rfl d_Nm_vetoesLeft_13

abbrev rm_x_Nm_at : Room := { frames := 1, cells := 0, slots := 0, locals := 20 }
theorem hd_x_Nm_at : y_Nm_at.cls ≠ "java/lang/invoke/MethodHandle" ∧ y_Nm_at.cls ≠ "java/lang/invoke/VarHandle" ∧ (parseMethodDescriptor y_Nm_at.desc).map (fun d => d.parameters.length) = some 2 := by decide +kernel
set_option maxHeartbeats 4000000 in
set_option maxRecDepth 100000 in
theorem cx_Nm_at (l : Launch) (E : xE) (a : Nat → Nat) (ha : xInj a 38) (mm : Nat) (h : Hp) (sz : Nat) (p1 : Int32) (p2 : Int32) {h9 : Hp} (hlit : x_Nm_at p1 p2 h = some h9) : Met l y_Nm_at (Cond.code y_Nm_at b_Nm_at 3 (some (.object "NoneMinds$Moment")) :: TB) rm_x_Nm_at (fPc [.ref (a 0), .int p1, .int p2] E.1 (xtys E) sz (xV E a (a 6) (a 10) mm h)) (fQq (fun _ : Nat => True) (some (a 5)) E.1 (fun (_ : Nat) => xV E a (a 6) (a 10) (a 6) h9) (xA a 38 sz)) 0 0 (xA a 38 sz) := by
  refine fl_startQ (by decide) (Nat.le_of_ble_eq_true rfl) ?_
  intro p e s m args below meth c Q hx hb hml hown hts hsz hP hK hN ret ls hl
  subst hsz
  have hA : ∀ k, k < 38 → (xA a 38 s.heap.size) (a k) := xA_in
  have hS : va_S (xA a 38 s.heap.size) s.heap s.heap [] := va_S.rf
  have hl : lv_has ls 3 [(0, .ref (a 0)), (1, .int p1), (2, .int p2)] := hl
  refine lv_aload_n hx hb d_Nm_at_0 rfl (lv_at hl 0 rfl) ?_
  refine xg_Nm_3 hx hb hts hown hK hP q290 d_Nm_at_1 ?_
  refine lv_aload_n hx hb d_Nm_at_4 rfl (lv_at hl 0 rfl) ?_
  refine xg_Nm_7 hx hb hts hown hK hP q294 d_Nm_at_5 ?_
  refine xp_Moment_0 hx hb hts hown hK hP ha hA hS q183 d_Nm_at_8 (fun H locs hP hS => ?_)
  refine lv_aload_n hx hb d_Nm_at_11 rfl (lv_at hl 0 rfl) ?_
  refine xg_Nm_3 hx hb hts hown hK hP q290 d_Nm_at_12 ?_
  refine lv_iload_n hx hb d_Nm_at_15 rfl (lv_at hl 1 rfl) ?_
  refine xp_Moment_1 hx hb hts hown hK hP ha hA hS q185 d_Nm_at_16 (fun H locs hP hS => ?_)
  obtain ⟨h_16, eh_16, hlit⟩ := bindS hlit
  rw [Option.some.inj eh_16] at hP
  refine lv_aload_n hx hb d_Nm_at_19 rfl (lv_at hl 0 rfl) ?_
  refine xg_Nm_3 hx hb hts hown hK hP q290 d_Nm_at_20 ?_
  refine lv_aload_n hx hb d_Nm_at_23 rfl (lv_at hl 0 rfl) ?_
  refine xg_Nm_7 hx hb hts hown hK hP q294 d_Nm_at_24 ?_
  obtain ⟨r27, hl27, hlit⟩ := bindS hlit
  refine fCallI (fRunV (As := []) (rest := [.ref (a 5)]) (q0 := 6) (ci := 1) hx hb hml hown hts hK hN hP (cx_Menu_allDishes l E a ha (a 6) (a 10) (a 6) h_16 _ 6 rfl (r0 := r27) hl27) q354 q355 q356 q55 q357 hd_x_Menu_allDishes rfl rfl ⟨Nat.le_of_ble_eq_true rfl, Nat.le_of_ble_eq_true rfl⟩ (xeU rfl) rfl rfl rfl hl.1 rfl (Nat.le_of_ble_eq_true rfl) d_Nm_at_27 ⟨Nat.zero_le _, Nat.zero_le _⟩) hS (xA_up hS.1) (fun _ H locs hu27 hP hS _ _ => ?_)
  have hP : va_P E.1 xcl (xV E a (a 6) (a 10) (a 6) h_16) H := hP
  refine lv_iload_n hx hb d_Nm_at_30 rfl (lv_at hl 2 rfl) ?_
  refine lv_iconst (v := (-1 : Int32)) hx hb d_Nm_at_31 (by decide) ?_
  refine lv_ixor hx hb d_Nm_at_32 ?_
  refine lv_iand hx hb d_Nm_at_33 ?_
  refine xp_Moment_2 hx hb hts hown hK hP ha hA hS q187 d_Nm_at_34 (fun H locs hP hS => ?_)
  obtain ⟨h_34, eh_34, hlit⟩ := bindS hlit
  rw [Option.some.inj eh_34] at hP
  refine lv_aload_n hx hb d_Nm_at_37 rfl (lv_at hl 0 rfl) ?_
  refine xg_Nm_3 hx hb hts hown hK hP q290 d_Nm_at_38 ?_
  cases hlit
  exact ret 0 _ _ _ _ trivial hP hS d_Nm_at_41

abbrev rm_x_Nm_now : Room := { frames := 2, cells := 0, slots := 0, locals := 42 }
theorem hd_x_Nm_now : y_Nm_now.cls ≠ "java/lang/invoke/MethodHandle" ∧ y_Nm_now.cls ≠ "java/lang/invoke/VarHandle" ∧ (parseMethodDescriptor y_Nm_now.desc).map (fun d => d.parameters.length) = some 0 := by decide +kernel
set_option maxHeartbeats 4000000 in
set_option maxRecDepth 100000 in
theorem cx_Nm_now (l : Launch) (E : xE) (a : Nat → Nat) (ha : xInj a 38) (mm : Nat) (h : Hp) (sz : Nat) {h9 : Hp} (hlit : x_Nm_now h = some h9) : Met l y_Nm_now (Cond.code y_Nm_now b_Nm_now 1 (some (.object "NoneMinds$Moment")) :: TB) rm_x_Nm_now (fPc [.ref (a 0)] E.1 (xtys E) sz (xV E a (a 6) (a 10) mm h)) (fQq (fun _ : Nat => True) (some (a 5)) E.1 (fun (_ : Nat) => xV E a (a 6) (a 10) (a 6) h9) (xA a 38 sz)) 0 0 (xA a 38 sz) := by
  refine fl_startQ (by decide) (Nat.le_of_ble_eq_true rfl) ?_
  intro p e s m args below meth c Q hx hb hml hown hts hsz hP hK hN ret ls hl
  subst hsz
  have hA : ∀ k, k < 38 → (xA a 38 s.heap.size) (a k) := xA_in
  have hS : va_S (xA a 38 s.heap.size) s.heap s.heap [] := va_S.rf
  have hl : lv_has ls 1 [(0, .ref (a 0))] := hl
  refine lv_aload_n hx hb d_Nm_now_0 rfl (lv_at hl 0 rfl) ?_
  refine lv_aload_n hx hb d_Nm_now_1 rfl (lv_at hl 0 rfl) ?_
  refine xg_Nm_1 hx hb hts hown hK hP q288 d_Nm_now_2 ?_
  refine xg_Table_0 hx hb hts hown hK hP rfl q93 d_Nm_now_5 ?_
  refine lv_aload_n hx hb d_Nm_now_8 rfl (lv_at hl 0 rfl) ?_
  refine xg_Nm_1 hx hb hts hown hK hP q288 d_Nm_now_9 ?_
  refine xg_Table_1 hx hb hts hown hK hP rfl q95 d_Nm_now_12 ?_
  obtain ⟨h_15, hl15, hlit⟩ := bindS hlit
  refine fCallQ (fRunV (As := [.int (h 3 0), .int (h 3 1)]) (rest := []) (q0 := 0) (ci := 0) hx hb hml hown hts hK hN hP (cx_Nm_at l E a ha mm h _ (h 3 0) (h 3 1) (h9 := h_15) hl15) q351 q352 q13 q49 q353 hd_x_Nm_at rfl rfl ⟨Nat.le_of_ble_eq_true rfl, Nat.le_of_ble_eq_true rfl⟩ xe_0 rfl rfl rfl hl.1 rfl (Nat.le_of_ble_eq_true rfl) d_Nm_now_15 ⟨Nat.zero_le _, Nat.zero_le _⟩) hS (xA_up hS.1) (fun z15_ H locs hu15 hP hS _ _ => ?_)
  have hP : va_P E.1 xcl (xV E a (a 6) (a 10) (a 6) h_15) H := hP
  refine W.eq (g2 := F0 m 18 ls [.ref (a 5)]) rfl ?_
  cases hlit
  exact ret 0 _ _ _ _ trivial hP hS d_Nm_now_18

abbrev rm_x_Nm_guest : Room := { frames := 6, cells := 0, slots := 0, locals := 135 }
theorem hd_x_Nm_guest : y_Nm_guest.cls ≠ "java/lang/invoke/MethodHandle" ∧ y_Nm_guest.cls ≠ "java/lang/invoke/VarHandle" ∧ (parseMethodDescriptor y_Nm_guest.desc).map (fun d => d.parameters.length) = some 2 := by decide +kernel
set_option maxHeartbeats 4000000 in
set_option maxRecDepth 100000 in
theorem cx_Nm_guest (l : Launch) (E : xE) (a : Nat → Nat) (ha : xInj a 38) (mm : Nat) (h : Hp) (sz : Nat) (p1 : Int32) (p2 : Int32) {r0 : Int32} {h9 : Hp} (hlit : x_Nm_guest p1 p2 h = some (r0, h9)) : Met l y_Nm_guest (Cond.code y_Nm_guest b_Nm_guest 3 (some .int) :: TB) rm_x_Nm_guest (fPc [.ref (a 0), .int p1, .int p2] E.1 (xtys E) sz (xV E a (a 6) (a 10) mm h)) (fQi (fun _ : Nat => True) r0 E.1 (fun (z : Nat) => xV E a (a 6) (a 10) z h9) (xA a 38 sz)) 0 0 (xA a 38 sz) := by
  refine fl_startI (by decide) (Nat.le_of_ble_eq_true rfl) ?_
  intro p e s m args below meth c Q hx hb hml hown hts hsz hP hK hN ret ls hl
  subst hsz
  have hA : ∀ k, k < 38 → (xA a 38 s.heap.size) (a k) := xA_in
  have hS : va_S (xA a 38 s.heap.size) s.heap s.heap [] := va_S.rf
  have hl : lv_has ls 3 [(0, .ref (a 0)), (1, .int p1), (2, .int p2)] := hl
  refine lv_aload_n hx hb d_Nm_guest_0 rfl (lv_at hl 0 rfl) ?_
  refine xg_Nm_7 hx hb hts hown hK hP q294 d_Nm_guest_1 ?_
  refine lv_iload_n hx hb d_Nm_guest_4 rfl (lv_at hl 1 rfl) ?_
  obtain ⟨r5, hl5, hlit⟩ := bindS hlit
  refine fCallI (fRunV (As := [.int p1]) (rest := []) (q0 := 6) (ci := 1) hx hb hml hown hts hK hN hP (cx_Menu_hasGuest l E a ha (a 6) (a 10) mm h _ 6 rfl p1 (r0 := r5) hl5) q331 q332 q333 q55 q334 hd_x_Menu_hasGuest rfl rfl ⟨Nat.le_of_ble_eq_true rfl, Nat.le_of_ble_eq_true rfl⟩ (xeU rfl) rfl rfl rfl hl.1 rfl (Nat.le_of_ble_eq_true rfl) d_Nm_guest_5 ⟨Nat.zero_le _, Nat.zero_le _⟩) hS (xA_up hS.1) (fun _ H locs hu5 hP hS _ _ => ?_)
  have hP : va_P E.1 xcl (xV E a (a 6) (a 10) mm h) H := hP
  refine lv_if_ne (tgt := 13) hx hb d_Nm_guest_8 (by decide) (fun c8 => ?_) (fun c8 => ?_)
  · have hlit := brN _ hlit c8
    refine lv_iload_n hx hb d_Nm_guest_13 rfl (lv_at hl 2 rfl) ?_
    by_cases c14_0 : p2 = 0
    · have hlit := brP _ hlit c14_0
      refine lv_tableIn (off := 30) (tgt := 44) hx hb d_Nm_guest_14 (by rw [c14_0]; decide) (by rw [c14_0]; decide) (by rw [c14_0]; rfl) (by decide) ?_
      refine lv_aload_n hx hb d_Nm_guest_44 rfl (lv_at hl 0 rfl) ?_
      refine xg_Nm_7 hx hb hts hown hK hP q294 d_Nm_guest_45 ?_
      refine lv_iload_n hx hb d_Nm_guest_48 rfl (lv_at hl 1 rfl) ?_
      obtain ⟨r49, hl49, hlit⟩ := bindS hlit
      refine fCallI (fRunV (As := [.int p1]) (rest := []) (q0 := 6) (ci := 1) hx hb hml hown hts hK hN hP (cx_Menu_kindOf l E a ha (a 6) (a 10) mm h _ 6 rfl p1 (r0 := r49) hl49) q335 q336 q337 q55 q338 hd_x_Menu_kindOf rfl rfl ⟨Nat.le_of_ble_eq_true rfl, Nat.le_of_ble_eq_true rfl⟩ (xeU rfl) rfl rfl rfl hl.1 rfl (Nat.le_of_ble_eq_true rfl) d_Nm_guest_49 ⟨Nat.zero_le _, Nat.zero_le _⟩) hS (xA_up hS.1) (fun _ H locs hu49 hP hS _ _ => ?_)
      have hP : va_P E.1 xcl (xV E a (a 6) (a 10) mm h) H := hP
      cases hlit
      exact ret mm _ _ _ _ trivial hP hS rfl d_Nm_guest_52
    · have hlit := brN _ hlit c14_0
      by_cases c14_1 : p2 = 1
      · have hlit := brP _ hlit c14_1
        refine lv_tableIn (off := 39) (tgt := 53) hx hb d_Nm_guest_14 (by rw [c14_1]; decide) (by rw [c14_1]; decide) (by rw [c14_1]; rfl) (by decide) ?_
        refine lv_aload_n hx hb d_Nm_guest_53 rfl (lv_at hl 0 rfl) ?_
        refine lv_aload_n hx hb d_Nm_guest_54 rfl (lv_at hl 0 rfl) ?_
        refine xg_Nm_1 hx hb hts hown hK hP q288 d_Nm_guest_55 ?_
        refine lv_iload_n hx hb d_Nm_guest_58 rfl (lv_at hl 1 rfl) ?_
        obtain ⟨r59, hl59, hlit⟩ := bindS hlit
        refine fCallI (fRunV (As := [.ref (a 3), .int p1]) (rest := []) (q0 := 0) (ci := 0) hx hb hml hown hts hK hN hP (cx_Nm_vetoesLeft l E a ha mm h _ 3 rfl p1 (r0 := r59) hl59) q341 q342 q11 q49 q343 hd_x_Nm_vetoesLeft rfl rfl ⟨Nat.le_of_ble_eq_true rfl, Nat.le_of_ble_eq_true rfl⟩ xe_0 rfl rfl rfl hl.1 rfl (Nat.le_of_ble_eq_true rfl) d_Nm_guest_59 ⟨Nat.zero_le _, Nat.zero_le _⟩) hS (xA_up hS.1) (fun _ H locs hu59 hP hS _ _ => ?_)
        have hP : va_P E.1 xcl (xV E a (a 6) (a 10) mm h) H := hP
        cases hlit
        exact ret mm _ _ _ _ trivial hP hS rfl d_Nm_guest_62
      · have hlit := brN _ hlit c14_1
        by_cases c14_2 : p2 = 2
        · have hlit := brP _ hlit c14_2
          refine lv_tableIn (off := 49) (tgt := 63) hx hb d_Nm_guest_14 (by rw [c14_2]; decide) (by rw [c14_2]; decide) (by rw [c14_2]; rfl) (by decide) ?_
          refine lv_aload_n hx hb d_Nm_guest_63 rfl (lv_at hl 0 rfl) ?_
          obtain ⟨h_64, hl64, hlit⟩ := bindS hlit
          refine fCallQ (fRunV (As := []) (rest := []) (q0 := 0) (ci := 0) hx hb hml hown hts hK hN hP (cx_Nm_now l E a ha mm h _ (h9 := h_64) hl64) q348 q349 q12 q49 q350 hd_x_Nm_now rfl rfl ⟨Nat.le_of_ble_eq_true rfl, Nat.le_of_ble_eq_true rfl⟩ xe_0 rfl rfl rfl hl.1 rfl (Nat.le_of_ble_eq_true rfl) d_Nm_guest_64 ⟨Nat.zero_le _, Nat.zero_le _⟩) hS (xA_up hS.1) (fun z64_ H locs hu64 hP hS _ _ => ?_)
          have hP : va_P E.1 xcl (xV E a (a 6) (a 10) (a 6) h_64) H := hP
          refine W.eq (g2 := F0 m 67 ls [.ref (a 5)]) rfl ?_
          refine lv_iload_n hx hb d_Nm_guest_67 rfl (lv_at hl 1 rfl) ?_
          obtain ⟨r68, hl68, hlit⟩ := bindS hlit
          refine fCallI (fRunV (As := [.int p1]) (rest := []) (q0 := 5) (ci := 2) hx hb hml hown hts hK hN hP (cx_Moment_heartsOf l E a ha (a 6) (a 10) h_64 _ p1 (r0 := r68) hl68) q358 q359 q360 q56 q361 hd_x_Moment_heartsOf rfl rfl ⟨Nat.le_of_ble_eq_true rfl, Nat.le_of_ble_eq_true rfl⟩ xe_5 rfl rfl rfl hl.1 rfl (Nat.le_of_ble_eq_true rfl) d_Nm_guest_68 ⟨Nat.zero_le _, Nat.zero_le _⟩) hS (xA_up hS.1) (fun _ H locs hu68 hP hS _ _ => ?_)
          have hP : va_P E.1 xcl (xV E a (a 6) (a 10) (a 6) h_64) H := hP
          cases hlit
          exact ret (a 6) _ _ _ _ trivial hP hS rfl d_Nm_guest_71
        · have hlit := brN _ hlit c14_2
          by_cases c14_3 : p2 = 3
          · have hlit := brP _ hlit c14_3
            refine lv_tableIn (off := 58) (tgt := 72) hx hb d_Nm_guest_14 (by rw [c14_3]; decide) (by rw [c14_3]; decide) (by rw [c14_3]; rfl) (by decide) ?_
            refine lv_aload_n hx hb d_Nm_guest_72 rfl (lv_at hl 0 rfl) ?_
            obtain ⟨h_73, hl73, hlit⟩ := bindS hlit
            refine fCallQ (fRunV (As := []) (rest := []) (q0 := 0) (ci := 0) hx hb hml hown hts hK hN hP (cx_Nm_now l E a ha mm h _ (h9 := h_73) hl73) q348 q349 q12 q49 q350 hd_x_Nm_now rfl rfl ⟨Nat.le_of_ble_eq_true rfl, Nat.le_of_ble_eq_true rfl⟩ xe_0 rfl rfl rfl hl.1 rfl (Nat.le_of_ble_eq_true rfl) d_Nm_guest_73 ⟨Nat.zero_le _, Nat.zero_le _⟩) hS (xA_up hS.1) (fun z73_ H locs hu73 hP hS _ _ => ?_)
            have hP : va_P E.1 xcl (xV E a (a 6) (a 10) (a 6) h_73) H := hP
            refine W.eq (g2 := F0 m 76 ls [.ref (a 5)]) rfl ?_
            refine lv_iload_n hx hb d_Nm_guest_76 rfl (lv_at hl 1 rfl) ?_
            obtain ⟨r77, hl77, hlit⟩ := bindS hlit
            refine fCallI (fRunV (As := [.int p1]) (rest := []) (q0 := 5) (ci := 2) hx hb hml hown hts hK hN hP (cx_Moment_favourite l E a ha (a 6) (a 10) h_73 _ p1 (r0 := r77) hl77) q387 q384 q385 q56 q386 hd_x_Moment_favourite rfl rfl ⟨Nat.le_of_ble_eq_true rfl, Nat.le_of_ble_eq_true rfl⟩ xe_5 rfl rfl rfl hl.1 rfl (Nat.le_of_ble_eq_true rfl) d_Nm_guest_77 ⟨Nat.zero_le _, Nat.zero_le _⟩) hS (xA_up hS.1) (fun _ H locs hu77 hP hS _ _ => ?_)
            have hP : va_P E.1 xcl (xV E a (a 6) (a 10) (a 6) h_73) H := hP
            cases hlit
            exact ret (a 6) _ _ _ _ trivial hP hS rfl d_Nm_guest_80
          · have hlit := brN _ hlit c14_3
            refine lv_tableOut (tgt := 81) hx hb d_Nm_guest_14 (sw_out3 c14_0 c14_1 c14_2 c14_3) (by decide) ?_
            refine lv_iconst (v := (-1 : Int32)) hx hb d_Nm_guest_81 (by decide) ?_
            cases hlit
            exact ret mm _ _ _ _ trivial hP hS rfl d_Nm_guest_82
  · have hlit := brP _ hlit c8
    refine lv_iconst (v := (-1 : Int32)) hx hb d_Nm_guest_11 (by decide) ?_
    cases hlit
    exact ret mm _ _ _ _ trivial hP hS rfl d_Nm_guest_12

abbrev rm_x_Nm_dish : Room := { frames := 6, cells := 0, slots := 0, locals := 135 }
theorem hd_x_Nm_dish : y_Nm_dish.cls ≠ "java/lang/invoke/MethodHandle" ∧ y_Nm_dish.cls ≠ "java/lang/invoke/VarHandle" ∧ (parseMethodDescriptor y_Nm_dish.desc).map (fun d => d.parameters.length) = some 2 := by decide +kernel
set_option maxHeartbeats 4000000 in
set_option maxRecDepth 100000 in
theorem cx_Nm_dish (l : Launch) (E : xE) (a : Nat → Nat) (ha : xInj a 38) (mm : Nat) (h : Hp) (sz : Nat) (p1 : Int32) (p2 : Int32) {r0 : Int32} {h9 : Hp} (hlit : x_Nm_dish p1 p2 h = some (r0, h9)) : Met l y_Nm_dish (Cond.code y_Nm_dish b_Nm_dish 3 (some .int) :: TB) rm_x_Nm_dish (fPc [.ref (a 0), .int p1, .int p2] E.1 (xtys E) sz (xV E a (a 6) (a 10) mm h)) (fQi (fun _ : Nat => True) r0 E.1 (fun (z : Nat) => xV E a (a 6) (a 10) z h9) (xA a 38 sz)) 0 0 (xA a 38 sz) := by
  refine fl_startI (by decide) (Nat.le_of_ble_eq_true rfl) ?_
  intro p e s m args below meth c Q hx hb hml hown hts hsz hP hK hN ret ls hl
  subst hsz
  have hA : ∀ k, k < 38 → (xA a 38 s.heap.size) (a k) := xA_in
  have hS : va_S (xA a 38 s.heap.size) s.heap s.heap [] := va_S.rf
  have hl : lv_has ls 3 [(0, .ref (a 0)), (1, .int p1), (2, .int p2)] := hl
  refine lv_aload_n hx hb d_Nm_dish_0 rfl (lv_at hl 0 rfl) ?_
  refine xg_Nm_7 hx hb hts hown hK hP q294 d_Nm_dish_1 ?_
  refine lv_iload_n hx hb d_Nm_dish_4 rfl (lv_at hl 1 rfl) ?_
  obtain ⟨r5, hl5, hlit⟩ := bindS hlit
  refine fCallI (fRunV (As := [.int p1]) (rest := []) (q0 := 6) (ci := 1) hx hb hml hown hts hK hN hP (cx_Menu_hasDish l E a ha (a 6) (a 10) mm h _ 6 rfl p1 (r0 := r5) hl5) q392 q275 q276 q55 q277 hd_x_Menu_hasDish rfl rfl ⟨Nat.le_of_ble_eq_true rfl, Nat.le_of_ble_eq_true rfl⟩ (xeU rfl) rfl rfl rfl hl.1 rfl (Nat.le_of_ble_eq_true rfl) d_Nm_dish_5 ⟨Nat.zero_le _, Nat.zero_le _⟩) hS (xA_up hS.1) (fun _ H locs hu5 hP hS _ _ => ?_)
  have hP : va_P E.1 xcl (xV E a (a 6) (a 10) mm h) H := hP
  refine lv_if_ne (tgt := 13) hx hb d_Nm_dish_8 (by decide) (fun c8 => ?_) (fun c8 => ?_)
  · have hlit := brN _ hlit c8
    refine lv_iload_n hx hb d_Nm_dish_13 rfl (lv_at hl 2 rfl) ?_
    by_cases c14_0 : p2 = 0
    · have hlit := brP _ hlit c14_0
      refine lv_tableIn (off := 30) (tgt := 44) hx hb d_Nm_dish_14 (by rw [c14_0]; decide) (by rw [c14_0]; decide) (by rw [c14_0]; rfl) (by decide) ?_
      refine lv_aload_n hx hb d_Nm_dish_44 rfl (lv_at hl 0 rfl) ?_
      refine xg_Nm_7 hx hb hts hown hK hP q294 d_Nm_dish_45 ?_
      refine lv_iload_n hx hb d_Nm_dish_48 rfl (lv_at hl 1 rfl) ?_
      obtain ⟨r49, hl49, hlit⟩ := bindS hlit
      refine fCallI (fRunV (As := [.int p1]) (rest := []) (q0 := 6) (ci := 1) hx hb hml hown hts hK hN hP (cx_Menu_minutesOf l E a ha (a 6) (a 10) mm h _ 6 rfl p1 (r0 := r49) hl49) q393 q394 q395 q55 q396 hd_x_Menu_minutesOf rfl rfl ⟨Nat.le_of_ble_eq_true rfl, Nat.le_of_ble_eq_true rfl⟩ (xeU rfl) rfl rfl rfl hl.1 rfl (Nat.le_of_ble_eq_true rfl) d_Nm_dish_49 ⟨Nat.zero_le _, Nat.zero_le _⟩) hS (xA_up hS.1) (fun _ H locs hu49 hP hS _ _ => ?_)
      have hP : va_P E.1 xcl (xV E a (a 6) (a 10) mm h) H := hP
      cases hlit
      exact ret mm _ _ _ _ trivial hP hS rfl d_Nm_dish_52
    · have hlit := brN _ hlit c14_0
      by_cases c14_1 : p2 = 1
      · have hlit := brP _ hlit c14_1
        refine lv_tableIn (off := 39) (tgt := 53) hx hb d_Nm_dish_14 (by rw [c14_1]; decide) (by rw [c14_1]; decide) (by rw [c14_1]; rfl) (by decide) ?_
        refine lv_aload_n hx hb d_Nm_dish_53 rfl (lv_at hl 0 rfl) ?_
        refine xg_Nm_1 hx hb hts hown hK hP q288 d_Nm_dish_54 ?_
        refine lv_iload_n hx hb d_Nm_dish_57 rfl (lv_at hl 1 rfl) ?_
        obtain ⟨r58, hl58, hlit⟩ := bindS hlit
        refine fCallI (fRunV (As := [.int p1]) (rest := []) (q0 := 3) (ci := 7) hx hb hml hown hts hK hN hP (cx_Table_isVetoed l E a ha (a 6) (a 10) mm h _ 3 rfl p1 (r0 := r58) hl58) q397 q398 q399 q51 q400 hd_x_Table_isVetoed rfl rfl ⟨Nat.le_of_ble_eq_true rfl, Nat.le_of_ble_eq_true rfl⟩ (xeT rfl) rfl rfl rfl hl.1 rfl (Nat.le_of_ble_eq_true rfl) d_Nm_dish_58 ⟨Nat.zero_le _, Nat.zero_le _⟩) hS (xA_up hS.1) (fun _ H locs hu58 hP hS _ _ => ?_)
        have hP : va_P E.1 xcl (xV E a (a 6) (a 10) mm h) H := hP
        refine lv_if_eq (tgt := 68) hx hb d_Nm_dish_61 (by decide) (fun c61 => ?_) (fun c61 => ?_)
        · have hlit := brP _ hlit c61
          refine lv_iconst (v := (0 : Int32)) hx hb d_Nm_dish_68 (by decide) ?_
          cases hlit
          exact ret mm _ _ _ _ trivial hP hS rfl d_Nm_dish_69
        · have hlit := brN _ hlit c61
          refine lv_iconst (v := (1 : Int32)) hx hb d_Nm_dish_64 (by decide) ?_
          refine lv_goto (tgt := 69) hx hb d_Nm_dish_65 (by decide) ?_
          cases hlit
          exact ret mm _ _ _ _ trivial hP hS rfl d_Nm_dish_69
      · have hlit := brN _ hlit c14_1
        by_cases c14_2 : p2 = 2
        · have hlit := brP _ hlit c14_2
          refine lv_tableIn (off := 56) (tgt := 70) hx hb d_Nm_dish_14 (by rw [c14_2]; decide) (by rw [c14_2]; decide) (by rw [c14_2]; rfl) (by decide) ?_
          refine lv_aload_n hx hb d_Nm_dish_70 rfl (lv_at hl 0 rfl) ?_
          obtain ⟨h_71, hl71, hlit⟩ := bindS hlit
          refine fCallQ (fRunV (As := []) (rest := []) (q0 := 0) (ci := 0) hx hb hml hown hts hK hN hP (cx_Nm_now l E a ha mm h _ (h9 := h_71) hl71) q348 q349 q12 q49 q350 hd_x_Nm_now rfl rfl ⟨Nat.le_of_ble_eq_true rfl, Nat.le_of_ble_eq_true rfl⟩ xe_0 rfl rfl rfl hl.1 rfl (Nat.le_of_ble_eq_true rfl) d_Nm_dish_71 ⟨Nat.zero_le _, Nat.zero_le _⟩) hS (xA_up hS.1) (fun z71_ H locs hu71 hP hS _ _ => ?_)
          have hP : va_P E.1 xcl (xV E a (a 6) (a 10) (a 6) h_71) H := hP
          refine W.eq (g2 := F0 m 74 ls [.ref (a 5)]) rfl ?_
          refine lv_iload_n hx hb d_Nm_dish_74 rfl (lv_at hl 1 rfl) ?_
          obtain ⟨r75, hl75, hlit⟩ := bindS hlit
          refine fCallI (fRunV (As := [.int p1]) (rest := []) (q0 := 5) (ci := 2) hx hb hml hown hts hK hN hP (cx_Moment_heartsOn l E a ha (a 6) (a 10) h_71 _ p1 (r0 := r75) hl75) q401 q402 q403 q56 q404 hd_x_Moment_heartsOn rfl rfl ⟨Nat.le_of_ble_eq_true rfl, Nat.le_of_ble_eq_true rfl⟩ xe_5 rfl rfl rfl hl.1 rfl (Nat.le_of_ble_eq_true rfl) d_Nm_dish_75 ⟨Nat.zero_le _, Nat.zero_le _⟩) hS (xA_up hS.1) (fun _ H locs hu75 hP hS _ _ => ?_)
          have hP : va_P E.1 xcl (xV E a (a 6) (a 10) (a 6) h_71) H := hP
          cases hlit
          exact ret (a 6) _ _ _ _ trivial hP hS rfl d_Nm_dish_78
        · have hlit := brN _ hlit c14_2
          by_cases c14_3 : p2 = 3
          · have hlit := brP _ hlit c14_3
            refine lv_tableIn (off := 65) (tgt := 79) hx hb d_Nm_dish_14 (by rw [c14_3]; decide) (by rw [c14_3]; decide) (by rw [c14_3]; rfl) (by decide) ?_
            refine lv_aload_n hx hb d_Nm_dish_79 rfl (lv_at hl 0 rfl) ?_
            obtain ⟨h_80, hl80, hlit⟩ := bindS hlit
            refine fCallQ (fRunV (As := []) (rest := []) (q0 := 0) (ci := 0) hx hb hml hown hts hK hN hP (cx_Nm_now l E a ha mm h _ (h9 := h_80) hl80) q348 q349 q12 q49 q350 hd_x_Nm_now rfl rfl ⟨Nat.le_of_ble_eq_true rfl, Nat.le_of_ble_eq_true rfl⟩ xe_0 rfl rfl rfl hl.1 rfl (Nat.le_of_ble_eq_true rfl) d_Nm_dish_80 ⟨Nat.zero_le _, Nat.zero_le _⟩) hS (xA_up hS.1) (fun z80_ H locs hu80 hP hS _ _ => ?_)
            have hP : va_P E.1 xcl (xV E a (a 6) (a 10) (a 6) h_80) H := hP
            refine W.eq (g2 := F0 m 83 ls [.ref (a 5)]) rfl ?_
            refine lv_iload_n hx hb d_Nm_dish_83 rfl (lv_at hl 1 rfl) ?_
            refine lv_iconst (v := (-1 : Int32)) hx hb d_Nm_dish_84 (by decide) ?_
            obtain ⟨r85, hl85, hlit⟩ := bindS hlit
            refine fCallI (fRunV (As := [.int p1, .int (-1 : Int32)]) (rest := []) (q0 := 5) (ci := 2) hx hb hml hown hts hK hN hP (cx_Moment_together l E a ha (a 6) (a 10) h_80 _ p1 (-1 : Int32) (r0 := r85) hl85) q405 q406 q407 q56 q408 hd_x_Moment_together rfl rfl ⟨Nat.le_of_ble_eq_true rfl, Nat.le_of_ble_eq_true rfl⟩ xe_5 rfl rfl rfl hl.1 rfl (Nat.le_of_ble_eq_true rfl) d_Nm_dish_85 ⟨Nat.zero_le _, Nat.zero_le _⟩) hS (xA_up hS.1) (fun _ H locs hu85 hP hS _ _ => ?_)
            have hP : va_P E.1 xcl (xV E a (a 6) (a 10) (a 6) h_80) H := hP
            cases hlit
            exact ret (a 6) _ _ _ _ trivial hP hS rfl d_Nm_dish_88
          · have hlit := brN _ hlit c14_3
            refine lv_tableOut (tgt := 89) hx hb d_Nm_dish_14 (sw_out3 c14_0 c14_1 c14_2 c14_3) (by decide) ?_
            refine lv_iconst (v := (-1 : Int32)) hx hb d_Nm_dish_89 (by decide) ?_
            cases hlit
            exact ret mm _ _ _ _ trivial hP hS rfl d_Nm_dish_90
  · have hlit := brP _ hlit c8
    refine lv_iconst (v := (-1 : Int32)) hx hb d_Nm_dish_11 (by decide) ?_
    cases hlit
    exact ret mm _ _ _ _ trivial hP hS rfl d_Nm_dish_12

abbrev rm_x_Nm_worth : Room := { frames := 3, cells := 0, slots := 0, locals := 66 }
theorem hd_x_Nm_worth : y_Nm_worth.cls ≠ "java/lang/invoke/MethodHandle" ∧ y_Nm_worth.cls ≠ "java/lang/invoke/VarHandle" ∧ (parseMethodDescriptor y_Nm_worth.desc).map (fun d => d.parameters.length) = some 2 := by decide +kernel
set_option maxHeartbeats 4000000 in
set_option maxRecDepth 100000 in
theorem cx_Nm_worth (l : Launch) (E : xE) (a : Nat → Nat) (ha : xInj a 38) (mm : Nat) (h : Hp) (sz : Nat) (p1 : Int32) (p2 : Int32) {r0 : Int32} {h9 : Hp} (hlit : x_Nm_worth p1 p2 h = some (r0, h9)) : Met l y_Nm_worth (Cond.code y_Nm_worth b_Nm_worth 3 (some .int) :: TB) rm_x_Nm_worth (fPc [.ref (a 0), .int p1, .int p2] E.1 (xtys E) sz (xV E a (a 6) (a 10) mm h)) (fQi (fun _ : Nat => True) r0 E.1 (fun (z : Nat) => xV E a (a 6) (a 10) z h9) (xA a 38 sz)) 0 0 (xA a 38 sz) := by
  refine fl_startI (by decide) (Nat.le_of_ble_eq_true rfl) ?_
  intro p e s m args below meth c Q hx hb hml hown hts hsz hP hK hN ret ls hl
  subst hsz
  have hA : ∀ k, k < 38 → (xA a 38 s.heap.size) (a k) := xA_in
  have hS : va_S (xA a 38 s.heap.size) s.heap s.heap [] := va_S.rf
  have hl : lv_has ls 3 [(0, .ref (a 0)), (1, .int p1), (2, .int p2)] := hl
  refine lv_aload_n hx hb d_Nm_worth_0 rfl (lv_at hl 0 rfl) ?_
  refine xg_Nm_7 hx hb hts hown hK hP q294 d_Nm_worth_1 ?_
  refine lv_iload_n hx hb d_Nm_worth_4 rfl (lv_at hl 1 rfl) ?_
  obtain ⟨r5, hl5, hlit⟩ := bindS hlit
  refine fCallI (fRunV (As := [.int p1]) (rest := []) (q0 := 6) (ci := 1) hx hb hml hown hts hK hN hP (cx_Menu_hasGuest l E a ha (a 6) (a 10) mm h _ 6 rfl p1 (r0 := r5) hl5) q331 q332 q333 q55 q334 hd_x_Menu_hasGuest rfl rfl ⟨Nat.le_of_ble_eq_true rfl, Nat.le_of_ble_eq_true rfl⟩ (xeU rfl) rfl rfl rfl hl.1 rfl (Nat.le_of_ble_eq_true rfl) d_Nm_worth_5 ⟨Nat.zero_le _, Nat.zero_le _⟩) hS (xA_up hS.1) (fun _ H locs hu5 hP hS _ _ => ?_)
  have hP : va_P E.1 xcl (xV E a (a 6) (a 10) mm h) H := hP
  refine lv_if_eq (tgt := 22) hx hb d_Nm_worth_8 (by decide) (fun c8 => ?_) (fun c8 => ?_)
  · have hlit := brP _ hlit c8
    refine lv_iconst (v := (-1 : Int32)) hx hb d_Nm_worth_22 (by decide) ?_
    cases hlit
    exact ret mm _ _ _ _ trivial hP hS rfl d_Nm_worth_23
  · have hlit := brN _ hlit c8
    refine lv_aload_n hx hb d_Nm_worth_11 rfl (lv_at hl 0 rfl) ?_
    refine xg_Nm_7 hx hb hts hown hK hP q294 d_Nm_worth_12 ?_
    refine lv_iload_n hx hb d_Nm_worth_15 rfl (lv_at hl 2 rfl) ?_
    obtain ⟨r16, hl16, hlit⟩ := bindS hlit
    refine fCallI (fRunV (As := [.int p2]) (rest := []) (q0 := 6) (ci := 1) hx hb hml hown hts hK hN hP (cx_Menu_hasDish l E a ha (a 6) (a 10) mm h _ 6 rfl p2 (r0 := r16) hl16) q392 q275 q276 q55 q277 hd_x_Menu_hasDish rfl rfl ⟨Nat.le_of_ble_eq_true rfl, Nat.le_of_ble_eq_true rfl⟩ (xeU rfl) rfl rfl rfl hl.1 rfl (Nat.le_of_ble_eq_true rfl) d_Nm_worth_16 ⟨Nat.zero_le _, Nat.zero_le _⟩) hS (xA_up hS.1) (fun _ H locs hu16 hP hS _ _ => ?_)
    have hP : va_P E.1 xcl (xV E a (a 6) (a 10) mm h) H := hP
    refine lv_if_ne (tgt := 24) hx hb d_Nm_worth_19 (by decide) (fun c19 => ?_) (fun c19 => ?_)
    · have hlit := brN _ hlit c19
      refine lv_aload_n hx hb d_Nm_worth_24 rfl (lv_at hl 0 rfl) ?_
      obtain ⟨h_25, hl25, hlit⟩ := bindS hlit
      refine fCallQ (fRunV (As := []) (rest := []) (q0 := 0) (ci := 0) hx hb hml hown hts hK hN hP (cx_Nm_now l E a ha mm h _ (h9 := h_25) hl25) q348 q349 q12 q49 q350 hd_x_Nm_now rfl rfl ⟨Nat.le_of_ble_eq_true rfl, Nat.le_of_ble_eq_true rfl⟩ xe_0 rfl rfl rfl hl.1 rfl (Nat.le_of_ble_eq_true rfl) d_Nm_worth_25 ⟨Nat.zero_le _, Nat.zero_le _⟩) hS (xA_up hS.1) (fun z25_ H locs hu25 hP hS _ _ => ?_)
      have hP : va_P E.1 xcl (xV E a (a 6) (a 10) (a 6) h_25) H := hP
      refine W.eq (g2 := F0 m 28 ls [.ref (a 5)]) rfl ?_
      refine lv_iload_n hx hb d_Nm_worth_28 rfl (lv_at hl 1 rfl) ?_
      refine lv_iload_n hx hb d_Nm_worth_29 rfl (lv_at hl 2 rfl) ?_
      obtain ⟨r30, hl30, hlit⟩ := bindS hlit
      refine fCallI (fRunV (As := [.int p1, .int p2]) (rest := []) (q0 := 5) (ci := 2) hx hb hml hown hts hK hN hP (cx_Moment_value l E a ha (a 6) (a 10) h_25 _ p1 p2 (r0 := r30) hl30) q413 q371 q372 q56 q373 hd_x_Moment_value rfl rfl ⟨Nat.le_of_ble_eq_true rfl, Nat.le_of_ble_eq_true rfl⟩ xe_5 rfl rfl rfl hl.1 rfl (Nat.le_of_ble_eq_true rfl) d_Nm_worth_30 ⟨Nat.zero_le _, Nat.zero_le _⟩) hS (xA_up hS.1) (fun _ H locs hu30 hP hS _ _ => ?_)
      have hP : va_P E.1 xcl (xV E a (a 6) (a 10) (a 6) h_25) H := hP
      cases hlit
      exact ret (a 6) _ _ _ _ trivial hP hS rfl d_Nm_worth_33
    · have hlit := brP _ hlit c19
      refine lv_iconst (v := (-1 : Int32)) hx hb d_Nm_worth_22 (by decide) ?_
      cases hlit
      exact ret mm _ _ _ _ trivial hP hS rfl d_Nm_worth_23

abbrev rm_x_Nm_pass : Room := { frames := 4, cells := 0, slots := 0, locals := 84 }
theorem hd_x_Nm_pass : y_Nm_pass.cls ≠ "java/lang/invoke/MethodHandle" ∧ y_Nm_pass.cls ≠ "java/lang/invoke/VarHandle" ∧ (parseMethodDescriptor y_Nm_pass.desc).map (fun d => d.parameters.length) = some 1 := by decide +kernel
set_option maxHeartbeats 4000000 in
set_option maxRecDepth 100000 in
theorem cx_Nm_pass (l : Launch) (E : xE) (a : Nat → Nat) (ha : xInj a 38) (mm : Nat) (h : Hp) (sz : Nat) (p1 : Int32) {r0 : Int32} {h9 : Hp} (hlit : x_Nm_pass p1 h = some (r0, h9)) : Met l y_Nm_pass (Cond.code y_Nm_pass b_Nm_pass 2 (some .int) :: TB) rm_x_Nm_pass (fPc [.ref (a 0), .int p1] E.1 (xtys E) sz (xV E a (a 6) (a 10) mm h)) (fQi (fun _ : Nat => True) r0 E.1 (fun (_ : Nat) => xV E a (a 6) (a 10) mm h9) (xA a 38 sz)) 0 0 (xA a 38 sz) := by
  refine fl_startI (by decide) (Nat.le_of_ble_eq_true rfl) ?_
  intro p e s m args below meth c Q hx hb hml hown hts hsz hP hK hN ret ls hl
  subst hsz
  have hA : ∀ k, k < 38 → (xA a 38 s.heap.size) (a k) := xA_in
  have hS : va_S (xA a 38 s.heap.size) s.heap s.heap [] := va_S.rf
  have hl : lv_has ls 2 [(0, .ref (a 0)), (1, .int p1)] := hl
  refine lv_iload_n hx hb d_Nm_pass_0 rfl (lv_at hl 1 rfl) ?_
  refine lv_iconst (v := (1 : Int32)) hx hb d_Nm_pass_1 (by decide) ?_
  refine lv_bipush (v := (30 : Int32)) hx hb d_Nm_pass_2 (by decide) ?_
  obtain ⟨r4, hl4, hlit⟩ := bindS hlit
  refine fCallI (fRunS (As := [.int p1, .int (1 : Int32), .int (30 : Int32)]) (rest := []) hx hb hml hown hts hK hN hP (cx_Nm_isOutside l E a ha (a 6) (a 10) mm h _ p1 (1 : Int32) (30 : Int32) (r0 := r4) hl4) q310 q263 q49 q264 hd_x_Nm_isOutside rfl rfl ⟨Nat.le_of_ble_eq_true rfl, Nat.le_of_ble_eq_true rfl⟩ rfl hl.1 rfl (Nat.le_of_ble_eq_true rfl) d_Nm_pass_4 ⟨Nat.zero_le _, Nat.zero_le _⟩) hS (xA_up hS.1) (fun _ H locs hu4 hP hS _ _ => ?_)
  have hP : va_P E.1 xcl (xV E a (a 6) (a 10) mm h) H := hP
  refine lv_if_eq (tgt := 12) hx hb d_Nm_pass_7 (by decide) (fun c7 => ?_) (fun c7 => ?_)
  · have hlit := brP _ hlit c7
    refine lv_aload_n hx hb d_Nm_pass_12 rfl (lv_at hl 0 rfl) ?_
    refine xg_Nm_1 hx hb hts hown hK hP q288 d_Nm_pass_13 ?_
    obtain ⟨r16, hl16, hlit⟩ := bindS hlit
    refine fCallI (fRunV (As := []) (rest := []) (q0 := 3) (ci := 7) hx hb hml hown hts hK hN hP (cx_Table_isOrdered l E a ha (a 6) (a 10) mm h _ 3 rfl (r0 := r16) hl16) q418 q419 q420 q51 q421 hd_x_Table_isOrdered rfl rfl ⟨Nat.le_of_ble_eq_true rfl, Nat.le_of_ble_eq_true rfl⟩ (xeT rfl) rfl rfl rfl hl.1 rfl (Nat.le_of_ble_eq_true rfl) d_Nm_pass_16 ⟨Nat.zero_le _, Nat.zero_le _⟩) hS (xA_up hS.1) (fun _ H locs hu16 hP hS _ _ => ?_)
    have hP : va_P E.1 xcl (xV E a (a 6) (a 10) mm h) H := hP
    refine lv_if_ne (tgt := 36) hx hb d_Nm_pass_19 (by decide) (fun c19 => ?_) (fun c19 => ?_)
    · have hlit := brN _ hlit c19
      refine lv_bipush (v := (-2 : Int32)) hx hb d_Nm_pass_36 (by decide) ?_
      cases hlit
      exact ret 0 _ _ _ _ trivial hP hS rfl d_Nm_pass_38
    · have hlit := brP _ hlit c19
      refine lv_aload_n hx hb d_Nm_pass_22 rfl (lv_at hl 0 rfl) ?_
      refine xg_Nm_1 hx hb hts hown hK hP q288 d_Nm_pass_23 ?_
      refine xg_Table_0 hx hb hts hown hK hP rfl q93 d_Nm_pass_26 ?_
      refine lv_iload_n hx hb d_Nm_pass_29 rfl (lv_at hl 1 rfl) ?_
      refine lv_iadd hx hb d_Nm_pass_30 ?_
      refine lv_bipush (v := (99 : Int32)) hx hb d_Nm_pass_31 (by decide) ?_
      refine lv_icmp_le (tgt := 39) hx hb d_Nm_pass_33 (by decide) (fun c33 => ?_) (fun c33 => ?_)
      · have hlit := brP _ hlit c33
        refine lv_aload_n hx hb d_Nm_pass_39 rfl (lv_at hl 0 rfl) ?_
        refine xg_Nm_4 hx hb hts hown hK hP q291 d_Nm_pass_40 ?_
        refine lv_aload_n hx hb d_Nm_pass_43 rfl (lv_at hl 0 rfl) ?_
        refine xg_Nm_1 hx hb hts hown hK hP q288 d_Nm_pass_44 ?_
        obtain ⟨h_47, hl47, hlit⟩ := bindS hlit
        refine fCallV (fRunV (As := [.ref (a 3)]) (rest := []) (q0 := 14) (ci := 5) hx hb hml hown hts hK hN hP (cx_Pile_push_a l E a ha (a 6) (a 10) mm h _ 3 rfl (h9 := h_47) hl47) q422 q423 q424 q52 q425 hd_x_Pile_push_a rfl rfl ⟨Nat.le_of_ble_eq_true rfl, Nat.le_of_ble_eq_true rfl⟩ xe_14 rfl rfl rfl hl.1 rfl (Nat.le_of_ble_eq_true rfl) d_Nm_pass_47 ⟨Nat.zero_le _, Nat.zero_le _⟩) hS (xA_up hS.1) (fun _ H locs hu47 hP hS _ _ => ?_)
        have hP : va_P E.1 xcl (xV E a (a 6) (a 10) mm h_47) H := hP
        refine lv_aload_n hx hb d_Nm_pass_50 rfl (lv_at hl 0 rfl) ?_
        refine xg_Nm_1 hx hb hts hown hK hP q288 d_Nm_pass_51 ?_
        refine lv_dup hx hb d_Nm_pass_54 rfl ?_
        refine xg_Table_0 hx hb hts hown hK hP rfl q93 d_Nm_pass_55 ?_
        refine lv_iload_n hx hb d_Nm_pass_58 rfl (lv_at hl 1 rfl) ?_
        refine lv_iadd hx hb d_Nm_pass_59 ?_
        refine xp_Table_0 hx hb hts hown hK hP ha hA hS rfl q93 d_Nm_pass_60 (fun H locs hP hS => ?_)
        obtain ⟨h_60, eh_60, hlit⟩ := bindS hlit
        rw [Option.some.inj eh_60] at hP
        refine lv_aload_n hx hb d_Nm_pass_63 rfl (lv_at hl 0 rfl) ?_
        refine xg_Nm_1 hx hb hts hown hK hP q288 d_Nm_pass_64 ?_
        refine xg_Table_0 hx hb hts hown hK hP rfl q93 d_Nm_pass_67 ?_
        cases hlit
        exact ret 0 _ _ _ _ trivial hP hS rfl d_Nm_pass_70
      · have hlit := brN _ hlit c33
        refine lv_bipush (v := (-2 : Int32)) hx hb d_Nm_pass_36 (by decide) ?_
        cases hlit
        exact ret 0 _ _ _ _ trivial hP hS rfl d_Nm_pass_38
  · have hlit := brN _ hlit c7
    refine lv_iconst (v := (-1 : Int32)) hx hb d_Nm_pass_10 (by decide) ?_
    cases hlit
    exact ret 0 _ _ _ _ trivial hP hS rfl d_Nm_pass_11

abbrev rm_x_Nm_dishesLeft : Room := { frames := 1, cells := 0, slots := 0, locals := 20 }
theorem hd_x_Nm_dishesLeft : y_Nm_dishesLeft.cls ≠ "java/lang/invoke/MethodHandle" ∧ y_Nm_dishesLeft.cls ≠ "java/lang/invoke/VarHandle" ∧ (parseMethodDescriptor y_Nm_dishesLeft.desc).map (fun d => d.parameters.length) = some 1 := by decide +kernel
set_option maxHeartbeats 4000000 in
set_option maxRecDepth 100000 in
theorem cx_Nm_dishesLeft (l : Launch) (E : xE) (a : Nat → Nat) (ha : xInj a 38) (mm : Nat) (h : Hp) (sz : Nat) (q1_ : Nat) (hq1_ : isT q1_ = true) {r0 : Int32} (hlit : x_Nm_dishesLeft q1_ h = some r0) : Met l y_Nm_dishesLeft (Cond.code y_Nm_dishesLeft b_Nm_dishesLeft 2 (some .int) :: TB) rm_x_Nm_dishesLeft (fPc [.ref (a 0), .ref (a q1_)] E.1 (xtys E) sz (xV E a (a 6) (a 10) mm h)) (fQi (fun _ : Nat => True) r0 E.1 (fun (_ : Nat) => xV E a (a 6) (a 10) mm h) (xA a 38 sz)) 0 0 (xA a 38 sz) := by
  refine fl_startI (by decide) (Nat.le_of_ble_eq_true rfl) ?_
  intro p e s m args below meth c Q hx hb hml hown hts hsz hP hK hN ret ls hl
  subst hsz
  have hA : ∀ k, k < 38 → (xA a 38 s.heap.size) (a k) := xA_in
  have hS : va_S (xA a 38 s.heap.size) s.heap s.heap [] := va_S.rf
  have hl : lv_has ls 2 [(0, .ref (a 0)), (1, .ref (a q1_))] := hl
  refine lv_aload_n hx hb d_Nm_dishesLeft_0 rfl (lv_at hl 0 rfl) ?_
  refine xg_Nm_7 hx hb hts hown hK hP q294 d_Nm_dishesLeft_1 ?_
  obtain ⟨r4, hl4, hlit⟩ := bindS hlit
  refine fCallI (fRunV (As := []) (rest := []) (q0 := 6) (ci := 1) hx hb hml hown hts hK hN hP (cx_Menu_allDishes l E a ha (a 6) (a 10) mm h _ 6 rfl (r0 := r4) hl4) q354 q355 q356 q55 q357 hd_x_Menu_allDishes rfl rfl ⟨Nat.le_of_ble_eq_true rfl, Nat.le_of_ble_eq_true rfl⟩ (xeU rfl) rfl rfl rfl hl.1 rfl (Nat.le_of_ble_eq_true rfl) d_Nm_dishesLeft_4 ⟨Nat.zero_le _, Nat.zero_le _⟩) hS (xA_up hS.1) (fun _ H locs hu4 hP hS _ _ => ?_)
  have hP : va_P E.1 xcl (xV E a (a 6) (a 10) mm h) H := hP
  refine lv_aload_n hx hb d_Nm_dishesLeft_7 rfl (lv_at hl 1 rfl) ?_
  refine xg_Table_1 hx hb hts hown hK hP hq1_ q95 d_Nm_dishesLeft_8 ?_
  refine lv_iconst (v := (-1 : Int32)) hx hb d_Nm_dishesLeft_11 (by decide) ?_
  refine lv_ixor hx hb d_Nm_dishesLeft_12 ?_
  refine lv_iand hx hb d_Nm_dishesLeft_13 ?_
  obtain ⟨r14, hl14, hlit⟩ := bindS hlit
  refine fCallI (fRunS (As := [.int (r4 &&& ((h q1_ 1) ^^^ (-1 : Int32)))]) (rest := []) hx hb hml hown hts hK hN hP (cx_Int_bitCount l E a ha (a 6) (a 10) mm h _ (r4 &&& ((h q1_ 1) ^^^ (-1 : Int32))) (r0 := r14) hl14) q446 q447 q63 q448 hd_x_Int_bitCount rfl rfl ⟨Nat.le_of_ble_eq_true rfl, Nat.le_of_ble_eq_true rfl⟩ rfl hl.1 rfl (Nat.le_of_ble_eq_true rfl) d_Nm_dishesLeft_14 ⟨Nat.zero_le _, Nat.zero_le _⟩) hS (xA_up hS.1) (fun _ H locs hu14 hP hS _ _ => ?_)
  have hP : va_P E.1 xcl (xV E a (a 6) (a 10) mm h) H := hP
  cases hlit
  exact ret 0 _ _ _ _ trivial hP hS rfl d_Nm_dishesLeft_17

abbrev rm_x_Nm_veto : Room := { frames := 4, cells := 0, slots := 0, locals := 84 }
theorem hd_x_Nm_veto : y_Nm_veto.cls ≠ "java/lang/invoke/MethodHandle" ∧ y_Nm_veto.cls ≠ "java/lang/invoke/VarHandle" ∧ (parseMethodDescriptor y_Nm_veto.desc).map (fun d => d.parameters.length) = some 2 := by decide +kernel
set_option maxHeartbeats 4000000 in
set_option maxRecDepth 100000 in
theorem cx_Nm_veto (l : Launch) (E : xE) (a : Nat → Nat) (ha : xInj a 38) (mm : Nat) (h : Hp) (sz : Nat) (p1 : Int32) (p2 : Int32) {r0 : Int32} {h9 : Hp} (hlit : x_Nm_veto p1 p2 h = some (r0, h9)) : Met l y_Nm_veto (Cond.code y_Nm_veto b_Nm_veto 3 (some .int) :: TB) rm_x_Nm_veto (fPc [.ref (a 0), .int p1, .int p2] E.1 (xtys E) sz (xV E a (a 6) (a 10) mm h)) (fQi (fun _ : Nat => True) r0 E.1 (fun (_ : Nat) => xV E a (a 6) (a 10) mm h9) (xA a 38 sz)) 0 0 (xA a 38 sz) := by
  refine fl_startI (by decide) (Nat.le_of_ble_eq_true rfl) ?_
  intro p e s m args below meth c Q hx hb hml hown hts hsz hP hK hN ret ls hl
  subst hsz
  have hA : ∀ k, k < 38 → (xA a 38 s.heap.size) (a k) := xA_in
  have hS : va_S (xA a 38 s.heap.size) s.heap s.heap [] := va_S.rf
  have hl : lv_has ls 3 [(0, .ref (a 0)), (1, .int p1), (2, .int p2)] := hl
  refine lv_aload_n hx hb d_Nm_veto_0 rfl (lv_at hl 0 rfl) ?_
  refine xg_Nm_7 hx hb hts hown hK hP q294 d_Nm_veto_1 ?_
  refine lv_iload_n hx hb d_Nm_veto_4 rfl (lv_at hl 1 rfl) ?_
  obtain ⟨r5, hl5, hlit⟩ := bindS hlit
  refine fCallI (fRunV (As := [.int p1]) (rest := []) (q0 := 6) (ci := 1) hx hb hml hown hts hK hN hP (cx_Menu_hasGuest l E a ha (a 6) (a 10) mm h _ 6 rfl p1 (r0 := r5) hl5) q331 q332 q333 q55 q334 hd_x_Menu_hasGuest rfl rfl ⟨Nat.le_of_ble_eq_true rfl, Nat.le_of_ble_eq_true rfl⟩ (xeU rfl) rfl rfl rfl hl.1 rfl (Nat.le_of_ble_eq_true rfl) d_Nm_veto_5 ⟨Nat.zero_le _, Nat.zero_le _⟩) hS (xA_up hS.1) (fun _ H locs hu5 hP hS _ _ => ?_)
  have hP : va_P E.1 xcl (xV E a (a 6) (a 10) mm h) H := hP
  refine lv_if_eq (tgt := 22) hx hb d_Nm_veto_8 (by decide) (fun c8 => ?_) (fun c8 => ?_)
  · have hlit := brP _ hlit c8
    refine lv_iconst (v := (-1 : Int32)) hx hb d_Nm_veto_22 (by decide) ?_
    cases hlit
    exact ret 0 _ _ _ _ trivial hP hS rfl d_Nm_veto_23
  · have hlit := brN _ hlit c8
    refine lv_aload_n hx hb d_Nm_veto_11 rfl (lv_at hl 0 rfl) ?_
    refine xg_Nm_7 hx hb hts hown hK hP q294 d_Nm_veto_12 ?_
    refine lv_iload_n hx hb d_Nm_veto_15 rfl (lv_at hl 2 rfl) ?_
    obtain ⟨r16, hl16, hlit⟩ := bindS hlit
    refine fCallI (fRunV (As := [.int p2]) (rest := []) (q0 := 6) (ci := 1) hx hb hml hown hts hK hN hP (cx_Menu_hasDish l E a ha (a 6) (a 10) mm h _ 6 rfl p2 (r0 := r16) hl16) q392 q275 q276 q55 q277 hd_x_Menu_hasDish rfl rfl ⟨Nat.le_of_ble_eq_true rfl, Nat.le_of_ble_eq_true rfl⟩ (xeU rfl) rfl rfl rfl hl.1 rfl (Nat.le_of_ble_eq_true rfl) d_Nm_veto_16 ⟨Nat.zero_le _, Nat.zero_le _⟩) hS (xA_up hS.1) (fun _ H locs hu16 hP hS _ _ => ?_)
    have hP : va_P E.1 xcl (xV E a (a 6) (a 10) mm h) H := hP
    refine lv_if_ne (tgt := 24) hx hb d_Nm_veto_19 (by decide) (fun c19 => ?_) (fun c19 => ?_)
    · have hlit := brN _ hlit c19
      refine lv_aload_n hx hb d_Nm_veto_24 rfl (lv_at hl 0 rfl) ?_
      refine xg_Nm_1 hx hb hts hown hK hP q288 d_Nm_veto_25 ?_
      obtain ⟨r28, hl28, hlit⟩ := bindS hlit
      refine fCallI (fRunV (As := []) (rest := []) (q0 := 3) (ci := 7) hx hb hml hown hts hK hN hP (cx_Table_isOrdered l E a ha (a 6) (a 10) mm h _ 3 rfl (r0 := r28) hl28) q418 q419 q420 q51 q421 hd_x_Table_isOrdered rfl rfl ⟨Nat.le_of_ble_eq_true rfl, Nat.le_of_ble_eq_true rfl⟩ (xeT rfl) rfl rfl rfl hl.1 rfl (Nat.le_of_ble_eq_true rfl) d_Nm_veto_28 ⟨Nat.zero_le _, Nat.zero_le _⟩) hS (xA_up hS.1) (fun _ H locs hu28 hP hS _ _ => ?_)
      have hP : va_P E.1 xcl (xV E a (a 6) (a 10) mm h) H := hP
      refine lv_if_ne (tgt := 45) hx hb d_Nm_veto_31 (by decide) (fun c31 => ?_) (fun c31 => ?_)
      · have hlit := brN _ hlit c31
        refine lv_bipush (v := (-2 : Int32)) hx hb d_Nm_veto_45 (by decide) ?_
        cases hlit
        exact ret 0 _ _ _ _ trivial hP hS rfl d_Nm_veto_47
      · have hlit := brP _ hlit c31
        refine lv_aload_n hx hb d_Nm_veto_34 rfl (lv_at hl 0 rfl) ?_
        refine xg_Nm_1 hx hb hts hown hK hP q288 d_Nm_veto_35 ?_
        refine lv_iload_n hx hb d_Nm_veto_38 rfl (lv_at hl 2 rfl) ?_
        obtain ⟨r39, hl39, hlit⟩ := bindS hlit
        refine fCallI (fRunV (As := [.int p2]) (rest := []) (q0 := 3) (ci := 7) hx hb hml hown hts hK hN hP (cx_Table_isVetoed l E a ha (a 6) (a 10) mm h _ 3 rfl p2 (r0 := r39) hl39) q397 q398 q399 q51 q400 hd_x_Table_isVetoed rfl rfl ⟨Nat.le_of_ble_eq_true rfl, Nat.le_of_ble_eq_true rfl⟩ (xeT rfl) rfl rfl rfl hl.1 rfl (Nat.le_of_ble_eq_true rfl) d_Nm_veto_39 ⟨Nat.zero_le _, Nat.zero_le _⟩) hS (xA_up hS.1) (fun _ H locs hu39 hP hS _ _ => ?_)
        have hP : va_P E.1 xcl (xV E a (a 6) (a 10) mm h) H := hP
        refine lv_if_eq (tgt := 48) hx hb d_Nm_veto_42 (by decide) (fun c42 => ?_) (fun c42 => ?_)
        · have hlit := brP _ hlit c42
          refine lv_aload_n hx hb d_Nm_veto_48 rfl (lv_at hl 0 rfl) ?_
          refine lv_aload_n hx hb d_Nm_veto_49 rfl (lv_at hl 0 rfl) ?_
          refine xg_Nm_1 hx hb hts hown hK hP q288 d_Nm_veto_50 ?_
          refine lv_iload_n hx hb d_Nm_veto_53 rfl (lv_at hl 1 rfl) ?_
          obtain ⟨r54, hl54, hlit⟩ := bindS hlit
          refine fCallI (fRunV (As := [.ref (a 3), .int p1]) (rest := []) (q0 := 0) (ci := 0) hx hb hml hown hts hK hN hP (cx_Nm_vetoesLeft l E a ha mm h _ 3 rfl p1 (r0 := r54) hl54) q341 q342 q11 q49 q343 hd_x_Nm_vetoesLeft rfl rfl ⟨Nat.le_of_ble_eq_true rfl, Nat.le_of_ble_eq_true rfl⟩ xe_0 rfl rfl rfl hl.1 rfl (Nat.le_of_ble_eq_true rfl) d_Nm_veto_54 ⟨Nat.zero_le _, Nat.zero_le _⟩) hS (xA_up hS.1) (fun _ H locs hu54 hP hS _ _ => ?_)
          have hP : va_P E.1 xcl (xV E a (a 6) (a 10) mm h) H := hP
          refine lv_iconst (v := (1 : Int32)) hx hb d_Nm_veto_57 (by decide) ?_
          refine lv_icmp_lt (tgt := 73) hx hb d_Nm_veto_58 (by decide) (fun c58 => ?_) (fun c58 => ?_)
          · have hlit := brP _ hlit c58
            refine lv_bipush (v := (-2 : Int32)) hx hb d_Nm_veto_73 (by decide) ?_
            cases hlit
            exact ret 0 _ _ _ _ trivial hP hS rfl d_Nm_veto_75
          · have hlit := brN _ hlit c58
            refine lv_aload_n hx hb d_Nm_veto_61 rfl (lv_at hl 0 rfl) ?_
            refine lv_aload_n hx hb d_Nm_veto_62 rfl (lv_at hl 0 rfl) ?_
            refine xg_Nm_1 hx hb hts hown hK hP q288 d_Nm_veto_63 ?_
            obtain ⟨r66, hl66, hlit⟩ := bindS hlit
            refine fCallI (fRunV (As := [.ref (a 3)]) (rest := []) (q0 := 0) (ci := 0) hx hb hml hown hts hK hN hP (cx_Nm_dishesLeft l E a ha mm h _ 3 rfl (r0 := r66) hl66) q443 q444 q16 q49 q445 hd_x_Nm_dishesLeft rfl rfl ⟨Nat.le_of_ble_eq_true rfl, Nat.le_of_ble_eq_true rfl⟩ xe_0 rfl rfl rfl hl.1 rfl (Nat.le_of_ble_eq_true rfl) d_Nm_veto_66 ⟨Nat.zero_le _, Nat.zero_le _⟩) hS (xA_up hS.1) (fun _ H locs hu66 hP hS _ _ => ?_)
            have hP : va_P E.1 xcl (xV E a (a 6) (a 10) mm h) H := hP
            refine lv_iconst (v := (2 : Int32)) hx hb d_Nm_veto_69 (by decide) ?_
            refine lv_icmp_ge (tgt := 76) hx hb d_Nm_veto_70 (by decide) (fun c70 => ?_) (fun c70 => ?_)
            · have hlit := brP _ hlit c70
              refine lv_aload_n hx hb d_Nm_veto_76 rfl (lv_at hl 0 rfl) ?_
              refine xg_Nm_4 hx hb hts hown hK hP q291 d_Nm_veto_77 ?_
              refine lv_aload_n hx hb d_Nm_veto_80 rfl (lv_at hl 0 rfl) ?_
              refine xg_Nm_1 hx hb hts hown hK hP q288 d_Nm_veto_81 ?_
              obtain ⟨h_84, hl84, hlit⟩ := bindS hlit
              refine fCallV (fRunV (As := [.ref (a 3)]) (rest := []) (q0 := 14) (ci := 5) hx hb hml hown hts hK hN hP (cx_Pile_push_a l E a ha (a 6) (a 10) mm h _ 3 rfl (h9 := h_84) hl84) q422 q423 q424 q52 q425 hd_x_Pile_push_a rfl rfl ⟨Nat.le_of_ble_eq_true rfl, Nat.le_of_ble_eq_true rfl⟩ xe_14 rfl rfl rfl hl.1 rfl (Nat.le_of_ble_eq_true rfl) d_Nm_veto_84 ⟨Nat.zero_le _, Nat.zero_le _⟩) hS (xA_up hS.1) (fun _ H locs hu84 hP hS _ _ => ?_)
              have hP : va_P E.1 xcl (xV E a (a 6) (a 10) mm h_84) H := hP
              refine lv_aload_n hx hb d_Nm_veto_87 rfl (lv_at hl 0 rfl) ?_
              refine xg_Nm_1 hx hb hts hown hK hP q288 d_Nm_veto_88 ?_
              refine lv_iload_n hx hb d_Nm_veto_91 rfl (lv_at hl 1 rfl) ?_
              refine lv_iload_n hx hb d_Nm_veto_92 rfl (lv_at hl 2 rfl) ?_
              obtain ⟨h_93, hl93, hlit⟩ := bindS hlit
              refine fCallV (fRunV (As := [.int p1, .int p2]) (rest := []) (q0 := 3) (ci := 7) hx hb hml hown hts hK hN hP (cx_Table_strike l E a ha (a 6) (a 10) mm h_84 _ 3 rfl p1 p2 (h9 := h_93) hl93) q452 q453 q454 q51 q455 hd_x_Table_strike rfl rfl ⟨Nat.le_of_ble_eq_true rfl, Nat.le_of_ble_eq_true rfl⟩ (xeT rfl) rfl rfl rfl hl.1 rfl (Nat.le_of_ble_eq_true rfl) d_Nm_veto_93 ⟨Nat.zero_le _, Nat.zero_le _⟩) hS (xA_up hS.1) (fun _ H locs hu93 hP hS _ _ => ?_)
              have hP : va_P E.1 xcl (xV E a (a 6) (a 10) mm h_93) H := hP
              refine lv_aload_n hx hb d_Nm_veto_96 rfl (lv_at hl 0 rfl) ?_
              refine lv_aload_n hx hb d_Nm_veto_97 rfl (lv_at hl 0 rfl) ?_
              refine xg_Nm_1 hx hb hts hown hK hP q288 d_Nm_veto_98 ?_
              obtain ⟨r101, hl101, hlit⟩ := bindS hlit
              refine fCallI (fRunV (As := [.ref (a 3)]) (rest := []) (q0 := 0) (ci := 0) hx hb hml hown hts hK hN hP (cx_Nm_dishesLeft l E a ha mm h_93 _ 3 rfl (r0 := r101) hl101) q443 q444 q16 q49 q445 hd_x_Nm_dishesLeft rfl rfl ⟨Nat.le_of_ble_eq_true rfl, Nat.le_of_ble_eq_true rfl⟩ xe_0 rfl rfl rfl hl.1 rfl (Nat.le_of_ble_eq_true rfl) d_Nm_veto_101 ⟨Nat.zero_le _, Nat.zero_le _⟩) hS (xA_up hS.1) (fun _ H locs hu101 hP hS _ _ => ?_)
              have hP : va_P E.1 xcl (xV E a (a 6) (a 10) mm h_93) H := hP
              cases hlit
              exact ret 0 _ _ _ _ trivial hP hS rfl d_Nm_veto_104
            · have hlit := brN _ hlit c70
              refine lv_bipush (v := (-2 : Int32)) hx hb d_Nm_veto_73 (by decide) ?_
              cases hlit
              exact ret 0 _ _ _ _ trivial hP hS rfl d_Nm_veto_75
        · have hlit := brN _ hlit c42
          refine lv_bipush (v := (-2 : Int32)) hx hb d_Nm_veto_45 (by decide) ?_
          cases hlit
          exact ret 0 _ _ _ _ trivial hP hS rfl d_Nm_veto_47
    · have hlit := brP _ hlit c19
      refine lv_iconst (v := (-1 : Int32)) hx hb d_Nm_veto_22 (by decide) ?_
      cases hlit
      exact ret 0 _ _ _ _ trivial hP hS rfl d_Nm_veto_23

abbrev rm_x_Nm_order : Room := { frames := 4, cells := 0, slots := 0, locals := 84 }
theorem hd_x_Nm_order : y_Nm_order.cls ≠ "java/lang/invoke/MethodHandle" ∧ y_Nm_order.cls ≠ "java/lang/invoke/VarHandle" ∧ (parseMethodDescriptor y_Nm_order.desc).map (fun d => d.parameters.length) = some 1 := by decide +kernel
set_option maxHeartbeats 4000000 in
set_option maxRecDepth 100000 in
theorem cx_Nm_order (l : Launch) (E : xE) (a : Nat → Nat) (ha : xInj a 38) (mm : Nat) (h : Hp) (sz : Nat) (p1 : Int32) {r0 : Int32} {h9 : Hp} (hlit : x_Nm_order p1 h = some (r0, h9)) : Met l y_Nm_order (Cond.code y_Nm_order b_Nm_order 2 (some .int) :: TB) rm_x_Nm_order (fPc [.ref (a 0), .int p1] E.1 (xtys E) sz (xV E a (a 6) (a 10) mm h)) (fQi (fun _ : Nat => True) r0 E.1 (fun (_ : Nat) => xV E a (a 6) (a 10) mm h9) (xA a 38 sz)) 0 0 (xA a 38 sz) := by
  refine fl_startI (by decide) (Nat.le_of_ble_eq_true rfl) ?_
  intro p e s m args below meth c Q hx hb hml hown hts hsz hP hK hN ret ls hl
  subst hsz
  have hA : ∀ k, k < 38 → (xA a 38 s.heap.size) (a k) := xA_in
  have hS : va_S (xA a 38 s.heap.size) s.heap s.heap [] := va_S.rf
  have hl : lv_has ls 2 [(0, .ref (a 0)), (1, .int p1)] := hl
  refine lv_aload_n hx hb d_Nm_order_0 rfl (lv_at hl 0 rfl) ?_
  refine xg_Nm_7 hx hb hts hown hK hP q294 d_Nm_order_1 ?_
  refine lv_iload_n hx hb d_Nm_order_4 rfl (lv_at hl 1 rfl) ?_
  obtain ⟨r5, hl5, hlit⟩ := bindS hlit
  refine fCallI (fRunV (As := [.int p1]) (rest := []) (q0 := 6) (ci := 1) hx hb hml hown hts hK hN hP (cx_Menu_hasDish l E a ha (a 6) (a 10) mm h _ 6 rfl p1 (r0 := r5) hl5) q392 q275 q276 q55 q277 hd_x_Menu_hasDish rfl rfl ⟨Nat.le_of_ble_eq_true rfl, Nat.le_of_ble_eq_true rfl⟩ (xeU rfl) rfl rfl rfl hl.1 rfl (Nat.le_of_ble_eq_true rfl) d_Nm_order_5 ⟨Nat.zero_le _, Nat.zero_le _⟩) hS (xA_up hS.1) (fun _ H locs hu5 hP hS _ _ => ?_)
  have hP : va_P E.1 xcl (xV E a (a 6) (a 10) mm h) H := hP
  refine lv_if_ne (tgt := 13) hx hb d_Nm_order_8 (by decide) (fun c8 => ?_) (fun c8 => ?_)
  · have hlit := brN _ hlit c8
    refine lv_aload_n hx hb d_Nm_order_13 rfl (lv_at hl 0 rfl) ?_
    refine xg_Nm_1 hx hb hts hown hK hP q288 d_Nm_order_14 ?_
    obtain ⟨r17, hl17, hlit⟩ := bindS hlit
    refine fCallI (fRunV (As := []) (rest := []) (q0 := 3) (ci := 7) hx hb hml hown hts hK hN hP (cx_Table_isOrdered l E a ha (a 6) (a 10) mm h _ 3 rfl (r0 := r17) hl17) q418 q419 q420 q51 q421 hd_x_Table_isOrdered rfl rfl ⟨Nat.le_of_ble_eq_true rfl, Nat.le_of_ble_eq_true rfl⟩ (xeT rfl) rfl rfl rfl hl.1 rfl (Nat.le_of_ble_eq_true rfl) d_Nm_order_17 ⟨Nat.zero_le _, Nat.zero_le _⟩) hS (xA_up hS.1) (fun _ H locs hu17 hP hS _ _ => ?_)
    have hP : va_P E.1 xcl (xV E a (a 6) (a 10) mm h) H := hP
    refine lv_if_ne (tgt := 34) hx hb d_Nm_order_20 (by decide) (fun c20 => ?_) (fun c20 => ?_)
    · have hlit := brN _ hlit c20
      refine lv_bipush (v := (-2 : Int32)) hx hb d_Nm_order_34 (by decide) ?_
      cases hlit
      exact ret 0 _ _ _ _ trivial hP hS rfl d_Nm_order_36
    · have hlit := brP _ hlit c20
      refine lv_aload_n hx hb d_Nm_order_23 rfl (lv_at hl 0 rfl) ?_
      refine xg_Nm_1 hx hb hts hown hK hP q288 d_Nm_order_24 ?_
      refine lv_iload_n hx hb d_Nm_order_27 rfl (lv_at hl 1 rfl) ?_
      obtain ⟨r28, hl28, hlit⟩ := bindS hlit
      refine fCallI (fRunV (As := [.int p1]) (rest := []) (q0 := 3) (ci := 7) hx hb hml hown hts hK hN hP (cx_Table_isVetoed l E a ha (a 6) (a 10) mm h _ 3 rfl p1 (r0 := r28) hl28) q397 q398 q399 q51 q400 hd_x_Table_isVetoed rfl rfl ⟨Nat.le_of_ble_eq_true rfl, Nat.le_of_ble_eq_true rfl⟩ (xeT rfl) rfl rfl rfl hl.1 rfl (Nat.le_of_ble_eq_true rfl) d_Nm_order_28 ⟨Nat.zero_le _, Nat.zero_le _⟩) hS (xA_up hS.1) (fun _ H locs hu28 hP hS _ _ => ?_)
      have hP : va_P E.1 xcl (xV E a (a 6) (a 10) mm h) H := hP
      refine lv_if_eq (tgt := 37) hx hb d_Nm_order_31 (by decide) (fun c31 => ?_) (fun c31 => ?_)
      · have hlit := brP _ hlit c31
        refine lv_aload_n hx hb d_Nm_order_37 rfl (lv_at hl 0 rfl) ?_
        refine xg_Nm_7 hx hb hts hown hK hP q294 d_Nm_order_38 ?_
        refine lv_iload_n hx hb d_Nm_order_41 rfl (lv_at hl 1 rfl) ?_
        refine lv_aload_n hx hb d_Nm_order_42 rfl (lv_at hl 0 rfl) ?_
        refine xg_Nm_1 hx hb hts hown hK hP q288 d_Nm_order_43 ?_
        refine xg_Table_0 hx hb hts hown hK hP rfl q93 d_Nm_order_46 ?_
        obtain ⟨r49, hl49, hlit⟩ := bindS hlit
        refine fCallI (fRunV (As := [.int p1, .int (h 3 0)]) (rest := []) (q0 := 6) (ci := 1) hx hb hml hown hts hK hN hP (cx_Menu_isInTime l E a ha (a 6) (a 10) mm h _ 6 rfl p1 (h 3 0) (r0 := r49) hl49) q460 q461 q462 q55 q463 hd_x_Menu_isInTime rfl rfl ⟨Nat.le_of_ble_eq_true rfl, Nat.le_of_ble_eq_true rfl⟩ (xeU rfl) rfl rfl rfl hl.1 rfl (Nat.le_of_ble_eq_true rfl) d_Nm_order_49 ⟨Nat.zero_le _, Nat.zero_le _⟩) hS (xA_up hS.1) (fun _ H locs hu49 hP hS _ _ => ?_)
        have hP : va_P E.1 xcl (xV E a (a 6) (a 10) mm h) H := hP
        refine lv_if_ne (tgt := 58) hx hb d_Nm_order_52 (by decide) (fun c52 => ?_) (fun c52 => ?_)
        · have hlit := brN _ hlit c52
          refine lv_aload_n hx hb d_Nm_order_58 rfl (lv_at hl 0 rfl) ?_
          refine xg_Nm_4 hx hb hts hown hK hP q291 d_Nm_order_59 ?_
          refine lv_aload_n hx hb d_Nm_order_62 rfl (lv_at hl 0 rfl) ?_
          refine xg_Nm_1 hx hb hts hown hK hP q288 d_Nm_order_63 ?_
          obtain ⟨h_66, hl66, hlit⟩ := bindS hlit
          refine fCallV (fRunV (As := [.ref (a 3)]) (rest := []) (q0 := 14) (ci := 5) hx hb hml hown hts hK hN hP (cx_Pile_push_a l E a ha (a 6) (a 10) mm h _ 3 rfl (h9 := h_66) hl66) q422 q423 q424 q52 q425 hd_x_Pile_push_a rfl rfl ⟨Nat.le_of_ble_eq_true rfl, Nat.le_of_ble_eq_true rfl⟩ xe_14 rfl rfl rfl hl.1 rfl (Nat.le_of_ble_eq_true rfl) d_Nm_order_66 ⟨Nat.zero_le _, Nat.zero_le _⟩) hS (xA_up hS.1) (fun _ H locs hu66 hP hS _ _ => ?_)
          have hP : va_P E.1 xcl (xV E a (a 6) (a 10) mm h_66) H := hP
          refine lv_aload_n hx hb d_Nm_order_69 rfl (lv_at hl 0 rfl) ?_
          refine xg_Nm_1 hx hb hts hown hK hP q288 d_Nm_order_70 ?_
          refine lv_iload_n hx hb d_Nm_order_73 rfl (lv_at hl 1 rfl) ?_
          refine xp_Table_2 hx hb hts hown hK hP ha hA hS rfl q97 d_Nm_order_74 (fun H locs hP hS => ?_)
          obtain ⟨h_74, eh_74, hlit⟩ := bindS hlit
          rw [Option.some.inj eh_74] at hP
          refine lv_aload_n hx hb d_Nm_order_77 rfl (lv_at hl 0 rfl) ?_
          refine xg_Nm_1 hx hb hts hown hK hP q288 d_Nm_order_78 ?_
          refine xg_Table_0 hx hb hts hown hK hP rfl q93 d_Nm_order_81 ?_
          refine lv_aload_n hx hb d_Nm_order_84 rfl (lv_at hl 0 rfl) ?_
          refine xg_Nm_7 hx hb hts hown hK hP q294 d_Nm_order_85 ?_
          refine lv_iload_n hx hb d_Nm_order_88 rfl (lv_at hl 1 rfl) ?_
          obtain ⟨r89, hl89, hlit⟩ := bindS hlit
          refine fCallI (fRunV (As := [.int p1]) (rest := [.int (h_74 3 0)]) (q0 := 6) (ci := 1) hx hb hml hown hts hK hN hP (cx_Menu_minutesOf l E a ha (a 6) (a 10) mm h_74 _ 6 rfl p1 (r0 := r89) hl89) q393 q394 q395 q55 q396 hd_x_Menu_minutesOf rfl rfl ⟨Nat.le_of_ble_eq_true rfl, Nat.le_of_ble_eq_true rfl⟩ (xeU rfl) rfl rfl rfl hl.1 rfl (Nat.le_of_ble_eq_true rfl) d_Nm_order_89 ⟨Nat.zero_le _, Nat.zero_le _⟩) hS (xA_up hS.1) (fun _ H locs hu89 hP hS _ _ => ?_)
          have hP : va_P E.1 xcl (xV E a (a 6) (a 10) mm h_74) H := hP
          refine lv_iadd hx hb d_Nm_order_92 ?_
          cases hlit
          exact ret 0 _ _ _ _ trivial hP hS rfl d_Nm_order_93
        · have hlit := brP _ hlit c52
          refine lv_bipush (v := (-2 : Int32)) hx hb d_Nm_order_55 (by decide) ?_
          cases hlit
          exact ret 0 _ _ _ _ trivial hP hS rfl d_Nm_order_57
      · have hlit := brN _ hlit c31
        refine lv_bipush (v := (-2 : Int32)) hx hb d_Nm_order_34 (by decide) ?_
        cases hlit
        exact ret 0 _ _ _ _ trivial hP hS rfl d_Nm_order_36
  · have hlit := brP _ hlit c8
    refine lv_iconst (v := (-1 : Int32)) hx hb d_Nm_order_11 (by decide) ?_
    cases hlit
    exact ret 0 _ _ _ _ trivial hP hS rfl d_Nm_order_12
