/-! lay's contract, with the object's place -/
set_option maxHeartbeats 4000000 in
set_option maxRecDepth 100000 in
theorem cx_Nm_lay0 (l : Launch) (E : xE) (a : Nat → Nat) (ha : xInj a 38) (mm : Nat) (h : Hp) (sz : Nat) {r0 : Int32} {h9 : Hp} (hlit : x_Nm_lay h = some (r0, h9)) : Met l y_Nm_lay (Cond.code y_Nm_lay b_Nm_lay 2 (some .int) :: TB) rm_x_Nm_lay (fPc [.ref (a 0)] E.1 (xtys E) sz (xV E a (a 6) (a 10) mm h)) (fQi (fun z : (Nat → Nat) × Nat => z.1 0 = a 0 ∧ xInj z.1 38 ∧ ∀ k, k < 38 → ∃ j, j < 38 ∧ z.1 k = a j) r0 E.1 (fun (z : (Nat → Nat) × Nat) => xV E z.1 (z.1 6) (z.1 10) z.2 h9) (xA a 38 sz)) 0 0 (xA a 38 sz) := by
  refine fl_startI (by decide) (Nat.le_of_ble_eq_true rfl) ?_
  intro p e s m args below meth c Q hx hb hml hown hts hsz hP hK hN ret ls hl
  subst hsz
  have hA : ∀ k, k < 38 → (xA a 38 s.heap.size) (a k) := xA_in
  have hS : va_S (xA a 38 s.heap.size) s.heap s.heap [] := va_S.rf
  have hl : lv_has ls 2 [(0, .ref (a 0))] := hl
  refine lv_aload_n hx hb d_Nm_lay_0 rfl (lv_at hl 0 rfl) ?_
  refine xg_Nm_0 hx hb hts hown hK hP q287 d_Nm_lay_1 ?_
  refine lv_aload_n hx hb d_Nm_lay_4 rfl (lv_at hl 0 rfl) ?_
  refine xg_Nm_8 hx hb hts hown hK hP q295 d_Nm_lay_5 ?_
  obtain ⟨z8, hl8, hlit⟩ := bindS hlit
  refine fCallI (fRunV (As := [.ref (a 10)]) (rest := []) (q0 := 1) (ci := 6) hx hb hml hown hts hK hN hP (cx_Reader_readInto l E a ha (a 6) (a 10) mm h _ 10 rfl (r0 := z8.1) (h9 := z8.2) hl8) q240 q241 q242 q50 q243 hd_x_Reader_readInto rfl rfl ⟨Nat.le_of_ble_eq_true rfl, Nat.le_of_ble_eq_true rfl⟩ xe_1 rfl rfl rfl hl.1 rfl (Nat.le_of_ble_eq_true rfl) d_Nm_lay_8 ⟨Nat.zero_le _, Nat.zero_le _⟩) hS (xA_up hS.1) (fun _ H locs hu8 hP hS _ _ => ?_)
  have hP : va_P E.1 xcl (xV E a (a 6) (a 10) mm z8.2) H := hP
  refine lv_bipush (v := (-4 : Int32)) hx hb d_Nm_lay_11 (by decide) ?_
  refine lv_icmp_ne (tgt := 26) hx hb d_Nm_lay_13 (by decide) (fun c13 => ?_) (fun c13 => ?_)
  · have hlit := brN _ hlit c13
    refine lv_bipush (v := (-2 : Int32)) hx hb d_Nm_lay_26 (by decide) ?_
    cases hlit
    exact ret (a, mm) _ _ _ _ ⟨rfl, ha, fun k hk => ⟨k, hk, rfl⟩⟩ hP hS rfl d_Nm_lay_28
  · have hlit := brP _ hlit c13
    refine lv_aload_n hx hb d_Nm_lay_16 rfl (lv_at hl 0 rfl) ?_
    refine xg_Nm_8 hx hb hts hown hK hP q295 d_Nm_lay_17 ?_
    refine xg_Menu_1 hx hb hts hown hK hP rfl q152 d_Nm_lay_20 ?_
    refine lv_if_ne (tgt := 29) hx hb d_Nm_lay_23 (by decide) (fun c23 => ?_) (fun c23 => ?_)
    · have hlit := brN _ hlit c23
      refine lv_aload_n hx hb d_Nm_lay_29 rfl (lv_at hl 0 rfl) ?_
      refine xg_Nm_7 hx hb hts hown hK hP q294 d_Nm_lay_30 ?_
      refine lv_astore_n (lv' := [(1, .ref (a 6)), (0, .ref (a 0))]) hx hb d_Nm_lay_33 rfl hl (by decide) rfl (fun ls hl => ?_)
      refine lv_aload_n hx hb d_Nm_lay_34 rfl (lv_at hl 1 rfl) ?_
      refine lv_aload_n hx hb d_Nm_lay_35 rfl (lv_at hl 1 rfl) ?_
      refine xg_Nm_8 hx hb hts hown hK hP q295 d_Nm_lay_36 ?_
      refine xp_Nm_7 hx hb hts hown hK hP ha hA hS q294 d_Nm_lay_39 (fun H locs hP hS => ?_)
      refine lv_aload_n hx hb d_Nm_lay_42 rfl (lv_at hl 1 rfl) ?_
      refine lv_aload_n hx hb d_Nm_lay_43 rfl (lv_at hl 0 rfl) ?_
      refine xp_Nm_8 hx hb hts hown hK hP ha hA hS q295 d_Nm_lay_44 (fun H locs hP hS => ?_)
      refine lv_aload_n hx hb d_Nm_lay_47 rfl (lv_at hl 1 rfl) ?_
      refine xg_Nm_1 hx hb hts hown hK hP q288 d_Nm_lay_48 ?_
      obtain ⟨h_51, hl51, hlit⟩ := bindS hlit
      refine fCallV (fRunV (As := []) (rest := []) (q0 := 3) (ci := 7) hx hb hml hown hts hK hN hP (cx_Table_clear l E a ha (a 10) (a 6) mm z8.2 _ 3 rfl (h9 := h_51) hl51) q323 q324 q325 q51 q326 hd_x_Table_clear rfl rfl ⟨Nat.le_of_ble_eq_true rfl, Nat.le_of_ble_eq_true rfl⟩ (xeT rfl) rfl rfl rfl hl.1 rfl (Nat.le_of_ble_eq_true rfl) d_Nm_lay_51 ⟨Nat.zero_le _, Nat.zero_le _⟩) hS (xA_up hS.1) (fun _ H locs hu51 hP hS _ _ => ?_)
      have hP : va_P E.1 xcl (xV E a (a 10) (a 6) mm h_51) H := hP
      refine lv_aload_n hx hb d_Nm_lay_54 rfl (lv_at hl 1 rfl) ?_
      refine xg_Nm_4 hx hb hts hown hK hP q291 d_Nm_lay_55 ?_
      refine lv_iconst (v := (0 : Int32)) hx hb d_Nm_lay_58 (by decide) ?_
      refine xp_Pilea_0 hx hb hts hown hK hP ha hA hS q111 d_Nm_lay_59 (fun H locs hP hS => ?_)
      obtain ⟨h_59, eh_59, hlit⟩ := bindS hlit
      rw [Option.some.inj eh_59] at hP
      refine lv_aload_n hx hb d_Nm_lay_62 rfl (lv_at hl 1 rfl) ?_
      refine xg_Nm_5 hx hb hts hown hK hP q292 d_Nm_lay_63 ?_
      refine lv_iconst (v := (0 : Int32)) hx hb d_Nm_lay_66 (by decide) ?_
      refine xp_Pileb_0 hx hb hts hown hK hP ha hA hS q111 d_Nm_lay_67 (fun H locs hP hS => ?_)
      obtain ⟨h_67, eh_67, hlit⟩ := bindS hlit
      rw [Option.some.inj eh_67] at hP
      refine lv_aload_n hx hb d_Nm_lay_70 rfl (lv_at hl 1 rfl) ?_
      refine xg_Nm_6 hx hb hts hown hK hP q293 d_Nm_lay_71 ?_
      refine lv_iconst (v := (0 : Int32)) hx hb d_Nm_lay_74 (by decide) ?_
      refine xp_Notes_0 hx hb hts hown hK hP ha hA hS q137 d_Nm_lay_75 (fun H locs hP hS => ?_)
      obtain ⟨h_75, eh_75, hlit⟩ := bindS hlit
      rw [Option.some.inj eh_75] at hP
      refine lv_aload_n hx hb d_Nm_lay_78 rfl (lv_at hl 1 rfl) ?_
      refine xg_Nm_7 hx hb hts hown hK hP q294 d_Nm_lay_79 ?_
      refine xg_Menu_1 hx hb hts hown hK hP rfl q152 d_Nm_lay_82 ?_
      have hP := x_swap hP
      cases hlit
      exact ret (sw a, mm) _ _ _ _ ⟨rfl, sw_inj ha, sw_set⟩ hP hS rfl d_Nm_lay_85
    · have hlit := brP _ hlit c23
      refine lv_bipush (v := (-2 : Int32)) hx hb d_Nm_lay_26 (by decide) ?_
      cases hlit
      exact ret (a, mm) _ _ _ _ ⟨rfl, ha, fun k hk => ⟨k, hk, rfl⟩⟩ hP hS rfl d_Nm_lay_28

