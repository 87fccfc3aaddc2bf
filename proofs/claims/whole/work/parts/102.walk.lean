abbrev rm_x_Notes_next : Room := { frames := 1, cells := 0, slots := 0, locals := 21 }
theorem hd_x_Notes_next : y_Notes_next.cls ≠ "java/lang/invoke/MethodHandle" ∧ y_Notes_next.cls ≠ "java/lang/invoke/VarHandle" ∧ (parseMethodDescriptor y_Notes_next.desc).map (fun d => d.parameters.length) = some 0 := by decide +kernel
set_option maxHeartbeats 4000000 in
set_option maxRecDepth 100000 in
theorem cx_Notes_next (l : Launch) (E : xE) (a : Nat → Nat) (ha : xInj a 38) (u v : Nat) (mm : Nat) (h : Hp) (sz : Nat) {r0 : Option Nat} {h9 : Hp} (hlit : x_Notes_next h = some (r0, h9)) : Met l y_Notes_next (Cond.code y_Notes_next b_Notes_next 2 (some (.object "NoneMinds$Note")) :: TB) rm_x_Notes_next (fPc [.ref (a 28)] E.1 (xtys E) sz (xV E a u v mm h)) (fQq (fun _ : Nat => ∀ q, r0 = some q → isN q = true) (r0.map a) E.1 (fun (_ : Nat) => xV E a u v mm h9) (xA a 38 sz)) 0 0 (xA a 38 sz) := by
  refine fl_startQ (by decide) (Nat.le_of_ble_eq_true rfl) ?_
  intro p e s m args below meth c Q hx hb hml hown hts hsz hP hK hN ret ls hl
  subst hsz
  have hA : ∀ k, k < 38 → (xA a 38 s.heap.size) (a k) := xA_in
  have hS : va_S (xA a 38 s.heap.size) s.heap s.heap [] := va_S.rf
  have hl : lv_has ls 2 [(0, .ref (a 28))] := hl
  refine lv_aload_n hx hb d_Notes_next_0 rfl (lv_at hl 0 rfl) ?_
  refine lv_aload_n hx hb d_Notes_next_1 rfl (lv_at hl 0 rfl) ?_
  refine xg_Notes_0 hx hb hts hown hK hP q136 d_Notes_next_2 ?_
  obtain ⟨r5, hl5, hlit⟩ := bindS hlit
  refine fCallQ (fRunV (As := [.int (h 28 0)]) (rest := []) (q0 := 28) (ci := 4) hx hb hml hown hts hK hN hP (cx_Notes_get l E a ha u v mm h _ (h 28 0) (r0 := r5) hl5) q580 q581 q582 q53 q583 hd_x_Notes_get rfl rfl ⟨Nat.le_of_ble_eq_true rfl, Nat.le_of_ble_eq_true rfl⟩ xe_28 rfl rfl rfl hl.1 rfl (Nat.le_of_ble_eq_true rfl) d_Notes_next_5 ⟨Nat.zero_le _, Nat.zero_le _⟩) hS (xA_up hS.1) (fun _ H locs hu5 hP hS _ _ => ?_)
  have hP : va_P E.1 xcl (xV E a u v mm h) H := hP
  cases r5 with
  | none =>
    have hlit := elN hlit
    refine W.eq (g2 := F0 m 8 ls [.null]) rfl ?_
    refine lv_astore_nN (lv' := [(1, .null), (0, .ref (a 28))]) hx hb d_Notes_next_8 rfl hl (by decide) rfl (fun ls hl => ?_)
    refine lv_aload_nN hx hb d_Notes_next_9 rfl (lv_at hl 0 rfl) ?_
    refine lv_ifnullN (tgt := 23) hx hb d_Notes_next_10 (by decide) ?_
    refine lv_aload_nN hx hb d_Notes_next_23 rfl (lv_at hl 0 rfl) ?_
    cases hlit
    exact ret 0 _ _ _ _ (fun q e => by cases e) hP hS d_Notes_next_24
  | some n5 =>
    have hlit := elS hlit
    refine W.eq (g2 := F0 m 8 ls [.ref (a n5)]) rfl ?_
    refine lv_astore_n (lv' := [(1, .ref (a n5)), (0, .ref (a 28))]) hx hb d_Notes_next_8 rfl hl (by decide) rfl (fun ls hl => ?_)
    refine lv_aload_n hx hb d_Notes_next_9 rfl (lv_at hl 0 rfl) ?_
    refine lv_ifnull hx hb d_Notes_next_10 ?_
    refine lv_aload_n hx hb d_Notes_next_13 rfl (lv_at hl 1 rfl) ?_
    refine lv_dup hx hb d_Notes_next_14 rfl ?_
    refine xg_Notes_0 hx hb hts hown hK hP q136 d_Notes_next_15 ?_
    refine lv_iconst (v := (1 : Int32)) hx hb d_Notes_next_18 (by decide) ?_
    refine lv_iadd hx hb d_Notes_next_19 ?_
    refine xp_Notes_0 hx hb hts hown hK hP ha hA hS q136 d_Notes_next_20 (fun H locs hP hS => ?_)
    obtain ⟨h_20, eh_20, hlit⟩ := bindS hlit
    rw [Option.some.inj eh_20] at hP
    refine lv_aload_n hx hb d_Notes_next_23 rfl (lv_at hl 0 rfl) ?_
    cases hlit
    exact ret 0 _ _ _ _ (fun q e => by cases e; exact (hu5 _ rfl)) hP hS d_Notes_next_24

abbrev rm_x_Pile_get_a : Room := { frames := 0, cells := 0, slots := 0, locals := 0 }
theorem hd_x_Pile_get_a : y_Pile_get.cls ≠ "java/lang/invoke/MethodHandle" ∧ y_Pile_get.cls ≠ "java/lang/invoke/VarHandle" ∧ (parseMethodDescriptor y_Pile_get.desc).map (fun d => d.parameters.length) = some 1 := by decide +kernel
set_option maxHeartbeats 4000000 in
set_option maxRecDepth 100000 in
theorem cx_Pile_get_a (l : Launch) (E : xE) (a : Nat → Nat) (ha : xInj a 38) (u v : Nat) (mm : Nat) (h : Hp) (sz : Nat) (p1 : Int32) {r0 : Nat} (hlit : x_Pile_get_a p1 h = some r0) : Met l y_Pile_get (Cond.code y_Pile_get b_Pile_get 2 (some (.object "NoneMinds$Table")) :: TB) rm_x_Pile_get_a (fPc [.ref (a 14), .int p1] E.1 (xtys E) sz (xV E a u v mm h)) (fQq (fun _ : Nat => isT r0 = true) (some (a r0)) E.1 (fun (_ : Nat) => xV E a u v mm h) (xA a 38 sz)) 0 0 (xA a 38 sz) := by
  refine fl_startQ (by decide) (Nat.le_of_ble_eq_true rfl) ?_
  intro p e s m args below meth c Q hx hb hml hown hts hsz hP hK hN ret ls hl
  subst hsz
  have hA : ∀ k, k < 38 → (xA a 38 s.heap.size) (a k) := xA_in
  have hS : va_S (xA a 38 s.heap.size) s.heap s.heap [] := va_S.rf
  have hl : lv_has ls 2 [(0, .ref (a 14)), (1, .int p1)] := hl
  refine lv_iload_n hx hb d_Pile_get_0 rfl (lv_at hl 1 rfl) ?_
  refine lv_if_lt (tgt := 22) hx hb d_Pile_get_1 (by decide) (fun c1 => ?_) (fun c1 => ?_)
  · have hlit := brP _ hlit c1
    refine lv_null hx hb d_Pile_get_22 ?_
    exact nnF hlit
  · have hlit := brN _ hlit c1
    refine lv_iload_n hx hb d_Pile_get_4 rfl (lv_at hl 1 rfl) ?_
    refine lv_aload_n hx hb d_Pile_get_5 rfl (lv_at hl 0 rfl) ?_
    refine xg_Pilea_1 hx hb hts hown hK hP q112 d_Pile_get_6 ?_
    refine xalen15 hx hb hK hP (y := (8 : Int32)) rfl d_Pile_get_9 ?_
    refine lv_icmp_ge (tgt := 22) hx hb d_Pile_get_10 (by decide) (fun c10 => ?_) (fun c10 => ?_)
    · have hlit := brP _ hlit c10
      refine lv_null hx hb d_Pile_get_22 ?_
      exact nnF hlit
    · have hlit := brN _ hlit c10
      refine lv_aload_n hx hb d_Pile_get_13 rfl (lv_at hl 0 rfl) ?_
      refine xg_Pilea_1 hx hb hts hown hK hP q112 d_Pile_get_14 ?_
      refine lv_iload_n hx hb d_Pile_get_17 rfl (lv_at hl 1 rfl) ?_
      obtain ⟨g18, hlit⟩ := gdP _ hlit
      refine xaldr15 hx hb hK hP (vpin_c g18) d_Pile_get_18 ?_
      refine lv_goto (tgt := 23) hx hb d_Pile_get_19 (by decide) ?_
      cases hlit
      exact ret 0 _ _ _ _ (isT15 g18) hP hS d_Pile_get_23

abbrev rm_x_Pile_copy : Room := { frames := 1, cells := 0, slots := 0, locals := 21 }
theorem hd_x_Pile_copy : y_Pile_copy.cls ≠ "java/lang/invoke/MethodHandle" ∧ y_Pile_copy.cls ≠ "java/lang/invoke/VarHandle" ∧ (parseMethodDescriptor y_Pile_copy.desc).map (fun d => d.parameters.length) = some 2 := by decide +kernel
set_option maxHeartbeats 4000000 in
set_option maxRecDepth 100000 in
theorem cx_Pile_copy (l : Launch) (E : xE) (a : Nat → Nat) (ha : xInj a 38) (u v : Nat) (mm : Nat) (h : Hp) (sz : Nat) (q0_ : Nat) (hq0_ : isT q0_ = true) (q1_ : Nat) (hq1_ : isT q1_ = true) {h9 : Hp} (hlit : x_Pile_copy q0_ q1_ h = some h9) : Met l y_Pile_copy (Cond.code y_Pile_copy b_Pile_copy 2 none :: TB) rm_x_Pile_copy (fPc [.ref (a q0_), .ref (a q1_)] E.1 (xtys E) sz (xV E a u v mm h)) (fQv (fun _ : Nat => True) E.1 (fun (_ : Nat) => xV E a u v mm h9) (xA a 38 sz)) 0 0 (xA a 38 sz) := by
  refine fl_startV (by decide) (Nat.le_of_ble_eq_true rfl) ?_
  intro p e s m args below meth c Q hx hb hml hown hts hsz hP hK hN ret ls hl
  subst hsz
  have hA : ∀ k, k < 38 → (xA a 38 s.heap.size) (a k) := xA_in
  have hS : va_S (xA a 38 s.heap.size) s.heap s.heap [] := va_S.rf
  have hl : lv_has ls 2 [(0, .ref (a q0_)), (1, .ref (a q1_))] := hl
  refine lv_aload_n hx hb d_Pile_copy_0 rfl (lv_at hl 0 rfl) ?_
  refine lv_ifnull hx hb d_Pile_copy_1 ?_
  refine lv_aload_n hx hb d_Pile_copy_4 rfl (lv_at hl 1 rfl) ?_
  refine lv_ifnull hx hb d_Pile_copy_5 ?_
  refine lv_aload_n hx hb d_Pile_copy_8 rfl (lv_at hl 1 rfl) ?_
  refine lv_aload_n hx hb d_Pile_copy_9 rfl (lv_at hl 0 rfl) ?_
  obtain ⟨h_10, hl10, hlit⟩ := bindS hlit
  refine fCallV (fRunV (As := [.ref (a q0_)]) (rest := []) (q0 := q1_) (ci := 7) hx hb hml hown hts hK hN hP (cx_Table_copyFrom l E a ha u v mm h _ q1_ hq1_ q0_ hq0_ (h9 := h_10) hl10) q435 q436 q437 q51 q438 hd_x_Table_copyFrom rfl rfl ⟨Nat.le_of_ble_eq_true rfl, Nat.le_of_ble_eq_true rfl⟩ (xeT hq1_) rfl rfl rfl hl.1 rfl (Nat.le_of_ble_eq_true rfl) d_Pile_copy_10 ⟨Nat.zero_le _, Nat.zero_le _⟩) hS (xA_up hS.1) (fun _ H locs hu10 hP hS _ _ => ?_)
  have hP : va_P E.1 xcl (xV E a u v mm h_10) H := hP
  cases hlit
  exact ret 0 _ _ _ _ trivial hP hS d_Pile_copy_13

abbrev rm_x_Pile_dropLowest_a : Room := { frames := 2, cells := 0, slots := 0, locals := 42 }
theorem hd_x_Pile_dropLowest_a : y_Pile_dropLowest.cls ≠ "java/lang/invoke/MethodHandle" ∧ y_Pile_dropLowest.cls ≠ "java/lang/invoke/VarHandle" ∧ (parseMethodDescriptor y_Pile_dropLowest.desc).map (fun d => d.parameters.length) = some 0 := by decide +kernel
set_option maxHeartbeats 4000000 in
set_option maxRecDepth 100000 in
theorem cx_Pile_dropLowest_a (l : Launch) (E : xE) (a : Nat → Nat) (ha : xInj a 38) (u v : Nat) (mm : Nat) (h : Hp) (sz : Nat) {h9 : Hp} (hlit : x_Pile_dropLowest_a h = some h9) : Met l y_Pile_dropLowest (Cond.code y_Pile_dropLowest b_Pile_dropLowest 2 none :: TB) rm_x_Pile_dropLowest_a (fPc [.ref (a 14)] E.1 (xtys E) sz (xV E a u v mm h)) (fQv (fun _ : Nat => True) E.1 (fun (_ : Nat) => xV E a u v mm h9) (xA a 38 sz)) 0 0 (xA a 38 sz) := by
  refine fl_startV (by decide) (Nat.le_of_ble_eq_true rfl) ?_
  intro p e s m args below meth c Q hx hb hml hown hts hsz hP hK hN ret ls hl
  subst hsz
  have hA : ∀ k, k < 38 → (xA a 38 s.heap.size) (a k) := xA_in
  have hS : va_S (xA a 38 s.heap.size) s.heap s.heap [] := va_S.rf
  have hl : lv_has ls 2 [(0, .ref (a 14))] := hl
  have b2 : ∀ (n : Nat), ∀ (x1 : Int32) (h : Hp) (H : Heap) (locs : List Loc) (ls : Array Slot), x_Pile_dropLowest_a_b2 n x1 h = some h9 → va_P E.1 xcl (xV E a u v mm h) H → va_S (xA a 38 s.heap.size) s.heap H locs → lv_has ls 2 [(0, .ref (a 14)), (1, .int x1)] → W p l e rm_x_Pile_dropLowest_a s m args below meth c H locs 0 0 Q (F0 m 2 ls []) := by
    intro n
    induction n with
    | zero => intro x1 h H locs ls hlit hP hS hl; exact nnF hlit
    | succ n ih =>
      intro x1 h H locs ls hlit hP hS hl
      refine lv_iload_n hx hb d_Pile_dropLowest_2 rfl (lv_at hl 1 rfl) ?_
      refine lv_aload_n hx hb d_Pile_dropLowest_3 rfl (lv_at hl 0 rfl) ?_
      refine xg_Pilea_1 hx hb hts hown hK hP q112 d_Pile_dropLowest_4 ?_
      refine xalen15 hx hb hK hP (y := (8 : Int32)) rfl d_Pile_dropLowest_7 ?_
      refine lv_icmp_ge (tgt := 32) hx hb d_Pile_dropLowest_8 (by decide) (fun c8 => ?_) (fun c8 => ?_)
      · have hlit := brP _ hlit c8
        refine lv_aload_n hx hb d_Pile_dropLowest_32 rfl (lv_at hl 0 rfl) ?_
        refine lv_aload_n hx hb d_Pile_dropLowest_33 rfl (lv_at hl 0 rfl) ?_
        refine xg_Pilea_1 hx hb hts hown hK hP q112 d_Pile_dropLowest_34 ?_
        refine xalen15 hx hb hK hP (y := (8 : Int32)) rfl d_Pile_dropLowest_37 ?_
        refine lv_iconst (v := (1 : Int32)) hx hb d_Pile_dropLowest_38 (by decide) ?_
        refine lv_isub hx hb d_Pile_dropLowest_39 ?_
        refine xp_Pilea_0 hx hb hts hown hK hP ha hA hS q110 d_Pile_dropLowest_40 (fun H locs hP hS => ?_)
        obtain ⟨h_40, eh_40, hlit⟩ := bindS hlit
        rw [Option.some.inj eh_40] at hP
        cases hlit
        exact ret 0 _ _ _ _ trivial hP hS d_Pile_dropLowest_43
      · have hlit := brN _ hlit c8
        refine lv_aload_n hx hb d_Pile_dropLowest_11 rfl (lv_at hl 0 rfl) ?_
        refine lv_iload_n hx hb d_Pile_dropLowest_12 rfl (lv_at hl 1 rfl) ?_
        obtain ⟨r13, hl13, hlit⟩ := bindS hlit
        refine fCallQ (fRunV (As := [.int x1]) (rest := []) (q0 := 14) (ci := 5) hx hb hml hown hts hK hN hP (cx_Pile_get_a l E a ha u v mm h _ x1 (r0 := r13) hl13) q429 q430 q15 q52 q431 hd_x_Pile_get_a rfl rfl ⟨Nat.le_of_ble_eq_true rfl, Nat.le_of_ble_eq_true rfl⟩ xe_14 rfl rfl rfl hl.1 rfl (Nat.le_of_ble_eq_true rfl) d_Pile_dropLowest_13 ⟨Nat.zero_le _, Nat.zero_le _⟩) hS (xA_up hS.1) (fun _ H locs hu13 hP hS _ _ => ?_)
        have hP : va_P E.1 xcl (xV E a u v mm h) H := hP
        refine W.eq (g2 := F0 m 16 ls [.ref (a r13)]) rfl ?_
        refine lv_aload_n hx hb d_Pile_dropLowest_16 rfl (lv_at hl 0 rfl) ?_
        refine lv_iload_n hx hb d_Pile_dropLowest_17 rfl (lv_at hl 1 rfl) ?_
        refine lv_iconst (v := (1 : Int32)) hx hb d_Pile_dropLowest_18 (by decide) ?_
        refine lv_isub hx hb d_Pile_dropLowest_19 ?_
        obtain ⟨r20, hl20, hlit⟩ := bindS hlit
        refine fCallQ (fRunV (As := [.int (x1 - (1 : Int32))]) (rest := [.ref (a r13)]) (q0 := 14) (ci := 5) hx hb hml hown hts hK hN hP (cx_Pile_get_a l E a ha u v mm h _ (x1 - (1 : Int32)) (r0 := r20) hl20) q429 q430 q15 q52 q431 hd_x_Pile_get_a rfl rfl ⟨Nat.le_of_ble_eq_true rfl, Nat.le_of_ble_eq_true rfl⟩ xe_14 rfl rfl rfl hl.1 rfl (Nat.le_of_ble_eq_true rfl) d_Pile_dropLowest_20 ⟨Nat.zero_le _, Nat.zero_le _⟩) hS (xA_up hS.1) (fun _ H locs hu20 hP hS _ _ => ?_)
        have hP : va_P E.1 xcl (xV E a u v mm h) H := hP
        refine W.eq (g2 := F0 m 23 ls [.ref (a r20), .ref (a r13)]) rfl ?_
        obtain ⟨h_23, hl23, hlit⟩ := bindS hlit
        refine fCallV (fRunS (As := [.ref (a r13), .ref (a r20)]) (rest := []) hx hb hml hown hts hK hN hP (cx_Pile_copy l E a ha u v mm h _ r13 hu13 r20 hu20 (h9 := h_23) hl23) q432 q433 q52 q434 hd_x_Pile_copy rfl rfl ⟨Nat.le_of_ble_eq_true rfl, Nat.le_of_ble_eq_true rfl⟩ rfl hl.1 rfl (Nat.le_of_ble_eq_true rfl) d_Pile_dropLowest_23 ⟨Nat.zero_le _, Nat.zero_le _⟩) hS (xA_up hS.1) (fun _ H locs hu23 hP hS _ _ => ?_)
        have hP : va_P E.1 xcl (xV E a u v mm h_23) H := hP
        refine lv_iinc (v := (x1 + (1 : Int32))) (lv' := [(1, .int (x1 + (1 : Int32))), (0, .ref (a 14))]) hx hb d_Pile_dropLowest_26 hl (k := 1) rfl rfl (by decide) rfl (fun ls hl => ?_)
        refine lv_goto (tgt := 2) hx hb d_Pile_dropLowest_29 (by decide) ?_
        exact ih (x1 + (1 : Int32)) h_23 _ _ _ hlit hP hS (lv_sub hl [1, 0] rfl)
  refine lv_iconst (v := (1 : Int32)) hx hb d_Pile_dropLowest_0 (by decide) ?_
  refine lv_istore_n (lv' := [(1, .int (1 : Int32)), (0, .ref (a 14))]) hx hb d_Pile_dropLowest_1 rfl hl (by decide) rfl (fun ls hl => ?_)
  exact b2 FU (1 : Int32) h _ _ _ hlit hP hS (lv_sub hl [1, 0] rfl)

abbrev rm_x_Pile_push_a : Room := { frames := 3, cells := 0, slots := 0, locals := 63 }
theorem hd_x_Pile_push_a : y_Pile_push.cls ≠ "java/lang/invoke/MethodHandle" ∧ y_Pile_push.cls ≠ "java/lang/invoke/VarHandle" ∧ (parseMethodDescriptor y_Pile_push.desc).map (fun d => d.parameters.length) = some 1 := by decide +kernel
set_option maxHeartbeats 4000000 in
set_option maxRecDepth 100000 in
theorem cx_Pile_push_a (l : Launch) (E : xE) (a : Nat → Nat) (ha : xInj a 38) (u v : Nat) (mm : Nat) (h : Hp) (sz : Nat) (q1_ : Nat) (hq1_ : isT q1_ = true) {h9 : Hp} (hlit : x_Pile_push_a q1_ h = some h9) : Met l y_Pile_push (Cond.code y_Pile_push b_Pile_push 2 none :: TB) rm_x_Pile_push_a (fPc [.ref (a 14), .ref (a q1_)] E.1 (xtys E) sz (xV E a u v mm h)) (fQv (fun _ : Nat => True) E.1 (fun (_ : Nat) => xV E a u v mm h9) (xA a 38 sz)) 0 0 (xA a 38 sz) := by
  refine fl_startV (by decide) (Nat.le_of_ble_eq_true rfl) ?_
  intro p e s m args below meth c Q hx hb hml hown hts hsz hP hK hN ret ls hl
  subst hsz
  have hA : ∀ k, k < 38 → (xA a 38 s.heap.size) (a k) := xA_in
  have hS : va_S (xA a 38 s.heap.size) s.heap s.heap [] := va_S.rf
  have hl : lv_has ls 2 [(0, .ref (a 14)), (1, .ref (a q1_))] := hl
  have b16 : ∀ (h : Hp) (H : Heap) (locs : List Loc) (ls : Array Slot), x_Pile_push_a_b16 q1_ h = some h9 → va_P E.1 xcl (xV E a u v mm h) H → va_S (xA a 38 s.heap.size) s.heap H locs → lv_has ls 2 [(0, .ref (a 14)), (1, .ref (a q1_))] → W p l e rm_x_Pile_push_a s m args below meth c H locs 0 0 Q (F0 m 16 ls []) := by
    intro h H locs ls hlit hP hS hl
    refine lv_aload_n hx hb d_Pile_push_16 rfl (lv_at hl 1 rfl) ?_
    refine lv_aload_n hx hb d_Pile_push_17 rfl (lv_at hl 0 rfl) ?_
    refine lv_aload_n hx hb d_Pile_push_18 rfl (lv_at hl 0 rfl) ?_
    refine xg_Pilea_0 hx hb hts hown hK hP q110 d_Pile_push_19 ?_
    obtain ⟨r22, hl22, hlit⟩ := bindS hlit
    refine fCallQ (fRunV (As := [.int (h 14 0)]) (rest := [.ref (a q1_)]) (q0 := 14) (ci := 5) hx hb hml hown hts hK hN hP (cx_Pile_get_a l E a ha u v mm h _ (h 14 0) (r0 := r22) hl22) q429 q430 q15 q52 q431 hd_x_Pile_get_a rfl rfl ⟨Nat.le_of_ble_eq_true rfl, Nat.le_of_ble_eq_true rfl⟩ xe_14 rfl rfl rfl hl.1 rfl (Nat.le_of_ble_eq_true rfl) d_Pile_push_22 ⟨Nat.zero_le _, Nat.zero_le _⟩) hS (xA_up hS.1) (fun _ H locs hu22 hP hS _ _ => ?_)
    have hP : va_P E.1 xcl (xV E a u v mm h) H := hP
    refine W.eq (g2 := F0 m 25 ls [.ref (a r22), .ref (a q1_)]) rfl ?_
    obtain ⟨h_25, hl25, hlit⟩ := bindS hlit
    refine fCallV (fRunS (As := [.ref (a q1_), .ref (a r22)]) (rest := []) hx hb hml hown hts hK hN hP (cx_Pile_copy l E a ha u v mm h _ q1_ hq1_ r22 hu22 (h9 := h_25) hl25) q432 q433 q52 q434 hd_x_Pile_copy rfl rfl ⟨Nat.le_of_ble_eq_true rfl, Nat.le_of_ble_eq_true rfl⟩ rfl hl.1 rfl (Nat.le_of_ble_eq_true rfl) d_Pile_push_25 ⟨Nat.zero_le _, Nat.zero_le _⟩) hS (xA_up hS.1) (fun _ H locs hu25 hP hS _ _ => ?_)
    have hP : va_P E.1 xcl (xV E a u v mm h_25) H := hP
    refine lv_aload_n hx hb d_Pile_push_28 rfl (lv_at hl 0 rfl) ?_
    refine lv_dup hx hb d_Pile_push_29 rfl ?_
    refine xg_Pilea_0 hx hb hts hown hK hP q110 d_Pile_push_30 ?_
    refine lv_iconst (v := (1 : Int32)) hx hb d_Pile_push_33 (by decide) ?_
    refine lv_iadd hx hb d_Pile_push_34 ?_
    refine xp_Pilea_0 hx hb hts hown hK hP ha hA hS q110 d_Pile_push_35 (fun H locs hP hS => ?_)
    obtain ⟨h_35, eh_35, hlit⟩ := bindS hlit
    rw [Option.some.inj eh_35] at hP
    cases hlit
    exact ret 0 _ _ _ _ trivial hP hS d_Pile_push_38
  refine lv_aload_n hx hb d_Pile_push_0 rfl (lv_at hl 0 rfl) ?_
  refine xg_Pilea_0 hx hb hts hown hK hP q110 d_Pile_push_1 ?_
  refine lv_aload_n hx hb d_Pile_push_4 rfl (lv_at hl 0 rfl) ?_
  refine xg_Pilea_1 hx hb hts hown hK hP q112 d_Pile_push_5 ?_
  refine xalen15 hx hb hK hP (y := (8 : Int32)) rfl d_Pile_push_8 ?_
  refine lv_icmp_lt (tgt := 16) hx hb d_Pile_push_9 (by decide) (fun c9 => ?_) (fun c9 => ?_)
  · have hlit := brP _ hlit c9
    exact b16 h _ _ _ hlit hP hS (lv_sub hl [0, 1] rfl)
  · have hlit := brN _ hlit c9
    refine lv_aload_n hx hb d_Pile_push_12 rfl (lv_at hl 0 rfl) ?_
    obtain ⟨h_13, hl13, hlit⟩ := bindS hlit
    refine fCallV (fRunV (As := []) (rest := []) (q0 := 14) (ci := 5) hx hb hml hown hts hK hN hP (cx_Pile_dropLowest_a l E a ha u v mm h _ (h9 := h_13) hl13) q426 q427 q14 q52 q428 hd_x_Pile_dropLowest_a rfl rfl ⟨Nat.le_of_ble_eq_true rfl, Nat.le_of_ble_eq_true rfl⟩ xe_14 rfl rfl rfl hl.1 rfl (Nat.le_of_ble_eq_true rfl) d_Pile_push_13 ⟨Nat.zero_le _, Nat.zero_le _⟩) hS (xA_up hS.1) (fun _ H locs hu13 hP hS _ _ => ?_)
    have hP : va_P E.1 xcl (xV E a u v mm h_13) H := hP
    exact b16 h_13 _ _ _ hlit hP hS (lv_sub hl [0, 1] rfl)

abbrev rm_x_Pile_popInto_a : Room := { frames := 2, cells := 0, slots := 0, locals := 42 }
theorem hd_x_Pile_popInto_a : y_Pile_popInto.cls ≠ "java/lang/invoke/MethodHandle" ∧ y_Pile_popInto.cls ≠ "java/lang/invoke/VarHandle" ∧ (parseMethodDescriptor y_Pile_popInto.desc).map (fun d => d.parameters.length) = some 1 := by decide +kernel
set_option maxHeartbeats 4000000 in
set_option maxRecDepth 100000 in
theorem cx_Pile_popInto_a (l : Launch) (E : xE) (a : Nat → Nat) (ha : xInj a 38) (u v : Nat) (mm : Nat) (h : Hp) (sz : Nat) (q1_ : Nat) (hq1_ : isT q1_ = true) {r0 : Int32} {h9 : Hp} (hlit : x_Pile_popInto_a q1_ h = some (r0, h9)) : Met l y_Pile_popInto (Cond.code y_Pile_popInto b_Pile_popInto 2 (some .boolean) :: TB) rm_x_Pile_popInto_a (fPc [.ref (a 14), .ref (a q1_)] E.1 (xtys E) sz (xV E a u v mm h)) (fQi (fun _ : Nat => True) r0 E.1 (fun (_ : Nat) => xV E a u v mm h9) (xA a 38 sz)) 0 0 (xA a 38 sz) := by
  refine fl_startI (by decide) (Nat.le_of_ble_eq_true rfl) ?_
  intro p e s m args below meth c Q hx hb hml hown hts hsz hP hK hN ret ls hl
  subst hsz
  have hA : ∀ k, k < 38 → (xA a 38 s.heap.size) (a k) := xA_in
  have hS : va_S (xA a 38 s.heap.size) s.heap s.heap [] := va_S.rf
  have hl : lv_has ls 2 [(0, .ref (a 14)), (1, .ref (a q1_))] := hl
  refine lv_aload_n hx hb d_Pile_popInto_0 rfl (lv_at hl 0 rfl) ?_
  refine xg_Pilea_0 hx hb hts hown hK hP q110 d_Pile_popInto_1 ?_
  refine lv_iconst (v := (1 : Int32)) hx hb d_Pile_popInto_4 (by decide) ?_
  refine lv_icmp_ge (tgt := 10) hx hb d_Pile_popInto_5 (by decide) (fun c5 => ?_) (fun c5 => ?_)
  · have hlit := brP _ hlit c5
    refine lv_aload_n hx hb d_Pile_popInto_10 rfl (lv_at hl 0 rfl) ?_
    refine lv_dup hx hb d_Pile_popInto_11 rfl ?_
    refine xg_Pilea_0 hx hb hts hown hK hP q110 d_Pile_popInto_12 ?_
    refine lv_iconst (v := (1 : Int32)) hx hb d_Pile_popInto_15 (by decide) ?_
    refine lv_isub hx hb d_Pile_popInto_16 ?_
    refine xp_Pilea_0 hx hb hts hown hK hP ha hA hS q110 d_Pile_popInto_17 (fun H locs hP hS => ?_)
    obtain ⟨h_17, eh_17, hlit⟩ := bindS hlit
    rw [Option.some.inj eh_17] at hP
    refine lv_aload_n hx hb d_Pile_popInto_20 rfl (lv_at hl 0 rfl) ?_
    refine lv_aload_n hx hb d_Pile_popInto_21 rfl (lv_at hl 0 rfl) ?_
    refine xg_Pilea_0 hx hb hts hown hK hP q110 d_Pile_popInto_22 ?_
    obtain ⟨r25, hl25, hlit⟩ := bindS hlit
    refine fCallQ (fRunV (As := [.int (h_17 14 0)]) (rest := []) (q0 := 14) (ci := 5) hx hb hml hown hts hK hN hP (cx_Pile_get_a l E a ha u v mm h_17 _ (h_17 14 0) (r0 := r25) hl25) q429 q430 q15 q52 q431 hd_x_Pile_get_a rfl rfl ⟨Nat.le_of_ble_eq_true rfl, Nat.le_of_ble_eq_true rfl⟩ xe_14 rfl rfl rfl hl.1 rfl (Nat.le_of_ble_eq_true rfl) d_Pile_popInto_25 ⟨Nat.zero_le _, Nat.zero_le _⟩) hS (xA_up hS.1) (fun _ H locs hu25 hP hS _ _ => ?_)
    have hP : va_P E.1 xcl (xV E a u v mm h_17) H := hP
    refine W.eq (g2 := F0 m 28 ls [.ref (a r25)]) rfl ?_
    refine lv_aload_n hx hb d_Pile_popInto_28 rfl (lv_at hl 1 rfl) ?_
    obtain ⟨h_29, hl29, hlit⟩ := bindS hlit
    refine fCallV (fRunS (As := [.ref (a r25), .ref (a q1_)]) (rest := []) hx hb hml hown hts hK hN hP (cx_Pile_copy l E a ha u v mm h_17 _ r25 hu25 q1_ hq1_ (h9 := h_29) hl29) q432 q433 q52 q434 hd_x_Pile_copy rfl rfl ⟨Nat.le_of_ble_eq_true rfl, Nat.le_of_ble_eq_true rfl⟩ rfl hl.1 rfl (Nat.le_of_ble_eq_true rfl) d_Pile_popInto_29 ⟨Nat.zero_le _, Nat.zero_le _⟩) hS (xA_up hS.1) (fun _ H locs hu29 hP hS _ _ => ?_)
    have hP : va_P E.1 xcl (xV E a u v mm h_29) H := hP
    refine lv_iconst (v := (1 : Int32)) hx hb d_Pile_popInto_32 (by decide) ?_
    cases hlit
    exact ret 0 _ _ _ _ trivial hP hS rfl d_Pile_popInto_33
  · have hlit := brN _ hlit c5
    refine lv_iconst (v := (0 : Int32)) hx hb d_Pile_popInto_8 (by decide) ?_
    cases hlit
    exact ret 0 _ _ _ _ trivial hP hS rfl d_Pile_popInto_9

abbrev rm_x_Pile_get_b : Room := { frames := 0, cells := 0, slots := 0, locals := 0 }
theorem hd_x_Pile_get_b : y_Pile_get.cls ≠ "java/lang/invoke/MethodHandle" ∧ y_Pile_get.cls ≠ "java/lang/invoke/VarHandle" ∧ (parseMethodDescriptor y_Pile_get.desc).map (fun d => d.parameters.length) = some 1 := by decide +kernel
set_option maxHeartbeats 4000000 in
set_option maxRecDepth 100000 in
theorem cx_Pile_get_b (l : Launch) (E : xE) (a : Nat → Nat) (ha : xInj a 38) (u v : Nat) (mm : Nat) (h : Hp) (sz : Nat) (p1 : Int32) {r0 : Nat} (hlit : x_Pile_get_b p1 h = some r0) : Met l y_Pile_get (Cond.code y_Pile_get b_Pile_get 2 (some (.object "NoneMinds$Table")) :: TB) rm_x_Pile_get_b (fPc [.ref (a 24), .int p1] E.1 (xtys E) sz (xV E a u v mm h)) (fQq (fun _ : Nat => isT r0 = true) (some (a r0)) E.1 (fun (_ : Nat) => xV E a u v mm h) (xA a 38 sz)) 0 0 (xA a 38 sz) := by
  refine fl_startQ (by decide) (Nat.le_of_ble_eq_true rfl) ?_
  intro p e s m args below meth c Q hx hb hml hown hts hsz hP hK hN ret ls hl
  subst hsz
  have hA : ∀ k, k < 38 → (xA a 38 s.heap.size) (a k) := xA_in
  have hS : va_S (xA a 38 s.heap.size) s.heap s.heap [] := va_S.rf
  have hl : lv_has ls 2 [(0, .ref (a 24)), (1, .int p1)] := hl
  refine lv_iload_n hx hb d_Pile_get_0 rfl (lv_at hl 1 rfl) ?_
  refine lv_if_lt (tgt := 22) hx hb d_Pile_get_1 (by decide) (fun c1 => ?_) (fun c1 => ?_)
  · have hlit := brP _ hlit c1
    refine lv_null hx hb d_Pile_get_22 ?_
    exact nnF hlit
  · have hlit := brN _ hlit c1
    refine lv_iload_n hx hb d_Pile_get_4 rfl (lv_at hl 1 rfl) ?_
    refine lv_aload_n hx hb d_Pile_get_5 rfl (lv_at hl 0 rfl) ?_
    refine xg_Pileb_1 hx hb hts hown hK hP q112 d_Pile_get_6 ?_
    refine xalen25 hx hb hK hP (y := (2 : Int32)) rfl d_Pile_get_9 ?_
    refine lv_icmp_ge (tgt := 22) hx hb d_Pile_get_10 (by decide) (fun c10 => ?_) (fun c10 => ?_)
    · have hlit := brP _ hlit c10
      refine lv_null hx hb d_Pile_get_22 ?_
      exact nnF hlit
    · have hlit := brN _ hlit c10
      refine lv_aload_n hx hb d_Pile_get_13 rfl (lv_at hl 0 rfl) ?_
      refine xg_Pileb_1 hx hb hts hown hK hP q112 d_Pile_get_14 ?_
      refine lv_iload_n hx hb d_Pile_get_17 rfl (lv_at hl 1 rfl) ?_
      obtain ⟨g18, hlit⟩ := gdP _ hlit
      refine xaldr25 hx hb hK hP (vpin_c g18) d_Pile_get_18 ?_
      refine lv_goto (tgt := 23) hx hb d_Pile_get_19 (by decide) ?_
      cases hlit
      exact ret 0 _ _ _ _ (isT25 g18) hP hS d_Pile_get_23

abbrev rm_x_Pile_dropLowest_b : Room := { frames := 2, cells := 0, slots := 0, locals := 42 }
theorem hd_x_Pile_dropLowest_b : y_Pile_dropLowest.cls ≠ "java/lang/invoke/MethodHandle" ∧ y_Pile_dropLowest.cls ≠ "java/lang/invoke/VarHandle" ∧ (parseMethodDescriptor y_Pile_dropLowest.desc).map (fun d => d.parameters.length) = some 0 := by decide +kernel
set_option maxHeartbeats 4000000 in
set_option maxRecDepth 100000 in
theorem cx_Pile_dropLowest_b (l : Launch) (E : xE) (a : Nat → Nat) (ha : xInj a 38) (u v : Nat) (mm : Nat) (h : Hp) (sz : Nat) {h9 : Hp} (hlit : x_Pile_dropLowest_b h = some h9) : Met l y_Pile_dropLowest (Cond.code y_Pile_dropLowest b_Pile_dropLowest 2 none :: TB) rm_x_Pile_dropLowest_b (fPc [.ref (a 24)] E.1 (xtys E) sz (xV E a u v mm h)) (fQv (fun _ : Nat => True) E.1 (fun (_ : Nat) => xV E a u v mm h9) (xA a 38 sz)) 0 0 (xA a 38 sz) := by
  refine fl_startV (by decide) (Nat.le_of_ble_eq_true rfl) ?_
  intro p e s m args below meth c Q hx hb hml hown hts hsz hP hK hN ret ls hl
  subst hsz
  have hA : ∀ k, k < 38 → (xA a 38 s.heap.size) (a k) := xA_in
  have hS : va_S (xA a 38 s.heap.size) s.heap s.heap [] := va_S.rf
  have hl : lv_has ls 2 [(0, .ref (a 24))] := hl
  have b2 : ∀ (n : Nat), ∀ (x1 : Int32) (h : Hp) (H : Heap) (locs : List Loc) (ls : Array Slot), x_Pile_dropLowest_b_b2 n x1 h = some h9 → va_P E.1 xcl (xV E a u v mm h) H → va_S (xA a 38 s.heap.size) s.heap H locs → lv_has ls 2 [(0, .ref (a 24)), (1, .int x1)] → W p l e rm_x_Pile_dropLowest_b s m args below meth c H locs 0 0 Q (F0 m 2 ls []) := by
    intro n
    induction n with
    | zero => intro x1 h H locs ls hlit hP hS hl; exact nnF hlit
    | succ n ih =>
      intro x1 h H locs ls hlit hP hS hl
      refine lv_iload_n hx hb d_Pile_dropLowest_2 rfl (lv_at hl 1 rfl) ?_
      refine lv_aload_n hx hb d_Pile_dropLowest_3 rfl (lv_at hl 0 rfl) ?_
      refine xg_Pileb_1 hx hb hts hown hK hP q112 d_Pile_dropLowest_4 ?_
      refine xalen25 hx hb hK hP (y := (2 : Int32)) rfl d_Pile_dropLowest_7 ?_
      refine lv_icmp_ge (tgt := 32) hx hb d_Pile_dropLowest_8 (by decide) (fun c8 => ?_) (fun c8 => ?_)
      · have hlit := brP _ hlit c8
        refine lv_aload_n hx hb d_Pile_dropLowest_32 rfl (lv_at hl 0 rfl) ?_
        refine lv_aload_n hx hb d_Pile_dropLowest_33 rfl (lv_at hl 0 rfl) ?_
        refine xg_Pileb_1 hx hb hts hown hK hP q112 d_Pile_dropLowest_34 ?_
        refine xalen25 hx hb hK hP (y := (2 : Int32)) rfl d_Pile_dropLowest_37 ?_
        refine lv_iconst (v := (1 : Int32)) hx hb d_Pile_dropLowest_38 (by decide) ?_
        refine lv_isub hx hb d_Pile_dropLowest_39 ?_
        refine xp_Pileb_0 hx hb hts hown hK hP ha hA hS q110 d_Pile_dropLowest_40 (fun H locs hP hS => ?_)
        obtain ⟨h_40, eh_40, hlit⟩ := bindS hlit
        rw [Option.some.inj eh_40] at hP
        cases hlit
        exact ret 0 _ _ _ _ trivial hP hS d_Pile_dropLowest_43
      · have hlit := brN _ hlit c8
        refine lv_aload_n hx hb d_Pile_dropLowest_11 rfl (lv_at hl 0 rfl) ?_
        refine lv_iload_n hx hb d_Pile_dropLowest_12 rfl (lv_at hl 1 rfl) ?_
        obtain ⟨r13, hl13, hlit⟩ := bindS hlit
        refine fCallQ (fRunV (As := [.int x1]) (rest := []) (q0 := 24) (ci := 5) hx hb hml hown hts hK hN hP (cx_Pile_get_b l E a ha u v mm h _ x1 (r0 := r13) hl13) q429 q430 q15 q52 q431 hd_x_Pile_get_b rfl rfl ⟨Nat.le_of_ble_eq_true rfl, Nat.le_of_ble_eq_true rfl⟩ xe_24 rfl rfl rfl hl.1 rfl (Nat.le_of_ble_eq_true rfl) d_Pile_dropLowest_13 ⟨Nat.zero_le _, Nat.zero_le _⟩) hS (xA_up hS.1) (fun _ H locs hu13 hP hS _ _ => ?_)
        have hP : va_P E.1 xcl (xV E a u v mm h) H := hP
        refine W.eq (g2 := F0 m 16 ls [.ref (a r13)]) rfl ?_
        refine lv_aload_n hx hb d_Pile_dropLowest_16 rfl (lv_at hl 0 rfl) ?_
        refine lv_iload_n hx hb d_Pile_dropLowest_17 rfl (lv_at hl 1 rfl) ?_
        refine lv_iconst (v := (1 : Int32)) hx hb d_Pile_dropLowest_18 (by decide) ?_
        refine lv_isub hx hb d_Pile_dropLowest_19 ?_
        obtain ⟨r20, hl20, hlit⟩ := bindS hlit
        refine fCallQ (fRunV (As := [.int (x1 - (1 : Int32))]) (rest := [.ref (a r13)]) (q0 := 24) (ci := 5) hx hb hml hown hts hK hN hP (cx_Pile_get_b l E a ha u v mm h _ (x1 - (1 : Int32)) (r0 := r20) hl20) q429 q430 q15 q52 q431 hd_x_Pile_get_b rfl rfl ⟨Nat.le_of_ble_eq_true rfl, Nat.le_of_ble_eq_true rfl⟩ xe_24 rfl rfl rfl hl.1 rfl (Nat.le_of_ble_eq_true rfl) d_Pile_dropLowest_20 ⟨Nat.zero_le _, Nat.zero_le _⟩) hS (xA_up hS.1) (fun _ H locs hu20 hP hS _ _ => ?_)
        have hP : va_P E.1 xcl (xV E a u v mm h) H := hP
        refine W.eq (g2 := F0 m 23 ls [.ref (a r20), .ref (a r13)]) rfl ?_
        obtain ⟨h_23, hl23, hlit⟩ := bindS hlit
        refine fCallV (fRunS (As := [.ref (a r13), .ref (a r20)]) (rest := []) hx hb hml hown hts hK hN hP (cx_Pile_copy l E a ha u v mm h _ r13 hu13 r20 hu20 (h9 := h_23) hl23) q432 q433 q52 q434 hd_x_Pile_copy rfl rfl ⟨Nat.le_of_ble_eq_true rfl, Nat.le_of_ble_eq_true rfl⟩ rfl hl.1 rfl (Nat.le_of_ble_eq_true rfl) d_Pile_dropLowest_23 ⟨Nat.zero_le _, Nat.zero_le _⟩) hS (xA_up hS.1) (fun _ H locs hu23 hP hS _ _ => ?_)
        have hP : va_P E.1 xcl (xV E a u v mm h_23) H := hP
        refine lv_iinc (v := (x1 + (1 : Int32))) (lv' := [(1, .int (x1 + (1 : Int32))), (0, .ref (a 24))]) hx hb d_Pile_dropLowest_26 hl (k := 1) rfl rfl (by decide) rfl (fun ls hl => ?_)
        refine lv_goto (tgt := 2) hx hb d_Pile_dropLowest_29 (by decide) ?_
        exact ih (x1 + (1 : Int32)) h_23 _ _ _ hlit hP hS (lv_sub hl [1, 0] rfl)
  refine lv_iconst (v := (1 : Int32)) hx hb d_Pile_dropLowest_0 (by decide) ?_
  refine lv_istore_n (lv' := [(1, .int (1 : Int32)), (0, .ref (a 24))]) hx hb d_Pile_dropLowest_1 rfl hl (by decide) rfl (fun ls hl => ?_)
  exact b2 FU (1 : Int32) h _ _ _ hlit hP hS (lv_sub hl [1, 0] rfl)

abbrev rm_x_Pile_push_b : Room := { frames := 3, cells := 0, slots := 0, locals := 63 }
theorem hd_x_Pile_push_b : y_Pile_push.cls ≠ "java/lang/invoke/MethodHandle" ∧ y_Pile_push.cls ≠ "java/lang/invoke/VarHandle" ∧ (parseMethodDescriptor y_Pile_push.desc).map (fun d => d.parameters.length) = some 1 := by decide +kernel
set_option maxHeartbeats 4000000 in
set_option maxRecDepth 100000 in
theorem cx_Pile_push_b (l : Launch) (E : xE) (a : Nat → Nat) (ha : xInj a 38) (u v : Nat) (mm : Nat) (h : Hp) (sz : Nat) (q1_ : Nat) (hq1_ : isT q1_ = true) {h9 : Hp} (hlit : x_Pile_push_b q1_ h = some h9) : Met l y_Pile_push (Cond.code y_Pile_push b_Pile_push 2 none :: TB) rm_x_Pile_push_b (fPc [.ref (a 24), .ref (a q1_)] E.1 (xtys E) sz (xV E a u v mm h)) (fQv (fun _ : Nat => True) E.1 (fun (_ : Nat) => xV E a u v mm h9) (xA a 38 sz)) 0 0 (xA a 38 sz) := by
  refine fl_startV (by decide) (Nat.le_of_ble_eq_true rfl) ?_
  intro p e s m args below meth c Q hx hb hml hown hts hsz hP hK hN ret ls hl
  subst hsz
  have hA : ∀ k, k < 38 → (xA a 38 s.heap.size) (a k) := xA_in
  have hS : va_S (xA a 38 s.heap.size) s.heap s.heap [] := va_S.rf
  have hl : lv_has ls 2 [(0, .ref (a 24)), (1, .ref (a q1_))] := hl
  have b16 : ∀ (h : Hp) (H : Heap) (locs : List Loc) (ls : Array Slot), x_Pile_push_b_b16 q1_ h = some h9 → va_P E.1 xcl (xV E a u v mm h) H → va_S (xA a 38 s.heap.size) s.heap H locs → lv_has ls 2 [(0, .ref (a 24)), (1, .ref (a q1_))] → W p l e rm_x_Pile_push_b s m args below meth c H locs 0 0 Q (F0 m 16 ls []) := by
    intro h H locs ls hlit hP hS hl
    refine lv_aload_n hx hb d_Pile_push_16 rfl (lv_at hl 1 rfl) ?_
    refine lv_aload_n hx hb d_Pile_push_17 rfl (lv_at hl 0 rfl) ?_
    refine lv_aload_n hx hb d_Pile_push_18 rfl (lv_at hl 0 rfl) ?_
    refine xg_Pileb_0 hx hb hts hown hK hP q110 d_Pile_push_19 ?_
    obtain ⟨r22, hl22, hlit⟩ := bindS hlit
    refine fCallQ (fRunV (As := [.int (h 24 0)]) (rest := [.ref (a q1_)]) (q0 := 24) (ci := 5) hx hb hml hown hts hK hN hP (cx_Pile_get_b l E a ha u v mm h _ (h 24 0) (r0 := r22) hl22) q429 q430 q15 q52 q431 hd_x_Pile_get_b rfl rfl ⟨Nat.le_of_ble_eq_true rfl, Nat.le_of_ble_eq_true rfl⟩ xe_24 rfl rfl rfl hl.1 rfl (Nat.le_of_ble_eq_true rfl) d_Pile_push_22 ⟨Nat.zero_le _, Nat.zero_le _⟩) hS (xA_up hS.1) (fun _ H locs hu22 hP hS _ _ => ?_)
    have hP : va_P E.1 xcl (xV E a u v mm h) H := hP
    refine W.eq (g2 := F0 m 25 ls [.ref (a r22), .ref (a q1_)]) rfl ?_
    obtain ⟨h_25, hl25, hlit⟩ := bindS hlit
    refine fCallV (fRunS (As := [.ref (a q1_), .ref (a r22)]) (rest := []) hx hb hml hown hts hK hN hP (cx_Pile_copy l E a ha u v mm h _ q1_ hq1_ r22 hu22 (h9 := h_25) hl25) q432 q433 q52 q434 hd_x_Pile_copy rfl rfl ⟨Nat.le_of_ble_eq_true rfl, Nat.le_of_ble_eq_true rfl⟩ rfl hl.1 rfl (Nat.le_of_ble_eq_true rfl) d_Pile_push_25 ⟨Nat.zero_le _, Nat.zero_le _⟩) hS (xA_up hS.1) (fun _ H locs hu25 hP hS _ _ => ?_)
    have hP : va_P E.1 xcl (xV E a u v mm h_25) H := hP
    refine lv_aload_n hx hb d_Pile_push_28 rfl (lv_at hl 0 rfl) ?_
    refine lv_dup hx hb d_Pile_push_29 rfl ?_
    refine xg_Pileb_0 hx hb hts hown hK hP q110 d_Pile_push_30 ?_
    refine lv_iconst (v := (1 : Int32)) hx hb d_Pile_push_33 (by decide) ?_
    refine lv_iadd hx hb d_Pile_push_34 ?_
    refine xp_Pileb_0 hx hb hts hown hK hP ha hA hS q110 d_Pile_push_35 (fun H locs hP hS => ?_)
    obtain ⟨h_35, eh_35, hlit⟩ := bindS hlit
    rw [Option.some.inj eh_35] at hP
    cases hlit
    exact ret 0 _ _ _ _ trivial hP hS d_Pile_push_38
  refine lv_aload_n hx hb d_Pile_push_0 rfl (lv_at hl 0 rfl) ?_
  refine xg_Pileb_0 hx hb hts hown hK hP q110 d_Pile_push_1 ?_
  refine lv_aload_n hx hb d_Pile_push_4 rfl (lv_at hl 0 rfl) ?_
  refine xg_Pileb_1 hx hb hts hown hK hP q112 d_Pile_push_5 ?_
  refine xalen25 hx hb hK hP (y := (2 : Int32)) rfl d_Pile_push_8 ?_
  refine lv_icmp_lt (tgt := 16) hx hb d_Pile_push_9 (by decide) (fun c9 => ?_) (fun c9 => ?_)
  · have hlit := brP _ hlit c9
    exact b16 h _ _ _ hlit hP hS (lv_sub hl [0, 1] rfl)
  · have hlit := brN _ hlit c9
    refine lv_aload_n hx hb d_Pile_push_12 rfl (lv_at hl 0 rfl) ?_
    obtain ⟨h_13, hl13, hlit⟩ := bindS hlit
    refine fCallV (fRunV (As := []) (rest := []) (q0 := 24) (ci := 5) hx hb hml hown hts hK hN hP (cx_Pile_dropLowest_b l E a ha u v mm h _ (h9 := h_13) hl13) q426 q427 q14 q52 q428 hd_x_Pile_dropLowest_b rfl rfl ⟨Nat.le_of_ble_eq_true rfl, Nat.le_of_ble_eq_true rfl⟩ xe_24 rfl rfl rfl hl.1 rfl (Nat.le_of_ble_eq_true rfl) d_Pile_push_13 ⟨Nat.zero_le _, Nat.zero_le _⟩) hS (xA_up hS.1) (fun _ H locs hu13 hP hS _ _ => ?_)
    have hP : va_P E.1 xcl (xV E a u v mm h_13) H := hP
    exact b16 h_13 _ _ _ hlit hP hS (lv_sub hl [0, 1] rfl)

abbrev rm_x_Pile_popInto_b : Room := { frames := 2, cells := 0, slots := 0, locals := 42 }
theorem hd_x_Pile_popInto_b : y_Pile_popInto.cls ≠ "java/lang/invoke/MethodHandle" ∧ y_Pile_popInto.cls ≠ "java/lang/invoke/VarHandle" ∧ (parseMethodDescriptor y_Pile_popInto.desc).map (fun d => d.parameters.length) = some 1 := by decide +kernel
set_option maxHeartbeats 4000000 in
set_option maxRecDepth 100000 in
theorem cx_Pile_popInto_b (l : Launch) (E : xE) (a : Nat → Nat) (ha : xInj a 38) (u v : Nat) (mm : Nat) (h : Hp) (sz : Nat) (q1_ : Nat) (hq1_ : isT q1_ = true) {r0 : Int32} {h9 : Hp} (hlit : x_Pile_popInto_b q1_ h = some (r0, h9)) : Met l y_Pile_popInto (Cond.code y_Pile_popInto b_Pile_popInto 2 (some .boolean) :: TB) rm_x_Pile_popInto_b (fPc [.ref (a 24), .ref (a q1_)] E.1 (xtys E) sz (xV E a u v mm h)) (fQi (fun _ : Nat => True) r0 E.1 (fun (_ : Nat) => xV E a u v mm h9) (xA a 38 sz)) 0 0 (xA a 38 sz) := by
  refine fl_startI (by decide) (Nat.le_of_ble_eq_true rfl) ?_
  intro p e s m args below meth c Q hx hb hml hown hts hsz hP hK hN ret ls hl
  subst hsz
  have hA : ∀ k, k < 38 → (xA a 38 s.heap.size) (a k) := xA_in
  have hS : va_S (xA a 38 s.heap.size) s.heap s.heap [] := va_S.rf
  have hl : lv_has ls 2 [(0, .ref (a 24)), (1, .ref (a q1_))] := hl
  refine lv_aload_n hx hb d_Pile_popInto_0 rfl (lv_at hl 0 rfl) ?_
  refine xg_Pileb_0 hx hb hts hown hK hP q110 d_Pile_popInto_1 ?_
  refine lv_iconst (v := (1 : Int32)) hx hb d_Pile_popInto_4 (by decide) ?_
  refine lv_icmp_ge (tgt := 10) hx hb d_Pile_popInto_5 (by decide) (fun c5 => ?_) (fun c5 => ?_)
  · have hlit := brP _ hlit c5
    refine lv_aload_n hx hb d_Pile_popInto_10 rfl (lv_at hl 0 rfl) ?_
    refine lv_dup hx hb d_Pile_popInto_11 rfl ?_
    refine xg_Pileb_0 hx hb hts hown hK hP q110 d_Pile_popInto_12 ?_
    refine lv_iconst (v := (1 : Int32)) hx hb d_Pile_popInto_15 (by decide) ?_
    refine lv_isub hx hb d_Pile_popInto_16 ?_
    refine xp_Pileb_0 hx hb hts hown hK hP ha hA hS q110 d_Pile_popInto_17 (fun H locs hP hS => ?_)
    obtain ⟨h_17, eh_17, hlit⟩ := bindS hlit
    rw [Option.some.inj eh_17] at hP
    refine lv_aload_n hx hb d_Pile_popInto_20 rfl (lv_at hl 0 rfl) ?_
    refine lv_aload_n hx hb d_Pile_popInto_21 rfl (lv_at hl 0 rfl) ?_
    refine xg_Pileb_0 hx hb hts hown hK hP q110 d_Pile_popInto_22 ?_
    obtain ⟨r25, hl25, hlit⟩ := bindS hlit
    refine fCallQ (fRunV (As := [.int (h_17 24 0)]) (rest := []) (q0 := 24) (ci := 5) hx hb hml hown hts hK hN hP (cx_Pile_get_b l E a ha u v mm h_17 _ (h_17 24 0) (r0 := r25) hl25) q429 q430 q15 q52 q431 hd_x_Pile_get_b rfl rfl ⟨Nat.le_of_ble_eq_true rfl, Nat.le_of_ble_eq_true rfl⟩ xe_24 rfl rfl rfl hl.1 rfl (Nat.le_of_ble_eq_true rfl) d_Pile_popInto_25 ⟨Nat.zero_le _, Nat.zero_le _⟩) hS (xA_up hS.1) (fun _ H locs hu25 hP hS _ _ => ?_)
    have hP : va_P E.1 xcl (xV E a u v mm h_17) H := hP
    refine W.eq (g2 := F0 m 28 ls [.ref (a r25)]) rfl ?_
    refine lv_aload_n hx hb d_Pile_popInto_28 rfl (lv_at hl 1 rfl) ?_
    obtain ⟨h_29, hl29, hlit⟩ := bindS hlit
    refine fCallV (fRunS (As := [.ref (a r25), .ref (a q1_)]) (rest := []) hx hb hml hown hts hK hN hP (cx_Pile_copy l E a ha u v mm h_17 _ r25 hu25 q1_ hq1_ (h9 := h_29) hl29) q432 q433 q52 q434 hd_x_Pile_copy rfl rfl ⟨Nat.le_of_ble_eq_true rfl, Nat.le_of_ble_eq_true rfl⟩ rfl hl.1 rfl (Nat.le_of_ble_eq_true rfl) d_Pile_popInto_29 ⟨Nat.zero_le _, Nat.zero_le _⟩) hS (xA_up hS.1) (fun _ H locs hu29 hP hS _ _ => ?_)
    have hP : va_P E.1 xcl (xV E a u v mm h_29) H := hP
    refine lv_iconst (v := (1 : Int32)) hx hb d_Pile_popInto_32 (by decide) ?_
    cases hlit
    exact ret 0 _ _ _ _ trivial hP hS rfl d_Pile_popInto_33
  · have hlit := brN _ hlit c5
    refine lv_iconst (v := (0 : Int32)) hx hb d_Pile_popInto_8 (by decide) ?_
    cases hlit
    exact ret 0 _ _ _ _ trivial hP hS rfl d_Pile_popInto_9

abbrev rm_x_Reader_append : Room := { frames := 1, cells := 0, slots := 0, locals := 22 }
theorem hd_x_Reader_append : y_Reader_append.cls ≠ "java/lang/invoke/MethodHandle" ∧ y_Reader_append.cls ≠ "java/lang/invoke/VarHandle" ∧ (parseMethodDescriptor y_Reader_append.desc).map (fun d => d.parameters.length) = some 1 := by decide +kernel
set_option maxHeartbeats 4000000 in
set_option maxRecDepth 100000 in
theorem cx_Reader_append (l : Launch) (E : xE) (a : Nat → Nat) (ha : xInj a 38) (u v : Nat) (mm : Nat) (h : Hp) (sz : Nat) (p1 : Int32) {h9 : Hp} (hlit : x_Reader_append p1 h = some h9) : Met l y_Reader_append (Cond.code y_Reader_append b_Reader_append 2 none :: TB) rm_x_Reader_append (fPc [.ref (a 1), .int p1] E.1 (xtys E) sz (xV E a u v mm h)) (fQv (fun _ : Nat => True) E.1 (fun (_ : Nat) => xV E a u v mm h9) (xA a 38 sz)) 0 0 (xA a 38 sz) := by
  refine fl_startV (by decide) (Nat.le_of_ble_eq_true rfl) ?_
  intro p e s m args below meth c Q hx hb hml hown hts hsz hP hK hN ret ls hl
  subst hsz
  have hA : ∀ k, k < 38 → (xA a 38 s.heap.size) (a k) := xA_in
  have hS : va_S (xA a 38 s.heap.size) s.heap s.heap [] := va_S.rf
  have hl : lv_has ls 2 [(0, .ref (a 1)), (1, .int p1)] := hl
  refine lv_aload_n hx hb d_Reader_append_0 rfl (lv_at hl 0 rfl) ?_
  refine xg_Reader_1 hx hb hts hown hK hP q79 d_Reader_append_1 ?_
  refine lv_sipush (v := (200 : Int32)) hx hb d_Reader_append_4 (by decide) ?_
  refine lv_icmp_lt (tgt := 11) hx hb d_Reader_append_7 (by decide) (fun c7 => ?_) (fun c7 => ?_)
  · have hlit := brP _ hlit c7
    refine lv_aload_n hx hb d_Reader_append_11 rfl (lv_at hl 0 rfl) ?_
    refine xg_Reader_0 hx hb hts hown hK hP q77 d_Reader_append_12 ?_
    refine lv_aload_n hx hb d_Reader_append_15 rfl (lv_at hl 0 rfl) ?_
    refine xg_Reader_1 hx hb hts hown hK hP q79 d_Reader_append_16 ?_
    refine lv_iload_n hx hb d_Reader_append_19 rfl (lv_at hl 1 rfl) ?_
    obtain ⟨h_20, hl20, hlit⟩ := bindS hlit
    refine fCallV (fRunSN (As := [.ref (a 2), .int (h 1 1), .int p1]) (rest := []) hx hb hml hown hts hK hN hP (cx_Nm_put l E a ha u v mm h _ 2 rfl (h 1 1) p1 (h9 := h_20) hl20) (nw7 hN) q238 q49 q239 hd_x_Nm_put rfl rfl ⟨Nat.le_of_ble_eq_true rfl, Nat.le_of_ble_eq_true rfl⟩ rfl hl.1 rfl (Nat.le_of_ble_eq_true rfl) d_Reader_append_20 ⟨Nat.zero_le _, Nat.zero_le _⟩) hS (xA_up hS.1) (fun _ H locs hu20 hP hS _ _ => ?_)
    have hP : va_P E.1 xcl (xV E a u v mm h_20) H := hP
    refine lv_aload_n hx hb d_Reader_append_23 rfl (lv_at hl 0 rfl) ?_
    refine lv_dup hx hb d_Reader_append_24 rfl ?_
    refine xg_Reader_1 hx hb hts hown hK hP q79 d_Reader_append_25 ?_
    refine lv_iconst (v := (1 : Int32)) hx hb d_Reader_append_28 (by decide) ?_
    refine lv_iadd hx hb d_Reader_append_29 ?_
    refine xp_Reader_1 hx hb hts hown hK hP ha hA hS q79 d_Reader_append_30 (fun H locs hP hS => ?_)
    obtain ⟨h_30, eh_30, hlit⟩ := bindS hlit
    rw [Option.some.inj eh_30] at hP
    cases hlit
    exact ret 0 _ _ _ _ trivial hP hS d_Reader_append_33
  · have hlit := brN _ hlit c7
    cases hlit
    exact ret 0 _ _ _ _ trivial hP hS d_Reader_append_10

abbrev rm_x_Reader_peek : Room := { frames := 0, cells := 0, slots := 0, locals := 0 }
theorem hd_x_Reader_peek : y_Reader_peek.cls ≠ "java/lang/invoke/MethodHandle" ∧ y_Reader_peek.cls ≠ "java/lang/invoke/VarHandle" ∧ (parseMethodDescriptor y_Reader_peek.desc).map (fun d => d.parameters.length) = some 0 := by decide +kernel
set_option maxHeartbeats 4000000 in
set_option maxRecDepth 100000 in
theorem cx_Reader_peek (l : Launch) (E : xE) (a : Nat → Nat) (ha : xInj a 38) (u v : Nat) (mm : Nat) (h : Hp) (sz : Nat) {r0 : Int32} (hlit : x_Reader_peek h = some r0) : Met l y_Reader_peek (Cond.code y_Reader_peek b_Reader_peek 1 (some .int) :: TB) rm_x_Reader_peek (fPc [.ref (a 1)] E.1 (xtys E) sz (xV E a u v mm h)) (fQi (fun _ : Nat => True) r0 E.1 (fun (_ : Nat) => xV E a u v mm h) (xA a 38 sz)) 0 0 (xA a 38 sz) := by
  refine fl_startI (by decide) (Nat.le_of_ble_eq_true rfl) ?_
  intro p e s m args below meth c Q hx hb hml hown hts hsz hP hK hN ret ls hl
  subst hsz
  have hA : ∀ k, k < 38 → (xA a 38 s.heap.size) (a k) := xA_in
  have hS : va_S (xA a 38 s.heap.size) s.heap s.heap [] := va_S.rf
  have hl : lv_has ls 1 [(0, .ref (a 1))] := hl
  refine lv_aload_n hx hb d_Reader_peek_0 rfl (lv_at hl 0 rfl) ?_
  refine xg_Reader_2 hx hb hts hown hK hP q80 d_Reader_peek_1 ?_
  refine lv_if_lt (tgt := 42) hx hb d_Reader_peek_4 (by decide) (fun c4 => ?_) (fun c4 => ?_)
  · have hlit := brP _ hlit c4
    refine lv_iconst (v := (-1 : Int32)) hx hb d_Reader_peek_42 (by decide) ?_
    cases hlit
    exact ret 0 _ _ _ _ trivial hP hS rfl d_Reader_peek_43
  · have hlit := brN _ hlit c4
    refine lv_aload_n hx hb d_Reader_peek_7 rfl (lv_at hl 0 rfl) ?_
    refine xg_Reader_2 hx hb hts hown hK hP q80 d_Reader_peek_8 ?_
    refine lv_aload_n hx hb d_Reader_peek_11 rfl (lv_at hl 0 rfl) ?_
    refine xg_Reader_1 hx hb hts hown hK hP q79 d_Reader_peek_12 ?_
    refine lv_icmp_ge (tgt := 42) hx hb d_Reader_peek_15 (by decide) (fun c15 => ?_) (fun c15 => ?_)
    · have hlit := brP _ hlit c15
      refine lv_iconst (v := (-1 : Int32)) hx hb d_Reader_peek_42 (by decide) ?_
      cases hlit
      exact ret 0 _ _ _ _ trivial hP hS rfl d_Reader_peek_43
    · have hlit := brN _ hlit c15
      refine lv_aload_n hx hb d_Reader_peek_18 rfl (lv_at hl 0 rfl) ?_
      refine xg_Reader_2 hx hb hts hown hK hP q80 d_Reader_peek_19 ?_
      refine lv_aload_n hx hb d_Reader_peek_22 rfl (lv_at hl 0 rfl) ?_
      refine xg_Reader_0 hx hb hts hown hK hP q77 d_Reader_peek_23 ?_
      refine xalen hx hb hK hP rfl (y := (200 : Int32)) rfl d_Reader_peek_26 ?_
      refine lv_icmp_ge (tgt := 42) hx hb d_Reader_peek_27 (by decide) (fun c27 => ?_) (fun c27 => ?_)
      · have hlit := brP _ hlit c27
        refine lv_iconst (v := (-1 : Int32)) hx hb d_Reader_peek_42 (by decide) ?_
        cases hlit
        exact ret 0 _ _ _ _ trivial hP hS rfl d_Reader_peek_43
      · have hlit := brN _ hlit c27
        refine lv_aload_n hx hb d_Reader_peek_30 rfl (lv_at hl 0 rfl) ?_
        refine xg_Reader_0 hx hb hts hown hK hP q77 d_Reader_peek_31 ?_
        refine lv_aload_n hx hb d_Reader_peek_34 rfl (lv_at hl 0 rfl) ?_
        refine xg_Reader_2 hx hb hts hown hK hP q80 d_Reader_peek_35 ?_
        obtain ⟨g38, hlit⟩ := gdP _ hlit
        refine xald hx hb hK hP rfl (j := (h 1 2).toNatClampNeg) rfl (vpin_c g38) d_Reader_peek_38 ?_
        refine lv_goto (tgt := 43) hx hb d_Reader_peek_39 (by decide) ?_
        cases hlit
        exact ret 0 _ _ _ _ trivial hP hS rfl d_Reader_peek_43

abbrev rm_x_Nm_isOutside : Room := { frames := 0, cells := 0, slots := 0, locals := 0 }
theorem hd_x_Nm_isOutside : y_Nm_isOutside.cls ≠ "java/lang/invoke/MethodHandle" ∧ y_Nm_isOutside.cls ≠ "java/lang/invoke/VarHandle" ∧ (parseMethodDescriptor y_Nm_isOutside.desc).map (fun d => d.parameters.length) = some 3 := by decide +kernel
set_option maxHeartbeats 4000000 in
set_option maxRecDepth 100000 in
theorem cx_Nm_isOutside (l : Launch) (E : xE) (a : Nat → Nat) (ha : xInj a 38) (u v : Nat) (mm : Nat) (h : Hp) (sz : Nat) (p0 : Int32) (p1 : Int32) (p2 : Int32) {r0 : Int32} (hlit : x_Nm_isOutside p0 p1 p2 h = some r0) : Met l y_Nm_isOutside (Cond.code y_Nm_isOutside b_Nm_isOutside 3 (some .boolean) :: TB) rm_x_Nm_isOutside (fPc [.int p0, .int p1, .int p2] E.1 (xtys E) sz (xV E a u v mm h)) (fQi (fun _ : Nat => True) r0 E.1 (fun (_ : Nat) => xV E a u v mm h) (xA a 38 sz)) 0 0 (xA a 38 sz) := by
  refine fl_startI (by decide) (Nat.le_of_ble_eq_true rfl) ?_
  intro p e s m args below meth c Q hx hb hml hown hts hsz hP hK hN ret ls hl
  subst hsz
  have hA : ∀ k, k < 38 → (xA a 38 s.heap.size) (a k) := xA_in
  have hS : va_S (xA a 38 s.heap.size) s.heap s.heap [] := va_S.rf
  have hl : lv_has ls 3 [(0, .int p0), (1, .int p1), (2, .int p2)] := hl
  refine lv_iload_n hx hb d_Nm_isOutside_0 rfl (lv_at hl 0 rfl) ?_
  refine lv_iload_n hx hb d_Nm_isOutside_1 rfl (lv_at hl 1 rfl) ?_
  refine lv_icmp_lt (tgt := 10) hx hb d_Nm_isOutside_2 (by decide) (fun c2 => ?_) (fun c2 => ?_)
  · have hlit := brP _ hlit c2
    refine lv_iconst (v := (1 : Int32)) hx hb d_Nm_isOutside_10 (by decide) ?_
    refine lv_goto (tgt := 15) hx hb d_Nm_isOutside_11 (by decide) ?_
    cases hlit
    exact ret 0 _ _ _ _ trivial hP hS rfl d_Nm_isOutside_15
  · have hlit := brN _ hlit c2
    refine lv_iload_n hx hb d_Nm_isOutside_5 rfl (lv_at hl 0 rfl) ?_
    refine lv_iload_n hx hb d_Nm_isOutside_6 rfl (lv_at hl 2 rfl) ?_
    refine lv_icmp_le (tgt := 14) hx hb d_Nm_isOutside_7 (by decide) (fun c7 => ?_) (fun c7 => ?_)
    · have hlit := brP _ hlit c7
      refine lv_iconst (v := (0 : Int32)) hx hb d_Nm_isOutside_14 (by decide) ?_
      cases hlit
      exact ret 0 _ _ _ _ trivial hP hS rfl d_Nm_isOutside_15
    · have hlit := brN _ hlit c7
      refine lv_iconst (v := (1 : Int32)) hx hb d_Nm_isOutside_10 (by decide) ?_
      refine lv_goto (tgt := 15) hx hb d_Nm_isOutside_11 (by decide) ?_
      cases hlit
      exact ret 0 _ _ _ _ trivial hP hS rfl d_Nm_isOutside_15

abbrev rm_x_Reader_figure : Room := { frames := 1, cells := 0, slots := 0, locals := 22 }
theorem hd_x_Reader_figure : y_Reader_figure.cls ≠ "java/lang/invoke/MethodHandle" ∧ y_Reader_figure.cls ≠ "java/lang/invoke/VarHandle" ∧ (parseMethodDescriptor y_Reader_figure.desc).map (fun d => d.parameters.length) = some 0 := by decide +kernel
set_option maxHeartbeats 4000000 in
set_option maxRecDepth 100000 in
theorem cx_Reader_figure (l : Launch) (E : xE) (a : Nat → Nat) (ha : xInj a 38) (u v : Nat) (mm : Nat) (h : Hp) (sz : Nat) {r0 : Int32} {h9 : Hp} (hlit : x_Reader_figure h = some (r0, h9)) : Met l y_Reader_figure (Cond.code y_Reader_figure b_Reader_figure 2 (some .int) :: TB) rm_x_Reader_figure (fPc [.ref (a 1)] E.1 (xtys E) sz (xV E a u v mm h)) (fQi (fun _ : Nat => True) r0 E.1 (fun (_ : Nat) => xV E a u v mm h9) (xA a 38 sz)) 0 0 (xA a 38 sz) := by
  refine fl_startI (by decide) (Nat.le_of_ble_eq_true rfl) ?_
  intro p e s m args below meth c Q hx hb hml hown hts hsz hP hK hN ret ls hl
  subst hsz
  have hA : ∀ k, k < 38 → (xA a 38 s.heap.size) (a k) := xA_in
  have hS : va_S (xA a 38 s.heap.size) s.heap s.heap [] := va_S.rf
  have hl : lv_has ls 2 [(0, .ref (a 1))] := hl
  refine lv_aload_n hx hb d_Reader_figure_0 rfl (lv_at hl 0 rfl) ?_
  obtain ⟨r1, hl1, hlit⟩ := bindS hlit
  refine fCallI (fRunV (As := []) (rest := []) (q0 := 1) (ci := 6) hx hb hml hown hts hK hN hP (cx_Reader_peek l E a ha u v mm h _ (r0 := r1) hl1) q251 q252 q1 q50 q253 hd_x_Reader_peek rfl rfl ⟨Nat.le_of_ble_eq_true rfl, Nat.le_of_ble_eq_true rfl⟩ xe_1 rfl rfl rfl hl.1 rfl (Nat.le_of_ble_eq_true rfl) d_Reader_figure_1 ⟨Nat.zero_le _, Nat.zero_le _⟩) hS (xA_up hS.1) (fun _ H locs hu1 hP hS _ _ => ?_)
  have hP : va_P E.1 xcl (xV E a u v mm h) H := hP
  refine lv_istore_n (lv' := [(1, .int r1), (0, .ref (a 1))]) hx hb d_Reader_figure_4 rfl hl (by decide) rfl (fun ls hl => ?_)
  refine lv_iload_n hx hb d_Reader_figure_5 rfl (lv_at hl 0 rfl) ?_
  refine lv_bipush (v := (48 : Int32)) hx hb d_Reader_figure_6 (by decide) ?_
  refine lv_bipush (v := (57 : Int32)) hx hb d_Reader_figure_8 (by decide) ?_
  obtain ⟨r10, hl10, hlit⟩ := bindS hlit
  refine fCallI (fRunSN (As := [.int r1, .int (48 : Int32), .int (57 : Int32)]) (rest := []) hx hb hml hown hts hK hN hP (cx_Nm_isOutside l E a ha u v mm h _ r1 (48 : Int32) (57 : Int32) (r0 := r10) hl10) (nw9 hN) q263 q49 q264 hd_x_Nm_isOutside rfl rfl ⟨Nat.le_of_ble_eq_true rfl, Nat.le_of_ble_eq_true rfl⟩ rfl hl.1 rfl (Nat.le_of_ble_eq_true rfl) d_Reader_figure_10 ⟨Nat.zero_le _, Nat.zero_le _⟩) hS (xA_up hS.1) (fun _ H locs hu10 hP hS _ _ => ?_)
  have hP : va_P E.1 xcl (xV E a u v mm h) H := hP
  refine lv_if_eq (tgt := 18) hx hb d_Reader_figure_13 (by decide) (fun c13 => ?_) (fun c13 => ?_)
  · have hlit := brP _ hlit c13
    refine lv_aload_n hx hb d_Reader_figure_18 rfl (lv_at hl 1 rfl) ?_
    refine lv_dup hx hb d_Reader_figure_19 rfl ?_
    refine xg_Reader_2 hx hb hts hown hK hP q80 d_Reader_figure_20 ?_
    refine lv_iconst (v := (1 : Int32)) hx hb d_Reader_figure_23 (by decide) ?_
    refine lv_iadd hx hb d_Reader_figure_24 ?_
    refine xp_Reader_2 hx hb hts hown hK hP ha hA hS q80 d_Reader_figure_25 (fun H locs hP hS => ?_)
    obtain ⟨h_25, eh_25, hlit⟩ := bindS hlit
    rw [Option.some.inj eh_25] at hP
    refine lv_iload_n hx hb d_Reader_figure_28 rfl (lv_at hl 0 rfl) ?_
    refine lv_bipush (v := (48 : Int32)) hx hb d_Reader_figure_29 (by decide) ?_
    refine lv_isub hx hb d_Reader_figure_31 ?_
    cases hlit
    exact ret 0 _ _ _ _ trivial hP hS rfl d_Reader_figure_32
  · have hlit := brN _ hlit c13
    refine lv_iconst (v := (-1 : Int32)) hx hb d_Reader_figure_16 (by decide) ?_
    cases hlit
    exact ret 0 _ _ _ _ trivial hP hS rfl d_Reader_figure_17

abbrev rm_x_Reader_number : Room := { frames := 2, cells := 0, slots := 0, locals := 43 }
theorem hd_x_Reader_number : y_Reader_number.cls ≠ "java/lang/invoke/MethodHandle" ∧ y_Reader_number.cls ≠ "java/lang/invoke/VarHandle" ∧ (parseMethodDescriptor y_Reader_number.desc).map (fun d => d.parameters.length) = some 0 := by decide +kernel
set_option maxHeartbeats 4000000 in
set_option maxRecDepth 100000 in
theorem cx_Reader_number (l : Launch) (E : xE) (a : Nat → Nat) (ha : xInj a 38) (u v : Nat) (mm : Nat) (h : Hp) (sz : Nat) {r0 : Int32} {h9 : Hp} (hlit : x_Reader_number h = some (r0, h9)) : Met l y_Reader_number (Cond.code y_Reader_number b_Reader_number 3 (some .int) :: TB) rm_x_Reader_number (fPc [.ref (a 1)] E.1 (xtys E) sz (xV E a u v mm h)) (fQi (fun _ : Nat => True) r0 E.1 (fun (_ : Nat) => xV E a u v mm h9) (xA a 38 sz)) 0 0 (xA a 38 sz) := by
  refine fl_startI (by decide) (Nat.le_of_ble_eq_true rfl) ?_
  intro p e s m args below meth c Q hx hb hml hown hts hsz hP hK hN ret ls hl
  subst hsz
  have hA : ∀ k, k < 38 → (xA a 38 s.heap.size) (a k) := xA_in
  have hS : va_S (xA a 38 s.heap.size) s.heap s.heap [] := va_S.rf
  have hl : lv_has ls 3 [(0, .ref (a 1))] := hl
  refine lv_aload_n hx hb d_Reader_number_0 rfl (lv_at hl 0 rfl) ?_
  obtain ⟨z1, hl1, hlit⟩ := bindS hlit
  refine fCallI (fRunV (As := []) (rest := []) (q0 := 1) (ci := 6) hx hb hml hown hts hK hN hP (cx_Reader_figure l E a ha u v mm h _ (r0 := z1.1) (h9 := z1.2) hl1) q260 q261 q4 q50 q262 hd_x_Reader_figure rfl rfl ⟨Nat.le_of_ble_eq_true rfl, Nat.le_of_ble_eq_true rfl⟩ xe_1 rfl rfl rfl hl.1 rfl (Nat.le_of_ble_eq_true rfl) d_Reader_number_1 ⟨Nat.zero_le _, Nat.zero_le _⟩) hS (xA_up hS.1) (fun _ H locs hu1 hP hS _ _ => ?_)
  have hP : va_P E.1 xcl (xV E a u v mm z1.2) H := hP
  refine lv_istore_n (lv' := [(1, .int z1.1), (0, .ref (a 1))]) hx hb d_Reader_number_4 rfl hl (by decide) rfl (fun ls hl => ?_)
  refine lv_iload_n hx hb d_Reader_number_5 rfl (lv_at hl 0 rfl) ?_
  refine lv_iconst (v := (-1 : Int32)) hx hb d_Reader_number_6 (by decide) ?_
  refine lv_icmp_ne (tgt := 12) hx hb d_Reader_number_7 (by decide) (fun c7 => ?_) (fun c7 => ?_)
  · have hlit := brN _ hlit c7
    refine lv_aload_n hx hb d_Reader_number_12 rfl (lv_at hl 1 rfl) ?_
    obtain ⟨z13, hl13, hlit⟩ := bindS hlit
    refine fCallI (fRunV (As := []) (rest := []) (q0 := 1) (ci := 6) hx hb hml hown hts hK hN hP (cx_Reader_figure l E a ha u v mm z1.2 _ (r0 := z13.1) (h9 := z13.2) hl13) q260 q261 q4 q50 q262 hd_x_Reader_figure rfl rfl ⟨Nat.le_of_ble_eq_true rfl, Nat.le_of_ble_eq_true rfl⟩ xe_1 rfl rfl rfl hl.1 rfl (Nat.le_of_ble_eq_true rfl) d_Reader_number_13 ⟨Nat.zero_le _, Nat.zero_le _⟩) hS (xA_up hS.1) (fun _ H locs hu13 hP hS _ _ => ?_)
    have hP : va_P E.1 xcl (xV E a u v mm z13.2) H := hP
    refine lv_istore_n (lv' := [(2, .int z13.1), (1, .int z1.1), (0, .ref (a 1))]) hx hb d_Reader_number_16 rfl hl (by decide) rfl (fun ls hl => ?_)
    refine lv_iload_n hx hb d_Reader_number_17 rfl (lv_at hl 0 rfl) ?_
    refine lv_iconst (v := (-1 : Int32)) hx hb d_Reader_number_18 (by decide) ?_
    refine lv_icmp_ne (tgt := 26) hx hb d_Reader_number_19 (by decide) (fun c19 => ?_) (fun c19 => ?_)
    · have hlit := brN _ hlit c19
      refine lv_bipush (v := (10 : Int32)) hx hb d_Reader_number_26 (by decide) ?_
      refine lv_iload_n hx hb d_Reader_number_28 rfl (lv_at hl 1 rfl) ?_
      refine lv_imul hx hb d_Reader_number_29 ?_
      refine lv_iload_n hx hb d_Reader_number_30 rfl (lv_at hl 0 rfl) ?_
      refine lv_iadd hx hb d_Reader_number_31 ?_
      cases hlit
      exact ret 0 _ _ _ _ trivial hP hS rfl d_Reader_number_32
    · have hlit := brP _ hlit c19
      refine lv_iload_n hx hb d_Reader_number_22 rfl (lv_at hl 1 rfl) ?_
      refine lv_goto (tgt := 32) hx hb d_Reader_number_23 (by decide) ?_
      cases hlit
      exact ret 0 _ _ _ _ trivial hP hS rfl d_Reader_number_32
  · have hlit := brP _ hlit c7
    refine lv_iconst (v := (-1 : Int32)) hx hb d_Reader_number_10 (by decide) ?_
    cases hlit
    exact ret 0 _ _ _ _ trivial hP hS rfl d_Reader_number_11

abbrev rm_x_Reader_skip : Room := { frames := 1, cells := 0, slots := 0, locals := 20 }
theorem hd_x_Reader_skip : y_Reader_skip.cls ≠ "java/lang/invoke/MethodHandle" ∧ y_Reader_skip.cls ≠ "java/lang/invoke/VarHandle" ∧ (parseMethodDescriptor y_Reader_skip.desc).map (fun d => d.parameters.length) = some 1 := by decide +kernel
set_option maxHeartbeats 4000000 in
set_option maxRecDepth 100000 in
theorem cx_Reader_skip (l : Launch) (E : xE) (a : Nat → Nat) (ha : xInj a 38) (u v : Nat) (mm : Nat) (h : Hp) (sz : Nat) (p1 : Int32) {r0 : Int32} {h9 : Hp} (hlit : x_Reader_skip p1 h = some (r0, h9)) : Met l y_Reader_skip (Cond.code y_Reader_skip b_Reader_skip 2 (some .boolean) :: TB) rm_x_Reader_skip (fPc [.ref (a 1), .int p1] E.1 (xtys E) sz (xV E a u v mm h)) (fQi (fun _ : Nat => True) r0 E.1 (fun (_ : Nat) => xV E a u v mm h9) (xA a 38 sz)) 0 0 (xA a 38 sz) := by
  refine fl_startI (by decide) (Nat.le_of_ble_eq_true rfl) ?_
  intro p e s m args below meth c Q hx hb hml hown hts hsz hP hK hN ret ls hl
  subst hsz
  have hA : ∀ k, k < 38 → (xA a 38 s.heap.size) (a k) := xA_in
  have hS : va_S (xA a 38 s.heap.size) s.heap s.heap [] := va_S.rf
  have hl : lv_has ls 2 [(0, .ref (a 1)), (1, .int p1)] := hl
  refine lv_aload_n hx hb d_Reader_skip_0 rfl (lv_at hl 0 rfl) ?_
  obtain ⟨r1, hl1, hlit⟩ := bindS hlit
  refine fCallI (fRunV (As := []) (rest := []) (q0 := 1) (ci := 6) hx hb hml hown hts hK hN hP (cx_Reader_peek l E a ha u v mm h _ (r0 := r1) hl1) q251 q252 q1 q50 q253 hd_x_Reader_peek rfl rfl ⟨Nat.le_of_ble_eq_true rfl, Nat.le_of_ble_eq_true rfl⟩ xe_1 rfl rfl rfl hl.1 rfl (Nat.le_of_ble_eq_true rfl) d_Reader_skip_1 ⟨Nat.zero_le _, Nat.zero_le _⟩) hS (xA_up hS.1) (fun _ H locs hu1 hP hS _ _ => ?_)
  have hP : va_P E.1 xcl (xV E a u v mm h) H := hP
  refine lv_iload_n hx hb d_Reader_skip_4 rfl (lv_at hl 1 rfl) ?_
  refine lv_icmp_eq (tgt := 10) hx hb d_Reader_skip_5 (by decide) (fun c5 => ?_) (fun c5 => ?_)
  · have hlit := brP _ hlit c5
    refine lv_aload_n hx hb d_Reader_skip_10 rfl (lv_at hl 0 rfl) ?_
    refine lv_dup hx hb d_Reader_skip_11 rfl ?_
    refine xg_Reader_2 hx hb hts hown hK hP q80 d_Reader_skip_12 ?_
    refine lv_iconst (v := (1 : Int32)) hx hb d_Reader_skip_15 (by decide) ?_
    refine lv_iadd hx hb d_Reader_skip_16 ?_
    refine xp_Reader_2 hx hb hts hown hK hP ha hA hS q80 d_Reader_skip_17 (fun H locs hP hS => ?_)
    obtain ⟨h_17, eh_17, hlit⟩ := bindS hlit
    rw [Option.some.inj eh_17] at hP
    refine lv_iconst (v := (1 : Int32)) hx hb d_Reader_skip_20 (by decide) ?_
    cases hlit
    exact ret 0 _ _ _ _ trivial hP hS rfl d_Reader_skip_21
  · have hlit := brN _ hlit c5
    refine lv_iconst (v := (0 : Int32)) hx hb d_Reader_skip_8 (by decide) ?_
    cases hlit
    exact ret 0 _ _ _ _ trivial hP hS rfl d_Reader_skip_9

abbrev rm_x_Reader_readDishes : Room := { frames := 3, cells := 0, slots := 0, locals := 65 }
theorem hd_x_Reader_readDishes : y_Reader_readDishes.cls ≠ "java/lang/invoke/MethodHandle" ∧ y_Reader_readDishes.cls ≠ "java/lang/invoke/VarHandle" ∧ (parseMethodDescriptor y_Reader_readDishes.desc).map (fun d => d.parameters.length) = some 1 := by decide +kernel
set_option maxHeartbeats 4000000 in
set_option maxRecDepth 100000 in
theorem cx_Reader_readDishes (l : Launch) (E : xE) (a : Nat → Nat) (ha : xInj a 38) (u v : Nat) (mm : Nat) (h : Hp) (sz : Nat) (q1_ : Nat) (hq1_ : isU q1_ = true) {r0 : Int32} {h9 : Hp} (hlit : x_Reader_readDishes q1_ h = some (r0, h9)) : Met l y_Reader_readDishes (Cond.code y_Reader_readDishes b_Reader_readDishes 2 (some .boolean) :: TB) rm_x_Reader_readDishes (fPc [.ref (a 1), .ref (a q1_)] E.1 (xtys E) sz (xV E a u v mm h)) (fQi (fun _ : Nat => True) r0 E.1 (fun (_ : Nat) => xV E a u v mm h9) (xA a 38 sz)) 0 0 (xA a 38 sz) := by
  refine fl_startI (by decide) (Nat.le_of_ble_eq_true rfl) ?_
  intro p e s m args below meth c Q hx hb hml hown hts hsz hP hK hN ret ls hl
  subst hsz
  have hA : ∀ k, k < 38 → (xA a 38 s.heap.size) (a k) := xA_in
  have hS : va_S (xA a 38 s.heap.size) s.heap s.heap [] := va_S.rf
  have hl : lv_has ls 2 [(0, .ref (a 1)), (1, .ref (a q1_))] := hl
  refine lv_aload_n hx hb d_Reader_readDishes_0 rfl (lv_at hl 1 rfl) ?_
  refine lv_aload_n hx hb d_Reader_readDishes_1 rfl (lv_at hl 0 rfl) ?_
  obtain ⟨z2, hl2, hlit⟩ := bindS hlit
  refine fCallI (fRunV (As := []) (rest := [.ref (a q1_)]) (q0 := 1) (ci := 6) hx hb hml hown hts hK hN hP (cx_Reader_number l E a ha u v mm h _ (r0 := z2.1) (h9 := z2.2) hl2) q257 q258 q3 q50 q259 hd_x_Reader_number rfl rfl ⟨Nat.le_of_ble_eq_true rfl, Nat.le_of_ble_eq_true rfl⟩ xe_1 rfl rfl rfl hl.1 rfl (Nat.le_of_ble_eq_true rfl) d_Reader_readDishes_2 ⟨Nat.zero_le _, Nat.zero_le _⟩) hS (xA_up hS.1) (fun _ H locs hu2 hP hS _ _ => ?_)
  have hP : va_P E.1 xcl (xV E a u v mm z2.2) H := hP
  refine xp_Menu_0 hx hb hts hown hK hP ha hA hS hq1_ q147 d_Reader_readDishes_5 (fun H locs hP hS => ?_)
  obtain ⟨h_5, eh_5, hlit⟩ := bindS hlit
  rw [Option.some.inj eh_5] at hP
  refine lv_aload_n hx hb d_Reader_readDishes_8 rfl (lv_at hl 1 rfl) ?_
  refine xg_Menu_0 hx hb hts hown hK hP hq1_ q147 d_Reader_readDishes_9 ?_
  refine lv_iconst (v := (2 : Int32)) hx hb d_Reader_readDishes_12 (by decide) ?_
  refine lv_bipush (v := (6 : Int32)) hx hb d_Reader_readDishes_13 (by decide) ?_
  obtain ⟨r15, hl15, hlit⟩ := bindS hlit
  refine fCallI (fRunSN (As := [.int (h_5 q1_ 0), .int (2 : Int32), .int (6 : Int32)]) (rest := []) hx hb hml hown hts hK hN hP (cx_Nm_isOutside l E a ha u v mm h_5 _ (h_5 q1_ 0) (2 : Int32) (6 : Int32) (r0 := r15) hl15) (nw9 hN) q263 q49 q264 hd_x_Nm_isOutside rfl rfl ⟨Nat.le_of_ble_eq_true rfl, Nat.le_of_ble_eq_true rfl⟩ rfl hl.1 rfl (Nat.le_of_ble_eq_true rfl) d_Reader_readDishes_15 ⟨Nat.zero_le _, Nat.zero_le _⟩) hS (xA_up hS.1) (fun _ H locs hu15 hP hS _ _ => ?_)
  have hP : va_P E.1 xcl (xV E a u v mm h_5) H := hP
  refine lv_if_ne (tgt := 34) hx hb d_Reader_readDishes_18 (by decide) (fun c18 => ?_) (fun c18 => ?_)
  · have hlit := brN _ hlit c18
    refine lv_iconst (v := (0 : Int32)) hx hb d_Reader_readDishes_34 (by decide) ?_
    cases hlit
    exact ret 0 _ _ _ _ trivial hP hS rfl d_Reader_readDishes_35
  · have hlit := brP _ hlit c18
    refine lv_aload_n hx hb d_Reader_readDishes_21 rfl (lv_at hl 0 rfl) ?_
    refine lv_bipush (v := (59 : Int32)) hx hb d_Reader_readDishes_22 (by decide) ?_
    obtain ⟨z24, hl24, hlit⟩ := bindS hlit
    refine fCallI (fRunV (As := [.int (59 : Int32)]) (rest := []) (q0 := 1) (ci := 6) hx hb hml hown hts hK hN hP (cx_Reader_skip l E a ha u v mm h_5 _ (59 : Int32) (r0 := z24.1) (h9 := z24.2) hl24) q265 q266 q5 q50 q267 hd_x_Reader_skip rfl rfl ⟨Nat.le_of_ble_eq_true rfl, Nat.le_of_ble_eq_true rfl⟩ xe_1 rfl rfl rfl hl.1 rfl (Nat.le_of_ble_eq_true rfl) d_Reader_readDishes_24 ⟨Nat.zero_le _, Nat.zero_le _⟩) hS (xA_up hS.1) (fun _ H locs hu24 hP hS _ _ => ?_)
    have hP : va_P E.1 xcl (xV E a u v mm z24.2) H := hP
    refine lv_if_eq (tgt := 34) hx hb d_Reader_readDishes_27 (by decide) (fun c27 => ?_) (fun c27 => ?_)
    · have hlit := brP _ hlit c27
      refine lv_iconst (v := (0 : Int32)) hx hb d_Reader_readDishes_34 (by decide) ?_
      cases hlit
      exact ret 0 _ _ _ _ trivial hP hS rfl d_Reader_readDishes_35
    · have hlit := brN _ hlit c27
      refine lv_iconst (v := (1 : Int32)) hx hb d_Reader_readDishes_30 (by decide) ?_
      refine lv_goto (tgt := 35) hx hb d_Reader_readDishes_31 (by decide) ?_
      cases hlit
      exact ret 0 _ _ _ _ trivial hP hS rfl d_Reader_readDishes_35

abbrev rm_x_Reader_readGuest : Room := { frames := 2, cells := 0, slots := 0, locals := 43 }
theorem hd_x_Reader_readGuest : y_Reader_readGuest.cls ≠ "java/lang/invoke/MethodHandle" ∧ y_Reader_readGuest.cls ≠ "java/lang/invoke/VarHandle" ∧ (parseMethodDescriptor y_Reader_readGuest.desc).map (fun d => d.parameters.length) = some 1 := by decide +kernel
set_option maxHeartbeats 4000000 in
set_option maxRecDepth 100000 in
theorem cx_Reader_readGuest (l : Launch) (E : xE) (a : Nat → Nat) (ha : xInj a 38) (u v : Nat) (mm : Nat) (h : Hp) (sz : Nat) (q1_ : Nat) (hq1_ : isU q1_ = true) {r0 : Int32} {h9 : Hp} (hlit : x_Reader_readGuest q1_ h = some (r0, h9)) : Met l y_Reader_readGuest (Cond.code y_Reader_readGuest b_Reader_readGuest 6 (some .boolean) :: TB) rm_x_Reader_readGuest (fPc [.ref (a 1), .ref (a q1_)] E.1 (xtys E) sz (xV E a u v mm h)) (fQi (fun _ : Nat => True) r0 E.1 (fun (_ : Nat) => xV E a u v mm h9) (xA a 38 sz)) 0 0 (xA a 38 sz) := by
  refine fl_startI (by decide) (Nat.le_of_ble_eq_true rfl) ?_
  intro p e s m args below meth c Q hx hb hml hown hts hsz hP hK hN ret ls hl
  subst hsz
  have hA : ∀ k, k < 38 → (xA a 38 s.heap.size) (a k) := xA_in
  have hS : va_S (xA a 38 s.heap.size) s.heap s.heap [] := va_S.rf
  have hl : lv_has ls 6 [(0, .ref (a 1)), (1, .ref (a q1_))] := hl
  have b41 : ∀ (n : Nat), ∀ (x2 : Int32) (x4 : Int32) (h : Hp) (H : Heap) (locs : List Loc) (ls : Array Slot), x_Reader_readGuest_b41 q1_ n x2 x4 h = some (r0, h9) → va_P E.1 xcl (xV E a u v mm h) H → va_S (xA a 38 s.heap.size) s.heap H locs → lv_has ls 6 [(0, .ref (a 1)), (1, .ref (a q1_)), (2, .int x2), (4, .int x4)] → W p l e rm_x_Reader_readGuest s m args below meth c H locs 0 0 Q (F0 m 41 ls []) := by
    intro n
    induction n with
    | zero => intro x2 x4 h H locs ls hlit hP hS hl; exact nnF hlit
    | succ n ih =>
      intro x2 x4 h H locs ls hlit hP hS hl
      refine lv_iload hx hb d_Reader_readGuest_41 (lv_at hl 3 rfl) ?_
      refine lv_aload_n hx hb d_Reader_readGuest_43 rfl (lv_at hl 1 rfl) ?_
      refine xg_Menu_0 hx hb hts hown hK hP hq1_ q147 d_Reader_readGuest_44 ?_
      refine lv_icmp_ge (tgt := 86) hx hb d_Reader_readGuest_47 (by decide) (fun c47 => ?_) (fun c47 => ?_)
      · have hlit := brP _ hlit c47
        refine lv_aload_n hx hb d_Reader_readGuest_86 rfl (lv_at hl 1 rfl) ?_
        refine lv_dup hx hb d_Reader_readGuest_87 rfl ?_
        refine xg_Menu_1 hx hb hts hown hK hP hq1_ q153 d_Reader_readGuest_88 ?_
        refine lv_iconst (v := (1 : Int32)) hx hb d_Reader_readGuest_91 (by decide) ?_
        refine lv_iadd hx hb d_Reader_readGuest_92 ?_
        refine xp_Menu_1 hx hb hts hown hK hP ha hA hS hq1_ q153 d_Reader_readGuest_93 (fun H locs hP hS => ?_)
        obtain ⟨h_93, eh_93, hlit⟩ := bindS hlit
        rw [Option.some.inj eh_93] at hP
        refine lv_aload_n hx hb d_Reader_readGuest_96 rfl (lv_at hl 0 rfl) ?_
        refine lv_bipush (v := (59 : Int32)) hx hb d_Reader_readGuest_97 (by decide) ?_
        obtain ⟨z99, hl99, hlit⟩ := bindS hlit
        refine fCallI (fRunV (As := [.int (59 : Int32)]) (rest := []) (q0 := 1) (ci := 6) hx hb hml hown hts hK hN hP (cx_Reader_skip l E a ha u v mm h_93 _ (59 : Int32) (r0 := z99.1) (h9 := z99.2) hl99) q265 q266 q5 q50 q267 hd_x_Reader_skip rfl rfl ⟨Nat.le_of_ble_eq_true rfl, Nat.le_of_ble_eq_true rfl⟩ xe_1 rfl rfl rfl hl.1 rfl (Nat.le_of_ble_eq_true rfl) d_Reader_readGuest_99 ⟨Nat.zero_le _, Nat.zero_le _⟩) hS (xA_up hS.1) (fun _ H locs hu99 hP hS _ _ => ?_)
        have hP : va_P E.1 xcl (xV E a u v mm z99.2) H := hP
        obtain ⟨g102, hlit⟩ := gdP _ hlit
        cases hlit
        exact ret 0 _ _ _ _ trivial hP hS (nar_b g102) d_Reader_readGuest_102
      · have hlit := brN _ hlit c47
        refine lv_aload_n hx hb d_Reader_readGuest_50 rfl (lv_at hl 0 rfl) ?_
        obtain ⟨z51, hl51, hlit⟩ := bindS hlit
        refine fCallI (fRunV (As := []) (rest := []) (q0 := 1) (ci := 6) hx hb hml hown hts hK hN hP (cx_Reader_figure l E a ha u v mm h _ (r0 := z51.1) (h9 := z51.2) hl51) q260 q261 q4 q50 q262 hd_x_Reader_figure rfl rfl ⟨Nat.le_of_ble_eq_true rfl, Nat.le_of_ble_eq_true rfl⟩ xe_1 rfl rfl rfl hl.1 rfl (Nat.le_of_ble_eq_true rfl) d_Reader_readGuest_51 ⟨Nat.zero_le _, Nat.zero_le _⟩) hS (xA_up hS.1) (fun _ H locs hu51 hP hS _ _ => ?_)
        have hP : va_P E.1 xcl (xV E a u v mm z51.2) H := hP
        refine lv_istore (lv' := [(5, .int z51.1), (0, .ref (a 1)), (1, .ref (a q1_)), (2, .int x2), (4, .int x4)]) hx hb d_Reader_readGuest_54 hl (by decide) rfl (fun ls hl => ?_)
        refine lv_iload hx hb d_Reader_readGuest_56 (lv_at hl 0 rfl) ?_
        refine lv_iconst (v := (-1 : Int32)) hx hb d_Reader_readGuest_58 (by decide) ?_
        refine lv_icmp_ne (tgt := 64) hx hb d_Reader_readGuest_59 (by decide) (fun c59 => ?_) (fun c59 => ?_)
        · have hlit := brN _ hlit c59
          refine lv_aload_n hx hb d_Reader_readGuest_64 rfl (lv_at hl 2 rfl) ?_
          refine xg_Menu_6 hx hb hts hown hK hP hq1_ q165 d_Reader_readGuest_65 ?_
          refine lv_iload_n hx hb d_Reader_readGuest_68 rfl (lv_at hl 3 rfl) ?_
          refine lv_bipush (v := (6 : Int32)) hx hb d_Reader_readGuest_69 (by decide) ?_
          refine lv_imul hx hb d_Reader_readGuest_71 ?_
          refine lv_iload hx hb d_Reader_readGuest_72 (lv_at hl 4 rfl) ?_
          refine lv_iadd hx hb d_Reader_readGuest_74 ?_
          refine lv_iload hx hb d_Reader_readGuest_75 (lv_at hl 0 rfl) ?_
          obtain ⟨h_77, hl77, hlit⟩ := bindS hlit
          refine fCallV (fRunSN (As := [.ref (a (q1_ + 2)), .int ((x2 * (6 : Int32)) + x4), .int z51.1]) (rest := []) hx hb hml hown hts hK hN hP (cx_Nm_put l E a ha u v mm z51.2 _ (q1_ + 2) (iaU2 hq1_) ((x2 * (6 : Int32)) + x4) z51.1 (h9 := h_77) hl77) (nw7 hN) q238 q49 q239 hd_x_Nm_put rfl rfl ⟨Nat.le_of_ble_eq_true rfl, Nat.le_of_ble_eq_true rfl⟩ rfl hl.1 rfl (Nat.le_of_ble_eq_true rfl) d_Reader_readGuest_77 ⟨Nat.zero_le _, Nat.zero_le _⟩) hS (xA_up hS.1) (fun _ H locs hu77 hP hS _ _ => ?_)
          have hP : va_P E.1 xcl (xV E a u v mm h_77) H := hP
          refine lv_iinc (v := (x4 + (1 : Int32))) (lv' := [(4, .int (x4 + (1 : Int32))), (5, .int z51.1), (0, .ref (a 1)), (1, .ref (a q1_)), (2, .int x2)]) hx hb d_Reader_readGuest_80 hl (k := 4) rfl rfl (by decide) rfl (fun ls hl => ?_)
          refine lv_goto (tgt := 41) hx hb d_Reader_readGuest_83 (by decide) ?_
          exact ih x2 (x4 + (1 : Int32)) h_77 _ _ _ hlit hP hS (lv_sub hl [2, 3, 4, 0] rfl)
        · have hlit := brP _ hlit c59
          refine lv_iconst (v := (0 : Int32)) hx hb d_Reader_readGuest_62 (by decide) ?_
          cases hlit
          exact ret 0 _ _ _ _ trivial hP hS rfl d_Reader_readGuest_63
  refine lv_aload_n hx hb d_Reader_readGuest_0 rfl (lv_at hl 1 rfl) ?_
  refine xg_Menu_1 hx hb hts hown hK hP hq1_ q153 d_Reader_readGuest_1 ?_
  obtain ⟨y4, ey4, hlit⟩ := bindS hlit
  refine topn ey4 ?_
  refine lv_istore_n (lv' := [(2, .int y4), (0, .ref (a 1)), (1, .ref (a q1_))]) hx hb d_Reader_readGuest_4 rfl hl (by decide) rfl (fun ls hl => ?_)
  refine lv_iload_n hx hb d_Reader_readGuest_5 rfl (lv_at hl 0 rfl) ?_
  refine lv_bipush (v := (9 : Int32)) hx hb d_Reader_readGuest_6 (by decide) ?_
  refine lv_icmp_lt (tgt := 13) hx hb d_Reader_readGuest_8 (by decide) (fun c8 => ?_) (fun c8 => ?_)
  · have hlit := brP _ hlit c8
    refine lv_aload_n hx hb d_Reader_readGuest_13 rfl (lv_at hl 1 rfl) ?_
    obtain ⟨z14, hl14, hlit⟩ := bindS hlit
    refine fCallI (fRunV (As := []) (rest := []) (q0 := 1) (ci := 6) hx hb hml hown hts hK hN hP (cx_Reader_figure l E a ha u v mm h _ (r0 := z14.1) (h9 := z14.2) hl14) q260 q261 q4 q50 q262 hd_x_Reader_figure rfl rfl ⟨Nat.le_of_ble_eq_true rfl, Nat.le_of_ble_eq_true rfl⟩ xe_1 rfl rfl rfl hl.1 rfl (Nat.le_of_ble_eq_true rfl) d_Reader_readGuest_14 ⟨Nat.zero_le _, Nat.zero_le _⟩) hS (xA_up hS.1) (fun _ H locs hu14 hP hS _ _ => ?_)
    have hP : va_P E.1 xcl (xV E a u v mm z14.2) H := hP
    refine lv_istore_n (lv' := [(3, .int z14.1), (2, .int y4), (0, .ref (a 1)), (1, .ref (a q1_))]) hx hb d_Reader_readGuest_17 rfl hl (by decide) rfl (fun ls hl => ?_)
    refine lv_iload_n hx hb d_Reader_readGuest_18 rfl (lv_at hl 0 rfl) ?_
    refine lv_iconst (v := (0 : Int32)) hx hb d_Reader_readGuest_19 (by decide) ?_
    refine lv_iconst (v := (3 : Int32)) hx hb d_Reader_readGuest_20 (by decide) ?_
    obtain ⟨r21, hl21, hlit⟩ := bindS hlit
    refine fCallI (fRunSN (As := [.int z14.1, .int (0 : Int32), .int (3 : Int32)]) (rest := []) hx hb hml hown hts hK hN hP (cx_Nm_isOutside l E a ha u v mm z14.2 _ z14.1 (0 : Int32) (3 : Int32) (r0 := r21) hl21) (nw9 hN) q263 q49 q264 hd_x_Nm_isOutside rfl rfl ⟨Nat.le_of_ble_eq_true rfl, Nat.le_of_ble_eq_true rfl⟩ rfl hl.1 rfl (Nat.le_of_ble_eq_true rfl) d_Reader_readGuest_21 ⟨Nat.zero_le _, Nat.zero_le _⟩) hS (xA_up hS.1) (fun _ H locs hu21 hP hS _ _ => ?_)
    have hP : va_P E.1 xcl (xV E a u v mm z14.2) H := hP
    refine lv_if_eq (tgt := 29) hx hb d_Reader_readGuest_24 (by decide) (fun c24 => ?_) (fun c24 => ?_)
    · have hlit := brP _ hlit c24
      refine lv_aload_n hx hb d_Reader_readGuest_29 rfl (lv_at hl 3 rfl) ?_
      refine xg_Menu_5 hx hb hts hown hK hP hq1_ q163 d_Reader_readGuest_30 ?_
      refine lv_iload_n hx hb d_Reader_readGuest_33 rfl (lv_at hl 1 rfl) ?_
      refine lv_iload_n hx hb d_Reader_readGuest_34 rfl (lv_at hl 0 rfl) ?_
      obtain ⟨h_35, hl35, hlit⟩ := bindS hlit
      refine fCallV (fRunSN (As := [.ref (a (q1_ + 1)), .int y4, .int z14.1]) (rest := []) hx hb hml hown hts hK hN hP (cx_Nm_put l E a ha u v mm z14.2 _ (q1_ + 1) (iaU1 hq1_) y4 z14.1 (h9 := h_35) hl35) (nw7 hN) q238 q49 q239 hd_x_Nm_put rfl rfl ⟨Nat.le_of_ble_eq_true rfl, Nat.le_of_ble_eq_true rfl⟩ rfl hl.1 rfl (Nat.le_of_ble_eq_true rfl) d_Reader_readGuest_35 ⟨Nat.zero_le _, Nat.zero_le _⟩) hS (xA_up hS.1) (fun _ H locs hu35 hP hS _ _ => ?_)
      have hP : va_P E.1 xcl (xV E a u v mm h_35) H := hP
      refine lv_iconst (v := (0 : Int32)) hx hb d_Reader_readGuest_38 (by decide) ?_
      refine lv_istore (lv' := [(4, .int (0 : Int32)), (3, .int z14.1), (2, .int y4), (0, .ref (a 1)), (1, .ref (a q1_))]) hx hb d_Reader_readGuest_39 hl (by decide) rfl (fun ls hl => ?_)
      exact b41 FU y4 (0 : Int32) h_35 _ _ _ hlit hP hS (lv_sub hl [3, 4, 2, 0] rfl)
    · have hlit := brN _ hlit c24
      refine lv_iconst (v := (0 : Int32)) hx hb d_Reader_readGuest_27 (by decide) ?_
      cases hlit
      exact ret 0 _ _ _ _ trivial hP hS rfl d_Reader_readGuest_28
  · have hlit := brN _ hlit c8
    refine lv_iconst (v := (0 : Int32)) hx hb d_Reader_readGuest_11 (by decide) ?_
    cases hlit
    exact ret 0 _ _ _ _ trivial hP hS rfl d_Reader_readGuest_12

abbrev rm_x_Reader_readMinutes : Room := { frames := 3, cells := 0, slots := 0, locals := 65 }
theorem hd_x_Reader_readMinutes : y_Reader_readMinutes.cls ≠ "java/lang/invoke/MethodHandle" ∧ y_Reader_readMinutes.cls ≠ "java/lang/invoke/VarHandle" ∧ (parseMethodDescriptor y_Reader_readMinutes.desc).map (fun d => d.parameters.length) = some 1 := by decide +kernel
set_option maxHeartbeats 4000000 in
set_option maxRecDepth 100000 in
theorem cx_Reader_readMinutes (l : Launch) (E : xE) (a : Nat → Nat) (ha : xInj a 38) (u v : Nat) (mm : Nat) (h : Hp) (sz : Nat) (q1_ : Nat) (hq1_ : isU q1_ = true) {r0 : Int32} {h9 : Hp} (hlit : x_Reader_readMinutes q1_ h = some (r0, h9)) : Met l y_Reader_readMinutes (Cond.code y_Reader_readMinutes b_Reader_readMinutes 4 (some .boolean) :: TB) rm_x_Reader_readMinutes (fPc [.ref (a 1), .ref (a q1_)] E.1 (xtys E) sz (xV E a u v mm h)) (fQi (fun _ : Nat => True) r0 E.1 (fun (_ : Nat) => xV E a u v mm h9) (xA a 38 sz)) 0 0 (xA a 38 sz) := by
  refine fl_startI (by decide) (Nat.le_of_ble_eq_true rfl) ?_
  intro p e s m args below meth c Q hx hb hml hown hts hsz hP hK hN ret ls hl
  subst hsz
  have hA : ∀ k, k < 38 → (xA a 38 s.heap.size) (a k) := xA_in
  have hS : va_S (xA a 38 s.heap.size) s.heap s.heap [] := va_S.rf
  have hl : lv_has ls 4 [(0, .ref (a 1)), (1, .ref (a q1_))] := hl
  refine lv_aload_n hx hb d_Reader_readMinutes_0 rfl (lv_at hl 0 rfl) ?_
  obtain ⟨z1, hl1, hlit⟩ := bindS hlit
  refine fCallI (fRunV (As := []) (rest := []) (q0 := 1) (ci := 6) hx hb hml hown hts hK hN hP (cx_Reader_number l E a ha u v mm h _ (r0 := z1.1) (h9 := z1.2) hl1) q257 q258 q3 q50 q259 hd_x_Reader_number rfl rfl ⟨Nat.le_of_ble_eq_true rfl, Nat.le_of_ble_eq_true rfl⟩ xe_1 rfl rfl rfl hl.1 rfl (Nat.le_of_ble_eq_true rfl) d_Reader_readMinutes_1 ⟨Nat.zero_le _, Nat.zero_le _⟩) hS (xA_up hS.1) (fun _ H locs hu1 hP hS _ _ => ?_)
  have hP : va_P E.1 xcl (xV E a u v mm z1.2) H := hP
  refine lv_istore_n (lv' := [(2, .int z1.1), (0, .ref (a 1)), (1, .ref (a q1_))]) hx hb d_Reader_readMinutes_4 rfl hl (by decide) rfl (fun ls hl => ?_)
  refine lv_aload_n hx hb d_Reader_readMinutes_5 rfl (lv_at hl 2 rfl) ?_
  refine lv_iload_n hx hb d_Reader_readMinutes_6 rfl (lv_at hl 0 rfl) ?_
  obtain ⟨r7, hl7, hlit⟩ := bindS hlit
  refine fCallI (fRunV (As := [.int z1.1]) (rest := []) (q0 := q1_) (ci := 1) hx hb hml hown hts hK hN hP (cx_Menu_hasDish l E a ha u v mm z1.2 _ q1_ hq1_ z1.1 (r0 := r7) hl7) q274 q275 q276 q55 q277 hd_x_Menu_hasDish rfl rfl ⟨Nat.le_of_ble_eq_true rfl, Nat.le_of_ble_eq_true rfl⟩ (xeU hq1_) rfl rfl rfl hl.1 rfl (Nat.le_of_ble_eq_true rfl) d_Reader_readMinutes_7 ⟨Nat.zero_le _, Nat.zero_le _⟩) hS (xA_up hS.1) (fun _ H locs hu7 hP hS _ _ => ?_)
  have hP : va_P E.1 xcl (xV E a u v mm z1.2) H := hP
  refine lv_if_eq (tgt := 22) hx hb d_Reader_readMinutes_10 (by decide) (fun c10 => ?_) (fun c10 => ?_)
  · have hlit := brP _ hlit c10
    refine lv_iconst (v := (0 : Int32)) hx hb d_Reader_readMinutes_22 (by decide) ?_
    cases hlit
    exact ret 0 _ _ _ _ trivial hP hS rfl d_Reader_readMinutes_23
  · have hlit := brN _ hlit c10
    refine lv_aload_n hx hb d_Reader_readMinutes_13 rfl (lv_at hl 1 rfl) ?_
    refine lv_bipush (v := (44 : Int32)) hx hb d_Reader_readMinutes_14 (by decide) ?_
    obtain ⟨z16, hl16, hlit⟩ := bindS hlit
    refine fCallI (fRunV (As := [.int (44 : Int32)]) (rest := []) (q0 := 1) (ci := 6) hx hb hml hown hts hK hN hP (cx_Reader_skip l E a ha u v mm z1.2 _ (44 : Int32) (r0 := z16.1) (h9 := z16.2) hl16) q265 q266 q5 q50 q267 hd_x_Reader_skip rfl rfl ⟨Nat.le_of_ble_eq_true rfl, Nat.le_of_ble_eq_true rfl⟩ xe_1 rfl rfl rfl hl.1 rfl (Nat.le_of_ble_eq_true rfl) d_Reader_readMinutes_16 ⟨Nat.zero_le _, Nat.zero_le _⟩) hS (xA_up hS.1) (fun _ H locs hu16 hP hS _ _ => ?_)
    have hP : va_P E.1 xcl (xV E a u v mm z16.2) H := hP
    refine lv_if_ne (tgt := 24) hx hb d_Reader_readMinutes_19 (by decide) (fun c19 => ?_) (fun c19 => ?_)
    · have hlit := brN _ hlit c19
      refine lv_aload_n hx hb d_Reader_readMinutes_24 rfl (lv_at hl 1 rfl) ?_
      obtain ⟨z25, hl25, hlit⟩ := bindS hlit
      refine fCallI (fRunV (As := []) (rest := []) (q0 := 1) (ci := 6) hx hb hml hown hts hK hN hP (cx_Reader_number l E a ha u v mm z16.2 _ (r0 := z25.1) (h9 := z25.2) hl25) q257 q258 q3 q50 q259 hd_x_Reader_number rfl rfl ⟨Nat.le_of_ble_eq_true rfl, Nat.le_of_ble_eq_true rfl⟩ xe_1 rfl rfl rfl hl.1 rfl (Nat.le_of_ble_eq_true rfl) d_Reader_readMinutes_25 ⟨Nat.zero_le _, Nat.zero_le _⟩) hS (xA_up hS.1) (fun _ H locs hu25 hP hS _ _ => ?_)
      have hP : va_P E.1 xcl (xV E a u v mm z25.2) H := hP
      refine lv_istore_n (lv' := [(3, .int z25.1), (2, .int z1.1), (0, .ref (a 1)), (1, .ref (a q1_))]) hx hb d_Reader_readMinutes_28 rfl hl (by decide) rfl (fun ls hl => ?_)
      refine lv_aload_n hx hb d_Reader_readMinutes_29 rfl (lv_at hl 3 rfl) ?_
      refine xg_Menu_7 hx hb hts hown hK hP hq1_ q167 d_Reader_readMinutes_30 ?_
      refine lv_iload_n hx hb d_Reader_readMinutes_33 rfl (lv_at hl 1 rfl) ?_
      refine lv_iload_n hx hb d_Reader_readMinutes_34 rfl (lv_at hl 0 rfl) ?_
      obtain ⟨h_35, hl35, hlit⟩ := bindS hlit
      refine fCallV (fRunSN (As := [.ref (a (q1_ + 3)), .int z1.1, .int z25.1]) (rest := []) hx hb hml hown hts hK hN hP (cx_Nm_put l E a ha u v mm z25.2 _ (q1_ + 3) (iaU3 hq1_) z1.1 z25.1 (h9 := h_35) hl35) (nw7 hN) q238 q49 q239 hd_x_Nm_put rfl rfl ⟨Nat.le_of_ble_eq_true rfl, Nat.le_of_ble_eq_true rfl⟩ rfl hl.1 rfl (Nat.le_of_ble_eq_true rfl) d_Reader_readMinutes_35 ⟨Nat.zero_le _, Nat.zero_le _⟩) hS (xA_up hS.1) (fun _ H locs hu35 hP hS _ _ => ?_)
      have hP : va_P E.1 xcl (xV E a u v mm h_35) H := hP
      refine lv_iload_n hx hb d_Reader_readMinutes_38 rfl (lv_at hl 0 rfl) ?_
      refine lv_iconst (v := (1 : Int32)) hx hb d_Reader_readMinutes_39 (by decide) ?_
      refine lv_bipush (v := (60 : Int32)) hx hb d_Reader_readMinutes_40 (by decide) ?_
      obtain ⟨r42, hl42, hlit⟩ := bindS hlit
      refine fCallI (fRunSN (As := [.int z25.1, .int (1 : Int32), .int (60 : Int32)]) (rest := []) hx hb hml hown hts hK hN hP (cx_Nm_isOutside l E a ha u v mm h_35 _ z25.1 (1 : Int32) (60 : Int32) (r0 := r42) hl42) (nw9 hN) q263 q49 q264 hd_x_Nm_isOutside rfl rfl ⟨Nat.le_of_ble_eq_true rfl, Nat.le_of_ble_eq_true rfl⟩ rfl hl.1 rfl (Nat.le_of_ble_eq_true rfl) d_Reader_readMinutes_42 ⟨Nat.zero_le _, Nat.zero_le _⟩) hS (xA_up hS.1) (fun _ H locs hu42 hP hS _ _ => ?_)
      have hP : va_P E.1 xcl (xV E a u v mm h_35) H := hP
      refine lv_if_ne (tgt := 61) hx hb d_Reader_readMinutes_45 (by decide) (fun c45 => ?_) (fun c45 => ?_)
      · have hlit := brN _ hlit c45
        refine lv_iconst (v := (0 : Int32)) hx hb d_Reader_readMinutes_61 (by decide) ?_
        cases hlit
        exact ret 0 _ _ _ _ trivial hP hS rfl d_Reader_readMinutes_62
      · have hlit := brP _ hlit c45
        refine lv_aload_n hx hb d_Reader_readMinutes_48 rfl (lv_at hl 2 rfl) ?_
        refine lv_bipush (v := (59 : Int32)) hx hb d_Reader_readMinutes_49 (by decide) ?_
        obtain ⟨z51, hl51, hlit⟩ := bindS hlit
        refine fCallI (fRunV (As := [.int (59 : Int32)]) (rest := []) (q0 := 1) (ci := 6) hx hb hml hown hts hK hN hP (cx_Reader_skip l E a ha u v mm h_35 _ (59 : Int32) (r0 := z51.1) (h9 := z51.2) hl51) q265 q266 q5 q50 q267 hd_x_Reader_skip rfl rfl ⟨Nat.le_of_ble_eq_true rfl, Nat.le_of_ble_eq_true rfl⟩ xe_1 rfl rfl rfl hl.1 rfl (Nat.le_of_ble_eq_true rfl) d_Reader_readMinutes_51 ⟨Nat.zero_le _, Nat.zero_le _⟩) hS (xA_up hS.1) (fun _ H locs hu51 hP hS _ _ => ?_)
        have hP : va_P E.1 xcl (xV E a u v mm z51.2) H := hP
        refine lv_if_eq (tgt := 61) hx hb d_Reader_readMinutes_54 (by decide) (fun c54 => ?_) (fun c54 => ?_)
        · have hlit := brP _ hlit c54
          refine lv_iconst (v := (0 : Int32)) hx hb d_Reader_readMinutes_61 (by decide) ?_
          cases hlit
          exact ret 0 _ _ _ _ trivial hP hS rfl d_Reader_readMinutes_62
        · have hlit := brN _ hlit c54
          refine lv_iconst (v := (1 : Int32)) hx hb d_Reader_readMinutes_57 (by decide) ?_
          refine lv_goto (tgt := 62) hx hb d_Reader_readMinutes_58 (by decide) ?_
          cases hlit
          exact ret 0 _ _ _ _ trivial hP hS rfl d_Reader_readMinutes_62
    · have hlit := brP _ hlit c19
      refine lv_iconst (v := (0 : Int32)) hx hb d_Reader_readMinutes_22 (by decide) ?_
      cases hlit
      exact ret 0 _ _ _ _ trivial hP hS rfl d_Reader_readMinutes_23

abbrev rm_x_Reader_readVetoes : Room := { frames := 3, cells := 0, slots := 0, locals := 65 }
theorem hd_x_Reader_readVetoes : y_Reader_readVetoes.cls ≠ "java/lang/invoke/MethodHandle" ∧ y_Reader_readVetoes.cls ≠ "java/lang/invoke/VarHandle" ∧ (parseMethodDescriptor y_Reader_readVetoes.desc).map (fun d => d.parameters.length) = some 1 := by decide +kernel
set_option maxHeartbeats 4000000 in
set_option maxRecDepth 100000 in
theorem cx_Reader_readVetoes (l : Launch) (E : xE) (a : Nat → Nat) (ha : xInj a 38) (u v : Nat) (mm : Nat) (h : Hp) (sz : Nat) (q1_ : Nat) (hq1_ : isU q1_ = true) {r0 : Int32} {h9 : Hp} (hlit : x_Reader_readVetoes q1_ h = some (r0, h9)) : Met l y_Reader_readVetoes (Cond.code y_Reader_readVetoes b_Reader_readVetoes 2 (some .boolean) :: TB) rm_x_Reader_readVetoes (fPc [.ref (a 1), .ref (a q1_)] E.1 (xtys E) sz (xV E a u v mm h)) (fQi (fun _ : Nat => True) r0 E.1 (fun (_ : Nat) => xV E a u v mm h9) (xA a 38 sz)) 0 0 (xA a 38 sz) := by
  refine fl_startI (by decide) (Nat.le_of_ble_eq_true rfl) ?_
  intro p e s m args below meth c Q hx hb hml hown hts hsz hP hK hN ret ls hl
  subst hsz
  have hA : ∀ k, k < 38 → (xA a 38 s.heap.size) (a k) := xA_in
  have hS : va_S (xA a 38 s.heap.size) s.heap s.heap [] := va_S.rf
  have hl : lv_has ls 2 [(0, .ref (a 1)), (1, .ref (a q1_))] := hl
  refine lv_aload_n hx hb d_Reader_readVetoes_0 rfl (lv_at hl 1 rfl) ?_
  refine lv_aload_n hx hb d_Reader_readVetoes_1 rfl (lv_at hl 0 rfl) ?_
  obtain ⟨z2, hl2, hlit⟩ := bindS hlit
  refine fCallI (fRunV (As := []) (rest := [.ref (a q1_)]) (q0 := 1) (ci := 6) hx hb hml hown hts hK hN hP (cx_Reader_number l E a ha u v mm h _ (r0 := z2.1) (h9 := z2.2) hl2) q257 q258 q3 q50 q259 hd_x_Reader_number rfl rfl ⟨Nat.le_of_ble_eq_true rfl, Nat.le_of_ble_eq_true rfl⟩ xe_1 rfl rfl rfl hl.1 rfl (Nat.le_of_ble_eq_true rfl) d_Reader_readVetoes_2 ⟨Nat.zero_le _, Nat.zero_le _⟩) hS (xA_up hS.1) (fun _ H locs hu2 hP hS _ _ => ?_)
  have hP : va_P E.1 xcl (xV E a u v mm z2.2) H := hP
  refine xp_Menu_2 hx hb hts hown hK hP ha hA hS hq1_ q155 d_Reader_readVetoes_5 (fun H locs hP hS => ?_)
  obtain ⟨h_5, eh_5, hlit⟩ := bindS hlit
  rw [Option.some.inj eh_5] at hP
  refine lv_aload_n hx hb d_Reader_readVetoes_8 rfl (lv_at hl 1 rfl) ?_
  refine xg_Menu_2 hx hb hts hown hK hP hq1_ q155 d_Reader_readVetoes_9 ?_
  refine lv_iconst (v := (0 : Int32)) hx hb d_Reader_readVetoes_12 (by decide) ?_
  refine lv_iconst (v := (3 : Int32)) hx hb d_Reader_readVetoes_13 (by decide) ?_
  obtain ⟨r14, hl14, hlit⟩ := bindS hlit
  refine fCallI (fRunSN (As := [.int (h_5 q1_ 2), .int (0 : Int32), .int (3 : Int32)]) (rest := []) hx hb hml hown hts hK hN hP (cx_Nm_isOutside l E a ha u v mm h_5 _ (h_5 q1_ 2) (0 : Int32) (3 : Int32) (r0 := r14) hl14) (nw9 hN) q263 q49 q264 hd_x_Nm_isOutside rfl rfl ⟨Nat.le_of_ble_eq_true rfl, Nat.le_of_ble_eq_true rfl⟩ rfl hl.1 rfl (Nat.le_of_ble_eq_true rfl) d_Reader_readVetoes_14 ⟨Nat.zero_le _, Nat.zero_le _⟩) hS (xA_up hS.1) (fun _ H locs hu14 hP hS _ _ => ?_)
  have hP : va_P E.1 xcl (xV E a u v mm h_5) H := hP
  refine lv_if_ne (tgt := 33) hx hb d_Reader_readVetoes_17 (by decide) (fun c17 => ?_) (fun c17 => ?_)
  · have hlit := brN _ hlit c17
    refine lv_iconst (v := (0 : Int32)) hx hb d_Reader_readVetoes_33 (by decide) ?_
    cases hlit
    exact ret 0 _ _ _ _ trivial hP hS rfl d_Reader_readVetoes_34
  · have hlit := brP _ hlit c17
    refine lv_aload_n hx hb d_Reader_readVetoes_20 rfl (lv_at hl 0 rfl) ?_
    refine lv_bipush (v := (59 : Int32)) hx hb d_Reader_readVetoes_21 (by decide) ?_
    obtain ⟨z23, hl23, hlit⟩ := bindS hlit
    refine fCallI (fRunV (As := [.int (59 : Int32)]) (rest := []) (q0 := 1) (ci := 6) hx hb hml hown hts hK hN hP (cx_Reader_skip l E a ha u v mm h_5 _ (59 : Int32) (r0 := z23.1) (h9 := z23.2) hl23) q265 q266 q5 q50 q267 hd_x_Reader_skip rfl rfl ⟨Nat.le_of_ble_eq_true rfl, Nat.le_of_ble_eq_true rfl⟩ xe_1 rfl rfl rfl hl.1 rfl (Nat.le_of_ble_eq_true rfl) d_Reader_readVetoes_23 ⟨Nat.zero_le _, Nat.zero_le _⟩) hS (xA_up hS.1) (fun _ H locs hu23 hP hS _ _ => ?_)
    have hP : va_P E.1 xcl (xV E a u v mm z23.2) H := hP
    refine lv_if_eq (tgt := 33) hx hb d_Reader_readVetoes_26 (by decide) (fun c26 => ?_) (fun c26 => ?_)
    · have hlit := brP _ hlit c26
      refine lv_iconst (v := (0 : Int32)) hx hb d_Reader_readVetoes_33 (by decide) ?_
      cases hlit
      exact ret 0 _ _ _ _ trivial hP hS rfl d_Reader_readVetoes_34
    · have hlit := brN _ hlit c26
      refine lv_iconst (v := (1 : Int32)) hx hb d_Reader_readVetoes_29 (by decide) ?_
      refine lv_goto (tgt := 34) hx hb d_Reader_readVetoes_30 (by decide) ?_
      cases hlit
      exact ret 0 _ _ _ _ trivial hP hS rfl d_Reader_readVetoes_34

abbrev rm_x_Reader_readShuts : Room := { frames := 3, cells := 0, slots := 0, locals := 65 }
theorem hd_x_Reader_readShuts : y_Reader_readShuts.cls ≠ "java/lang/invoke/MethodHandle" ∧ y_Reader_readShuts.cls ≠ "java/lang/invoke/VarHandle" ∧ (parseMethodDescriptor y_Reader_readShuts.desc).map (fun d => d.parameters.length) = some 1 := by decide +kernel
set_option maxHeartbeats 4000000 in
set_option maxRecDepth 100000 in
theorem cx_Reader_readShuts (l : Launch) (E : xE) (a : Nat → Nat) (ha : xInj a 38) (u v : Nat) (mm : Nat) (h : Hp) (sz : Nat) (q1_ : Nat) (hq1_ : isU q1_ = true) {r0 : Int32} {h9 : Hp} (hlit : x_Reader_readShuts q1_ h = some (r0, h9)) : Met l y_Reader_readShuts (Cond.code y_Reader_readShuts b_Reader_readShuts 2 (some .boolean) :: TB) rm_x_Reader_readShuts (fPc [.ref (a 1), .ref (a q1_)] E.1 (xtys E) sz (xV E a u v mm h)) (fQi (fun _ : Nat => True) r0 E.1 (fun (_ : Nat) => xV E a u v mm h9) (xA a 38 sz)) 0 0 (xA a 38 sz) := by
  refine fl_startI (by decide) (Nat.le_of_ble_eq_true rfl) ?_
  intro p e s m args below meth c Q hx hb hml hown hts hsz hP hK hN ret ls hl
  subst hsz
  have hA : ∀ k, k < 38 → (xA a 38 s.heap.size) (a k) := xA_in
  have hS : va_S (xA a 38 s.heap.size) s.heap s.heap [] := va_S.rf
  have hl : lv_has ls 2 [(0, .ref (a 1)), (1, .ref (a q1_))] := hl
  refine lv_aload_n hx hb d_Reader_readShuts_0 rfl (lv_at hl 1 rfl) ?_
  refine lv_aload_n hx hb d_Reader_readShuts_1 rfl (lv_at hl 0 rfl) ?_
  obtain ⟨z2, hl2, hlit⟩ := bindS hlit
  refine fCallI (fRunV (As := []) (rest := [.ref (a q1_)]) (q0 := 1) (ci := 6) hx hb hml hown hts hK hN hP (cx_Reader_number l E a ha u v mm h _ (r0 := z2.1) (h9 := z2.2) hl2) q257 q258 q3 q50 q259 hd_x_Reader_number rfl rfl ⟨Nat.le_of_ble_eq_true rfl, Nat.le_of_ble_eq_true rfl⟩ xe_1 rfl rfl rfl hl.1 rfl (Nat.le_of_ble_eq_true rfl) d_Reader_readShuts_2 ⟨Nat.zero_le _, Nat.zero_le _⟩) hS (xA_up hS.1) (fun _ H locs hu2 hP hS _ _ => ?_)
  have hP : va_P E.1 xcl (xV E a u v mm z2.2) H := hP
  refine xp_Menu_3 hx hb hts hown hK hP ha hA hS hq1_ q158 d_Reader_readShuts_5 (fun H locs hP hS => ?_)
  obtain ⟨h_5, eh_5, hlit⟩ := bindS hlit
  rw [Option.some.inj eh_5] at hP
  refine lv_aload_n hx hb d_Reader_readShuts_8 rfl (lv_at hl 1 rfl) ?_
  refine xg_Menu_3 hx hb hts hown hK hP hq1_ q158 d_Reader_readShuts_9 ?_
  refine lv_iconst (v := (1 : Int32)) hx hb d_Reader_readShuts_12 (by decide) ?_
  refine lv_bipush (v := (99 : Int32)) hx hb d_Reader_readShuts_13 (by decide) ?_
  obtain ⟨r15, hl15, hlit⟩ := bindS hlit
  refine fCallI (fRunSN (As := [.int (h_5 q1_ 3), .int (1 : Int32), .int (99 : Int32)]) (rest := []) hx hb hml hown hts hK hN hP (cx_Nm_isOutside l E a ha u v mm h_5 _ (h_5 q1_ 3) (1 : Int32) (99 : Int32) (r0 := r15) hl15) (nw9 hN) q263 q49 q264 hd_x_Nm_isOutside rfl rfl ⟨Nat.le_of_ble_eq_true rfl, Nat.le_of_ble_eq_true rfl⟩ rfl hl.1 rfl (Nat.le_of_ble_eq_true rfl) d_Reader_readShuts_15 ⟨Nat.zero_le _, Nat.zero_le _⟩) hS (xA_up hS.1) (fun _ H locs hu15 hP hS _ _ => ?_)
  have hP : va_P E.1 xcl (xV E a u v mm h_5) H := hP
  refine lv_if_ne (tgt := 34) hx hb d_Reader_readShuts_18 (by decide) (fun c18 => ?_) (fun c18 => ?_)
  · have hlit := brN _ hlit c18
    refine lv_iconst (v := (0 : Int32)) hx hb d_Reader_readShuts_34 (by decide) ?_
    cases hlit
    exact ret 0 _ _ _ _ trivial hP hS rfl d_Reader_readShuts_35
  · have hlit := brP _ hlit c18
    refine lv_aload_n hx hb d_Reader_readShuts_21 rfl (lv_at hl 0 rfl) ?_
    refine lv_bipush (v := (59 : Int32)) hx hb d_Reader_readShuts_22 (by decide) ?_
    obtain ⟨z24, hl24, hlit⟩ := bindS hlit
    refine fCallI (fRunV (As := [.int (59 : Int32)]) (rest := []) (q0 := 1) (ci := 6) hx hb hml hown hts hK hN hP (cx_Reader_skip l E a ha u v mm h_5 _ (59 : Int32) (r0 := z24.1) (h9 := z24.2) hl24) q265 q266 q5 q50 q267 hd_x_Reader_skip rfl rfl ⟨Nat.le_of_ble_eq_true rfl, Nat.le_of_ble_eq_true rfl⟩ xe_1 rfl rfl rfl hl.1 rfl (Nat.le_of_ble_eq_true rfl) d_Reader_readShuts_24 ⟨Nat.zero_le _, Nat.zero_le _⟩) hS (xA_up hS.1) (fun _ H locs hu24 hP hS _ _ => ?_)
    have hP : va_P E.1 xcl (xV E a u v mm z24.2) H := hP
    refine lv_if_eq (tgt := 34) hx hb d_Reader_readShuts_27 (by decide) (fun c27 => ?_) (fun c27 => ?_)
    · have hlit := brP _ hlit c27
      refine lv_iconst (v := (0 : Int32)) hx hb d_Reader_readShuts_34 (by decide) ?_
      cases hlit
      exact ret 0 _ _ _ _ trivial hP hS rfl d_Reader_readShuts_35
    · have hlit := brN _ hlit c27
      refine lv_iconst (v := (1 : Int32)) hx hb d_Reader_readShuts_30 (by decide) ?_
      refine lv_goto (tgt := 35) hx hb d_Reader_readShuts_31 (by decide) ?_
      cases hlit
      exact ret 0 _ _ _ _ trivial hP hS rfl d_Reader_readShuts_35
