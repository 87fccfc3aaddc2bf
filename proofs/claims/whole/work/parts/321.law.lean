/-! the law, case by case -/
section LAW
variable {p : Program} {l : Launch} {e : Env} {s : State} {m : MethodId} {below : List Frame} {meth : Method} {c : Code} {H : Heap} {locs : List Loc} {Q : State → Prop} {ls : Array Slot} {b L j : Nat} {xs : Nat → Int32} {E : xE} {a : Nat → Nat} {mm : Nat} {a' : Nat → Nat} {fx fy : Hp}
set_option maxHeartbeats 4000000 in
theorem law_8 (hx : p.tables.exec = Jvm.exec) (hb : c.code = code) (hml : c.maxLocals = 4) (hown : s.vm.findClass R_law = some m.cls) (hts : ∀ w ∈ TB, w.before #[Value.ref b] s = true) (hK : va_K E.1 xcl (xtys E) s) (hN : xNw s) (hX : va_X b L xs s s.heap) (hbl : b < s.heap.size) (hL : L ≤ 256) (hj : j + 4 ≤ L) (hW : LW E s.heap.size a mm a' fx fy H) (hC : Cpl fx fy) (hS : va_S (fun q => s.heap.size ≤ q) s.heap H locs) (hl : lv_has ls 4 [(3, .int (nI j)), (2, .ref (a' 0)), (1, .ref (a 0)), (0, .ref b)])
    (next : ∀ (a1 : Nat → Nat) (m1 : Nat) (gx gy : Hp) (H1 : Heap) (locs1 : List Loc), a1 0 = a 0 → LW E s.heap.size a1 m1 a' gx gy H1 → Cpl gx gy → va_S (fun q => s.heap.size ≤ q) s.heap H1 locs1 → W p l e room_1 s m #[Value.ref b] below meth c H1 locs1 48 1028 Q (F0 m 915 ls [])) : W p l e room_1 s m #[Value.ref b] below meth c H locs 48 1028 Q (F0 m 356 ls []) := by
  obtain ⟨r, gx, gy, e1, e2, hC9⟩ := p_veto (xs (nI j + 1).toNatClampNeg) (xs (nI j + 2).toNatClampNeg) fx fy hC
  refine lv_aload_n hx hb d_law_law_356 rfl (lv_at hl 2 rfl) ?_
  refine lv_aload_n hx hb d_law_law_357 rfl (lv_at hl 3 rfl) ?_
  refine lv_iload_n hx hb d_law_law_358 rfl (lv_at hl 0 rfl) ?_
  refine lv_iconst (v := (1 : Int32)) hx hb d_law_law_359 (by decide) ?_
  refine lv_iadd hx hb d_law_law_360 ?_
  refine va_sld hx hb hX hbl (Nat.not_le.mpr hbl) hS (sc1 hL hj) d_law_law_361 ?_
  refine lv_aload_n hx hb d_law_law_362 rfl (lv_at hl 3 rfl) ?_
  refine lv_iload_n hx hb d_law_law_363 rfl (lv_at hl 0 rfl) ?_
  refine lv_iconst (v := (2 : Int32)) hx hb d_law_law_364 (by decide) ?_
  refine lv_iadd hx hb d_law_law_365 ?_
  refine va_sld hx hb hX hbl (Nat.not_le.mpr hbl) hS (sc2 hL hj) d_law_law_366 ?_
  refine fCallI (fRunV (As := [.int (xs (nI j + 1).toNatClampNeg), .int (xs (nI j + 2).toNatClampNeg)]) (rest := []) (q0 := 0) (ci := 0) hx hb hml hown hts hK hN hW.2.2.2.2.2.1 (cx_Nm_veto l E a hW.1 mm fx H.size (xs (nI j + 1).toNatClampNeg) (xs (nI j + 2).toNatClampNeg) e1) q439 q440 q441 q49 q442 hd_x_Nm_veto rfl rfl ⟨Nat.le_of_ble_eq_true rfl, Nat.le_of_ble_eq_true rfl⟩ xe_0 rfl rfl rfl hl.1 rfl (Nat.le_of_ble_eq_true rfl) d_law_law_367 ⟨Nat.le_of_ble_eq_true rfl, Nat.le_of_ble_eq_true rfl⟩) hS (hW.fx hS) (fun u H1 locs1 hu hP1 hS1 _ hk => ?_)
  have hW1 := hW.x0 hP1 hk
  clear hW
  have hW := hW1
  have hS := hS1
  refine lv_aload_n hx hb d_law_law_370 rfl (lv_at hl 1 rfl) ?_
  refine lv_aload_n hx hb d_law_law_371 rfl (lv_at hl 3 rfl) ?_
  refine lv_iload_n hx hb d_law_law_372 rfl (lv_at hl 0 rfl) ?_
  refine lv_iconst (v := (1 : Int32)) hx hb d_law_law_373 (by decide) ?_
  refine lv_iadd hx hb d_law_law_374 ?_
  refine va_sld hx hb hX hbl (Nat.not_le.mpr hbl) hS (sc1 hL hj) d_law_law_375 ?_
  refine lv_aload_n hx hb d_law_law_376 rfl (lv_at hl 3 rfl) ?_
  refine lv_iload_n hx hb d_law_law_377 rfl (lv_at hl 0 rfl) ?_
  refine lv_iconst (v := (2 : Int32)) hx hb d_law_law_378 (by decide) ?_
  refine lv_iadd hx hb d_law_law_379 ?_
  refine va_sld hx hb hX hbl (Nat.not_le.mpr hbl) hS (sc2 hL hj) d_law_law_380 ?_
  refine fCallI (fRunV (As := [.int (xs (nI j + 1).toNatClampNeg), .int (xs (nI j + 2).toNatClampNeg)]) (rest := [.int r]) (q0 := 0) (ci := 8) hx hb hml hown hts (hK.sub [0] rfl) hN hW.2.2.2.2.2.2 (cm_Mo_veto l (E.1, E.2.1) a' hW.2.1 fy H1.size (xs (nI j + 1).toNatClampNeg) (xs (nI j + 2).toNatClampNeg) e2) q790 q791 q792 q61 q793 hd_m_Mo_veto rfl rfl ⟨Nat.le_of_ble_eq_true rfl, Nat.le_of_ble_eq_true rfl⟩ me_0 rfl rfl rfl hl.1 rfl (Nat.le_of_ble_eq_true rfl) d_law_law_381 ⟨Nat.le_of_ble_eq_true rfl, Nat.le_of_ble_eq_true rfl⟩) hS (hW.fm hS) (fun _ H2 locs2 _ hP2 hS2 _ hk2 => ?_)
  have hW2 := hW.m0 hP2 hk2
  refine lv_icmp_eq (tgt := 915) hx hb d_law_law_384 (by decide) (fun _ => ?_) (fun h => absurd rfl h)
  exact next _ _ _ _ _ _ rfl hW2 hC9 hS2
set_option maxHeartbeats 4000000 in
theorem law_9 (hx : p.tables.exec = Jvm.exec) (hb : c.code = code) (hml : c.maxLocals = 4) (hown : s.vm.findClass R_law = some m.cls) (hts : ∀ w ∈ TB, w.before #[Value.ref b] s = true) (hK : va_K E.1 xcl (xtys E) s) (hN : xNw s) (hX : va_X b L xs s s.heap) (hbl : b < s.heap.size) (hL : L ≤ 256) (hj : j + 4 ≤ L) (hW : LW E s.heap.size a mm a' fx fy H) (hC : Cpl fx fy) (hS : va_S (fun q => s.heap.size ≤ q) s.heap H locs) (hl : lv_has ls 4 [(3, .int (nI j)), (2, .ref (a' 0)), (1, .ref (a 0)), (0, .ref b)])
    (next : ∀ (a1 : Nat → Nat) (m1 : Nat) (gx gy : Hp) (H1 : Heap) (locs1 : List Loc), a1 0 = a 0 → LW E s.heap.size a1 m1 a' gx gy H1 → Cpl gx gy → va_S (fun q => s.heap.size ≤ q) s.heap H1 locs1 → W p l e room_1 s m #[Value.ref b] below meth c H1 locs1 48 1028 Q (F0 m 915 ls [])) : W p l e room_1 s m #[Value.ref b] below meth c H locs 48 1028 Q (F0 m 389 ls []) := by
  obtain ⟨r, gx, gy, e1, e2, hC9⟩ := p_order (xs (nI j + 1).toNatClampNeg) fx fy hC
  refine lv_aload_n hx hb d_law_law_389 rfl (lv_at hl 2 rfl) ?_
  refine lv_aload_n hx hb d_law_law_390 rfl (lv_at hl 3 rfl) ?_
  refine lv_iload_n hx hb d_law_law_391 rfl (lv_at hl 0 rfl) ?_
  refine lv_iconst (v := (1 : Int32)) hx hb d_law_law_392 (by decide) ?_
  refine lv_iadd hx hb d_law_law_393 ?_
  refine va_sld hx hb hX hbl (Nat.not_le.mpr hbl) hS (sc1 hL hj) d_law_law_394 ?_
  refine fCallI (fRunV (As := [.int (xs (nI j + 1).toNatClampNeg)]) (rest := []) (q0 := 0) (ci := 0) hx hb hml hown hts hK hN hW.2.2.2.2.2.1 (cx_Nm_order l E a hW.1 mm fx H.size (xs (nI j + 1).toNatClampNeg) e1) q456 q457 q458 q49 q459 hd_x_Nm_order rfl rfl ⟨Nat.le_of_ble_eq_true rfl, Nat.le_of_ble_eq_true rfl⟩ xe_0 rfl rfl rfl hl.1 rfl (Nat.le_of_ble_eq_true rfl) d_law_law_395 ⟨Nat.le_of_ble_eq_true rfl, Nat.le_of_ble_eq_true rfl⟩) hS (hW.fx hS) (fun u H1 locs1 hu hP1 hS1 _ hk => ?_)
  have hW1 := hW.x0 hP1 hk
  clear hW
  have hW := hW1
  have hS := hS1
  refine lv_aload_n hx hb d_law_law_398 rfl (lv_at hl 1 rfl) ?_
  refine lv_aload_n hx hb d_law_law_399 rfl (lv_at hl 3 rfl) ?_
  refine lv_iload_n hx hb d_law_law_400 rfl (lv_at hl 0 rfl) ?_
  refine lv_iconst (v := (1 : Int32)) hx hb d_law_law_401 (by decide) ?_
  refine lv_iadd hx hb d_law_law_402 ?_
  refine va_sld hx hb hX hbl (Nat.not_le.mpr hbl) hS (sc1 hL hj) d_law_law_403 ?_
  refine fCallI (fRunV (As := [.int (xs (nI j + 1).toNatClampNeg)]) (rest := [.int r]) (q0 := 0) (ci := 8) hx hb hml hown hts (hK.sub [0] rfl) hN hW.2.2.2.2.2.2 (cm_Mo_order l (E.1, E.2.1) a' hW.2.1 fy H1.size (xs (nI j + 1).toNatClampNeg) e2) q797 q798 q799 q61 q800 hd_m_Mo_order rfl rfl ⟨Nat.le_of_ble_eq_true rfl, Nat.le_of_ble_eq_true rfl⟩ me_0 rfl rfl rfl hl.1 rfl (Nat.le_of_ble_eq_true rfl) d_law_law_404 ⟨Nat.le_of_ble_eq_true rfl, Nat.le_of_ble_eq_true rfl⟩) hS (hW.fm hS) (fun _ H2 locs2 _ hP2 hS2 _ hk2 => ?_)
  have hW2 := hW.m0 hP2 hk2
  refine lv_icmp_eq (tgt := 915) hx hb d_law_law_407 (by decide) (fun _ => ?_) (fun h => absurd rfl h)
  exact next _ _ _ _ _ _ rfl hW2 hC9 hS2
set_option maxHeartbeats 4000000 in
theorem law_10 (hx : p.tables.exec = Jvm.exec) (hb : c.code = code) (hml : c.maxLocals = 4) (hown : s.vm.findClass R_law = some m.cls) (hts : ∀ w ∈ TB, w.before #[Value.ref b] s = true) (hK : va_K E.1 xcl (xtys E) s) (hN : xNw s) (hX : va_X b L xs s s.heap) (hbl : b < s.heap.size) (hL : L ≤ 256) (hj : j + 4 ≤ L) (hW : LW E s.heap.size a mm a' fx fy H) (hC : Cpl fx fy) (hS : va_S (fun q => s.heap.size ≤ q) s.heap H locs) (hl : lv_has ls 4 [(3, .int (nI j)), (2, .ref (a' 0)), (1, .ref (a 0)), (0, .ref b)])
    (next : ∀ (a1 : Nat → Nat) (m1 : Nat) (gx gy : Hp) (H1 : Heap) (locs1 : List Loc), a1 0 = a 0 → LW E s.heap.size a1 m1 a' gx gy H1 → Cpl gx gy → va_S (fun q => s.heap.size ≤ q) s.heap H1 locs1 → W p l e room_1 s m #[Value.ref b] below meth c H1 locs1 48 1028 Q (F0 m 915 ls [])) : W p l e room_1 s m #[Value.ref b] below meth c H locs 48 1028 Q (F0 m 412 ls []) := by
  obtain ⟨r, gx, gy, e1, e2, hC9⟩ := p_undo fx fy hC
  refine lv_aload_n hx hb d_law_law_412 rfl (lv_at hl 2 rfl) ?_
  refine fCallI (fRunV (As := []) (rest := []) (q0 := 0) (ci := 0) hx hb hml hown hts hK hN hW.2.2.2.2.2.1 (cx_Nm_undo l E a hW.1 mm fx H.size e1) q465 q466 q467 q49 q468 hd_x_Nm_undo rfl rfl ⟨Nat.le_of_ble_eq_true rfl, Nat.le_of_ble_eq_true rfl⟩ xe_0 rfl rfl rfl hl.1 rfl (Nat.le_of_ble_eq_true rfl) d_law_law_413 ⟨Nat.le_of_ble_eq_true rfl, Nat.le_of_ble_eq_true rfl⟩) hS (hW.fx hS) (fun u H1 locs1 hu hP1 hS1 _ hk => ?_)
  have hW1 := hW.x0 hP1 hk
  clear hW
  have hW := hW1
  have hS := hS1
  refine lv_aload_n hx hb d_law_law_416 rfl (lv_at hl 1 rfl) ?_
  refine fCallI (fRunV (As := []) (rest := [.int r]) (q0 := 0) (ci := 8) hx hb hml hown hts (hK.sub [0] rfl) hN hW.2.2.2.2.2.2 (cm_Mo_undo l (E.1, E.2.1) a' hW.2.1 fy H1.size e2) q804 q805 q806 q61 q807 hd_m_Mo_undo rfl rfl ⟨Nat.le_of_ble_eq_true rfl, Nat.le_of_ble_eq_true rfl⟩ me_0 rfl rfl rfl hl.1 rfl (Nat.le_of_ble_eq_true rfl) d_law_law_417 ⟨Nat.le_of_ble_eq_true rfl, Nat.le_of_ble_eq_true rfl⟩) hS (hW.fm hS) (fun _ H2 locs2 _ hP2 hS2 _ hk2 => ?_)
  have hW2 := hW.m0 hP2 hk2
  refine lv_icmp_eq (tgt := 915) hx hb d_law_law_420 (by decide) (fun _ => ?_) (fun h => absurd rfl h)
  exact next _ _ _ _ _ _ rfl hW2 hC9 hS2
set_option maxHeartbeats 4000000 in
theorem law_11 (hx : p.tables.exec = Jvm.exec) (hb : c.code = code) (hml : c.maxLocals = 4) (hown : s.vm.findClass R_law = some m.cls) (hts : ∀ w ∈ TB, w.before #[Value.ref b] s = true) (hK : va_K E.1 xcl (xtys E) s) (hN : xNw s) (hX : va_X b L xs s s.heap) (hbl : b < s.heap.size) (hL : L ≤ 256) (hj : j + 4 ≤ L) (hW : LW E s.heap.size a mm a' fx fy H) (hC : Cpl fx fy) (hS : va_S (fun q => s.heap.size ≤ q) s.heap H locs) (hl : lv_has ls 4 [(3, .int (nI j)), (2, .ref (a' 0)), (1, .ref (a 0)), (0, .ref b)])
    (next : ∀ (a1 : Nat → Nat) (m1 : Nat) (gx gy : Hp) (H1 : Heap) (locs1 : List Loc), a1 0 = a 0 → LW E s.heap.size a1 m1 a' gx gy H1 → Cpl gx gy → va_S (fun q => s.heap.size ≤ q) s.heap H1 locs1 → W p l e room_1 s m #[Value.ref b] below meth c H1 locs1 48 1028 Q (F0 m 915 ls [])) : W p l e room_1 s m #[Value.ref b] below meth c H locs 48 1028 Q (F0 m 425 ls []) := by
  obtain ⟨r, gx, e1, e2, hC9⟩ := p_most (xs (nI j + 1).toNatClampNeg) fx fy hC
  refine lv_aload_n hx hb d_law_law_425 rfl (lv_at hl 2 rfl) ?_
  refine lv_aload_n hx hb d_law_law_426 rfl (lv_at hl 3 rfl) ?_
  refine lv_iload_n hx hb d_law_law_427 rfl (lv_at hl 0 rfl) ?_
  refine lv_iconst (v := (1 : Int32)) hx hb d_law_law_428 (by decide) ?_
  refine lv_iadd hx hb d_law_law_429 ?_
  refine va_sld hx hb hX hbl (Nat.not_le.mpr hbl) hS (sc1 hL hj) d_law_law_430 ?_
  refine fCallI (fRunV (As := [.int (xs (nI j + 1).toNatClampNeg)]) (rest := []) (q0 := 0) (ci := 0) hx hb hml hown hts hK hN hW.2.2.2.2.2.1 (cx_Nm_most l E a hW.1 mm fx H.size (xs (nI j + 1).toNatClampNeg) e1) q473 q474 q475 q49 q476 hd_x_Nm_most rfl rfl ⟨Nat.le_of_ble_eq_true rfl, Nat.le_of_ble_eq_true rfl⟩ xe_0 rfl rfl rfl hl.1 rfl (Nat.le_of_ble_eq_true rfl) d_law_law_431 ⟨Nat.le_of_ble_eq_true rfl, Nat.le_of_ble_eq_true rfl⟩) hS (hW.fx hS) (fun u H1 locs1 hu hP1 hS1 _ hk => ?_)
  have hW1 := hW.x0 hP1 hk
  clear hW
  have hW := hW1
  have hS := hS1
  refine lv_aload_n hx hb d_law_law_434 rfl (lv_at hl 1 rfl) ?_
  refine lv_aload_n hx hb d_law_law_435 rfl (lv_at hl 3 rfl) ?_
  refine lv_iload_n hx hb d_law_law_436 rfl (lv_at hl 0 rfl) ?_
  refine lv_iconst (v := (1 : Int32)) hx hb d_law_law_437 (by decide) ?_
  refine lv_iadd hx hb d_law_law_438 ?_
  refine va_sld hx hb hX hbl (Nat.not_le.mpr hbl) hS (sc1 hL hj) d_law_law_439 ?_
  refine fCallI (fRunV (As := [.int (xs (nI j + 1).toNatClampNeg)]) (rest := [.int r]) (q0 := 0) (ci := 8) hx hb hml hown hts (hK.sub [0] rfl) hN hW.2.2.2.2.2.2 (cm_Mo_most l (E.1, E.2.1) a' hW.2.1 fy H1.size (xs (nI j + 1).toNatClampNeg) e2) q808 q809 q810 q61 q811 hd_m_Mo_most rfl rfl ⟨Nat.le_of_ble_eq_true rfl, Nat.le_of_ble_eq_true rfl⟩ me_0 rfl rfl rfl hl.1 rfl (Nat.le_of_ble_eq_true rfl) d_law_law_440 ⟨Nat.le_of_ble_eq_true rfl, Nat.le_of_ble_eq_true rfl⟩) hS (hW.fm hS) (fun _ H2 locs2 _ hP2 hS2 _ hk2 => ?_)
  have hW2 := hW.m0 hP2 hk2
  refine lv_icmp_eq (tgt := 915) hx hb d_law_law_443 (by decide) (fun _ => ?_) (fun h => absurd rfl h)
  exact next _ _ _ _ _ _ rfl hW2 hC9 hS2
set_option maxHeartbeats 4000000 in
theorem law_12 (hx : p.tables.exec = Jvm.exec) (hb : c.code = code) (hml : c.maxLocals = 4) (hown : s.vm.findClass R_law = some m.cls) (hts : ∀ w ∈ TB, w.before #[Value.ref b] s = true) (hK : va_K E.1 xcl (xtys E) s) (hN : xNw s) (hX : va_X b L xs s s.heap) (hbl : b < s.heap.size) (hL : L ≤ 256) (hj : j + 4 ≤ L) (hW : LW E s.heap.size a mm a' fx fy H) (hC : Cpl fx fy) (hS : va_S (fun q => s.heap.size ≤ q) s.heap H locs) (hl : lv_has ls 4 [(3, .int (nI j)), (2, .ref (a' 0)), (1, .ref (a 0)), (0, .ref b)])
    (next : ∀ (a1 : Nat → Nat) (m1 : Nat) (gx gy : Hp) (H1 : Heap) (locs1 : List Loc), a1 0 = a 0 → LW E s.heap.size a1 m1 a' gx gy H1 → Cpl gx gy → va_S (fun q => s.heap.size ≤ q) s.heap H1 locs1 → W p l e room_1 s m #[Value.ref b] below meth c H1 locs1 48 1028 Q (F0 m 915 ls [])) : W p l e room_1 s m #[Value.ref b] below meth c H locs 48 1028 Q (F0 m 448 ls []) := by
  obtain ⟨r, gx, e1, e2, hC9⟩ := p_fair (xs (nI j + 1).toNatClampNeg) fx fy hC
  refine lv_aload_n hx hb d_law_law_448 rfl (lv_at hl 2 rfl) ?_
  refine lv_aload_n hx hb d_law_law_449 rfl (lv_at hl 3 rfl) ?_
  refine lv_iload_n hx hb d_law_law_450 rfl (lv_at hl 0 rfl) ?_
  refine lv_iconst (v := (1 : Int32)) hx hb d_law_law_451 (by decide) ?_
  refine lv_iadd hx hb d_law_law_452 ?_
  refine va_sld hx hb hX hbl (Nat.not_le.mpr hbl) hS (sc1 hL hj) d_law_law_453 ?_
  refine fCallI (fRunV (As := [.int (xs (nI j + 1).toNatClampNeg)]) (rest := []) (q0 := 0) (ci := 0) hx hb hml hown hts hK hN hW.2.2.2.2.2.1 (cx_Nm_fair l E a hW.1 mm fx H.size (xs (nI j + 1).toNatClampNeg) e1) q482 q483 q484 q49 q485 hd_x_Nm_fair rfl rfl ⟨Nat.le_of_ble_eq_true rfl, Nat.le_of_ble_eq_true rfl⟩ xe_0 rfl rfl rfl hl.1 rfl (Nat.le_of_ble_eq_true rfl) d_law_law_454 ⟨Nat.le_of_ble_eq_true rfl, Nat.le_of_ble_eq_true rfl⟩) hS (hW.fx hS) (fun u H1 locs1 hu hP1 hS1 _ hk => ?_)
  have hW1 := hW.x0 hP1 hk
  clear hW
  have hW := hW1
  have hS := hS1
  refine lv_aload_n hx hb d_law_law_457 rfl (lv_at hl 1 rfl) ?_
  refine lv_aload_n hx hb d_law_law_458 rfl (lv_at hl 3 rfl) ?_
  refine lv_iload_n hx hb d_law_law_459 rfl (lv_at hl 0 rfl) ?_
  refine lv_iconst (v := (1 : Int32)) hx hb d_law_law_460 (by decide) ?_
  refine lv_iadd hx hb d_law_law_461 ?_
  refine va_sld hx hb hX hbl (Nat.not_le.mpr hbl) hS (sc1 hL hj) d_law_law_462 ?_
  refine fCallI (fRunV (As := [.int (xs (nI j + 1).toNatClampNeg)]) (rest := [.int r]) (q0 := 0) (ci := 8) hx hb hml hown hts (hK.sub [0] rfl) hN hW.2.2.2.2.2.2 (cm_Mo_fair l (E.1, E.2.1) a' hW.2.1 fy H1.size (xs (nI j + 1).toNatClampNeg) e2) q815 q816 q817 q61 q818 hd_m_Mo_fair rfl rfl ⟨Nat.le_of_ble_eq_true rfl, Nat.le_of_ble_eq_true rfl⟩ me_0 rfl rfl rfl hl.1 rfl (Nat.le_of_ble_eq_true rfl) d_law_law_463 ⟨Nat.le_of_ble_eq_true rfl, Nat.le_of_ble_eq_true rfl⟩) hS (hW.fm hS) (fun _ H2 locs2 _ hP2 hS2 _ hk2 => ?_)
  have hW2 := hW.m0 hP2 hk2
  refine lv_icmp_eq (tgt := 915) hx hb d_law_law_466 (by decide) (fun _ => ?_) (fun h => absurd rfl h)
  exact next _ _ _ _ _ _ rfl hW2 hC9 hS2
set_option maxHeartbeats 4000000 in
theorem law_13 (hx : p.tables.exec = Jvm.exec) (hb : c.code = code) (hml : c.maxLocals = 4) (hown : s.vm.findClass R_law = some m.cls) (hts : ∀ w ∈ TB, w.before #[Value.ref b] s = true) (hK : va_K E.1 xcl (xtys E) s) (hN : xNw s) (hX : va_X b L xs s s.heap) (hbl : b < s.heap.size) (hL : L ≤ 256) (hj : j + 4 ≤ L) (hW : LW E s.heap.size a mm a' fx fy H) (hC : Cpl fx fy) (hS : va_S (fun q => s.heap.size ≤ q) s.heap H locs) (hl : lv_has ls 4 [(3, .int (nI j)), (2, .ref (a' 0)), (1, .ref (a 0)), (0, .ref b)])
    (next : ∀ (a1 : Nat → Nat) (m1 : Nat) (gx gy : Hp) (H1 : Heap) (locs1 : List Loc), a1 0 = a 0 → LW E s.heap.size a1 m1 a' gx gy H1 → Cpl gx gy → va_S (fun q => s.heap.size ≤ q) s.heap H1 locs1 → W p l e room_1 s m #[Value.ref b] below meth c H1 locs1 48 1028 Q (F0 m 915 ls [])) : W p l e room_1 s m #[Value.ref b] below meth c H locs 48 1028 Q (F0 m 471 ls []) := by
  obtain ⟨r, gx, e1, e2, hC9⟩ := p_beats (xs (nI j + 1).toNatClampNeg) (xs (nI j + 2).toNatClampNeg) fx fy hC
  refine lv_aload_n hx hb d_law_law_471 rfl (lv_at hl 2 rfl) ?_
  refine lv_aload_n hx hb d_law_law_472 rfl (lv_at hl 3 rfl) ?_
  refine lv_iload_n hx hb d_law_law_473 rfl (lv_at hl 0 rfl) ?_
  refine lv_iconst (v := (1 : Int32)) hx hb d_law_law_474 (by decide) ?_
  refine lv_iadd hx hb d_law_law_475 ?_
  refine va_sld hx hb hX hbl (Nat.not_le.mpr hbl) hS (sc1 hL hj) d_law_law_476 ?_
  refine lv_aload_n hx hb d_law_law_477 rfl (lv_at hl 3 rfl) ?_
  refine lv_iload_n hx hb d_law_law_478 rfl (lv_at hl 0 rfl) ?_
  refine lv_iconst (v := (2 : Int32)) hx hb d_law_law_479 (by decide) ?_
  refine lv_iadd hx hb d_law_law_480 ?_
  refine va_sld hx hb hX hbl (Nat.not_le.mpr hbl) hS (sc2 hL hj) d_law_law_481 ?_
  refine fCallI (fRunV (As := [.int (xs (nI j + 1).toNatClampNeg), .int (xs (nI j + 2).toNatClampNeg)]) (rest := []) (q0 := 0) (ci := 0) hx hb hml hown hts hK hN hW.2.2.2.2.2.1 (cx_Nm_beats l E a hW.1 mm fx H.size (xs (nI j + 1).toNatClampNeg) (xs (nI j + 2).toNatClampNeg) e1) q498 q499 q500 q49 q501 hd_x_Nm_beats rfl rfl ⟨Nat.le_of_ble_eq_true rfl, Nat.le_of_ble_eq_true rfl⟩ xe_0 rfl rfl rfl hl.1 rfl (Nat.le_of_ble_eq_true rfl) d_law_law_482 ⟨Nat.le_of_ble_eq_true rfl, Nat.le_of_ble_eq_true rfl⟩) hS (hW.fx hS) (fun u H1 locs1 hu hP1 hS1 _ hk => ?_)
  have hW1 := hW.x0 hP1 hk
  clear hW
  have hW := hW1
  have hS := hS1
  refine lv_aload_n hx hb d_law_law_485 rfl (lv_at hl 1 rfl) ?_
  refine lv_aload_n hx hb d_law_law_486 rfl (lv_at hl 3 rfl) ?_
  refine lv_iload_n hx hb d_law_law_487 rfl (lv_at hl 0 rfl) ?_
  refine lv_iconst (v := (1 : Int32)) hx hb d_law_law_488 (by decide) ?_
  refine lv_iadd hx hb d_law_law_489 ?_
  refine va_sld hx hb hX hbl (Nat.not_le.mpr hbl) hS (sc1 hL hj) d_law_law_490 ?_
  refine lv_aload_n hx hb d_law_law_491 rfl (lv_at hl 3 rfl) ?_
  refine lv_iload_n hx hb d_law_law_492 rfl (lv_at hl 0 rfl) ?_
  refine lv_iconst (v := (2 : Int32)) hx hb d_law_law_493 (by decide) ?_
  refine lv_iadd hx hb d_law_law_494 ?_
  refine va_sld hx hb hX hbl (Nat.not_le.mpr hbl) hS (sc2 hL hj) d_law_law_495 ?_
  refine fCallI (fRunV (As := [.int (xs (nI j + 1).toNatClampNeg), .int (xs (nI j + 2).toNatClampNeg)]) (rest := [.int r]) (q0 := 0) (ci := 8) hx hb hml hown hts (hK.sub [0] rfl) hN hW.2.2.2.2.2.2 (cm_Mo_beats l (E.1, E.2.1) a' hW.2.1 fy H1.size (xs (nI j + 1).toNatClampNeg) (xs (nI j + 2).toNatClampNeg) e2) q822 q823 q824 q61 q825 hd_m_Mo_beats rfl rfl ⟨Nat.le_of_ble_eq_true rfl, Nat.le_of_ble_eq_true rfl⟩ me_0 rfl rfl rfl hl.1 rfl (Nat.le_of_ble_eq_true rfl) d_law_law_496 ⟨Nat.le_of_ble_eq_true rfl, Nat.le_of_ble_eq_true rfl⟩) hS (hW.fm hS) (fun _ H2 locs2 _ hP2 hS2 _ hk2 => ?_)
  have hW2 := hW.m0 hP2 hk2
  refine lv_icmp_eq (tgt := 915) hx hb d_law_law_499 (by decide) (fun _ => ?_) (fun h => absurd rfl h)
  exact next _ _ _ _ _ _ rfl hW2 hC9 hS2
set_option maxHeartbeats 4000000 in
theorem law_14 (hx : p.tables.exec = Jvm.exec) (hb : c.code = code) (hml : c.maxLocals = 4) (hown : s.vm.findClass R_law = some m.cls) (hts : ∀ w ∈ TB, w.before #[Value.ref b] s = true) (hK : va_K E.1 xcl (xtys E) s) (hN : xNw s) (hX : va_X b L xs s s.heap) (hbl : b < s.heap.size) (hL : L ≤ 256) (hj : j + 4 ≤ L) (hW : LW E s.heap.size a mm a' fx fy H) (hC : Cpl fx fy) (hS : va_S (fun q => s.heap.size ≤ q) s.heap H locs) (hl : lv_has ls 4 [(3, .int (nI j)), (2, .ref (a' 0)), (1, .ref (a 0)), (0, .ref b)])
    (next : ∀ (a1 : Nat → Nat) (m1 : Nat) (gx gy : Hp) (H1 : Heap) (locs1 : List Loc), a1 0 = a 0 → LW E s.heap.size a1 m1 a' gx gy H1 → Cpl gx gy → va_S (fun q => s.heap.size ≤ q) s.heap H1 locs1 → W p l e room_1 s m #[Value.ref b] below meth c H1 locs1 48 1028 Q (F0 m 915 ls [])) : W p l e room_1 s m #[Value.ref b] below meth c H locs 48 1028 Q (F0 m 504 ls []) := by
  obtain ⟨r, gx, e1, e2, hC9⟩ := p_champion fx fy hC
  refine lv_aload_n hx hb d_law_law_504 rfl (lv_at hl 2 rfl) ?_
  refine fCallI (fRunV (As := []) (rest := []) (q0 := 0) (ci := 0) hx hb hml hown hts hK hN hW.2.2.2.2.2.1 (cx_Nm_champion l E a hW.1 mm fx H.size e1) q512 q513 q514 q49 q515 hd_x_Nm_champion rfl rfl ⟨Nat.le_of_ble_eq_true rfl, Nat.le_of_ble_eq_true rfl⟩ xe_0 rfl rfl rfl hl.1 rfl (Nat.le_of_ble_eq_true rfl) d_law_law_505 ⟨Nat.le_of_ble_eq_true rfl, Nat.le_of_ble_eq_true rfl⟩) hS (hW.fx hS) (fun u H1 locs1 hu hP1 hS1 _ hk => ?_)
  have hW1 := hW.x0 hP1 hk
  clear hW
  have hW := hW1
  have hS := hS1
  refine lv_aload_n hx hb d_law_law_508 rfl (lv_at hl 1 rfl) ?_
  refine fCallI (fRunV (As := []) (rest := [.int r]) (q0 := 0) (ci := 8) hx hb hml hown hts (hK.sub [0] rfl) hN hW.2.2.2.2.2.2 (cm_Mo_champion l (E.1, E.2.1) a' hW.2.1 fy H1.size e2) q832 q833 q834 q61 q835 hd_m_Mo_champion rfl rfl ⟨Nat.le_of_ble_eq_true rfl, Nat.le_of_ble_eq_true rfl⟩ me_0 rfl rfl rfl hl.1 rfl (Nat.le_of_ble_eq_true rfl) d_law_law_509 ⟨Nat.le_of_ble_eq_true rfl, Nat.le_of_ble_eq_true rfl⟩) hS (hW.fm hS) (fun _ H2 locs2 _ hP2 hS2 _ hk2 => ?_)
  have hW2 := hW.m0 hP2 hk2
  refine lv_icmp_eq (tgt := 915) hx hb d_law_law_512 (by decide) (fun _ => ?_) (fun h => absurd rfl h)
  exact next _ _ _ _ _ _ rfl hW2 hC9 hS2
set_option maxHeartbeats 4000000 in
theorem law_15 (hx : p.tables.exec = Jvm.exec) (hb : c.code = code) (hml : c.maxLocals = 4) (hown : s.vm.findClass R_law = some m.cls) (hts : ∀ w ∈ TB, w.before #[Value.ref b] s = true) (hK : va_K E.1 xcl (xtys E) s) (hN : xNw s) (hX : va_X b L xs s s.heap) (hbl : b < s.heap.size) (hL : L ≤ 256) (hj : j + 4 ≤ L) (hW : LW E s.heap.size a mm a' fx fy H) (hC : Cpl fx fy) (hS : va_S (fun q => s.heap.size ≤ q) s.heap H locs) (hl : lv_has ls 4 [(3, .int (nI j)), (2, .ref (a' 0)), (1, .ref (a 0)), (0, .ref b)])
    (next : ∀ (a1 : Nat → Nat) (m1 : Nat) (gx gy : Hp) (H1 : Heap) (locs1 : List Loc), a1 0 = a 0 → LW E s.heap.size a1 m1 a' gx gy H1 → Cpl gx gy → va_S (fun q => s.heap.size ≤ q) s.heap H1 locs1 → W p l e room_1 s m #[Value.ref b] below meth c H1 locs1 48 1028 Q (F0 m 915 ls [])) : W p l e room_1 s m #[Value.ref b] below meth c H locs 48 1028 Q (F0 m 517 ls []) := by
  obtain ⟨r, gx, e1, e2, hC9⟩ := p_middle fx fy hC
  refine lv_aload_n hx hb d_law_law_517 rfl (lv_at hl 2 rfl) ?_
  refine fCallI (fRunV (As := []) (rest := []) (q0 := 0) (ci := 0) hx hb hml hown hts hK hN hW.2.2.2.2.2.1 (cx_Nm_middle l E a hW.1 mm fx H.size e1) q524 q525 q526 q49 q527 hd_x_Nm_middle rfl rfl ⟨Nat.le_of_ble_eq_true rfl, Nat.le_of_ble_eq_true rfl⟩ xe_0 rfl rfl rfl hl.1 rfl (Nat.le_of_ble_eq_true rfl) d_law_law_518 ⟨Nat.le_of_ble_eq_true rfl, Nat.le_of_ble_eq_true rfl⟩) hS (hW.fx hS) (fun u H1 locs1 hu hP1 hS1 _ hk => ?_)
  have hW1 := hW.x0 hP1 hk
  clear hW
  have hW := hW1
  have hS := hS1
  refine lv_aload_n hx hb d_law_law_521 rfl (lv_at hl 1 rfl) ?_
  refine fCallI (fRunV (As := []) (rest := [.int r]) (q0 := 0) (ci := 8) hx hb hml hown hts (hK.sub [0] rfl) hN hW.2.2.2.2.2.2 (cm_Mo_middle l (E.1, E.2.1) a' hW.2.1 fy H1.size e2) q836 q837 q838 q61 q839 hd_m_Mo_middle rfl rfl ⟨Nat.le_of_ble_eq_true rfl, Nat.le_of_ble_eq_true rfl⟩ me_0 rfl rfl rfl hl.1 rfl (Nat.le_of_ble_eq_true rfl) d_law_law_522 ⟨Nat.le_of_ble_eq_true rfl, Nat.le_of_ble_eq_true rfl⟩) hS (hW.fm hS) (fun _ H2 locs2 _ hP2 hS2 _ hk2 => ?_)
  have hW2 := hW.m0 hP2 hk2
  refine lv_icmp_eq (tgt := 915) hx hb d_law_law_525 (by decide) (fun _ => ?_) (fun h => absurd rfl h)
  exact next _ _ _ _ _ _ rfl hW2 hC9 hS2
end LAW
