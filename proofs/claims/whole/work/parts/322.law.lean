/-! the law, case by case -/
section LAW
variable {p : Program} {l : Launch} {e : Env} {s : State} {m : MethodId} {below : List Frame} {meth : Method} {c : Code} {H : Heap} {locs : List Loc} {Q : State → Prop} {ls : Array Slot} {b L j : Nat} {xs : Nat → Int32} {E : xE} {a : Nat → Nat} {mm : Nat} {a' : Nat → Nat} {fx fy : Hp}
set_option maxHeartbeats 4000000 in
theorem law_16 (hx : p.tables.exec = Jvm.exec) (hb : c.code = code) (hml : c.maxLocals = 4) (hown : s.vm.findClass R_law = some m.cls) (hts : ∀ w ∈ TB, w.before #[Value.ref b] s = true) (hK : va_K E.1 xcl (xtys E) s) (hN : xNw s) (hX : va_X b L xs s s.heap) (hbl : b < s.heap.size) (hL : L ≤ 256) (hj : j + 4 ≤ L) (hW : LW E s.heap.size a mm a' fx fy H) (hC : Cpl fx fy) (hS : va_S (fun q => s.heap.size ≤ q) s.heap H locs) (hl : lv_has ls 4 [(3, .int (nI j)), (2, .ref (a' 0)), (1, .ref (a 0)), (0, .ref b)])
    (next : ∀ (a1 : Nat → Nat) (m1 : Nat) (gx gy : Hp) (H1 : Heap) (locs1 : List Loc), a1 0 = a 0 → LW E s.heap.size a1 m1 a' gx gy H1 → Cpl gx gy → va_S (fun q => s.heap.size ≤ q) s.heap H1 locs1 → W p l e room_1 s m #[Value.ref b] below meth c H1 locs1 48 1028 Q (F0 m 915 ls [])) : W p l e room_1 s m #[Value.ref b] below meth c H locs 48 1028 Q (F0 m 530 ls []) := by
  obtain ⟨r, gx, e1, e2, hC9⟩ := p_struck (xs (nI j + 1).toNatClampNeg) fx fy hC
  refine lv_aload_n hx hb d_law_law_530 rfl (lv_at hl 2 rfl) ?_
  refine lv_aload_n hx hb d_law_law_531 rfl (lv_at hl 3 rfl) ?_
  refine lv_iload_n hx hb d_law_law_532 rfl (lv_at hl 0 rfl) ?_
  refine lv_iconst (v := (1 : Int32)) hx hb d_law_law_533 (by decide) ?_
  refine lv_iadd hx hb d_law_law_534 ?_
  refine va_sld hx hb hX hbl (Nat.not_le.mpr hbl) hS (sc1 hL hj) d_law_law_535 ?_
  refine fCallI (fRunV (As := [.int (xs (nI j + 1).toNatClampNeg)]) (rest := []) (q0 := 0) (ci := 0) hx hb hml hown hts hK hN hW.2.2.2.2.2.1 (cx_Nm_struck l E a hW.1 mm fx H.size (xs (nI j + 1).toNatClampNeg) e1) q540 q541 q542 q49 q543 hd_x_Nm_struck rfl rfl ⟨Nat.le_of_ble_eq_true rfl, Nat.le_of_ble_eq_true rfl⟩ xe_0 rfl rfl rfl hl.1 rfl (Nat.le_of_ble_eq_true rfl) d_law_law_536 ⟨Nat.le_of_ble_eq_true rfl, Nat.le_of_ble_eq_true rfl⟩) hS (hW.fx hS) (fun u H1 locs1 hu hP1 hS1 _ hk => ?_)
  have hW1 := hW.x0 hP1 hk
  clear hW
  have hW := hW1
  have hS := hS1
  refine lv_aload_n hx hb d_law_law_539 rfl (lv_at hl 1 rfl) ?_
  refine lv_aload_n hx hb d_law_law_540 rfl (lv_at hl 3 rfl) ?_
  refine lv_iload_n hx hb d_law_law_541 rfl (lv_at hl 0 rfl) ?_
  refine lv_iconst (v := (1 : Int32)) hx hb d_law_law_542 (by decide) ?_
  refine lv_iadd hx hb d_law_law_543 ?_
  refine va_sld hx hb hX hbl (Nat.not_le.mpr hbl) hS (sc1 hL hj) d_law_law_544 ?_
  refine fCallI (fRunV (As := [.int (xs (nI j + 1).toNatClampNeg)]) (rest := [.int r]) (q0 := 0) (ci := 8) hx hb hml hown hts (hK.sub [0] rfl) hN hW.2.2.2.2.2.2 (cm_Mo_struck l (E.1, E.2.1) a' hW.2.1 fy H1.size (xs (nI j + 1).toNatClampNeg) e2) q840 q841 q842 q61 q843 hd_m_Mo_struck rfl rfl ⟨Nat.le_of_ble_eq_true rfl, Nat.le_of_ble_eq_true rfl⟩ me_0 rfl rfl rfl hl.1 rfl (Nat.le_of_ble_eq_true rfl) d_law_law_545 ⟨Nat.le_of_ble_eq_true rfl, Nat.le_of_ble_eq_true rfl⟩) hS (hW.fm hS) (fun _ H2 locs2 _ hP2 hS2 _ hk2 => ?_)
  have hW2 := hW.m0 hP2 hk2
  refine lv_icmp_eq (tgt := 915) hx hb d_law_law_548 (by decide) (fun _ => ?_) (fun h => absurd rfl h)
  exact next _ _ _ _ _ _ rfl hW2 hC9 hS2
set_option maxHeartbeats 4000000 in
theorem law_17 (hx : p.tables.exec = Jvm.exec) (hb : c.code = code) (hml : c.maxLocals = 4) (hown : s.vm.findClass R_law = some m.cls) (hts : ∀ w ∈ TB, w.before #[Value.ref b] s = true) (hK : va_K E.1 xcl (xtys E) s) (hN : xNw s) (hX : va_X b L xs s s.heap) (hbl : b < s.heap.size) (hL : L ≤ 256) (hj : j + 4 ≤ L) (hW : LW E s.heap.size a mm a' fx fy H) (hC : Cpl fx fy) (hS : va_S (fun q => s.heap.size ≤ q) s.heap H locs) (hl : lv_has ls 4 [(3, .int (nI j)), (2, .ref (a' 0)), (1, .ref (a 0)), (0, .ref b)])
    (next : ∀ (a1 : Nat → Nat) (m1 : Nat) (gx gy : Hp) (H1 : Heap) (locs1 : List Loc), a1 0 = a 0 → LW E s.heap.size a1 m1 a' gx gy H1 → Cpl gx gy → va_S (fun q => s.heap.size ≤ q) s.heap H1 locs1 → W p l e room_1 s m #[Value.ref b] below meth c H1 locs1 48 1028 Q (F0 m 915 ls [])) : W p l e room_1 s m #[Value.ref b] below meth c H locs 48 1028 Q (F0 m 553 ls []) := by
  obtain ⟨r, gx, e1, e2, hC9⟩ := p_two (xs (nI j + 1).toNatClampNeg) fx fy hC
  refine lv_aload_n hx hb d_law_law_553 rfl (lv_at hl 2 rfl) ?_
  refine lv_aload_n hx hb d_law_law_554 rfl (lv_at hl 3 rfl) ?_
  refine lv_iload_n hx hb d_law_law_555 rfl (lv_at hl 0 rfl) ?_
  refine lv_iconst (v := (1 : Int32)) hx hb d_law_law_556 (by decide) ?_
  refine lv_iadd hx hb d_law_law_557 ?_
  refine va_sld hx hb hX hbl (Nat.not_le.mpr hbl) hS (sc1 hL hj) d_law_law_558 ?_
  refine fCallI (fRunV (As := [.int (xs (nI j + 1).toNatClampNeg)]) (rest := []) (q0 := 0) (ci := 0) hx hb hml hown hts hK hN hW.2.2.2.2.2.1 (cx_Nm_two l E a hW.1 mm fx H.size (xs (nI j + 1).toNatClampNeg) e1) q548 q549 q550 q49 q551 hd_x_Nm_two rfl rfl ⟨Nat.le_of_ble_eq_true rfl, Nat.le_of_ble_eq_true rfl⟩ xe_0 rfl rfl rfl hl.1 rfl (Nat.le_of_ble_eq_true rfl) d_law_law_559 ⟨Nat.le_of_ble_eq_true rfl, Nat.le_of_ble_eq_true rfl⟩) hS (hW.fx hS) (fun u H1 locs1 hu hP1 hS1 _ hk => ?_)
  have hW1 := hW.x0 hP1 hk
  clear hW
  have hW := hW1
  have hS := hS1
  refine lv_aload_n hx hb d_law_law_562 rfl (lv_at hl 1 rfl) ?_
  refine lv_aload_n hx hb d_law_law_563 rfl (lv_at hl 3 rfl) ?_
  refine lv_iload_n hx hb d_law_law_564 rfl (lv_at hl 0 rfl) ?_
  refine lv_iconst (v := (1 : Int32)) hx hb d_law_law_565 (by decide) ?_
  refine lv_iadd hx hb d_law_law_566 ?_
  refine va_sld hx hb hX hbl (Nat.not_le.mpr hbl) hS (sc1 hL hj) d_law_law_567 ?_
  refine fCallI (fRunV (As := [.int (xs (nI j + 1).toNatClampNeg)]) (rest := [.int r]) (q0 := 0) (ci := 8) hx hb hml hown hts (hK.sub [0] rfl) hN hW.2.2.2.2.2.2 (cm_Mo_two l (E.1, E.2.1) a' hW.2.1 fy H1.size (xs (nI j + 1).toNatClampNeg) e2) q847 q848 q849 q61 q850 hd_m_Mo_two rfl rfl ⟨Nat.le_of_ble_eq_true rfl, Nat.le_of_ble_eq_true rfl⟩ me_0 rfl rfl rfl hl.1 rfl (Nat.le_of_ble_eq_true rfl) d_law_law_568 ⟨Nat.le_of_ble_eq_true rfl, Nat.le_of_ble_eq_true rfl⟩) hS (hW.fm hS) (fun _ H2 locs2 _ hP2 hS2 _ hk2 => ?_)
  have hW2 := hW.m0 hP2 hk2
  refine lv_icmp_eq (tgt := 915) hx hb d_law_law_571 (by decide) (fun _ => ?_) (fun h => absurd rfl h)
  exact next _ _ _ _ _ _ rfl hW2 hC9 hS2
set_option maxHeartbeats 4000000 in
theorem law_18 (hx : p.tables.exec = Jvm.exec) (hb : c.code = code) (hml : c.maxLocals = 4) (hown : s.vm.findClass R_law = some m.cls) (hts : ∀ w ∈ TB, w.before #[Value.ref b] s = true) (hK : va_K E.1 xcl (xtys E) s) (hN : xNw s) (hX : va_X b L xs s s.heap) (hbl : b < s.heap.size) (hL : L ≤ 256) (hj : j + 4 ≤ L) (hW : LW E s.heap.size a mm a' fx fy H) (hC : Cpl fx fy) (hS : va_S (fun q => s.heap.size ≤ q) s.heap H locs) (hl : lv_has ls 4 [(3, .int (nI j)), (2, .ref (a' 0)), (1, .ref (a 0)), (0, .ref b)])
    (next : ∀ (a1 : Nat → Nat) (m1 : Nat) (gx gy : Hp) (H1 : Heap) (locs1 : List Loc), a1 0 = a 0 → LW E s.heap.size a1 m1 a' gx gy H1 → Cpl gx gy → va_S (fun q => s.heap.size ≤ q) s.heap H1 locs1 → W p l e room_1 s m #[Value.ref b] below meth c H1 locs1 48 1028 Q (F0 m 915 ls [])) : W p l e room_1 s m #[Value.ref b] below meth c H locs 48 1028 Q (F0 m 576 ls []) := by
  obtain ⟨r, gx, e1, e2, hC9⟩ := p_houses (xs (nI j + 1).toNatClampNeg) fx fy hC
  refine lv_aload_n hx hb d_law_law_576 rfl (lv_at hl 2 rfl) ?_
  refine lv_aload_n hx hb d_law_law_577 rfl (lv_at hl 3 rfl) ?_
  refine lv_iload_n hx hb d_law_law_578 rfl (lv_at hl 0 rfl) ?_
  refine lv_iconst (v := (1 : Int32)) hx hb d_law_law_579 (by decide) ?_
  refine lv_iadd hx hb d_law_law_580 ?_
  refine va_sld hx hb hX hbl (Nat.not_le.mpr hbl) hS (sc1 hL hj) d_law_law_581 ?_
  refine fCallI (fRunV (As := [.int (xs (nI j + 1).toNatClampNeg)]) (rest := []) (q0 := 0) (ci := 0) hx hb hml hown hts hK hN hW.2.2.2.2.2.1 (cx_Nm_houses l E a hW.1 mm fx H.size (xs (nI j + 1).toNatClampNeg) e1) q564 q565 q566 q49 q567 hd_x_Nm_houses rfl rfl ⟨Nat.le_of_ble_eq_true rfl, Nat.le_of_ble_eq_true rfl⟩ xe_0 rfl rfl rfl hl.1 rfl (Nat.le_of_ble_eq_true rfl) d_law_law_582 ⟨Nat.le_of_ble_eq_true rfl, Nat.le_of_ble_eq_true rfl⟩) hS (hW.fx hS) (fun u H1 locs1 hu hP1 hS1 _ hk => ?_)
  have hW1 := hW.x0 hP1 hk
  clear hW
  have hW := hW1
  have hS := hS1
  refine lv_aload_n hx hb d_law_law_585 rfl (lv_at hl 1 rfl) ?_
  refine lv_aload_n hx hb d_law_law_586 rfl (lv_at hl 3 rfl) ?_
  refine lv_iload_n hx hb d_law_law_587 rfl (lv_at hl 0 rfl) ?_
  refine lv_iconst (v := (1 : Int32)) hx hb d_law_law_588 (by decide) ?_
  refine lv_iadd hx hb d_law_law_589 ?_
  refine va_sld hx hb hX hbl (Nat.not_le.mpr hbl) hS (sc1 hL hj) d_law_law_590 ?_
  refine fCallI (fRunV (As := [.int (xs (nI j + 1).toNatClampNeg)]) (rest := [.int r]) (q0 := 0) (ci := 8) hx hb hml hown hts (hK.sub [0] rfl) hN hW.2.2.2.2.2.2 (cm_Mo_houses l (E.1, E.2.1) a' hW.2.1 fy H1.size (xs (nI j + 1).toNatClampNeg) e2) q857 q858 q859 q61 q860 hd_m_Mo_houses rfl rfl ⟨Nat.le_of_ble_eq_true rfl, Nat.le_of_ble_eq_true rfl⟩ me_0 rfl rfl rfl hl.1 rfl (Nat.le_of_ble_eq_true rfl) d_law_law_591 ⟨Nat.le_of_ble_eq_true rfl, Nat.le_of_ble_eq_true rfl⟩) hS (hW.fm hS) (fun _ H2 locs2 _ hP2 hS2 _ hk2 => ?_)
  have hW2 := hW.m0 hP2 hk2
  refine lv_icmp_eq (tgt := 915) hx hb d_law_law_594 (by decide) (fun _ => ?_) (fun h => absurd rfl h)
  exact next _ _ _ _ _ _ rfl hW2 hC9 hS2
set_option maxHeartbeats 4000000 in
theorem law_19 (hx : p.tables.exec = Jvm.exec) (hb : c.code = code) (hml : c.maxLocals = 4) (hown : s.vm.findClass R_law = some m.cls) (hts : ∀ w ∈ TB, w.before #[Value.ref b] s = true) (hK : va_K E.1 xcl (xtys E) s) (hN : xNw s) (hX : va_X b L xs s s.heap) (hbl : b < s.heap.size) (hL : L ≤ 256) (hj : j + 4 ≤ L) (hW : LW E s.heap.size a mm a' fx fy H) (hC : Cpl fx fy) (hS : va_S (fun q => s.heap.size ≤ q) s.heap H locs) (hl : lv_has ls 4 [(3, .int (nI j)), (2, .ref (a' 0)), (1, .ref (a 0)), (0, .ref b)])
    (next : ∀ (a1 : Nat → Nat) (m1 : Nat) (gx gy : Hp) (H1 : Heap) (locs1 : List Loc), a1 0 = a 0 → LW E s.heap.size a1 m1 a' gx gy H1 → Cpl gx gy → va_S (fun q => s.heap.size ≤ q) s.heap H1 locs1 → W p l e room_1 s m #[Value.ref b] below meth c H1 locs1 48 1028 Q (F0 m 915 ls [])) : W p l e room_1 s m #[Value.ref b] below meth c H locs 48 1028 Q (F0 m 599 ls []) := by
  obtain ⟨r, gx, e1, e2, hC9⟩ := p_waits (xs (nI j + 1).toNatClampNeg) (xs (nI j + 2).toNatClampNeg) fx fy hC
  refine lv_aload_n hx hb d_law_law_599 rfl (lv_at hl 2 rfl) ?_
  refine lv_aload_n hx hb d_law_law_600 rfl (lv_at hl 3 rfl) ?_
  refine lv_iload_n hx hb d_law_law_601 rfl (lv_at hl 0 rfl) ?_
  refine lv_iconst (v := (1 : Int32)) hx hb d_law_law_602 (by decide) ?_
  refine lv_iadd hx hb d_law_law_603 ?_
  refine va_sld hx hb hX hbl (Nat.not_le.mpr hbl) hS (sc1 hL hj) d_law_law_604 ?_
  refine lv_aload_n hx hb d_law_law_605 rfl (lv_at hl 3 rfl) ?_
  refine lv_iload_n hx hb d_law_law_606 rfl (lv_at hl 0 rfl) ?_
  refine lv_iconst (v := (2 : Int32)) hx hb d_law_law_607 (by decide) ?_
  refine lv_iadd hx hb d_law_law_608 ?_
  refine va_sld hx hb hX hbl (Nat.not_le.mpr hbl) hS (sc2 hL hj) d_law_law_609 ?_
  refine fCallI (fRunV (As := [.int (xs (nI j + 1).toNatClampNeg), .int (xs (nI j + 2).toNatClampNeg)]) (rest := []) (q0 := 0) (ci := 0) hx hb hml hown hts hK hN hW.2.2.2.2.2.1 (cx_Nm_waits l E a hW.1 mm fx H.size (xs (nI j + 1).toNatClampNeg) (xs (nI j + 2).toNatClampNeg) e1) q568 q569 q570 q49 q571 hd_x_Nm_waits rfl rfl ⟨Nat.le_of_ble_eq_true rfl, Nat.le_of_ble_eq_true rfl⟩ xe_0 rfl rfl rfl hl.1 rfl (Nat.le_of_ble_eq_true rfl) d_law_law_610 ⟨Nat.le_of_ble_eq_true rfl, Nat.le_of_ble_eq_true rfl⟩) hS (hW.fx hS) (fun u H1 locs1 hu hP1 hS1 _ hk => ?_)
  have hW1 := hW.x0 hP1 hk
  clear hW
  have hW := hW1
  have hS := hS1
  refine lv_aload_n hx hb d_law_law_613 rfl (lv_at hl 1 rfl) ?_
  refine lv_aload_n hx hb d_law_law_614 rfl (lv_at hl 3 rfl) ?_
  refine lv_iload_n hx hb d_law_law_615 rfl (lv_at hl 0 rfl) ?_
  refine lv_iconst (v := (1 : Int32)) hx hb d_law_law_616 (by decide) ?_
  refine lv_iadd hx hb d_law_law_617 ?_
  refine va_sld hx hb hX hbl (Nat.not_le.mpr hbl) hS (sc1 hL hj) d_law_law_618 ?_
  refine lv_aload_n hx hb d_law_law_619 rfl (lv_at hl 3 rfl) ?_
  refine lv_iload_n hx hb d_law_law_620 rfl (lv_at hl 0 rfl) ?_
  refine lv_iconst (v := (2 : Int32)) hx hb d_law_law_621 (by decide) ?_
  refine lv_iadd hx hb d_law_law_622 ?_
  refine va_sld hx hb hX hbl (Nat.not_le.mpr hbl) hS (sc2 hL hj) d_law_law_623 ?_
  refine fCallI (fRunV (As := [.int (xs (nI j + 1).toNatClampNeg), .int (xs (nI j + 2).toNatClampNeg)]) (rest := [.int r]) (q0 := 0) (ci := 8) hx hb hml hown hts (hK.sub [0] rfl) hN hW.2.2.2.2.2.2 (cm_Mo_waits l (E.1, E.2.1) a' hW.2.1 fy H1.size (xs (nI j + 1).toNatClampNeg) (xs (nI j + 2).toNatClampNeg) e2) q863 q864 q865 q61 q866 hd_m_Mo_waits rfl rfl ⟨Nat.le_of_ble_eq_true rfl, Nat.le_of_ble_eq_true rfl⟩ me_0 rfl rfl rfl hl.1 rfl (Nat.le_of_ble_eq_true rfl) d_law_law_624 ⟨Nat.le_of_ble_eq_true rfl, Nat.le_of_ble_eq_true rfl⟩) hS (hW.fm hS) (fun _ H2 locs2 _ hP2 hS2 _ hk2 => ?_)
  have hW2 := hW.m0 hP2 hk2
  refine lv_icmp_eq (tgt := 915) hx hb d_law_law_627 (by decide) (fun _ => ?_) (fun h => absurd rfl h)
  exact next _ _ _ _ _ _ rfl hW2 hC9 hS2
set_option maxHeartbeats 4000000 in
theorem law_20 (hx : p.tables.exec = Jvm.exec) (hb : c.code = code) (hml : c.maxLocals = 4) (hown : s.vm.findClass R_law = some m.cls) (hts : ∀ w ∈ TB, w.before #[Value.ref b] s = true) (hK : va_K E.1 xcl (xtys E) s) (hN : xNw s) (hX : va_X b L xs s s.heap) (hbl : b < s.heap.size) (hL : L ≤ 256) (hj : j + 4 ≤ L) (hW : LW E s.heap.size a mm a' fx fy H) (hC : Cpl fx fy) (hS : va_S (fun q => s.heap.size ≤ q) s.heap H locs) (hl : lv_has ls 4 [(3, .int (nI j)), (2, .ref (a' 0)), (1, .ref (a 0)), (0, .ref b)])
    (next : ∀ (a1 : Nat → Nat) (m1 : Nat) (gx gy : Hp) (H1 : Heap) (locs1 : List Loc), a1 0 = a 0 → LW E s.heap.size a1 m1 a' gx gy H1 → Cpl gx gy → va_S (fun q => s.heap.size ≤ q) s.heap H1 locs1 → W p l e room_1 s m #[Value.ref b] below meth c H1 locs1 48 1028 Q (F0 m 915 ls [])) : W p l e room_1 s m #[Value.ref b] below meth c H locs 48 1028 Q (F0 m 632 ls []) := by
  obtain ⟨r, gx, gy, e1, e2, hC9⟩ := p_heard (xs (nI j + 1).toNatClampNeg) (xs (nI j + 2).toNatClampNeg) (xs (nI j + 3).toNatClampNeg) fx fy hC
  refine lv_aload_n hx hb d_law_law_632 rfl (lv_at hl 2 rfl) ?_
  refine lv_aload_n hx hb d_law_law_633 rfl (lv_at hl 3 rfl) ?_
  refine lv_iload_n hx hb d_law_law_634 rfl (lv_at hl 0 rfl) ?_
  refine lv_iconst (v := (1 : Int32)) hx hb d_law_law_635 (by decide) ?_
  refine lv_iadd hx hb d_law_law_636 ?_
  refine va_sld hx hb hX hbl (Nat.not_le.mpr hbl) hS (sc1 hL hj) d_law_law_637 ?_
  refine lv_aload_n hx hb d_law_law_638 rfl (lv_at hl 3 rfl) ?_
  refine lv_iload_n hx hb d_law_law_639 rfl (lv_at hl 0 rfl) ?_
  refine lv_iconst (v := (2 : Int32)) hx hb d_law_law_640 (by decide) ?_
  refine lv_iadd hx hb d_law_law_641 ?_
  refine va_sld hx hb hX hbl (Nat.not_le.mpr hbl) hS (sc2 hL hj) d_law_law_642 ?_
  refine lv_aload_n hx hb d_law_law_643 rfl (lv_at hl 3 rfl) ?_
  refine lv_iload_n hx hb d_law_law_644 rfl (lv_at hl 0 rfl) ?_
  refine lv_iconst (v := (3 : Int32)) hx hb d_law_law_645 (by decide) ?_
  refine lv_iadd hx hb d_law_law_646 ?_
  refine va_sld hx hb hX hbl (Nat.not_le.mpr hbl) hS (sc3 hL hj) d_law_law_647 ?_
  refine fCallI (fRunV (As := [.int (xs (nI j + 1).toNatClampNeg), .int (xs (nI j + 2).toNatClampNeg), .int (xs (nI j + 3).toNatClampNeg)]) (rest := []) (q0 := 0) (ci := 0) hx hb hml hown hts hK hN hW.2.2.2.2.2.1 (cx_Nm_heard l E a hW.1 mm fx H.size (xs (nI j + 1).toNatClampNeg) (xs (nI j + 2).toNatClampNeg) (xs (nI j + 3).toNatClampNeg) e1) q572 q573 q574 q49 q575 hd_x_Nm_heard rfl rfl ⟨Nat.le_of_ble_eq_true rfl, Nat.le_of_ble_eq_true rfl⟩ xe_0 rfl rfl rfl hl.1 rfl (Nat.le_of_ble_eq_true rfl) d_law_law_648 ⟨Nat.le_of_ble_eq_true rfl, Nat.le_of_ble_eq_true rfl⟩) hS (hW.fx hS) (fun u H1 locs1 hu hP1 hS1 _ hk => ?_)
  have hW1 := hW.x0 hP1 hk
  clear hW
  have hW := hW1
  have hS := hS1
  refine lv_aload_n hx hb d_law_law_651 rfl (lv_at hl 1 rfl) ?_
  refine lv_aload_n hx hb d_law_law_652 rfl (lv_at hl 3 rfl) ?_
  refine lv_iload_n hx hb d_law_law_653 rfl (lv_at hl 0 rfl) ?_
  refine lv_iconst (v := (1 : Int32)) hx hb d_law_law_654 (by decide) ?_
  refine lv_iadd hx hb d_law_law_655 ?_
  refine va_sld hx hb hX hbl (Nat.not_le.mpr hbl) hS (sc1 hL hj) d_law_law_656 ?_
  refine lv_aload_n hx hb d_law_law_657 rfl (lv_at hl 3 rfl) ?_
  refine lv_iload_n hx hb d_law_law_658 rfl (lv_at hl 0 rfl) ?_
  refine lv_iconst (v := (2 : Int32)) hx hb d_law_law_659 (by decide) ?_
  refine lv_iadd hx hb d_law_law_660 ?_
  refine va_sld hx hb hX hbl (Nat.not_le.mpr hbl) hS (sc2 hL hj) d_law_law_661 ?_
  refine lv_aload_n hx hb d_law_law_662 rfl (lv_at hl 3 rfl) ?_
  refine lv_iload_n hx hb d_law_law_663 rfl (lv_at hl 0 rfl) ?_
  refine lv_iconst (v := (3 : Int32)) hx hb d_law_law_664 (by decide) ?_
  refine lv_iadd hx hb d_law_law_665 ?_
  refine va_sld hx hb hX hbl (Nat.not_le.mpr hbl) hS (sc3 hL hj) d_law_law_666 ?_
  refine fCallI (fRunV (As := [.int (xs (nI j + 1).toNatClampNeg), .int (xs (nI j + 2).toNatClampNeg), .int (xs (nI j + 3).toNatClampNeg)]) (rest := [.int r]) (q0 := 0) (ci := 8) hx hb hml hown hts (hK.sub [0] rfl) hN hW.2.2.2.2.2.2 (cm_Mo_heard l (E.1, E.2.1) a' hW.2.1 fy H1.size (xs (nI j + 1).toNatClampNeg) (xs (nI j + 2).toNatClampNeg) (xs (nI j + 3).toNatClampNeg) e2) q867 q868 q869 q61 q870 hd_m_Mo_heard rfl rfl ⟨Nat.le_of_ble_eq_true rfl, Nat.le_of_ble_eq_true rfl⟩ me_0 rfl rfl rfl hl.1 rfl (Nat.le_of_ble_eq_true rfl) d_law_law_667 ⟨Nat.le_of_ble_eq_true rfl, Nat.le_of_ble_eq_true rfl⟩) hS (hW.fm hS) (fun _ H2 locs2 _ hP2 hS2 _ hk2 => ?_)
  have hW2 := hW.m0 hP2 hk2
  refine lv_icmp_eq (tgt := 915) hx hb d_law_law_670 (by decide) (fun _ => ?_) (fun h => absurd rfl h)
  exact next _ _ _ _ _ _ rfl hW2 hC9 hS2
set_option maxHeartbeats 4000000 in
theorem law_21 (hx : p.tables.exec = Jvm.exec) (hb : c.code = code) (hml : c.maxLocals = 4) (hown : s.vm.findClass R_law = some m.cls) (hts : ∀ w ∈ TB, w.before #[Value.ref b] s = true) (hK : va_K E.1 xcl (xtys E) s) (hN : xNw s) (hX : va_X b L xs s s.heap) (hbl : b < s.heap.size) (hL : L ≤ 256) (hj : j + 4 ≤ L) (hW : LW E s.heap.size a mm a' fx fy H) (hC : Cpl fx fy) (hS : va_S (fun q => s.heap.size ≤ q) s.heap H locs) (hl : lv_has ls 4 [(3, .int (nI j)), (2, .ref (a' 0)), (1, .ref (a 0)), (0, .ref b)])
    (next : ∀ (a1 : Nat → Nat) (m1 : Nat) (gx gy : Hp) (H1 : Heap) (locs1 : List Loc), a1 0 = a 0 → LW E s.heap.size a1 m1 a' gx gy H1 → Cpl gx gy → va_S (fun q => s.heap.size ≤ q) s.heap H1 locs1 → W p l e room_1 s m #[Value.ref b] below meth c H1 locs1 48 1028 Q (F0 m 915 ls [])) : W p l e room_1 s m #[Value.ref b] below meth c H locs 48 1028 Q (F0 m 675 ls []) := by
  obtain ⟨r, gx, gy, e1, e2, hC9⟩ := p_forget fx fy hC
  refine lv_aload_n hx hb d_law_law_675 rfl (lv_at hl 2 rfl) ?_
  refine fCallI (fRunV (As := []) (rest := []) (q0 := 0) (ci := 0) hx hb hml hown hts hK hN hW.2.2.2.2.2.1 (cx_Nm_forget l E a hW.1 mm fx H.size e1) q584 q585 q586 q49 q587 hd_x_Nm_forget rfl rfl ⟨Nat.le_of_ble_eq_true rfl, Nat.le_of_ble_eq_true rfl⟩ xe_0 rfl rfl rfl hl.1 rfl (Nat.le_of_ble_eq_true rfl) d_law_law_676 ⟨Nat.le_of_ble_eq_true rfl, Nat.le_of_ble_eq_true rfl⟩) hS (hW.fx hS) (fun u H1 locs1 hu hP1 hS1 _ hk => ?_)
  have hW1 := hW.x0 hP1 hk
  clear hW
  have hW := hW1
  have hS := hS1
  refine lv_aload_n hx hb d_law_law_679 rfl (lv_at hl 1 rfl) ?_
  refine fCallI (fRunV (As := []) (rest := [.int r]) (q0 := 0) (ci := 8) hx hb hml hown hts (hK.sub [0] rfl) hN hW.2.2.2.2.2.2 (cm_Mo_forget l (E.1, E.2.1) a' hW.2.1 fy H1.size e2) q871 q872 q873 q61 q874 hd_m_Mo_forget rfl rfl ⟨Nat.le_of_ble_eq_true rfl, Nat.le_of_ble_eq_true rfl⟩ me_0 rfl rfl rfl hl.1 rfl (Nat.le_of_ble_eq_true rfl) d_law_law_680 ⟨Nat.le_of_ble_eq_true rfl, Nat.le_of_ble_eq_true rfl⟩) hS (hW.fm hS) (fun _ H2 locs2 _ hP2 hS2 _ hk2 => ?_)
  have hW2 := hW.m0 hP2 hk2
  refine lv_icmp_eq (tgt := 915) hx hb d_law_law_683 (by decide) (fun _ => ?_) (fun h => absurd rfl h)
  exact next _ _ _ _ _ _ rfl hW2 hC9 hS2
set_option maxHeartbeats 4000000 in
theorem law_22 (hx : p.tables.exec = Jvm.exec) (hb : c.code = code) (hml : c.maxLocals = 4) (hown : s.vm.findClass R_law = some m.cls) (hts : ∀ w ∈ TB, w.before #[Value.ref b] s = true) (hK : va_K E.1 xcl (xtys E) s) (hN : xNw s) (hX : va_X b L xs s s.heap) (hbl : b < s.heap.size) (hL : L ≤ 256) (hj : j + 4 ≤ L) (hW : LW E s.heap.size a mm a' fx fy H) (hC : Cpl fx fy) (hS : va_S (fun q => s.heap.size ≤ q) s.heap H locs) (hl : lv_has ls 4 [(3, .int (nI j)), (2, .ref (a' 0)), (1, .ref (a 0)), (0, .ref b)])
    (next : ∀ (a1 : Nat → Nat) (m1 : Nat) (gx gy : Hp) (H1 : Heap) (locs1 : List Loc), a1 0 = a 0 → LW E s.heap.size a1 m1 a' gx gy H1 → Cpl gx gy → va_S (fun q => s.heap.size ≤ q) s.heap H1 locs1 → W p l e room_1 s m #[Value.ref b] below meth c H1 locs1 48 1028 Q (F0 m 915 ls [])) : W p l e room_1 s m #[Value.ref b] below meth c H locs 48 1028 Q (F0 m 688 ls []) := by
  obtain ⟨r, gx, e1, e2, hC9⟩ := p_may (xs (nI j + 1).toNatClampNeg) fx fy hC
  refine lv_aload_n hx hb d_law_law_688 rfl (lv_at hl 2 rfl) ?_
  refine lv_aload_n hx hb d_law_law_689 rfl (lv_at hl 3 rfl) ?_
  refine lv_iload_n hx hb d_law_law_690 rfl (lv_at hl 0 rfl) ?_
  refine lv_iconst (v := (1 : Int32)) hx hb d_law_law_691 (by decide) ?_
  refine lv_iadd hx hb d_law_law_692 ?_
  refine va_sld hx hb hX hbl (Nat.not_le.mpr hbl) hS (sc1 hL hj) d_law_law_693 ?_
  refine fCallI (fRunV (As := [.int (xs (nI j + 1).toNatClampNeg)]) (rest := []) (q0 := 0) (ci := 0) hx hb hml hown hts hK hN hW.2.2.2.2.2.1 (cx_Nm_may l E a hW.1 mm fx H.size (xs (nI j + 1).toNatClampNeg) e1) q588 q589 q590 q49 q591 hd_x_Nm_may rfl rfl ⟨Nat.le_of_ble_eq_true rfl, Nat.le_of_ble_eq_true rfl⟩ xe_0 rfl rfl rfl hl.1 rfl (Nat.le_of_ble_eq_true rfl) d_law_law_694 ⟨Nat.le_of_ble_eq_true rfl, Nat.le_of_ble_eq_true rfl⟩) hS (hW.fx hS) (fun u H1 locs1 hu hP1 hS1 _ hk => ?_)
  have hW1 := hW.x0 hP1 hk
  clear hW
  have hW := hW1
  have hS := hS1
  refine lv_aload_n hx hb d_law_law_697 rfl (lv_at hl 1 rfl) ?_
  refine lv_aload_n hx hb d_law_law_698 rfl (lv_at hl 3 rfl) ?_
  refine lv_iload_n hx hb d_law_law_699 rfl (lv_at hl 0 rfl) ?_
  refine lv_iconst (v := (1 : Int32)) hx hb d_law_law_700 (by decide) ?_
  refine lv_iadd hx hb d_law_law_701 ?_
  refine va_sld hx hb hX hbl (Nat.not_le.mpr hbl) hS (sc1 hL hj) d_law_law_702 ?_
  refine fCallI (fRunV (As := [.int (xs (nI j + 1).toNatClampNeg)]) (rest := [.int r]) (q0 := 0) (ci := 8) hx hb hml hown hts (hK.sub [0] rfl) hN hW.2.2.2.2.2.2 (cm_Mo_may l (E.1, E.2.1) a' hW.2.1 fy H1.size (xs (nI j + 1).toNatClampNeg) e2) q875 q876 q877 q61 q878 hd_m_Mo_may rfl rfl ⟨Nat.le_of_ble_eq_true rfl, Nat.le_of_ble_eq_true rfl⟩ me_0 rfl rfl rfl hl.1 rfl (Nat.le_of_ble_eq_true rfl) d_law_law_703 ⟨Nat.le_of_ble_eq_true rfl, Nat.le_of_ble_eq_true rfl⟩) hS (hW.fm hS) (fun _ H2 locs2 _ hP2 hS2 _ hk2 => ?_)
  have hW2 := hW.m0 hP2 hk2
  refine lv_icmp_eq (tgt := 915) hx hb d_law_law_706 (by decide) (fun _ => ?_) (fun h => absurd rfl h)
  exact next _ _ _ _ _ _ rfl hW2 hC9 hS2
set_option maxHeartbeats 4000000 in
theorem law_23 (hx : p.tables.exec = Jvm.exec) (hb : c.code = code) (hml : c.maxLocals = 4) (hown : s.vm.findClass R_law = some m.cls) (hts : ∀ w ∈ TB, w.before #[Value.ref b] s = true) (hK : va_K E.1 xcl (xtys E) s) (hN : xNw s) (hX : va_X b L xs s s.heap) (hbl : b < s.heap.size) (hL : L ≤ 256) (hj : j + 4 ≤ L) (hW : LW E s.heap.size a mm a' fx fy H) (hC : Cpl fx fy) (hS : va_S (fun q => s.heap.size ≤ q) s.heap H locs) (hl : lv_has ls 4 [(3, .int (nI j)), (2, .ref (a' 0)), (1, .ref (a 0)), (0, .ref b)])
    (next : ∀ (a1 : Nat → Nat) (m1 : Nat) (gx gy : Hp) (H1 : Heap) (locs1 : List Loc), a1 0 = a 0 → LW E s.heap.size a1 m1 a' gx gy H1 → Cpl gx gy → va_S (fun q => s.heap.size ≤ q) s.heap H1 locs1 → W p l e room_1 s m #[Value.ref b] below meth c H1 locs1 48 1028 Q (F0 m 915 ls [])) : W p l e room_1 s m #[Value.ref b] below meth c H locs 48 1028 Q (F0 m 711 ls []) := by
  obtain ⟨r, gx, e1, e2, hC9⟩ := p_suits (xs (nI j + 1).toNatClampNeg) fx fy hC
  refine lv_aload_n hx hb d_law_law_711 rfl (lv_at hl 2 rfl) ?_
  refine lv_aload_n hx hb d_law_law_712 rfl (lv_at hl 3 rfl) ?_
  refine lv_iload_n hx hb d_law_law_713 rfl (lv_at hl 0 rfl) ?_
  refine lv_iconst (v := (1 : Int32)) hx hb d_law_law_714 (by decide) ?_
  refine lv_iadd hx hb d_law_law_715 ?_
  refine va_sld hx hb hX hbl (Nat.not_le.mpr hbl) hS (sc1 hL hj) d_law_law_716 ?_
  refine fCallI (fRunV (As := [.int (xs (nI j + 1).toNatClampNeg)]) (rest := []) (q0 := 0) (ci := 0) hx hb hml hown hts hK hN hW.2.2.2.2.2.1 (cx_Nm_suits l E a hW.1 mm fx H.size (xs (nI j + 1).toNatClampNeg) e1) q597 q598 q599 q49 q600 hd_x_Nm_suits rfl rfl ⟨Nat.le_of_ble_eq_true rfl, Nat.le_of_ble_eq_true rfl⟩ xe_0 rfl rfl rfl hl.1 rfl (Nat.le_of_ble_eq_true rfl) d_law_law_717 ⟨Nat.le_of_ble_eq_true rfl, Nat.le_of_ble_eq_true rfl⟩) hS (hW.fx hS) (fun u H1 locs1 hu hP1 hS1 _ hk => ?_)
  have hW1 := hW.x0 hP1 hk
  clear hW
  have hW := hW1
  have hS := hS1
  refine lv_aload_n hx hb d_law_law_720 rfl (lv_at hl 1 rfl) ?_
  refine lv_aload_n hx hb d_law_law_721 rfl (lv_at hl 3 rfl) ?_
  refine lv_iload_n hx hb d_law_law_722 rfl (lv_at hl 0 rfl) ?_
  refine lv_iconst (v := (1 : Int32)) hx hb d_law_law_723 (by decide) ?_
  refine lv_iadd hx hb d_law_law_724 ?_
  refine va_sld hx hb hX hbl (Nat.not_le.mpr hbl) hS (sc1 hL hj) d_law_law_725 ?_
  refine fCallI (fRunV (As := [.int (xs (nI j + 1).toNatClampNeg)]) (rest := [.int r]) (q0 := 0) (ci := 8) hx hb hml hown hts (hK.sub [0] rfl) hN hW.2.2.2.2.2.2 (cm_Mo_suits l (E.1, E.2.1) a' hW.2.1 fy H1.size (xs (nI j + 1).toNatClampNeg) e2) q879 q880 q881 q61 q882 hd_m_Mo_suits rfl rfl ⟨Nat.le_of_ble_eq_true rfl, Nat.le_of_ble_eq_true rfl⟩ me_0 rfl rfl rfl hl.1 rfl (Nat.le_of_ble_eq_true rfl) d_law_law_726 ⟨Nat.le_of_ble_eq_true rfl, Nat.le_of_ble_eq_true rfl⟩) hS (hW.fm hS) (fun _ H2 locs2 _ hP2 hS2 _ hk2 => ?_)
  have hW2 := hW.m0 hP2 hk2
  refine lv_icmp_eq (tgt := 915) hx hb d_law_law_729 (by decide) (fun _ => ?_) (fun h => absurd rfl h)
  exact next _ _ _ _ _ _ rfl hW2 hC9 hS2
end LAW
