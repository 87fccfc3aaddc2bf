/-! the law, case by case -/
section LAW
variable {p : Program} {l : Launch} {e : Env} {s : State} {m : MethodId} {below : List Frame} {meth : Method} {c : Code} {H : Heap} {locs : List Loc} {Q : State → Prop} {ls : Array Slot} {b L j : Nat} {xs : Nat → Int32} {E : xE} {a : Nat → Nat} {mm : Nat} {a' : Nat → Nat} {fx fy : Hp}
set_option maxHeartbeats 4000000 in
theorem law_24 (hx : p.tables.exec = Jvm.exec) (hb : c.code = code) (hml : c.maxLocals = 4) (hown : s.vm.findClass R_law = some m.cls) (hts : ∀ w ∈ TB, w.before #[Value.ref b] s = true) (hK : va_K E.1 xcl (xtys E) s) (hN : xNw s) (hX : va_X b L xs s s.heap) (hbl : b < s.heap.size) (hL : L ≤ 256) (hj : j + 4 ≤ L) (hW : LW E s.heap.size a mm a' fx fy H) (hC : Cpl fx fy) (hS : va_S (fun q => s.heap.size ≤ q) s.heap H locs) (hl : lv_has ls 4 [(3, .int (nI j)), (2, .ref (a' 0)), (1, .ref (a 0)), (0, .ref b)])
    (next : ∀ (a1 : Nat → Nat) (m1 : Nat) (gx gy : Hp) (H1 : Heap) (locs1 : List Loc), a1 0 = a 0 → LW E s.heap.size a1 m1 a' gx gy H1 → Cpl gx gy → va_S (fun q => s.heap.size ≤ q) s.heap H1 locs1 → W p l e room_1 s m #[Value.ref b] below meth c H1 locs1 48 1028 Q (F0 m 915 ls [])) : W p l e room_1 s m #[Value.ref b] below meth c H locs 48 1028 Q (F0 m 734 ls []) := by
  obtain ⟨r, gx, e1, e2, hC9⟩ := p_against (xs (nI j + 1).toNatClampNeg) (xs (nI j + 2).toNatClampNeg) fx fy hC
  refine lv_aload_n hx hb d_law_law_734 rfl (lv_at hl 2 rfl) ?_
  refine lv_aload_n hx hb d_law_law_735 rfl (lv_at hl 3 rfl) ?_
  refine lv_iload_n hx hb d_law_law_736 rfl (lv_at hl 0 rfl) ?_
  refine lv_iconst (v := (1 : Int32)) hx hb d_law_law_737 (by decide) ?_
  refine lv_iadd hx hb d_law_law_738 ?_
  refine va_sld hx hb hX hbl (Nat.not_le.mpr hbl) hS (sc1 hL hj) d_law_law_739 ?_
  refine lv_aload_n hx hb d_law_law_740 rfl (lv_at hl 3 rfl) ?_
  refine lv_iload_n hx hb d_law_law_741 rfl (lv_at hl 0 rfl) ?_
  refine lv_iconst (v := (2 : Int32)) hx hb d_law_law_742 (by decide) ?_
  refine lv_iadd hx hb d_law_law_743 ?_
  refine va_sld hx hb hX hbl (Nat.not_le.mpr hbl) hS (sc2 hL hj) d_law_law_744 ?_
  refine fCallI (fRunV (As := [.int (xs (nI j + 1).toNatClampNeg), .int (xs (nI j + 2).toNatClampNeg)]) (rest := []) (q0 := 0) (ci := 0) hx hb hml hown hts hK hN hW.2.2.2.2.2.1 (cx_Nm_against l E a hW.1 mm fx H.size (xs (nI j + 1).toNatClampNeg) (xs (nI j + 2).toNatClampNeg) e1) q601 q602 q603 q49 q604 hd_x_Nm_against rfl rfl ⟨Nat.le_of_ble_eq_true rfl, Nat.le_of_ble_eq_true rfl⟩ xe_0 rfl rfl rfl hl.1 rfl (Nat.le_of_ble_eq_true rfl) d_law_law_745 ⟨Nat.le_of_ble_eq_true rfl, Nat.le_of_ble_eq_true rfl⟩) hS (hW.fx hS) (fun u H1 locs1 hu hP1 hS1 _ hk => ?_)
  have hW1 := hW.x0 hP1 hk
  clear hW
  have hW := hW1
  have hS := hS1
  refine lv_aload_n hx hb d_law_law_748 rfl (lv_at hl 1 rfl) ?_
  refine lv_aload_n hx hb d_law_law_749 rfl (lv_at hl 3 rfl) ?_
  refine lv_iload_n hx hb d_law_law_750 rfl (lv_at hl 0 rfl) ?_
  refine lv_iconst (v := (1 : Int32)) hx hb d_law_law_751 (by decide) ?_
  refine lv_iadd hx hb d_law_law_752 ?_
  refine va_sld hx hb hX hbl (Nat.not_le.mpr hbl) hS (sc1 hL hj) d_law_law_753 ?_
  refine lv_aload_n hx hb d_law_law_754 rfl (lv_at hl 3 rfl) ?_
  refine lv_iload_n hx hb d_law_law_755 rfl (lv_at hl 0 rfl) ?_
  refine lv_iconst (v := (2 : Int32)) hx hb d_law_law_756 (by decide) ?_
  refine lv_iadd hx hb d_law_law_757 ?_
  refine va_sld hx hb hX hbl (Nat.not_le.mpr hbl) hS (sc2 hL hj) d_law_law_758 ?_
  refine fCallI (fRunV (As := [.int (xs (nI j + 1).toNatClampNeg), .int (xs (nI j + 2).toNatClampNeg)]) (rest := [.int r]) (q0 := 0) (ci := 8) hx hb hml hown hts (hK.sub [0] rfl) hN hW.2.2.2.2.2.2 (cm_Mo_against l (E.1, E.2.1) a' hW.2.1 fy H1.size (xs (nI j + 1).toNatClampNeg) (xs (nI j + 2).toNatClampNeg) e2) q883 q884 q885 q61 q886 hd_m_Mo_against rfl rfl ⟨Nat.le_of_ble_eq_true rfl, Nat.le_of_ble_eq_true rfl⟩ me_0 rfl rfl rfl hl.1 rfl (Nat.le_of_ble_eq_true rfl) d_law_law_759 ⟨Nat.le_of_ble_eq_true rfl, Nat.le_of_ble_eq_true rfl⟩) hS (hW.fm hS) (fun _ H2 locs2 _ hP2 hS2 _ hk2 => ?_)
  have hW2 := hW.m0 hP2 hk2
  refine lv_icmp_eq (tgt := 915) hx hb d_law_law_762 (by decide) (fun _ => ?_) (fun h => absurd rfl h)
  exact next _ _ _ _ _ _ rfl hW2 hC9 hS2
set_option maxHeartbeats 4000000 in
theorem law_25 (hx : p.tables.exec = Jvm.exec) (hb : c.code = code) (hml : c.maxLocals = 4) (hown : s.vm.findClass R_law = some m.cls) (hts : ∀ w ∈ TB, w.before #[Value.ref b] s = true) (hK : va_K E.1 xcl (xtys E) s) (hN : xNw s) (hX : va_X b L xs s s.heap) (hbl : b < s.heap.size) (hL : L ≤ 256) (hj : j + 4 ≤ L) (hW : LW E s.heap.size a mm a' fx fy H) (hC : Cpl fx fy) (hS : va_S (fun q => s.heap.size ≤ q) s.heap H locs) (hl : lv_has ls 4 [(3, .int (nI j)), (2, .ref (a' 0)), (1, .ref (a 0)), (0, .ref b)])
    (next : ∀ (a1 : Nat → Nat) (m1 : Nat) (gx gy : Hp) (H1 : Heap) (locs1 : List Loc), a1 0 = a 0 → LW E s.heap.size a1 m1 a' gx gy H1 → Cpl gx gy → va_S (fun q => s.heap.size ≤ q) s.heap H1 locs1 → W p l e room_1 s m #[Value.ref b] below meth c H1 locs1 48 1028 Q (F0 m 915 ls [])) : W p l e room_1 s m #[Value.ref b] below meth c H locs 48 1028 Q (F0 m 767 ls []) := by
  obtain ⟨r, gx, e1, e2, hC9⟩ := p_ask (xs (nI j + 1).toNatClampNeg) fx fy hC
  refine lv_aload_n hx hb d_law_law_767 rfl (lv_at hl 2 rfl) ?_
  refine lv_aload_n hx hb d_law_law_768 rfl (lv_at hl 3 rfl) ?_
  refine lv_iload_n hx hb d_law_law_769 rfl (lv_at hl 0 rfl) ?_
  refine lv_iconst (v := (1 : Int32)) hx hb d_law_law_770 (by decide) ?_
  refine lv_iadd hx hb d_law_law_771 ?_
  refine va_sld hx hb hX hbl (Nat.not_le.mpr hbl) hS (sc1 hL hj) d_law_law_772 ?_
  refine fCallI (fRunV (As := [.int (xs (nI j + 1).toNatClampNeg)]) (rest := []) (q0 := 0) (ci := 0) hx hb hml hown hts hK hN hW.2.2.2.2.2.1 (cx_Nm_ask l E a hW.1 mm fx H.size (xs (nI j + 1).toNatClampNeg) e1) q609 q610 q611 q49 q612 hd_x_Nm_ask rfl rfl ⟨Nat.le_of_ble_eq_true rfl, Nat.le_of_ble_eq_true rfl⟩ xe_0 rfl rfl rfl hl.1 rfl (Nat.le_of_ble_eq_true rfl) d_law_law_773 ⟨Nat.le_of_ble_eq_true rfl, Nat.le_of_ble_eq_true rfl⟩) hS (hW.fx hS) (fun u H1 locs1 hu hP1 hS1 _ hk => ?_)
  have hW1 := hW.x0 hP1 hk
  clear hW
  have hW := hW1
  have hS := hS1
  refine lv_aload_n hx hb d_law_law_776 rfl (lv_at hl 1 rfl) ?_
  refine lv_aload_n hx hb d_law_law_777 rfl (lv_at hl 3 rfl) ?_
  refine lv_iload_n hx hb d_law_law_778 rfl (lv_at hl 0 rfl) ?_
  refine lv_iconst (v := (1 : Int32)) hx hb d_law_law_779 (by decide) ?_
  refine lv_iadd hx hb d_law_law_780 ?_
  refine va_sld hx hb hX hbl (Nat.not_le.mpr hbl) hS (sc1 hL hj) d_law_law_781 ?_
  refine fCallI (fRunV (As := [.int (xs (nI j + 1).toNatClampNeg)]) (rest := [.int r]) (q0 := 0) (ci := 8) hx hb hml hown hts (hK.sub [0] rfl) hN hW.2.2.2.2.2.2 (cm_Mo_ask l (E.1, E.2.1) a' hW.2.1 fy H1.size (xs (nI j + 1).toNatClampNeg) e2) q887 q888 q889 q61 q890 hd_m_Mo_ask rfl rfl ⟨Nat.le_of_ble_eq_true rfl, Nat.le_of_ble_eq_true rfl⟩ me_0 rfl rfl rfl hl.1 rfl (Nat.le_of_ble_eq_true rfl) d_law_law_782 ⟨Nat.le_of_ble_eq_true rfl, Nat.le_of_ble_eq_true rfl⟩) hS (hW.fm hS) (fun _ H2 locs2 _ hP2 hS2 _ hk2 => ?_)
  have hW2 := hW.m0 hP2 hk2
  refine lv_icmp_eq (tgt := 915) hx hb d_law_law_785 (by decide) (fun _ => ?_) (fun h => absurd rfl h)
  exact next _ _ _ _ _ _ rfl hW2 hC9 hS2
set_option maxHeartbeats 4000000 in
theorem law_26 (hx : p.tables.exec = Jvm.exec) (hb : c.code = code) (hml : c.maxLocals = 4) (hown : s.vm.findClass R_law = some m.cls) (hts : ∀ w ∈ TB, w.before #[Value.ref b] s = true) (hK : va_K E.1 xcl (xtys E) s) (hN : xNw s) (hX : va_X b L xs s s.heap) (hbl : b < s.heap.size) (hL : L ≤ 256) (hj : j + 4 ≤ L) (hW : LW E s.heap.size a mm a' fx fy H) (hC : Cpl fx fy) (hS : va_S (fun q => s.heap.size ≤ q) s.heap H locs) (hl : lv_has ls 4 [(3, .int (nI j)), (2, .ref (a' 0)), (1, .ref (a 0)), (0, .ref b)])
    (next : ∀ (a1 : Nat → Nat) (m1 : Nat) (gx gy : Hp) (H1 : Heap) (locs1 : List Loc), a1 0 = a 0 → LW E s.heap.size a1 m1 a' gx gy H1 → Cpl gx gy → va_S (fun q => s.heap.size ≤ q) s.heap H1 locs1 → W p l e room_1 s m #[Value.ref b] below meth c H1 locs1 48 1028 Q (F0 m 915 ls [])) : W p l e room_1 s m #[Value.ref b] below meth c H locs 48 1028 Q (F0 m 790 ls []) := by
  obtain ⟨r, gx, e1, e2, hC9⟩ := p_wheel (xs (nI j + 1).toNatClampNeg) (xs (nI j + 2).toNatClampNeg) fx fy hC
  refine lv_aload_n hx hb d_law_law_790 rfl (lv_at hl 2 rfl) ?_
  refine lv_aload_n hx hb d_law_law_791 rfl (lv_at hl 3 rfl) ?_
  refine lv_iload_n hx hb d_law_law_792 rfl (lv_at hl 0 rfl) ?_
  refine lv_iconst (v := (1 : Int32)) hx hb d_law_law_793 (by decide) ?_
  refine lv_iadd hx hb d_law_law_794 ?_
  refine va_sld hx hb hX hbl (Nat.not_le.mpr hbl) hS (sc1 hL hj) d_law_law_795 ?_
  refine lv_aload_n hx hb d_law_law_796 rfl (lv_at hl 3 rfl) ?_
  refine lv_iload_n hx hb d_law_law_797 rfl (lv_at hl 0 rfl) ?_
  refine lv_iconst (v := (2 : Int32)) hx hb d_law_law_798 (by decide) ?_
  refine lv_iadd hx hb d_law_law_799 ?_
  refine va_sld hx hb hX hbl (Nat.not_le.mpr hbl) hS (sc2 hL hj) d_law_law_800 ?_
  refine fCallI (fRunV (As := [.int (xs (nI j + 1).toNatClampNeg), .int (xs (nI j + 2).toNatClampNeg)]) (rest := []) (q0 := 0) (ci := 0) hx hb hml hown hts hK hN hW.2.2.2.2.2.1 (cx_Nm_wheel l E a hW.1 mm fx H.size (xs (nI j + 1).toNatClampNeg) (xs (nI j + 2).toNatClampNeg) e1) q613 q614 q615 q49 q616 hd_x_Nm_wheel rfl rfl ⟨Nat.le_of_ble_eq_true rfl, Nat.le_of_ble_eq_true rfl⟩ xe_0 rfl rfl rfl hl.1 rfl (Nat.le_of_ble_eq_true rfl) d_law_law_801 ⟨Nat.le_of_ble_eq_true rfl, Nat.le_of_ble_eq_true rfl⟩) hS (hW.fx hS) (fun u H1 locs1 hu hP1 hS1 _ hk => ?_)
  have hW1 := hW.x0 hP1 hk
  clear hW
  have hW := hW1
  have hS := hS1
  refine lv_aload_n hx hb d_law_law_804 rfl (lv_at hl 1 rfl) ?_
  refine lv_aload_n hx hb d_law_law_805 rfl (lv_at hl 3 rfl) ?_
  refine lv_iload_n hx hb d_law_law_806 rfl (lv_at hl 0 rfl) ?_
  refine lv_iconst (v := (1 : Int32)) hx hb d_law_law_807 (by decide) ?_
  refine lv_iadd hx hb d_law_law_808 ?_
  refine va_sld hx hb hX hbl (Nat.not_le.mpr hbl) hS (sc1 hL hj) d_law_law_809 ?_
  refine lv_aload_n hx hb d_law_law_810 rfl (lv_at hl 3 rfl) ?_
  refine lv_iload_n hx hb d_law_law_811 rfl (lv_at hl 0 rfl) ?_
  refine lv_iconst (v := (2 : Int32)) hx hb d_law_law_812 (by decide) ?_
  refine lv_iadd hx hb d_law_law_813 ?_
  refine va_sld hx hb hX hbl (Nat.not_le.mpr hbl) hS (sc2 hL hj) d_law_law_814 ?_
  refine fCallI (fRunV (As := [.int (xs (nI j + 1).toNatClampNeg), .int (xs (nI j + 2).toNatClampNeg)]) (rest := [.int r]) (q0 := 0) (ci := 8) hx hb hml hown hts (hK.sub [0] rfl) hN hW.2.2.2.2.2.2 (cm_Mo_wheel l (E.1, E.2.1) a' hW.2.1 fy H1.size (xs (nI j + 1).toNatClampNeg) (xs (nI j + 2).toNatClampNeg) e2) q891 q892 q893 q61 q894 hd_m_Mo_wheel rfl rfl ⟨Nat.le_of_ble_eq_true rfl, Nat.le_of_ble_eq_true rfl⟩ me_0 rfl rfl rfl hl.1 rfl (Nat.le_of_ble_eq_true rfl) d_law_law_815 ⟨Nat.le_of_ble_eq_true rfl, Nat.le_of_ble_eq_true rfl⟩) hS (hW.fm hS) (fun _ H2 locs2 _ hP2 hS2 _ hk2 => ?_)
  have hW2 := hW.m0 hP2 hk2
  refine lv_icmp_eq (tgt := 915) hx hb d_law_law_818 (by decide) (fun _ => ?_) (fun h => absurd rfl h)
  exact next _ _ _ _ _ _ rfl hW2 hC9 hS2
set_option maxHeartbeats 4000000 in
theorem law_27 (hx : p.tables.exec = Jvm.exec) (hb : c.code = code) (hml : c.maxLocals = 4) (hown : s.vm.findClass R_law = some m.cls) (hts : ∀ w ∈ TB, w.before #[Value.ref b] s = true) (hK : va_K E.1 xcl (xtys E) s) (hN : xNw s) (hX : va_X b L xs s s.heap) (hbl : b < s.heap.size) (hL : L ≤ 256) (hj : j + 4 ≤ L) (hW : LW E s.heap.size a mm a' fx fy H) (hC : Cpl fx fy) (hS : va_S (fun q => s.heap.size ≤ q) s.heap H locs) (hl : lv_has ls 4 [(3, .int (nI j)), (2, .ref (a' 0)), (1, .ref (a 0)), (0, .ref b)])
    (next : ∀ (a1 : Nat → Nat) (m1 : Nat) (gx gy : Hp) (H1 : Heap) (locs1 : List Loc), a1 0 = a 0 → LW E s.heap.size a1 m1 a' gx gy H1 → Cpl gx gy → va_S (fun q => s.heap.size ≤ q) s.heap H1 locs1 → W p l e room_1 s m #[Value.ref b] below meth c H1 locs1 48 1028 Q (F0 m 915 ls [])) : W p l e room_1 s m #[Value.ref b] below meth c H locs 48 1028 Q (F0 m 823 ls []) := by
  obtain ⟨r, gx, gy, e1, e2, hC9⟩ := p_evening (xs (nI j + 1).toNatClampNeg) (xs (nI j + 2).toNatClampNeg) (xs (nI j + 3).toNatClampNeg) fx fy hC
  refine lv_aload_n hx hb d_law_law_823 rfl (lv_at hl 2 rfl) ?_
  refine lv_aload_n hx hb d_law_law_824 rfl (lv_at hl 3 rfl) ?_
  refine lv_iload_n hx hb d_law_law_825 rfl (lv_at hl 0 rfl) ?_
  refine lv_iconst (v := (1 : Int32)) hx hb d_law_law_826 (by decide) ?_
  refine lv_iadd hx hb d_law_law_827 ?_
  refine va_sld hx hb hX hbl (Nat.not_le.mpr hbl) hS (sc1 hL hj) d_law_law_828 ?_
  refine lv_aload_n hx hb d_law_law_829 rfl (lv_at hl 3 rfl) ?_
  refine lv_iload_n hx hb d_law_law_830 rfl (lv_at hl 0 rfl) ?_
  refine lv_iconst (v := (2 : Int32)) hx hb d_law_law_831 (by decide) ?_
  refine lv_iadd hx hb d_law_law_832 ?_
  refine va_sld hx hb hX hbl (Nat.not_le.mpr hbl) hS (sc2 hL hj) d_law_law_833 ?_
  refine lv_aload_n hx hb d_law_law_834 rfl (lv_at hl 3 rfl) ?_
  refine lv_iload_n hx hb d_law_law_835 rfl (lv_at hl 0 rfl) ?_
  refine lv_iconst (v := (3 : Int32)) hx hb d_law_law_836 (by decide) ?_
  refine lv_iadd hx hb d_law_law_837 ?_
  refine va_sld hx hb hX hbl (Nat.not_le.mpr hbl) hS (sc3 hL hj) d_law_law_838 ?_
  refine fCallI (fRunV (As := [.int (xs (nI j + 1).toNatClampNeg), .int (xs (nI j + 2).toNatClampNeg), .int (xs (nI j + 3).toNatClampNeg)]) (rest := []) (q0 := 0) (ci := 0) hx hb hml hown hts hK hN hW.2.2.2.2.2.1 (cx_Nm_evening l E a hW.1 mm fx H.size (xs (nI j + 1).toNatClampNeg) (xs (nI j + 2).toNatClampNeg) (xs (nI j + 3).toNatClampNeg) e1) q628 q629 q630 q49 q631 hd_x_Nm_evening rfl rfl ⟨Nat.le_of_ble_eq_true rfl, Nat.le_of_ble_eq_true rfl⟩ xe_0 rfl rfl rfl hl.1 rfl (Nat.le_of_ble_eq_true rfl) d_law_law_839 ⟨Nat.le_of_ble_eq_true rfl, Nat.le_of_ble_eq_true rfl⟩) hS (hW.fx hS) (fun u H1 locs1 hu hP1 hS1 _ hk => ?_)
  have hW1 := hW.x0 hP1 hk
  clear hW
  have hW := hW1
  have hS := hS1
  refine lv_aload_n hx hb d_law_law_842 rfl (lv_at hl 1 rfl) ?_
  refine lv_aload_n hx hb d_law_law_843 rfl (lv_at hl 3 rfl) ?_
  refine lv_iload_n hx hb d_law_law_844 rfl (lv_at hl 0 rfl) ?_
  refine lv_iconst (v := (1 : Int32)) hx hb d_law_law_845 (by decide) ?_
  refine lv_iadd hx hb d_law_law_846 ?_
  refine va_sld hx hb hX hbl (Nat.not_le.mpr hbl) hS (sc1 hL hj) d_law_law_847 ?_
  refine lv_aload_n hx hb d_law_law_848 rfl (lv_at hl 3 rfl) ?_
  refine lv_iload_n hx hb d_law_law_849 rfl (lv_at hl 0 rfl) ?_
  refine lv_iconst (v := (2 : Int32)) hx hb d_law_law_850 (by decide) ?_
  refine lv_iadd hx hb d_law_law_851 ?_
  refine va_sld hx hb hX hbl (Nat.not_le.mpr hbl) hS (sc2 hL hj) d_law_law_852 ?_
  refine lv_aload_n hx hb d_law_law_853 rfl (lv_at hl 3 rfl) ?_
  refine lv_iload_n hx hb d_law_law_854 rfl (lv_at hl 0 rfl) ?_
  refine lv_iconst (v := (3 : Int32)) hx hb d_law_law_855 (by decide) ?_
  refine lv_iadd hx hb d_law_law_856 ?_
  refine va_sld hx hb hX hbl (Nat.not_le.mpr hbl) hS (sc3 hL hj) d_law_law_857 ?_
  refine fCallI (fRunV (As := [.int (xs (nI j + 1).toNatClampNeg), .int (xs (nI j + 2).toNatClampNeg), .int (xs (nI j + 3).toNatClampNeg)]) (rest := [.int r]) (q0 := 0) (ci := 8) hx hb hml hown hts (hK.sub [0] rfl) hN hW.2.2.2.2.2.2 (cm_Mo_evening l (E.1, E.2.1) a' hW.2.1 fy H1.size (xs (nI j + 1).toNatClampNeg) (xs (nI j + 2).toNatClampNeg) (xs (nI j + 3).toNatClampNeg) e2) q896 q897 q898 q61 q899 hd_m_Mo_evening rfl rfl ⟨Nat.le_of_ble_eq_true rfl, Nat.le_of_ble_eq_true rfl⟩ me_0 rfl rfl rfl hl.1 rfl (Nat.le_of_ble_eq_true rfl) d_law_law_858 ⟨Nat.le_of_ble_eq_true rfl, Nat.le_of_ble_eq_true rfl⟩) hS (hW.fm hS) (fun _ H2 locs2 _ hP2 hS2 _ hk2 => ?_)
  have hW2 := hW.m0 hP2 hk2
  refine lv_icmp_eq (tgt := 915) hx hb d_law_law_861 (by decide) (fun _ => ?_) (fun h => absurd rfl h)
  exact next _ _ _ _ _ _ rfl hW2 hC9 hS2
set_option maxHeartbeats 4000000 in
theorem law_28 (hx : p.tables.exec = Jvm.exec) (hb : c.code = code) (hml : c.maxLocals = 4) (hown : s.vm.findClass R_law = some m.cls) (hts : ∀ w ∈ TB, w.before #[Value.ref b] s = true) (hK : va_K E.1 xcl (xtys E) s) (hN : xNw s) (hX : va_X b L xs s s.heap) (hbl : b < s.heap.size) (hL : L ≤ 256) (hj : j + 4 ≤ L) (hW : LW E s.heap.size a mm a' fx fy H) (hC : Cpl fx fy) (hS : va_S (fun q => s.heap.size ≤ q) s.heap H locs) (hl : lv_has ls 4 [(3, .int (nI j)), (2, .ref (a' 0)), (1, .ref (a 0)), (0, .ref b)])
    (next : ∀ (a1 : Nat → Nat) (m1 : Nat) (gx gy : Hp) (H1 : Heap) (locs1 : List Loc), a1 0 = a 0 → LW E s.heap.size a1 m1 a' gx gy H1 → Cpl gx gy → va_S (fun q => s.heap.size ≤ q) s.heap H1 locs1 → W p l e room_1 s m #[Value.ref b] below meth c H1 locs1 48 1028 Q (F0 m 915 ls [])) : W p l e room_1 s m #[Value.ref b] below meth c H locs 48 1028 Q (F0 m 866 ls []) := by
  obtain ⟨r, gx, gy, e1, e2, hC9⟩ := p_keep fx fy hC
  refine lv_aload_n hx hb d_law_law_866 rfl (lv_at hl 2 rfl) ?_
  refine fCallI (fRunV (As := []) (rest := []) (q0 := 0) (ci := 0) hx hb hml hown hts hK hN hW.2.2.2.2.2.1 (cx_Nm_keep l E a hW.1 mm fx H.size e1) q644 q645 q646 q49 q647 hd_x_Nm_keep rfl rfl ⟨Nat.le_of_ble_eq_true rfl, Nat.le_of_ble_eq_true rfl⟩ xe_0 rfl rfl rfl hl.1 rfl (Nat.le_of_ble_eq_true rfl) d_law_law_867 ⟨Nat.le_of_ble_eq_true rfl, Nat.le_of_ble_eq_true rfl⟩) hS (hW.fx hS) (fun u H1 locs1 hu hP1 hS1 _ hk => ?_)
  have hW1 := hW.x0 hP1 hk
  clear hW
  have hW := hW1
  have hS := hS1
  refine lv_aload_n hx hb d_law_law_870 rfl (lv_at hl 1 rfl) ?_
  refine fCallI (fRunV (As := []) (rest := [.int r]) (q0 := 0) (ci := 8) hx hb hml hown hts (hK.sub [0] rfl) hN hW.2.2.2.2.2.2 (cm_Mo_keep l (E.1, E.2.1) a' hW.2.1 fy H1.size e2) q905 q906 q907 q61 q908 hd_m_Mo_keep rfl rfl ⟨Nat.le_of_ble_eq_true rfl, Nat.le_of_ble_eq_true rfl⟩ me_0 rfl rfl rfl hl.1 rfl (Nat.le_of_ble_eq_true rfl) d_law_law_871 ⟨Nat.le_of_ble_eq_true rfl, Nat.le_of_ble_eq_true rfl⟩) hS (hW.fm hS) (fun _ H2 locs2 _ hP2 hS2 _ hk2 => ?_)
  have hW2 := hW.m0 hP2 hk2
  refine lv_icmp_eq (tgt := 915) hx hb d_law_law_874 (by decide) (fun _ => ?_) (fun h => absurd rfl h)
  exact next _ _ _ _ _ _ rfl hW2 hC9 hS2
set_option maxHeartbeats 4000000 in
theorem law_29 (hx : p.tables.exec = Jvm.exec) (hb : c.code = code) (hml : c.maxLocals = 4) (hown : s.vm.findClass R_law = some m.cls) (hts : ∀ w ∈ TB, w.before #[Value.ref b] s = true) (hK : va_K E.1 xcl (xtys E) s) (hN : xNw s) (hX : va_X b L xs s s.heap) (hbl : b < s.heap.size) (hL : L ≤ 256) (hj : j + 4 ≤ L) (hW : LW E s.heap.size a mm a' fx fy H) (hC : Cpl fx fy) (hS : va_S (fun q => s.heap.size ≤ q) s.heap H locs) (hl : lv_has ls 4 [(3, .int (nI j)), (2, .ref (a' 0)), (1, .ref (a 0)), (0, .ref b)])
    (next : ∀ (a1 : Nat → Nat) (m1 : Nat) (gx gy : Hp) (H1 : Heap) (locs1 : List Loc), a1 0 = a 0 → LW E s.heap.size a1 m1 a' gx gy H1 → Cpl gx gy → va_S (fun q => s.heap.size ≤ q) s.heap H1 locs1 → W p l e room_1 s m #[Value.ref b] below meth c H1 locs1 48 1028 Q (F0 m 915 ls [])) : W p l e room_1 s m #[Value.ref b] below meth c H locs 48 1028 Q (F0 m 879 ls []) := by
  obtain ⟨r, gx, gy, e1, e2, hC9⟩ := p_back fx fy hC
  refine lv_aload_n hx hb d_law_law_879 rfl (lv_at hl 2 rfl) ?_
  refine fCallI (fRunV (As := []) (rest := []) (q0 := 0) (ci := 0) hx hb hml hown hts hK hN hW.2.2.2.2.2.1 (cx_Nm_back l E a hW.1 mm fx H.size e1) q648 q649 q650 q49 q651 hd_x_Nm_back rfl rfl ⟨Nat.le_of_ble_eq_true rfl, Nat.le_of_ble_eq_true rfl⟩ xe_0 rfl rfl rfl hl.1 rfl (Nat.le_of_ble_eq_true rfl) d_law_law_880 ⟨Nat.le_of_ble_eq_true rfl, Nat.le_of_ble_eq_true rfl⟩) hS (hW.fx hS) (fun u H1 locs1 hu hP1 hS1 _ hk => ?_)
  have hW1 := hW.x0 hP1 hk
  clear hW
  have hW := hW1
  have hS := hS1
  refine lv_aload_n hx hb d_law_law_883 rfl (lv_at hl 1 rfl) ?_
  refine fCallI (fRunV (As := []) (rest := [.int r]) (q0 := 0) (ci := 8) hx hb hml hown hts (hK.sub [0] rfl) hN hW.2.2.2.2.2.2 (cm_Mo_back l (E.1, E.2.1) a' hW.2.1 fy H1.size e2) q909 q910 q911 q61 q912 hd_m_Mo_back rfl rfl ⟨Nat.le_of_ble_eq_true rfl, Nat.le_of_ble_eq_true rfl⟩ me_0 rfl rfl rfl hl.1 rfl (Nat.le_of_ble_eq_true rfl) d_law_law_884 ⟨Nat.le_of_ble_eq_true rfl, Nat.le_of_ble_eq_true rfl⟩) hS (hW.fm hS) (fun _ H2 locs2 _ hP2 hS2 _ hk2 => ?_)
  have hW2 := hW.m0 hP2 hk2
  refine lv_icmp_eq (tgt := 915) hx hb d_law_law_887 (by decide) (fun _ => ?_) (fun h => absurd rfl h)
  exact next _ _ _ _ _ _ rfl hW2 hC9 hS2
set_option maxHeartbeats 4000000 in
theorem law_30 (hx : p.tables.exec = Jvm.exec) (hb : c.code = code) (hml : c.maxLocals = 4) (hown : s.vm.findClass R_law = some m.cls) (hts : ∀ w ∈ TB, w.before #[Value.ref b] s = true) (hK : va_K E.1 xcl (xtys E) s) (hN : xNw s) (hX : va_X b L xs s s.heap) (hbl : b < s.heap.size) (hL : L ≤ 256) (hj : j + 4 ≤ L) (hW : LW E s.heap.size a mm a' fx fy H) (hC : Cpl fx fy) (hS : va_S (fun q => s.heap.size ≤ q) s.heap H locs) (hl : lv_has ls 4 [(3, .int (nI j)), (2, .ref (a' 0)), (1, .ref (a 0)), (0, .ref b)])
    (next : ∀ (a1 : Nat → Nat) (m1 : Nat) (gx gy : Hp) (H1 : Heap) (locs1 : List Loc), a1 0 = a 0 → LW E s.heap.size a1 m1 a' gx gy H1 → Cpl gx gy → va_S (fun q => s.heap.size ≤ q) s.heap H1 locs1 → W p l e room_1 s m #[Value.ref b] below meth c H1 locs1 48 1028 Q (F0 m 915 ls [])) : W p l e room_1 s m #[Value.ref b] below meth c H locs 48 1028 Q (F0 m 892 ls []) := by
  obtain ⟨r, e1, e2⟩ := p_count (xs (nI j + 1).toNatClampNeg) fx fy hC
  refine lv_aload_n hx hb d_law_law_892 rfl (lv_at hl 2 rfl) ?_
  refine lv_aload_n hx hb d_law_law_893 rfl (lv_at hl 3 rfl) ?_
  refine lv_iload_n hx hb d_law_law_894 rfl (lv_at hl 0 rfl) ?_
  refine lv_iconst (v := (1 : Int32)) hx hb d_law_law_895 (by decide) ?_
  refine lv_iadd hx hb d_law_law_896 ?_
  refine va_sld hx hb hX hbl (Nat.not_le.mpr hbl) hS (sc1 hL hj) d_law_law_897 ?_
  refine fCallI (fRunV (As := [.int (xs (nI j + 1).toNatClampNeg)]) (rest := []) (q0 := 0) (ci := 0) hx hb hml hown hts hK hN hW.2.2.2.2.2.1 (cx_Nm_count l E a hW.1 mm fx H.size (xs (nI j + 1).toNatClampNeg) e1) q652 q653 q654 q49 q655 hd_x_Nm_count rfl rfl ⟨Nat.le_of_ble_eq_true rfl, Nat.le_of_ble_eq_true rfl⟩ xe_0 rfl rfl rfl hl.1 rfl (Nat.le_of_ble_eq_true rfl) d_law_law_898 ⟨Nat.le_of_ble_eq_true rfl, Nat.le_of_ble_eq_true rfl⟩) hS (hW.fx hS) (fun u H1 locs1 hu hP1 hS1 _ hk => ?_)
  have hW1 := hW.x0 hP1 hk
  clear hW
  have hW := hW1
  have hS := hS1
  refine lv_aload_n hx hb d_law_law_901 rfl (lv_at hl 1 rfl) ?_
  refine lv_aload_n hx hb d_law_law_902 rfl (lv_at hl 3 rfl) ?_
  refine lv_iload_n hx hb d_law_law_903 rfl (lv_at hl 0 rfl) ?_
  refine lv_iconst (v := (1 : Int32)) hx hb d_law_law_904 (by decide) ?_
  refine lv_iadd hx hb d_law_law_905 ?_
  refine va_sld hx hb hX hbl (Nat.not_le.mpr hbl) hS (sc1 hL hj) d_law_law_906 ?_
  refine fCallI (fRunV (As := [.int (xs (nI j + 1).toNatClampNeg)]) (rest := [.int r]) (q0 := 0) (ci := 8) hx hb hml hown hts (hK.sub [0] rfl) hN hW.2.2.2.2.2.2 (cm_Mo_count l (E.1, E.2.1) a' hW.2.1 fy H1.size (xs (nI j + 1).toNatClampNeg) e2) q913 q914 q915 q61 q916 hd_m_Mo_count rfl rfl ⟨Nat.le_of_ble_eq_true rfl, Nat.le_of_ble_eq_true rfl⟩ me_0 rfl rfl rfl hl.1 rfl (Nat.le_of_ble_eq_true rfl) d_law_law_907 ⟨Nat.le_of_ble_eq_true rfl, Nat.le_of_ble_eq_true rfl⟩) hS (hW.fm hS) (fun _ H2 locs2 _ hP2 hS2 _ hk2 => ?_)
  have hW2 := hW.m0 hP2 hk2
  refine lv_icmp_eq (tgt := 915) hx hb d_law_law_910 (by decide) (fun _ => ?_) (fun h => absurd rfl h)
  exact next _ _ _ _ _ _ rfl hW2 hC hS2
end LAW
