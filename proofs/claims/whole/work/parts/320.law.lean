/-! the law, case by case -/
section LAW
variable {p : Program} {l : Launch} {e : Env} {s : State} {m : MethodId} {below : List Frame} {meth : Method} {c : Code} {H : Heap} {locs : List Loc} {Q : State → Prop} {ls : Array Slot} {b L j : Nat} {xs : Nat → Int32} {E : xE} {a : Nat → Nat} {mm : Nat} {a' : Nat → Nat} {fx fy : Hp}
set_option maxHeartbeats 4000000 in
theorem law_0 (hx : p.tables.exec = Jvm.exec) (hb : c.code = code) (hml : c.maxLocals = 4) (hown : s.vm.findClass R_law = some m.cls) (hts : ∀ w ∈ TB, w.before #[Value.ref b] s = true) (hK : va_K E.1 xcl (xtys E) s) (hN : xNw s) (hX : va_X b L xs s s.heap) (hbl : b < s.heap.size) (hL : L ≤ 256) (hj : j + 4 ≤ L) (hW : LW E s.heap.size a mm a' fx fy H) (hC : Cpl fx fy) (hS : va_S (fun q => s.heap.size ≤ q) s.heap H locs) (hl : lv_has ls 4 [(3, .int (nI j)), (2, .ref (a' 0)), (1, .ref (a 0)), (0, .ref b)])
    (next : ∀ (a1 : Nat → Nat) (m1 : Nat) (gx gy : Hp) (H1 : Heap) (locs1 : List Loc), a1 0 = a 0 → LW E s.heap.size a1 m1 a' gx gy H1 → Cpl gx gy → va_S (fun q => s.heap.size ≤ q) s.heap H1 locs1 → W p l e room_1 s m #[Value.ref b] below meth c H1 locs1 48 1028 Q (F0 m 915 ls [])) : W p l e room_1 s m #[Value.ref b] below meth c H locs 48 1028 Q (F0 m 172 ls []) := by
  obtain ⟨r, gx, gy, e1, e2, hC9⟩ := p_write (xs (nI j + 1).toNatClampNeg) fx fy hC
  refine lv_aload_n hx hb d_law_law_172 rfl (lv_at hl 2 rfl) ?_
  refine lv_aload_n hx hb d_law_law_173 rfl (lv_at hl 3 rfl) ?_
  refine lv_iload_n hx hb d_law_law_174 rfl (lv_at hl 0 rfl) ?_
  refine lv_iconst (v := (1 : Int32)) hx hb d_law_law_175 (by decide) ?_
  refine lv_iadd hx hb d_law_law_176 ?_
  refine va_sld hx hb hX hbl (Nat.not_le.mpr hbl) hS (sc1 hL hj) d_law_law_177 ?_
  refine fCallI (fRunV (As := [.int (xs (nI j + 1).toNatClampNeg)]) (rest := []) (q0 := 0) (ci := 0) hx hb hml hown hts hK hN hW.2.2.2.2.2.1 (cx_Nm_write l E a hW.1 mm fx H.size (xs (nI j + 1).toNatClampNeg) e1) q306 q307 q308 q49 q309 hd_x_Nm_write rfl rfl ⟨Nat.le_of_ble_eq_true rfl, Nat.le_of_ble_eq_true rfl⟩ xe_0 rfl rfl rfl hl.1 rfl (Nat.le_of_ble_eq_true rfl) d_law_law_178 ⟨Nat.le_of_ble_eq_true rfl, Nat.le_of_ble_eq_true rfl⟩) hS (hW.fx hS) (fun u H1 locs1 hu hP1 hS1 _ hk => ?_)
  have hW1 := hW.x0 hP1 hk
  clear hW
  have hW := hW1
  have hS := hS1
  refine lv_aload_n hx hb d_law_law_181 rfl (lv_at hl 1 rfl) ?_
  refine lv_aload_n hx hb d_law_law_182 rfl (lv_at hl 3 rfl) ?_
  refine lv_iload_n hx hb d_law_law_183 rfl (lv_at hl 0 rfl) ?_
  refine lv_iconst (v := (1 : Int32)) hx hb d_law_law_184 (by decide) ?_
  refine lv_iadd hx hb d_law_law_185 ?_
  refine va_sld hx hb hX hbl (Nat.not_le.mpr hbl) hS (sc1 hL hj) d_law_law_186 ?_
  refine fCallI (fRunV (As := [.int (xs (nI j + 1).toNatClampNeg)]) (rest := [.int r]) (q0 := 0) (ci := 8) hx hb hml hown hts (hK.sub [0] rfl) hN hW.2.2.2.2.2.2 (cm_Mo_write l (E.1, E.2.1) a' hW.2.1 fy H1.size (xs (nI j + 1).toNatClampNeg) e2) q701 q702 q703 q61 q704 hd_m_Mo_write rfl rfl ⟨Nat.le_of_ble_eq_true rfl, Nat.le_of_ble_eq_true rfl⟩ me_0 rfl rfl rfl hl.1 rfl (Nat.le_of_ble_eq_true rfl) d_law_law_187 ⟨Nat.le_of_ble_eq_true rfl, Nat.le_of_ble_eq_true rfl⟩) hS (hW.fm hS) (fun _ H2 locs2 _ hP2 hS2 _ hk2 => ?_)
  have hW2 := hW.m0 hP2 hk2
  refine lv_icmp_eq (tgt := 915) hx hb d_law_law_190 (by decide) (fun _ => ?_) (fun h => absurd rfl h)
  exact next _ _ _ _ _ _ rfl hW2 hC9 hS2
set_option maxHeartbeats 4000000 in
theorem law_1 (hx : p.tables.exec = Jvm.exec) (hb : c.code = code) (hml : c.maxLocals = 4) (hown : s.vm.findClass R_law = some m.cls) (hts : ∀ w ∈ TB, w.before #[Value.ref b] s = true) (hK : va_K E.1 xcl (xtys E) s) (hN : xNw s) (hX : va_X b L xs s s.heap) (hbl : b < s.heap.size) (hL : L ≤ 256) (hj : j + 4 ≤ L) (hW : LW E s.heap.size a mm a' fx fy H) (hC : Cpl fx fy) (hS : va_S (fun q => s.heap.size ≤ q) s.heap H locs) (hl : lv_has ls 4 [(3, .int (nI j)), (2, .ref (a' 0)), (1, .ref (a 0)), (0, .ref b)])
    (next : ∀ (a1 : Nat → Nat) (m1 : Nat) (gx gy : Hp) (H1 : Heap) (locs1 : List Loc), a1 0 = a 0 → LW E s.heap.size a1 m1 a' gx gy H1 → Cpl gx gy → va_S (fun q => s.heap.size ≤ q) s.heap H1 locs1 → W p l e room_1 s m #[Value.ref b] below meth c H1 locs1 48 1028 Q (F0 m 915 ls [])) : W p l e room_1 s m #[Value.ref b] below meth c H locs 48 1028 Q (F0 m 195 ls []) := by
  obtain ⟨r, gx, gy, e1, e2, hC9⟩ := p_wipe fx fy hC
  refine lv_aload_n hx hb d_law_law_195 rfl (lv_at hl 2 rfl) ?_
  refine fCallI (fRunV (As := []) (rest := []) (q0 := 0) (ci := 0) hx hb hml hown hts hK hN hW.2.2.2.2.2.1 (cx_Nm_wipe l E a hW.1 mm fx H.size e1) q311 q312 q313 q49 q314 hd_x_Nm_wipe rfl rfl ⟨Nat.le_of_ble_eq_true rfl, Nat.le_of_ble_eq_true rfl⟩ xe_0 rfl rfl rfl hl.1 rfl (Nat.le_of_ble_eq_true rfl) d_law_law_196 ⟨Nat.le_of_ble_eq_true rfl, Nat.le_of_ble_eq_true rfl⟩) hS (hW.fx hS) (fun u H1 locs1 hu hP1 hS1 _ hk => ?_)
  have hW1 := hW.x0 hP1 hk
  clear hW
  have hW := hW1
  have hS := hS1
  refine lv_aload_n hx hb d_law_law_199 rfl (lv_at hl 1 rfl) ?_
  refine fCallI (fRunV (As := []) (rest := [.int r]) (q0 := 0) (ci := 8) hx hb hml hown hts (hK.sub [0] rfl) hN hW.2.2.2.2.2.2 (cm_Mo_wipe l (E.1, E.2.1) a' hW.2.1 fy H1.size e2) q710 q711 q712 q61 q713 hd_m_Mo_wipe rfl rfl ⟨Nat.le_of_ble_eq_true rfl, Nat.le_of_ble_eq_true rfl⟩ me_0 rfl rfl rfl hl.1 rfl (Nat.le_of_ble_eq_true rfl) d_law_law_200 ⟨Nat.le_of_ble_eq_true rfl, Nat.le_of_ble_eq_true rfl⟩) hS (hW.fm hS) (fun _ H2 locs2 _ hP2 hS2 _ hk2 => ?_)
  have hW2 := hW.m0 hP2 hk2
  refine lv_icmp_eq (tgt := 915) hx hb d_law_law_203 (by decide) (fun _ => ?_) (fun h => absurd rfl h)
  exact next _ _ _ _ _ _ rfl hW2 hC9 hS2
set_option maxHeartbeats 4000000 in
theorem law_2 (hx : p.tables.exec = Jvm.exec) (hb : c.code = code) (hml : c.maxLocals = 4) (hown : s.vm.findClass R_law = some m.cls) (hts : ∀ w ∈ TB, w.before #[Value.ref b] s = true) (hK : va_K E.1 xcl (xtys E) s) (hN : xNw s) (hX : va_X b L xs s s.heap) (hbl : b < s.heap.size) (hL : L ≤ 256) (hj : j + 4 ≤ L) (hW : LW E s.heap.size a mm a' fx fy H) (hC : Cpl fx fy) (hS : va_S (fun q => s.heap.size ≤ q) s.heap H locs) (hl : lv_has ls 4 [(3, .int (nI j)), (2, .ref (a' 0)), (1, .ref (a 0)), (0, .ref b)])
    (next : ∀ (a1 : Nat → Nat) (m1 : Nat) (gx gy : Hp) (H1 : Heap) (locs1 : List Loc), a1 0 = a 0 → LW E s.heap.size a1 m1 a' gx gy H1 → Cpl gx gy → va_S (fun q => s.heap.size ≤ q) s.heap H1 locs1 → W p l e room_1 s m #[Value.ref b] below meth c H1 locs1 48 1028 Q (F0 m 915 ls [])) : W p l e room_1 s m #[Value.ref b] below meth c H locs 48 1028 Q (F0 m 208 ls []) := by
  obtain ⟨r, gx, gy, e1, e2, hC9⟩ := p_fault fx fy hC
  refine lv_aload_n hx hb d_law_law_208 rfl (lv_at hl 2 rfl) ?_
  refine fCallI (fRunV (As := []) (rest := []) (q0 := 0) (ci := 0) hx hb hml hown hts hK hN hW.2.2.2.2.2.1 (cx_Nm_fault l E a hW.1 mm fx H.size e1) q315 q316 q317 q49 q318 hd_x_Nm_fault rfl rfl ⟨Nat.le_of_ble_eq_true rfl, Nat.le_of_ble_eq_true rfl⟩ xe_0 rfl rfl rfl hl.1 rfl (Nat.le_of_ble_eq_true rfl) d_law_law_209 ⟨Nat.le_of_ble_eq_true rfl, Nat.le_of_ble_eq_true rfl⟩) hS (hW.fx hS) (fun u H1 locs1 hu hP1 hS1 _ hk => ?_)
  have hW1 := hW.x0 hP1 hk
  clear hW
  have hW := hW1
  have hS := hS1
  refine lv_aload_n hx hb d_law_law_212 rfl (lv_at hl 1 rfl) ?_
  refine fCallI (fRunV (As := []) (rest := [.int r]) (q0 := 0) (ci := 8) hx hb hml hown hts (hK.sub [0] rfl) hN hW.2.2.2.2.2.2 (cm_Mo_fault l (E.1, E.2.1) a' hW.2.1 fy H1.size e2) q714 q715 q716 q61 q717 hd_m_Mo_fault rfl rfl ⟨Nat.le_of_ble_eq_true rfl, Nat.le_of_ble_eq_true rfl⟩ me_0 rfl rfl rfl hl.1 rfl (Nat.le_of_ble_eq_true rfl) d_law_law_213 ⟨Nat.le_of_ble_eq_true rfl, Nat.le_of_ble_eq_true rfl⟩) hS (hW.fm hS) (fun _ H2 locs2 _ hP2 hS2 _ hk2 => ?_)
  have hW2 := hW.m0 hP2 hk2
  refine lv_icmp_eq (tgt := 915) hx hb d_law_law_216 (by decide) (fun _ => ?_) (fun h => absurd rfl h)
  exact next _ _ _ _ _ _ rfl hW2 hC9 hS2
set_option maxHeartbeats 4000000 in
theorem law_3 (hx : p.tables.exec = Jvm.exec) (hb : c.code = code) (hml : c.maxLocals = 4) (hown : s.vm.findClass R_law = some m.cls) (hts : ∀ w ∈ TB, w.before #[Value.ref b] s = true) (hK : va_K E.1 xcl (xtys E) s) (hN : xNw s) (hX : va_X b L xs s s.heap) (hbl : b < s.heap.size) (hL : L ≤ 256) (hj : j + 4 ≤ L) (hW : LW E s.heap.size a mm a' fx fy H) (hC : Cpl fx fy) (hS : va_S (fun q => s.heap.size ≤ q) s.heap H locs) (hl : lv_has ls 4 [(3, .int (nI j)), (2, .ref (a' 0)), (1, .ref (a 0)), (0, .ref b)])
    (next : ∀ (a1 : Nat → Nat) (m1 : Nat) (gx gy : Hp) (H1 : Heap) (locs1 : List Loc), a1 0 = a 0 → LW E s.heap.size a1 m1 a' gx gy H1 → Cpl gx gy → va_S (fun q => s.heap.size ≤ q) s.heap H1 locs1 → W p l e room_1 s m #[Value.ref b] below meth c H1 locs1 48 1028 Q (F0 m 915 ls [])) : W p l e room_1 s m #[Value.ref b] below meth c H locs 48 1028 Q (F0 m 221 ls []) := by
  obtain ⟨r, gx, gy, e1, e2, hC9⟩ := p_lay fx fy hC
  refine lv_aload_n hx hb d_law_law_221 rfl (lv_at hl 2 rfl) ?_
  refine fCallI (fRunV (As := []) (rest := []) (q0 := 0) (ci := 0) hx hb hml hown hts hK hN hW.2.2.2.2.2.1 (cx_Nm_lay0 l E a hW.1 mm fx H.size e1) q319 q320 q321 q49 q322 hd_x_Nm_lay rfl rfl ⟨Nat.le_of_ble_eq_true rfl, Nat.le_of_ble_eq_true rfl⟩ xe_0 rfl rfl rfl hl.1 rfl (Nat.le_of_ble_eq_true rfl) d_law_law_222 ⟨Nat.le_of_ble_eq_true rfl, Nat.le_of_ble_eq_true rfl⟩) hS (hW.fx hS) (fun u H1 locs1 hu hP1 hS1 _ hk => ?_)
  have hW1 := hW.x1 hu.2.1 hu.2.2 hP1 hk
  clear hW
  have hW := hW1
  have hS := hS1
  refine lv_aload_n hx hb d_law_law_225 rfl (lv_at hl 1 rfl) ?_
  refine fCallI (fRunV (As := []) (rest := [.int r]) (q0 := 0) (ci := 8) hx hb hml hown hts (hK.sub [0] rfl) hN hW.2.2.2.2.2.2 (cm_Mo_lay l (E.1, E.2.1) a' hW.2.1 fy H1.size e2) q742 q743 q744 q61 q745 hd_m_Mo_lay rfl rfl ⟨Nat.le_of_ble_eq_true rfl, Nat.le_of_ble_eq_true rfl⟩ me_0 rfl rfl rfl hl.1 rfl (Nat.le_of_ble_eq_true rfl) d_law_law_226 ⟨Nat.le_of_ble_eq_true rfl, Nat.le_of_ble_eq_true rfl⟩) hS (hW.fm hS) (fun _ H2 locs2 _ hP2 hS2 _ hk2 => ?_)
  have hW2 := hW.m0 hP2 hk2
  refine lv_icmp_eq (tgt := 915) hx hb d_law_law_229 (by decide) (fun _ => ?_) (fun h => absurd rfl h)
  exact next _ _ _ _ _ _ hu.1 hW2 hC9 hS2
set_option maxHeartbeats 4000000 in
theorem law_4 (hx : p.tables.exec = Jvm.exec) (hb : c.code = code) (hml : c.maxLocals = 4) (hown : s.vm.findClass R_law = some m.cls) (hts : ∀ w ∈ TB, w.before #[Value.ref b] s = true) (hK : va_K E.1 xcl (xtys E) s) (hN : xNw s) (hX : va_X b L xs s s.heap) (hbl : b < s.heap.size) (hL : L ≤ 256) (hj : j + 4 ≤ L) (hW : LW E s.heap.size a mm a' fx fy H) (hC : Cpl fx fy) (hS : va_S (fun q => s.heap.size ≤ q) s.heap H locs) (hl : lv_has ls 4 [(3, .int (nI j)), (2, .ref (a' 0)), (1, .ref (a 0)), (0, .ref b)])
    (next : ∀ (a1 : Nat → Nat) (m1 : Nat) (gx gy : Hp) (H1 : Heap) (locs1 : List Loc), a1 0 = a 0 → LW E s.heap.size a1 m1 a' gx gy H1 → Cpl gx gy → va_S (fun q => s.heap.size ≤ q) s.heap H1 locs1 → W p l e room_1 s m #[Value.ref b] below meth c H1 locs1 48 1028 Q (F0 m 915 ls [])) : W p l e room_1 s m #[Value.ref b] below meth c H locs 48 1028 Q (F0 m 234 ls []) := by
  obtain ⟨r, gx, e1, e2, hC9⟩ := p_guest (xs (nI j + 1).toNatClampNeg) (xs (nI j + 2).toNatClampNeg) fx fy hC
  refine lv_aload_n hx hb d_law_law_234 rfl (lv_at hl 2 rfl) ?_
  refine lv_aload_n hx hb d_law_law_235 rfl (lv_at hl 3 rfl) ?_
  refine lv_iload_n hx hb d_law_law_236 rfl (lv_at hl 0 rfl) ?_
  refine lv_iconst (v := (1 : Int32)) hx hb d_law_law_237 (by decide) ?_
  refine lv_iadd hx hb d_law_law_238 ?_
  refine va_sld hx hb hX hbl (Nat.not_le.mpr hbl) hS (sc1 hL hj) d_law_law_239 ?_
  refine lv_aload_n hx hb d_law_law_240 rfl (lv_at hl 3 rfl) ?_
  refine lv_iload_n hx hb d_law_law_241 rfl (lv_at hl 0 rfl) ?_
  refine lv_iconst (v := (2 : Int32)) hx hb d_law_law_242 (by decide) ?_
  refine lv_iadd hx hb d_law_law_243 ?_
  refine va_sld hx hb hX hbl (Nat.not_le.mpr hbl) hS (sc2 hL hj) d_law_law_244 ?_
  refine fCallI (fRunV (As := [.int (xs (nI j + 1).toNatClampNeg), .int (xs (nI j + 2).toNatClampNeg)]) (rest := []) (q0 := 0) (ci := 0) hx hb hml hown hts hK hN hW.2.2.2.2.2.1 (cx_Nm_guest l E a hW.1 mm fx H.size (xs (nI j + 1).toNatClampNeg) (xs (nI j + 2).toNatClampNeg) e1) q327 q328 q329 q49 q330 hd_x_Nm_guest rfl rfl ⟨Nat.le_of_ble_eq_true rfl, Nat.le_of_ble_eq_true rfl⟩ xe_0 rfl rfl rfl hl.1 rfl (Nat.le_of_ble_eq_true rfl) d_law_law_245 ⟨Nat.le_of_ble_eq_true rfl, Nat.le_of_ble_eq_true rfl⟩) hS (hW.fx hS) (fun u H1 locs1 hu hP1 hS1 _ hk => ?_)
  have hW1 := hW.x0 hP1 hk
  clear hW
  have hW := hW1
  have hS := hS1
  refine lv_aload_n hx hb d_law_law_248 rfl (lv_at hl 1 rfl) ?_
  refine lv_aload_n hx hb d_law_law_249 rfl (lv_at hl 3 rfl) ?_
  refine lv_iload_n hx hb d_law_law_250 rfl (lv_at hl 0 rfl) ?_
  refine lv_iconst (v := (1 : Int32)) hx hb d_law_law_251 (by decide) ?_
  refine lv_iadd hx hb d_law_law_252 ?_
  refine va_sld hx hb hX hbl (Nat.not_le.mpr hbl) hS (sc1 hL hj) d_law_law_253 ?_
  refine lv_aload_n hx hb d_law_law_254 rfl (lv_at hl 3 rfl) ?_
  refine lv_iload_n hx hb d_law_law_255 rfl (lv_at hl 0 rfl) ?_
  refine lv_iconst (v := (2 : Int32)) hx hb d_law_law_256 (by decide) ?_
  refine lv_iadd hx hb d_law_law_257 ?_
  refine va_sld hx hb hX hbl (Nat.not_le.mpr hbl) hS (sc2 hL hj) d_law_law_258 ?_
  refine fCallI (fRunV (As := [.int (xs (nI j + 1).toNatClampNeg), .int (xs (nI j + 2).toNatClampNeg)]) (rest := [.int r]) (q0 := 0) (ci := 8) hx hb hml hown hts (hK.sub [0] rfl) hN hW.2.2.2.2.2.2 (cm_Mo_guest l (E.1, E.2.1) a' hW.2.1 fy H1.size (xs (nI j + 1).toNatClampNeg) (xs (nI j + 2).toNatClampNeg) e2) q746 q747 q748 q61 q749 hd_m_Mo_guest rfl rfl ⟨Nat.le_of_ble_eq_true rfl, Nat.le_of_ble_eq_true rfl⟩ me_0 rfl rfl rfl hl.1 rfl (Nat.le_of_ble_eq_true rfl) d_law_law_259 ⟨Nat.le_of_ble_eq_true rfl, Nat.le_of_ble_eq_true rfl⟩) hS (hW.fm hS) (fun _ H2 locs2 _ hP2 hS2 _ hk2 => ?_)
  have hW2 := hW.m0 hP2 hk2
  refine lv_icmp_eq (tgt := 915) hx hb d_law_law_262 (by decide) (fun _ => ?_) (fun h => absurd rfl h)
  exact next _ _ _ _ _ _ rfl hW2 hC9 hS2
set_option maxHeartbeats 4000000 in
theorem law_5 (hx : p.tables.exec = Jvm.exec) (hb : c.code = code) (hml : c.maxLocals = 4) (hown : s.vm.findClass R_law = some m.cls) (hts : ∀ w ∈ TB, w.before #[Value.ref b] s = true) (hK : va_K E.1 xcl (xtys E) s) (hN : xNw s) (hX : va_X b L xs s s.heap) (hbl : b < s.heap.size) (hL : L ≤ 256) (hj : j + 4 ≤ L) (hW : LW E s.heap.size a mm a' fx fy H) (hC : Cpl fx fy) (hS : va_S (fun q => s.heap.size ≤ q) s.heap H locs) (hl : lv_has ls 4 [(3, .int (nI j)), (2, .ref (a' 0)), (1, .ref (a 0)), (0, .ref b)])
    (next : ∀ (a1 : Nat → Nat) (m1 : Nat) (gx gy : Hp) (H1 : Heap) (locs1 : List Loc), a1 0 = a 0 → LW E s.heap.size a1 m1 a' gx gy H1 → Cpl gx gy → va_S (fun q => s.heap.size ≤ q) s.heap H1 locs1 → W p l e room_1 s m #[Value.ref b] below meth c H1 locs1 48 1028 Q (F0 m 915 ls [])) : W p l e room_1 s m #[Value.ref b] below meth c H locs 48 1028 Q (F0 m 267 ls []) := by
  obtain ⟨r, gx, e1, e2, hC9⟩ := p_dish (xs (nI j + 1).toNatClampNeg) (xs (nI j + 2).toNatClampNeg) fx fy hC
  refine lv_aload_n hx hb d_law_law_267 rfl (lv_at hl 2 rfl) ?_
  refine lv_aload_n hx hb d_law_law_268 rfl (lv_at hl 3 rfl) ?_
  refine lv_iload_n hx hb d_law_law_269 rfl (lv_at hl 0 rfl) ?_
  refine lv_iconst (v := (1 : Int32)) hx hb d_law_law_270 (by decide) ?_
  refine lv_iadd hx hb d_law_law_271 ?_
  refine va_sld hx hb hX hbl (Nat.not_le.mpr hbl) hS (sc1 hL hj) d_law_law_272 ?_
  refine lv_aload_n hx hb d_law_law_273 rfl (lv_at hl 3 rfl) ?_
  refine lv_iload_n hx hb d_law_law_274 rfl (lv_at hl 0 rfl) ?_
  refine lv_iconst (v := (2 : Int32)) hx hb d_law_law_275 (by decide) ?_
  refine lv_iadd hx hb d_law_law_276 ?_
  refine va_sld hx hb hX hbl (Nat.not_le.mpr hbl) hS (sc2 hL hj) d_law_law_277 ?_
  refine fCallI (fRunV (As := [.int (xs (nI j + 1).toNatClampNeg), .int (xs (nI j + 2).toNatClampNeg)]) (rest := []) (q0 := 0) (ci := 0) hx hb hml hown hts hK hN hW.2.2.2.2.2.1 (cx_Nm_dish l E a hW.1 mm fx H.size (xs (nI j + 1).toNatClampNeg) (xs (nI j + 2).toNatClampNeg) e1) q388 q389 q390 q49 q391 hd_x_Nm_dish rfl rfl ⟨Nat.le_of_ble_eq_true rfl, Nat.le_of_ble_eq_true rfl⟩ xe_0 rfl rfl rfl hl.1 rfl (Nat.le_of_ble_eq_true rfl) d_law_law_278 ⟨Nat.le_of_ble_eq_true rfl, Nat.le_of_ble_eq_true rfl⟩) hS (hW.fx hS) (fun u H1 locs1 hu hP1 hS1 _ hk => ?_)
  have hW1 := hW.x0 hP1 hk
  clear hW
  have hW := hW1
  have hS := hS1
  refine lv_aload_n hx hb d_law_law_281 rfl (lv_at hl 1 rfl) ?_
  refine lv_aload_n hx hb d_law_law_282 rfl (lv_at hl 3 rfl) ?_
  refine lv_iload_n hx hb d_law_law_283 rfl (lv_at hl 0 rfl) ?_
  refine lv_iconst (v := (1 : Int32)) hx hb d_law_law_284 (by decide) ?_
  refine lv_iadd hx hb d_law_law_285 ?_
  refine va_sld hx hb hX hbl (Nat.not_le.mpr hbl) hS (sc1 hL hj) d_law_law_286 ?_
  refine lv_aload_n hx hb d_law_law_287 rfl (lv_at hl 3 rfl) ?_
  refine lv_iload_n hx hb d_law_law_288 rfl (lv_at hl 0 rfl) ?_
  refine lv_iconst (v := (2 : Int32)) hx hb d_law_law_289 (by decide) ?_
  refine lv_iadd hx hb d_law_law_290 ?_
  refine va_sld hx hb hX hbl (Nat.not_le.mpr hbl) hS (sc2 hL hj) d_law_law_291 ?_
  refine fCallI (fRunV (As := [.int (xs (nI j + 1).toNatClampNeg), .int (xs (nI j + 2).toNatClampNeg)]) (rest := [.int r]) (q0 := 0) (ci := 8) hx hb hml hown hts (hK.sub [0] rfl) hN hW.2.2.2.2.2.2 (cm_Mo_dish l (E.1, E.2.1) a' hW.2.1 fy H1.size (xs (nI j + 1).toNatClampNeg) (xs (nI j + 2).toNatClampNeg) e2) q768 q769 q770 q61 q771 hd_m_Mo_dish rfl rfl ⟨Nat.le_of_ble_eq_true rfl, Nat.le_of_ble_eq_true rfl⟩ me_0 rfl rfl rfl hl.1 rfl (Nat.le_of_ble_eq_true rfl) d_law_law_292 ⟨Nat.le_of_ble_eq_true rfl, Nat.le_of_ble_eq_true rfl⟩) hS (hW.fm hS) (fun _ H2 locs2 _ hP2 hS2 _ hk2 => ?_)
  have hW2 := hW.m0 hP2 hk2
  refine lv_icmp_eq (tgt := 915) hx hb d_law_law_295 (by decide) (fun _ => ?_) (fun h => absurd rfl h)
  exact next _ _ _ _ _ _ rfl hW2 hC9 hS2
set_option maxHeartbeats 4000000 in
theorem law_6 (hx : p.tables.exec = Jvm.exec) (hb : c.code = code) (hml : c.maxLocals = 4) (hown : s.vm.findClass R_law = some m.cls) (hts : ∀ w ∈ TB, w.before #[Value.ref b] s = true) (hK : va_K E.1 xcl (xtys E) s) (hN : xNw s) (hX : va_X b L xs s s.heap) (hbl : b < s.heap.size) (hL : L ≤ 256) (hj : j + 4 ≤ L) (hW : LW E s.heap.size a mm a' fx fy H) (hC : Cpl fx fy) (hS : va_S (fun q => s.heap.size ≤ q) s.heap H locs) (hl : lv_has ls 4 [(3, .int (nI j)), (2, .ref (a' 0)), (1, .ref (a 0)), (0, .ref b)])
    (next : ∀ (a1 : Nat → Nat) (m1 : Nat) (gx gy : Hp) (H1 : Heap) (locs1 : List Loc), a1 0 = a 0 → LW E s.heap.size a1 m1 a' gx gy H1 → Cpl gx gy → va_S (fun q => s.heap.size ≤ q) s.heap H1 locs1 → W p l e room_1 s m #[Value.ref b] below meth c H1 locs1 48 1028 Q (F0 m 915 ls [])) : W p l e room_1 s m #[Value.ref b] below meth c H locs 48 1028 Q (F0 m 300 ls []) := by
  obtain ⟨r, gx, e1, e2, hC9⟩ := p_worth (xs (nI j + 1).toNatClampNeg) (xs (nI j + 2).toNatClampNeg) fx fy hC
  refine lv_aload_n hx hb d_law_law_300 rfl (lv_at hl 2 rfl) ?_
  refine lv_aload_n hx hb d_law_law_301 rfl (lv_at hl 3 rfl) ?_
  refine lv_iload_n hx hb d_law_law_302 rfl (lv_at hl 0 rfl) ?_
  refine lv_iconst (v := (1 : Int32)) hx hb d_law_law_303 (by decide) ?_
  refine lv_iadd hx hb d_law_law_304 ?_
  refine va_sld hx hb hX hbl (Nat.not_le.mpr hbl) hS (sc1 hL hj) d_law_law_305 ?_
  refine lv_aload_n hx hb d_law_law_306 rfl (lv_at hl 3 rfl) ?_
  refine lv_iload_n hx hb d_law_law_307 rfl (lv_at hl 0 rfl) ?_
  refine lv_iconst (v := (2 : Int32)) hx hb d_law_law_308 (by decide) ?_
  refine lv_iadd hx hb d_law_law_309 ?_
  refine va_sld hx hb hX hbl (Nat.not_le.mpr hbl) hS (sc2 hL hj) d_law_law_310 ?_
  refine fCallI (fRunV (As := [.int (xs (nI j + 1).toNatClampNeg), .int (xs (nI j + 2).toNatClampNeg)]) (rest := []) (q0 := 0) (ci := 0) hx hb hml hown hts hK hN hW.2.2.2.2.2.1 (cx_Nm_worth l E a hW.1 mm fx H.size (xs (nI j + 1).toNatClampNeg) (xs (nI j + 2).toNatClampNeg) e1) q409 q410 q411 q49 q412 hd_x_Nm_worth rfl rfl ⟨Nat.le_of_ble_eq_true rfl, Nat.le_of_ble_eq_true rfl⟩ xe_0 rfl rfl rfl hl.1 rfl (Nat.le_of_ble_eq_true rfl) d_law_law_311 ⟨Nat.le_of_ble_eq_true rfl, Nat.le_of_ble_eq_true rfl⟩) hS (hW.fx hS) (fun u H1 locs1 hu hP1 hS1 _ hk => ?_)
  have hW1 := hW.x0 hP1 hk
  clear hW
  have hW := hW1
  have hS := hS1
  refine lv_aload_n hx hb d_law_law_314 rfl (lv_at hl 1 rfl) ?_
  refine lv_aload_n hx hb d_law_law_315 rfl (lv_at hl 3 rfl) ?_
  refine lv_iload_n hx hb d_law_law_316 rfl (lv_at hl 0 rfl) ?_
  refine lv_iconst (v := (1 : Int32)) hx hb d_law_law_317 (by decide) ?_
  refine lv_iadd hx hb d_law_law_318 ?_
  refine va_sld hx hb hX hbl (Nat.not_le.mpr hbl) hS (sc1 hL hj) d_law_law_319 ?_
  refine lv_aload_n hx hb d_law_law_320 rfl (lv_at hl 3 rfl) ?_
  refine lv_iload_n hx hb d_law_law_321 rfl (lv_at hl 0 rfl) ?_
  refine lv_iconst (v := (2 : Int32)) hx hb d_law_law_322 (by decide) ?_
  refine lv_iadd hx hb d_law_law_323 ?_
  refine va_sld hx hb hX hbl (Nat.not_le.mpr hbl) hS (sc2 hL hj) d_law_law_324 ?_
  refine fCallI (fRunV (As := [.int (xs (nI j + 1).toNatClampNeg), .int (xs (nI j + 2).toNatClampNeg)]) (rest := [.int r]) (q0 := 0) (ci := 8) hx hb hml hown hts (hK.sub [0] rfl) hN hW.2.2.2.2.2.2 (cm_Mo_worth l (E.1, E.2.1) a' hW.2.1 fy H1.size (xs (nI j + 1).toNatClampNeg) (xs (nI j + 2).toNatClampNeg) e2) q778 q779 q780 q61 q781 hd_m_Mo_worth rfl rfl ⟨Nat.le_of_ble_eq_true rfl, Nat.le_of_ble_eq_true rfl⟩ me_0 rfl rfl rfl hl.1 rfl (Nat.le_of_ble_eq_true rfl) d_law_law_325 ⟨Nat.le_of_ble_eq_true rfl, Nat.le_of_ble_eq_true rfl⟩) hS (hW.fm hS) (fun _ H2 locs2 _ hP2 hS2 _ hk2 => ?_)
  have hW2 := hW.m0 hP2 hk2
  refine lv_icmp_eq (tgt := 915) hx hb d_law_law_328 (by decide) (fun _ => ?_) (fun h => absurd rfl h)
  exact next _ _ _ _ _ _ rfl hW2 hC9 hS2
set_option maxHeartbeats 4000000 in
theorem law_7 (hx : p.tables.exec = Jvm.exec) (hb : c.code = code) (hml : c.maxLocals = 4) (hown : s.vm.findClass R_law = some m.cls) (hts : ∀ w ∈ TB, w.before #[Value.ref b] s = true) (hK : va_K E.1 xcl (xtys E) s) (hN : xNw s) (hX : va_X b L xs s s.heap) (hbl : b < s.heap.size) (hL : L ≤ 256) (hj : j + 4 ≤ L) (hW : LW E s.heap.size a mm a' fx fy H) (hC : Cpl fx fy) (hS : va_S (fun q => s.heap.size ≤ q) s.heap H locs) (hl : lv_has ls 4 [(3, .int (nI j)), (2, .ref (a' 0)), (1, .ref (a 0)), (0, .ref b)])
    (next : ∀ (a1 : Nat → Nat) (m1 : Nat) (gx gy : Hp) (H1 : Heap) (locs1 : List Loc), a1 0 = a 0 → LW E s.heap.size a1 m1 a' gx gy H1 → Cpl gx gy → va_S (fun q => s.heap.size ≤ q) s.heap H1 locs1 → W p l e room_1 s m #[Value.ref b] below meth c H1 locs1 48 1028 Q (F0 m 915 ls [])) : W p l e room_1 s m #[Value.ref b] below meth c H locs 48 1028 Q (F0 m 333 ls []) := by
  obtain ⟨r, gx, gy, e1, e2, hC9⟩ := p_pass (xs (nI j + 1).toNatClampNeg) fx fy hC
  refine lv_aload_n hx hb d_law_law_333 rfl (lv_at hl 2 rfl) ?_
  refine lv_aload_n hx hb d_law_law_334 rfl (lv_at hl 3 rfl) ?_
  refine lv_iload_n hx hb d_law_law_335 rfl (lv_at hl 0 rfl) ?_
  refine lv_iconst (v := (1 : Int32)) hx hb d_law_law_336 (by decide) ?_
  refine lv_iadd hx hb d_law_law_337 ?_
  refine va_sld hx hb hX hbl (Nat.not_le.mpr hbl) hS (sc1 hL hj) d_law_law_338 ?_
  refine fCallI (fRunV (As := [.int (xs (nI j + 1).toNatClampNeg)]) (rest := []) (q0 := 0) (ci := 0) hx hb hml hown hts hK hN hW.2.2.2.2.2.1 (cx_Nm_pass l E a hW.1 mm fx H.size (xs (nI j + 1).toNatClampNeg) e1) q414 q415 q416 q49 q417 hd_x_Nm_pass rfl rfl ⟨Nat.le_of_ble_eq_true rfl, Nat.le_of_ble_eq_true rfl⟩ xe_0 rfl rfl rfl hl.1 rfl (Nat.le_of_ble_eq_true rfl) d_law_law_339 ⟨Nat.le_of_ble_eq_true rfl, Nat.le_of_ble_eq_true rfl⟩) hS (hW.fx hS) (fun u H1 locs1 hu hP1 hS1 _ hk => ?_)
  have hW1 := hW.x0 hP1 hk
  clear hW
  have hW := hW1
  have hS := hS1
  refine lv_aload_n hx hb d_law_law_342 rfl (lv_at hl 1 rfl) ?_
  refine lv_aload_n hx hb d_law_law_343 rfl (lv_at hl 3 rfl) ?_
  refine lv_iload_n hx hb d_law_law_344 rfl (lv_at hl 0 rfl) ?_
  refine lv_iconst (v := (1 : Int32)) hx hb d_law_law_345 (by decide) ?_
  refine lv_iadd hx hb d_law_law_346 ?_
  refine va_sld hx hb hX hbl (Nat.not_le.mpr hbl) hS (sc1 hL hj) d_law_law_347 ?_
  refine fCallI (fRunV (As := [.int (xs (nI j + 1).toNatClampNeg)]) (rest := [.int r]) (q0 := 0) (ci := 8) hx hb hml hown hts (hK.sub [0] rfl) hN hW.2.2.2.2.2.2 (cm_Mo_pass l (E.1, E.2.1) a' hW.2.1 fy H1.size (xs (nI j + 1).toNatClampNeg) e2) q782 q783 q784 q61 q785 hd_m_Mo_pass rfl rfl ⟨Nat.le_of_ble_eq_true rfl, Nat.le_of_ble_eq_true rfl⟩ me_0 rfl rfl rfl hl.1 rfl (Nat.le_of_ble_eq_true rfl) d_law_law_348 ⟨Nat.le_of_ble_eq_true rfl, Nat.le_of_ble_eq_true rfl⟩) hS (hW.fm hS) (fun _ H2 locs2 _ hP2 hS2 _ hk2 => ?_)
  have hW2 := hW.m0 hP2 hk2
  refine lv_icmp_eq (tgt := 915) hx hb d_law_law_351 (by decide) (fun _ => ?_) (fun h => absurd rfl h)
  exact next _ _ _ _ _ _ rfl hW2 hC9 hS2
end LAW
