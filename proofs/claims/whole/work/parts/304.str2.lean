/-! the text's length and letters -/
section SCALL
variable {p : Program} {l : Launch} {e : Env} {R : Room} {s : State} {m : MethodId} {args : Array Value} {below : List Frame} {meth : Method} {c : Code} {H : Heap} {locs : List Loc} {cells slots : Nat} {Q : State → Prop} {cc code : ByteArray} {pc : Nat} {ls : Array Slot} {rest As st : List Value} {nL maxL n idx : Nat} {own : String} {y : MethodName} {ret : Option FieldType} {rm : Room} {Qc : Array Value → State → Outcome → State → Prop} {A : Nat → Prop} {k v : Nat} {z : Option Nat} {r0 : Int32} {av : Array Value}
theorem sRunV (hx : p.tables.exec = Jvm.exec) (hb : c.code = cc) (hml : c.maxLocals = nL) (hown : s.vm.findClass own = some m.cls) (hts : ∀ w ∈ TB, w.before args s = true) (hF : SF k v z A s s.heap) (hS : va_S A s.heap H locs)
    (hM : Met l y (Cond.code y code maxL ret :: TB) rm (sPc (.ref k :: As) k v z) Qc 0 0 (fun _ => False)) (h1 : Cond.methodLink own idx y ∈ TB) (h2 : Cond.instanceMethod y ∈ TB) (h3 : Cond.selects y.cls y y ∈ TB) (h4 : Cond.initialized y.cls ∈ TB) (h5 : Cond.code y code maxL ret ∈ TB)
    (hd : y.cls ≠ "java/lang/invoke/MethodHandle" ∧ y.cls ≠ "java/lang/invoke/VarHandle" ∧ (parseMethodDescriptor y.desc).map (fun d => d.parameters.length) = some n) (hrc : rm.cells = 0) (hrs : rm.slots = 0) (hR : rm.frames + 1 ≤ R.frames ∧ 8 + (maxL + 11) + rm.locals ≤ R.locals)
    (hq : "java/lang/String" = y.cls) (hn : As.length = n) (hls : ls.size = nL) (hst : st = As.reverse ++ .ref k :: rest) (hW : (rest.map fun v => v.category).sum ≤ 8) (hdg : decode cc pc = .ok (.invokevirtual idx, 3)) (hf : cells ≤ R.cells ∧ slots ≤ R.slots) :
    va_Run p l e R s m args below meth c H locs cells slots 0 0 (F0 m pc ls st) rest (Qc (Value.ref k :: As).toArray) (fun _ => False) :=
  va_runV (As := As) (rest := rest) ⟨hx, hb, hml, hown, hts⟩ hM (cwV n hts (gV h1 h2 h3 h4 h5) rfl hrc hrs ⟨rfl, hd⟩ hR) ⟨sPc_blind, by rw [← hq]; obtain ⟨cell, a1, a2, a3, -⟩ := hF.1.kept hS.2.1; exact ⟨cell, a1, a2, a3⟩, sPc_pre hF hS⟩ rfl hn hls hst (lv_room hW) hdg hf
theorem sRunS (hx : p.tables.exec = Jvm.exec) (hb : c.code = cc) (hml : c.maxLocals = nL) (hown : s.vm.findClass own = some m.cls) (hts : ∀ w ∈ TB, w.before args s = true) (hF : SF k v z A s s.heap) (hS : va_S A s.heap H locs)
    (hM : Met l y (Cond.code y code maxL ret :: TB) rm (sPc As k v z) Qc 0 0 (fun _ => False)) (h1 : Cond.methodLink own idx y ∈ TB) (h2 : Cond.static y ∈ TB) (h4 : Cond.initialized y.cls ∈ TB) (h5 : Cond.code y code maxL ret ∈ TB)
    (hd : y.cls ≠ "java/lang/invoke/MethodHandle" ∧ y.cls ≠ "java/lang/invoke/VarHandle" ∧ (parseMethodDescriptor y.desc).map (fun d => d.parameters.length) = some n) (hrc : rm.cells = 0) (hrs : rm.slots = 0) (hR : rm.frames + 1 ≤ R.frames ∧ 8 + (maxL + 11) + rm.locals ≤ R.locals)
    (hn : As.length = n) (hls : ls.size = nL) (hst : st = As.reverse ++ rest) (hW : (rest.map fun v => v.category).sum ≤ 8) (hdg : decode cc pc = .ok (.invokestatic idx, 3)) (hf : cells ≤ R.cells ∧ slots ≤ R.slots) :
    va_Run p l e R s m args below meth c H locs cells slots 0 0 (F0 m pc ls st) rest (Qc As.toArray) (fun _ => False) :=
  va_runS (As := As) (rest := rest) ⟨hx, hb, hml, hown, hts⟩ hM (va_cwS n hts (gS h1 h2 h4 h5) rfl hrc hrs hd hR) ⟨sPc_blind, sPc_pre hF hS⟩ rfl hn hls hst (lv_room hW) hdg hf
theorem sCallI {H0 : Heap} (hr : va_Run p l e R s m args below meth c H locs cells slots 0 0 (F0 m pc ls st) rest (sQi r0 av) (fun _ => False)) (hS : va_S A H0 H locs)
    (kk : ∀ (H1 : Heap) (locs1 : List Loc), va_S A H0 H1 locs1 → H.size ≤ H1.size → (∀ q : Nat, q < H.size → H1[q]? = H[q]?) → W p l e R s m args below meth c H1 locs1 cells slots Q (F0 m (pc + 3) ls (.int r0 :: rest))) : W p l e R s m args below meth c H locs cells slots Q (F0 m pc ls st) :=
  va_calli hr hS (fun q _ h => h.elim) (fun q h => h.elim) (fun r u t H1 locs1 ht hvm hw hB hz1 hk1 hS1 => by
    obtain rfl : r = r0 := hw
    exact kk H1 locs1 hS1 hz1 (fun q hq => hk1 q hq (fun h => h)))
theorem sCallV {H0 : Heap} (hr : va_Run p l e R s m args below meth c H locs cells slots 0 0 (F0 m pc ls st) rest (sQv av) (fun _ => False)) (hS : va_S A H0 H locs)
    (kk : ∀ (H1 : Heap) (locs1 : List Loc), va_S A H0 H1 locs1 → W p l e R s m args below meth c H1 locs1 cells slots Q (F0 m (pc + 3) ls rest)) : W p l e R s m args below meth c H locs cells slots Q (F0 m pc ls st) :=
  va_callv hr hS (fun q _ h => h.elim) (fun q h => h.elim) (fun u t H1 locs1 ht hvm hw hB hz1 hk1 hS1 => kk H1 locs1 hS1)
end SCALL
theorem hd_s_coder : y_Str_coder_7d493.cls ≠ "java/lang/invoke/MethodHandle" ∧ y_Str_coder_7d493.cls ≠ "java/lang/invoke/VarHandle" ∧ (parseMethodDescriptor y_Str_coder_7d493.desc).map (fun d => d.parameters.length) = some 0 := by decide +kernel
theorem hd_s_isLatin1 : y_Str_isLatin1_aae02.cls ≠ "java/lang/invoke/MethodHandle" ∧ y_Str_isLatin1_aae02.cls ≠ "java/lang/invoke/VarHandle" ∧ (parseMethodDescriptor y_Str_isLatin1_aae02.desc).map (fun d => d.parameters.length) = some 0 := by decide +kernel
theorem hd_s_Pre : y_Pre_checkIndex_8e157.cls ≠ "java/lang/invoke/MethodHandle" ∧ y_Pre_checkIndex_8e157.cls ≠ "java/lang/invoke/VarHandle" ∧ (parseMethodDescriptor y_Pre_checkIndex_8e157.desc).map (fun d => d.parameters.length) = some 3 := by decide +kernel
theorem hd_s_check : y_Str_checkIndex_df160.cls ≠ "java/lang/invoke/MethodHandle" ∧ y_Str_checkIndex_df160.cls ≠ "java/lang/invoke/VarHandle" ∧ (parseMethodDescriptor y_Str_checkIndex_df160.desc).map (fun d => d.parameters.length) = some 2 := by decide +kernel
theorem hd_s_SLa : y_SLa_charAt_3b067.cls ≠ "java/lang/invoke/MethodHandle" ∧ y_SLa_charAt_3b067.cls ≠ "java/lang/invoke/VarHandle" ∧ (parseMethodDescriptor y_SLa_charAt_3b067.desc).map (fun d => d.parameters.length) = some 2 := by decide +kernel
theorem hd_s_length : y_Str_length_8abf5.cls ≠ "java/lang/invoke/MethodHandle" ∧ y_Str_length_8abf5.cls ≠ "java/lang/invoke/VarHandle" ∧ (parseMethodDescriptor y_Str_length_8abf5.desc).map (fun d => d.parameters.length) = some 0 := by decide +kernel
theorem hd_s_charAt : y_Str_charAt_5068e.cls ≠ "java/lang/invoke/MethodHandle" ∧ y_Str_charAt_5068e.cls ≠ "java/lang/invoke/VarHandle" ∧ (parseMethodDescriptor y_Str_charAt_5068e.desc).map (fun d => d.parameters.length) = some 1 := by decide +kernel
theorem fB_c : ∀ i, i < 68 → ((fB i &&& 255).toUInt32 % 65536).toInt32 = fB i := by decide +kernel
theorem fB_n : ∀ i, i < 68 → narrow .char (.int (fB i)) = .int (fB i) := by decide +kernel
abbrev rm_s1 : Room := { frames := 1, cells := 0, slots := 0, locals := 22 }
abbrev rm_s2 : Room := { frames := 2, cells := 0, slots := 0, locals := 43 }
abbrev rm_s3 : Room := { frames := 3, cells := 0, slots := 0, locals := 64 }
set_option maxHeartbeats 4000000 in
theorem cs_length (l : Launch) (k v : Nat) (z : Option Nat) : Met l y_Str_length_8abf5 (Cond.code y_Str_length_8abf5 b_Str_length_8abf5 1 (some .int) :: TB) rm_s1 (sPc [.ref k] k v z) (sQi 68) 0 0 (fun _ => False) := by
  refine sl_startI (by decide) (Nat.le_of_ble_eq_true rfl) ?_
  intro p e s m args below meth c Q hx hb hml hown hts hF ret ls hl
  have hS : va_S (fun _ => False) s.heap s.heap [] := va_S.rf
  have hl : lv_has ls 1 [(0, .ref k)] := hl
  refine lv_aload_n hx hb d_Str_length_8abf5_0 rfl (lv_at hl 0 rfl) ?_
  refine vk_getf hx hb hF.2.2.1 hS hown (hts _ q917) (fun _ h9 => h9) d_Str_length_8abf5_1 ?_
  refine va_tlen hx hb hF.2.2.2.1 hS (v := (68 : Int32)) rfl d_Str_length_8abf5_4 ?_
  refine lv_aload_n hx hb d_Str_length_8abf5_5 rfl (lv_at hl 0 rfl) ?_
  refine sCallI (sRunV (As := []) (rest := [.int 68]) hx hb hml hown hts hF hS (cs_coder l k v z) q195 q196 q197 q57 q198 hd_s_coder rfl rfl ⟨Nat.le_of_ble_eq_true rfl, Nat.le_of_ble_eq_true rfl⟩ rfl rfl hl.1 rfl (Nat.le_of_ble_eq_true rfl) d_Str_length_8abf5_6 ⟨Nat.le_of_ble_eq_true rfl, Nat.le_of_ble_eq_true rfl⟩) hS (fun H locs hS _ _ => ?_)
  refine lv_ishr hx hb d_Str_length_8abf5_9 ?_
  exact ret _ _ _ _ hS rfl d_Str_length_8abf5_10
set_option maxHeartbeats 4000000 in
theorem cs_check (l : Launch) (k v : Nat) (z : Option Nat) (i : Nat) (hi : i < 68) : Met l y_Str_checkIndex_df160 (Cond.code y_Str_checkIndex_df160 b_Str_checkIndex_df160 2 none :: TB) rm_s1 (sPc [.int (nI i), .int 68] k v z) sQv 0 0 (fun _ => False) := by
  refine sl_startV (by decide) (Nat.le_of_ble_eq_true rfl) ?_
  intro p e s m args below meth c Q hx hb hml hown hts hF ret ls hl
  have hS : va_S (fun _ => False) s.heap s.heap [] := va_S.rf
  have hl : lv_has ls 2 [(0, .int (nI i)), (1, .int 68)] := hl
  refine lv_iload_n hx hb d_Str_checkIndex_df160_0 rfl (lv_at hl 0 rfl) ?_
  refine lv_iload_n hx hb d_Str_checkIndex_df160_1 rfl (lv_at hl 1 rfl) ?_
  refine va_gets hx hb hF.2.2.2.2.2 hS hown (hts _ q214) (fun _ h9 => h9) d_Str_checkIndex_df160_2 ?_
  refine sCallI (sRunS (As := [.int (nI i), .int 68, va_rf z]) (rest := []) hx hb hml hown hts hF hS (cs_Pre l k v z i hi) q215 q216 q59 q217 hd_s_Pre rfl rfl ⟨Nat.le_of_ble_eq_true rfl, Nat.le_of_ble_eq_true rfl⟩ rfl hl.1 rfl (Nat.le_of_ble_eq_true rfl) d_Str_checkIndex_df160_5 ⟨Nat.le_of_ble_eq_true rfl, Nat.le_of_ble_eq_true rfl⟩) hS (fun H locs hS _ _ => ?_)
  refine lv_pop hx hb d_Str_checkIndex_df160_8 rfl ?_
  exact ret _ _ _ _ hS d_Str_checkIndex_df160_9
set_option maxHeartbeats 4000000 in
theorem cs_SLa (l : Launch) (k v : Nat) (z : Option Nat) (i : Nat) (hi : i < 68) : Met l y_SLa_charAt_3b067 (Cond.code y_SLa_charAt_3b067 b_SLa_charAt_3b067 2 (some .char) :: TB) rm_s2 (sPc [.ref v, .int (nI i)] k v z) (sQi (fB i)) 0 0 (fun _ => False) := by
  refine sl_startI (by decide) (Nat.le_of_ble_eq_true rfl) ?_
  intro p e s m args below meth c Q hx hb hml hown hts hF ret ls hl
  have hS : va_S (fun _ => False) s.heap s.heap [] := va_S.rf
  have hl : lv_has ls 2 [(0, .ref v), (1, .int (nI i))] := hl
  refine lv_iload_n hx hb d_SLa_charAt_3b067_0 rfl (lv_at hl 1 rfl) ?_
  refine lv_aload_n hx hb d_SLa_charAt_3b067_1 rfl (lv_at hl 0 rfl) ?_
  refine va_tlen hx hb hF.2.2.2.1 hS (v := (68 : Int32)) rfl d_SLa_charAt_3b067_2 ?_
  refine sCallV (sRunS (As := [.int (nI i), .int 68]) (rest := []) hx hb hml hown hts hF hS (cs_check l k v z i hi) q211 q212 q57 q213 hd_s_check rfl rfl ⟨Nat.le_of_ble_eq_true rfl, Nat.le_of_ble_eq_true rfl⟩ rfl hl.1 rfl (Nat.le_of_ble_eq_true rfl) d_SLa_charAt_3b067_3 ⟨Nat.le_of_ble_eq_true rfl, Nat.le_of_ble_eq_true rfl⟩) hS (fun H locs hS => ?_)
  refine lv_aload_n hx hb d_SLa_charAt_3b067_6 rfl (lv_at hl 0 rfl) ?_
  refine lv_iload_n hx hb d_SLa_charAt_3b067_7 rfl (lv_at hl 1 rfl) ?_
  refine va_tb hx hb hF.2.2.2.1 hS (vp_in_nI hi (by omega)) (v := .int (fB i)) (by rw [nI_clamp (by omega)]) d_SLa_charAt_3b067_8 ?_
  refine lv_sipush (v := (255 : Int32)) hx hb d_SLa_charAt_3b067_9 (by decide) ?_
  refine lv_iand hx hb d_SLa_charAt_3b067_12 ?_
  refine lv_i2c (v := fB i) hx hb d_SLa_charAt_3b067_13 (fB_c i hi) ?_
  exact ret _ _ _ _ hS (fB_n i hi) d_SLa_charAt_3b067_14
set_option maxHeartbeats 4000000 in
theorem cs_charAt (l : Launch) (k v : Nat) (z : Option Nat) (i : Nat) (hi : i < 68) : Met l y_Str_charAt_5068e (Cond.code y_Str_charAt_5068e b_Str_charAt_5068e 2 (some .char) :: TB) rm_s3 (sPc [.ref k, .int (nI i)] k v z) (sQi (fB i)) 0 0 (fun _ => False) := by
  refine sl_startI (by decide) (Nat.le_of_ble_eq_true rfl) ?_
  intro p e s m args below meth c Q hx hb hml hown hts hF ret ls hl
  have hS : va_S (fun _ => False) s.heap s.heap [] := va_S.rf
  have hl : lv_has ls 2 [(0, .ref k), (1, .int (nI i))] := hl
  refine lv_aload_n hx hb d_Str_charAt_5068e_0 rfl (lv_at hl 0 rfl) ?_
  refine sCallI (sRunV (As := []) (rest := []) hx hb hml hown hts hF hS (cs_isLatin1 l k v z) q204 q205 q206 q57 q207 hd_s_isLatin1 rfl rfl ⟨Nat.le_of_ble_eq_true rfl, Nat.le_of_ble_eq_true rfl⟩ rfl rfl hl.1 rfl (Nat.le_of_ble_eq_true rfl) d_Str_charAt_5068e_1 ⟨Nat.le_of_ble_eq_true rfl, Nat.le_of_ble_eq_true rfl⟩) hS (fun H locs hS _ _ => ?_)
  refine lv_if_eq (tgt := 16) hx hb d_Str_charAt_5068e_4 (by decide) (fun h => absurd h (by decide)) (fun _ => ?_)
  refine lv_aload_n hx hb d_Str_charAt_5068e_7 rfl (lv_at hl 0 rfl) ?_
  refine vk_getf hx hb hF.2.2.1 hS hown (hts _ q917) (fun _ h9 => h9) d_Str_charAt_5068e_8 ?_
  refine lv_iload_n hx hb d_Str_charAt_5068e_11 rfl (lv_at hl 1 rfl) ?_
  refine sCallI (sRunS (As := [.ref v, .int (nI i)]) (rest := []) hx hb hml hown hts hF hS (cs_SLa l k v z i hi) q208 q209 q58 q210 hd_s_SLa rfl rfl ⟨Nat.le_of_ble_eq_true rfl, Nat.le_of_ble_eq_true rfl⟩ rfl hl.1 rfl (Nat.le_of_ble_eq_true rfl) d_Str_charAt_5068e_12 ⟨Nat.le_of_ble_eq_true rfl, Nat.le_of_ble_eq_true rfl⟩) hS (fun H locs hS _ _ => ?_)
  exact ret _ _ _ _ hS (fB_n i hi) d_Str_charAt_5068e_15
