/-! the text of the first table: a string constant -/
def FT : List Int32 := [100, 52, 59, 103, 48, 53, 51, 55, 49, 59, 103, 49, 56, 56, 48, 54, 59, 103, 50, 50, 52, 57, 54, 59, 103, 51, 55, 48, 50, 55, 59, 103, 48, 52, 52, 52, 52, 59, 103, 48, 57, 49, 53, 51, 59, 116, 48, 44, 51, 48, 59, 116, 50, 44, 52, 53, 59, 118, 49, 59, 115, 57, 48, 59, 104, 50, 48, 59]
def fB (j : Nat) : Int32 := FT.getD j 0
def SF (k v : Nat) (z : Option Nat) (A : Nat → Prop) (U : State) (H : Heap) : Prop := va_O "java/lang/String" k A U H ∧ va_OF "java/lang/String" "coder" "B" (.int 0) k A U H ∧ va_OF "java/lang/String" "value" "[B" (.ref v) k A U H ∧ va_T .byte v 68 (fun j => .int (fB j)) A U H ∧ va_Z "java/lang/String" "COMPACT_STRINGS" "Z" (.int 1) A U H ∧ va_Z "jdk/internal/util/Preconditions" "SIOOBE_FORMATTER" "Ljava/util/function/BiFunction;" (va_rf z) A U H
theorem SF.moved {k v : Nat} {z : Option Nat} {A : Nat → Prop} {u U : State} {H : Heap} (hvm : u.vm.Alike U.vm) (h : SF k v z A u H) : SF k v z A U H := ⟨va_O.moved hvm h.1, va_OF.moved hvm h.2.1, va_OF.moved hvm h.2.2.1, va_T.moved hvm h.2.2.2.1, va_Z.moved hvm h.2.2.2.2.1, va_Z.moved hvm h.2.2.2.2.2⟩
theorem SF.kept {k v : Nat} {z : Option Nat} {A : Nat → Prop} {U : State} {H H1 : Heap} (h : SF k v z A U H) (hq : ∀ a : Nat, a < H.size → ¬ A a → H1[a]? = H[a]?) : SF k v z A U H1 := ⟨h.1.kept hq, h.2.1.kept hq, h.2.2.1.kept hq, h.2.2.2.1.kept hq, h.2.2.2.2.1.kept hq, h.2.2.2.2.2.kept hq⟩
theorem SF.narrow {k v : Nat} {z : Option Nat} {A B : Nat → Prop} {U : State} {H : Heap} (h : SF k v z A U H) (hAB : ∀ q, B q → A q) : SF k v z B U H := ⟨h.1.narrow hAB, h.2.1.narrow hAB, h.2.2.1.narrow hAB, h.2.2.2.1.narrow hAB, h.2.2.2.2.1.narrow hAB, h.2.2.2.2.2.narrow hAB⟩
def sPc (vs : List Value) (k v : Nat) (z : Option Nat) : Array Value → State → Prop := va_Pc vs (fun U => SF k v z (fun _ => False) U U.heap)
def sQi (r0 : Int32) : Array Value → State → Outcome → State → Prop := va_Qi (fun (r : Int32) (_ : Nat) => r = r0) (fun _ _ => True) (fun _ => False)
def sQv : Array Value → State → Outcome → State → Prop := va_Qv (fun (_ : Nat) => True) (fun _ _ => True) (fun _ => False)
theorem sPc_blind {vs : List Value} {k v : Nat} {z : Option Nat} : FrameBlind (sPc vs k v z) := fun a U g mk q => ⟨q.1, SF.moved (u := U) (U := U.calling g mk a) (Vm.Alike.refl U.vm) q.2⟩
theorem sPc_pre {vs : List Value} {k v : Nat} {z : Option Nat} {A : Nat → Prop} {s : State} {H : Heap} {locs : List Loc} (h : SF k v z A s s.heap) (hS : va_S A s.heap H locs) : ∀ U : State, U.heap = H → s.WarmedH U.vm → sPc vs k v z vs.toArray U := fun U hU hW => ⟨rfl, by show SF k v z (fun _ => False) U U.heap; rw [hU]; exact ((h.kept hS.2.1).narrow (fun _ q => q.elim)).moved hW.alike⟩
theorem sl_startI {l : Launch} {y : MethodName} {code : ByteArray} {n : Nat} {ty : FieldType} {rm : Room} {vs : List Value} {k v : Nat} {z : Option Nat} {r0 : Int32} (hy : plainName y.cls = true) (hn : (lg_sl vs).length ≤ n)
    (body : ∀ (p : Program) (e : Env) (s : State) (m : MethodId) (args : Array Value) (below : List Frame) (meth : Method) (c : Code) (Q : State → Prop), p.tables.exec = Jvm.exec → c.code = code → c.maxLocals = n → s.vm.findClass y.cls = some m.cls → (∀ w ∈ TB, w.before args s = true) → SF k v z (fun _ => False) s s.heap → (∀ (H : Heap) (locs : List Loc) (pc : Nat) (ls : Array Slot), va_S (fun _ => False) s.heap H locs → narrow ty (.int r0) = .int r0 → decode code pc = .ok (.ireturn, 1) → W p l e rm s m args below meth c H locs 0 0 Q (F0 m pc ls [.int r0])) → ∀ ls : Array Slot, lv_has ls n (lv_args 0 vs) → W p l e rm s m args below meth c s.heap [] 0 0 Q (F0 m 0 ls [])) : Met l y (Cond.code y code n (some ty) :: TB) rm (sPc vs k v z) (sQi r0) 0 0 (fun _ => False) := by
  refine Met.ofW (cc := code) (maxL := n) (ret := (some ty)) hy rfl ?_
  intro p e s m args below meth c s₁ B hml hv
  obtain ⟨rfl, hF⟩ := hv
  have hts := atoms_spec (ws := Cond.code y code n (some ty) :: TB) B.pre
  have hl := lv_entry vs (n := n) hn
  rw [lg_entry_eq]
  generalize (lg_sl vs ++ List.replicate (n - (lg_sl vs).length) Slot.unset).toArray = ls at hl ⊢
  exact body p e s m _ below meth c _ B.exec B.bytes hml (findClass_of_methodNamed B.named) (fun w hw => hts w (List.mem_cons_of_mem _ hw)) hF (fun H locs pc ls hS1 hn1 hd1 => W.zret B.exec B.bytes B.returns hn1 (fun t ht hW => ⟨⟨r0, (0 : Nat), rfl, rfl, trivial⟩, hS1.F ht⟩) hS1.2.2 hd1 (hlocks := B.notSynchronized)) ls hl
theorem sl_startV {l : Launch} {y : MethodName} {code : ByteArray} {n : Nat} {rm : Room} {vs : List Value} {k v : Nat} {z : Option Nat} (hy : plainName y.cls = true) (hn : (lg_sl vs).length ≤ n)
    (body : ∀ (p : Program) (e : Env) (s : State) (m : MethodId) (args : Array Value) (below : List Frame) (meth : Method) (c : Code) (Q : State → Prop), p.tables.exec = Jvm.exec → c.code = code → c.maxLocals = n → s.vm.findClass y.cls = some m.cls → (∀ w ∈ TB, w.before args s = true) → SF k v z (fun _ => False) s s.heap → (∀ (H : Heap) (locs : List Loc) (pc : Nat) (ls : Array Slot), va_S (fun _ => False) s.heap H locs → decode code pc = .ok (.return_, 1) → W p l e rm s m args below meth c H locs 0 0 Q (F0 m pc ls [])) → ∀ ls : Array Slot, lv_has ls n (lv_args 0 vs) → W p l e rm s m args below meth c s.heap [] 0 0 Q (F0 m 0 ls [])) : Met l y (Cond.code y code n none :: TB) rm (sPc vs k v z) sQv 0 0 (fun _ => False) := by
  refine Met.ofW (cc := code) (maxL := n) (ret := none) hy rfl ?_
  intro p e s m args below meth c s₁ B hml hv
  obtain ⟨rfl, hF⟩ := hv
  have hts := atoms_spec (ws := Cond.code y code n none :: TB) B.pre
  have hl := lv_entry vs (n := n) hn
  rw [lg_entry_eq]
  generalize (lg_sl vs ++ List.replicate (n - (lg_sl vs).length) Slot.unset).toArray = ls at hl ⊢
  exact body p e s m _ below meth c _ B.exec B.bytes hml (findClass_of_methodNamed B.named) (fun w hw => hts w (List.mem_cons_of_mem _ hw)) hF (fun H locs pc ls hS1 hd1 => W.vret B.exec B.bytes B.returns (fun t ht hW => ⟨⟨(0 : Nat), rfl, trivial, trivial⟩, hS1.F ht⟩) hS1.2.2 hd1 (hlocks := B.notSynchronized)) ls hl
abbrev rm_s0 : Room := { frames := 0, cells := 0, slots := 0, locals := 0 }
set_option maxHeartbeats 4000000 in
theorem cs_coder (l : Launch) (k v : Nat) (z : Option Nat) : Met l y_Str_coder_7d493 (Cond.code y_Str_coder_7d493 b_Str_coder_7d493 1 (some .byte) :: TB) rm_s0 (sPc [.ref k] k v z) (sQi 0) 0 0 (fun _ => False) := by
  refine sl_startI (by decide) (Nat.le_of_ble_eq_true rfl) ?_
  intro p e s m args below meth c Q hx hb hml hown hts hF ret ls hl
  have hS : va_S (fun _ => False) s.heap s.heap [] := va_S.rf
  have hl : lv_has ls 1 [(0, .ref k)] := hl
  refine va_gets hx hb hF.2.2.2.2.1 hS hown (hts _ q199) (fun _ h9 => h9) d_Str_coder_7d493_0 ?_
  refine lv_if_eq (tgt := 13) hx hb d_Str_coder_7d493_3 (by decide) (fun h => absurd h (by decide)) (fun _ => ?_)
  refine lv_aload_n hx hb d_Str_coder_7d493_6 rfl (lv_at hl 0 rfl) ?_
  refine vk_getf hx hb hF.2.1 hS hown (hts _ q918) (fun _ h9 => h9) d_Str_coder_7d493_7 ?_
  refine lv_goto (tgt := 14) hx hb d_Str_coder_7d493_10 (by decide) ?_
  exact ret _ _ _ _ hS rfl d_Str_coder_7d493_14
set_option maxHeartbeats 4000000 in
theorem cs_isLatin1 (l : Launch) (k v : Nat) (z : Option Nat) : Met l y_Str_isLatin1_aae02 (Cond.code y_Str_isLatin1_aae02 b_Str_isLatin1_aae02 1 (some .boolean) :: TB) rm_s0 (sPc [.ref k] k v z) (sQi 1) 0 0 (fun _ => False) := by
  refine sl_startI (by decide) (Nat.le_of_ble_eq_true rfl) ?_
  intro p e s m args below meth c Q hx hb hml hown hts hF ret ls hl
  have hS : va_S (fun _ => False) s.heap s.heap [] := va_S.rf
  have hl : lv_has ls 1 [(0, .ref k)] := hl
  refine va_gets hx hb hF.2.2.2.2.1 hS hown (hts _ q199) (fun _ h9 => h9) d_Str_isLatin1_aae02_0 ?_
  refine lv_if_eq (tgt := 17) hx hb d_Str_isLatin1_aae02_3 (by decide) (fun h => absurd h (by decide)) (fun _ => ?_)
  refine lv_aload_n hx hb d_Str_isLatin1_aae02_6 rfl (lv_at hl 0 rfl) ?_
  refine vk_getf hx hb hF.2.1 hS hown (hts _ q918) (fun _ h9 => h9) d_Str_isLatin1_aae02_7 ?_
  refine lv_if_ne (tgt := 17) hx hb d_Str_isLatin1_aae02_10 (by decide) (fun h => absurd rfl h) (fun _ => ?_)
  refine lv_iconst (v := (1 : Int32)) hx hb d_Str_isLatin1_aae02_13 (by decide) ?_
  refine lv_goto (tgt := 18) hx hb d_Str_isLatin1_aae02_14 (by decide) ?_
  exact ret _ _ _ _ hS rfl d_Str_isLatin1_aae02_18
set_option maxHeartbeats 4000000 in
theorem cs_Pre (l : Launch) (k v : Nat) (z : Option Nat) (i : Nat) (hi : i < 68) : Met l y_Pre_checkIndex_8e157 (Cond.code y_Pre_checkIndex_8e157 b_Pre_checkIndex_8e157 3 (some .int) :: TB) rm_s0 (sPc [.int (nI i), .int 68, va_rf z] k v z) (sQi (nI i)) 0 0 (fun _ => False) := by
  refine sl_startI (by decide) (by cases z <;> exact Nat.le_of_ble_eq_true rfl) ?_
  intro p e s m args below meth c Q hx hb hml hown hts hF ret ls hl
  have hS : va_S (fun _ => False) s.heap s.heap [] := va_S.rf
  have hl : lv_has ls 3 [(0, .int (nI i)), (1, .int 68), (2, va_rf z)] := by cases z <;> exact hl
  refine lv_iload_n hx hb d_Pre_checkIndex_8e157_0 rfl (lv_at hl 0 rfl) ?_
  refine lv_if_lt (tgt := 9) hx hb d_Pre_checkIndex_8e157_1 (by decide) (fun h => absurd h (nI_pos (by omega))) (fun _ => ?_)
  refine lv_iload_n hx hb d_Pre_checkIndex_8e157_4 rfl (lv_at hl 0 rfl) ?_
  refine lv_iload_n hx hb d_Pre_checkIndex_8e157_5 rfl (lv_at hl 1 rfl) ?_
  refine lv_icmp_lt (tgt := 16) hx hb d_Pre_checkIndex_8e157_6 (by decide) (fun _ => ?_) (fun h => absurd ((nI_ltI (a := i) (b := 68) (by omega) (by omega)).mpr hi) h)
  refine lv_iload_n hx hb d_Pre_checkIndex_8e157_16 rfl (lv_at hl 0 rfl) ?_
  exact ret _ _ _ _ hS rfl d_Pre_checkIndex_8e157_17
