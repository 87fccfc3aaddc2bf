/-! how the constructors are walked -/
theorem fl_startN {S : Type} {l : Launch} {y : MethodName} {code : ByteArray} {n : Nat} {rm : Room} {vs : List Value} {D : va_G} {tys : List (ClassId × FieldType)} {sz : Nat} {w : va_W} {pm : S → Prop} {F : S → va_W} {A : Nat → Prop} {mc ms : Nat} (hy : plainName y.cls = true) (hn : (lg_sl vs).length ≤ n)
    (body : ∀ (p : Program) (e : Env) (s : State) (m : MethodId) (args : Array Value) (below : List Frame) (meth : Method) (c : Code) (Q : State → Prop), p.tables.exec = Jvm.exec → c.code = code → c.maxLocals = n → s.vm.findClass y.cls = some m.cls → meth.name = y.name → (∀ w ∈ TB, w.before args s = true) → s.heap.size = sz → va_P D xcl w s.heap → va_K D xcl tys s → xNw s → (∀ (u : S) (H : Heap) (locs : List Loc) (pc : Nat) (ls : Array Slot), pm u → va_P D xcl (F u) H → va_S A s.heap H locs → decode code pc = .ok (.return_, 1) → W p l e rm s m args below meth c H locs mc ms Q (F0 m pc ls [])) → ∀ ls : Array Slot, lv_has ls n (lv_args 0 vs) → W p l e rm s m args below meth c s.heap [] 0 0 Q (F0 m 0 ls [])) : Met l y (Cond.code y code n none :: TB) rm (fPc vs D tys sz w) (fQv pm D F A) mc ms A := by
  refine Met.ofW (cc := code) (maxL := n) (ret := none) hy rfl ?_
  intro p e s m args below meth c s₁ B hml hv
  obtain ⟨rfl, hsz, hP, hK, hN⟩ := hv
  have hts := atoms_spec (ws := Cond.code y code n none :: TB) B.pre
  have hl := lv_entry vs (n := n) hn
  rw [lg_entry_eq]
  generalize (lg_sl vs ++ List.replicate (n - (lg_sl vs).length) Slot.unset).toArray = ls at hl ⊢
  exact body p e s m _ below meth c _ B.exec B.bytes hml (findClass_of_methodNamed B.named) (name_of_methodNamed B.named B.method).1 (fun w hw => hts w (List.mem_cons_of_mem _ hw)) hsz hP hK hN (fun u H locs pc ls hu hP1 hS1 hd1 => W.vret B.exec B.bytes B.returns (fun t ht hW => ⟨⟨u, rfl, hu, by show va_P D xcl (F u) t.heap; rw [ht]; exact hP1⟩, hS1.F ht⟩) hS1.2.2 hd1 (hlocks := B.notSynchronized)) ls hl
section FINIT
variable {p : Program} {l : Launch} {e : Env} {R : Room} {s : State} {m : MethodId} {args : Array Value} {below : List Frame} {meth : Method} {c : Code} {H : Heap} {locs : List Loc} {cells slots : Nat} {Q : State → Prop} {cc code : ByteArray} {pc : Nat} {ls : Array Slot} {rest As st : List Value} {nL maxL n idx mc ms : Nat} {own : String} {y : MethodName} {rm : Room} {D : va_G} {tys : List (ClassId × FieldType)} {w : va_W} {Qc : Array Value → State → Outcome → State → Prop} {A A1 : Nat → Prop} {H0 : Heap} {b : Nat}
theorem fRunI (hx : p.tables.exec = Jvm.exec) (hb : c.code = cc) (hml : c.maxLocals = nL) (hown : s.vm.findClass own = some m.cls) (hts : ∀ w ∈ TB, w.before args s = true) (hK : va_K D xcl tys s) (hN : xNw s) (hP : va_P D xcl w H)
    (hM : Met l y (Cond.code y code maxL none :: TB) rm (fPc (.ref b :: As) D tys H.size w) Qc mc ms A1) (h1 : Cond.methodLink own idx y ∈ TB) (h2 : Cond.instanceMethod y ∈ TB) (h4 : Cond.initialized y.cls ∈ TB) (h5 : Cond.code y code maxL none ∈ TB) (hnm : y.name = "<init>")
    (hd : y.cls ≠ "java/lang/invoke/MethodHandle" ∧ y.cls ≠ "java/lang/invoke/VarHandle" ∧ (parseMethodDescriptor y.desc).map (fun d => d.parameters.length) = some n) (hrc : rm.cells = mc) (hrs : rm.slots = ms) (hR : rm.frames + 1 ≤ R.frames ∧ 8 + (maxL + 11) + rm.locals ≤ R.locals)
    (hn : As.length = n) (hls : ls.size = nL) (hst : st = As.reverse ++ .ref b :: rest) (hW : (rest.map fun v => v.category).sum ≤ 8) (hdg : decode cc pc = .ok (.invokespecial idx, 3)) (hf : cells + mc ≤ R.cells ∧ slots + ms ≤ R.slots) :
    va_Run p l e R s m args below meth c H locs cells slots mc ms (F0 m pc ls st) rest (Qc (Value.ref b :: As).toArray) A1 :=
  va_runI (As := As) (rest := rest) ⟨hx, hb, hml, hown, hts⟩ hM (cwI n hts (gC h5) rfl hrc hrs (hts _ h4) (hts _ h1) (hts _ h2) hnm hd hR) ⟨fPc_blind, fPc_pre hK hN hP⟩ rfl hn hls hst (lv_room hW) hdg hf
theorem fRunIN {host : String} (hx : p.tables.exec = Jvm.exec) (hb : c.code = cc) (hml : c.maxLocals = nL) (hown : s.vm.findClass own = some m.cls) (hts : ∀ w ∈ TB, w.before args s = true) (hK : va_K D xcl tys s) (hN : xNw s) (hP : va_P D xcl w H)
    (hM : Met l y (Cond.code y code maxL none :: TB) rm (fPc (.ref b :: As) D tys H.size w) Qc mc ms A1) (h1 : va_Nw (.methodLinkNest own idx y host) s) (h2 : Cond.instanceMethod y ∈ TB) (h4 : Cond.initialized y.cls ∈ TB) (h5 : Cond.code y code maxL none ∈ TB) (hnm : y.name = "<init>")
    (hd : y.cls ≠ "java/lang/invoke/MethodHandle" ∧ y.cls ≠ "java/lang/invoke/VarHandle" ∧ (parseMethodDescriptor y.desc).map (fun d => d.parameters.length) = some n) (hrc : rm.cells = mc) (hrs : rm.slots = ms) (hR : rm.frames + 1 ≤ R.frames ∧ 8 + (maxL + 11) + rm.locals ≤ R.locals)
    (hn : As.length = n) (hls : ls.size = nL) (hst : st = As.reverse ++ .ref b :: rest) (hW : (rest.map fun v => v.category).sum ≤ 8) (hdg : decode cc pc = .ok (.invokespecial idx, 3)) (hf : cells + mc ≤ R.cells ∧ slots + ms ≤ R.slots) :
    va_Run p l e R s m args below meth c H locs cells slots mc ms (F0 m pc ls st) rest (Qc (Value.ref b :: As).toArray) A1 :=
  va_runIN (As := As) (rest := rest) ⟨hx, hb, hml, hown, hts⟩ hM ⟨va_cnB n hts (gC h5) rfl hrc hrs h1 (hts _ h4) hd hR, hnm, hts _ h2⟩ ⟨fPc_blind, fPc_pre hK hN hP⟩ rfl hn hls hst (lv_room hW) hdg hf
theorem fCallN {S : Type} {pm : S → Prop} {F : S → va_W} {av : Array Value} (hr : va_Run p l e R s m args below meth c H locs cells slots mc ms (F0 m pc ls st) rest (fQv pm D F A1 av) A1) (hS : va_S A H0 H locs) (hsub : ∀ q, A1 q → A q)
    (kk : ∀ (u : S) (H1 : Heap) (locs1 : List Loc), pm u → va_P D xcl (F u) H1 → va_S A H0 H1 locs1 → H.size ≤ H1.size → (∀ q : Nat, q < H.size → ¬ A1 q → H1[q]? = H[q]?) → W p l e R s m args below meth c H1 locs1 (cells + mc) (slots + ms) Q (F0 m (pc + 3) ls rest)) : W p l e R s m args below meth c H locs cells slots Q (F0 m pc ls st) :=
  va_callv hr hS (fun q _ h => hsub q h) hsub (fun u t H1 locs1 ht hvm hw hB hz1 hk1 hS1 => by
    rw [ht] at hB
    exact kk u H1 locs1 hw hB hS1 hz1 hk1)
end FINIT
/-- one class of int arrays -/
theorem one_int {D : va_G} {cl : List vw_C} {c1 c2 : ClassId} {s : State} {t1 t2 : List (ClassId × FieldType)} (h : va_K D cl (t1 ++ (c1, .int) :: t2 ++ [(c2, .int)]) s) : c2 = c1 := by
  have a := va_nm_int (h.2 t1.length (c1, .int) (by simp)).2
  have b := va_nm_int (h.2 (t1 ++ (c1, .int) :: t2).length (c2, .int) (by simp)).2
  rw [a] at b
  exact (Option.some.inj b).symm
