/-! the two states held against each other -/
abbrev Cur : Type := Nat × Nat × Option Nat × Nat
def TX (h : Hp) (q : Nat) (c : Cur) : Prop := h q 0 = nI c.1 ∧ h q 1 = nI c.2.1 ∧ h q 2 = ob (-1) c.2.2.1 ∧ h q 3 = nI c.2.2.2
def TM (h : Hp) (r b V : Nat) (c : Cur) : Prop := h r b = nI c.1 ∧ h r (b + 1) = nI c.2.1 ∧ h r (b + 2) = ob (-4) c.2.2.1 ∧ ∀ i, i < 9 → h r (b + 3 + i) = nI (V - c.2.2.2 / 4 ^ i % 4)
def Cok (m : Mnu) (c : Cur) : Prop := c.1 ≤ 99 ∧ c.2.1 + 1 < 2 ^ dD m ∧ (∀ d, c.2.2.1 = some d → d < dD m) ∧ c.2.2.2 < 262144 ∧ ∀ i, i < 9 → c.2.2.2 / 4 ^ i % 4 ≤ dV m
abbrev Nte : Type := Nat × Nat × Nat × Nat × Nat
def NX (h : Hp) (q : Nat) (n : Nte) : Prop := h q 0 = nI n.1 ∧ h q 1 = nI n.2.1 ∧ h q 2 = nI n.2.2.1 ∧ h q 3 = nI n.2.2.2.1 ∧ h q 4 = nI n.2.2.2.2
def NM (h : Hp) (b : Nat) (n : Nte) : Prop := h 7 b = nI n.1 ∧ h 7 (b + 1) = nI n.2.1 ∧ h 7 (b + 2) = nI n.2.2.1 ∧ h 7 (b + 3) = nI n.2.2.2.1 ∧ h 7 (b + 4) = nI n.2.2.2.2
def Nok (m : Mnu) (n : Nte) : Prop := n.1 < dG m ∧ n.2.1 < dD m ∧ n.2.2.1 ≤ 1 ∧ n.2.2.2.1 ≤ 99 ∧ n.2.2.2.2 + 1 < 2 ^ dD m
def View (x y : Hp) (m : Mnu) (c : Cur) : Prop := Mok m ∧ Mx x 6 m ∧ Mm y 2 m ∧ Cok m c ∧ TX x 3 c ∧ TM y 4 0 (dV m) c
def Past (x y : Hp) (m : Mnu) (n : Nat) (P : Nat → Cur) : Prop := n ≤ 8 ∧ x 14 0 = nI n ∧ y 0 7 = nI n ∧ ∀ k, k < n → Cok m (P k) ∧ TX x (16 + k) (P k) ∧ TM y 5 (12 * k) (dV m) (P k)
def Kept (x y : Hp) (m : Mnu) (n : Nat) (P : Nat → Cur) : Prop := n ≤ 2 ∧ x 24 0 = nI n ∧ y 0 9 = nI n ∧ ∀ k, k < n → Cok m (P k) ∧ TX x (26 + k) (P k) ∧ TM y 6 (12 * k) (dV m) (P k)
def Ntes (x y : Hp) (m : Mnu) (n : Nat) (N : Nat → Nte) : Prop := n ≤ 8 ∧ x 28 0 = nI n ∧ y 0 11 = nI n ∧ ∀ k, k < n → Nok m (N k) ∧ NX x (30 + k) (N k) ∧ NM y (5 * k) (N k)
def Txt (x y : Hp) (n : Nat) (T : Nat → Nat) : Prop := n ≤ 200 ∧ x 1 1 = nI n ∧ y 0 0 = nI n ∧ ∀ k, k < n → x 2 k = nI (T k) ∧ y 1 k = nI (T k) ∧ 32 ≤ T k ∧ T k ≤ 126
def Cpl (x y : Hp) : Prop := ∃ (m : Mnu) (c : Cur) (nP : Nat) (P : Nat → Cur) (nK : Nat) (K : Nat → Cur) (nN : Nat) (N : Nat → Nte) (nT : Nat) (T : Nat → Nat), View x y m c ∧ Past x y m nP P ∧ Kept x y m nK K ∧ Ntes x y m nN N ∧ Txt x y nT T
/-- what is scratch in either state -/
def scX (k j : Nat) : Prop := k = 4 ∨ k = 5 ∨ (10 ≤ k ∧ k ≤ 13) ∨ (k = 1 ∧ j ≠ 1)
def scM (k j : Nat) : Prop := k = 3 ∨ k = 8 ∨ k = 9 ∨ (k = 0 ∧ (j = 4 ∨ j = 12))
def SX (x x' : Hp) : Prop := ∀ k j, ¬ scX k j → x' k j = x k j
def SM (y y' : Hp) : Prop := ∀ k j, ¬ scM k j → y' k j = y k j
theorem SX.rf {x : Hp} : SX x x := fun _ _ _ => rfl
theorem SM.rf {x : Hp} : SM x x := fun _ _ _ => rfl
theorem SX.tr {x y z : Hp} (a : SX x y) (b : SX y z) : SX x z := fun k j h => (b k j h).trans (a k j h)
theorem SM.tr {x y z : Hp} (a : SM x y) (b : SM y z) : SM x z := fun k j h => (b k j h).trans (a k j h)
theorem wr_at (h : Hp) (k j : Nat) (v : Int32) (a b : Nat) : wr h k j v a b = if a = k then (if b = j then v else h a b) else h a b := by
  unfold wr
  by_cases e : a = k
  · rw [if_pos e, if_pos e]; rfl
  · rw [if_neg e, if_neg e]
theorem wr_ne (h : Hp) {k j a b : Nat} (v : Int32) (e : ¬ (a = k ∧ b = j)) : wr h k j v a b = h a b := by
  rw [wr_at]
  by_cases e1 : a = k
  · rw [if_pos e1, if_neg (fun e2 => e ⟨e1, e2⟩)]
  · rw [if_neg e1]
theorem wr_self (h : Hp) (k j : Nat) (v : Int32) : wr h k j v k j = v := by rw [wr_at, if_pos rfl, if_pos rfl]
theorem SX.wr {x x' : Hp} {k j : Nat} (v : Int32) (s : SX x x') (h : scX k j) : SX x (wr x' k j v) := fun a b hn => (wr_ne x' v (fun e => hn (by rw [e.1, e.2]; exact h))).trans (s a b hn)
theorem SM.wr {x x' : Hp} {k j : Nat} (v : Int32) (s : SM x x') (h : scM k j) : SM x (wr x' k j v) := fun a b hn => (wr_ne x' v (fun e => hn (by rw [e.1, e.2]; exact h))).trans (s a b hn)
theorem nsX {k j : Nat} (h1 : k ≠ 4) (h2 : k ≠ 5) (h3 : k < 10 ∨ 13 < k) (h4 : k ≠ 1 ∨ j = 1) : ¬ scX k j := by unfold scX; omega
theorem nsM {k j : Nat} (h1 : k ≠ 3) (h2 : k ≠ 8) (h3 : k ≠ 9) (h4 : k ≠ 0 ∨ (j ≠ 4 ∧ j ≠ 12)) : ¬ scM k j := by unfold scM; omega
theorem TX.mv {x x' : Hp} {q : Nat} {c : Cur} (h : ∀ j, x' q j = x q j) (t : TX x q c) : TX x' q c := ⟨(h 0).trans t.1, (h 1).trans t.2.1, (h 2).trans t.2.2.1, (h 3).trans t.2.2.2⟩
theorem TM.mv {x x' : Hp} {r b V : Nat} {c : Cur} (h : ∀ j, x' r j = x r j) (t : TM x r b V c) : TM x' r b V c := ⟨(h _).trans t.1, (h _).trans t.2.1, (h _).trans t.2.2.1, fun i hi => (h _).trans (t.2.2.2 i hi)⟩
theorem Mx.mv {x x' : Hp} {q : Nat} {m : Mnu} (h : ∀ k j, q ≤ k → k ≤ q + 3 → x' k j = x k j) (t : Mx x q m) : Mx x' q m := ⟨(h q 0 (by omega) (by omega)).trans t.1, (h q 1 (by omega) (by omega)).trans t.2.1, (h q 2 (by omega) (by omega)).trans t.2.2.1, (h q 3 (by omega) (by omega)).trans t.2.2.2.1, (h q 4 (by omega) (by omega)).trans t.2.2.2.2.1, fun i hi => (h _ _ (by omega) (by omega)).trans (t.2.2.2.2.2.1 i hi), fun i d hi hd => (h _ _ (by omega) (by omega)).trans (t.2.2.2.2.2.2.1 i d hi hd), fun d hd => (h _ _ (by omega) (by omega)).trans (t.2.2.2.2.2.2.2 d hd)⟩
theorem Mm.mv {x x' : Hp} {r : Nat} {m : Mnu} (h : ∀ j, x' r j = x r j) (t : Mm x r m) : Mm x' r m := ⟨(h _).trans t.1, (h _).trans t.2.1, (h _).trans t.2.2.1, (h _).trans t.2.2.2.1, (h _).trans t.2.2.2.2.1, fun i hi => (h _).trans (t.2.2.2.2.2.1 i hi), fun i d hi hd => (h _).trans (t.2.2.2.2.2.2.1 i d hi hd), fun d hd => (h _).trans (t.2.2.2.2.2.2.2 d hd)⟩
theorem View.mv {x x' y y' : Hp} {m : Mnu} {c : Cur} (a : SX x x') (b : SM y y') (V : View x y m c) : View x' y' m c :=
  ⟨V.1, V.2.1.mv (fun k j h1 h2 => a k j (nsX (by omega) (by omega) (by omega) (by omega))), V.2.2.1.mv (fun j => b 2 j (nsM (by omega) (by omega) (by omega) (by omega))), V.2.2.2.1, V.2.2.2.2.1.mv (fun j => a 3 j (nsX (by omega) (by omega) (by omega) (by omega))), V.2.2.2.2.2.mv (fun j => b 4 j (nsM (by omega) (by omega) (by omega) (by omega)))⟩
theorem Past.mv {x x' y y' : Hp} {m : Mnu} {n : Nat} {P : Nat → Cur} (a : SX x x') (b : SM y y') (V : Past x y m n P) : Past x' y' m n P :=
  ⟨V.1, (a 14 0 (nsX (by omega) (by omega) (by omega) (by omega))).trans V.2.1, (b 0 7 (nsM (by omega) (by omega) (by omega) (by omega))).trans V.2.2.1, fun k hk => ⟨(V.2.2.2 k hk).1, (V.2.2.2 k hk).2.1.mv (fun j => a _ j (nsX (by omega) (by omega) (by omega) (by omega))), (V.2.2.2 k hk).2.2.mv (fun j => b 5 j (nsM (by omega) (by omega) (by omega) (by omega)))⟩⟩
theorem Kept.mv {x x' y y' : Hp} {m : Mnu} {n : Nat} {P : Nat → Cur} (a : SX x x') (b : SM y y') (V : Kept x y m n P) : Kept x' y' m n P :=
  ⟨V.1, (a 24 0 (nsX (by omega) (by omega) (by omega) (by omega))).trans V.2.1, (b 0 9 (nsM (by omega) (by omega) (by omega) (by omega))).trans V.2.2.1, fun k hk => ⟨(V.2.2.2 k hk).1, (V.2.2.2 k hk).2.1.mv (fun j => a _ j (nsX (by omega) (by omega) (by omega) (by omega))), (V.2.2.2 k hk).2.2.mv (fun j => b 6 j (nsM (by omega) (by omega) (by omega) (by omega)))⟩⟩
theorem Ntes.mv {x x' y y' : Hp} {m : Mnu} {n : Nat} {N : Nat → Nte} (a : SX x x') (b : SM y y') (V : Ntes x y m n N) : Ntes x' y' m n N :=
  ⟨V.1, (a 28 0 (nsX (by omega) (by omega) (by omega) (by omega))).trans V.2.1, (b 0 11 (nsM (by omega) (by omega) (by omega) (by omega))).trans V.2.2.1, fun k hk => by
    have a1 := fun j => a (30 + k) j (nsX (by omega) (by omega) (by omega) (by omega))
    have b1 := fun j => b 7 j (nsM (by omega) (by omega) (by omega) (by omega))
    obtain ⟨h1, h2, h3⟩ := V.2.2.2 k hk
    exact ⟨h1, ⟨(a1 _).trans h2.1, (a1 _).trans h2.2.1, (a1 _).trans h2.2.2.1, (a1 _).trans h2.2.2.2.1, (a1 _).trans h2.2.2.2.2⟩, ⟨(b1 _).trans h3.1, (b1 _).trans h3.2.1, (b1 _).trans h3.2.2.1, (b1 _).trans h3.2.2.2.1, (b1 _).trans h3.2.2.2.2⟩⟩⟩
theorem Txt.mv {x x' y y' : Hp} {n : Nat} {T : Nat → Nat} (a : SX x x') (b : SM y y') (V : Txt x y n T) : Txt x' y' n T :=
  ⟨V.1, (a 1 1 (nsX (by omega) (by omega) (by omega) (by omega))).trans V.2.1, (b 0 0 (nsM (by omega) (by omega) (by omega) (by omega))).trans V.2.2.1, fun k hk => ⟨(a 2 k (nsX (by omega) (by omega) (by omega) (by omega))).trans (V.2.2.2 k hk).1, (b 1 k (nsM (by omega) (by omega) (by omega) (by omega))).trans (V.2.2.2 k hk).2.1, (V.2.2.2 k hk).2.2⟩⟩
theorem Cpl.mv {x x' y y' : Hp} (a : SX x x') (b : SM y y') (C : Cpl x y) : Cpl x' y' := by
  obtain ⟨m, c, nP, P, nK, K, nN, N, nT, T, h1, h2, h3, h4, h5⟩ := C
  exact ⟨m, c, nP, P, nK, K, nN, N, nT, T, h1.mv a b, h2.mv a b, h3.mv a b, h4.mv a b, h5.mv a b⟩
theorem Cpl.view {x y : Hp} (C : Cpl x y) : ∃ m c, View x y m c := by
  obtain ⟨m, c, nP, P, nK, K, nN, N, nT, T, h1, -⟩ := C
  exact ⟨m, c, h1⟩
theorem lok_lf {m : Mnu} {g : Nat} (om : Mok m) (h : g + 1 < 2 ^ dD m) : Lok m (lf (dD m) g) := by
  have hD := om.D
  refine ⟨lf_lt _ _ hD.2, ?_, fun d hd => lf_in (by omega) hd⟩
  unfold lf
  omega
theorem x_at {h : Hp} {m : Mnu} {t g : Nat} (om : Mok m) (hx : Mx h 6 m) (ht : t ≤ 99) (hg : g + 1 < 2 ^ dD m) : ∃ h', x_Nm_at (nI t) (nI g) h = some h' ∧ Xm h' m t (lf (dD m) g) ∧ SX h h' ∧ (∀ k j, k ≠ 5 → h' k j = h k j) := by
  have hD := om.D
  refine ⟨wr (wr h 5 1 (nI t)) 5 2 (nI (lf (dD m) g)), ?_, ⟨om, hx.mv (fun k j h1 h2 => ?_), ?_, ht, wr_self _ _ _ _, (lok_lf om hg).1⟩, (SX.rf.wr _ (Or.inr (Or.inl rfl))).wr _ (Or.inr (Or.inl rfl)), fun k j hk => ?_⟩
  · unfold x_Nm_at x_Menu_allDishes
    rw [bS, bS]
    rw [show wr h 5 1 (nI t) 6 0 = nI (dD m) by rw [wr_ne _ _ (by omega)]; exact hx.1, lf_I (dD m) (by omega) g (by omega)]
    rfl
  · rw [wr_ne _ _ (by omega), wr_ne _ _ (by omega)]
  · rw [wr_ne _ _ (by omega), wr_self]
  · rw [wr_ne _ _ (by omega), wr_ne _ _ (by omega)]
theorem x_now {x y : Hp} {m : Mnu} {c : Cur} (V : View x y m c) : ∃ h', x_Nm_now x = some h' ∧ Xm h' m c.1 (lf (dD m) c.2.1) ∧ SX x h' := by
  obtain ⟨h', e1, e2, e3, -⟩ := x_at V.1 V.2.1 V.2.2.2.1.1 V.2.2.2.1.2.1
  refine ⟨h', ?_, e2, e3⟩
  unfold x_Nm_now
  rw [V.2.2.2.2.1.1, V.2.2.2.2.1.2.1, e1]
  rfl
theorem View.Y {x y : Hp} {m : Mnu} {c : Cur} (V : View x y m c) : Yn y m c.1 c.2.1 := ⟨⟨V.1, V.2.2.1⟩, V.2.2.2.2.2.1, V.2.2.2.1.1, V.2.2.2.2.2.2.1, by have := V.2.2.2.1.2.1; omega⟩
theorem View.L {x y : Hp} {m : Mnu} {c : Cur} (V : View x y m c) : Lok m (lf (dD m) c.2.1) := lok_lf V.1 V.2.2.2.1.2.1
theorem mst_ex {m : Mnu} {t L : Nat} {w : Option Nat} (o : Lok m L) : ∃ d, mst m t L w = some d ∧ d < dD m ∧ L.testBit d = true := by
  obtain ⟨d, h1, h2⟩ := Lok_ex o
  obtain ⟨b, hb⟩ := fmx_some (p := fun d => L.testBit d) (f := fun d => sa m t w d) h1 h2
  exact ⟨b, hb, fmx_lt hb⟩
theorem fdr_ex {m : Mnu} {t L : Nat} (o : Lok m L) : ∃ d, fdr m t L = some d ∧ d < dD m ∧ L.testBit d = true := by
  obtain ⟨d, h1, h2⟩ := Lok_ex o
  obtain ⟨b, hb⟩ := fmx_some (p := fun d => L.testBit d) (f := frk m t) h1 h2
  exact ⟨b, hb, fmx_lt hb⟩
theorem fav_ex {m : Mnu} {t L i : Nat} (o : Lok m L) : ∃ d, fav m t L i = some d ∧ d < dD m ∧ L.testBit d = true := by
  obtain ⟨d, h1, h2⟩ := Lok_ex o
  obtain ⟨b, hb⟩ := fmx_some (p := fun d => L.testBit d) (f := fun d => wv m t i d) h1 h2
  exact ⟨b, hb, fmx_lt hb⟩
/-- what a call of the class and of the reference have to do with each other -/
def Sim (f : Hp → Option (Int32 × Hp)) (g : Hp → Option (Int32 × Hp)) : Prop := ∀ x y, Cpl x y → ∃ r x' y', f x = some (r, x') ∧ g y = some (r, y') ∧ Cpl x' y'
def Sim1 (f : Hp → Option (Int32 × Hp)) (g : Hp → Option Int32) : Prop := ∀ x y, Cpl x y → ∃ r x', f x = some (r, x') ∧ g y = some r ∧ Cpl x' y
