/-! what the law's rounds stand on -/
theorem nPc_blind {b k v : Nat} {z : Option Nat} {D : va_G} {tys : List (ClassId × FieldType)} {sz : Nat} : FrameBlind (nPc b k v z D tys sz) := fun a U g mk q => ⟨q.1, q.2.1, q.2.2.1, va_K.moved (u := U) (U := U.calling g mk a) (Vm.Alike.refl U.vm) q.2.2.2.1, q.2.2.2.2.1.calling, SF.moved (u := U) (U := U.calling g mk a) (Vm.Alike.refl U.vm) q.2.2.2.2.2.1, vk_R.same (u := U) (U := U.calling g mk a) rfl q.2.2.2.2.2.2⟩
theorem nPc_pre {b k v : Nat} {z : Option Nat} {D : va_G} {tys : List (ClassId × FieldType)} {A : Nat → Prop} {s : State} {H : Heap} {locs : List Loc} (hK : va_K D xcl tys s) (hN : xNw s) (hP : va_P D xcl [(b, .inr (0, [.null, .null, .null, .null, .null, .null, .null, .null, .null]))] H) (hF : SF k v z A s s.heap) (hS : va_S A s.heap H locs) (hR : vk_R R_Nm 64 FTs k s) (hsub : ∀ q, xA (fun _ => b) 1 H.size q → A q) : ∀ U : State, U.heap = H → s.WarmedH U.vm → nPc b k v z D tys H.size ([.ref b] : List Value).toArray U := fun U hU hW => ⟨rfl, by rw [hU], by rw [hU]; exact hP, va_K.moved hW.alike hK, hN.warm hW, by rw [hU]; exact ((hF.kept hS.2.1).narrow hsub).moved hW.alike, vk_R.warm hW hR⟩
/-- the two objects side by side -/
def LW (E : xE) (sz : Nat) (a : Nat → Nat) (mm : Nat) (a' : Nat → Nat) (hx hy : Hp) (H : Heap) : Prop := xInj a 38 ∧ xInj a' 10 ∧ (∀ i j, i < 38 → j < 10 → a i ≠ a' j) ∧ (∀ i, i < 38 → sz ≤ a i) ∧ (∀ j, j < 10 → sz ≤ a' j) ∧ va_P E.1 xcl (xV E a (a 6) (a 10) mm hx) H ∧ va_P E.1 xcl (mV (E.1, E.2.1) a' hy) H
theorem fst_of {a : Nat → Nat} {n : Nat} {ws : va_W} (hf : ws.map Prod.fst = (List.range n).map a) {k : Nat} {p : Nat × va_E} (h : ws[k]? = some p) : k < n ∧ p.1 = a k := by
  have h1 : (ws.map Prod.fst)[k]? = some p.1 := by rw [List.getElem?_map, h]; rfl
  rw [hf, List.getElem?_map] at h1
  by_cases hi : k < n
  · rw [List.getElem?_range hi] at h1
    exact ⟨hi, (Option.some.inj h1).symm⟩
  · rw [List.getElem?_eq_none (by simpa using hi)] at h1
    cases h1
/-- a world out of another call's reach is kept -/
theorem apart {D : va_G} {ws : va_W} {a a' : Nat → Nat} {n n' : Nat} {H H1 : Heap} (hP : va_P D xcl ws H) (hf : ws.map Prod.fst = (List.range n').map a') (hne : ∀ i j, i < n → j < n' → a i ≠ a' j) (hk : ∀ q : Nat, q < H.size → ¬ xA a n H.size q → H1[q]? = H[q]?) : va_P D xcl ws H1 := by
  refine hP.kept fun k p h => ?_
  obtain ⟨h1, h2⟩ := fst_of hf h
  have hlt : p.1 < H.size := (hP k p h).lt
  exact hk p.1 hlt fun z => z.elim (fun ⟨i, hi, e⟩ => hne i k hi h1 (by rw [← e, h2])) (fun z => absurd hlt (Nat.not_lt.mpr z))
theorem LW.x1 {E : xE} {sz : Nat} {a a1 : Nat → Nat} {mm m1 : Nat} {a' : Nat → Nat} {hx h9 hy : Hp} {H H1 : Heap} (h : LW E sz a mm a' hx hy H) (hi : xInj a1 38) (hs : ∀ k, k < 38 → ∃ j, j < 38 ∧ a1 k = a j) (hP : va_P E.1 xcl (xV E a1 (a1 6) (a1 10) m1 h9) H1) (hk : ∀ q : Nat, q < H.size → ¬ xA a 38 H.size q → H1[q]? = H[q]?) : LW E sz a1 m1 a' h9 hy H1 :=
  ⟨hi, h.2.1, fun i j h1 h2 e => by obtain ⟨k, h3, h4⟩ := hs i h1; exact h.2.2.1 k j h3 h2 (by rw [← h4, e]), fun i h1 => by obtain ⟨k, h3, h4⟩ := hs i h1; rw [h4]; exact h.2.2.2.1 k h3, h.2.2.2.2.1, hP, apart h.2.2.2.2.2.2 (n' := 10) rfl h.2.2.1 hk⟩
theorem LW.x0 {E : xE} {sz : Nat} {a : Nat → Nat} {mm m1 : Nat} {a' : Nat → Nat} {hx h9 hy : Hp} {H H1 : Heap} (h : LW E sz a mm a' hx hy H) (hP : va_P E.1 xcl (xV E a (a 6) (a 10) m1 h9) H1) (hk : ∀ q : Nat, q < H.size → ¬ xA a 38 H.size q → H1[q]? = H[q]?) : LW E sz a m1 a' h9 hy H1 := h.x1 h.1 (fun k hk => ⟨k, hk, rfl⟩) hP hk
theorem LW.m0 {E : xE} {sz : Nat} {a : Nat → Nat} {mm : Nat} {a' : Nat → Nat} {hx hy h9 : Hp} {H H1 : Heap} (h : LW E sz a mm a' hx hy H) (hP : va_P E.1 xcl (mV (E.1, E.2.1) a' h9) H1) (hk : ∀ q : Nat, q < H.size → ¬ xA a' 10 H.size q → H1[q]? = H[q]?) : LW E sz a mm a' hx h9 H1 :=
  ⟨h.1, h.2.1, h.2.2.1, h.2.2.2.1, h.2.2.2.2.1, apart h.2.2.2.2.2.1 (n' := 38) rfl (fun i j h1 h2 e => h.2.2.1 j i h2 h1 e.symm) hk, hP⟩
theorem LW.fx {E : xE} {a : Nat → Nat} {mm : Nat} {a' : Nat → Nat} {hx hy : Hp} {H0 H : Heap} {locs : List Loc} (h : LW E H0.size a mm a' hx hy H) (hS : va_S (fun q => H0.size ≤ q) H0 H locs) : ∀ q, xA a 38 H.size q → (fun q => H0.size ≤ q) q := fun q z => z.elim (fun ⟨i, hi, e⟩ => by rw [e]; exact h.2.2.2.1 i hi) (fun z => Nat.le_trans hS.1 z)
theorem LW.fm {E : xE} {a : Nat → Nat} {mm : Nat} {a' : Nat → Nat} {hx hy : Hp} {H0 H : Heap} {locs : List Loc} (h : LW E H0.size a mm a' hx hy H) (hS : va_S (fun q => H0.size ≤ q) H0 H locs) : ∀ q, xA a' 10 H.size q → (fun q => H0.size ≤ q) q := fun q z => z.elim (fun ⟨i, hi, e⟩ => by rw [e]; exact h.2.2.2.2.1 i hi) (fun z => Nat.le_trans hS.1 z)
theorem sc1 {j L : Nat} (hL : L ≤ 256) (hj : j + 4 ≤ L) : vp_in (nI j + 1) L := by rw [show (1 : Int32) = nI 1 from rfl, nI_add]; exact vp_in_nI (by omega) (by omega)
theorem sc2 {j L : Nat} (hL : L ≤ 256) (hj : j + 4 ≤ L) : vp_in (nI j + 2) L := by rw [show (2 : Int32) = nI 2 from rfl, nI_add]; exact vp_in_nI (by omega) (by omega)
theorem sc3 {j L : Nat} (hL : L ≤ 256) (hj : j + 4 ≤ L) : vp_in (nI j + 3) L := by rw [show (3 : Int32) = nI 3 from rfl, nI_add]; exact vp_in_nI (by omega) (by omega)
theorem lim4 : ∀ L, L < 4 → (nI L - 4).toInt = (L : Int) - 4 := by decide
theorem lim {j L : Nat} (hL : L ≤ 256) (hj : j ≤ 256) : nI L - 4 < nI j ↔ L < j + 4 := by
  rw [Int32.lt_iff_toInt_lt, nI_toInt (show j < 2 ^ 31 by omega)]
  have : (nI L - 4).toInt = (L : Int) - 4 := by
    by_cases h : L < 4
    · exact lim4 L h
    · rw [show (4 : Int32) = nI 4 from rfl, nSub (by omega), nI_toInt (by omega)]
      omega
  rw [this]
  omega
theorem next4 (j : Nat) : nI j + Int32.ofInt 4 = nI (j + 4) := by rw [show Int32.ofInt 4 = nI 4 from by decide, nI_add]
