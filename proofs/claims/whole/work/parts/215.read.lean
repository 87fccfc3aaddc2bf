/-! the reading of a text -/
def dgt (n : Nat) (T : Nat → Nat) (p : Nat) : Bool := decide (p < n) && (decide (48 ≤ T p) && decide (T p ≤ 57))
def num (n : Nat) (T : Nat → Nat) (p : Nat) : Option (Nat × Nat) := if dgt n T p = true then (if dgt n T (p + 1) = true then some (10 * (T p - 48) + (T (p + 1) - 48), p + 2) else some (T p - 48, p + 1)) else none
def spx (n : Nat) (T : Nat → Nat) (c p : Nat) : Option (Nat × Nat) := (num n T p).bind fun z => if z.2 < n ∧ T z.2 = c then some (z.1, z.2 + 1) else none
theorem dgt_y {n : Nat} {T : Nat → Nat} {p : Nat} : dgt n T p = true ↔ p < n ∧ 48 ≤ T p ∧ T p ≤ 57 := by
  unfold dgt
  rw [Bool.and_eq_true, Bool.and_eq_true, decide_eq_true_eq, decide_eq_true_eq, decide_eq_true_eq]
theorem num_ok {n : Nat} {T : Nat → Nat} {p v p' : Nat} (h : num n T p = some (v, p')) : v ≤ 99 ∧ p < p' ∧ p' ≤ n := by
  unfold num at h
  by_cases h1 : dgt n T p = true
  · rw [if_pos h1] at h
    have a1 := dgt_y.mp h1
    by_cases h2 : dgt n T (p + 1) = true
    · rw [if_pos h2] at h
      have a2 := dgt_y.mp h2
      cases h
      omega
    · rw [if_neg h2] at h
      cases h
      omega
  · rw [if_neg h1] at h; cases h
theorem spx_ok {n : Nat} {T : Nat → Nat} {c p v p' : Nat} (h : spx n T c p = some (v, p')) : v ≤ 99 ∧ p < p' ∧ p' ≤ n ∧ ∃ k, num n T p = some (v, k) ∧ k < n ∧ T k = c ∧ p' = k + 1 := by
  unfold spx at h
  cases hz : num n T p with
  | none => rw [hz] at h; cases h
  | some z =>
    rw [hz, bS] at h
    by_cases hc : z.2 < n ∧ T z.2 = c
    · rw [if_pos hc] at h
      cases h
      have := num_ok (v := z.1) (p' := z.2) hz
      exact ⟨this.1, by omega, by omega, z.2, rfl, hc.1, hc.2, rfl⟩
    · rw [if_neg hc] at h; cases h
def Rdx (x : Hp) (n : Nat) (T : Nat → Nat) (p : Nat) : Prop := n ≤ 200 ∧ x 1 1 = nI n ∧ (∀ k, k < n → x 2 k = nI (T k) ∧ 32 ≤ T k ∧ T k ≤ 126) ∧ x 1 2 = nI p ∧ p ≤ n
def Rdm (y : Hp) (n : Nat) (T : Nat → Nat) (p : Nat) : Prop := n ≤ 200 ∧ y 0 0 = nI n ∧ (∀ k, k < n → y 1 k = nI (T k) ∧ 32 ≤ T k ∧ T k ≤ 126) ∧ y 0 12 = nI p ∧ p ≤ n
def FX (q : Nat) (x x' : Hp) : Prop := ∀ k j, ¬ (q ≤ k ∧ k ≤ q + 3) → ¬ (k = 1 ∧ j = 2) → x' k j = x k j
def FM (y y' : Hp) : Prop := ∀ k j, k ≠ 3 → k ≠ 8 → ¬ (k = 0 ∧ j = 12) → y' k j = y k j
theorem FX.rf {q : Nat} {x : Hp} : FX q x x := fun _ _ _ _ => rfl
theorem FM.rf {y : Hp} : FM y y := fun _ _ _ _ _ => rfl
theorem FX.tr {q : Nat} {x y z : Hp} (a : FX q x y) (b : FX q y z) : FX q x z := fun k j h1 h2 => (b k j h1 h2).trans (a k j h1 h2)
theorem FM.tr {x y z : Hp} (a : FM x y) (b : FM y z) : FM x z := fun k j h1 h2 h3 => (b k j h1 h2 h3).trans (a k j h1 h2 h3)
theorem FX.wr {q : Nat} {x x' : Hp} {k j : Nat} (v : Int32) (s : FX q x x') (h : (q ≤ k ∧ k ≤ q + 3) ∨ (k = 1 ∧ j = 2)) : FX q x (wr x' k j v) := fun a b h1 h2 => (wr_ne x' v (fun e => by rcases h with h | h <;> omega)).trans (s a b h1 h2)
theorem FM.wr {x x' : Hp} {k j : Nat} (v : Int32) (s : FM x x') (h : k = 3 ∨ k = 8 ∨ (k = 0 ∧ j = 12)) : FM x (wr x' k j v) := fun a b h1 h2 h3 => (wr_ne x' v (fun e => by omega)).trans (s a b h1 h2 h3)
theorem Rdx.to {q : Nat} (hq : q = 6 ∨ q = 10) {x x' : Hp} {n : Nat} {T : Nat → Nat} {p p' : Nat} (R : Rdx x n T p) (f : FX q x x') (h : x' 1 2 = nI p') (hp : p' ≤ n) : Rdx x' n T p' :=
  ⟨R.1, (f 1 1 (by omega) (by omega)).trans R.2.1, fun k hk => ⟨(f 2 k (by omega) (by omega)).trans (R.2.2.1 k hk).1, (R.2.2.1 k hk).2⟩, h, hp⟩
theorem Rdm.to {y y' : Hp} {n : Nat} {T : Nat → Nat} {p p' : Nat} (R : Rdm y n T p) (f : FM y y') (h : y' 0 12 = nI p') (hp : p' ≤ n) : Rdm y' n T p' :=
  ⟨R.1, (f 0 0 (by omega) (by omega) (by omega)).trans R.2.1, fun k hk => ⟨(f 1 k (by omega) (by omega) (by omega)).trans (R.2.2.1 k hk).1, (R.2.2.1 k hk).2⟩, h, hp⟩
theorem x_peek {x : Hp} {n p : Nat} {T : Nat → Nat} (R : Rdx x n T p) : x_Reader_peek x = some (if p < n then nI (T p) else -1) := by
  obtain ⟨hn, h1, ht, h2, hp⟩ := R
  unfold x_Reader_peek
  rw [h1, h2, if_neg (nI_n0 (by omega))]
  by_cases h : p < n
  · rw [if_neg (nI_ge (by omega) (by omega)), l200, if_neg (nI_ge (by omega) (by omega)), if_pos (inR_y (show p < xlen 2 from by show p < 200; omega) (xlen_lt 2)), nI_cl (by omega), (ht p h).1, if_pos h]
  · rw [if_pos (nI_le (by omega) (by omega)), if_neg h]
theorem x_fig {x : Hp} {n p : Nat} {T : Nat → Nat} (R : Rdx x n T p) : x_Reader_figure x = if dgt n T p = true then some (nI (T p - 48), wr x 1 2 (nI (p + 1))) else some (-1, x) := by
  unfold x_Reader_figure
  rw [x_peek R, bS]
  by_cases h : p < n
  · have hb := (R.2.2.1 p h).2
    rw [if_pos h]
    by_cases hd : 48 ≤ T p ∧ T p ≤ 57
    · rw [show x_Nm_isOutside (nI (T p)) 48 57 x = some 0 from x_outY (lo := 48) (hi := 57) hd.1 hd.2 (by omega) x, bS, if_pos i0, bS, R.2.2.2.1, nI_1, show (48 : Int32) = nI 48 from rfl, nSub hd.1, if_pos (dgt_y.mpr ⟨h, hd⟩)]
    · rw [show x_Nm_isOutside (nI (T p)) 48 57 x = some 1 from x_outN (lo := nI 48) (hi := nI 57) (by
        rcases Nat.lt_or_ge (T p) 48 with q | q
        · exact Or.inl ((nI_ltI (by omega) (by omega)).mpr q)
        · exact Or.inr ⟨fun z => by rw [nLT (by omega) (by omega)] at z; omega, nI_ge (by omega) (by omega)⟩) x, bS, if_neg i1, if_neg (fun z => hd (dgt_y.mp z).2)]
  · rw [if_neg h, show x_Nm_isOutside (-1) 48 57 x = some 1 from x_outN (lo := 48) (hi := 57) (Or.inl (by decide)) x, bS, if_neg i1, if_neg (fun z => h (dgt_y.mp z).1)]
theorem x_num {q : Nat} (hq : q = 6 ∨ q = 10) {x : Hp} {n p : Nat} {T : Nat → Nat} (R : Rdx x n T p) : (num n T p = none ∧ x_Reader_number x = some (-1, x)) ∨ ∃ v p' x', num n T p = some (v, p') ∧ x_Reader_number x = some (nI v, x') ∧ x' 1 2 = nI p' ∧ (∀ k j, ¬ (k = 1 ∧ j = 2) → x' k j = x k j) := by
  unfold x_Reader_number num
  rw [x_fig R]
  by_cases h : dgt n T p = true
  · have h1 := dgt_y.mp h
    have R1 : Rdx (wr x 1 2 (nI (p + 1))) n T (p + 1) := R.to hq (FX.rf.wr _ (Or.inr ⟨rfl, rfl⟩)) (wr_self _ _ _ _) (by omega)
    rw [if_pos h, if_pos h, bS, if_neg (nI_nm1 (by omega)), x_fig R1]
    by_cases h' : dgt n T (p + 1) = true
    · have h2 := dgt_y.mp h'
      rw [if_pos h', if_pos h', bS, if_neg (nI_nm1 (by omega)), l10, nMul, nI_add]
      exact Or.inr ⟨_, _, wr (wr x 1 2 (nI (p + 1))) 1 2 (nI (p + 1 + 1)), rfl, rfl, wr_self _ _ _ _, fun k j hk => by rw [wr_ne _ _ hk, wr_ne _ _ hk]⟩
    · rw [if_neg h', if_neg h', bS, if_pos rfl]
      exact Or.inr ⟨_, _, wr x 1 2 (nI (p + 1)), rfl, rfl, wr_self _ _ _ _, fun k j hk => by rw [wr_ne _ _ hk]⟩
  · rw [if_neg h, if_neg h, bS, if_pos rfl]
    exact Or.inl ⟨rfl, rfl⟩
theorem x_skip {x : Hp} {n p c : Nat} {T : Nat → Nat} (hc : c < 127) (R : Rdx x n T p) : x_Reader_skip (nI c) x = if p < n ∧ T p = c then some (1, wr x 1 2 (nI (p + 1))) else some (0, x) := by
  unfold x_Reader_skip
  rw [x_peek R, bS]
  by_cases h : p < n
  · have hb := (R.2.2.1 p h).2
    rw [if_pos h]
    by_cases hd : T p = c
    · rw [if_pos (by rw [hd]), if_pos ⟨h, hd⟩, bS, R.2.2.2.1, nI_1]
    · rw [if_neg (by rw [nEQ (by omega) (by omega)]; exact hd), if_neg (fun z => hd z.2)]
  · rw [if_neg h, if_neg (fun e => nI_nm1 (a := c) (by omega) e.symm), if_neg (fun z => h z.1)]
def ltr (n : Nat) (T : Nat → Nat) (p : Nat) : Nat := if p < n then T p else 0
theorem ltr_lt {y : Hp} {n p : Nat} {T : Nat → Nat} (R : Rdm y n T p) (k : Nat) : ltr n T k ≤ 126 := by
  unfold ltr
  by_cases h : k < n
  · rw [if_pos h]; exact (R.2.2.1 k h).2.2
  · rw [if_neg h]; omega
theorem ltr_dg {n p : Nat} {T : Nat → Nat} : (48 ≤ ltr n T p ∧ ltr n T p ≤ 57) ↔ dgt n T p = true := by
  rw [dgt_y]
  unfold ltr
  by_cases h : p < n
  · rw [if_pos h]; exact ⟨fun z => ⟨h, z⟩, fun z => z.2⟩
  · rw [if_neg h]; exact ⟨fun z => by omega, fun z => by omega⟩
theorem ltr_c {n p c : Nat} {T : Nat → Nat} (hc : 0 < c) : ltr n T p = c ↔ p < n ∧ T p = c := by
  unfold ltr
  by_cases h : p < n
  · rw [if_pos h]; exact ⟨fun z => ⟨h, z⟩, fun z => z.2⟩
  · rw [if_neg h]; exact ⟨fun z => by omega, fun z => by omega⟩
theorem m_letter {y : Hp} {n p : Nat} {T : Nat → Nat} (R : Rdm y n T p) (k : Nat) (hk : k < 1000) : m_Mo_letterAt (nI k) y = some (nI (ltr n T k)) := by
  obtain ⟨hn, h1, ht, h2, hp⟩ := R
  unfold m_Mo_letterAt ltr
  rw [h1]
  by_cases h : k < n
  · rw [if_neg (nI_ge (by omega) (by omega)), if_pos (inR_y (by omega) (by omega)), nI_cl (by omega), (ht k h).1, if_pos h]
  · rw [if_pos (nI_le (by omega) (by omega)), if_neg h]; rfl
theorem m_dg {y : Hp} {n p : Nat} {T : Nat → Nat} (h : Hp) (R : Rdm y n T p) (k : Nat) : m_Mo_in (nI (ltr n T k)).toInt64 48 57 h = some (bI (dgt n T k)) := by
  have hl := ltr_lt R k
  cases hd : dgt n T k with
  | true =>
    have := ltr_dg.mpr hd
    exact m_inY (lo := 48) (hi := 57) this.1 this.2 (by omega) h
  | false =>
    refine m_inN (lo := 48) (hi := 57) (by omega) (by omega) ?_ h
    rcases Nat.lt_or_ge (ltr n T k) 48 with q | q
    · exact Or.inl ((nI_ltI (by omega) (by omega)).mpr q)
    · refine Or.inr ⟨fun z => by rw [nLT (by omega) (by omega)] at z; omega, nI_ge ?_ (by omega)⟩
      rcases Nat.lt_or_ge 57 (ltr n T k) with r | r
      · exact r
      · have := ltr_dg.mp ⟨q, r⟩; rw [hd] at this; exact absurd this (by decide)
