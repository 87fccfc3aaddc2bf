/-! minutes and guests in a text -/
def tw (n : Nat) (T : Nat → Nat) (D p : Nat) : Option (Nat × Nat × Nat) := (spx n T 44 p).bind fun a => (spx n T 59 a.2).bind fun b => if a.1 < D ∧ 1 ≤ b.1 ∧ b.1 ≤ 60 then some (a.1, b.1, b.2) else none
theorem xl1 {q : Nat} (hq : q = 6 ∨ q = 10) : xlen (q + 1) = 9 := by rcases hq with rfl | rfl <;> rfl
theorem xl2 {q : Nat} (hq : q = 6 ∨ q = 10) : xlen (q + 2) = 54 := by rcases hq with rfl | rfl <;> rfl
theorem xl3 {q : Nat} (hq : q = 6 ∨ q = 10) : xlen (q + 3) = 6 := by rcases hq with rfl | rfl <;> rfl
theorem x_min {q : Nat} (hq : q = 6 ∨ q = 10) {x : Hp} {n p D : Nat} {T : Nat → Nat} (R : Rdx x n T p) (hD : x q 0 = nI D) (hD6 : D ≤ 6) :
    (tw n T D p = none ∧ ∃ x', x_Reader_readMinutes q x = some (0, x') ∧ FX q x x') ∨
    ∃ d v p' x', tw n T D p = some (d, v, p') ∧ x_Reader_readMinutes q x = some (1, x') ∧ x' 1 2 = nI p' ∧ x' (q + 3) d = nI v ∧ ∀ k j, ¬ (k = 1 ∧ j = 2) → ¬ (k = q + 3 ∧ j = d) → x' k j = x k j := by
  unfold x_Reader_readMinutes tw
  rcases x_num hq R with ⟨h1, h2⟩ | ⟨d, k, x1, h1, h2, h3, h4⟩
  · have hs : spx n T 44 p = none := by unfold spx; rw [h1]; rfl
    rw [hs, h2, bS, x_hasDishN hD (Or.inl (show (-1 : Int32) < 0 by decide)), bS, if_pos i0]
    exact Or.inl ⟨rfl, _, rfl, FX.rf⟩
  · have hb := num_ok h1
    have f1 : FX q x x1 := fun a b z1 z2 => h4 a b z2
    have R1 : Rdx x1 n T k := R.to hq f1 h3 hb.2.2
    have hD1 : x1 q 0 = nI D := (h4 q 0 (by omega)).trans hD
    rw [h2, bS]
    dsimp only
    by_cases hd : d < D
    · rw [x_hasDishY hD1 (by omega) hd, bS, if_neg i1, l44, x_skip (by omega) R1]
      by_cases hs : k < n ∧ T k = 44
      · have hsp : spx n T 44 p = some (d, k + 1) := by unfold spx; rw [h1, bS, if_pos hs]
        have R2 : Rdx (wr x1 1 2 (nI (k + 1))) n T (k + 1) := R1.to hq (FX.rf.wr _ (Or.inr ⟨rfl, rfl⟩)) (wr_self _ _ _ _) (by omega)
        rw [if_pos hs, bS, if_neg i1, hsp, bS]
        dsimp only
        rcases x_num hq R2 with ⟨g1, g2⟩ | ⟨v, k2, x2, g1, g2, g3, g4⟩
        · have hs2 : spx n T 59 (k + 1) = none := by unfold spx; rw [g1]; rfl
          rw [g2, bS, x_put (by rw [xl3 hq]; omega), bS, show x_Nm_isOutside (-1) (1 : Int32) (60 : Int32) (wr (wr x1 1 2 (nI (k + 1))) (q + 3) d (-1)) = some 1 from x_outN (Or.inl (by decide)) _, bS, if_neg i1, hs2]
          exact Or.inl ⟨rfl, _, rfl, (f1.wr _ (Or.inr ⟨rfl, rfl⟩)).wr _ (Or.inl (by omega))⟩
        · have gb := num_ok g1
          have f2 : FX q x (wr x2 (q + 3) d (nI v)) := fun a b z1 z2 => by rw [wr_ne _ _ (by omega), g4 a b z2, wr_ne _ _ (by omega)]; exact h4 a b z2
          have R3 : Rdx (wr x2 (q + 3) d (nI v)) n T k2 := R.to hq f2 (by rw [wr_ne _ _ (by omega)]; exact g3) gb.2.2
          rw [g2, bS]
          dsimp only
          rw [x_put (by rw [xl3 hq]; omega), bS]
          by_cases hr : 1 ≤ v ∧ v ≤ 60
          · rw [show x_Nm_isOutside (nI v) (1 : Int32) (60 : Int32) (wr x2 (q + 3) d (nI v)) = some 0 from x_outY (lo := 1) (hi := 60) hr.1 hr.2 (by omega) _, bS, if_pos i0, l59, x_skip (by omega) R3]
            by_cases ht : k2 < n ∧ T k2 = 59
            · have hs2 : spx n T 59 (k + 1) = some (v, k2 + 1) := by unfold spx; rw [g1, bS, if_pos ht]
              rw [if_pos ht, bS, if_neg i1, hs2, bS, if_pos ⟨hd, hr⟩]
              refine Or.inr ⟨d, v, k2 + 1, wr (wr x2 (q + 3) d (nI v)) 1 2 (nI (k2 + 1)), rfl, rfl, wr_self _ _ _ _, ?_, fun a b z1 z2 => ?_⟩
              · rw [wr_ne _ _ (by omega), wr_self]
              · rw [wr_ne _ _ (by omega), wr_ne _ _ (by omega), g4 a b z1, wr_ne _ _ (by omega)]; exact h4 a b z1
            · have hs2 : spx n T 59 (k + 1) = none := by unfold spx; rw [g1, bS, if_neg ht]
              rw [if_neg ht, bS, if_pos i0, hs2]
              exact Or.inl ⟨rfl, _, rfl, f2⟩
          · rw [show x_Nm_isOutside (nI v) (1 : Int32) (60 : Int32) (wr x2 (q + 3) d (nI v)) = some 1 from x_outN (lo := nI 1) (hi := nI 60) (by
              rcases Nat.lt_or_ge v 1 with z | z
              · exact Or.inl ((nI_ltI (by omega) (by omega)).mpr z)
              · exact Or.inr ⟨fun w => by rw [nLT (by omega) (by omega)] at w; omega, nI_ge (by omega) (by omega)⟩) _, bS, if_neg i1]
            refine Or.inl ⟨?_, _, rfl, f2⟩
            cases hs2 : spx n T 59 (k + 1) with
            | none => rfl
            | some b =>
              have e := spx_ok (v := b.1) (p' := b.2) hs2
              obtain ⟨-, -, -, k', e1, -⟩ := e
              rw [g1] at e1
              cases e1
              rw [bS, if_neg (fun z => hr z.2)]
      · have hsp : spx n T 44 p = none := by unfold spx; rw [h1, bS, if_neg hs]
        rw [if_neg hs, bS, if_pos i0, hsp]
        exact Or.inl ⟨rfl, _, rfl, f1⟩
    · rw [x_hasDishN hD1 (Or.inr (nI_le (by omega) (by omega))), bS, if_pos i0]
      refine Or.inl ⟨?_, _, rfl, f1⟩
      cases hsp : spx n T 44 p with
      | none => rfl
      | some a =>
        obtain ⟨-, -, -, k', e1, -⟩ := spx_ok (v := a.1) (p' := a.2) hsp
        rw [h1] at e1
        cases e1
        rw [bS]
        cases hs2 : spx n T 59 a.2 with
        | none => rfl
        | some b => rw [bS, if_neg (fun z => hd z.1)]
theorem m_nums2 {y : Hp} {n p : Nat} {T : Nat → Nat} (R : Rdm y n T p) :
    (((spx n T 44 p).bind fun a => spx n T 59 a.2) = none ∧ ∃ y', m_Mo_numbers (nI 2) y = some (0, y') ∧ FM y y') ∨
    ∃ d p1 v p' y', spx n T 44 p = some (d, p1) ∧ spx n T 59 p1 = some (v, p') ∧ m_Mo_numbers (nI 2) y = some (1, y') ∧ FM y y' ∧ y' 0 12 = nI p' ∧ y' 8 0 = nI d ∧ y' 8 1 = nI v ∧ (∀ j, y' 3 j = y 3 j) := by
  have e0 : m_Mo_numbers (nI 2) y = m_Mo_numbers_b2 (nI 2) (397 + 1 + 1 + 1) (nI 0) y := rfl
  rw [e0, m_Mo_numbers_b2, if_neg (nI_ge (by omega) (by omega))]
  rcases m_num1 R (kf := m_Mo_numbers_b2 (nI 2) (397 + 1 + 1)) (N := 2) (x2 := 0) (by omega) (by omega) with ⟨h1, y', h2, h3⟩ | ⟨d, p1, y1, h1, h2, h3, h4, h5, h6, h7⟩
  · exact Or.inl ⟨by rw [show spx n T 44 p = none from h1]; rfl, y', h2, h3⟩
  · have h1' : spx n T 44 p = some (d, p1) := h1
    have R1 : Rdm y1 n T p1 := R.to h3 h4 (spx_ok h1').2.2.1
    have e1 : m_Mo_numbers_b12 (m_Mo_numbers_b2 (nI 2) (397 + 1 + 1)) (nI 2) FU (nI 0) 0 0 y = m_Mo_numbers_b12 (m_Mo_numbers_b2 (nI 2) (397 + 1)) (nI 2) FU (nI 1) 0 0 y1 := h2.trans (by rw [m_Mo_numbers_b2, if_neg (nI_ge (by omega) (by omega))])
    rw [e1, h1', bS]
    rcases m_num1 R1 (kf := m_Mo_numbers_b2 (nI 2) (397 + 1)) (N := 2) (x2 := 1) (by omega) (by omega) with ⟨g1, y', g2, g3⟩ | ⟨v, p2, y2, g1, g2, g3, g4, g5, g6, g7⟩
    · exact Or.inl ⟨g1, y', g2, h3.tr g3⟩
    · refine Or.inr ⟨d, p1, v, p2, y2, rfl, g1, g2.trans ?_, h3.tr g3, g4, (g6 0 (by omega)).trans h5, g5, fun j => (g7 j).trans (h7 j)⟩
      rw [m_Mo_numbers_b2, if_pos (nI_le (by omega) (by omega))]
def gok (n : Nat) (T : Nat → Nat) (D p d : Nat) : Prop := (∀ j, d ≤ j → j < D → dgt n T (p + 1 + j) = true) ∧ p + 1 + D < n ∧ T (p + 1 + D) = 59
theorem x_g_loop {q : Nat} (hq : q = 6 ∨ q = 10) {n p D i : Nat} {T : Nat → Nat} (hD6 : D ≤ 6) (hi : i < 9) : ∀ (z d f : Nat) (x : Hp), d + z = D → z < f → Rdx x n T (p + 1 + d) → x q 0 = nI D → x q 1 = nI i →
    (¬ gok n T D p d ∧ ∃ x', x_Reader_readGuest_b41 q f (nI i) (nI d) x = some (0, x') ∧ FX q x x') ∨
    (gok n T D p d ∧ ∃ x', x_Reader_readGuest_b41 q f (nI i) (nI d) x = some (1, x') ∧ x' 1 2 = nI (p + D + 2) ∧ x' q 1 = nI (i + 1) ∧ (∀ j, d ≤ j → j < D → x' (q + 2) (i * 6 + j) = nI (T (p + 1 + j) - 48)) ∧ ∀ k j, ¬ (k = 1 ∧ j = 2) → ¬ (k = q ∧ j = 1) → ¬ (k = q + 2 ∧ i * 6 + d ≤ j ∧ j < i * 6 + D) → x' k j = x k j) := by
  intro z
  induction z with
  | zero =>
    intro d f x hd hf R h0 h1
    obtain ⟨f, rfl⟩ : ∃ z, f = z + 1 := ⟨f - 1, by omega⟩
    obtain rfl : d = D := by omega
    have R1 : Rdx (wr x q 1 (nI (i + 1))) n T (p + 1 + d) := R.to hq (FX.rf.wr _ (Or.inl (by omega))) (by rw [wr_ne _ _ (by omega)]; exact R.2.2.2.1) R.2.2.2.2
    rw [x_Reader_readGuest_b41, h0, if_pos (nI_le (by omega) (by omega)), bS, h1, nI_1, l59, x_skip (by omega) R1]
    by_cases hs : p + 1 + d < n ∧ T (p + 1 + d) = 59
    · rw [if_pos hs, bS, if_pos (Or.inr rfl)]
      refine Or.inr ⟨⟨fun j h2 h3 => by omega, hs⟩, _, rfl, ?_, ?_, fun j h2 h3 => by omega, fun k j a b c => ?_⟩
      · dsimp only; rw [wr_self, show p + 1 + d + 1 = p + d + 2 by omega]
      · dsimp only; rw [wr_ne _ _ (by omega), wr_self]
      · dsimp only; rw [wr_ne _ _ (by omega), wr_ne _ _ (by omega)]
    · rw [if_neg hs, bS, if_pos (Or.inl rfl)]
      exact Or.inl ⟨fun q => hs q.2, _, rfl, FX.rf.wr _ (Or.inl (by omega))⟩
  | succ z ih =>
    intro d f x hd hf R h0 h1
    obtain ⟨f, rfl⟩ : ∃ z, f = z + 1 := ⟨f - 1, by omega⟩
    rw [x_Reader_readGuest_b41, h0, if_neg (nI_ge (by omega) (by omega)), x_fig R]
    by_cases hg : dgt n T (p + 1 + d) = true
    · have a1 := dgt_y.mp hg
      rw [if_pos hg, bS, if_neg (nI_nm1 (by omega)), l6, nMul, nI_add, x_put (by rw [xl2 hq]; omega), bS, nI_1]
      have f1 : FX q x (wr (wr x 1 2 (nI (p + 1 + d + 1))) (q + 2) (i * 6 + d) (nI (T (p + 1 + d) - 48))) := (FX.rf.wr _ (Or.inr ⟨rfl, rfl⟩)).wr _ (Or.inl (by omega))
      rcases ih (d + 1) f (wr (wr x 1 2 (nI (p + 1 + d + 1))) (q + 2) (i * 6 + d) (nI (T (p + 1 + d) - 48))) (by omega) (by omega) (R.to hq f1 (by rw [wr_ne _ _ (by omega), wr_self]; rfl) (by omega)) (by rw [wr_ne _ _ (by omega), wr_ne _ _ (by omega)]; exact h0) (by rw [wr_ne _ _ (by omega), wr_ne _ _ (by omega)]; exact h1) with ⟨g1, x', g2, g3⟩ | ⟨g1, x', g2, g3, g4, g5, g6⟩
      · exact Or.inl ⟨fun q => g1 ⟨fun j h2 h3 => q.1 j (by omega) h3, q.2⟩, x', g2, f1.tr g3⟩
      · refine Or.inr ⟨⟨fun j h2 h3 => ?_, g1.2⟩, x', g2, g3, g4, fun j h2 h3 => ?_, fun k j a b c => ?_⟩
        · by_cases hjd : j = d
          · rw [hjd]; exact hg
          · exact g1.1 j (by omega) h3
        · by_cases hjd : j = d
          · rw [hjd, g6 _ _ (by omega) (by omega) (by omega), wr_self]
          · exact g5 j (by omega) h3
        · rw [g6 k j a b (by omega), wr_ne _ _ (by omega), wr_ne _ _ (by omega)]
    · rw [if_neg hg, bS, if_pos rfl]
      exact Or.inl ⟨fun q => hg (q.1 d (by omega) (by omega)), _, rfl, FX.rf⟩
theorem sub_neg : ∀ L, L < 48 → nI L - 48 < nI 0 := by decide +kernel
theorem m_dg2 {y : Hp} {n p : Nat} {T : Nat → Nat} (h : Hp) (R : Rdm y n T p) (k : Nat) {hi : Nat} (hh : hi ≤ 9) : m_Mo_in (nI (ltr n T k) - 48).toInt64 (lN 0) (lN hi) h = some (bI (dgt n T k && decide (T k ≤ 48 + hi))) := by
  have hl := ltr_lt R k
  by_cases hd : dgt n T k = true ∧ T k ≤ 48 + hi
  · have h1 := dgt_y.mp hd.1
    rw [hd.1, decide_eq_true hd.2, show ltr n T k = T k from by unfold ltr; rw [if_pos h1.1], show (48 : Int32) = nI 48 from rfl, nSub h1.2.1]
    exact m_inY (Nat.zero_le _) (by omega) (by omega) h
  · rw [show (dgt n T k && decide (T k ≤ 48 + hi)) = false from by
      cases h1 : dgt n T k with
      | false => rfl
      | true => rw [decide_eq_false (fun z => hd ⟨h1, z⟩)]; rfl]
    refine m_inN (by omega) (by omega) ?_ h
    rcases Nat.lt_or_ge (ltr n T k) 48 with r | r
    · exact Or.inl (sub_neg _ r)
    · rw [show (48 : Int32) = nI 48 from rfl, nSub r]
      refine Or.inr ⟨nI_n0 (by omega), nI_ge ?_ (by omega)⟩
      unfold ltr at r ⊢
      by_cases hk : k < n
      · rw [if_pos hk] at r ⊢
        rcases Nat.lt_or_ge hi (T k - 48) with s | s
        · exact s
        · exact absurd ⟨dgt_y.mpr ⟨hk, r, by omega⟩, by omega⟩ hd
      · rw [if_neg hk] at r; omega
theorem m_g_loop {n p D i : Nat} {T : Nat → Nat} (hD6 : D ≤ 6) (hi : i < 9) : ∀ (z d f : Nat) (y : Hp), d + z = D → z < f → Rdm y n T (p + 1 + d) → y 3 0 = nI D → y 3 1 = nI i →
    (¬ gok n T D p d ∧ ∃ y', m_Mo_guestItem_b17 f (nI i) (nI (d + 1)) y = some (0, y') ∧ FM y y') ∨
    (gok n T D p d ∧ ∃ y', m_Mo_guestItem_b17 f (nI i) (nI (d + 1)) y = some (1, y') ∧ FM y y' ∧ y' 0 12 = nI (p + D + 2) ∧ y' 3 1 = nI (i + 1) ∧ (∀ j, d ≤ j → j < D → y' 3 (20 + 6 * i + j) = nI (T (p + 1 + j) - 48)) ∧ ∀ j, j ≠ 1 → ¬ (20 + 6 * i + d ≤ j ∧ j < 20 + 6 * i + D) → y' 3 j = y 3 j) := by
  intro z
  induction z with
  | zero =>
    intro d f y hd hf R h0 h1
    obtain ⟨f, rfl⟩ : ∃ z, f = z + 1 := ⟨f - 1, by omega⟩
    obtain rfl : d = D := by omega
    have hk := R.2.2.2.2
    have hn := R.1
    have hl := ltr_lt R (p + 1 + d)
    rw [m_Mo_guestItem_b17, h0, if_pos ((nI_ltI (by omega) (by omega)).mpr (by omega)), R.2.2.2.1, m_letter R _ (by omega), bS, l59]
    have e1 : ∀ s, (s = 0 ∨ s = 1) → m_Mo_guestItem_b122 s y = some (s, wr (wr y 0 12 (nI (p + d + 2))) 3 1 (nI (i + 1))) := fun s hs => by
      unfold m_Mo_guestItem_b122
      rw [bS, bS, R.2.2.2.1, wr_ne _ _ (a := 3) (b := 1) (by omega), h1, nI_1, nI_1, if_pos hs, show p + 1 + d + 1 = p + d + 2 by omega]
    have f1 : FM y (wr (wr y 0 12 (nI (p + d + 2))) 3 1 (nI (i + 1))) := (FM.rf.wr _ (Or.inr (Or.inr ⟨rfl, rfl⟩))).wr _ (Or.inl rfl)
    by_cases hs : p + 1 + d < n ∧ T (p + 1 + d) = 59
    · rw [if_pos (by rw [(ltr_c (by omega)).mpr hs]), e1 1 (Or.inr rfl)]
      refine Or.inr ⟨⟨fun j h2 h3 => by omega, hs⟩, _, rfl, f1, ?_, ?_, fun j h2 h3 => by omega, fun j a b => ?_⟩
      · rw [wr_ne _ _ (by omega), wr_self]
      · rw [wr_self]
      · rw [wr_ne _ _ (by omega), wr_ne _ _ (by omega)]
    · rw [if_neg (by rw [nEQ (by omega) (by omega)]; exact fun q => hs ((ltr_c (by omega)).mp q)), e1 0 (Or.inl rfl)]
      exact Or.inl ⟨fun q => hs q.2, _, rfl, f1⟩
  | succ z ih =>
    intro d f y hd hf R h0 h1
    obtain ⟨f, rfl⟩ : ∃ z, f = z + 1 := ⟨f - 1, by omega⟩
    have hk := R.2.2.2.2
    have hn := R.1
    rw [m_Mo_guestItem_b17, h0, if_neg (fun q => by rw [nLT (by omega) (by omega)] at q; omega), R.2.2.2.1, m_letter R _ (by omega), bS, bS, if_neg (show ¬ nI (d + 1) = 0 from by rw [l0, nEQ (by omega) (by omega)]; omega)]
    unfold m_Mo_guestItem_b55
    rw [show m_Mo_in (nI (ltr n T (p + 1 + d)) - 48).toInt64 (0 : Int64) (9 : Int64) y = _ from m_dg2 y R (p + 1 + d) (hi := 9) (by omega), bS]
    by_cases hg : dgt n T (p + 1 + d) = true
    · have a1 := dgt_y.mp hg
      rw [hg, decide_eq_true (show T (p + 1 + d) ≤ 48 + 9 by omega), Bool.true_and, bI_t, if_neg i1, if_neg (show ¬ nI (d + 1) = 0 from by rw [l0, nEQ (by omega) (by omega)]; omega)]
      unfold m_Mo_guestItem_b86
      rw [l19, l6, nMul, nI_add, nI_add, if_pos (inR_y (by omega) (by omega)), nI_cl (by omega), bS, bS, wr_ne _ _ (a := 0) (b := 12) (by omega), R.2.2.2.1, nI_1, nI_1, show 19 + 6 * i + (d + 1) = 20 + 6 * i + d by omega, show ltr n T (p + 1 + d) = T (p + 1 + d) from by unfold ltr; rw [if_pos a1.1], show (48 : Int32) = nI 48 from rfl, nSub a1.2.1]
      have f1 : FM y (wr (wr y 3 (20 + 6 * i + d) (nI (T (p + 1 + d) - 48))) 0 12 (nI (p + 1 + d + 1))) := (FM.rf.wr _ (Or.inl rfl)).wr _ (Or.inr (Or.inr ⟨rfl, rfl⟩))
      rcases ih (d + 1) f (wr (wr y 3 (20 + 6 * i + d) (nI (T (p + 1 + d) - 48))) 0 12 (nI (p + 1 + d + 1))) (by omega) (by omega) (R.to f1 (wr_self _ _ _ _) (by omega)) (by rw [wr_ne _ _ (by omega), wr_ne _ _ (by omega)]; exact h0) (by rw [wr_ne _ _ (by omega), wr_ne _ _ (by omega)]; exact h1) with ⟨g1, y', g2, g3⟩ | ⟨g1, y', g2, g3, g4, g5, g6, g7⟩
      · exact Or.inl ⟨fun q => g1 ⟨fun j h2 h3 => q.1 j (by omega) h3, q.2⟩, y', g2, f1.tr g3⟩
      · refine Or.inr ⟨⟨fun j h2 h3 => ?_, g1.2⟩, y', g2, f1.tr g3, g4, g5, fun j h2 h3 => ?_, fun j a b => ?_⟩
        · by_cases hjd : j = d
          · rw [hjd]; exact hg
          · exact g1.1 j (by omega) h3
        · by_cases hjd : j = d
          · rw [hjd, g7 _ (by omega) (by omega), wr_ne _ _ (by omega), wr_self]
          · exact g6 j (by omega) h3
        · rw [g7 j a (by omega), wr_ne _ _ (by omega), wr_ne _ _ (by omega)]
    · rw [show dgt n T (p + 1 + d) = false from by cases e : dgt n T (p + 1 + d) with | false => rfl | true => exact absurd e hg, Bool.false_and, bI_f, if_pos i0]
      exact Or.inl ⟨fun q => hg (q.1 d (by omega) (by omega)), _, rfl, FM.rf⟩
