/-! the calls that only ask -/
theorem y0 : nI 0 = 0 := rfl
theorem i1 : ¬ (1 : Int32) = 0 := by decide
theorem i0 : (0 : Int32) = 0 := rfl
theorem n1 : ¬ nI 1 = 0 := by decide
theorem z01 {j : Nat} (h : j ≤ 1) : j = 0 ∨ j = 1 := by omega
theorem xo01 {j : Nat} (h : j ≤ 1) (x : Hp) : x_Nm_isOutside (nI j) 0 1 x = some 0 := x_outY (lo := 0) (hi := 1) (Nat.zero_le _) h (by omega) x
theorem mi01 {j : Nat} (h : j ≤ 1) (x : Hp) : m_Mo_in (nI j).toInt64 0 1 x = some 1 := m_inY (lo := 0) (hi := 1) (Nat.zero_le _) h (by omega) x
theorem xo01n {p : Int32} (h : p < nI 0 ∨ (¬ p < nI 0 ∧ ¬ p ≤ nI 1)) (x : Hp) : x_Nm_isOutside p 0 1 x = some 1 := x_outN h x
theorem mi01n {p : Int32} (h : p < nI 0 ∨ (¬ p < nI 0 ∧ ¬ p ≤ nI 1)) (x : Hp) : m_Mo_in p.toInt64 0 1 x = some 0 := m_inN (lo := 0) (hi := 1) (by omega) (by omega) h x
theorem p_most (p : Int32) : Sim1 (x_Nm_most p) (m_Mo_most p) := by
  intro x y C
  rcases rng p 0 1 (by omega) (by omega) with ⟨j, -, hj, rfl⟩ | hb
  · obtain ⟨m, c, V⟩ := C.view
    obtain ⟨x1, e1, X, s1⟩ := x_now V
    have Y := V.Y
    have o := V.L
    obtain ⟨d, f1, f2, f3⟩ := mst_ex (t := c.1) (w := none) o
    have hx : ∀ q, x_Nm_most (nI q) x = (if q ≤ 1 then (if nI q = 0 then some (nI d, x1) else some (nI (sa m c.1 none d), x1)) else x_Nm_most (nI q) x) := fun q => by
      by_cases hq : q ≤ 1
      · rw [if_pos hq]
        unfold x_Nm_most
        rw [xo01 hq, bS, if_pos rfl, e1, bS, x_mostDish0 X, bS, f1, ob_s, x_together0 X f2, bS]
      · rw [if_neg hq]
    have hm : m_Mo_most (nI j) y = if nI j = 0 then some (nI d) else some (nI (sa m c.1 none d)) := by
      unfold m_Mo_most
      rw [mi01 hj, bS, if_neg (by decide), Y.2.2.2.1, m_leftBy Y.1 Y.2.2.2.2, bS, Y.2.1, m_mostToAll0 Y.1 Y.2.2.1 o.1, bS, f1, ob_s, m_sumOf0 Y.1 Y.2.2.1 f2, bS]
    rw [hx, hm, if_pos hj]
    by_cases h0 : nI j = 0
    · rw [if_pos h0, if_pos h0]; exact ⟨_, _, rfl, rfl, C.mv s1 SM.rf⟩
    · rw [if_neg h0, if_neg h0]; exact ⟨_, _, rfl, rfl, C.mv s1 SM.rf⟩
  · unfold x_Nm_most m_Mo_most
    rw [xo01n hb, mi01n hb, bS, bS, if_neg (by decide), if_pos rfl]
    exact ⟨_, _, rfl, rfl, C⟩
theorem sa100 {m : Mnu} {t d : Nat} (o : Mok m) : frk m t d / 100 = lw1 m t d := by
  have := sa_le (t := t) (d := d) (w := none) o
  unfold frk
  omega
theorem m_fair_loop {h : Hp} {m : Mnu} {t g : Nat} (Y : Yn h m t g) {p : Int32} (o : Lok m (lf (dD m) g)) {D : Nat} (hD0 : fdr m t (lf (dD m) g) = some D) : ∀ (k i n : Nat), i + k = dD m → k < n → m_Mo_fair_b21 p h n (ob (-4) (fmx (fun d => (lf (dD m) g).testBit d) (frk m t) i)) (ov (-4) (frk m t) (fmx (fun d => (lf (dD m) g).testBit d) (frk m t) i)) (nI i) = if p = 0 then some (nI D) else some (nI (lw1 m t D)) := by
  have hD := Y.1.1.D
  have hg6 := p6 hD.2 Y.2.2.2.2
  intro k
  induction k with
  | zero =>
    intro i n hi hn
    obtain ⟨n, rfl⟩ : ∃ z, n = z + 1 := ⟨n - 1, by omega⟩
    have hv := frk_le (t := t) (d := D) Y.1.1
    rw [m_Mo_fair_b21, Y.1.2.1, if_pos (nI_le (by omega) (by omega)), show i = dD m by omega]
    rw [show fmx (fun d => (lf (dD m) g).testBit d) (frk m t) (dD m) = some D from hD0, ob_s]
    show (if p = 0 then _ else some (nI (frk m t D) / 100)) = _
    rw [l100, nDiv (by omega) (by omega) (by omega), sa100 Y.1.1]
  | succ k ih =>
    intro i n hi hn
    obtain ⟨n, rfl⟩ : ∃ z, n = z + 1 := ⟨n - 1, by omega⟩
    have hr := ih (i + 1) n (by omega) (by omega)
    have hv : ∀ d, frk m t d < 2147483648 := fun d => by have := frk_le (t := t) (d := d) Y.1.1; omega
    have fs := fun s hs => fstep (p := fun d => (lf (dD m) g).testBit d) (f := frk m t) (i := i) (by omega) (fun d _ => hv d) (R := fun a b => m_Mo_fair_b21 p h n a b (nI (i + 1))) (s := s) hs
    rw [m_Mo_fair_b21, Y.1.2.1, if_neg (nI_ge (by omega) (by omega)), Y.2.2.2.1, m_has (by omega) (by omega), bS, ← hr]
    have hbit : (lf (dD m) g).testBit i = !g.testBit i := by rw [lf_bit Y.2.2.2.2, decide_eq_true (show i < dD m by omega), Bool.true_and]
    cases hb : g.testBit i with
    | true =>
      rw [bI_t, if_neg (by decide), m_Mo_fair_b87, m_Mo_fair_b101, m_Mo_fair_b101, nI_1]
      exact fs (-4) (by rw [if_neg (by show ¬ (lf (dD m) g).testBit i = true; rw [hbit, hb]; decide)])
    | false =>
      rw [bI_f, if_pos rfl, m_worstOff Y (by omega), bS, Y.2.1, m_wo Y (by omega), bS, m_sumOf0 Y.1 Y.2.2.1 (by omega), bS, m_Mo_fair_b87, m_Mo_fair_b101, m_Mo_fair_b101, nI_1, l100, nMul, nI_add]
      exact fs (nI (frk m t i)) (by rw [if_pos (by show (lf (dD m) g).testBit i = true; rw [hbit, hb]; rfl)])
theorem p_fair (p : Int32) : Sim1 (x_Nm_fair p) (m_Mo_fair p) := by
  intro x y C
  rcases rng p 0 1 (by omega) (by omega) with ⟨j, -, hj, rfl⟩ | hb
  · obtain ⟨m, c, V⟩ := C.view
    obtain ⟨x1, e1, X, s1⟩ := x_now V
    have Y := V.Y
    have o := V.L
    have hD := V.1.D
    obtain ⟨d, f1, f2, f3⟩ := fdr_ex (t := c.1) o
    have hx : x_Nm_fair (nI j) x = if nI j = 0 then some (nI d, x1) else some (nI (lw1 m c.1 d), x1) := by
      unfold x_Nm_fair
      rw [xo01 hj, bS, if_pos rfl, e1, bS, x_fairDish X, bS, f1, ob_s, x_leastWorth X f2, bS]
    have hm : m_Mo_fair (nI j) y = if nI j = 0 then some (nI d) else some (nI (lw1 m c.1 d)) := by
      unfold m_Mo_fair
      rw [mi01 hj, bS, if_neg (by decide)]
      exact m_fair_loop Y o f1 (dD m) 0 FU (by omega) (by unfold FU; omega)
    rw [hx, hm]
    by_cases h0 : nI j = 0
    · rw [if_pos h0, if_pos h0]; exact ⟨_, _, rfl, rfl, C.mv s1 SM.rf⟩
    · rw [if_neg h0, if_neg h0]; exact ⟨_, _, rfl, rfl, C.mv s1 SM.rf⟩
  · unfold x_Nm_fair m_Mo_fair
    rw [xo01n hb, mi01n hb, bS, bS, if_neg (by decide), if_pos rfl]
    exact ⟨_, _, rfl, rfl, C⟩
theorem x_isVetoed {x : Hp} {q g d : Nat} (hq : x q 1 = nI g) (hg : g < 2147483648) (hd : d < 31) : x_Table_isVetoed q (nI d) x = some (bI (g.testBit d)) := by
  unfold x_Table_isVetoed
  rw [hq, bit_b hg hd]
  cases g.testBit d <;> rfl
theorem x_onOffer {x y : Hp} {m : Mnu} {c : Cur} (V : View x y m c) {d : Nat} (hd : d < dD m) : x_Nm_isOnOffer (nI d) x = some (bI ((lf (dD m) c.2.1).testBit d)) := by
  have hD := V.1.D
  have hg := V.Y.2.2.2.2
  have hg6 := p6 hD.2 hg
  unfold x_Nm_isOnOffer
  rw [x_hasDishY V.2.1.1 (by omega) hd, bS, if_neg i1, x_isVetoed V.2.2.2.2.1.2.1 (by omega) (by omega), bS, lf_bit hg, decide_eq_true hd, Bool.true_and]
  cases c.2.1.testBit d <;> rfl
theorem x_onOfferN {x y : Hp} {m : Mnu} {c : Cur} (V : View x y m c) {p : Int32} (hp : p < 0 ∨ nI (dD m) ≤ p) : x_Nm_isOnOffer p x = some 0 := by
  unfold x_Nm_isOnOffer
  rw [x_hasDishN V.2.1.1 hp, bS, if_pos i0]
theorem dsh (p : Int32) (n : Nat) (hn : n < 2147483648) : (∃ d, d < n ∧ p = nI d) ∨ (p < 0 ∨ nI n ≤ p) := by
  rcases pk_ix p hn with h | h | h
  · exact Or.inr (Or.inl h)
  · exact Or.inr (Or.inr h)
  · exact Or.inl h
/-- a dish that is left, or not, for either *)-/
theorem offer {x y : Hp} {m : Mnu} {c : Cur} (V : View x y m c) (p : Int32) : (∃ d, d < dD m ∧ p = nI d ∧ (lf (dD m) c.2.1).testBit d = true ∧ x_Nm_isOnOffer p x = some 1 ∧ m_Mo_isLeft p y = some 1) ∨ (x_Nm_isOnOffer p x = some 0 ∧ m_Mo_isLeft p y = some 0) := by
  have hD := V.1.D
  rcases dsh p (dD m) (by omega) with ⟨d, hd, rfl⟩ | hp
  · have h1 := x_onOffer V hd
    have h2 := m_isLeft V.Y hd
    cases hb : (lf (dD m) c.2.1).testBit d with
    | true => rw [hb] at h1 h2; exact Or.inl ⟨d, hd, rfl, hb, h1, h2⟩
    | false => rw [hb] at h1 h2; exact Or.inr ⟨h1, h2⟩
  · exact Or.inr ⟨x_onOfferN V hp, m_isLeftN V.Y.1 hp⟩
theorem p_beats (p1 p2 : Int32) : Sim1 (x_Nm_beats p1 p2) (m_Mo_beats p1 p2) := by
  intro x y C
  obtain ⟨m, c, V⟩ := C.view
  have Y := V.Y
  unfold x_Nm_beats m_Mo_beats
  rcases offer V p1 with ⟨a, ha, rfl, -, h1, h2⟩ | ⟨h1, h2⟩
  · rw [h1, h2, bS, bS, if_neg i1, if_neg i1]
    rcases offer V p2 with ⟨b, hb, rfl, -, g1, g2⟩ | ⟨g1, g2⟩
    · rw [g1, g2, bS, bS, if_neg i1, if_neg i1]
      by_cases e : nI a = nI b
      · rw [if_pos e, if_pos e]; exact ⟨_, _, rfl, rfl, C⟩
      · obtain ⟨x1, e1, X, s1⟩ := x_now V
        rw [if_neg e, if_neg e, e1, bS, x_lead X ha hb, bS, m_lead Y ha hb, bS, Int32.add_comm]
        exact ⟨_, _, rfl, rfl, C.mv s1 SM.rf⟩
    · rw [g1, g2, bS, bS, if_pos i0, if_pos i0]; exact ⟨_, _, rfl, rfl, C⟩
  · rw [h1, h2, bS, bS, if_pos i0, if_pos i0]; exact ⟨_, _, rfl, rfl, C⟩
theorem p_champion : Sim1 x_Nm_champion m_Mo_champion := by
  intro x y C
  obtain ⟨m, c, V⟩ := C.view
  obtain ⟨x1, e1, X, s1⟩ := x_now V
  unfold x_Nm_champion
  rw [e1, bS, x_winner X, bS, m_champion V.Y]
  exact ⟨_, _, rfl, rfl, C.mv s1 SM.rf⟩
theorem p_middle : Sim1 x_Nm_middle m_Mo_middle := by
  intro x y C
  obtain ⟨m, c, V⟩ := C.view
  obtain ⟨x1, e1, X, s1⟩ := x_now V
  unfold x_Nm_middle
  rw [e1, bS, x_nobodysWorst X V.L, bS, m_middle V.Y V.L]
  exact ⟨_, _, rfl, rfl, C.mv s1 SM.rf⟩
theorem p_struck (p : Int32) : Sim1 (x_Nm_struck p) (m_Mo_struck p) := by
  intro x y C
  obtain ⟨m, c, V⟩ := C.view
  have hG := V.1.G
  rcases dsh p (dG m) (by omega) with ⟨i, hi, rfl⟩ | hp
  · obtain ⟨x1, e1, X, s1⟩ := x_now V
    obtain ⟨w, f1, -⟩ := Lok_ls (stk_ok V.1 (t := c.1) (first := i) 6 0 _ V.L) (t := c.1) (i := i)
    unfold x_Nm_struck
    rw [x_hasGuestY V.2.1.2.1 (by omega) hi, bS, if_neg i1, e1, bS, x_lastStanding X V.L hi, bS, m_struckY V.Y V.L hi, f1]
    exact ⟨_, _, rfl, rfl, C.mv s1 SM.rf⟩
  · unfold x_Nm_struck m_Mo_struck
    rw [x_hasGuestN V.2.1.2.1 hp, m_isGuestN V.Y.1 hp, bS, bS, if_pos i0, if_pos i0]
    exact ⟨_, _, rfl, rfl, C⟩
theorem x_dishesLeft {x y : Hp} {m : Mnu} {c : Cur} (V : View x y m c) {q g : Nat} (hq : x q 1 = nI g) (hg : g < 2 ^ dD m) : x_Nm_dishesLeft q x = some (nI (pc (lf (dD m) g))) := by
  have hD := V.1.D
  unfold x_Nm_dishesLeft x_Menu_allDishes
  rw [bS, V.2.1.1, hq, lf_I (dD m) (by omega) g hg, pc_x (lf_lt _ _ hD.2), bS]
/-- there is a pair where two are left, and none where there is one -/
theorem bpr_ex {m : Mnu} {t L : Nat} (om : Mok m) (o : Lok m L) (h : 2 ≤ pc L) : ∃ c, bpr m t L = some c ∧ c < 64 ∧ c / 8 < c % 8 ∧ L.testBit (c / 8) = true ∧ L.testBit (c % 8) = true := by
  have hD := om.D
  obtain ⟨w, -, w1, w2⟩ := Lok_ls o (t := 0) (i := 0)
  obtain ⟨v, -, v1, v2⟩ := Lok_ls (Lok_cl om o w1 w2 h) (t := 0) (i := 0)
  rw [clr_bit L o.1 w (by omega) v (by omega)] at v2
  have hv : L.testBit v = true ∧ v ≠ w := by revert v2; cases L.testBit v <;> simp
  have key : ∀ a b, a < dD m → b < dD m → a < b → L.testBit a = true → L.testBit b = true → ∃ c, bpr m t L = some c := by
    intro a b ha hb hab h1 h2
    refine fmx_some (d := 8 * a + b) (by omega) ?_
    unfold pp
    rw [show (8 * a + b) / 8 = a by omega, show (8 * a + b) % 8 = b by omega, h1, h2, decide_eq_true hab]
    rfl
  have hc : ∃ c, bpr m t L = some c := by
    rcases Nat.lt_or_ge v w with q | q
    · exact key v w v1 w1 q hv.1 w2
    · exact key w v w1 v1 (by have := hv.2; omega) w2 hv.1
  obtain ⟨c, hc⟩ := hc
  have hl := fmx_lt hc
  refine ⟨c, hc, hl.1, ?_⟩
  have hp := hl.2
  unfold pp at hp
  rw [Bool.and_eq_true, Bool.and_eq_true, decide_eq_true_eq] at hp
  exact ⟨hp.1.1, hp.1.2, hp.2⟩
theorem pc_two0 : ∀ L, L < 64 → ∀ a, a < 6 → ∀ b, b < 6 → (decide (a = b) || !L.testBit a || !L.testBit b || decide (2 ≤ pc L)) = true := by decide +kernel
theorem pc_two (L : Nat) (hL : L < 64) (a : Nat) (ha : a < 6) (b : Nat) (hb : b < 6) (hab : a ≠ b) (h1 : L.testBit a = true) (h2 : L.testBit b = true) : 2 ≤ pc L := by
  have := pc_two0 L hL a ha b hb
  rw [decide_eq_false hab, h1, h2] at this
  simpa using this
theorem bpr_no {m : Mnu} {t L : Nat} (om : Mok m) (o : Lok m L) (h : ¬ 2 ≤ pc L) : bpr m t L = none := by
  have hD := om.D
  cases hb : bpr m t L with
  | none => rfl
  | some c =>
    have hl := fmx_lt hb
    have hp := hl.2
    unfold pp at hp
    rw [Bool.and_eq_true, Bool.and_eq_true, decide_eq_true_eq] at hp
    have a := o.2.2 _ hp.1.2
    have b := o.2.2 _ hp.2
    exact absurd (pc_two L o.1 (c / 8) (by omega) (c % 8) (by omega) (by omega) hp.1.2 hp.2) h
theorem cdiv {c : Nat} (h : c < 64) : nI c / (8 : Int32) = nI (c / 8) := by rw [l8, nDiv (by omega) (by omega) (by omega)]
theorem cmod {c : Nat} (h : c < 64) : nI c - nI c / (8 : Int32) * (8 : Int32) = nI (c % 8) := by rw [l8, nRem (by omega) (by omega) (by omega)]
theorem cmod2 {c : Nat} (h : c < 64) : nI c - nI (c / 8) * (8 : Int32) = nI (c % 8) := by rw [← cdiv h]; exact cmod h
theorem p_two (p : Int32) : Sim1 (x_Nm_two p) (m_Mo_two p) := by
  intro x y C
  rcases rng p 0 1 (by omega) (by omega) with ⟨j, -, hj, rfl⟩ | hb
  · obtain ⟨m, c, V⟩ := C.view
    obtain ⟨x1, e1, X, s1⟩ := x_now V
    have Y := V.Y
    have o := V.L
    have hp6 := pc_le _ o.1
    unfold x_Nm_two m_Mo_two
    rw [xo01 hj, bS, if_pos i0, x_dishesLeft V V.2.2.2.2.1.2.1 Y.2.2.2.2, bS, mi01 hj, bS, if_neg i1, m_bestTwo Y, bS]
    by_cases h2 : 2 ≤ pc (lf (dD m) c.2.1)
    · obtain ⟨d, f1, f2, f3, f4, f5⟩ := bpr_ex (t := c.1) V.1 o h2
      rw [if_pos (by rw [l2, nLE (by omega) (by omega)]; exact h2), e1, bS, x_bestPair X o.2.2, bS, f1, ob_s, ob_s, if_neg (nI_n0 (by omega)), cdiv f2, cmod2 f2, x_pairWorth X (o.2.2 _ f4) (o.2.2 _ f5), bS, m_both Y (o.2.2 _ f4) (o.2.2 _ f5), bS]
      by_cases h0 : nI j = 0
      · rw [if_pos h0, if_pos h0]; exact ⟨_, _, rfl, rfl, C.mv s1 SM.rf⟩
      · rw [if_neg h0, if_neg h0]; exact ⟨_, _, rfl, rfl, C.mv s1 SM.rf⟩
    · rw [if_neg (by rw [l2, nLE (by omega) (by omega)]; exact h2), bpr_no V.1 o h2, ob_n, if_pos (by decide)]
      exact ⟨_, _, rfl, rfl, C⟩
  · unfold x_Nm_two m_Mo_two
    rw [xo01n hb, mi01n hb, bS, bS, if_neg i1, if_pos i0]
    exact ⟨_, _, rfl, rfl, C⟩
theorem p_houses (p : Int32) : Sim1 (x_Nm_houses p) (m_Mo_houses p) := by
  intro x y C
  rcases rng p 0 99 (by omega) (by omega) with ⟨j, -, hj, rfl⟩ | hb
  · obtain ⟨m, c, V⟩ := C.view
    obtain ⟨x1, e1, X, s1⟩ := x_now V
    have Y := V.Y
    have o := V.L
    have hp6 := pc_le _ o.1
    obtain ⟨q, q1, q2, q3⟩ := mst_ex (t := c.1) (w := none) o
    have hm1 : m_Mo_most 1 y = some (nI (sa m c.1 none q)) := by
      unfold m_Mo_most
      rw [show m_Mo_in (1 : Int32).toInt64 0 1 y = some 1 from mi01 (j := 1) (by omega) y, bS, if_neg i1, Y.2.2.2.1, m_leftBy Y.1 Y.2.2.2.2, bS, Y.2.1, m_mostToAll0 Y.1 Y.2.2.1 o.1, bS, q1, ob_s, m_sumOf0 Y.1 Y.2.2.1 q2, bS, if_neg i1]
    unfold x_Nm_houses m_Mo_houses
    rw [show x_Nm_isOutside (nI j) 0 99 x = some 0 from x_outY (lo := 0) (hi := 99) (Nat.zero_le _) hj (by omega) x, bS, if_pos i0, x_dishesLeft V V.2.2.2.2.1.2.1 Y.2.2.2.2, bS, show m_Mo_in (nI j).toInt64 0 99 y = some 1 from m_inY (lo := 0) (hi := 99) (Nat.zero_le _) hj (by omega) y, bS, if_neg i1, m_bestTwo Y, bS]
    by_cases h2 : 2 ≤ pc (lf (dD m) c.2.1)
    · obtain ⟨d, f1, f2, f3, f4, f5⟩ := bpr_ex (t := c.1) V.1 o h2
      rw [if_pos (by rw [l2, nLE (by omega) (by omega)]; exact h2), e1, bS, x_bestPair X o.2.2, bS, f1, ob_s, ob_s, if_neg (nI_n0 (by omega)), cdiv f2, cmod2 f2, x_pairWorth X (o.2.2 _ f4) (o.2.2 _ f5), bS, bS, m_both Y (o.2.2 _ f4) (o.2.2 _ f5), bS, x_mostDish0 X, bS, q1, ob_s, x_together0 X q2, bS, hm1, bS]
      by_cases h0 : nI (pw m c.1 (d / 8) (d % 8)) - nI j ≤ nI (sa m c.1 none q)
      · rw [if_pos h0, if_pos h0]; exact ⟨_, _, rfl, rfl, C.mv s1 SM.rf⟩
      · rw [if_neg h0, if_neg h0]; exact ⟨_, _, rfl, rfl, C.mv s1 SM.rf⟩
    · rw [if_neg (by rw [l2, nLE (by omega) (by omega)]; exact h2), bpr_no V.1 o h2, ob_n, if_pos (by decide)]
      exact ⟨_, _, rfl, rfl, C⟩
  · unfold x_Nm_houses m_Mo_houses
    rw [show x_Nm_isOutside p 0 99 x = some 1 from x_outN hb x, show m_Mo_in p.toInt64 0 99 y = some 0 from m_inN (lo := 0) (hi := 99) (by omega) (by omega) hb y, bS, bS, if_neg i1, if_pos i0]
    exact ⟨_, _, rfl, rfl, C⟩
theorem x_su_loop {h : Hp} {m : Mnu} {t L : Nat} (X : Xm h m t L) {a b : Nat} (ha : a < dD m) (hb : b < dD m) : ∀ (k i n : Nat), i + k = dG m → k < n → x_Nm_suits_b27 (nI a) n (nI b) (nI (bts (fun i => decide (wv m t i b ≤ wv m t i a)) i)) (nI i) h = some (nI (bts (fun i => decide (wv m t i b ≤ wv m t i a)) (dG m)), h) := by
  have hG := X.ok.G
  intro k
  induction k with
  | zero =>
    intro i n hi hn
    obtain ⟨n, rfl⟩ : ∃ z, n = z + 1 := ⟨n - 1, by omega⟩
    rw [x_Nm_suits_b27, X.G, if_pos (nI_le (by omega) (by omega)), show i = dG m by omega]
  | succ k ih =>
    intro i n hi hn
    obtain ⟨n, rfl⟩ : ∃ z, n = z + 1 := ⟨n - 1, by omega⟩
    have hr := ih (i + 1) n (by omega) (by omega)
    have hv := wv_le (m := m) (t := t) (i := i) (d := a)
    have hv2 := wv_le (m := m) (t := t) (i := i) (d := b)
    rw [bts] at hr
    rw [x_Nm_suits_b27, X.G, if_neg (nI_ge (by omega) (by omega)), x_value X (by omega) ha, bS, x_value X (by omega) hb, bS, nI_1]
    by_cases hz : wv m t i b ≤ wv m t i a
    · rw [if_pos (decide_eq_true hz)] at hr
      rw [if_neg (by rw [nLT (by omega) (by omega)]; omega), pow_n (by omega), nOr, bS]
      exact hr
    · rw [if_neg (by rw [decide_eq_false hz]; decide)] at hr
      rw [if_pos (by rw [nLT (by omega) (by omega)]; omega)]
      exact hr
theorem m_su_loop {h : Hp} {m : Mnu} {t g : Nat} (Y : Yn h m t g) {a b : Nat} (ha : a < dD m) (hb : b < dD m) : ∀ (k i n : Nat), i + k = dG m → k < n → m_Mo_suits_b21 (nI a) h n (nI b) (nI (bts (fun i => decide (wv m t i b ≤ wv m t i a)) i)) (nI i) = some (nI (bts (fun i => decide (wv m t i b ≤ wv m t i a)) (dG m))) := by
  have hG := Y.1.1.G
  intro k
  induction k with
  | zero =>
    intro i n hi hn
    obtain ⟨n, rfl⟩ : ∃ z, n = z + 1 := ⟨n - 1, by omega⟩
    rw [m_Mo_suits_b21, Y.1.2.2.1, if_pos (nI_le (by omega) (by omega)), show i = dG m by omega]
  | succ k ih =>
    intro i n hi hn
    obtain ⟨n, rfl⟩ : ∃ z, n = z + 1 := ⟨n - 1, by omega⟩
    have hr := ih (i + 1) n (by omega) (by omega)
    have hv := wv_le (m := m) (t := t) (i := i) (d := a)
    have hv2 := wv_le (m := m) (t := t) (i := i) (d := b)
    rw [bts] at hr
    rw [m_Mo_suits_b21, Y.1.2.2.1, if_neg (nI_ge (by omega) (by omega)), Y.2.1, m_worthAt Y.1 Y.2.2.1 (by omega) ha, bS, m_worthAt Y.1 Y.2.2.1 (by omega) hb, bS, nI_1]
    by_cases hz : wv m t i b ≤ wv m t i a
    · rw [if_pos (decide_eq_true hz)] at hr
      rw [if_neg (by rw [nLT (by omega) (by omega)]; omega), pow_n (by omega), nOr, bS]
      exact hr
    · rw [if_neg (by rw [decide_eq_false hz]; decide)] at hr
      rw [if_pos (by rw [nLT (by omega) (by omega)]; omega), nOr0, bS]
      exact hr
theorem m_most0 {x y : Hp} {m : Mnu} {c : Cur} (V : View x y m c) {d : Nat} (hd : mst m c.1 (lf (dD m) c.2.1) none = some d) : m_Mo_most 0 y = some (nI d) := by
  have Y := V.Y
  have o := V.L
  have hl := fmx_lt hd
  unfold m_Mo_most
  rw [show m_Mo_in (0 : Int32).toInt64 0 1 y = some 1 from mi01 (j := 0) (by omega) y, bS, if_neg i1, Y.2.2.2.1, m_leftBy Y.1 Y.2.2.2.2, bS, Y.2.1, m_mostToAll0 Y.1 Y.2.2.1 o.1, bS, hd, ob_s, if_pos i0]
theorem p_suits (p : Int32) : Sim1 (x_Nm_suits p) (m_Mo_suits p) := by
  intro x y C
  obtain ⟨m, c, V⟩ := C.view
  have hG := V.1.G
  unfold x_Nm_suits m_Mo_suits
  rcases offer V p with ⟨a, ha, rfl, -, h1, h2⟩ | ⟨h1, h2⟩
  · obtain ⟨x1, e1, X, s1⟩ := x_now V
    obtain ⟨b, f1, f2, f3⟩ := mst_ex (t := c.1) (w := none) V.L
    rw [h1, h2, bS, bS, if_neg i1, if_neg i1, e1, bS, x_mostDish0 X, bS, f1, ob_s, m_most0 V f1, bS]
    rw [show x_Nm_suits_b27 (nI a) FU (nI b) 0 0 x1 = _ from x_su_loop X ha f2 (dG m) 0 FU (by omega) (by unfold FU; omega)]
    rw [show m_Mo_suits_b21 (nI a) y FU (nI b) 0 0 = _ from m_su_loop V.Y ha f2 (dG m) 0 FU (by omega) (by unfold FU; omega)]
    exact ⟨_, _, rfl, rfl, C.mv s1 SM.rf⟩
  · rw [h1, h2, bS, bS, if_pos i0, if_pos i0]; exact ⟨_, _, rfl, rfl, C⟩
theorem p_against (p1 p2 : Int32) : Sim1 (x_Nm_against p1 p2) (m_Mo_against p1 p2) := by
  intro x y C
  obtain ⟨m, c, V⟩ := C.view
  have hD := V.1.D
  unfold x_Nm_against m_Mo_against
  rcases dsh p1 (dD m) (by omega) with ⟨d, hd, rfl⟩ | hp
  · rw [x_hasDishY V.2.1.1 (by omega) hd, m_isDishY V.Y.1 hd, bS, bS, if_neg i1, if_neg i1]
    rcases rng p2 0 1 (by omega) (by omega) with ⟨j, -, hj, rfl⟩ | hb
    · obtain ⟨x1, e1, X, s1⟩ := x_now V
      rw [xo01 hj, mi01 hj, bS, bS, if_pos i0, if_neg i1, e1]
      show ∃ r x', (if nI j = 0 then ((x_Moment_opponent (nI d) x1).bind fun r31 => some (r31, x1)) else ((x_Moment_leastWorth (nI d) x1).bind fun r42 => some (r42, x1))) = some (r, x') ∧ _ ∧ _
      rw [x_opponent X hd, x_leastWorth X hd, m_worstOff V.Y hd, bS, bS, bS, V.Y.2.1, m_wo V.Y hd, bS]
      by_cases h0 : nI j = 0
      · rw [if_pos h0, if_pos h0]; exact ⟨_, _, rfl, rfl, C.mv s1 SM.rf⟩
      · rw [if_neg h0, if_neg h0]; exact ⟨_, _, rfl, rfl, C.mv s1 SM.rf⟩
    · rw [xo01n hb, mi01n hb, bS, bS, if_neg i1, if_pos i0]; exact ⟨_, _, rfl, rfl, C⟩
  · rw [x_hasDishN V.2.1.1 hp, m_isDishN V.Y.1 hp, bS, bS, if_pos i0, if_pos i0]; exact ⟨_, _, rfl, rfl, C⟩
