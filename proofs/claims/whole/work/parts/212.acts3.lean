/-! the acts that strike, order, pass and hear -/
theorem dig_add {s i : Nat} (hu : s / 4 ^ i % 4 < 3) (k : Nat) : (s + 4 ^ i) / 4 ^ k % 4 = s / 4 ^ k % 4 + (if k = i then 1 else 0) := by
  have hp : ∀ n, 0 < 4 ^ n := fun n => Nat.pow_pos (by decide)
  have h0 : (s + 4 ^ i) / 4 ^ i = s / 4 ^ i + 1 := Nat.add_div_right _ (hp i)
  rcases Nat.lt_trichotomy k i with h | h | h
  · obtain ⟨e, rfl⟩ : ∃ e, i = k + 1 + e := ⟨i - k - 1, by omega⟩
    rw [if_neg (by omega), show 4 ^ (k + 1 + e) = 4 ^ k * (4 * 4 ^ e) by rw [Nat.pow_add, Nat.pow_succ, Nat.mul_assoc], Nat.add_mul_div_left _ _ (hp k), Nat.add_mul_mod_self_left, Nat.add_zero]
  · subst h; rw [if_pos rfl, h0]; omega
  · obtain ⟨e, rfl⟩ : ∃ e, k = i + 1 + e := ⟨k - i - 1, by omega⟩
    rw [if_neg (by omega), show 4 ^ (i + 1 + e) = 4 ^ i * (4 * 4 ^ e) by rw [Nat.pow_add, Nat.pow_succ, Nat.mul_assoc], ← Nat.div_div_eq_div_mul, ← Nat.div_div_eq_div_mul, h0, ← Nat.div_div_eq_div_mul, ← Nat.div_div_eq_div_mul, show (s / 4 ^ i + 1) / 4 = s / 4 ^ i / 4 by omega, Nat.add_zero]
theorem four_le : ∀ i, i < 9 → 4 ^ i ≤ 65536 := by decide +kernel
theorem spent_lt {s i : Nat} (hs : s < 262144) (hi : i < 9) (hu : s / 4 ^ i % 4 < 3) : s + 4 ^ i < 262144 := by
  have h1 := dig_add hu 9
  have h2 := four_le i hi
  rw [if_neg (by omega), show (4 : Nat) ^ 9 = 262144 from rfl] at h1
  omega
theorem lf_or : ∀ D, D < 7 → ∀ g, g < 2 ^ D → ∀ d, d < D → g.testBit d = false → lf D (g ||| 2 ^ d) = clr (lf D g) d ∧ g ||| 2 ^ d < 2 ^ D := by decide +kernel
theorem x_strike {h : Hp} {q : Nat} {c : Cur} {i d : Nat} (hi : i < 9) (hd : d < 6) (t : TX h q c) : ∃ h', x_Table_strike q (nI i) (nI d) h = some h' ∧ TX h' q (c.1, c.2.1 ||| 2 ^ d, c.2.2.1, c.2.2.2 + 4 ^ i) ∧ ∀ k j, k ≠ q → h' k j = h k j := by
  refine ⟨wr (wr h q 1 (nI (c.2.1 ||| 2 ^ d))) q 3 (nI (c.2.2.2 + 4 ^ i)), ?_, ⟨?_, ?_, ?_, ?_⟩, fun k j hk => ?_⟩
  · unfold x_Table_strike
    rw [bS, bS, t.2.1, pow_n (by omega), nOr, wr_ne _ _ (a := q) (b := 3) (by omega), t.2.2.2, l2, nMul, pow_n (by omega), four_pow i hi, nI_add]
  · rw [wr_ne _ _ (by omega), wr_ne _ _ (by omega)]; exact t.1
  · rw [wr_ne _ _ (by omega), wr_self]
  · rw [wr_ne _ _ (by omega), wr_ne _ _ (by omega)]; exact t.2.2.1
  · rw [wr_self]
  · rw [wr_ne _ _ (by omega), wr_ne _ _ (by omega)]
theorem p_pass (p : Int32) : Sim (x_Nm_pass p) (m_Mo_pass p) := by
  intro x y C
  obtain ⟨m, c, nP, P, nK, K, nN, N, nT, T, V, h2, h3, h4, h5⟩ := id C
  have ok := V.2.2.2.1
  have hD := V.1.D
  unfold x_Nm_pass m_Mo_pass
  rcases rng p 1 30 (by omega) (by omega) with ⟨j, hj1, hj2, rfl⟩ | hp
  · rw [show x_Nm_isOutside (nI j) (1 : Int32) (30 : Int32) x = some 0 from x_outY (lo := 1) (hi := 30) hj1 hj2 (by omega) x, show m_Mo_in (nI j).toInt64 (1 : Int64) (30 : Int64) y = some 1 from m_inY (lo := 1) (hi := 30) hj1 hj2 (by omega) y, bS, bS, if_pos i0, if_neg i1, x_isOrdered V.2.2.2.2.1 ok hD.2, bS, V.2.2.2.2.1.1, show y 4 0 = nI c.1 from V.2.2.2.2.2.1, show y 4 2 = ob (-4) c.2.2.1 from V.2.2.2.2.2.2.2.1, nI_add, l99]
    have hc := ok.1
    cases ho : c.2.2.1 with
    | some e =>
      have he := ok.2.2.1 e ho
      rw [show bI (Option.some e).isSome = 1 from rfl, if_neg i1, ob_s, if_neg (nI_n0 (a := e) (by omega))]
      refine ⟨_, _, _, rfl, ?_, C⟩
      split <;> rfl
    | none =>
      rw [show bI (Option.none : Option Nat).isSome = 0 from rfl, if_pos i0, ob_n, if_pos (show (-4 : Int32) < 0 by decide)]
      by_cases hk : c.1 + j ≤ 99
      · rw [if_pos ((nI_leI (by omega) (by omega)).mpr hk), if_neg (fun q => by rw [nLT (by omega) (by omega)] at q; omega)]
        obtain ⟨x', y', e1, f1, h2', a, b⟩ := push_P V h2
        have hm : x' 3 0 = nI c.1 := (a 3 0 (by omega) (by omega)).trans V.2.2.2.2.1.1
        have hy : y' 4 0 = nI c.1 := (b 4 0 (by omega) (by omega)).trans V.2.2.2.2.2.1
        refine ⟨nI (c.1 + j), wr x' 3 0 (nI (c.1 + j)), wr y' 4 0 (nI (c.1 + j)), ?_, ?_, m, (c.1 + j, c.2), np nP, pP nP P c, nK, K, nN, N, nT, T, V.to (fun k j h => (wr_ne _ _ (by omega)).trans (a k j (by omega) (by omega))) (fun j => (wr_ne _ _ (by omega)).trans (b 2 j (by omega) (by omega))) ⟨hk, ok.2⟩ ?_ ?_, h2'.cg (fun k j h => wr_ne _ _ (by omega)) (fun k j h => wr_ne _ _ (by omega)), h3.cg (fun k j h => (wr_ne _ _ (by omega)).trans (a k j (by omega) (by omega))) (fun k j h => (wr_ne _ _ (by omega)).trans (b k j (by omega) (by omega))), h4.cg (fun k j h => (wr_ne _ _ (by omega)).trans (a k j (by omega) (by omega))) (fun k j h => (wr_ne _ _ (by omega)).trans (b k j (by omega) (by omega))), h5.cg (fun k j h => (wr_ne _ _ (by omega)).trans (a k j (by omega) (by omega))) (fun k j h => (wr_ne _ _ (by omega)).trans (b k j (by omega) (by omega)))⟩
        · rw [e1, bS, bS, hm, nI_add, wr_self]
        · rw [f1, bS, bS, hy, nI_add, wr_self]
        · exact ⟨wr_self _ _ _ _, (wr_ne _ _ (by omega)).trans ((a _ _ (by omega) (by omega)).trans V.2.2.2.2.1.2.1), (wr_ne _ _ (by omega)).trans ((a _ _ (by omega) (by omega)).trans V.2.2.2.2.1.2.2.1), (wr_ne _ _ (by omega)).trans ((a _ _ (by omega) (by omega)).trans V.2.2.2.2.1.2.2.2)⟩
        · exact ⟨wr_self _ _ _ _, (wr_ne _ _ (by omega)).trans ((b _ _ (by omega) (by omega)).trans V.2.2.2.2.2.2.1), (wr_ne _ _ (by omega)).trans ((b _ _ (by omega) (by omega)).trans V.2.2.2.2.2.2.2.1), fun i hi => (wr_ne _ _ (by omega)).trans ((b _ _ (by omega) (by omega)).trans (V.2.2.2.2.2.2.2.2 i hi))⟩
      · rw [if_neg (fun q => hk ((nI_leI (by omega) (by omega)).mp q)), if_pos (by rw [nLT (by omega) (by omega)]; omega)]
        exact ⟨_, _, _, rfl, rfl, C⟩
  · rw [show x_Nm_isOutside p (1 : Int32) (30 : Int32) x = some 1 from x_outN (lo := 1) (hi := 30) hp x, show m_Mo_in p.toInt64 (1 : Int64) (30 : Int64) y = some 0 from m_inN (lo := 1) (hi := 30) (by omega) (by omega) hp y, bS, bS, if_neg i1, if_pos i0]
    exact ⟨_, _, _, rfl, rfl, C⟩
theorem p_order (p : Int32) : Sim (x_Nm_order p) (m_Mo_order p) := by
  intro x y C
  obtain ⟨m, c, nP, P, nK, K, nN, N, nT, T, V, h2, h3, h4, h5⟩ := id C
  have ok := V.2.2.2.1
  have hD := V.1.D
  have hS := V.1.S
  have Y := V.Y
  have hg6 := p6 hD.2 Y.2.2.2.2
  unfold x_Nm_order m_Mo_order m_Mo_canOrder
  rcases dsh p (dD m) (by omega) with ⟨d, hd, rfl⟩ | hp
  · have hM := V.1.M hd
    have hc := ok.1
    rw [x_hasDishY V.2.1.1 (by omega) hd, m_isDishY Y.1 hd, bS, bS, if_neg i1, if_neg i1, x_isOrdered V.2.2.2.2.1 ok hD.2, bS, Y.2.1, Y.2.2.2.1, m_has (by omega) (by omega), bS, x_isVetoed V.2.2.2.2.1.2.1 (by omega) (by omega), bS, show y 4 2 = ob (-4) c.2.2.1 from V.2.2.2.2.2.2.2.1]
    cases ho : c.2.2.1 with
    | some e =>
      have he := ok.2.2.1 e ho
      rw [show bI (Option.some e).isSome = 1 from rfl, if_neg i1, ob_s, if_pos (show (0 : Int32) ≤ nI e from nI_pos' (by omega))]
      refine ⟨_, _, _, rfl, ?_, C⟩
      split <;> rfl
    | none =>
      rw [show bI (Option.none : Option Nat).isSome = 0 from rfl, if_pos i0, ob_n, if_neg (show ¬ (0 : Int32) ≤ -4 by decide)]
      cases hb : c.2.1.testBit d with
      | true => rw [bI_t, if_neg i1, if_neg i1, bS, if_pos i0]; exact ⟨_, _, _, rfl, rfl, C⟩
      | false =>
        rw [bI_f, if_pos i0, if_pos i0, l14, nI_add, if_pos (inR_y (show 14 + d < 74 by omega) (by omega)), nI_cl (by omega), Y.1.2.2.2.2.1, Y.1.2.2.2.2.2.2.2.2 d hd, nI_add]
        unfold x_Menu_isInTime
        rw [x_minutesOf V.1 V.2.1 hd, bS, V.2.1.2.2.2.1, V.2.2.2.2.1.1, nI_add]
        by_cases hk : dS m < c.1 + dM m d
        · rw [if_pos ((nI_ltI (by omega) (by omega)).mpr hk), bS, bS, if_pos i0, if_pos i0]; exact ⟨_, _, _, rfl, rfl, C⟩
        · rw [if_neg (fun q => hk ((nI_ltI (by omega) (by omega)).mp q)), bS, bS, if_neg i1, if_neg i1]
          obtain ⟨x', y', e1, f1, h2', a, b⟩ := push_P V h2
          have hm : x' 3 0 = nI c.1 := (a 3 0 (by omega) (by omega)).trans V.2.2.2.2.1.1
          have hy : y' 4 0 = nI c.1 := (b 4 0 (by omega) (by omega)).trans V.2.2.2.2.2.1
          have hx' : Mx (wr x' 3 2 (nI d)) 6 m := V.2.1.mv (fun k j h1 h2 => (wr_ne _ _ (by omega)).trans (a k j (by omega) (by omega)))
          refine ⟨nI (c.1 + dM m d), wr x' 3 2 (nI d), wr y' 4 2 (nI d), ?_, ?_, m, (c.1, c.2.1, some d, c.2.2.2), np nP, pP nP P c, nK, K, nN, N, nT, T, V.to (fun k j h => (wr_ne _ _ (by omega)).trans (a k j (by omega) (by omega))) (fun j => (wr_ne _ _ (by omega)).trans (b 2 j (by omega) (by omega))) ⟨ok.1, ok.2.1, fun e he => by cases he; exact hd, ok.2.2.2⟩ ?_ ?_, h2'.cg (fun k j h => wr_ne _ _ (by omega)) (fun k j h => wr_ne _ _ (by omega)), h3.cg (fun k j h => (wr_ne _ _ (by omega)).trans (a k j (by omega) (by omega))) (fun k j h => (wr_ne _ _ (by omega)).trans (b k j (by omega) (by omega))), h4.cg (fun k j h => (wr_ne _ _ (by omega)).trans (a k j (by omega) (by omega))) (fun k j h => (wr_ne _ _ (by omega)).trans (b k j (by omega) (by omega))), h5.cg (fun k j h => (wr_ne _ _ (by omega)).trans (a k j (by omega) (by omega))) (fun k j h => (wr_ne _ _ (by omega)).trans (b k j (by omega) (by omega)))⟩
          · rw [e1, bS, bS, x_minutesOf V.1 hx' hd, bS, wr_ne _ _ (a := 3) (b := 0) (by omega), hm, nI_add]
          · rw [f1, bS, bS, if_pos (inR_y (show 14 + d < 74 by omega) (by omega)), wr_ne _ _ (a := 4) (b := 0) (by omega), hy, wr_ne _ _ (a := 2) (b := 14 + d) (by omega), b 2 _ (by omega) (by omega), Y.1.2.2.2.2.2.2.2.2 d hd, nI_add]
          · exact ⟨(wr_ne _ _ (by omega)).trans hm, (wr_ne _ _ (by omega)).trans ((a _ _ (by omega) (by omega)).trans V.2.2.2.2.1.2.1), wr_self _ _ _ _, (wr_ne _ _ (by omega)).trans ((a _ _ (by omega) (by omega)).trans V.2.2.2.2.1.2.2.2)⟩
          · exact ⟨(wr_ne _ _ (by omega)).trans hy, (wr_ne _ _ (by omega)).trans ((b _ _ (by omega) (by omega)).trans V.2.2.2.2.2.2.1), wr_self _ _ _ _, fun i hi => (wr_ne _ _ (by omega)).trans ((b _ _ (by omega) (by omega)).trans (V.2.2.2.2.2.2.2.2 i hi))⟩
  · rw [x_hasDishN V.2.1.1 hp, m_isDishN Y.1 hp, bS, bS, if_pos i0, if_pos i0]; exact ⟨_, _, _, rfl, rfl, C⟩
theorem veto_x {x y : Hp} {m : Mnu} {c : Cur} (V : View x y m c) {i d : Nat} (hi : i < dG m) (hd : d < dD m) : x_Nm_veto (nI i) (nI d) x = if (c.2.2.1.isSome = true ∨ c.2.1.testBit d = true ∨ dV m - c.2.2.2 / 4 ^ i % 4 < 1 ∨ pc (lf (dD m) c.2.1) < 2) then some (-2, x) else ((x_Pile_push_a 3 x).bind fun h_84 =>
  (x_Table_strike 3 (nI i) (nI d) h_84).bind fun h_93 =>
  (x_Nm_dishesLeft 3 h_93).bind fun r101 =>
  some (r101, h_93)) := by
  have ok := V.2.2.2.1
  have hD := V.1.D
  have hG := V.1.G
  have hV := V.1.V
  have Y := V.Y
  have hg6 := p6 hD.2 Y.2.2.2.2
  have hl6 := lf_lt (dD m) c.2.1 hD.2
  have hpc := pc_le _ hl6
  unfold x_Nm_veto
  rw [x_hasGuestY V.2.1.2.1 (by omega) hi, bS, if_neg i1, x_hasDishY V.2.1.1 (by omega) hd, bS, if_neg i1, x_isOrdered V.2.2.2.2.1 ok hD.2, bS, x_isVetoed V.2.2.2.2.1.2.1 (by omega) (by omega), bS, x_vetoesLeft V.2.1 V.2.2.2.2.1.2.2.2 ok.2.2.2.1 (by omega) (ok.2.2.2.2 i (by omega)), bS, x_dishesLeft V V.2.2.2.2.1.2.1 Y.2.2.2.2, bS]
  cases c.2.2.1.isSome with
  | true => rw [bI_t, if_neg i1, if_pos (Or.inl rfl)]
  | false =>
    rw [bI_f, if_pos i0]
    cases c.2.1.testBit d with
    | true => rw [bI_t, if_neg i1, if_pos (Or.inr (Or.inl rfl))]
    | false =>
      rw [bI_f, if_pos i0, l1]
      by_cases hv : dV m - c.2.2.2 / 4 ^ i % 4 < 1
      · rw [if_pos ((nI_ltI (by omega) (by omega)).mpr hv), if_pos (Or.inr (Or.inr (Or.inl hv)))]
      · rw [if_neg (fun q => hv ((nI_ltI (by omega) (by omega)).mp q)), l2]
        by_cases hp : pc (lf (dD m) c.2.1) < 2
        · rw [if_neg (nI_ge (by omega) (by omega)), if_pos (Or.inr (Or.inr (Or.inr hp)))]
        · rw [if_pos (nI_le (by omega) (by omega)), if_neg (fun q => by rcases q with q | q | q | q; exact absurd q (by decide); exact absurd q (by decide); exact hv q; exact hp q)]
theorem veto_m {x y : Hp} {m : Mnu} {c : Cur} (V : View x y m c) {i d : Nat} (hi : i < dG m) (hd : d < dD m) : m_Mo_veto (nI i) (nI d) y = if (c.2.2.1.isSome = true ∨ c.2.1.testBit d = true ∨ dV m - c.2.2.2 / 4 ^ i % 4 < 1 ∨ pc (lf (dD m) c.2.1) < 2) then some (-2, y) else ((m_Mo_note y).bind fun h_69 =>
  (some (wr h_69 4 1 ((h_69 4 1) ||| nI (2 ^ d)))).bind fun h_83 =>
  (some (wr h_83 4 (3 + i) ((h_83 4 (3 + i)) - (1 : Int32)))).bind fun h_95 => some (nI (pc (lf (dD m) c.2.1) - 1), h_95)) := by
  have ok := V.2.2.2.1
  have hD := V.1.D
  have hG := V.1.G
  have hV := V.1.V
  have Y := V.Y
  have hg6 := p6 hD.2 Y.2.2.2.2
  have hl6 := lf_lt (dD m) c.2.1 hD.2
  have hpc := pc_le _ hl6
  have ho : ∀ e, c.2.2.1 = some e → e < 6 := fun e he => by have := ok.2.2.1 e he; omega
  unfold m_Mo_veto
  rw [m_isGuestY Y.1 hi, bS, if_neg i1, m_isDishY Y.1 hd, bS, if_neg i1, Y.2.2.2.1, m_leftBy Y.1 Y.2.2.2.2, bS, m_has (by omega) (by omega), bS, pc_m hl6, bS, show y 4 2 = ob (-4) c.2.2.1 from V.2.2.2.2.2.2.2.1, l3, nI_add, if_pos (inR_y (show 3 + i < 12 by omega) (by omega)), nI_cl (by omega), show y 4 (3 + i) = nI (dV m - c.2.2.2 / 4 ^ i % 4) from by have := V.2.2.2.2.2.2.2.2 i (by omega); rw [Nat.zero_add] at this; exact this, lf_bit Y.2.2.2.2, decide_eq_true hd, Bool.true_and, pow_n (by omega)]
  cases hb : c.2.1.testBit d with
  | true => rw [Bool.not_true, bI_f, if_pos i0, if_pos (Or.inr (Or.inl rfl))]
  | false =>
    rw [Bool.not_false, bI_t, if_neg i1]
    by_cases hv : dV m - c.2.2.2 / 4 ^ i % 4 < 1
    · rw [if_pos (by rw [show dV m - c.2.2.2 / 4 ^ i % 4 = 0 by omega]; rfl), if_pos (Or.inr (Or.inr (Or.inl hv)))]
    · rw [if_neg (by rw [l0, nEQ (by omega) (by omega)]; omega), l2]
      by_cases hp : pc (lf (dD m) c.2.1) < 2
      · rw [if_pos ((nI_ltI (by omega) (by omega)).mpr hp), if_pos (Or.inr (Or.inr (Or.inr hp)))]
      · rw [if_neg (fun q => hp ((nI_ltI (by omega) (by omega)).mp q))]
        cases hc : c.2.2.1 with
        | some e => rw [ob_s, if_neg (nI_n0 (a := e) (by have := ho e hc; omega)), if_pos (Or.inl (show (Option.some e).isSome = true from rfl))]
        | none =>
          rw [ob_n, if_pos (show (-4 : Int32) < 0 by decide), if_neg (fun q => by rcases q with q | q | q | q; exact absurd q (by decide); exact absurd q (by decide); exact hv q; exact hp q)]
          congr 1
          funext h_69
          rw [bS, bS]
          simp only [pc_m hl6, bS]
          rw [if_pos (inR_y (show 3 + i < 12 by omega) (by omega)), if_pos (inR_y (show 3 + i < 12 by omega) (by omega)), l1, nSub (by omega)]
theorem p_veto (p1 p2 : Int32) : Sim (x_Nm_veto p1 p2) (m_Mo_veto p1 p2) := by
  intro x y C
  obtain ⟨m, c, nP, P, nK, K, nN, N, nT, T, V, h2, h3, h4, h5⟩ := id C
  have ok := V.2.2.2.1
  have hD := V.1.D
  have hG := V.1.G
  have hV := V.1.V
  have Y := V.Y
  have hg6 := p6 hD.2 Y.2.2.2.2
  have hl6 := lf_lt (dD m) c.2.1 hD.2
  rcases dsh p1 (dG m) (by omega) with ⟨i, hi, rfl⟩ | hp
  · rcases dsh p2 (dD m) (by omega) with ⟨d, hd, rfl⟩ | hp
    · rw [veto_x V hi hd, veto_m V hi hd]
      by_cases hq : (c.2.2.1.isSome = true ∨ c.2.1.testBit d = true ∨ dV m - c.2.2.2 / 4 ^ i % 4 < 1 ∨ pc (lf (dD m) c.2.1) < 2)
      · rw [if_pos hq, if_pos hq]; exact ⟨_, _, _, rfl, rfl, C⟩
      · rw [if_neg hq, if_neg hq]
        obtain ⟨q1, q2, q3, q4⟩ : c.2.2.1 = none ∧ c.2.1.testBit d = false ∧ 1 ≤ dV m - c.2.2.2 / 4 ^ i % 4 ∧ 2 ≤ pc (lf (dD m) c.2.1) := by
          refine ⟨?_, ?_, Nat.not_lt.mp (fun q => hq (Or.inr (Or.inr (Or.inl q)))), Nat.not_lt.mp (fun q => hq (Or.inr (Or.inr (Or.inr q))))⟩
          · cases h : c.2.2.1 with
            | none => rfl
            | some e => exact absurd (Or.inl (by rw [h]; rfl)) hq
          · cases h : c.2.1.testBit d with
            | false => rfl
            | true => exact absurd (Or.inr (Or.inl h)) hq
        have hd3 : c.2.2.2 / 4 ^ i % 4 < 3 := by omega
        have ht : (lf (dD m) c.2.1).testBit d = true := by rw [lf_bit Y.2.2.2.2, decide_eq_true hd, q2]; rfl
        obtain ⟨ho1, ho2⟩ := lf_or (dD m) (by omega) c.2.1 Y.2.2.2.2 d hd q2
        have hpc := pc_clr _ hl6 d (by omega) ht
        have hne : (c.2.1 ||| 2 ^ d) + 1 < 2 ^ dD m := by
          rcases Nat.lt_or_ge ((c.2.1 ||| 2 ^ d) + 1) (2 ^ dD m) with h | h
          · exact h
          · have h0 : lf (dD m) (c.2.1 ||| 2 ^ d) = 0 := by unfold lf; omega
            rw [ho1] at h0
            rw [h0] at hpc
            have : pc 0 = 0 := rfl
            omega
        obtain ⟨x', y', e1, f1, h2', a, b⟩ := push_P V h2
        have V' : View x' y' m c := V.cg (fun k j h => a k j (by omega) (by omega)) (fun k j h => b k j (by omega) (by omega))
        obtain ⟨x2, e2, t2, a2⟩ := x_strike (i := i) (d := d) (by omega) (by omega) V'.2.2.2.2.1
        have hm4 : y' 4 (3 + i) = nI (dV m - c.2.2.2 / 4 ^ i % 4) := by have := V'.2.2.2.2.2.2.2.2 i (by omega); rw [Nat.zero_add] at this; exact this
        have hx2 : Mx x2 6 m := V'.2.1.mv (fun k j h1 h2 => a2 k j (by omega))
        have V2 : View x2 (wr (wr y' 4 1 (nI (c.2.1 ||| 2 ^ d))) 4 (3 + i) (nI (dV m - c.2.2.2 / 4 ^ i % 4 - 1))) m (c.1, c.2.1 ||| 2 ^ d, c.2.2.1, c.2.2.2 + 4 ^ i) := V'.to (fun k j h => a2 k j (by omega)) (fun j => by rw [wr_ne _ _ (by omega), wr_ne _ _ (by omega)]) ⟨ok.1, hne, ok.2.2.1, spent_lt ok.2.2.2.1 (by omega) hd3, fun k hk => by
            show (c.2.2.2 + 4 ^ i) / 4 ^ k % 4 ≤ dV m
            rw [dig_add hd3]
            have := ok.2.2.2.2 k hk
            by_cases hki : k = i
            · subst hki; rw [if_pos rfl]; omega
            · rw [if_neg hki]; omega⟩ t2 ⟨by rw [wr_ne _ _ (by omega), wr_ne _ _ (by omega)]; exact V'.2.2.2.2.2.1, by rw [wr_ne _ _ (by omega), wr_self], by rw [wr_ne _ _ (by omega), wr_ne _ _ (by omega)]; exact V'.2.2.2.2.2.2.2.1, fun k hk => by
            show _ = nI (dV m - (c.2.2.2 + 4 ^ i) / 4 ^ k % 4)
            rw [dig_add hd3, Nat.zero_add]
            by_cases hki : k = i
            · subst hki; rw [if_pos rfl, wr_self, Nat.sub_sub]
            · rw [if_neg hki, wr_ne _ _ (by omega), wr_ne _ _ (by omega)]; have := V'.2.2.2.2.2.2.2.2 k hk; rw [Nat.zero_add] at this; exact this⟩
        refine ⟨nI (pc (lf (dD m) c.2.1) - 1), x2, wr (wr y' 4 1 (nI (c.2.1 ||| 2 ^ d))) 4 (3 + i) (nI (dV m - c.2.2.2 / 4 ^ i % 4 - 1)), ?_, ?_, m, _, np nP, pP nP P c, nK, K, nN, N, nT, T, V2, h2'.cg (fun k j h => a2 k j (by omega)) (fun k j h => by rw [wr_ne _ _ (by omega), wr_ne _ _ (by omega)]), h3.cg (fun k j h => (a2 k j (by omega)).trans (a k j (by omega) (by omega))) (fun k j h => by rw [wr_ne _ _ (by omega), wr_ne _ _ (by omega)]; exact b k j (by omega) (by omega)), h4.cg (fun k j h => (a2 k j (by omega)).trans (a k j (by omega) (by omega))) (fun k j h => by rw [wr_ne _ _ (by omega), wr_ne _ _ (by omega)]; exact b k j (by omega) (by omega)), h5.cg (fun k j h => (a2 k j (by omega)).trans (a k j (by omega) (by omega))) (fun k j h => by rw [wr_ne _ _ (by omega), wr_ne _ _ (by omega)]; exact b k j (by omega) (by omega))⟩
        · rw [e1, bS, e2, bS, x_dishesLeft V2 V2.2.2.2.2.1.2.1 ho2, bS, ho1, ← hpc, Nat.add_sub_cancel]
        · rw [f1, bS, bS, bS, V'.Y.2.2.2.1, nOr, wr_ne _ _ (a := 4) (b := 3 + i) (by omega), hm4, l1, nSub (by omega)]
    · unfold x_Nm_veto m_Mo_veto
      rw [x_hasGuestY V.2.1.2.1 (by omega) hi, m_isGuestY Y.1 hi, x_hasDishN V.2.1.1 hp, m_isDishN Y.1 hp, bS, bS, bS, bS, if_neg i1, if_neg i1, if_pos i0, if_pos i0]; exact ⟨_, _, _, rfl, rfl, C⟩
  · unfold x_Nm_veto m_Mo_veto
    rw [x_hasGuestN V.2.1.2.1 hp, m_isGuestN Y.1 hp, bS, bS, if_pos i0, if_pos i0]; exact ⟨_, _, _, rfl, rfl, C⟩
