/-! the acts that strike, order, pass and hear -/
theorem dig_add {s i : Nat} (hu : s / 4 ^ i % 4 < 3) (k : Nat) : (s + 4 ^ i) / 4 ^ k % 4 = s / 4 ^ k % 4 + (if k = i then 1 else 0) := by
  have hp : ∀ n, 0 < 4 ^ n := fun n => Nat.pow_pos (by decide)
  have h0 : (s + 4 ^ i) / 4 ^ i = s / 4 ^ i + 1 := Nat.add_div_right _ (hp i)
  rcases Nat.lt_trichotomy k i with h | h | h
  · obtain ⟨e, rfl⟩ : ∃ e, i = k + 1 + e := ⟨i - k - 1, by omega⟩
    rw [if_neg (by omega), show 4 ^ (k + 1 + e) = 4 ^ k * (4 * 4 ^ e) by rw [Nat.pow_add, Nat.pow_succ, Nat.mul_assoc], Nat.add_mul_div_left _ _ (hp k), Nat.add_mul_mod_self_left, Nat.add_zero]
  · subst h; rw [if_pos rfl, h0]; omega
  · obtain ⟨e, rfl⟩ : ∃ e, k = i + 1 + e := ⟨k - i - 1, by omega⟩
    rw [if_neg (by omega), show 4 ^ (i + 1 + e) = 4 ^ i * (4 * 4 ^ e) by rw [Nat.pow_add, Nat.pow_succ, Nat.mul_assoc], ← Nat.div_div_eq_div_mul, ← Nat.div_div_eq_div_mul, h0, ← Nat.div_div_eq_div_mul, ← Nat.div_div_eq_div_mul, show (s / 4 ^ i + 1) / 4 = s / 4 ^ i / 4 by omega, Nat.add_zero]
theorem four_le : ∀ i, i < 9 → 4 ^ i ≤ 65536 := by decide +kernel
theorem spent_lt {s i : Nat} (hs : s < 262144) (hi : i < 9) (hu : s / 4 ^ i % 4 < 3) : s + 4 ^ i < 262144 := by
  have h1 := dig_add hu 9
  have h2 := four_le i hi
  rw [if_neg (by omega), show (4 : Nat) ^ 9 = 262144 from rfl] at h1
  omega
theorem lf_or : ∀ D, D < 7 → ∀ g, g < 2 ^ D → ∀ d, d < D → g.testBit d = false → lf D (g ||| 2 ^ d) = clr (lf D g) d ∧ g ||| 2 ^ d < 2 ^ D := by decide +kernel
theorem x_strike {h : Hp} {q : Nat} {c : Cur} {i d : Nat} (hi : i < 9) (hd : d < 6) (t : TX h q c) : ∃ h', x_Table_strike q (nI i) (nI d) h = some h' ∧ TX h' q (c.1, c.2.1 ||| 2 ^ d, c.2.2.1, c.2.2.2 + 4 ^ i) ∧ ∀ k j, k ≠ q → h' k j = h k j := by
  refine ⟨wr (wr h q 1 (nI (c.2.1 ||| 2 ^ d))) q 3 (nI (c.2.2.2 + 4 ^ i)), ?_, ⟨?_, ?_, ?_, ?_⟩, fun k j hk => ?_⟩
  · unfold x_Table_strike
    rw [bS, bS, t.2.1, pow_n (by omega), nOr, wr_ne _ _ (a := q) (b := 3) (by omega), t.2.2.2, l2, nMul, pow_n (by omega), four_pow i hi, nI_add]
  · rw [wr_ne _ _ (by omega), wr_ne _ _ (by omega)]; exact t.1
  · rw [wr_ne _ _ (by omega), wr_self]
  · rw [wr_ne _ _ (by omega), wr_ne _ _ (by omega)]; exact t.2.2.1
  · rw [wr_self]
  · rw [wr_ne _ _ (by omega), wr_ne _ _ (by omega)]
theorem p_pass (p : Int32) : Sim (x_Nm_pass p) (m_Mo_pass p) := by
  intro x y C
  obtain ⟨m, c, nP, P, nK, K, nN, N, nT, T, V, h2, h3, h4, h5⟩ := id C
  have ok := V.2.2.2.1
  have hD := V.1.D
  unfold x_Nm_pass m_Mo_pass
  rcases rng p 1 30 (by omega) (by omega) with ⟨j, hj1, hj2, rfl⟩ | hp
  · rw [show x_Nm_isOutside (nI j) (1 : Int32) (30 : Int32) x = some 0 from x_outY (lo := 1) (hi := 30) hj1 hj2 (by omega) x, show m_Mo_in (nI j).toInt64 (1 : Int64) (30 : Int64) y = some 1 from m_inY (lo := 1) (hi := 30) hj1 hj2 (by omega) y, bS, bS, if_pos i0, if_neg i1, x_isOrdered V.2.2.2.2.1 ok hD.2, bS, V.2.2.2.2.1.1, show y 4 0 = nI c.1 from V.2.2.2.2.2.1, show y 4 2 = ob (-4) c.2.2.1 from V.2.2.2.2.2.2.2.1, nI_add, l99]
    have hc := ok.1
    cases ho : c.2.2.1 with
    | some e =>
      have he := ok.2.2.1 e ho
      rw [show bI (Option.some e).isSome = 1 from rfl, if_neg i1, ob_s, if_neg (nI_n0 (a := e) (by omega))]
      refine ⟨_, _, _, rfl, ?_, C⟩
      split <;> rfl
    | none =>
      rw [show bI (Option.none : Option Nat).isSome = 0 from rfl, if_pos i0, ob_n, if_pos (show (-4 : Int32) < 0 by decide)]
      by_cases hk : c.1 + j ≤ 99
      · rw [if_pos ((nI_leI (by omega) (by omega)).mpr hk), if_neg (fun q => by rw [nLT (by omega) (by omega)] at q; omega)]
        obtain ⟨x', y', e1, f1, h2', a, b⟩ := push_P V h2
        have hm : x' 3 0 = nI c.1 := (a 3 0 (by omega) (by omega)).trans V.2.2.2.2.1.1
        have hy : y' 4 0 = nI c.1 := (b 4 0 (by omega) (by omega)).trans V.2.2.2.2.2.1
        have a' : ∀ k j, k ≠ 3 → k ≠ 14 → (k < 16 ∨ 23 < k) → wr x' 3 0 (nI (c.1 + nI j |>.toNatClampNeg)) k j = x k j := fun k j h1 h2 h3 => (wr_ne _ _ (by omega)).trans (a k j h2 h3)
        refine ⟨nI (c.1 + j), wr x' 3 0 (nI (c.1 + j)), wr y' 4 0 (nI (c.1 + j)), ?_, ?_, m, (c.1 + j, c.2), np nP, pP nP P c, nK, K, nN, N, nT, T, V.to (fun k j h => (wr_ne _ _ (by omega)).trans (a k j (by omega) (by omega))) (fun j => (wr_ne _ _ (by omega)).trans (b 2 j (by omega) (by omega))) ⟨hk, ok.2⟩ ?_ ?_, h2'.cg (fun k j h => wr_ne _ _ (by omega)) (fun k j h => wr_ne _ _ (by omega)), h3.cg (fun k j h => (wr_ne _ _ (by omega)).trans (a k j (by omega) (by omega))) (fun k j h => (wr_ne _ _ (by omega)).trans (b k j (by omega) (by omega))), h4.cg (fun k j h => (wr_ne _ _ (by omega)).trans (a k j (by omega) (by omega))) (fun k j h => (wr_ne _ _ (by omega)).trans (b k j (by omega) (by omega))), h5.cg (fun k j h => (wr_ne _ _ (by omega)).trans (a k j (by omega) (by omega))) (fun k j h => (wr_ne _ _ (by omega)).trans (b k j (by omega) (by omega)))⟩
        · rw [e1, bS, bS, hm, nI_add, wr_self]
        · rw [f1, bS, bS, hy, nI_add, wr_self]
        · exact ⟨wr_self _ _ _ _, (wr_ne _ _ (by omega)).trans ((a _ _ (by omega) (by omega)).trans V.2.2.2.2.1.2.1), (wr_ne _ _ (by omega)).trans ((a _ _ (by omega) (by omega)).trans V.2.2.2.2.1.2.2.1), (wr_ne _ _ (by omega)).trans ((a _ _ (by omega) (by omega)).trans V.2.2.2.2.1.2.2.2)⟩
        · exact ⟨wr_self _ _ _ _, (wr_ne _ _ (by omega)).trans ((b _ _ (by omega) (by omega)).trans V.2.2.2.2.2.2.1), (wr_ne _ _ (by omega)).trans ((b _ _ (by omega) (by omega)).trans V.2.2.2.2.2.2.2.1), fun i hi => (wr_ne _ _ (by omega)).trans ((b _ _ (by omega) (by omega)).trans (V.2.2.2.2.2.2.2.2 i hi))⟩
      · rw [if_neg (fun q => hk ((nI_leI (by omega) (by omega)).mp q)), if_pos (by rw [nLT (by omega) (by omega)]; omega)]
        exact ⟨_, _, _, rfl, rfl, C⟩
  · rw [show x_Nm_isOutside p (1 : Int32) (30 : Int32) x = some 1 from x_outN (lo := 1) (hi := 30) hp x, show m_Mo_in p.toInt64 (1 : Int64) (30 : Int64) y = some 0 from m_inN (lo := 1) (hi := 30) (by omega) (by omega) hp y, bS, bS, if_neg i1, if_pos i0]
    exact ⟨_, _, _, rfl, rfl, C⟩
theorem p_order (p : Int32) : Sim (x_Nm_order p) (m_Mo_order p) := by
  intro x y C
  obtain ⟨m, c, nP, P, nK, K, nN, N, nT, T, V, h2, h3, h4, h5⟩ := id C
  have ok := V.2.2.2.1
  have hD := V.1.D
  have hS := V.1.S
  have Y := V.Y
  have hg6 := p6 hD.2 Y.2.2.2.2
  unfold x_Nm_order m_Mo_order m_Mo_canOrder
  rcases dsh p (dD m) (by omega) with ⟨d, hd, rfl⟩ | hp
  · have hM := V.1.M hd
    have hc := ok.1
    rw [x_hasDishY V.2.1.1 (by omega) hd, m_isDishY Y.1 hd, bS, bS, if_neg i1, if_neg i1, x_isOrdered V.2.2.2.2.1 ok hD.2, bS, Y.2.1, Y.2.2.2.1, m_has (by omega) (by omega), bS, x_isVetoed V.2.2.2.2.1.2.1 (by omega) (by omega), bS, show y 4 2 = ob (-4) c.2.2.1 from V.2.2.2.2.2.2.2.1]
    cases ho : c.2.2.1 with
    | some e =>
      have he := ok.2.2.1 e ho
      rw [show bI (Option.some e).isSome = 1 from rfl, if_neg i1, ob_s, if_pos (show (0 : Int32) ≤ nI e from nI_pos' (by omega))]
      refine ⟨_, _, _, rfl, ?_, C⟩
      split <;> rfl
    | none =>
      rw [show bI (Option.none : Option Nat).isSome = 0 from rfl, if_pos i0, ob_n, if_neg (show ¬ (0 : Int32) ≤ -4 by decide)]
      cases hb : c.2.1.testBit d with
      | true => rw [bI_t, if_neg i1, if_neg i1, bS, if_pos i0]; exact ⟨_, _, _, rfl, rfl, C⟩
      | false =>
        rw [bI_f, if_pos i0, if_pos i0, l14, nI_add, if_pos (inR_y (show 14 + d < 74 by omega) (by omega)), nI_cl (by omega), Y.1.2.2.2.2.1, Y.1.2.2.2.2.2.2.2.2 d hd, nI_add]
        unfold x_Menu_isInTime
        rw [x_minutesOf V.1 V.2.1 hd, bS, V.2.1.2.2.2.1, V.2.2.2.2.1.1, nI_add]
        by_cases hk : dS m < c.1 + dM m d
        · rw [if_pos ((nI_ltI (by omega) (by omega)).mpr hk), if_pos ((nI_ltI (by omega) (by omega)).mpr hk), bS, bS, if_pos i0, if_pos i0]; exact ⟨_, _, _, rfl, rfl, C⟩
        · rw [if_neg (fun q => hk ((nI_ltI (by omega) (by omega)).mp q)), if_neg (fun q => hk ((nI_ltI (by omega) (by omega)).mp q)), bS, bS, if_neg i1, if_neg i1]
          obtain ⟨x', y', e1, f1, h2', a, b⟩ := push_P V h2
          have hm : x' 3 0 = nI c.1 := (a 3 0 (by omega) (by omega)).trans V.2.2.2.2.1.1
          have hy : y' 4 0 = nI c.1 := (b 4 0 (by omega) (by omega)).trans V.2.2.2.2.2.1
          have hx' : Mx (wr x' 3 2 (nI d)) 6 m := V.2.1.mv (fun k j h1 h2 => (wr_ne _ _ (by omega)).trans (a k j (by omega) (by omega)))
          refine ⟨nI (c.1 + dM m d), wr x' 3 2 (nI d), wr y' 4 2 (nI d), ?_, ?_, m, (c.1, c.2.1, some d, c.2.2.2), np nP, pP nP P c, nK, K, nN, N, nT, T, V.to (fun k j h => (wr_ne _ _ (by omega)).trans (a k j (by omega) (by omega))) (fun j => (wr_ne _ _ (by omega)).trans (b 2 j (by omega) (by omega))) ⟨ok.1, ok.2.1, fun e he => by cases he; exact hd, ok.2.2.2⟩ ?_ ?_, h2'.cg (fun k j h => wr_ne _ _ (by omega)) (fun k j h => wr_ne _ _ (by omega)), h3.cg (fun k j h => (wr_ne _ _ (by omega)).trans (a k j (by omega) (by omega))) (fun k j h => (wr_ne _ _ (by omega)).trans (b k j (by omega) (by omega))), h4.cg (fun k j h => (wr_ne _ _ (by omega)).trans (a k j (by omega) (by omega))) (fun k j h => (wr_ne _ _ (by omega)).trans (b k j (by omega) (by omega))), h5.cg (fun k j h => (wr_ne _ _ (by omega)).trans (a k j (by omega) (by omega))) (fun k j h => (wr_ne _ _ (by omega)).trans (b k j (by omega) (by omega)))⟩
          · rw [e1, bS, bS, x_minutesOf V.1 hx' hd, bS, wr_ne _ _ (a := 3) (b := 0) (by omega), hm, nI_add]
          · rw [f1, bS, bS, if_pos (inR_y (show 14 + d < 74 by omega) (by omega)), nI_cl (by omega), wr_ne _ _ (a := 4) (b := 0) (by omega), hy, wr_ne _ _ (a := 2) (b := 14 + d) (by omega), b 2 _ (by omega) (by omega), Y.1.2.2.2.2.2.2.2.2 d hd, nI_add]
          · exact ⟨(wr_ne _ _ (by omega)).trans hm, (wr_ne _ _ (by omega)).trans ((a _ _ (by omega) (by omega)).trans V.2.2.2.2.1.2.1), wr_self _ _ _ _, (wr_ne _ _ (by omega)).trans ((a _ _ (by omega) (by omega)).trans V.2.2.2.2.1.2.2.2)⟩
          · exact ⟨(wr_ne _ _ (by omega)).trans hy, (wr_ne _ _ (by omega)).trans ((b _ _ (by omega) (by omega)).trans V.2.2.2.2.2.2.1), wr_self _ _ _ _, fun i hi => (wr_ne _ _ (by omega)).trans ((b _ _ (by omega) (by omega)).trans (V.2.2.2.2.2.2.2.2 i hi))⟩
  · rw [x_hasDishN V.2.1.1 hp, m_isDishN Y.1 hp, bS, bS, if_pos i0, if_pos i0]; exact ⟨_, _, _, rfl, rfl, C⟩
