/-! what was heard -/
theorem nt_get {n : Nat} (h : n < 8) (x : Hp) : x_Notes_get (nI n) x = some (some (30 + n)) := by
  unfold x_Notes_get
  rw [if_neg (nI_n0 (by omega)), l8, if_neg (nI_ge (by omega) (by omega)), if_pos (inR_y h (by omega)), nI_cl (by omega)]
theorem p_heard (p1 p2 p3 : Int32) : Sim (x_Nm_heard p1 p2 p3) (m_Mo_heard p1 p2 p3) := by
  intro x y C
  obtain ⟨m, c, nP, P, nK, K, nN, N, nT, T, V, h2, h3, h4, h5⟩ := id C
  have ok := V.2.2.2.1
  have hD := V.1.D
  have hG := V.1.G
  have Y := V.Y
  have h8 := h4.1
  unfold x_Nm_heard m_Mo_heard
  rcases dsh p1 (dG m) (by omega) with ⟨i, hi, rfl⟩ | hp
  · rcases dsh p2 (dD m) (by omega) with ⟨d, hd, rfl⟩ | hp
    · rw [x_hasGuestY V.2.1.2.1 (by omega) hi, m_isGuestY Y.1 hi, x_hasDishY V.2.1.1 (by omega) hd, m_isDishY Y.1 hd, bS, bS, bS, bS, if_neg i1, if_neg i1, if_neg i1, if_neg i1]
      rcases rng p3 0 1 (by omega) (by omega) with ⟨z, -, hz, rfl⟩ | hb
      · rw [xo01 hz, mi01 hz, bS, bS, if_pos i0, if_neg i1]
        unfold x_Notes_next
        rw [h4.2.1, h4.2.2.1]
        by_cases hn : nN < 8
        · rw [nt_get hn, bS, if_neg (by rw [l8, nEQ (by omega) (by omega)]; omega)]
          refine ⟨nI (nN + 1), wr (wr (wr (wr (wr (wr x 28 0 (nI (nN + 1))) (30 + nN) 0 (nI i)) (30 + nN) 1 (nI d)) (30 + nN) 2 (nI z)) (30 + nN) 3 (nI c.1)) (30 + nN) 4 (nI c.2.1), wr (wr (wr (wr (wr (wr y 7 (5 * nN) (nI i)) 7 (5 * nN + 1) (nI d)) 7 (5 * nN + 2) (nI z)) 7 (5 * nN + 3) (nI c.1)) 7 (5 * nN + 4) (nI c.2.1)) 0 11 (nI (nN + 1)), ?_, ?_, ?_⟩
          · show (some (Option.some (30 + nN), wr x 28 0 (nI nN + 1))).bind _ = _
            rw [bS]
            dsimp only [Option.elim]
            rw [bS, bS, bS, nI_1]
            have e3 : wr (wr (wr x 28 0 (nI (nN + 1))) (30 + nN) 0 (nI i)) (30 + nN) 1 (nI d) 3 0 = nI c.1 := by rw [wr_ne _ _ (by omega), wr_ne _ _ (by omega), wr_ne _ _ (by omega)]; exact V.2.2.2.2.1.1
            have e4 : wr (wr (wr x 28 0 (nI (nN + 1))) (30 + nN) 0 (nI i)) (30 + nN) 1 (nI d) 3 1 = nI c.2.1 := by rw [wr_ne _ _ (by omega), wr_ne _ _ (by omega), wr_ne _ _ (by omega)]; exact V.2.2.2.2.1.2.1
            have e5 : wr (wr (wr x 28 0 (nI (nN + 1))) (30 + nN) 0 (nI i)) (30 + nN) 1 (nI d) 28 0 = nI (nN + 1) := by rw [wr_ne _ _ (by omega), wr_ne _ _ (by omega), wr_self]
            generalize wr (wr (wr x 28 0 (nI (nN + 1))) (30 + nN) 0 (nI i)) (30 + nN) 1 (nI d) = h at e3 e4 e5 ⊢
            rcases z01 hz with rfl | rfl
            · rw [if_neg (by decide), bS, wr_ne _ _ (a := 3) (b := 0) (by omega), e3, bS, wr_ne _ _ (a := 3) (b := 1) (by omega), wr_ne _ _ (a := 3) (b := 1) (by omega), e4, bS, wr_ne _ _ (a := 28) (b := 0) (by omega), wr_ne _ _ (a := 28) (b := 0) (by omega), wr_ne _ _ (a := 28) (b := 0) (by omega), e5]
              rfl
            · rw [if_pos (show nI 1 = (1 : Int32) from rfl), bS, wr_ne _ _ (a := 3) (b := 0) (by omega), e3, bS, wr_ne _ _ (a := 3) (b := 1) (by omega), wr_ne _ _ (a := 3) (b := 1) (by omega), e4, bS, wr_ne _ _ (a := 28) (b := 0) (by omega), wr_ne _ _ (a := 28) (b := 0) (by omega), wr_ne _ _ (a := 28) (b := 0) (by omega), e5]
              rfl
          · have hx : ∀ (h : Hp), h 0 11 = nI nN → h 4 0 = nI c.1 → h 4 1 = nI c.2.1 → True := fun _ _ _ _ => trivial
            rw [l5, nMul, if_pos (inR_y (show 5 * nN < 40 by omega) (by omega)), nI_cl (by omega), bS]
            rw [wr_ne _ _ (a := 0) (b := 11) (by omega), h4.2.2.1, nMul, l1, nI_add, if_pos (inR_y (show 5 * nN + 1 < 40 by omega) (by omega)), nI_cl (by omega), bS]
            rw [wr_ne _ _ (a := 0) (b := 11) (by omega), wr_ne _ _ (a := 0) (b := 11) (by omega), h4.2.2.1, nMul, l2, nI_add, if_pos (inR_y (show 5 * nN + 2 < 40 by omega) (by omega)), nI_cl (by omega), bS]
            rw [wr_ne _ _ (a := 0) (b := 11) (by omega), wr_ne _ _ (a := 0) (b := 11) (by omega), wr_ne _ _ (a := 0) (b := 11) (by omega), h4.2.2.1, nMul, l3, nI_add, if_pos (inR_y (show 5 * nN + 3 < 40 by omega) (by omega)), nI_cl (by omega), bS, wr_ne _ _ (a := 4) (b := 0) (by omega), wr_ne _ _ (a := 4) (b := 0) (by omega), wr_ne _ _ (a := 4) (b := 0) (by omega), Y.2.1]
            rw [wr_ne _ _ (a := 0) (b := 11) (by omega), wr_ne _ _ (a := 0) (b := 11) (by omega), wr_ne _ _ (a := 0) (b := 11) (by omega), wr_ne _ _ (a := 0) (b := 11) (by omega), h4.2.2.1, nMul, l4, nI_add, if_pos (inR_y (show 5 * nN + 4 < 40 by omega) (by omega)), nI_cl (by omega), bS, wr_ne _ _ (a := 4) (b := 1) (by omega), wr_ne _ _ (a := 4) (b := 1) (by omega), wr_ne _ _ (a := 4) (b := 1) (by omega), wr_ne _ _ (a := 4) (b := 1) (by omega), Y.2.2.2.1]
            rw [bS, wr_self, wr_ne _ _ (a := 0) (b := 11) (by omega), wr_ne _ _ (a := 0) (b := 11) (by omega), wr_ne _ _ (a := 0) (b := 11) (by omega), wr_ne _ _ (a := 0) (b := 11) (by omega), wr_ne _ _ (a := 0) (b := 11) (by omega), h4.2.2.1, nI_add]
          · have a : ∀ k j, k ≠ 28 → k ≠ 30 + nN → wr (wr (wr (wr (wr (wr x 28 0 (nI (nN + 1))) (30 + nN) 0 (nI i)) (30 + nN) 1 (nI d)) (30 + nN) 2 (nI z)) (30 + nN) 3 (nI c.1)) (30 + nN) 4 (nI c.2.1) k j = x k j := fun k j q1 q2 => by
              rw [wr_ne _ _ (by omega), wr_ne _ _ (by omega), wr_ne _ _ (by omega), wr_ne _ _ (by omega), wr_ne _ _ (by omega), wr_ne _ _ (by omega)]
            have b : ∀ k j, ¬ (k = 0 ∧ j = 11) → ¬ (k = 7 ∧ 5 * nN ≤ j ∧ j < 5 * nN + 5) → wr (wr (wr (wr (wr (wr y 7 (5 * nN) (nI i)) 7 (5 * nN + 1) (nI d)) 7 (5 * nN + 2) (nI z)) 7 (5 * nN + 3) (nI c.1)) 7 (5 * nN + 4) (nI c.2.1)) 0 11 (nI (nN + 1)) k j = y k j := fun k j q1 q2 => by
              rw [wr_ne _ _ (by omega), wr_ne _ _ (by omega), wr_ne _ _ (by omega), wr_ne _ _ (by omega), wr_ne _ _ (by omega), wr_ne _ _ (by omega)]
            refine ⟨m, c, nP, P, nK, K, nN + 1, (fun k => if k = nN then (i, d, z, c.1, c.2.1) else N k), nT, T, V.cg (fun k j h => a k j (by omega) (by omega)) (fun k j h => b k j (by omega) (by omega)), h2.cg (fun k j h => a k j (by omega) (by omega)) (fun k j h => b k j (by omega) (by omega)), h3.cg (fun k j h => a k j (by omega) (by omega)) (fun k j h => b k j (by omega) (by omega)), ⟨by omega, ?_, wr_self _ _ _ _, fun k hk => ?_⟩, h5.cg (fun k j h => a k j (by omega) (by omega)) (fun k j h => b k j (by omega) (by omega))⟩
            · rw [wr_ne _ _ (by omega), wr_ne _ _ (by omega), wr_ne _ _ (by omega), wr_ne _ _ (by omega), wr_ne _ _ (by omega), wr_self]
            · dsimp only
              by_cases hkn : k = nN
              · subst hkn
                rw [if_pos rfl]
                refine ⟨⟨hi, hd, hz, ok.1, ok.2.1⟩, ⟨?_, ?_, ?_, ?_, ?_⟩, ⟨?_, ?_, ?_, ?_, ?_⟩⟩
                · rw [wr_ne _ _ (by omega), wr_ne _ _ (by omega), wr_ne _ _ (by omega), wr_ne _ _ (by omega), wr_self]
                · rw [wr_ne _ _ (by omega), wr_ne _ _ (by omega), wr_ne _ _ (by omega), wr_self]
                · rw [wr_ne _ _ (by omega), wr_ne _ _ (by omega), wr_self]
                · rw [wr_ne _ _ (by omega), wr_self]
                · rw [wr_self]
                · rw [wr_ne _ _ (by omega), wr_ne _ _ (by omega), wr_ne _ _ (by omega), wr_ne _ _ (by omega), wr_ne _ _ (by omega), wr_self]
                · rw [wr_ne _ _ (by omega), wr_ne _ _ (by omega), wr_ne _ _ (by omega), wr_ne _ _ (by omega), wr_self]
                · rw [wr_ne _ _ (by omega), wr_ne _ _ (by omega), wr_ne _ _ (by omega), wr_self]
                · rw [wr_ne _ _ (by omega), wr_ne _ _ (by omega), wr_self]
                · rw [wr_ne _ _ (by omega), wr_self]
              · rw [if_neg hkn]
                obtain ⟨n1, n2, n3⟩ := h4.2.2.2 k (by omega)
                exact ⟨n1, ⟨(a _ _ (by omega) (by omega)).trans n2.1, (a _ _ (by omega) (by omega)).trans n2.2.1, (a _ _ (by omega) (by omega)).trans n2.2.2.1, (a _ _ (by omega) (by omega)).trans n2.2.2.2.1, (a _ _ (by omega) (by omega)).trans n2.2.2.2.2⟩, ⟨(b _ _ (by omega) (by omega)).trans n3.1, (b _ _ (by omega) (by omega)).trans n3.2.1, (b _ _ (by omega) (by omega)).trans n3.2.2.1, (b _ _ (by omega) (by omega)).trans n3.2.2.2.1, (b _ _ (by omega) (by omega)).trans n3.2.2.2.2⟩⟩
        · obtain rfl : nN = 8 := by omega
          rw [show x_Notes_get (nI 8) x = some none from rfl, bS, if_pos (show nI 8 = (8 : Int32) from rfl)]
          exact ⟨_, _, _, rfl, rfl, C⟩
      · rw [xo01n hb, mi01n hb, bS, bS, if_neg i1, if_pos i0]; exact ⟨_, _, _, rfl, rfl, C⟩
    · rw [x_hasGuestY V.2.1.2.1 (by omega) hi, m_isGuestY Y.1 hi, x_hasDishN V.2.1.1 hp, m_isDishN Y.1 hp, bS, bS, bS, bS, if_neg i1, if_neg i1, if_pos i0, if_pos i0]; exact ⟨_, _, _, rfl, rfl, C⟩
  · rw [x_hasGuestN V.2.1.2.1 hp, m_isGuestN Y.1 hp, bS, bS, if_pos i0, if_pos i0]; exact ⟨_, _, _, rfl, rfl, C⟩
