/-! the acts -/
theorem m_undo_cp {n : Nat} (hn : n ≤ 7) : ∀ (z j f : Nat) (y : Hp), j + z = 12 → z < f → y 0 7 = nI n → ∃ y', m_Mo_undo_b22 f (nI j) y = some (nI n, y') ∧ (∀ i, j ≤ i → i < 12 → y' 4 i = y 5 (12 * n + i)) ∧ (∀ a b, ¬ (a = 4 ∧ j ≤ b ∧ b < 12) → y' a b = y a b) := by
  intro z
  induction z with
  | zero =>
    intro j f y hj hf h7
    obtain ⟨f, rfl⟩ : ∃ z, f = z + 1 := ⟨f - 1, by omega⟩
    refine ⟨y, ?_, fun i h1 h2 => by omega, fun a b h1 => rfl⟩
    rw [m_Mo_undo_b22, l12, if_pos (nI_le (by omega) (by omega)), h7]
  | succ z ih =>
    intro j f y hj hf h7
    obtain ⟨f, rfl⟩ : ∃ z, f = z + 1 := ⟨f - 1, by omega⟩
    obtain ⟨y', e, ec, en⟩ := ih (j + 1) f (wr y 4 j (y 5 (12 * n + j))) (by omega) (by omega) (by rw [wr_ne _ _ (by omega)]; exact h7)
    refine ⟨y', ?_, fun i h1 h2 => ?_, fun a b h1 => ?_⟩
    · rw [m_Mo_undo_b22, l12, if_neg (nI_ge (by omega) (by omega)), h7, nMul, nI_add, if_pos (inR_y (by omega) (by omega)), if_pos (inR_y (by omega) (by omega)), nI_cl (by omega), nI_cl (by omega), bS, nI_1]
      exact e
    · by_cases hi : i = j
      · subst hi; rw [en _ _ (by omega), wr_self]
      · rw [ec i (by omega) h2, wr_ne _ _ (by omega)]
    · rw [en a b (by omega), wr_ne _ _ (by omega)]
theorem m_back_cp {n : Nat} (hn : n ≤ 1) : ∀ (z j f : Nat) (y : Hp), j + z = 12 → z < f → y 0 9 = nI n → ∃ y', m_Mo_back_b22 f (nI j) y = some (nI n, y') ∧ y' 0 7 = nI 0 ∧ (∀ i, j ≤ i → i < 12 → y' 4 i = y 6 (12 * n + i)) ∧ (∀ a b, ¬ (a = 0 ∧ b = 7) → ¬ (a = 4 ∧ j ≤ b ∧ b < 12) → y' a b = y a b) := by
  intro z
  induction z with
  | zero =>
    intro j f y hj hf h7
    obtain ⟨f, rfl⟩ : ∃ z, f = z + 1 := ⟨f - 1, by omega⟩
    refine ⟨wr y 0 7 0, ?_, wr_self _ _ _ _, fun i h1 h2 => by omega, fun a b h1 h2 => wr_ne _ _ (by omega)⟩
    rw [m_Mo_back_b22, l12, if_pos (nI_le (by omega) (by omega)), bS, wr_ne _ _ (by omega), h7]
  | succ z ih =>
    intro j f y hj hf h7
    obtain ⟨f, rfl⟩ : ∃ z, f = z + 1 := ⟨f - 1, by omega⟩
    obtain ⟨y', e, e7, ec, en⟩ := ih (j + 1) f (wr y 4 j (y 6 (12 * n + j))) (by omega) (by omega) (by rw [wr_ne _ _ (by omega)]; exact h7)
    refine ⟨y', ?_, e7, fun i h1 h2 => ?_, fun a b h1 h2 => ?_⟩
    · rw [m_Mo_back_b22, l12, if_neg (nI_ge (by omega) (by omega)), h7, nMul, nI_add, if_pos (inR_y (by omega) (by omega)), if_pos (inR_y (by omega) (by omega)), nI_cl (by omega), nI_cl (by omega), bS, nI_1]
      exact e
    · by_cases hi : i = j
      · subst hi; rw [en _ _ (by omega) (by omega), wr_self]
      · rw [ec i (by omega) h2, wr_ne _ _ (by omega)]
    · rw [en a b h1 (by omega), wr_ne _ _ (by omega)]
theorem m_keep_cp {n : Nat} (hn : n ≤ 1) : ∀ (z j f : Nat) (y : Hp), j + z = 12 → z < f → y 0 9 = nI n → ∃ y', m_Mo_keep_b13 f (nI j) y = some (nI (n + 1), y') ∧ y' 0 9 = nI (n + 1) ∧ (∀ i, j ≤ i → i < 12 → y' 6 (12 * n + i) = y 4 i) ∧ (∀ a b, ¬ (a = 0 ∧ b = 9) → ¬ (a = 6 ∧ 12 * n + j ≤ b ∧ b < 12 * n + 12) → y' a b = y a b) := by
  intro z
  induction z with
  | zero =>
    intro j f y hj hf h7
    obtain ⟨f, rfl⟩ : ∃ z, f = z + 1 := ⟨f - 1, by omega⟩
    refine ⟨wr y 0 9 (nI (n + 1)), ?_, wr_self _ _ _ _, fun i h1 h2 => by omega, fun a b h1 h2 => wr_ne _ _ (by omega)⟩
    rw [m_Mo_keep_b13, l12, if_pos (nI_le (by omega) (by omega)), bS, h7, nI_1, wr_self]
  | succ z ih =>
    intro j f y hj hf h7
    obtain ⟨f, rfl⟩ : ∃ z, f = z + 1 := ⟨f - 1, by omega⟩
    obtain ⟨y', e, e7, ec, en⟩ := ih (j + 1) f (wr y 6 (12 * n + j) (y 4 j)) (by omega) (by omega) (by rw [wr_ne _ _ (by omega)]; exact h7)
    refine ⟨y', ?_, e7, fun i h1 h2 => ?_, fun a b h1 h2 => ?_⟩
    · rw [m_Mo_keep_b13, l12, if_neg (nI_ge (by omega) (by omega)), h7, nMul, nI_add, if_pos (inR_y (by omega) (by omega)), if_pos (inR_y (by omega) (by omega)), nI_cl (by omega), nI_cl (by omega), bS, nI_1]
      exact e
    · by_cases hi : i = j
      · subst hi; rw [en _ _ (by omega) (by omega), wr_self]
      · rw [ec i (by omega) h2, wr_ne _ _ (by omega)]
    · rw [en a b h1 (by omega), wr_ne _ _ (by omega)]
theorem p_undo : Sim x_Nm_undo m_Mo_undo := by
  intro x y C
  obtain ⟨m, c, nP, P, nK, K, nN, N, nT, T, V, h2, h3, h4, h5⟩ := id C
  unfold x_Nm_undo m_Mo_undo x_Pile_popInto_a
  rw [h2.2.1, h2.2.2.1]
  have h8 := h2.1
  cases nP with
  | zero => rw [if_neg (by decide), if_pos y0, bS, if_pos i0]; exact ⟨_, _, _, rfl, rfl, C⟩
  | succ n =>
    obtain ⟨ok, tx, tm⟩ := h2.2.2.2 n (by omega)
    rw [if_pos (by rw [l1]; exact nI_le (by omega) (by omega)), if_neg (fun q => by rw [l0, nEQ (by omega) (by omega)] at q; omega), l1, nSub (by omega), show n + 1 - 1 = n by omega]
    obtain ⟨x', e1, e2, e3⟩ := x_pcopy (h := wr x 14 0 (nI n)) (q := 3) (r := 16 + n) (by omega) (tx.mv (fun j => wr_ne _ _ (by omega)))
    obtain ⟨y', f1, f2, f3⟩ := m_undo_cp (n := n) (by omega) 12 0 FU (wr y 0 7 (nI n)) (by omega) (by unfold FU; omega) (wr_self _ _ _ _)
    have a : ∀ k j, k ≠ 3 → k ≠ 14 → x' k j = x k j := fun k j h1 h2 => (e3 k j h1).trans (wr_ne _ _ (by omega))
    have b : ∀ k j, k ≠ 4 → ¬ (k = 0 ∧ j = 7) → y' k j = y k j := fun k j h1 h2 => (f3 k j (by omega)).trans (wr_ne _ _ (by omega))
    refine ⟨nI n, x', y', ?_, ?_, m, P n, n, P, nK, K, nN, N, nT, T, V.to (fun k j h => a k j (by omega) (by omega)) (fun j => b 2 j (by omega) (by omega)) ok e2 (tm.cp (fun i hi => by rw [Nat.zero_add, f2 i (by omega) hi, wr_ne _ _ (by omega)])), ⟨by omega, (e3 14 0 (by omega)).trans (wr_self _ _ _ _), (f3 0 7 (by omega)).trans (wr_self _ _ _ _), fun k hk => ?_⟩, h3.cg (fun k j h => a k j (by omega) (by omega)) (fun k j h => b k j (by omega) (by omega)), h4.cg (fun k j h => a k j (by omega) (by omega)) (fun k j h => b k j (by omega) (by omega)), h5.cg (fun k j h => a k j (by omega) (by omega)) (fun k j h => b k j (by omega) (by omega))⟩
    · rw [bS, wr_self, x_get_a (by omega), bS, e1, bS, bS, if_neg n1]
      show some (x' 14 0, x') = _
      rw [(e3 14 0 (by omega)).trans (wr_self _ _ _ _)]
    · rw [bS]; exact f1
    · obtain ⟨ok, tx, tm⟩ := h2.2.2.2 k (by omega)
      exact ⟨ok, tx.mv (fun j => a _ j (by omega) (by omega)), tm.mv (fun j => b 5 j (by omega) (by omega))⟩
theorem p_back : Sim x_Nm_back m_Mo_back := by
  intro x y C
  obtain ⟨m, c, nP, P, nK, K, nN, N, nT, T, V, h2, h3, h4, h5⟩ := id C
  unfold x_Nm_back m_Mo_back x_Pile_popInto_b
  rw [h3.2.1, h3.2.2.1]
  have h8 := h3.1
  cases nK with
  | zero => rw [if_neg (by decide), if_pos y0, bS, if_pos i0]; exact ⟨_, _, _, rfl, rfl, C⟩
  | succ n =>
    obtain ⟨ok, tx, tm⟩ := h3.2.2.2 n (by omega)
    rw [if_pos (by rw [l1]; exact nI_le (by omega) (by omega)), if_neg (fun q => by rw [l0, nEQ (by omega) (by omega)] at q; omega), l1, nSub (by omega), show n + 1 - 1 = n by omega]
    obtain ⟨x', e1, e2, e3⟩ := x_pcopy (h := wr x 24 0 (nI n)) (q := 3) (r := 26 + n) (by omega) (tx.mv (fun j => wr_ne _ _ (by omega)))
    obtain ⟨y', f1, f7, f2, f3⟩ := m_back_cp (n := n) (by omega) 12 0 FU (wr y 0 9 (nI n)) (by omega) (by unfold FU; omega) (wr_self _ _ _ _)
    have a : ∀ k j, k ≠ 3 → k ≠ 24 → k ≠ 14 → wr x' 14 0 0 k j = x k j := fun k j h1 h2 h3 => (wr_ne _ _ (by omega)).trans ((e3 k j h1).trans (wr_ne _ _ (by omega)))
    have b : ∀ k j, k ≠ 4 → ¬ (k = 0 ∧ j = 7) → ¬ (k = 0 ∧ j = 9) → y' k j = y k j := fun k j h1 h2 h3 => (f3 k j h2 (by omega)).trans (wr_ne _ _ (by omega))
    refine ⟨nI n, wr x' 14 0 0, y', ?_, ?_, m, K n, 0, P, n, K, nN, N, nT, T, V.to (fun k j h => a k j (by omega) (by omega) (by omega)) (fun j => b 2 j (by omega) (by omega) (by omega)) ok (e2.mv (fun j => wr_ne _ _ (by omega))) (tm.cp (fun i hi => by rw [Nat.zero_add, f2 i (by omega) hi, wr_ne _ _ (by omega)])), ⟨by omega, wr_self _ _ _ _, f7, fun k hk => by omega⟩, ⟨by omega, (wr_ne _ _ (by omega)).trans ((e3 24 0 (by omega)).trans (wr_self _ _ _ _)), (f3 0 9 (by omega) (by omega)).trans (wr_self _ _ _ _), fun k hk => ?_⟩, h4.cg (fun k j h => a k j (by omega) (by omega) (by omega)) (fun k j h => b k j (by omega) (by omega) (by omega)), h5.cg (fun k j h => a k j (by omega) (by omega) (by omega)) (fun k j h => b k j (by omega) (by omega) (by omega))⟩
    · rw [bS, wr_self, x_get_b (by omega), bS, e1, bS, bS, if_neg n1, bS]
      show some (wr x' 14 0 0 24 0, wr x' 14 0 0) = _
      rw [wr_ne _ _ (a := 24) (b := 0) (by omega), (e3 24 0 (by omega)).trans (wr_self _ _ _ _)]
    · rw [bS]; exact f1
    · obtain ⟨ok, tx, tm⟩ := h3.2.2.2 k (by omega)
      exact ⟨ok, tx.mv (fun j => a _ j (by omega) (by omega) (by omega)), tm.mv (fun j => b 6 j (by omega) (by omega) (by omega))⟩
theorem p_keep : Sim x_Nm_keep m_Mo_keep := by
  intro x y C
  obtain ⟨m, c, nP, P, nK, K, nN, N, nT, T, V, h2, h3, h4, h5⟩ := id C
  unfold x_Nm_keep m_Mo_keep x_Pile_push_b x_Pile_push_b_b16
  rw [h3.2.1, h3.2.2.1]
  have h8 := h3.1
  by_cases hk : nK < 2
  · obtain ⟨x', e1, e2, e3⟩ := x_pcopy (h := x) (q := 26 + nK) (r := 3) (by omega) V.2.2.2.2.1
    obtain ⟨y', f1, f7, f2, f3⟩ := m_keep_cp (n := nK) (by omega) 12 0 FU y (by omega) (by unfold FU; omega) h3.2.2.1
    have a : ∀ k j, k ≠ 24 → k ≠ 26 + nK → wr x' 24 0 (nI (nK + 1)) k j = x k j := fun k j h1 h2 => (wr_ne _ _ (by omega)).trans (e3 k j h2)
    have b : ∀ k j, k ≠ 6 → ¬ (k = 0 ∧ j = 9) → y' k j = y k j := fun k j h1 h2 => f3 k j h2 (by omega)
    refine ⟨nI (nK + 1), wr x' 24 0 (nI (nK + 1)), y', ?_, ?_, m, c, nP, P, nK + 1, (fun k => if k = nK then c else K k), nN, N, nT, T, V.cg (fun k j h => a k j (by omega) (by omega)) (fun k j h => b k j (by omega) (by omega)), h2.cg (fun k j h => a k j (by omega) (by omega)) (fun k j h => b k j (by omega) (by omega)), ⟨by omega, wr_self _ _ _ _, f7, fun k hk => ?_⟩, h4.cg (fun k j h => a k j (by omega) (by omega)) (fun k j h => b k j (by omega) (by omega)), h5.cg (fun k j h => a k j (by omega) (by omega)) (fun k j h => b k j (by omega) (by omega))⟩
    · rw [l2, if_pos ((nI_ltI (by omega) (by omega)).mpr hk), if_pos ((nI_ltI (by omega) (by omega)).mpr hk), x_get_b hk, bS, e1, bS, bS, bS, e3 24 0 (by omega), h3.2.1, nI_1, wr_self]
    · rw [if_neg (by rw [l2, nEQ (by omega) (by omega)]; omega)]; exact f1
    · dsimp only
      by_cases hkn : k = nK
      · subst hkn
        rw [if_pos rfl]
        exact ⟨V.2.2.2.1, e2.mv (fun j => wr_ne _ _ (by omega)), V.2.2.2.2.2.cp (fun i hi => by rw [f2 i (by omega) hi, Nat.zero_add])⟩
      · rw [if_neg hkn]
        obtain ⟨ok, tx, tm⟩ := h3.2.2.2 k (by omega)
        exact ⟨ok, tx.mv (fun j => a _ j (by omega) (by omega)), tm.cp (fun i hi => f3 _ _ (by omega) (by omega))⟩
  · obtain rfl : nK = 2 := by omega
    rw [if_neg (by decide), if_pos (show nI 2 = (2 : Int32) from rfl)]
    exact ⟨_, _, _, rfl, rfl, C⟩
theorem p_wipe : Sim x_Nm_wipe m_Mo_wipe := by
  intro x y C
  obtain ⟨m, c, nP, P, nK, K, nN, N, nT, T, V, h2, h3, h4, h5⟩ := id C
  have a : ∀ k j, ¬ (k = 1 ∧ j = 1) → wr x 1 1 0 k j = x k j := fun k j h => wr_ne _ _ h
  have b : ∀ k j, ¬ (k = 0 ∧ j = 0) → wr y 0 0 0 k j = y k j := fun k j h => wr_ne _ _ h
  refine ⟨nI nT, wr x 1 1 0, wr y 0 0 0, ?_, ?_, m, c, nP, P, nK, K, nN, N, 0, T, V.cg (fun k j h => a k j (by omega)) (fun k j h => b k j (by omega)), h2.cg (fun k j h => a k j (by omega)) (fun k j h => b k j (by omega)), h3.cg (fun k j h => a k j (by omega)) (fun k j h => b k j (by omega)), h4.cg (fun k j h => a k j (by omega)) (fun k j h => b k j (by omega)), ⟨by omega, wr_self _ _ _ _, wr_self _ _ _ _, fun k hk => by omega⟩⟩
  · unfold x_Nm_wipe
    rw [h5.2.1]; rfl
  · unfold m_Mo_wipe
    rw [h5.2.2.1]; rfl
theorem p_forget : Sim x_Nm_forget m_Mo_forget := by
  intro x y C
  obtain ⟨m, c, nP, P, nK, K, nN, N, nT, T, V, h2, h3, h4, h5⟩ := id C
  have a : ∀ k j, ¬ (k = 28 ∧ j = 0) → wr x 28 0 0 k j = x k j := fun k j h => wr_ne _ _ h
  have b : ∀ k j, ¬ (k = 0 ∧ j = 11) → wr y 0 11 0 k j = y k j := fun k j h => wr_ne _ _ h
  refine ⟨nI nN, wr x 28 0 0, wr y 0 11 0, ?_, ?_, m, c, nP, P, nK, K, 0, N, nT, T, V.cg (fun k j h => a k j (by omega)) (fun k j h => b k j (by omega)), h2.cg (fun k j h => a k j (by omega)) (fun k j h => b k j (by omega)), h3.cg (fun k j h => a k j (by omega)) (fun k j h => b k j (by omega)), ⟨by omega, wr_self _ _ _ _, wr_self _ _ _ _, fun k hk => by omega⟩, h5.cg (fun k j h => a k j (by omega)) (fun k j h => b k j (by omega))⟩
  · unfold x_Nm_forget
    rw [h4.2.1]; rfl
  · unfold m_Mo_forget
    rw [h4.2.2.1]; rfl
theorem p_write (p : Int32) : Sim (x_Nm_write p) (m_Mo_write p) := by
  intro x y C
  obtain ⟨m, c, nP, P, nK, K, nN, N, nT, T, V, h2, h3, h4, h5⟩ := id C
  have hn := h5.1
  unfold x_Nm_write m_Mo_write
  rcases rng p 32 126 (by omega) (by omega) with ⟨j, hj1, hj2, rfl⟩ | hp
  · rw [show x_Nm_isOutside (nI j) (32 : Int32) (126 : Int32) x = some 0 from x_outY (lo := 32) (hi := 126) hj1 hj2 (by omega) x, show m_Mo_in (nI j).toInt64 (32 : Int64) (126 : Int64) y = some 1 from m_inY (lo := 32) (hi := 126) hj1 hj2 (by omega) y, bS, bS, if_pos i0, if_neg i1, h5.2.1, h5.2.2.1, l200]
    by_cases h : nT < 200
    · have a : ∀ k i, ¬ (k = 1 ∧ i = 1) → ¬ (k = 2 ∧ i = nT) → wr (wr x 2 nT (nI j)) 1 1 (nI (nT + 1)) k i = x k i := fun k i h1 h2 => (wr_ne _ _ h1).trans (wr_ne _ _ h2)
      have b : ∀ k i, ¬ (k = 0 ∧ i = 0) → ¬ (k = 1 ∧ i = nT) → wr (wr y 1 nT (nI j)) 0 0 (nI (nT + 1)) k i = y k i := fun k i h1 h2 => (wr_ne _ _ h1).trans (wr_ne _ _ h2)
      refine ⟨nI (nT + 1), wr (wr x 2 nT (nI j)) 1 1 (nI (nT + 1)), wr (wr y 1 nT (nI j)) 0 0 (nI (nT + 1)), ?_, ?_, m, c, nP, P, nK, K, nN, N, nT + 1, (fun k => if k = nT then j else T k), V.cg (fun k j h => a k j (by omega) (by omega)) (fun k j h => b k j (by omega) (by omega)), h2.cg (fun k j h => a k j (by omega) (by omega)) (fun k j h => b k j (by omega) (by omega)), h3.cg (fun k j h => a k j (by omega) (by omega)) (fun k j h => b k j (by omega) (by omega)), h4.cg (fun k j h => a k j (by omega) (by omega)) (fun k j h => b k j (by omega) (by omega)), ⟨by omega, wr_self _ _ _ _, wr_self _ _ _ _, fun k hk => ?_⟩⟩
      · unfold x_Reader_append
        rw [if_pos ((nI_ltI (by omega) (by omega)).mpr h), h5.2.1, l200, if_pos ((nI_ltI (by omega) (by omega)).mpr h), x_put (r := 2) h, bS, bS, bS, wr_self, wr_ne _ _ (a := 1) (b := 1) (by omega), h5.2.1, nI_1]
      · rw [if_neg (by rw [nEQ (by omega) (by omega)]; omega), if_pos (inR_y h (by omega)), nI_cl (by omega), bS, bS, wr_self, wr_ne _ _ (a := 0) (b := 0) (by omega), h5.2.2.1, nI_1]
      · dsimp only
        by_cases hkn : k = nT
        · subst hkn
          rw [if_pos rfl]
          exact ⟨(wr_ne _ _ (by omega)).trans (wr_self _ _ _ _), (wr_ne _ _ (by omega)).trans (wr_self _ _ _ _), hj1, hj2⟩
        · rw [if_neg hkn]
          obtain ⟨t1, t2, t3⟩ := h5.2.2.2 k (by omega)
          exact ⟨(a _ _ (by omega) (by omega)).trans t1, (b _ _ (by omega) (by omega)).trans t2, t3⟩
    · obtain rfl : nT = 200 := by omega
      rw [if_neg (by decide), if_pos rfl]
      exact ⟨_, _, _, rfl, rfl, C⟩
  · rw [show x_Nm_isOutside p (32 : Int32) (126 : Int32) x = some 1 from x_outN (lo := 32) (hi := 126) hp x, show m_Mo_in p.toInt64 (32 : Int64) (126 : Int64) y = some 0 from m_inN (lo := 32) (hi := 126) (by omega) (by omega) hp y, bS, bS, if_neg i1, if_pos i0]
    exact ⟨_, _, _, rfl, rfl, C⟩
