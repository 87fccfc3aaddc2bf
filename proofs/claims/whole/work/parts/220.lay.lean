/-! fault and lay -/
def m0 : Mnu := ((4, 0, 1, 90, 20), fun _ => 0, fun _ _ => 0, fun _ => 20)
theorem m0_ok : Dok m0 := ⟨by decide, by decide, by decide, by decide, by decide, by decide, by decide, by decide, fun i h => absurd h (Nat.not_lt_zero _), fun i d h => absurd h (Nat.not_lt_zero _), fun _ _ => ⟨show 1 ≤ 20 by decide, show 20 ≤ 60 by decide⟩⟩
theorem x_cl_loop {q : Nat} (hq : q = 6 ∨ q = 10) : ∀ (z d f : Nat) (x : Hp), d + z = 6 → z < f → ∃ x', x_Menu_clear_b29 q f (nI d) x = some x' ∧ (∀ j, d ≤ j → j < 6 → x' (q + 3) j = nI 20) ∧ ∀ k j, ¬ (k = q + 3 ∧ d ≤ j) → x' k j = x k j := by
  intro z
  induction z with
  | zero =>
    intro d f x hd hf
    obtain ⟨f, rfl⟩ : ∃ z, f = z + 1 := ⟨f - 1, by omega⟩
    exact ⟨x, by rw [x_Menu_clear_b29, l6, if_pos (nI_le (by omega) (by omega))], fun j h1 h2 => by omega, fun _ _ _ => rfl⟩
  | succ z ih =>
    intro d f x hd hf
    obtain ⟨f, rfl⟩ : ∃ z, f = z + 1 := ⟨f - 1, by omega⟩
    obtain ⟨x', e, e1, e2⟩ := ih (d + 1) f (wr x (q + 3) d (nI 20)) (by omega) (by omega)
    refine ⟨x', ?_, fun j h1 h2 => ?_, fun k j h => ?_⟩
    · rw [x_Menu_clear_b29, l6, if_neg (nI_ge (by omega) (by omega)), x_put (by rw [xl3 hq]; omega), bS, nI_1]
      exact e
    · by_cases hj : j = d
      · rw [hj, e2 _ _ (by omega), wr_self]
      · exact e1 j (by omega) h2
    · rw [e2 k j (by omega), wr_ne _ _ (by omega)]
theorem x_clear {q : Nat} (hq : q = 6 ∨ q = 10) (x : Hp) : ∃ x', x_Menu_clear q x = some x' ∧ DX x' q m0 ∧ ∀ k j, ¬ (q ≤ k ∧ k ≤ q + 3) → x' k j = x k j := by
  obtain ⟨x', e, e1, e2⟩ := x_cl_loop hq 6 0 FU (wr (wr (wr (wr (wr x q 0 4) q 1 0) q 2 1) q 3 90) q 4 20) (by omega) (by unfold FU; omega)
  refine ⟨x', ?_, ⟨?_, ?_, ?_, ?_, ?_, fun i h => absurd h (Nat.not_lt_zero _), fun i d h => absurd h (Nat.not_lt_zero _), fun d hd => e1 d (by omega) hd⟩, fun k j h => ?_⟩
  · unfold x_Menu_clear
    rw [bS, bS, bS, bS, bS]; exact e
  · rw [e2 _ _ (by omega), wr_ne _ _ (by omega), wr_ne _ _ (by omega), wr_ne _ _ (by omega), wr_ne _ _ (by omega), wr_self]; rfl
  · rw [e2 _ _ (by omega), wr_ne _ _ (by omega), wr_ne _ _ (by omega), wr_ne _ _ (by omega), wr_self]; rfl
  · rw [e2 _ _ (by omega), wr_ne _ _ (by omega), wr_ne _ _ (by omega), wr_self]; rfl
  · rw [e2 _ _ (by omega), wr_ne _ _ (by omega), wr_self]; rfl
  · rw [e2 _ _ (by omega), wr_self]; rfl
  · rw [e2 _ _ (by omega), wr_ne _ _ (by omega), wr_ne _ _ (by omega), wr_ne _ _ (by omega), wr_ne _ _ (by omega), wr_ne _ _ (by omega)]
theorem m_em53 : ∀ (z d f : Nat) (y : Hp), d + z = 6 → z < f → ∃ y', m_Mo_empty_b53 f (nI d) y = some y' ∧ y' 0 4 = 0 ∧ (∀ j, d ≤ j → j < 6 → y' 3 (14 + j) = nI 20) ∧ ∀ k j, ¬ (k = 3 ∧ 14 + d ≤ j ∧ j < 20) → ¬ (k = 0 ∧ j = 4) → y' k j = y k j := by
  intro z
  induction z with
  | zero =>
    intro d f y hd hf
    obtain ⟨f, rfl⟩ : ∃ z, f = z + 1 := ⟨f - 1, by omega⟩
    exact ⟨wr y 0 4 0, by rw [m_Mo_empty_b53, l6, if_pos (nI_le (by omega) (by omega)), bS], wr_self _ _ _ _, fun j h1 h2 => by omega, fun k j h1 h2 => wr_ne _ _ (by omega)⟩
  | succ z ih =>
    intro d f y hd hf
    obtain ⟨f, rfl⟩ : ∃ z, f = z + 1 := ⟨f - 1, by omega⟩
    obtain ⟨y', e, e0, e1, e2⟩ := ih (d + 1) f (wr y 3 (14 + d) (nI 20)) (by omega) (by omega)
    refine ⟨y', ?_, e0, fun j h1 h2 => ?_, fun k j h1 h2 => ?_⟩
    · rw [m_Mo_empty_b53, l6, if_neg (nI_ge (by omega) (by omega)), l14, nI_add, if_pos (inR_y (show 14 + d < 74 by omega) (by omega)), nI_cl (by omega), bS, nI_1]
      exact e
    · by_cases hj : j = d
      · rw [hj, e2 _ _ (by omega) (by omega), wr_self]
      · exact e1 j (by omega) h2
    · rw [e2 k j (by omega) (by omega), wr_ne _ _ (by omega)]
theorem m_em2 : ∀ (z d f : Nat) (y : Hp), d + z = 74 → z < f → ∃ y', m_Mo_empty_b2 f (nI d) y = m_Mo_empty_b53 FU 0 (wr (wr (wr (wr y' 3 0 4) 3 2 1) 3 3 90) 3 4 20) ∧ (∀ j, d ≤ j → j < 74 → y' 3 j = 0) ∧ ∀ k j, ¬ (k = 3 ∧ d ≤ j) → y' k j = y k j := by
  intro z
  induction z with
  | zero =>
    intro d f y hd hf
    obtain ⟨f, rfl⟩ : ∃ z, f = z + 1 := ⟨f - 1, by omega⟩
    exact ⟨y, by rw [m_Mo_empty_b2, l74, if_pos (nI_le (by omega) (by omega)), bS, bS, bS, bS], fun j h1 h2 => by omega, fun k j h1 => rfl⟩
  | succ z ih =>
    intro d f y hd hf
    obtain ⟨f, rfl⟩ : ∃ z, f = z + 1 := ⟨f - 1, by omega⟩
    obtain ⟨y', e, e1, e2⟩ := ih (d + 1) f (wr y 3 d 0) (by omega) (by omega)
    refine ⟨y', ?_, fun j h1 h2 => ?_, fun k j h1 => ?_⟩
    · rw [m_Mo_empty_b2, l74, if_neg (nI_ge (by omega) (by omega)), if_pos (inR_y (show d < 74 by omega) (by omega)), nI_cl (by omega), bS, nI_1]
      exact e
    · by_cases hj : j = d
      · rw [hj, e2 _ _ (by omega), wr_self]
      · exact e1 j (by omega) h2
    · rw [e2 k j (by omega), wr_ne _ _ (by omega)]
theorem m_empty (y : Hp) : ∃ y', m_Mo_empty y = some y' ∧ DM y' 3 m0 ∧ y' 0 4 = 0 ∧ (∀ j, 20 ≤ j → j < 74 → y' 3 j = 0) ∧ ∀ k j, k ≠ 3 → ¬ (k = 0 ∧ j = 4) → y' k j = y k j := by
  obtain ⟨y1, e, e1, e2⟩ := m_em2 74 0 FU y (by omega) (by unfold FU; omega)
  obtain ⟨y', g, g0, g1, g2⟩ := m_em53 6 0 FU (wr (wr (wr (wr y1 3 0 4) 3 2 1) 3 3 90) 3 4 20) (by omega) (by unfold FU; omega)
  refine ⟨y', e.trans g, ⟨?_, ?_, ?_, ?_, ?_, fun i h => absurd h (Nat.not_lt_zero _), fun i d h => absurd h (Nat.not_lt_zero _), fun d hd => g1 d (by omega) hd⟩, g0, fun j h1 h2 => ?_, fun k j h1 h2 => ?_⟩
  · rw [g2 _ _ (by omega) (by omega), wr_ne _ _ (by omega), wr_ne _ _ (by omega), wr_ne _ _ (by omega), wr_self]; rfl
  · rw [g2 _ _ (by omega) (by omega), wr_ne _ _ (by omega), wr_ne _ _ (by omega), wr_ne _ _ (by omega), wr_ne _ _ (by omega), e1 1 (by omega) (by omega)]; rfl
  · rw [g2 _ _ (by omega) (by omega), wr_ne _ _ (by omega), wr_ne _ _ (by omega), wr_self]; rfl
  · rw [g2 _ _ (by omega) (by omega), wr_ne _ _ (by omega), wr_self]; rfl
  · rw [g2 _ _ (by omega) (by omega), wr_self]; rfl
  · rw [g2 _ _ (by omega) (by omega), wr_ne _ _ (by omega), wr_ne _ _ (by omega), wr_ne _ _ (by omega), wr_ne _ _ (by omega), e1 j (by omega) (by omega)]
  · rw [g2 _ _ (by omega) (by omega), wr_ne _ _ (by omega), wr_ne _ _ (by omega), wr_ne _ _ (by omega), wr_ne _ _ (by omega), e2 _ _ (by omega)]
theorem r_all {q : Nat} (hq : q = 6 ∨ q = 10) {x y : Hp} {n : Nat} {T : Nat → Nat} (X : Txt x y n T) : ∃ r x' y', x_Reader_readInto q x = some (r, x') ∧ m_Mo_readAll y = some (r, y') ∧ GX q x x' ∧ GM y y' ∧ (r = -4 → ∃ m', Dok m' ∧ DX x' q m' ∧ DM y' 3 m') := by
  obtain ⟨x1, e1, e2, e3⟩ := x_clear hq x
  obtain ⟨y1, f1, f2, f3, -, f4⟩ := m_empty y
  have hn := X.1
  have gx : GX q x (wr (wr x1 1 2 0) 1 3 1) := fun k j h1 h2 => by rw [wr_ne _ _ (by omega), wr_ne _ _ (by omega)]; exact e3 k j h1
  have gm : GM y (wr y1 0 12 0) := fun k j h1 h2 h3 => by rw [wr_ne _ _ (by omega)]; exact f4 k j h1 (by omega)
  have I : DI q (wr (wr x1 1 2 0) 1 3 1) (wr y1 0 12 0) m0 n T 0 := ⟨m0_ok, e2.mv (fun k j h1 h2 => by rw [wr_ne _ _ (by omega), wr_ne _ _ (by omega)]), f2.mv (fun j => wr_ne _ _ (by omega)), ⟨hn, (gx 1 1 (by omega) (by omega)).trans X.2.1, fun k hk => ⟨(gx 2 k (by omega) (by omega)).trans (X.2.2.2 k hk).1, (X.2.2.2 k hk).2.2⟩, by rw [wr_ne _ _ (by omega), wr_self]; rfl, Nat.zero_le _⟩, ⟨hn, (gm 0 0 (by omega) (by omega) (by omega)).trans X.2.2.1, fun k hk => ⟨(gm 1 k (by omega) (by omega) (by omega)).trans (X.2.2.2 k hk).2.1, (X.2.2.2 k hk).2.2⟩, by rw [wr_self]; rfl, Nat.zero_le _⟩⟩
  obtain ⟨r, x', y', q1, q2, q3, q4, q5⟩ := r_loop hq n 0 0 FU FU (wr (wr x1 1 2 0) 1 3 1) (wr y1 0 12 0) m0 true (by omega) (by omega) (by unfold FU; omega) (by unfold FU; omega) I (by rw [wr_self]; rfl) (by rw [wr_ne _ _ (by omega)]; exact f3) (fun _ => rfl)
  refine ⟨r, x', y', ?_, ?_, gx.tr q3, gm.tr q4, q5⟩
  · unfold x_Reader_readInto
    rw [e1, bS, bS, bS]; exact q1
  · unfold m_Mo_readAll
    rw [f1, bS, bS]; exact q2
theorem GX.s {x x' : Hp} (a : GX 10 x x') : SX x x' := fun k j h => a k j (fun z => h (Or.inr (Or.inr (Or.inl (by omega))))) (fun z => h (Or.inr (Or.inr (Or.inr (by omega)))))
theorem GM.s {y y' : Hp} (a : GM y y') : SM y y' := fun k j h => a k j (fun z => h (Or.inl z)) (fun z => h (Or.inr (Or.inl z))) (fun z => h (Or.inr (Or.inr (Or.inr (by omega)))))
theorem p_fault : Sim x_Nm_fault m_Mo_fault := by
  intro x y C
  obtain ⟨m, c, nP, P, nK, K, nN, N, nT, T, V, h2, h3, h4, h5⟩ := id C
  obtain ⟨r, x', y', e1, e2, e3, e4, -⟩ := r_all (q := 10) (Or.inr rfl) h5
  refine ⟨r, x', y', ?_, ?_, C.mv e3.s e4.s⟩
  · unfold x_Nm_fault
    rw [e1, bS]
  · unfold m_Mo_fault
    rw [e2, bS]
theorem m_bg28 : ∀ (z j f : Nat) (y : Hp), j + z = 9 → z < f → ∃ y', m_Mo_begin_b28 f (nI j) y = some (wr (wr (wr (wr (wr (wr y' 4 0 0) 4 1 0) 4 2 (-4)) 0 11 0) 0 7 0) 0 9 0) ∧ (∀ i, j ≤ i → i < 9 → y' 4 (3 + i) = y 2 2) ∧ ∀ a b, ¬ (a = 4 ∧ 3 + j ≤ b ∧ b < 12) → y' a b = y a b := by
  intro z
  induction z with
  | zero =>
    intro j f y hj hf
    obtain ⟨f, rfl⟩ : ∃ z, f = z + 1 := ⟨f - 1, by omega⟩
    exact ⟨y, by rw [m_Mo_begin_b28, l9, if_pos (nI_le (by omega) (by omega)), bS, bS, bS, bS, bS, bS], fun i h1 h2 => by omega, fun a b h1 => rfl⟩
  | succ z ih =>
    intro j f y hj hf
    obtain ⟨f, rfl⟩ : ∃ z, f = z + 1 := ⟨f - 1, by omega⟩
    obtain ⟨y', e, e1, e2⟩ := ih (j + 1) f (wr y 4 (3 + j) (y 2 2)) (by omega) (by omega)
    refine ⟨y', ?_, fun i h1 h2 => ?_, fun a b h1 => ?_⟩
    · rw [m_Mo_begin_b28, l9, if_neg (nI_ge (by omega) (by omega)), l3, nI_add, if_pos (inR_y (show 3 + j < 12 by omega) (by omega)), nI_cl (by omega), bS, nI_1]
      exact e
    · by_cases hj : i = j
      · rw [hj, e2 _ _ (by omega), wr_self]
      · rw [e1 i (by omega) h2, wr_ne _ _ (by omega)]
    · rw [e2 a b (by omega), wr_ne _ _ (by omega)]
theorem m_bg2 : ∀ (z j f : Nat) (y : Hp), j + z = 74 → z < f → ∃ y', m_Mo_begin_b2 f (nI j) y = m_Mo_begin_b28 FU 0 y' ∧ (∀ i, j ≤ i → i < 74 → y' 2 i = y 3 i) ∧ ∀ a b, ¬ (a = 2 ∧ j ≤ b ∧ b < 74) → y' a b = y a b := by
  intro z
  induction z with
  | zero =>
    intro j f y hj hf
    obtain ⟨f, rfl⟩ : ∃ z, f = z + 1 := ⟨f - 1, by omega⟩
    exact ⟨y, by rw [m_Mo_begin_b2, l74, if_pos (nI_le (by omega) (by omega))], fun i h1 h2 => by omega, fun a b h1 => rfl⟩
  | succ z ih =>
    intro j f y hj hf
    obtain ⟨f, rfl⟩ : ∃ z, f = z + 1 := ⟨f - 1, by omega⟩
    obtain ⟨y', e, e1, e2⟩ := ih (j + 1) f (wr y 2 j (y 3 j)) (by omega) (by omega)
    refine ⟨y', ?_, fun i h1 h2 => ?_, fun a b h1 => ?_⟩
    · rw [m_Mo_begin_b2, l74, if_neg (nI_ge (by omega) (by omega)), if_pos (inR_y (show j < 74 by omega) (by omega)), if_pos (inR_y (show j < 74 by omega) (by omega)), nI_cl (by omega), bS, nI_1]
      exact e
    · by_cases hj : i = j
      · rw [hj, e2 _ _ (by omega), wr_self]
      · rw [e1 i (by omega) h2, wr_ne _ _ (by omega)]
    · rw [e2 a b (by omega), wr_ne _ _ (by omega)]
/-- begin, when what was read is a table -/
theorem m_begin {y : Hp} {m : Mnu} (ok : Dok m) (D : DM y 3 m) : ∃ y', m_Mo_begin y = some y' ∧ DM y' 2 m ∧ TM y' 4 0 (dV m) (0, 0, none, 0) ∧ y' 0 11 = 0 ∧ y' 0 7 = 0 ∧ y' 0 9 = 0 ∧ ∀ a b, a ≠ 2 → a ≠ 4 → ¬ (a = 0 ∧ (b = 7 ∨ b = 9 ∨ b = 11)) → y' a b = y a b := by
  obtain ⟨y1, e1, e2, e3⟩ := m_bg2 74 0 FU y (by omega) (by unfold FU; omega)
  obtain ⟨y2, g1, g2, g3⟩ := m_bg28 9 0 FU y1 (by omega) (by unfold FU; omega)
  have hD := ok.2.1
  have hG := ok.2.2.1
  have w : ∀ j, j < 74 → wr (wr (wr (wr (wr (wr y2 4 0 0) 4 1 0) 4 2 (-4)) 0 11 0) 0 7 0) 0 9 0 2 j = y 3 j := fun j hj => by
    rw [wr_ne _ _ (by omega), wr_ne _ _ (by omega), wr_ne _ _ (by omega), wr_ne _ _ (by omega), wr_ne _ _ (by omega), wr_ne _ _ (by omega), g3 _ _ (by omega)]; exact e2 j (by omega) hj
  refine ⟨_, e1.trans g1, ⟨(w 0 (by omega)).trans D.1, (w 1 (by omega)).trans D.2.1, (w 2 (by omega)).trans D.2.2.1, (w 3 (by omega)).trans D.2.2.2.1, (w 4 (by omega)).trans D.2.2.2.2.1, fun i hi => (w _ (by omega)).trans (D.2.2.2.2.2.1 i hi), fun i d hi hd => (w _ (by omega)).trans (D.2.2.2.2.2.2.1 i d hi hd), fun d hd => (w _ (by omega)).trans (D.2.2.2.2.2.2.2 d hd)⟩, ⟨?_, ?_, ?_, fun i hi => ?_⟩, ?_, ?_, wr_self _ _ _ _, fun a b h1 h2 h3 => ?_⟩
  · rw [wr_ne _ _ (by omega), wr_ne _ _ (by omega), wr_ne _ _ (by omega), wr_ne _ _ (by omega), wr_ne _ _ (by omega), wr_self]; rfl
  · rw [wr_ne _ _ (by omega), wr_ne _ _ (by omega), wr_ne _ _ (by omega), wr_ne _ _ (by omega), wr_self]; rfl
  · rw [wr_ne _ _ (by omega), wr_ne _ _ (by omega), wr_ne _ _ (by omega), wr_self]; rfl
  · rw [wr_ne _ _ (by omega), wr_ne _ _ (by omega), wr_ne _ _ (by omega), wr_ne _ _ (by omega), wr_ne _ _ (by omega), wr_ne _ _ (by omega), Nat.zero_add, g2 i (by omega) hi, e2 2 (by omega) (by omega), D.2.2.1, show (0, 0, none, 0).2.2.2 / 4 ^ i % 4 = 0 from by show 0 / 4 ^ i % 4 = 0; rw [Nat.zero_div], Nat.sub_zero]
  · rw [wr_ne _ _ (by omega), wr_ne _ _ (by omega), wr_self]
  · rw [wr_ne _ _ (by omega), wr_self]
  · rw [wr_ne _ _ (by omega), wr_ne _ _ (by omega), wr_ne _ _ (by omega), wr_ne _ _ (by omega), wr_ne _ _ (by omega), wr_ne _ _ (by omega), g3 _ _ (by omega), e3 _ _ (by omega)]
theorem Dok.m {m : Mnu} (o : Dok m) (h : 1 ≤ dG m) : Mok m := by
  obtain ⟨o1, o2, o3, o4, o5, o6, o7, o8, o9, o10, o11⟩ := o
  exact ⟨o1, o2, h, o3, o4, o5, o6, o7, o8, o9, o10, fun d hd => o11 d (by omega)⟩
theorem c0_ok {m : Mnu} (o : 2 ≤ dD m) : Cok m (0, 0, none, 0) := ⟨Nat.zero_le _, by
  have : 2 ^ 2 ≤ 2 ^ dD m := Nat.pow_le_pow_right (by decide) o
  show 0 + 1 < 2 ^ dD m
  omega, fun d h => (by cases h), (by decide), fun i hi => by
  show 0 / 4 ^ i % 4 ≤ dV m
  rw [Nat.zero_div]; exact Nat.zero_le _⟩
theorem DX.x {h : Hp} {q : Nat} {m : Mnu} (D6 : dD m ≤ 6) (D : DX h q m) : Mx h q m := ⟨D.1, D.2.1, D.2.2.1, D.2.2.2.1, D.2.2.2.2.1, D.2.2.2.2.2.1, D.2.2.2.2.2.2.1, fun d hd => D.2.2.2.2.2.2.2 d (by omega)⟩
theorem DM.x {h : Hp} {q : Nat} {m : Mnu} (D6 : dD m ≤ 6) (D : DM h q m) : Mm h q m := ⟨D.1, D.2.1, D.2.2.1, D.2.2.2.1, D.2.2.2.2.1, D.2.2.2.2.2.1, D.2.2.2.2.2.2.1, fun d hd => D.2.2.2.2.2.2.2 d (by omega)⟩
theorem sg_o {k : Nat} (h : k < 6 ∨ 13 < k) : sg k = k := by unfold sg; rw [if_neg (by omega), if_neg (by omega)]
theorem sg_6 {k : Nat} (h : 6 ≤ k) (h2 : k < 10) : sg k = k + 4 := by unfold sg; rw [if_pos ⟨h, h2⟩]
theorem p_lay : Sim x_Nm_lay m_Mo_lay := by
  intro x y C
  obtain ⟨m, c, nP, P, nK, K, nN, N, nT, T, V, h2, h3, h4, h5⟩ := id C
  obtain ⟨r, x', y', e1, e2, e3, e4, e5⟩ := r_all (q := 10) (Or.inr rfl) h5
  unfold x_Nm_lay m_Mo_lay
  rw [e1, e2, bS, bS]
  dsimp only
  by_cases hr : r = -4
  · rw [if_pos hr, if_pos hr]
    obtain ⟨m', ok, dx, dm⟩ := e5 hr
    have hG := ok.2.2.1
    by_cases hg : dG m' = 0
    · rw [if_pos (show x' 10 1 = 0 from by rw [dx.2.1, hg]; rfl), if_pos (show y' 3 1 = 0 from by rw [dm.2.1, hg]; rfl)]
      exact ⟨_, _, _, rfl, rfl, C.mv e3.s e4.s⟩
    · rw [if_neg (show ¬ x' 10 1 = 0 from by rw [dx.2.1, l0, nEQ (by omega) (by omega)]; exact hg), if_neg (show ¬ y' 3 1 = 0 from by rw [dm.2.1, l0, nEQ (by omega) (by omega)]; exact hg)]
      obtain ⟨y2, g1, g2, g3, g4, g5, g6, g7⟩ := m_begin ok dm
      unfold x_Table_clear
      rw [g1]
      simp only [bS]
      rw [wr_ne _ _ (a := 10) (b := 1) (by omega), wr_ne _ _ (a := 10) (b := 1) (by omega), wr_ne _ _ (a := 10) (b := 1) (by omega), wr_ne _ _ (a := 10) (b := 1) (by omega), wr_ne _ _ (a := 10) (b := 1) (by omega), wr_ne _ _ (a := 10) (b := 1) (by omega), wr_ne _ _ (a := 10) (b := 1) (by omega), dx.2.1, g2.2.1]
      obtain ⟨X, hX⟩ : ∃ X, X = wr (wr (wr (wr (wr (wr (wr x' 3 0 0) 3 1 0) 3 2 (-1)) 3 3 0) 14 0 0) 24 0 0) 28 0 0 := ⟨_, rfl⟩
      have w : ∀ k j, k ≠ 3 → ¬ (j = 0 ∧ (k = 14 ∨ k = 24 ∨ k = 28)) → X k j = x' k j := fun k j z1 z2 => by
        rw [hX, wr_ne _ _ (by omega), wr_ne _ _ (by omega), wr_ne _ _ (by omega), wr_ne _ _ (by omega), wr_ne _ _ (by omega), wr_ne _ _ (by omega), wr_ne _ _ (by omega)]
      have w3 : TX X 3 (0, 0, none, 0) := by
        rw [hX]
        exact ⟨by rw [wr_ne _ _ (by omega), wr_ne _ _ (by omega), wr_ne _ _ (by omega), wr_ne _ _ (by omega), wr_ne _ _ (by omega), wr_ne _ _ (by omega), wr_self]; rfl, by rw [wr_ne _ _ (by omega), wr_ne _ _ (by omega), wr_ne _ _ (by omega), wr_ne _ _ (by omega), wr_ne _ _ (by omega), wr_self]; rfl, by rw [wr_ne _ _ (by omega), wr_ne _ _ (by omega), wr_ne _ _ (by omega), wr_ne _ _ (by omega), wr_self]; rfl, by rw [wr_ne _ _ (by omega), wr_ne _ _ (by omega), wr_ne _ _ (by omega), wr_self]; rfl⟩
      have w14 : X 14 0 = nI 0 := by rw [hX, wr_ne _ _ (by omega), wr_ne _ _ (by omega), wr_self]; rfl
      have w24 : X 24 0 = nI 0 := by rw [hX, wr_ne _ _ (by omega), wr_self]; rfl
      have w28 : X 28 0 = nI 0 := by rw [hX, wr_self]; rfl
      rw [← hX]
      have s : ∀ k j, (k < 6 ∨ 13 < k) → swh X k j = X k j := fun k j z => by show X (sg k) j = X k j; rw [sg_o z]
      have dx6 : DX (swh X) 6 m' := by
        have e : ∀ k j, 10 ≤ k → k ≤ 13 → swh X (k - 4) j = x' k j := fun k j z1 z2 => by
          show X (sg (k - 4)) j = x' k j
          rw [sg_6 (by omega) (by omega), show k - 4 + 4 = k by omega]
          exact w k j (by omega) (by omega)
        exact ⟨(e 10 0 (by omega) (by omega)).trans dx.1, (e 10 1 (by omega) (by omega)).trans dx.2.1, (e 10 2 (by omega) (by omega)).trans dx.2.2.1, (e 10 3 (by omega) (by omega)).trans dx.2.2.2.1, (e 10 4 (by omega) (by omega)).trans dx.2.2.2.2.1, fun i hi => (e 11 _ (by omega) (by omega)).trans (dx.2.2.2.2.2.1 i hi), fun i d hi hd => (e 12 _ (by omega) (by omega)).trans (dx.2.2.2.2.2.2.1 i d hi hd), fun d hd => (e 13 _ (by omega) (by omega)).trans (dx.2.2.2.2.2.2.2 d hd)⟩
      refine ⟨_, _, _, rfl, rfl, m', (0, 0, none, 0), 0, P, 0, K, 0, N, nT, T, ⟨ok.m (by omega), dx6.x ok.2.1, g2.x ok.2.1, c0_ok ok.1, w3.mv (fun j => s 3 j (by omega)), g3⟩, ⟨by omega, (s 14 0 (by omega)).trans w14, g5, fun k hk => by omega⟩, ⟨by omega, (s 24 0 (by omega)).trans w24, g6, fun k hk => by omega⟩, ⟨by omega, (s 28 0 (by omega)).trans w28, g4, fun k hk => by omega⟩, h5.cg (fun k j h => ?_) (fun k j h => ?_)⟩
      · rw [s k j (by omega), w k j (by omega) (by omega)]; exact e3 k j (by omega) (by omega)
      · rw [g7 k j (by omega) (by omega) (by omega)]; exact e4 k j (by omega) (by omega) (by omega)
  · rw [if_neg hr, if_neg hr]
    exact ⟨_, _, _, rfl, rfl, C.mv e3.s e4.s⟩
