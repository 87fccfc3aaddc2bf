/-! what changes the table -/
theorem View.cg {x x' y y' : Hp} {m : Mnu} {c : Cur} (V : View x y m c) (a : ∀ k j, k = 3 ∨ (6 ≤ k ∧ k ≤ 9) → x' k j = x k j) (b : ∀ k j, k = 2 ∨ k = 4 → y' k j = y k j) : View x' y' m c :=
  ⟨V.1, V.2.1.mv (fun k j h1 h2 => a k j (by omega)), V.2.2.1.mv (fun j => b 2 j (by omega)), V.2.2.2.1, V.2.2.2.2.1.mv (fun j => a 3 j (by omega)), V.2.2.2.2.2.mv (fun j => b 4 j (by omega))⟩
theorem View.to {x x' y y' : Hp} {m : Mnu} {c c' : Cur} (V : View x y m c) (a : ∀ k j, 6 ≤ k ∧ k ≤ 9 → x' k j = x k j) (b : ∀ j, y' 2 j = y 2 j) (ok : Cok m c') (tx : TX x' 3 c') (tm : TM y' 4 0 (dV m) c') : View x' y' m c' :=
  ⟨V.1, V.2.1.mv (fun k j h1 h2 => a k j (by omega)), V.2.2.1.mv b, ok, tx, tm⟩
theorem Past.cg {x x' y y' : Hp} {m : Mnu} {n : Nat} {P : Nat → Cur} (V : Past x y m n P) (a : ∀ k j, k = 14 ∨ (16 ≤ k ∧ k ≤ 23) → x' k j = x k j) (b : ∀ k j, (k = 0 ∧ j = 7) ∨ k = 5 → y' k j = y k j) : Past x' y' m n P :=
  ⟨V.1, (a 14 0 (by omega)).trans V.2.1, (b 0 7 (by omega)).trans V.2.2.1, fun k hk => ⟨(V.2.2.2 k hk).1, (V.2.2.2 k hk).2.1.mv (fun j => a _ j (by have := V.1; omega)), (V.2.2.2 k hk).2.2.mv (fun j => b 5 j (by omega))⟩⟩
theorem Kept.cg {x x' y y' : Hp} {m : Mnu} {n : Nat} {P : Nat → Cur} (V : Kept x y m n P) (a : ∀ k j, k = 24 ∨ (26 ≤ k ∧ k ≤ 27) → x' k j = x k j) (b : ∀ k j, (k = 0 ∧ j = 9) ∨ k = 6 → y' k j = y k j) : Kept x' y' m n P :=
  ⟨V.1, (a 24 0 (by omega)).trans V.2.1, (b 0 9 (by omega)).trans V.2.2.1, fun k hk => ⟨(V.2.2.2 k hk).1, (V.2.2.2 k hk).2.1.mv (fun j => a _ j (by have := V.1; omega)), (V.2.2.2 k hk).2.2.mv (fun j => b 6 j (by omega))⟩⟩
theorem Ntes.cg {x x' y y' : Hp} {m : Mnu} {n : Nat} {N : Nat → Nte} (V : Ntes x y m n N) (a : ∀ k j, k = 28 ∨ (30 ≤ k ∧ k ≤ 37) → x' k j = x k j) (b : ∀ k j, (k = 0 ∧ j = 11) ∨ k = 7 → y' k j = y k j) : Ntes x' y' m n N :=
  ⟨V.1, (a 28 0 (by omega)).trans V.2.1, (b 0 11 (by omega)).trans V.2.2.1, fun k hk => by
    have h0 := V.1
    have a1 := fun j => a (30 + k) j (by omega)
    have b1 := fun j => b 7 j (by omega)
    obtain ⟨h1, h2, h3⟩ := V.2.2.2 k hk
    exact ⟨h1, ⟨(a1 _).trans h2.1, (a1 _).trans h2.2.1, (a1 _).trans h2.2.2.1, (a1 _).trans h2.2.2.2.1, (a1 _).trans h2.2.2.2.2⟩, ⟨(b1 _).trans h3.1, (b1 _).trans h3.2.1, (b1 _).trans h3.2.2.1, (b1 _).trans h3.2.2.2.1, (b1 _).trans h3.2.2.2.2⟩⟩⟩
theorem Txt.cg {x x' y y' : Hp} {n : Nat} {T : Nat → Nat} (V : Txt x y n T) (a : ∀ k j, (k = 1 ∧ j = 1) ∨ k = 2 → x' k j = x k j) (b : ∀ k j, (k = 0 ∧ j = 0) ∨ k = 1 → y' k j = y k j) : Txt x' y' n T :=
  ⟨V.1, (a 1 1 (by omega)).trans V.2.1, (b 0 0 (by omega)).trans V.2.2.1, fun k hk => ⟨(a 2 k (by omega)).trans (V.2.2.2 k hk).1, (b 1 k (by omega)).trans (V.2.2.2 k hk).2.1, (V.2.2.2 k hk).2.2⟩⟩
theorem TM.cp {h h' : Hp} {r b r' b' V : Nat} {c : Cur} (e : ∀ i, i < 12 → h' r' (b' + i) = h r (b + i)) (t : TM h r b V c) : TM h' r' b' V c :=
  ⟨(e 0 (by omega)).trans t.1, (e 1 (by omega)).trans t.2.1, (e 2 (by omega)).trans t.2.2.1, fun i hi => by
    have h1 := e (3 + i) (by omega)
    rw [← Nat.add_assoc, ← Nat.add_assoc] at h1
    exact h1.trans (t.2.2.2 i hi)⟩
def np (n : Nat) : Nat := if n < 8 then n + 1 else 8
def pP (n : Nat) (P : Nat → Cur) (c : Cur) (k : Nat) : Cur := if n < 8 then (if k = n then c else P k) else (if k = 7 then c else P (k + 1))
theorem x_copy {h : Hp} {q r : Nat} {c : Cur} (n : q ≠ r) (t : TX h r c) : ∃ h', x_Table_copyFrom q r h = some h' ∧ TX h' q c ∧ ∀ k j, k ≠ q → h' k j = h k j := by
  refine ⟨wr (wr (wr (wr h q 0 (nI c.1)) q 1 (nI c.2.1)) q 2 (ob (-1) c.2.2.1)) q 3 (nI c.2.2.2), ?_, ⟨?_, ?_, ?_, ?_⟩, fun k j hk => ?_⟩
  · unfold x_Table_copyFrom
    simp only [bS]
    rw [wr_ne _ _ (a := r) (b := 3) (by omega), wr_ne _ _ (a := r) (b := 3) (by omega), wr_ne _ _ (a := r) (b := 3) (by omega), wr_ne _ _ (a := r) (b := 2) (by omega), wr_ne _ _ (a := r) (b := 2) (by omega), wr_ne _ _ (a := r) (b := 1) (by omega), t.1, t.2.1, t.2.2.1, t.2.2.2]
  · rw [wr_ne _ _ (by omega), wr_ne _ _ (by omega), wr_ne _ _ (by omega), wr_self]
  · rw [wr_ne _ _ (by omega), wr_ne _ _ (by omega), wr_self]
  · rw [wr_ne _ _ (by omega), wr_self]
  · rw [wr_self]
  · rw [wr_ne _ _ (by omega), wr_ne _ _ (by omega), wr_ne _ _ (by omega), wr_ne _ _ (by omega)]
theorem x_pcopy {h : Hp} {q r : Nat} {c : Cur} (n : q ≠ r) (t : TX h r c) : ∃ h', x_Pile_copy r q h = some h' ∧ TX h' q c ∧ ∀ k j, k ≠ q → h' k j = h k j := by
  obtain ⟨h', e, e1, e2⟩ := x_copy n t
  exact ⟨h', by unfold x_Pile_copy; rw [e]; rfl, e1, e2⟩
theorem x_get_a {k : Nat} (hk : k < 8) (h : Hp) : x_Pile_get_a (nI k) h = some (16 + k) := by
  unfold x_Pile_get_a
  rw [if_neg (nI_n0 (by omega)), l8, if_neg (nI_ge (by omega) (by omega)), if_pos (inR_y hk (by omega)), nI_cl (by omega)]
theorem x_get_b {k : Nat} (hk : k < 2) (h : Hp) : x_Pile_get_b (nI k) h = some (26 + k) := by
  unfold x_Pile_get_b
  rw [if_neg (nI_n0 (by omega)), l2, if_neg (nI_ge (by omega) (by omega)), if_pos (inR_y hk (by omega)), nI_cl (by omega)]
theorem x_drop_loop {P : Nat → Cur} : ∀ (z i n : Nat) (h : Hp), 1 ≤ i → i + z = 8 → z < n → (∀ k, k < i - 1 → TX h (16 + k) (P (k + 1))) → (∀ k, i - 1 ≤ k → k < 8 → TX h (16 + k) (P k)) → ∃ h', x_Pile_dropLowest_a_b2 n (nI i) h = some h' ∧ h' 14 0 = nI 7 ∧ (∀ k, k < 7 → TX h' (16 + k) (P (k + 1))) ∧ (∀ k j, k ≠ 14 → (k < 16 ∨ 23 < k) → h' k j = h k j) := by
  intro z
  induction z with
  | zero =>
    intro i n h h1 hi hn ha hb
    obtain ⟨n, rfl⟩ : ∃ z, n = z + 1 := ⟨n - 1, by omega⟩
    refine ⟨wr h 14 0 (nI 7), ?_, wr_self _ _ _ _, fun k hk => (ha k (by omega)).mv (fun j => wr_ne _ _ (by omega)), fun k j h1 h2 => wr_ne _ _ (by omega)⟩
    rw [x_Pile_dropLowest_a_b2, l8, if_pos (nI_le (by omega) (by omega)), bS]
    rfl
  | succ z ih =>
    intro i n h h1 hi hn ha hb
    obtain ⟨n, rfl⟩ : ∃ z, n = z + 1 := ⟨n - 1, by omega⟩
    obtain ⟨g, e, eg, ef⟩ := x_pcopy (q := 16 + (i - 1)) (r := 16 + i) (by omega) (hb i (by omega) (by omega))
    obtain ⟨h', e', e7, ec, en⟩ := ih (i + 1) n g (by omega) (by omega) (by omega) (fun k hk => by
      by_cases hki : k = i - 1
      · subst hki; rw [show i - 1 + 1 = i by omega]; exact eg
      · exact (ha k (by omega)).mv (fun j => ef _ j (by omega))) (fun k h1 h2 => (hb k (by omega) h2).mv (fun j => ef _ j (by omega)))
    refine ⟨h', ?_, e7, ec, fun k j h1 h2 => (en k j h1 h2).trans (ef k j (by omega))⟩
    rw [x_Pile_dropLowest_a_b2, l8, if_neg (nI_ge (by omega) (by omega)), x_get_a (by omega), bS, l1, nSub (by omega), x_get_a (by omega), bS, e, bS, nI_add]
    exact e'
theorem x_push16 {h : Hp} {n : Nat} {c : Cur} (hn : n < 8) (h14 : h 14 0 = nI n) (t : TX h 3 c) : ∃ h', x_Pile_push_a_b16 3 h = some h' ∧ h' 14 0 = nI (n + 1) ∧ TX h' (16 + n) c ∧ ∀ k j, k ≠ 14 → k ≠ 16 + n → h' k j = h k j := by
  obtain ⟨g, e, eg, ef⟩ := x_pcopy (q := 16 + n) (r := 3) (by omega) t
  refine ⟨wr g 14 0 (nI (n + 1)), ?_, wr_self _ _ _ _, eg.mv (fun j => wr_ne _ _ (by omega)), fun k j h1 h2 => (wr_ne _ _ (by omega)).trans (ef k j h2)⟩
  unfold x_Pile_push_a_b16
  rw [h14, x_get_a hn, bS, e, bS, bS, ef 14 0 (by omega), h14, nI_1]
theorem x_push {x : Hp} {n : Nat} {P : Nat → Cur} {c : Cur} (hn : n ≤ 8) (h14 : x 14 0 = nI n) (tp : ∀ k, k < n → TX x (16 + k) (P k)) (t : TX x 3 c) : ∃ x', x_Pile_push_a 3 x = some x' ∧ x' 14 0 = nI (np n) ∧ (∀ k, k < np n → TX x' (16 + k) (pP n P c k)) ∧ (∀ k j, k ≠ 14 → (k < 16 ∨ 23 < k) → x' k j = x k j) := by
  unfold x_Pile_push_a np pP
  by_cases h8 : n < 8
  · obtain ⟨x', e, e14, ec, ef⟩ := x_push16 h8 h14 t
    rw [if_pos h8]
    refine ⟨x', ?_, e14, fun k hk => ?_, fun k j h1 h2 => ef k j h1 (by omega)⟩
    · rw [h14, l8, if_pos ((nI_ltI (by omega) (by omega)).mpr h8)]; exact e
    · rw [if_pos h8]
      by_cases hkn : k = n
      · rw [if_pos hkn, hkn]; exact ec
      · rw [if_neg hkn]; exact (tp k (by omega)).mv (fun j => ef _ j (by omega) (by omega))
  · obtain rfl : n = 8 := by omega
    obtain ⟨g, e, e7, ec, ef⟩ := x_drop_loop (P := P) 7 1 FU x (by omega) (by omega) (by unfold FU; omega) (fun k hk => by omega) (fun k h1 h2 => tp k h2)
    obtain ⟨x', e', e14, ec', ef'⟩ := x_push16 (h := g) (n := 7) (c := c) (by omega) e7 (t.mv (fun j => ef _ j (by omega) (by omega)))
    rw [if_neg h8]
    refine ⟨x', ?_, e14, fun k hk => ?_, fun k j h1 h2 => (ef' k j h1 (by omega)).trans (ef k j h1 h2)⟩
    · rw [h14, l8, if_neg (fun q => h8 ((nI_ltI (by omega) (by omega)).mp q))]
      unfold x_Pile_dropLowest_a
      rw [l1, e, bS]
      exact e'
    · rw [if_neg h8]
      by_cases hkn : k = 7
      · rw [if_pos hkn, hkn]; exact ec'
      · rw [if_neg hkn]; exact (ec k (by omega)).mv (fun j => ef' _ j (by omega) (by omega))
theorem m_note_cp {n : Nat} (hn : n ≤ 7) : ∀ (z j f : Nat) (y : Hp), j + z = 12 → z < f → y 0 7 = nI n → ∃ y', m_Mo_note_b50 f (nI j) y = some y' ∧ y' 0 7 = nI (n + 1) ∧ (∀ i, j ≤ i → i < 12 → y' 5 (12 * n + i) = y 4 i) ∧ (∀ a b, ¬ (a = 0 ∧ b = 7) → ¬ (a = 5 ∧ 12 * n + j ≤ b ∧ b < 12 * n + 12) → y' a b = y a b) := by
  intro z
  induction z with
  | zero =>
    intro j f y hj hf h7
    obtain ⟨f, rfl⟩ : ∃ z, f = z + 1 := ⟨f - 1, by omega⟩
    refine ⟨wr y 0 7 (nI (n + 1)), ?_, wr_self _ _ _ _, fun i h1 h2 => by omega, fun a b h1 h2 => wr_ne _ _ (by omega)⟩
    rw [m_Mo_note_b50, l12, if_pos (nI_le (by omega) (by omega)), bS, h7, nI_1]
  | succ z ih =>
    intro j f y hj hf h7
    obtain ⟨f, rfl⟩ : ∃ z, f = z + 1 := ⟨f - 1, by omega⟩
    obtain ⟨y', e, e7, ec, en⟩ := ih (j + 1) f (wr y 5 (12 * n + j) (y 4 j)) (by omega) (by omega) (by rw [wr_ne _ _ (by omega)]; exact h7)
    refine ⟨y', ?_, e7, fun i h1 h2 => ?_, fun a b h1 h2 => ?_⟩
    · rw [m_Mo_note_b50, l12, if_neg (nI_ge (by omega) (by omega)), h7, nMul, nI_add, if_pos (inR_y (by omega) (by omega)), if_pos (inR_y (by omega) (by omega)), nI_cl (by omega), nI_cl (by omega), bS, nI_1]
      exact e
    · by_cases hi : i = j
      · subst hi; rw [en _ _ (by omega) (by omega), wr_self]
      · rw [ec i (by omega) h2, wr_ne _ _ (by omega)]
    · rw [en a b h1 (by omega), wr_ne _ _ (by omega)]
theorem m_note_sh : ∀ (z j f : Nat) (y : Hp), j + z = 84 → z < f → y 0 7 = nI 8 → ∃ y', m_Mo_note_b11 f (nI j) y = m_Mo_note_b50 FU 0 y' ∧ y' 0 7 = nI 7 ∧ (∀ i, j ≤ i → i < 84 → y' 5 i = y 5 (i + 12)) ∧ (∀ a b, ¬ (a = 0 ∧ b = 7) → ¬ (a = 5 ∧ j ≤ b ∧ b < 84) → y' a b = y a b) := by
  intro z
  induction z with
  | zero =>
    intro j f y hj hf h7
    obtain ⟨f, rfl⟩ : ∃ z, f = z + 1 := ⟨f - 1, by omega⟩
    refine ⟨wr y 0 7 (nI 7), ?_, wr_self _ _ _ _, fun i h1 h2 => by omega, fun a b h1 h2 => wr_ne _ _ (by omega)⟩
    rw [m_Mo_note_b11, l84, if_pos (nI_le (by omega) (by omega)), bS, h7]
    rfl
  | succ z ih =>
    intro j f y hj hf h7
    obtain ⟨f, rfl⟩ : ∃ z, f = z + 1 := ⟨f - 1, by omega⟩
    obtain ⟨y', e, e7, ec, en⟩ := ih (j + 1) f (wr y 5 j (y 5 (12 + j))) (by omega) (by omega) (by rw [wr_ne _ _ (by omega)]; exact h7)
    refine ⟨y', ?_, e7, fun i h1 h2 => ?_, fun a b h1 h2 => ?_⟩
    · rw [m_Mo_note_b11, l84, if_neg (nI_ge (by omega) (by omega)), l12, nI_add, if_pos (inR_y (by omega) (by omega)), if_pos (inR_y (by omega) (by omega)), nI_cl (by omega), nI_cl (by omega), bS, nI_1]
      exact e
    · by_cases hi : i = j
      · subst hi; rw [en _ _ (by omega) (by omega), wr_self, Nat.add_comm]
      · rw [ec i (by omega) h2, wr_ne _ _ (by omega)]
    · rw [en a b h1 (by omega), wr_ne _ _ (by omega)]
theorem m_push {y : Hp} {n V : Nat} {P : Nat → Cur} {c : Cur} (hn : n ≤ 8) (h7 : y 0 7 = nI n) (tp : ∀ k, k < n → TM y 5 (12 * k) V (P k)) (t : TM y 4 0 V c) : ∃ y', m_Mo_note y = some y' ∧ y' 0 7 = nI (np n) ∧ (∀ k, k < np n → TM y' 5 (12 * k) V (pP n P c k)) ∧ (∀ k j, k ≠ 5 → ¬ (k = 0 ∧ j = 7) → y' k j = y k j) := by
  unfold m_Mo_note np pP
  by_cases h8 : n < 8
  · obtain ⟨y', e, e7, ec, ef⟩ := m_note_cp (n := n) (by omega) 12 0 FU y (by omega) (by unfold FU; omega) h7
    rw [if_pos h8]
    refine ⟨y', ?_, e7, fun k hk => ?_, fun k j h1 h2 => ef k j h2 (by omega)⟩
    · rw [h7, l8, if_neg (by rw [nEQ (by omega) (by omega)]; omega)]; exact e
    · rw [if_pos h8]
      by_cases hkn : k = n
      · rw [if_pos hkn, hkn]; exact t.cp (fun i hi => by rw [ec i (by omega) hi, Nat.zero_add])
      · rw [if_neg hkn]; exact (tp k (by omega)).cp (fun i hi => ef _ _ (by omega) (by omega))
  · obtain rfl : n = 8 := by omega
    obtain ⟨g, e, e7, ec, ef⟩ := m_note_sh 84 0 FU y (by omega) (by unfold FU; omega) h7
    obtain ⟨y', e', e7', ec', ef'⟩ := m_note_cp (n := 7) (by omega) 12 0 FU g (by omega) (by unfold FU; omega) e7
    rw [if_neg h8]
    refine ⟨y', ?_, e7', fun k hk => ?_, fun k j h1 h2 => (ef' k j h2 (by omega)).trans (ef k j h2 (by omega))⟩
    · rw [h7, l8, if_pos rfl, l0, e]; exact e'
    · rw [if_neg h8]
      by_cases hkn : k = 7
      · rw [if_pos hkn, hkn]; exact t.cp (fun i hi => by rw [ec' i (by omega) hi, ef _ _ (by omega) (by omega), Nat.zero_add])
      · rw [if_neg hkn]; exact (tp (k + 1) (by omega)).cp (fun i hi => by rw [ef' _ _ (by omega) (by omega), ec _ (by omega) (by omega), show 12 * k + i + 12 = 12 * (k + 1) + i by omega])
theorem push_P {x y : Hp} {m : Mnu} {c : Cur} {n : Nat} {P : Nat → Cur} (V : View x y m c) (T : Past x y m n P) : ∃ x' y', x_Pile_push_a 3 x = some x' ∧ m_Mo_note y = some y' ∧ Past x' y' m (np n) (pP n P c) ∧ (∀ k j, k ≠ 14 → (k < 16 ∨ 23 < k) → x' k j = x k j) ∧ (∀ k j, k ≠ 5 → ¬ (k = 0 ∧ j = 7) → y' k j = y k j) := by
  obtain ⟨x', e1, e2, e3, e4⟩ := x_push (P := P) T.1 T.2.1 (fun k hk => (T.2.2.2 k hk).2.1) V.2.2.2.2.1
  obtain ⟨y', f1, f2, f3, f4⟩ := m_push (P := P) T.1 T.2.2.1 (fun k hk => (T.2.2.2 k hk).2.2) V.2.2.2.2.2
  have h8 := T.1
  refine ⟨x', y', e1, f1, ⟨by unfold np; split <;> omega, e2, f2, fun k hk => ⟨?_, e3 k hk, f3 k hk⟩⟩, e4, f4⟩
  unfold np at hk
  unfold pP
  by_cases h : n < 8
  · rw [if_pos h] at hk ⊢
    by_cases hkn : k = n
    · rw [if_pos hkn]; exact V.2.2.2.1
    · rw [if_neg hkn]; exact (T.2.2.2 k (by omega)).1
  · rw [if_neg h] at hk ⊢
    by_cases hkn : k = 7
    · rw [if_pos hkn]; exact V.2.2.2.1
    · rw [if_neg hkn]; exact (T.2.2.2 (k + 1) (by omega)).1
