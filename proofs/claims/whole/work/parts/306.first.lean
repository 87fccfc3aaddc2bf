/-! the two first states -/
def mF : Mnu := ((4, 6, 1, 90, 20), fun i => ([0, 1, 2, 3, 0, 0] : List Nat).getD i 0, fun i d => (([[5, 3, 7, 1], [8, 8, 0, 6], [2, 4, 9, 6], [7, 0, 2, 7], [4, 4, 4, 4], [9, 1, 5, 3]] : List (List Nat)).getD i []).getD d 0, fun d => ([30, 20, 45, 20] : List Nat).getD d 0)
abbrev PXf (h : Hp) : Prop := h 6 0 = nI 4 ∧ h 6 1 = nI 6 ∧ h 6 2 = nI 1 ∧ h 6 3 = nI 90 ∧ h 6 4 = nI 20 ∧ (∀ i, i < 6 → h 7 i = nI (dK mF i)) ∧ (∀ i, i < 6 → ∀ d, d < 4 → h 8 (i * 6 + d) = nI (dT mF i d)) ∧ (∀ d, d < 4 → h 9 d = nI (dM mF d)) ∧ h 3 0 = nI 0 ∧ h 3 1 = nI 0 ∧ h 3 2 = -1 ∧ h 3 3 = nI 0 ∧ h 14 0 = nI 0 ∧ h 24 0 = nI 0 ∧ h 28 0 = nI 0 ∧ h 1 1 = nI 0
abbrev PMf (h : Hp) : Prop := h 2 0 = nI 4 ∧ h 2 1 = nI 6 ∧ h 2 2 = nI 1 ∧ h 2 3 = nI 90 ∧ h 2 4 = nI 20 ∧ (∀ i, i < 6 → h 2 (5 + i) = nI (dK mF i)) ∧ (∀ i, i < 6 → ∀ d, d < 4 → h 2 (20 + 6 * i + d) = nI (dT mF i d)) ∧ (∀ d, d < 4 → h 2 (14 + d) = nI (dM mF d)) ∧ h 4 0 = nI 0 ∧ h 4 1 = nI 0 ∧ h 4 2 = -4 ∧ (∀ i, i < 9 → h 4 (3 + i) = nI 1) ∧ h 0 7 = nI 0 ∧ h 0 9 = nI 0 ∧ h 0 11 = nI 0 ∧ h 0 0 = nI 0
set_option maxRecDepth 100000 in
theorem x_first0 : (x_Nm_init.map fun h => decide (PXf h)) = some true := by decide +kernel
set_option maxRecDepth 100000 in
theorem m_first0 : (m_Mo_init.map fun h => decide (PMf h)) = some true := by decide +kernel
theorem mF_ok : Mok mF := ⟨by decide, by decide, by decide, by decide, by decide, by decide, by decide, by decide, by decide, by decide +kernel, fun i d hi hd => (by decide +kernel : ∀ i, i < 6 → ∀ d, d < 4 → dT mF i d ≤ 9) i hi d hd, by decide +kernel⟩
theorem first : ∃ hx hy, x_Nm_init = some hx ∧ m_Mo_init = some hy ∧ Cpl hx hy := by
  have a := x_first0
  have b := m_first0
  cases e1 : x_Nm_init with
  | none => rw [e1] at a; cases a
  | some hx =>
    cases e2 : m_Mo_init with
    | none => rw [e2] at b; cases b
    | some hy =>
      rw [e1] at a
      rw [e2] at b
      obtain ⟨p1, p2, p3, p4, p5, p6, p7, p8, p9, p10, p11, p12, p13, p14, p15, p16⟩ : PXf hx := of_decide_eq_true (Option.some.inj a)
      obtain ⟨r1, r2, r3, r4, r5, r6, r7, r8, r9, r10, r11, r12, r13, r14, r15, r16⟩ : PMf hy := of_decide_eq_true (Option.some.inj b)
      refine ⟨hx, hy, rfl, rfl, mF, (0, 0, none, 0), 0, fun _ => (0, 0, none, 0), 0, fun _ => (0, 0, none, 0), 0, fun _ => (0, 0, 0, 0, 0), 0, fun _ => 0, ⟨mF_ok, ⟨p1, p2, p3, p4, p5, p6, fun i d hi hd => p7 i hi d hd, p8⟩, ⟨r1, r2, r3, r4, r5, r6, fun i d hi hd => r7 i hi d hd, r8⟩, c0_ok (by decide), ⟨p9, p10, p11, p12⟩, ⟨r9, r10, r11, fun i hi => ?_⟩⟩, ⟨by omega, p13, r13, fun k hk => by omega⟩, ⟨by omega, p14, r14, fun k hk => by omega⟩, ⟨by omega, p15, r15, fun k hk => by omega⟩, ⟨by omega, p16, r16, fun k hk => by omega⟩⟩
      rw [show (0, 0, none, 0).2.2.2 / 4 ^ i % 4 = 0 from by show 0 / 4 ^ i % 4 = 0; rw [Nat.zero_div], Nat.sub_zero, Nat.zero_add]
      exact r12 i hi
