/-! the reading of a text, whole -/
def GX (q : Nat) (x x' : Hp) : Prop := ∀ k j, ¬ (q ≤ k ∧ k ≤ q + 3) → ¬ (k = 1 ∧ (j = 2 ∨ j = 3)) → x' k j = x k j
def GM (y y' : Hp) : Prop := ∀ k j, k ≠ 3 → k ≠ 8 → ¬ (k = 0 ∧ (j = 12 ∨ j = 4)) → y' k j = y k j
theorem FX.G {q : Nat} {x x' : Hp} (a : FX q x x') : GX q x x' := fun k j h1 h2 => a k j h1 (by omega)
theorem FM.G {y y' : Hp} (a : FM y y') : GM y y' := fun k j h1 h2 h3 => a k j h1 h2 (by omega)
theorem GX.rf {q : Nat} {x : Hp} : GX q x x := fun _ _ _ _ => rfl
theorem GM.rf {y : Hp} : GM y y := fun _ _ _ _ _ => rfl
theorem GX.tr {q : Nat} {x y z : Hp} (a : GX q x y) (b : GX q y z) : GX q x z := fun k j h1 h2 => (b k j h1 h2).trans (a k j h1 h2)
theorem GM.tr {x y z : Hp} (a : GM x y) (b : GM y z) : GM x z := fun k j h1 h2 h3 => (b k j h1 h2 h3).trans (a k j h1 h2 h3)
theorem DI.to {q : Nat} (hq : q = 6 ∨ q = 10) {x y x' y' : Hp} {m : Mnu} {n : Nat} {T : Nat → Nat} {p p' : Nat} (I : DI q x y m n T p) (a : ∀ k j, ¬ (k = 1 ∧ (j = 2 ∨ j = 3)) → x' k j = x k j) (b : ∀ k j, ¬ (k = 0 ∧ (j = 12 ∨ j = 4)) → y' k j = y k j) (h1 : x' 1 2 = nI p') (h2 : y' 0 12 = nI p') (hp : p' ≤ n) : DI q x' y' m n T p' :=
  ⟨I.1, I.2.1.mv (fun k j z1 z2 => a k j (by omega)), I.2.2.1.mv (fun j => b 3 j (by omega)),
   ⟨I.2.2.2.1.1, (a 1 1 (by omega)).trans I.2.2.2.1.2.1, fun k hk => ⟨(a 2 k (by omega)).trans (I.2.2.2.1.2.2.1 k hk).1, (I.2.2.2.1.2.2.1 k hk).2⟩, h1, hp⟩,
   ⟨I.2.2.2.2.1, (b 0 0 (by omega)).trans I.2.2.2.2.2.1, fun k hk => ⟨(b 1 k (by omega)).trans (I.2.2.2.2.2.2.1 k hk).1, (I.2.2.2.2.2.2.1 k hk).2⟩, h2, hp⟩⟩
theorem wrp {a : Option (Int32 × Hp)} {r : Int32} {x : Hp} (h : a = some (r, x)) (hr : r = 0 ∨ r = 1) : (a.bind fun z => if (z.1 = 0 ∨ z.1 = 1) then some (z.1, z.2) else none) = some (r, x) := by
  rw [h, bS, if_pos hr]
def Ri (q n : Nat) (T : Nat → Nat) (p : Nat) (x y : Hp) (a b : Option (Int32 × Hp)) : Prop := ∃ r x' y', a = some (r, x') ∧ b = some (r, y') ∧ GX q x x' ∧ GM y y' ∧ (r = 0 ∨ (r = 1 ∧ ∃ m' p' o', p < p' ∧ DI q x' y' m' n T p' ∧ x' 1 3 = bI o' ∧ y' 0 4 = bI (!o') ∧ (o' = true → dG m' = 0)))
theorem Rs.i {q n : Nat} (hq : q = 6 ∨ q = 10) {T : Nat → Nat} {p : Nat} {x y x0 y0' : Hp} {a b : Option (Int32 × Hp)} {Q : Mnu → Prop} (h : Rs q n T (p + 1) x y a b Q) (g1 : GX q x0 x) (g2 : GM y0' y) (o : Bool) (h1 : x 1 3 = bI o) (h2 : y 0 4 = bI (!o)) (h3 : o = true → ∀ m', Q m' → dG m' = 0) : ∃ r x' y', (r = 0 ∨ r = 1) ∧ a = some (r, x') ∧ b = some (r, y') ∧ Ri q n T p x0 y0' (some (r, x')) (some (r, y')) := by
  obtain ⟨r, x', y', e1, e2, e3, e4, e5⟩ := h
  refine ⟨r, x', y', ?_, e1, e2, r, x', y', rfl, rfl, g1.tr e3.G, g2.tr e4.G, ?_⟩
  · rcases e5 with rfl | ⟨rfl, -⟩
    · exact Or.inl rfl
    · exact Or.inr rfl
  · rcases e5 with rfl | ⟨rfl, m', p', z1, z2, z3⟩
    · exact Or.inl rfl
    · exact Or.inr ⟨rfl, m', p', o, by omega, z2, (e3 1 3 (by omega) (by omega)).trans h1, (e4 0 4 (by omega) (by omega) (by omega)).trans h2, fun ho => h3 ho m' z3⟩
theorem r_item {q : Nat} (hq : q = 6 ∨ q = 10) {x y : Hp} {m : Mnu} {n p : Nat} {T : Nat → Nat} (I : DI q x y m n T p) (hp : p < n) (o : Bool) (h1 : x 1 3 = bI o) (h2 : y 0 4 = bI (!o)) (h3 : o = true → dG m = 0) : Ri q n T p x y (x_Reader_readItem q x) (m_Mo_item y) := by
  have rx := I.2.2.2.1
  have rm := I.2.2.2.2
  have hn := rx.1
  have hT := (rx.2.2.1 p hp).2
  have g1 : GX q x (wr x 1 2 (nI (p + 1))) := fun k j z1 z2 => wr_ne _ _ (by omega)
  have g2 : GM y (wr y 0 12 (nI (p + 1))) := fun k j z1 z2 z3 => wr_ne _ _ (by omega)
  have I1 : DI q (wr x 1 2 (nI (p + 1))) (wr y 0 12 (nI (p + 1))) m n T (p + 1) := I.to hq (fun k j z => wr_ne _ _ (by omega)) (fun k j z => wr_ne _ _ (by omega)) (wr_self _ _ _ _) (wr_self _ _ _ _) (by omega)
  unfold x_Reader_readItem m_Mo_item
  rw [x_peek rx, if_pos hp, bS, bS, rx.2.2.2.1, rm.2.2.2.1, m_letter rm p (by omega), bS, bS, nI_1, show ltr n T p = T p from by unfold ltr; rw [if_pos hp]]
  by_cases e : T p = 100
  · have e' : nI (T p) = (100 : Int32) := by rw [e]; rfl
    rw [if_pos e', bS, if_pos e', wr_ne _ _ (a := 1) (b := 3) (by omega), h1]
    cases ho : o with
    | false =>
      rw [bI_f, if_pos i0]
      have hy4 : wr y 0 12 (nI (p + 1)) 0 4 = 1 := by rw [wr_ne _ _ (by omega), h2, ho]; rfl
      rcases m_one I1.2.2.2.2 (f := 0) (lo := 2) (hi := 6) (by omega) (by omega) (by omega) with ⟨-, y', e2, e3⟩ | ⟨v, p', y', -, e2, e3, -⟩
      · rw [show m_Mo_one (0 : Int32) (2 : Int32) (6 : Int32) (wr y 0 12 (nI (p + 1))) = _ from e2, bS, if_pos i0]
        exact ⟨0, _, _, rfl, rfl, g1, g2.tr e3.G, Or.inl rfl⟩
      · rw [show m_Mo_one (0 : Int32) (2 : Int32) (6 : Int32) (wr y 0 12 (nI (p + 1))) = _ from e2, bS, if_neg i1, if_neg (show ¬ y' 0 4 = 0 from by rw [e3 0 4 (by omega) (by omega) (by omega), hy4]; exact i1)]
        exact ⟨0, _, _, rfl, rfl, g1, g2.tr e3.G, Or.inl rfl⟩
    | true =>
      rw [bI_t, if_neg i1]
      have hy4 : wr y 0 12 (nI (p + 1)) 0 4 = 0 := by rw [wr_ne _ _ (by omega), h2, ho]; rfl
      have S := r_one hq I1 (f := 0) (lo := 2) (hi := 6) (by omega) (by omega) (Or.inl ⟨rfl, h3 ho, rfl, rfl⟩)
      have hS := S
      obtain ⟨r, x', y', hr, e1, e2, R⟩ := S.i hq g1 g2 true (by rw [wr_ne _ _ (by omega), h1, ho]) (by rw [wr_ne _ _ (by omega), h2, ho]) (fun _ m' hm => hm.trans (h3 ho))
      rw [show x_Reader_readDishes q (wr x 1 2 (nI (p + 1))) = _ from e1, show m_Mo_one (0 : Int32) (2 : Int32) (6 : Int32) (wr y 0 12 (nI (p + 1))) = _ from e2, bS, bS]
      rcases hr with rfl | rfl
      · rw [if_pos i0, if_pos i0]; exact R
      · obtain ⟨r2, x2, y2, q1, q2, -, f4, -⟩ := hS
        rw [e2] at q2
        cases q2
        rw [if_neg i1, if_neg i1, if_pos (show y' 0 4 = 0 from by rw [f4 0 4 (by omega) (by omega) (by omega), hy4])]
        exact R
  · have hne : ∀ c, c < 200 → T p ≠ c → ¬ nI (T p) = nI c := fun c hc h => by rw [nEQ (by omega) (by omega)]; exact h
    rw [if_neg (show ¬ nI (T p) = (100 : Int32) from hne 100 (by omega) e), bS, if_neg (show ¬ nI (T p) = (100 : Int32) from hne 100 (by omega) e), bS]
    have I2 : DI q (wr (wr x 1 2 (nI (p + 1))) 1 3 0) (wr (wr y 0 12 (nI (p + 1))) 0 4 1) m n T (p + 1) := I1.to hq (fun k j z => wr_ne _ _ (by omega)) (fun k j z => wr_ne _ _ (by omega)) (by rw [wr_ne _ _ (by omega), wr_self]) (by rw [wr_ne _ _ (by omega), wr_self]) (by omega)
    have g3 : GX q x (wr (wr x 1 2 (nI (p + 1))) 1 3 0) := g1.tr (fun k j z1 z2 => wr_ne _ _ (by omega))
    have g4 : GM y (wr (wr y 0 12 (nI (p + 1))) 0 4 1) := g2.tr (fun k j z1 z2 z3 => wr_ne _ _ (by omega))
    have k1 : wr (wr x 1 2 (nI (p + 1))) 1 3 0 1 3 = bI false := wr_self _ _ _ _
    have k2 : wr (wr y 0 12 (nI (p + 1))) 0 4 1 0 4 = bI (!false) := wr_self _ _ _ _
    by_cases e103 : T p = 103
    · have f103 : nI (T p) = (103 : Int32) := by rw [e103]; rfl
      obtain ⟨r, x', y', hr, w1, w2, R⟩ := (r_guest hq I2).i hq g3 g4 false k1 k2 (fun h => absurd h (by decide))
      rw [if_pos f103, if_pos f103, wrp (show x_Reader_readGuest q (wr (wr x 1 2 (nI (p + 1))) 1 3 0) = _ from w1) hr, wrp (show m_Mo_guestItem (wr (wr y 0 12 (nI (p + 1))) 0 4 1) = _ from w2) hr]
      exact R
    · rw [if_neg (show ¬ nI (T p) = (103 : Int32) from hne 103 (by omega) e103), if_neg (show ¬ nI (T p) = (103 : Int32) from hne 103 (by omega) e103)]
      by_cases e104 : T p = 104
      · have f104 : nI (T p) = (104 : Int32) := by rw [e104]; rfl
        obtain ⟨r, x', y', hr, w1, w2, R⟩ := (r_one hq I2 (f := 4) (lo := 1) (hi := 60) (by omega) (by omega) (Or.inr (Or.inr (Or.inr ⟨rfl, rfl, rfl⟩)))).i hq g3 g4 false k1 k2 (fun h => absurd h (by decide))
        rw [if_pos f104, if_pos f104, wrp (show x_Reader_readHunger q (wr (wr x 1 2 (nI (p + 1))) 1 3 0) = _ from w1) hr, wrp (show m_Mo_one (4 : Int32) (1 : Int32) (60 : Int32) (wr (wr y 0 12 (nI (p + 1))) 0 4 1) = _ from w2) hr]
        exact R
      · rw [if_neg (show ¬ nI (T p) = (104 : Int32) from hne 104 (by omega) e104), if_neg (show ¬ nI (T p) = (104 : Int32) from hne 104 (by omega) e104)]
        by_cases e115 : T p = 115
        · have f115 : nI (T p) = (115 : Int32) := by rw [e115]; rfl
          obtain ⟨r, x', y', hr, w1, w2, R⟩ := (r_one hq I2 (f := 3) (lo := 1) (hi := 99) (by omega) (by omega) (Or.inr (Or.inr (Or.inl ⟨rfl, rfl, rfl⟩)))).i hq g3 g4 false k1 k2 (fun h => absurd h (by decide))
          rw [if_pos f115, if_pos f115, wrp (show x_Reader_readShuts q (wr (wr x 1 2 (nI (p + 1))) 1 3 0) = _ from w1) hr, wrp (show m_Mo_one (3 : Int32) (1 : Int32) (99 : Int32) (wr (wr y 0 12 (nI (p + 1))) 0 4 1) = _ from w2) hr]
          exact R
        · rw [if_neg (show ¬ nI (T p) = (115 : Int32) from hne 115 (by omega) e115), if_neg (show ¬ nI (T p) = (115 : Int32) from hne 115 (by omega) e115)]
          by_cases e116 : T p = 116
          · have f116 : nI (T p) = (116 : Int32) := by rw [e116]; rfl
            obtain ⟨r, x', y', hr, w1, w2, R⟩ := (r_min hq I2).i hq g3 g4 false k1 k2 (fun h => absurd h (by decide))
            rw [if_pos f116, if_pos f116, wrp (show x_Reader_readMinutes q (wr (wr x 1 2 (nI (p + 1))) 1 3 0) = _ from w1) hr]
            show Ri q n T p x y _ (mMin (wr (wr y 0 12 (nI (p + 1))) 0 4 1))
            rw [w2]
            exact R
          · rw [if_neg (show ¬ nI (T p) = (116 : Int32) from hne 116 (by omega) e116), if_neg (show ¬ nI (T p) = (116 : Int32) from hne 116 (by omega) e116)]
            by_cases e118 : T p = 118
            · have f118 : nI (T p) = (118 : Int32) := by rw [e118]; rfl
              obtain ⟨r, x', y', hr, w1, w2, R⟩ := (r_one hq I2 (f := 2) (lo := 0) (hi := 3) (by omega) (by omega) (Or.inr (Or.inl ⟨rfl, rfl⟩))).i hq g3 g4 false k1 k2 (fun h => absurd h (by decide))
              rw [if_pos f118, if_pos f118, wrp (show x_Reader_readVetoes q (wr (wr x 1 2 (nI (p + 1))) 1 3 0) = _ from w1) hr, wrp (show m_Mo_one (2 : Int32) (0 : Int32) (3 : Int32) (wr (wr y 0 12 (nI (p + 1))) 0 4 1) = _ from w2) hr]
              exact R
            · rw [if_neg (show ¬ nI (T p) = (118 : Int32) from hne 118 (by omega) e118), if_neg (show ¬ nI (T p) = (118 : Int32) from hne 118 (by omega) e118)]
              exact ⟨0, _, _, rfl, rfl, g3, g4, Or.inl rfl⟩
theorem r_loop {q : Nat} (hq : q = 6 ∨ q = 10) {n : Nat} {T : Nat → Nat} : ∀ (z p i f g : Nat) (x y : Hp) (m : Mnu) (o : Bool), n ≤ p + z → i ≤ p → z < f → z < g → DI q x y m n T p → x 1 3 = bI o → y 0 4 = bI (!o) → (o = true → dG m = 0) → ∃ r x' y', x_Reader_readInto_b16 q f (nI i) x = some (r, x') ∧ m_Mo_readAll_b9 g y = some (r, y') ∧ GX q x x' ∧ GM y y' ∧ (r = -4 → ∃ m', Dok m' ∧ DX x' q m' ∧ DM y' 3 m') := by
  intro z
  induction z with
  | zero =>
    intro p i f g x y m o hz hi hf hg I h1 h2 h3
    obtain ⟨f, rfl⟩ : ∃ z, f = z + 1 := ⟨f - 1, by omega⟩
    obtain ⟨g, rfl⟩ : ∃ z, g = z + 1 := ⟨g - 1, by omega⟩
    have hn := I.2.2.2.1.1
    have hp := I.2.2.2.1.2.2.2.2
    refine ⟨-4, x, y, ?_, ?_, GX.rf, GM.rf, fun _ => ⟨m, I.1, I.2.1, I.2.2.1⟩⟩
    · rw [x_Reader_readInto_b16, I.2.2.2.1.2.1, I.2.2.2.1.2.2.2.1, l200]
      by_cases h : 200 ≤ i
      · rw [if_pos (nI_le (by omega) (by omega))]
      · rw [if_neg (nI_ge (by omega) (by omega)), if_pos (nI_le (by omega) (by omega))]
    · rw [m_Mo_readAll_b9, I.2.2.2.2.2.1, I.2.2.2.2.2.2.2.1, if_pos (nI_le (by omega) (by omega))]
  | succ z ih =>
    intro p i f g x y m o hz hi hf hg I h1 h2 h3
    obtain ⟨f, rfl⟩ : ∃ z, f = z + 1 := ⟨f - 1, by omega⟩
    obtain ⟨g, rfl⟩ : ∃ z, g = z + 1 := ⟨g - 1, by omega⟩
    have hn := I.2.2.2.1.1
    have hp := I.2.2.2.1.2.2.2.2
    by_cases hpn : p < n
    · obtain ⟨r, x1, y1, e1, e2, g1, g2, hr⟩ := r_item hq I hpn o h1 h2 h3
      rw [x_Reader_readInto_b16, m_Mo_readAll_b9, I.2.2.2.1.2.1, I.2.2.2.1.2.2.2.1, I.2.2.2.2.2.1, I.2.2.2.2.2.2.2.1, l200, if_neg (show ¬ nI 200 ≤ nI i from nI_ge (by omega) (by omega)), if_neg (show ¬ nI n ≤ nI p from nI_ge (by omega) (by omega)), if_neg (show ¬ nI n ≤ nI p from nI_ge (by omega) (by omega)), bS, e1, bS, bS, e2, bS]
      rcases hr with rfl | ⟨rfl, m', p', o', q1, q2, q3, q4, q5⟩
      · rw [if_pos i0, if_pos i0]
        exact ⟨nI p, x1, y1, rfl, rfl, g1, g2, fun h => absurd h (nI_nm4 (by omega))⟩
      · rw [if_neg i1, if_neg i1, nI_1]
        obtain ⟨r, x', y', e3, e4, g3, g4, hr⟩ := ih p' (i + 1) f g x1 y1 m' o' (by omega) (by omega) (by omega) (by omega) q2 q3 q4 q5
        exact ⟨r, x', y', e3, e4, g1.tr g3, g2.tr g4, hr⟩
    · refine ⟨-4, x, y, ?_, ?_, GX.rf, GM.rf, fun _ => ⟨m, I.1, I.2.1, I.2.2.1⟩⟩
      · rw [x_Reader_readInto_b16, I.2.2.2.1.2.1, I.2.2.2.1.2.2.2.1, l200]
        by_cases h : 200 ≤ i
        · rw [if_pos (nI_le (by omega) (by omega))]
        · rw [if_neg (nI_ge (by omega) (by omega)), if_pos (nI_le (by omega) (by omega))]
      · rw [m_Mo_readAll_b9, I.2.2.2.2.2.1, I.2.2.2.2.2.2.2.1, if_pos (nI_le (by omega) (by omega))]
