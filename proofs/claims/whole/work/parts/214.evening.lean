/-! an evening -/
def uN (z i : Nat) : Nat := 7919 * z + 6151 * i + 1
def drw (z i : Nat) : Nat := uN z i * uN z i % 65521 / 2
theorem uN_sq {z i : Nat} (hz : z ≤ 9999) (hi : i ≤ 20) : uN z i * uN z i < 2 ^ 63 := by
  have h : uN z i ≤ 80000000 := by unfold uN; omega
  have := Nat.mul_le_mul h h
  omega
theorem drw_lt (z i : Nat) : drw z i < 32768 := by unfold drw; omega
theorem x_draw {z i : Nat} (hz : z ≤ 9999) (hi : i ≤ 20) (h : Hp) : x_Nm_drawOf (nI z) (nI i) h = some (nI (drw z i)) := by
  have hq := uN_sq hz hi
  unfold x_Nm_drawOf
  rw [bS, nI_l (by omega), nI_l (by omega), show (7919 : Int64) = lN 7919 from rfl, show (6151 : Int64) = lN 6151 from rfl, show (1 : Int64) = lN 1 from rfl, lN_mul, lN_mul, lN_add, lN_add, lN_mul, show (65521 : Int64) = lN 65521 from rfl, show (2 : Int64) = lN 2 from rfl]
  rw [show 7919 * z + 6151 * i + 1 = uN z i from rfl, pk_lRem hq (by omega) (by omega), pk_lDiv (by omega) (by omega) (by omega), lN_i]
  rfl
theorem m_draw {z i : Nat} (hz : z ≤ 9999) (hi : i ≤ 20) {α : Type} (f : Int32 → Option α) : ((some ((((7919 : Int64) * ((nI z).toInt64)) + ((6151 : Int64) * ((nI i).toInt64))) + (1 : Int64))).bind fun y121 =>
  (some ((((y121 * y121) - (y121 * y121) / (65521 : Int64) * (65521 : Int64)).toInt32) / (2 : Int32))).bind f) = f (nI (drw z i)) := by
  have hq := uN_sq hz hi
  rw [bS, bS, nI_l (by omega), nI_l (by omega), show (7919 : Int64) = lN 7919 from rfl, show (6151 : Int64) = lN 6151 from rfl, show (1 : Int64) = lN 1 from rfl, lN_mul, lN_mul, lN_add, lN_add, lN_mul, show (65521 : Int64) = lN 65521 from rfl]
  rw [show 7919 * z + 6151 * i + 1 = uN z i from rfl, pk_lRem hq (by omega) (by omega), lN_i, l2, nDiv (by omega) (by omega) (by omega)]
  rfl
theorem lst_ex {m : Mnu} {t L i : Nat} (o : Lok m L) : ∃ d, lst m t L i = some d ∧ d < dD m ∧ L.testBit d = true := by
  obtain ⟨d, h1, h2⟩ := Lok_ex o
  obtain ⟨b, hb⟩ := lmn_some (p := fun d => L.testBit d) (f := fun d => wv m t i d) h1 h2
  exact ⟨b, hb, lmn_lt hb⟩
def Ev (x y h k : Hp) (m : Mnu) (t g s : Nat) : Prop := SX x h ∧ SM y k ∧ TX h 4 (t, g, none, s) ∧ (∀ i, i < 9 → k 9 i = nI (dV m - s / 4 ^ i % 4)) ∧ Cok m (t, g, none, s)
theorem ev_b {x y : Hp} {m : Mnu} {c : Cur} (V : View x y m c) {h k : Hp} {t g s W i : Nat} (E : Ev x y h k m t g s) (hW : W < 32768) {kf : Int32 → Int32 → Int32 → Hp → Option (Int32 × Hp)} {p1 p2 p3 s0 s1 : Int32} (hs : s0 + s1 = nI t) : ∃ h' k' g' s', x_Nm_pretend_b33 (nI W) h = some h' ∧ m_Mo_evening_b163 kf p1 p2 p3 (nI g) (nI i) (nI W) s0 s1 k = kf (nI t) (nI g') (nI (i + 1)) k' ∧ Ev x y h' k' m t g' s' := by
  obtain ⟨sx, sm, tx, tk, ok⟩ := E
  have V' := V.mv sx sm
  have hD := V.1.D
  have hG := V.1.G
  have hV := V.1.V
  have Y := V'.Y.1
  have ht : t ≤ 99 := ok.1
  have hg1 : g + 1 < 2 ^ dD m := ok.2.1
  have hg : g < 2 ^ dD m := by omega
  have hl6 := lf_lt (dD m) g hD.2
  have hpc := pc_le _ hl6
  have L := lok_lf V.1 hg1
  have hw : W / 8 % dG m < dG m := Nat.mod_lt _ (by omega)
  obtain ⟨w, hwe⟩ : ∃ w, w = W / 8 % dG m := ⟨_, rfl⟩
  rw [← hwe] at hw
  have ex : (nI W / (8 : Int32)) - (nI W / (8 : Int32)) / nI (dG m) * nI (dG m) = nI w := by rw [l8, nDiv (a := W) (d := 8) (by omega) (by omega) (by omega), nRem (by omega) (by omega) (by omega), hwe]
  have e3 : (nI W / (128 : Int32)) - (nI W / (128 : Int32)) / (3 : Int32) * (3 : Int32) = nI (W / 128 % 3) := by rw [show (128 : Int32) = nI 128 from rfl, l3, nDiv (a := W) (d := 128) (by omega) (by omega) (by omega), nRem (by omega) (by omega) (by omega)]
  have hs2 : s < 262144 := ok.2.2.2.1
  have hsw : s / 4 ^ w % 4 ≤ dV m := ok.2.2.2.2 w (by omega)
  have tx1 : h 4 1 = nI g := tx.2.1
  have tx3 : h 4 3 = nI s := tx.2.2.2
  have nz : ¬ nI (dG m) = 0 := by rw [l0, nEQ (by omega) (by omega)]; omega
  have on : (1 : Int32) ≤ nI (dG m) := by rw [l1]; exact nI_le (by omega) (by omega)
  unfold x_Nm_pretend_b33 m_Mo_evening_b163
  rw [V'.2.1.2.1, if_pos on, if_pos nz, ex, bS, x_vetoesLeft V'.2.1 tx3 hs2 (by omega) hsw, bS, x_dishesLeft V' tx1 hg, bS, e3, hs, bS, Y.2.2.1, if_pos nz, ex, bS, if_pos (inR_y (show w < 9 by omega) (by omega)), nI_cl (by omega), tk w (by omega), m_leftBy Y hg, bS, pc_m hl6, bS, nI_1]
  by_cases hv : dV m - s / 4 ^ w % 4 < 1
  · rw [if_pos (show nI (dV m - s / 4 ^ w % 4) < 1 by rw [l1]; exact (nI_ltI (by omega) (by omega)).mpr hv), if_pos (show nI (dV m - s / 4 ^ w % 4) ≤ 0 by rw [show dV m - s / 4 ^ w % 4 = 0 by omega]; decide)]
    exact ⟨h, k, g, s, rfl, rfl, sx, sm, tx, tk, ok⟩
  · rw [if_neg (show ¬ nI (dV m - s / 4 ^ w % 4) < 1 from fun q => hv (by rw [l1] at q; exact (nI_ltI (by omega) (by omega)).mp q)), if_neg (show ¬ nI (dV m - s / 4 ^ w % 4) ≤ 0 by rw [l0]; exact nI_ge (by omega) (by omega))]
    by_cases hp : pc (lf (dD m) g) < 2
    · rw [if_pos (show nI (pc (lf (dD m) g)) < 2 by rw [l2]; exact (nI_ltI (by omega) (by omega)).mpr hp), if_pos (show nI (pc (lf (dD m) g)) ≤ 1 by rw [l1]; exact nI_le (by omega) (by omega))]
      exact ⟨h, k, g, s, rfl, rfl, sx, sm, tx, tk, ok⟩
    · rw [if_neg (show ¬ nI (pc (lf (dD m) g)) < 2 from fun q => hp (by rw [l2] at q; exact (nI_ltI (by omega) (by omega)).mp q)), if_neg (show ¬ nI (pc (lf (dD m) g)) ≤ 1 by rw [l1]; exact nI_ge (by omega) (by omega))]
      by_cases h3 : W / 128 % 3 = 0
      · rw [h3, if_pos y0, if_pos y0]
        obtain ⟨d, hd1, hd2, hd3⟩ := lst_ex (t := t) (i := w) L
        obtain ⟨h1, f1, X1, sx1, a1⟩ := x_at (t := t) (g := g) V.1 V'.2.1 ht hg1
        obtain ⟨h2, f2, tx2, a2⟩ := x_strike (h := h1) (q := 4) (i := w) (d := d) (by omega) (by omega) (tx.mv (fun j => a1 _ j (by omega)))
        have hgb : g.testBit d = false := by
          have := hd3
          rw [lf_bit hg, decide_eq_true hd2, Bool.true_and] at this
          cases hb : g.testBit d with
          | false => rfl
          | true => rw [hb] at this; exact absurd this (by decide)
        obtain ⟨ho1, ho2⟩ := lf_or (dD m) (by omega) g hg d hd2 hgb
        have hpd := pc_clr _ hl6 d (by omega) hd3
        have hne : (g ||| 2 ^ d) + 1 < 2 ^ dD m := by
          rcases Nat.lt_or_ge ((g ||| 2 ^ d) + 1) (2 ^ dD m) with q | q
          · exact q
          · have h0 : lf (dD m) (g ||| 2 ^ d) = 0 := by unfold lf; omega
            rw [ho1] at h0
            rw [h0] at hpd
            have : pc 0 = 0 := rfl
            omega
        have hs3 : s / 4 ^ w % 4 < 3 := by omega
        refine ⟨h2, wr k 9 w (nI (dV m - s / 4 ^ w % 4 - 1)), g ||| 2 ^ d, s + 4 ^ w, ?_, ?_, ?_, sm.wr _ (Or.inr (Or.inr (Or.inl rfl))), tx2, fun j hj => ?_, ht, hne, (fun e he => absurd he (by intro q; cases q)), spent_lt hs2 (by omega) hs3, fun j hj => ?_⟩
        · rw [show h 4 0 = nI t from tx.1, show h 4 1 = nI g from tx.2.1, f1, bS, X1.L, x_leastLiked X1 hw hl6, bS, hd1, ob_s, f2, bS]
        · rw [bS, m_leastOf Y ht hw hl6, bS, hd1, ob_s, bS, pow_n (by omega), nOr, if_pos (inR_y (show w < 9 by omega) (by omega)), bS, l1, nSub (by omega), if_pos (inR_y (show w < 9 by omega) (by omega))]
        · intro a b hn
          rw [a2 a b (fun q => hn (Or.inl q))]
          exact (sx.tr sx1) a b hn
        · rw [dig_add hs3]
          by_cases hj2 : j = w
          · rw [hj2, if_pos rfl, wr_self, Nat.sub_sub]
          · rw [if_neg hj2, wr_ne _ _ (by omega)]; exact tk j hj
        · show (s + 4 ^ w) / 4 ^ j % 4 ≤ dV m
          rw [dig_add hs3]
          have : s / 4 ^ j % 4 ≤ dV m := ok.2.2.2.2 j hj
          by_cases hj2 : j = w
          · subst hj2; rw [if_pos rfl]; omega
          · rw [if_neg hj2]; omega
      · rw [if_neg (show ¬ nI (W / 128 % 3) = 0 by rw [l0, nEQ (by omega) (by omega)]; exact h3), if_neg (show ¬ nI (W / 128 % 3) = 0 by rw [l0, nEQ (by omega) (by omega)]; exact h3)]
        exact ⟨h, k, g, s, rfl, rfl, sx, sm, tx, tk, ok⟩
theorem ev_step {x y : Hp} {m : Mnu} {c : Cur} (V : View x y m c) {h k : Hp} {t g s W i : Nat} (E : Ev x y h k m t g s) (hW : W < 32768) {kf : Int32 → Int32 → Int32 → Hp → Option (Int32 × Hp)} {p1 p2 p3 : Int32} : ∃ h' k' t' g' s', x_Nm_pretend (nI W) h = some h' ∧ (if ((nI t + (1 : Int32)) + (nI W - nI W / (5 : Int32) * (5 : Int32))) ≤ (99 : Int32) then (m_Mo_evening_b163 kf p1 p2 p3 (nI g) (nI i) (nI W) (nI t) ((1 : Int32) + (nI W - nI W / (5 : Int32) * (5 : Int32))) k)
  else (m_Mo_evening_b163 kf p1 p2 p3 (nI g) (nI i) (nI W) (nI t) (0 : Int32) k)) = kf (nI t') (nI g') (nI (i + 1)) k' ∧ Ev x y h' k' m t' g' s' := by
  have ht : t ≤ 99 := E.2.2.2.2.1
  have h5 : nI W - nI W / (5 : Int32) * (5 : Int32) = nI (W % 5) := by rw [l5, nRem (by omega) (by omega) (by omega)]
  unfold x_Nm_pretend
  rw [bS, h5, show h 4 0 = nI t from E.2.2.1.1, nI_1, nI_add, l1, nI_add, nI_add, l99]
  by_cases hk : t + 1 + W % 5 ≤ 99
  · rw [if_neg (fun q => by rw [nLT (by omega) (by omega)] at q; omega), if_pos (nI_le hk (by omega)), bS]
    have E' : Ev x y (wr h 4 0 (nI (t + (1 + W % 5)))) k m (t + (1 + W % 5)) g s := ⟨E.1.wr _ (Or.inl rfl), E.2.1, ⟨wr_self _ _ _ _, (wr_ne _ _ (by omega)).trans E.2.2.1.2.1, (wr_ne _ _ (by omega)).trans E.2.2.1.2.2.1, (wr_ne _ _ (by omega)).trans E.2.2.1.2.2.2⟩, E.2.2.2.1, ⟨show t + (1 + W % 5) ≤ 99 by omega, E.2.2.2.2.2⟩⟩
    obtain ⟨h', k', g', s', e1, e2, e3⟩ := ev_b V (i := i) (kf := kf) (p1 := p1) (p2 := p2) (p3 := p3) E' hW (s0 := nI t) (s1 := nI (1 + W % 5)) (nI_add _ _)
    exact ⟨h', k', _, g', s', e1, e2, e3⟩
  · rw [if_pos (by rw [nLT (by omega) (by omega)]; omega), if_neg (nI_ge (by omega) (by omega))]
    obtain ⟨h', k', g', s', e1, e2, e3⟩ := ev_b V (i := i) (kf := kf) (p1 := p1) (p2 := p2) (p3 := p3) E hW (s0 := nI t) (s1 := 0) (by rw [l0, nI_add, Nat.add_zero])
    exact ⟨h', k', _, g', s', e1, e2, e3⟩
theorem ev_loop {x y : Hp} {m : Mnu} {c : Cur} (V : View x y m c) {z N w : Nat} (hz : z ≤ 9999) (hN : N ≤ 20) (hw : w ≤ 1) : ∀ (j i n : Nat) (h k : Hp) (t g s : Nat), i + j = N → j < n → Ev x y h k m t g s → ∃ r h' k', x_Nm_evening_b59 (nI z) (nI N) (nI w) n (nI i) h = some (r, h') ∧ m_Mo_evening_b99 (nI z) (nI N) (nI w) n (nI t) (nI g) (nI i) k = some (r, k') ∧ SX x h' ∧ SM y k' := by
  intro j
  induction j with
  | zero =>
    intro i n h k t g s hi hn E
    obtain ⟨n, rfl⟩ : ∃ z, n = z + 1 := ⟨n - 1, by omega⟩
    have V' := V.mv E.1 E.2.1
    have Y := V'.Y.1
    have hD := V.1.D
    have ht : t ≤ 99 := E.2.2.2.2.1
    have hg1 : g + 1 < 2 ^ dD m := E.2.2.2.2.2.1
    have hl6 := lf_lt (dD m) g hD.2
    have L := lok_lf V.1 hg1
    obtain ⟨h1, f1, X1, sx1, a1⟩ := x_at (t := t) (g := g) V.1 V'.2.1 ht hg1
    rw [x_Nm_evening_b59, m_Mo_evening_b99, if_pos (nI_le (by omega) (by omega)), if_pos (nI_le (by omega) (by omega)), show h 4 0 = nI t from E.2.2.1.1, show h 4 1 = nI g from E.2.2.1.2.1, f1, bS, m_leftBy Y (by omega), bS, bS]
    rcases z01 hw with rfl | rfl
    · rw [if_pos y0, if_pos y0, X1.L]
      exact ⟨_, _, _, rfl, rfl, E.1.tr sx1, E.2.1⟩
    · rw [if_neg n1, if_neg n1, x_mostDish0 X1, m_mostToAll0 Y ht hl6, bS, bS]
      obtain ⟨d, hd, -⟩ := mst_ex (t := t) (w := none) L
      rw [hd, ob_s, ob_s]
      exact ⟨_, _, _, rfl, rfl, E.1.tr sx1, E.2.1⟩
  | succ j ih =>
    intro i n h k t g s hi hn E
    obtain ⟨n, rfl⟩ : ∃ z, n = z + 1 := ⟨n - 1, by omega⟩
    obtain ⟨h', k', t', g', s', e1, e2, e3⟩ := ev_step V (i := i) (W := drw z i) (kf := m_Mo_evening_b99 (nI z) (nI N) (nI w) n) (p1 := nI z) (p2 := nI N) (p3 := nI w) E (drw_lt _ _)
    obtain ⟨r, h2, k2, q1, q2, q3, q4⟩ := ih (i + 1) n h' k' t' g' s' (by omega) (by omega) e3
    refine ⟨r, h2, k2, ?_, ?_, q3, q4⟩
    · rw [x_Nm_evening_b59, if_neg (nI_ge (by omega) (by omega)), x_draw hz (by omega), bS, e1, bS, nI_1]; exact q1
    · rw [m_Mo_evening_b99, if_neg (nI_ge (by omega) (by omega)), m_draw hz (by omega)]
      exact e2.trans q2
theorem m_ev_cp {y0' : Hp} {p1 p2 p3 t g : Int32} : ∀ (z j n : Nat) (k : Hp), j + z = 9 → z < n → SM y0' k → (∀ i, i < j → k 9 i = y0' 4 (3 + i)) → ∃ k', m_Mo_evening_b67 p1 p2 p3 n t g (nI j) k = m_Mo_evening_b99 p1 p2 p3 FU t g 0 k' ∧ SM y0' k' ∧ ∀ i, i < 9 → k' 9 i = y0' 4 (3 + i) := by
  intro z
  induction z with
  | zero =>
    intro j n k hj hn sm hk
    obtain ⟨n, rfl⟩ : ∃ z, n = z + 1 := ⟨n - 1, by omega⟩
    exact ⟨k, by rw [m_Mo_evening_b67, l9, if_pos (nI_le (by omega) (by omega))], sm, fun i hi => hk i (by omega)⟩
  | succ z ih =>
    intro j n k hj hn sm hk
    obtain ⟨n, rfl⟩ : ∃ z, n = z + 1 := ⟨n - 1, by omega⟩
    obtain ⟨k', e, s', q⟩ := ih (j + 1) n (wr k 9 j (k 4 (3 + j))) (by omega) (by omega) (sm.wr _ (Or.inr (Or.inr (Or.inl rfl)))) (fun i hi => by
      by_cases hij : i = j
      · rw [hij, wr_self]; exact sm 4 _ (nsM (by omega) (by omega) (by omega) (by omega))
      · rw [wr_ne _ _ (by omega)]; exact hk i (by omega))
    refine ⟨k', ?_, s', q⟩
    rw [m_Mo_evening_b67, l9, if_neg (nI_ge (by omega) (by omega)), l3, nI_add, if_pos (inR_y (show 3 + j < 12 by omega) (by omega)), if_pos (inR_y (show j < 9 by omega) (by omega)), nI_cl (by omega), nI_cl (by omega), bS, nI_1]
    exact e
theorem p_evening (p1 p2 p3 : Int32) : Sim (x_Nm_evening p1 p2 p3) (m_Mo_evening p1 p2 p3) := by
  intro x y C
  obtain ⟨m, c, V⟩ := C.view
  have ok := V.2.2.2.1
  have hD := V.1.D
  unfold x_Nm_evening m_Mo_evening
  rcases rng p1 0 9999 (by omega) (by omega) with ⟨z, hz1, hz2, rfl⟩ | hp
  · rw [show x_Nm_isOutside (nI z) (0 : Int32) (9999 : Int32) x = some 0 from x_outY (lo := 0) (hi := 9999) hz1 hz2 (by omega) x, show m_Mo_in (nI z).toInt64 (0 : Int64) (9999 : Int64) y = some 1 from m_inY (lo := 0) (hi := 9999) hz1 hz2 (by omega) y, bS, bS, if_pos i0, if_neg i1]
    rcases rng p2 1 20 (by omega) (by omega) with ⟨N, hn1, hn2, rfl⟩ | hp
    · rw [show x_Nm_isOutside (nI N) (1 : Int32) (20 : Int32) x = some 0 from x_outY (lo := 1) (hi := 20) hn1 hn2 (by omega) x, show m_Mo_in (nI N).toInt64 (1 : Int64) (20 : Int64) y = some 1 from m_inY (lo := 1) (hi := 20) hn1 hn2 (by omega) y, bS, bS, if_pos i0, if_neg i1]
      rcases rng p3 0 1 (by omega) (by omega) with ⟨w, -, hw, rfl⟩ | hb
      · rw [xo01 hw, mi01 hw, bS, bS, if_pos i0, if_neg i1, x_isOrdered V.2.2.2.2.1 ok hD.2, bS, show y 4 2 = ob (-4) c.2.2.1 from V.2.2.2.2.2.2.2.1]
        cases ho : c.2.2.1 with
        | some e =>
          have he := ok.2.2.1 e ho
          rw [show bI (Option.some e).isSome = 1 from rfl, if_neg i1, ob_s, if_neg (nI_n0 (a := e) (by omega))]
          exact ⟨_, _, _, rfl, rfl, C⟩
        | none =>
          rw [show bI (Option.none : Option Nat).isSome = 0 from rfl, if_pos i0, ob_n, if_pos (show (-4 : Int32) < 0 by decide), bS, bS, V.Y.2.1, V.Y.2.2.2.1]
          obtain ⟨h1, e1, t1, a1⟩ := x_copy (q := 4) (r := 3) (by omega) V.2.2.2.2.1
          obtain ⟨k1, f1, s1, b1⟩ := m_ev_cp (y0' := y) (p1 := nI z) (p2 := nI N) (p3 := nI w) (t := nI c.1) (g := nI c.2.1) 9 0 FU y (by omega) (by unfold FU; omega) SM.rf (fun i hi => by omega)
          have hc : c = (c.1, c.2.1, none, c.2.2.2) := by rw [← ho]
          obtain ⟨r, h', k', q1, q2, q3, q4⟩ := ev_loop V hz2 hn2 hw N 0 FU h1 k1 c.1 c.2.1 c.2.2.2 (by omega) (by unfold FU; omega) ⟨fun a b hn => a1 a b (fun q => hn (Or.inl q)), s1, by rw [← hc]; exact t1, fun i hi => by rw [b1 i hi]; have := V.2.2.2.2.2.2.2.2 i hi; rw [Nat.zero_add] at this; exact this, by rw [← hc]; exact ok⟩
          rw [e1, bS]
          exact ⟨r, h', k', q1, f1.trans q2, C.mv q3 q4⟩
      · rw [xo01n hb, mi01n hb, bS, bS, if_neg i1, if_pos i0]; exact ⟨_, _, _, rfl, rfl, C⟩
    · rw [show x_Nm_isOutside p2 (1 : Int32) (20 : Int32) x = some 1 from x_outN (lo := 1) (hi := 20) hp x, show m_Mo_in p2.toInt64 (1 : Int64) (20 : Int64) y = some 0 from m_inN (lo := 1) (hi := 20) (by omega) (by omega) hp y, bS, bS, if_neg i1, if_pos i0]
      exact ⟨_, _, _, rfl, rfl, C⟩
  · rw [show x_Nm_isOutside p1 (0 : Int32) (9999 : Int32) x = some 1 from x_outN (lo := 0) (hi := 9999) hp x, show m_Mo_in p1.toInt64 (0 : Int64) (9999 : Int64) y = some 0 from m_inN (lo := 0) (hi := 9999) (by omega) (by omega) hp y, bS, bS, if_neg i1, if_pos i0]
    exact ⟨_, _, _, rfl, rfl, C⟩
