/-! the calls that only ask, the rest -/
theorem ask_loop {x y : Hp} {m : Mnu} {t g : Nat} (X : Xm x m t (lf (dD m) g)) (Y : Yn y m t g) (o : Lok m (lf (dD m) g)) {N d : Nat} (hN : N ≤ 9) (hd : d < dD m) : ∀ (k i n : Nat), i + k = 9 → k < n → ∃ r, x_Nm_ask_b26 (nI N) n (nI d) (nI i) x = some (r, x) ∧ m_Mo_ask_b22 (nI N) y n (nI d) (nI i) = some r := by
  have hD := X.ok.D
  have hG := X.ok.G
  intro k
  induction k with
  | zero =>
    intro i n hi hn
    obtain ⟨n, rfl⟩ : ∃ z, n = z + 1 := ⟨n - 1, by omega⟩
    rw [x_Nm_ask_b26, m_Mo_ask_b22, if_pos (nI_le (by omega) (by omega)), if_pos (nI_le (by omega) (by omega))]
    exact ⟨_, rfl, rfl⟩
  | succ k ih =>
    intro i n hi hn
    obtain ⟨n, rfl⟩ : ∃ z, n = z + 1 := ⟨n - 1, by omega⟩
    rw [x_Nm_ask_b26, m_Mo_ask_b22]
    by_cases h1 : N ≤ i
    · rw [if_pos (nI_le h1 (by omega)), if_pos (nI_le h1 (by omega))]; exact ⟨_, rfl, rfl⟩
    · rw [if_neg (nI_ge (by omega) (by omega)), if_neg (nI_ge (by omega) (by omega)), X.G, Y.1.2.2.1]
      by_cases h2 : dG m ≤ i
      · rw [if_pos (nI_le h2 (by omega)), if_pos (nI_le h2 (by omega))]; exact ⟨_, rfl, rfl⟩
      · rw [if_neg (nI_ge (by omega) (by omega)), if_neg (nI_ge (by omega) (by omega))]
        obtain ⟨e, f1, f2, f3⟩ := mst_ex (t := t) (w := some i) o
        rw [show x_Moment_mostDish (nI i) x = some (ob (-1) (mst m t (lf (dD m) g) (some i))) from x_mostDish X (w := some i) (fun j e => by cases e; omega), bS, f1, ob_s]
        rw [Y.2.2.2.1, m_leftBy Y.1 Y.2.2.2.2, bS, Y.2.1, show m_Mo_mostToAll (nI (lf (dD m) g)) (nI t) (nI i) y = some (ob (-4) (mst m t (lf (dD m) g) (some i))) from m_mostToAll Y.1 Y.2.2.1 o.1 (w := some i) (fun j e => by cases e; omega), bS, f1, ob_s]
        by_cases h3 : nI e = nI d
        · rw [if_pos h3, if_pos h3, nI_1]; exact ih (i + 1) n (by omega) (by omega)
        · rw [if_neg h3, if_neg h3]; exact ⟨_, rfl, rfl⟩
theorem p_ask (p : Int32) : Sim1 (x_Nm_ask p) (m_Mo_ask p) := by
  intro x y C
  rcases rng p 1 9 (by omega) (by omega) with ⟨j, h1, hj, rfl⟩ | hb
  · obtain ⟨m, c, V⟩ := C.view
    obtain ⟨x1, e1, X, s1⟩ := x_now V
    obtain ⟨d, f1, f2, f3⟩ := mst_ex (t := c.1) (w := none) V.L
    obtain ⟨r, g1, g2⟩ := ask_loop X V.Y V.L hj f2 9 0 FU (by omega) (by unfold FU; omega)
    refine ⟨r, x1, ?_, ?_, C.mv s1 SM.rf⟩
    · unfold x_Nm_ask
      rw [show x_Nm_isOutside (nI j) 1 9 x = some 0 from x_outY (lo := 1) (hi := 9) h1 hj (by omega) x, bS, if_pos i0, e1, bS, x_mostDish0 X, bS, f1, ob_s]
      exact g1
    · unfold m_Mo_ask
      rw [show m_Mo_in (nI j).toInt64 1 9 y = some 1 from m_inY (lo := 1) (hi := 9) h1 hj (by omega) y, bS, if_neg i1, m_most0 V f1, bS]
      exact g2
  · unfold x_Nm_ask m_Mo_ask
    rw [show x_Nm_isOutside p 1 9 x = some 1 from x_outN hb x, show m_Mo_in p.toInt64 1 9 y = some 0 from m_inN (lo := 1) (hi := 9) (by omega) (by omega) hb y, bS, bS, if_neg i1, if_pos i0]
    exact ⟨_, _, rfl, rfl, C⟩
theorem x_pow_loop {a N : Nat} (hN : N ≤ 6) (h : Hp) : ∀ (k i n : Nat), i + k = N → k < n → x_Nm_power_b4 (nI a) (nI N) h n (nI (a ^ i)) (nI i) = some (nI (a ^ N)) := by
  intro k
  induction k with
  | zero =>
    intro i n hi hn
    obtain ⟨n, rfl⟩ : ∃ z, n = z + 1 := ⟨n - 1, by omega⟩
    rw [x_Nm_power_b4, if_pos (nI_le (by omega) (by omega)), show i = N by omega]
  | succ k ih =>
    intro i n hi hn
    obtain ⟨n, rfl⟩ : ∃ z, n = z + 1 := ⟨n - 1, by omega⟩
    have hr := ih (i + 1) n (by omega) (by omega)
    rw [x_Nm_power_b4, if_neg (nI_ge (by omega) (by omega)), nMul, bS, nI_1, ← Nat.pow_succ]
    exact hr
theorem x_power {a N : Nat} (hN : N ≤ 6) (h : Hp) : x_Nm_power (nI a) (nI N) h = some (nI (a ^ N)) := by
  have := x_pow_loop (a := a) hN h N 0 FU (by omega) (by unfold FU; omega)
  rw [Nat.pow_zero] at this
  exact this
theorem x_gcd_loop {p0 p1 : Int32} {h : Hp} : ∀ (j v w n s : Nat), w < 2 ^ j → v < 2147483648 → w < 2147483648 → 2 * j < n → s + 2 * j < 64 → x_Nm_commonDivisor_b7 p0 p1 h n (nI v) (nI w) (nI s) = some (nI (Nat.gcd v w)) := by
  have done : ∀ (v n s : Nat), 0 < n → s < 64 → x_Nm_commonDivisor_b7 p0 p1 h n (nI v) (nI 0) (nI s) = some (nI (Nat.gcd v 0)) := by
    intro v n s hn hs
    obtain ⟨n, rfl⟩ : ∃ z, n = z + 1 := ⟨n - 1, by omega⟩
    rw [x_Nm_commonDivisor_b7, if_neg (by rw [l64]; exact nI_ge hs (by omega)), if_pos y0, Nat.gcd_zero_right]
  intro j
  induction j with
  | zero =>
    intro v w n s h1 hv hw hn hs
    have : w = 0 := by simpa using h1
    subst this
    exact done v n s (by omega) (by omega)
  | succ j ih =>
    intro v w n s h1 hv hw hn hs
    by_cases hw0 : w = 0
    · subst hw0
      exact done v n s (by omega) (by omega)
    · obtain ⟨n, rfl⟩ : ∃ z, n = z + 2 := ⟨n - 2, by omega⟩
      have hne : ¬ nI w = 0 := by rw [l0, nEQ hw (by omega)]; omega
      rw [x_Nm_commonDivisor_b7, if_neg (by rw [l64]; exact nI_ge (by omega) (by omega)), if_neg hne, if_pos hne, nRem hv (by omega) hw, bS, gcd_step v w, nI_1]
      have hr := Nat.mod_lt v (show 0 < w by omega)
      by_cases hr0 : v % w = 0
      · rw [hr0]
        exact done w (n + 1) (s + 1) (by omega) (by omega)
      · have hne2 : ¬ nI (v % w) = 0 := by rw [l0, nEQ (by omega) (by omega)]; exact hr0
        rw [x_Nm_commonDivisor_b7, if_neg (by rw [l64]; exact nI_ge (by omega) (by omega)), if_neg hne2, if_pos hne2, nRem hw (by omega) (by omega), bS, gcd_step w (v % w), nI_1]
        have hh := half_lt (w := w) (r := v % w) (by omega) hr
        have hm := Nat.mod_lt w (show 0 < v % w by omega)
        exact ih (v % w) (w % (v % w)) n (s + 1 + 1) (by rw [Nat.pow_succ] at h1; omega) (by omega) (by omega) (by omega) (by omega)
theorem p_wheel (p1 p2 : Int32) : Sim1 (x_Nm_wheel p1 p2) (m_Mo_wheel p1 p2) := by
  intro x y C
  rcases rng p1 0 6 (by omega) (by omega) with ⟨N, -, hN, rfl⟩ | hb
  · rcases rng p2 0 1 (by omega) (by omega) with ⟨j, -, hj, rfl⟩ | hb2
    · obtain ⟨m, c, V⟩ := C.view
      obtain ⟨x1, e1, X, s1⟩ := x_now V
      have o := V.L
      have hp6 := pc_le _ o.1
      have hp0 := pc_pos _ o.1 o.2.1
      have hct := cnt_two m c.1 (lf (dD m) c.2.1) (dD m)
      rw [← pc_cnt V.1 o] at hct
      refine ⟨whl m c.1 (lf (dD m) c.2.1) N (nI j), x1, ?_, m_wheelY V.Y o hN hj, C.mv s1 SM.rf⟩
      have hb1 := bad_le (t := c.1) V.1 o
      generalize hB : cnt (bad m c.1 (lf (dD m) c.2.1)) (dD m) = B at hct hb1
      generalize hW : cnt (wel m c.1 (lf (dD m) c.2.1)) (dD m) = Wc at hct
      have q1 := pow_le6 (a := pc (lf (dD m) c.2.1)) (n := N) hp6 hN
      have q2 : B ^ N ≤ pc (lf (dD m) c.2.1) ^ N := Nat.pow_le_pow_left hb1 N
      have q3 : 0 < pc (lf (dD m) c.2.1) ^ N := Nat.pow_pos hp0
      unfold x_Nm_wheel whl
      rw [show x_Nm_isOutside (nI N) 0 6 x = some 0 from x_outY (lo := 0) (hi := 6) (Nat.zero_le _) hN (by omega) x, bS, if_pos i0, xo01 hj, bS, if_pos i0, e1, bS, X.L, pc_x o.1, bS, x_power hN, bS, x_welcomeDishes X, bS, hW, nSub (by omega), x_power hN, bS, show pc (lf (dD m) c.2.1) - Wc = B by omega, nSub q2, bS]
      dsimp only
      rw [hB]
      have hgp : 0 < Nat.gcd (pc (lf (dD m) c.2.1) ^ N - B ^ N) (pc (lf (dD m) c.2.1) ^ N) := Nat.gcd_pos_of_pos_right _ q3
      have hgl : Nat.gcd (pc (lf (dD m) c.2.1) ^ N - B ^ N) (pc (lf (dD m) c.2.1) ^ N) ≤ pc (lf (dD m) c.2.1) ^ N := Nat.le_of_dvd q3 (Nat.gcd_dvd_right _ _)
      have hcd : x_Nm_commonDivisor (nI (pc (lf (dD m) c.2.1) ^ N - B ^ N)) (nI (pc (lf (dD m) c.2.1) ^ N)) x1 = some (nI (Nat.gcd (pc (lf (dD m) c.2.1) ^ N - B ^ N) (pc (lf (dD m) c.2.1) ^ N))) := by
        unfold x_Nm_commonDivisor
        rw [Nat.gcd_comm]
        exact x_gcd_loop 16 _ _ FU 0 (by omega) (by omega) (by omega) (by unfold FU; omega) (by omega)
      rw [hcd, bS]
      generalize Nat.gcd (pc (lf (dD m) c.2.1) ^ N - B ^ N) (pc (lf (dD m) c.2.1) ^ N) = gg at hgp hgl ⊢
      have hmx : (if (1 : Int32) < nI gg then nI gg else 1) = nI gg := by
        by_cases h1 : 1 < gg
        · rw [if_pos (by rw [l1, nLT (by omega) (by omega)]; exact h1)]
        · rw [if_neg (by rw [l1, nLT (by omega) (by omega)]; exact h1), l1, show gg = 1 by omega]
      have hne : ¬ nI gg = 0 := by rw [l0, nEQ (by omega) (by omega)]; omega
      rw [hmx, bS, if_pos hne, if_pos hne, nDiv (by omega) hgp (by omega), nDiv (by omega) hgp (by omega)]
      by_cases h0 : nI j = 0
      · rw [if_pos h0, if_pos h0]
      · rw [if_neg h0, if_neg h0]
    · unfold x_Nm_wheel m_Mo_wheel
      rw [show x_Nm_isOutside (nI N) 0 6 x = some 0 from x_outY (lo := 0) (hi := 6) (Nat.zero_le _) hN (by omega) x, show m_Mo_in (nI N).toInt64 0 6 y = some 1 from m_inY (lo := 0) (hi := 6) (Nat.zero_le _) hN (by omega) y, bS, bS, if_pos i0, if_neg i1, xo01n hb2, mi01n hb2, bS, bS, if_neg i1, if_pos i0]
      exact ⟨_, _, rfl, rfl, C⟩
  · unfold x_Nm_wheel m_Mo_wheel
    rw [show x_Nm_isOutside p1 0 6 x = some 1 from x_outN hb x, show m_Mo_in p1.toInt64 0 6 y = some 0 from m_inN (lo := 0) (hi := 6) (by omega) (by omega) hb y, bS, bS, if_neg i1, if_pos i0]
    exact ⟨_, _, rfl, rfl, C⟩
theorem p_worth (p1 p2 : Int32) : Sim1 (x_Nm_worth p1 p2) (m_Mo_worth p1 p2) := by
  intro x y C
  obtain ⟨m, c, V⟩ := C.view
  have hD := V.1.D
  have hG := V.1.G
  unfold x_Nm_worth m_Mo_worth
  rcases dsh p1 (dG m) (by omega) with ⟨i, hi, rfl⟩ | hp
  · rw [x_hasGuestY V.2.1.2.1 (by omega) hi, m_isGuestY V.Y.1 hi, bS, bS, if_neg i1, if_neg i1]
    rcases dsh p2 (dD m) (by omega) with ⟨d, hd, rfl⟩ | hp
    · obtain ⟨x1, e1, X, s1⟩ := x_now V
      rw [x_hasDishY V.2.1.1 (by omega) hd, m_isDishY V.Y.1 hd, bS, bS, if_neg i1, if_neg i1, e1, bS, x_value X hi hd, bS, V.Y.2.1, m_worthAt V.Y.1 V.Y.2.2.1 hi hd, bS]
      exact ⟨_, _, rfl, rfl, C.mv s1 SM.rf⟩
    · rw [x_hasDishN V.2.1.1 hp, m_isDishN V.Y.1 hp, bS, bS, if_pos i0, if_pos i0]; exact ⟨_, _, rfl, rfl, C⟩
  · rw [x_hasGuestN V.2.1.2.1 hp, m_isGuestN V.Y.1 hp, bS, bS, if_pos i0, if_pos i0]; exact ⟨_, _, rfl, rfl, C⟩
/-- vetoes left -/
theorem four_pow : ∀ i, i < 9 → 2 ^ (2 * i) = 4 ^ i := by decide +kernel
theorem sh2 {s i : Nat} (hs : s < 262144) (hi : i < 9) : (nI s >>> (((2 : Int32) * nI i) &&& 31)) &&& 3 = nI (s / 4 ^ i % 4) := by
  rw [l2, nMul, pk_shrN (by omega) _ (2 * i) (sh_amt (2 * i) (by omega)), four_pow i hi]
  have h1 : s / 4 ^ i ≤ s := Nat.div_le_self _ _
  exact pk_andN (by omega) 2 (by decide)
theorem x_vetoesLeft {x : Hp} {m : Mnu} {q s : Nat} (hx : Mx x 6 m) (hq : x q 3 = nI s) (hs : s < 262144) {i : Nat} (hi : i < 9) (hv : s / 4 ^ i % 4 ≤ dV m) : x_Nm_vetoesLeft q (nI i) x = some (nI (dV m - s / 4 ^ i % 4)) := by
  unfold x_Nm_vetoesLeft x_Table_spentBy
  rw [hq, bS, sh2 hs hi, hx.2.2.1, nSub hv]
theorem bI_f0 (a : Nat) : nI a ||| nI 0 = nI a := nOr0 a
theorem mg_loop {y : Hp} {m : Mnu} {t g : Nat} (Y : Yn y m t g) {i : Nat} (hi : i < dG m) {p2 : Int32} : ∀ (k d n : Nat), d + k = dD m → k < n → m_Mo_guest_b27 (nI i) p2 y n (nI (bts (gv m t (lf (dD m) g) (dK m i) i) d)) (nI d) = m_Mo_guest_b27 (nI i) p2 y 1 (nI (bts (gv m t (lf (dD m) g) (dK m i) i) (dD m))) (nI (dD m)) := by
  have hD := Y.1.1.D
  have hG := Y.1.1.G
  intro k
  induction k with
  | zero =>
    intro d n hd hn
    obtain ⟨n, rfl⟩ : ∃ z, n = z + 1 := ⟨n - 1, by omega⟩
    rw [m_Mo_guest_b27, m_Mo_guest_b27, Y.1.2.1, if_pos (nI_le (by omega) (by omega)), show d = dD m by omega, if_pos (nI_le (Nat.le_refl _) (by omega))]
  | succ k ih =>
    intro d n hd hn
    obtain ⟨n, rfl⟩ : ∃ z, n = z + 1 := ⟨n - 1, by omega⟩
    have hr := ih (d + 1) n (by omega) (by omega)
    rw [bts] at hr
    rw [m_Mo_guest_b27, Y.1.2.1, if_neg (nI_ge (by omega) (by omega)), l5, nI_add, if_pos (inR_y (show 5 + i < 74 by omega) (by omega)), nI_cl (by omega), Y.1.2.2.2.2.2.2.1 i hi, Y.2.1, Y.2.2.2.1, m_hasHeart Y.1 Y.2.2.1 Y.2.2.2.2 (Y.1.1.K hi) hi (by omega), bS, nI_1]
    cases hb : gv m t (lf (dD m) g) (dK m i) i d with
    | true =>
      rw [hb, if_pos rfl] at hr
      rw [bI_t, if_neg i1, pow_n (by omega), nOr, bS]
      exact hr
    | false =>
      rw [hb, if_neg (by decide)] at hr
      rw [bI_f, if_pos i0, nOr0, bS]
      exact hr
theorem p_guest (p1 p2 : Int32) : Sim1 (x_Nm_guest p1 p2) (m_Mo_guest p1 p2) := by
  intro x y C
  obtain ⟨m, c, V⟩ := C.view
  have hD := V.1.D
  have hG := V.1.G
  have Y := V.Y
  rcases dsh p1 (dG m) (by omega) with ⟨i, hi, rfl⟩ | hp
  · rcases rng p2 0 3 (by omega) (by omega) with ⟨j, -, hj, rfl⟩ | hb
    · have hm : m_Mo_guest (nI i) (nI j) y = m_Mo_guest_b27 (nI i) (nI j) y 1 (nI (bts (gv m c.1 (lf (dD m) c.2.1) (dK m i) i) (dD m))) (nI (dD m)) := by
        unfold m_Mo_guest
        rw [m_isGuestY Y.1 hi, bS, if_neg i1, show m_Mo_in (nI j).toInt64 0 3 y = some 1 from m_inY (lo := 0) (hi := 3) (Nat.zero_le _) hj (by omega) y, bS, if_neg i1]
        exact mg_loop Y hi (dD m) 0 FU (by omega) (by unfold FU; omega)
      obtain ⟨x1, e1, X, s1⟩ := x_now V
      obtain ⟨f, f1, f2, f3⟩ := fav_ex (t := c.1) (i := i) V.L
      have hv := V.2.2.2.1.2.2.2.2 i (by omega)
      rw [hm, m_Mo_guest_b27, Y.1.2.1, if_pos (nI_le (Nat.le_refl _) (by omega)), l5, nI_add, if_pos (inR_y (show 5 + i < 74 by omega) (by omega)), nI_cl (by omega), Y.1.2.2.2.2.2.2.1 i hi, l3, nI_add, if_pos (inR_y (show 3 + i < 12 by omega) (by omega)), nI_cl (by omega), show y 4 (3 + i) = nI (dV m - c.2.2.2 / 4 ^ i % 4) by have hq := V.2.2.2.2.2.2.2.2 i (by omega); rw [show 0 + 3 + i = 3 + i by omega] at hq; exact hq, Y.2.2.2.1, m_leftBy Y.1 Y.2.2.2.2, bS, Y.2.1, m_mostOf Y.1 Y.2.2.1 V.L.1 hi, bS, f1, ob_s]
      have hk : x_Menu_kindOf 6 (nI i) x = some (nI (dK m i)) := by
        unfold x_Menu_kindOf
        rw [x_entry (show i < xlen 7 by show i < 9; omega), bS, V.2.1.2.2.2.2.2.1 i hi]
      unfold x_Nm_guest
      rw [x_hasGuestY V.2.1.2.1 (by omega) hi, bS, if_neg i1, hk, bS, x_vetoesLeft V.2.1 V.2.2.2.2.1.2.2.2 V.2.2.2.1.2.2.2.1 (by omega) hv, bS, e1, bS, x_heartsOf X hi, bS, bS, x_favourite X hi, bS, f1, ob_s]
      rcases (show j = 0 ∨ j = 1 ∨ j = 2 ∨ j = 3 by omega) with rfl | rfl | rfl | rfl
      · exact ⟨_, _, rfl, rfl, C⟩
      · exact ⟨_, _, rfl, rfl, C⟩
      · exact ⟨_, _, rfl, rfl, C.mv s1 SM.rf⟩
      · exact ⟨_, _, rfl, rfl, C.mv s1 SM.rf⟩
    · unfold x_Nm_guest m_Mo_guest
      have hne : ∀ k, k ≤ 3 → ¬ p2 = nI k := fun k hk e => by
        rcases hb with q | ⟨-, q⟩
        · rw [e] at q; exact nI_n0 (by omega) q
        · rw [e] at q; exact q (nI_le hk (by omega))
      rw [x_hasGuestY V.2.1.2.1 (by omega) hi, m_isGuestY Y.1 hi, bS, bS, if_neg i1, if_neg i1, show m_Mo_in p2.toInt64 0 3 y = some 0 from m_inN (lo := 0) (hi := 3) (by omega) (by omega) hb y, bS, if_pos i0, if_neg (show ¬ p2 = 0 from hne 0 (by omega)), if_neg (show ¬ p2 = 1 from hne 1 (by omega)), if_neg (show ¬ p2 = 2 from hne 2 (by omega)), if_neg (show ¬ p2 = 3 from hne 3 (by omega))]
      exact ⟨_, _, rfl, rfl, C⟩
  · unfold x_Nm_guest m_Mo_guest
    rw [x_hasGuestN V.2.1.2.1 hp, m_isGuestN Y.1 hp, bS, bS, if_pos i0, if_pos i0]; exact ⟨_, _, rfl, rfl, C⟩
theorem md_loop {y : Hp} {m : Mnu} {t g : Nat} (Y : Yn y m t g) {d : Nat} (hd : d < dD m) {p2 : Int32} : ∀ (k i n : Nat), i + k = dG m → k < n → m_Mo_dish_b27 (nI d) p2 y n (nI (cnt (fun i => gv m t (lf (dD m) g) (dK m i) i d) i)) (nI i) = m_Mo_dish_b27 (nI d) p2 y 1 (nI (cnt (fun i => gv m t (lf (dD m) g) (dK m i) i d) (dG m))) (nI (dG m)) := by
  have hD := Y.1.1.D
  have hG := Y.1.1.G
  intro k
  induction k with
  | zero =>
    intro i n hi hn
    obtain ⟨n, rfl⟩ : ∃ z, n = z + 1 := ⟨n - 1, by omega⟩
    rw [m_Mo_dish_b27, m_Mo_dish_b27, Y.1.2.2.1, if_pos (nI_le (by omega) (by omega)), show i = dG m by omega, if_pos (nI_le (Nat.le_refl _) (by omega))]
  | succ k ih =>
    intro i n hi hn
    obtain ⟨n, rfl⟩ : ∃ z, n = z + 1 := ⟨n - 1, by omega⟩
    have hr := ih (i + 1) n (by omega) (by omega)
    rw [cnt] at hr
    rw [m_Mo_dish_b27, Y.1.2.2.1, if_neg (nI_ge (by omega) (by omega)), l5, nI_add, if_pos (inR_y (show 5 + i < 74 by omega) (by omega)), nI_cl (by omega), Y.1.2.2.2.2.2.2.1 i (by omega), Y.2.1, Y.2.2.2.1, m_hasHeart Y.1 Y.2.2.1 Y.2.2.2.2 (Y.1.1.K (by omega)) (by omega) hd, bS, nI_1]
    (try dsimp only at hr)
    cases hb : gv m t (lf (dD m) g) (dK m i) i d with
    | true =>
      rw [hb, if_pos rfl] at hr
      rw [bI_t, if_neg i1, nI_1, bS]
      exact hr
    | false =>
      rw [hb, if_neg (by decide)] at hr
      rw [bI_f, if_pos i0, l0, nI_add, bS]
      exact hr
theorem p_dish (p1 p2 : Int32) : Sim1 (x_Nm_dish p1 p2) (m_Mo_dish p1 p2) := by
  intro x y C
  obtain ⟨m, c, V⟩ := C.view
  have hD := V.1.D
  have hG := V.1.G
  have Y := V.Y
  have hg6 := p6 hD.2 Y.2.2.2.2
  rcases dsh p1 (dD m) (by omega) with ⟨d, hd, rfl⟩ | hp
  · rcases rng p2 0 3 (by omega) (by omega) with ⟨j, -, hj, rfl⟩ | hb
    · have hm : m_Mo_dish (nI d) (nI j) y = m_Mo_dish_b27 (nI d) (nI j) y 1 (nI (cnt (fun i => gv m c.1 (lf (dD m) c.2.1) (dK m i) i d) (dG m))) (nI (dG m)) := by
        unfold m_Mo_dish
        rw [m_isDishY Y.1 hd, bS, if_neg i1, show m_Mo_in (nI j).toInt64 0 3 y = some 1 from m_inY (lo := 0) (hi := 3) (Nat.zero_le _) hj (by omega) y, bS, if_neg i1]
        exact md_loop Y hd (dG m) 0 FU (by omega) (by unfold FU; omega)
      obtain ⟨x1, e1, X, s1⟩ := x_now V
      rw [hm, m_Mo_dish_b27, Y.1.2.2.1, if_pos (nI_le (Nat.le_refl _) (by omega)), l14, nI_add, if_pos (inR_y (show 14 + d < 74 by omega) (by omega)), nI_cl (by omega), Y.1.2.2.2.2.2.2.2.2 d hd, Y.2.2.2.1, bit_b (by omega) (by omega), Y.2.1, m_sumOf0 Y.1 Y.2.2.1 hd, bS]
      unfold x_Nm_dish
      rw [x_hasDishY V.2.1.1 (by omega) hd, bS, if_neg i1, x_minutesOf V.1 V.2.1 hd, bS, x_isVetoed V.2.2.2.2.1.2.1 (by omega) (by omega), bS, e1, bS, x_heartsOn X hd, bS, bS, x_together0 X hd, bS]
      have hbb : (if bI (c.2.1.testBit d) = 0 then some ((0 : Int32), x) else some (1, x)) = some (bI (c.2.1.testBit d), x) := by cases c.2.1.testBit d <;> rfl
      rw [hbb]
      rcases (show j = 0 ∨ j = 1 ∨ j = 2 ∨ j = 3 by omega) with rfl | rfl | rfl | rfl
      · exact ⟨_, _, rfl, rfl, C⟩
      · exact ⟨_, _, rfl, rfl, C⟩
      · exact ⟨_, _, rfl, rfl, C.mv s1 SM.rf⟩
      · exact ⟨_, _, rfl, rfl, C.mv s1 SM.rf⟩
    · unfold x_Nm_dish m_Mo_dish
      have hne : ∀ k, k ≤ 3 → ¬ p2 = nI k := fun k hk e => by
        rcases hb with q | ⟨-, q⟩
        · rw [e] at q; exact nI_n0 (by omega) q
        · rw [e] at q; exact q (nI_le hk (by omega))
      rw [x_hasDishY V.2.1.1 (by omega) hd, m_isDishY Y.1 hd, bS, bS, if_neg i1, if_neg i1, show m_Mo_in p2.toInt64 0 3 y = some 0 from m_inN (lo := 0) (hi := 3) (by omega) (by omega) hb y, bS, if_pos i0, if_neg (show ¬ p2 = 0 from hne 0 (by omega)), if_neg (show ¬ p2 = 1 from hne 1 (by omega)), if_neg (show ¬ p2 = 2 from hne 2 (by omega)), if_neg (show ¬ p2 = 3 from hne 3 (by omega))]
      exact ⟨_, _, rfl, rfl, C⟩
  · unfold x_Nm_dish m_Mo_dish
    rw [x_hasDishN V.2.1.1 hp, m_isDishN Y.1 hp, bS, bS, if_pos i0, if_pos i0]; exact ⟨_, _, rfl, rfl, C⟩
def Sim0 (f : Hp → Option Int32) (g : Hp → Option Int32) : Prop := ∀ x y, Cpl x y → ∃ r, f x = some r ∧ g y = some r
theorem x_isOrdered {x : Hp} {m : Mnu} {q : Nat} {c : Cur} (T : TX x q c) (hc : Cok m c) (hD : dD m ≤ 6) : x_Table_isOrdered q x = some (bI c.2.2.1.isSome) := by
  unfold x_Table_isOrdered
  rw [T.2.2.1]
  cases ho : c.2.2.1 with
  | none => rfl
  | some d => have := hc.2.2.1 d ho; rw [ob_s, if_neg (nI_nm1 (by omega))]; rfl
theorem p_count (p : Int32) : Sim0 (x_Nm_count p) (m_Mo_count p) := by
  intro x y C
  obtain ⟨m, c, nP, P, nK, K, nN, N, nT, T, V, h2, h3, h4, h5⟩ := C
  have hD := V.1.D
  have Y := V.Y
  have hg6 := p6 hD.2 Y.2.2.2.2
  unfold x_Nm_count m_Mo_count
  rw [V.2.1.2.1, V.2.1.1, V.2.2.2.2.1.1, V.2.2.2.2.1.2.1, pc_x hg6, bS, x_isOrdered V.2.2.2.2.1 V.2.2.2.1 hD.2, bS, V.2.2.2.2.1.2.2.1, h4.2.1, h2.2.1, h3.2.1, h5.2.1, V.2.2.1.2.1, V.2.2.1.1, Y.2.1, Y.2.2.2.1, pc_m hg6, bS, show y 4 2 = ob (-4) c.2.2.1 from V.2.2.2.2.2.2.2.1, h4.2.2.1, h2.2.2.1, h3.2.2.1, h5.2.2.1]
  have ho : (if bI c.2.2.1.isSome = 0 then some (-4 : Int32) else some (ob (-1) c.2.2.1)) = some (ob (-4) c.2.2.1) := by cases c.2.2.1 <;> rfl
  rw [ho]
  by_cases e0 : p = 0
  · rw [if_pos e0]; exact ⟨_, rfl, rfl⟩
  rw [if_neg e0]
  by_cases e1 : p = 1
  · rw [if_pos e1]; exact ⟨_, rfl, rfl⟩
  rw [if_neg e1]
  by_cases e2 : p = 2
  · rw [if_pos e2]; exact ⟨_, rfl, rfl⟩
  rw [if_neg e2]
  by_cases e3 : p = 3
  · rw [if_pos e3]; exact ⟨_, rfl, rfl⟩
  rw [if_neg e3]
  by_cases e4 : p = 4
  · rw [if_pos e4]; exact ⟨_, rfl, rfl⟩
  rw [if_neg e4]
  by_cases e5 : p = 5
  · rw [if_pos e5]; exact ⟨_, rfl, rfl⟩
  rw [if_neg e5]
  by_cases e6 : p = 6
  · rw [if_pos e6]; exact ⟨_, rfl, rfl⟩
  rw [if_neg e6]
  by_cases e7 : p = 7
  · rw [if_pos e7]; exact ⟨_, rfl, rfl⟩
  rw [if_neg e7]
  by_cases e8 : p = 8
  · rw [if_pos e8]; exact ⟨_, rfl, rfl⟩
  rw [if_neg e8]
  exact ⟨_, rfl, rfl⟩
