/-! waits, may -/
theorem Mx.sx {x x' y : Hp} {m : Mnu} {c : Cur} (V : View x y m c) (s : SX x x') : Mx x' 6 m := V.2.1.mv (fun k j h1 h2 => s k j (nsX (by omega) (by omega) (by omega) (by omega)))
def pW (m : Mnu) (t0 d : Nat) (i : Nat) : Bool := decide (t0 ≤ i) && decide (i + dM m d ≤ dS m)
def fW (m : Mnu) (d : Nat) (i : Nat) : Nat := sa m i none d
theorem x_w_loop {x y : Hp} {m : Mnu} {c : Cur} (V : View x y m c) {d : Nat} (hd : d < dD m) {p2 : Int32} {t0 : Nat} : ∀ (k i n : Nat) (h : Hp), i + k = 100 → k < n → t0 ≤ i → SX x h → ∃ h', SX x h' ∧ x_Nm_waits_b62 (nI d) p2 n (ob (-4) (fmx (pW m t0 d) (fW m d) i)) (ov (-4) (fW m d) (fmx (pW m t0 d) (fW m d) i)) (nI i) h = some (if p2 = 0 then ob (-4) (fmx (pW m t0 d) (fW m d) 100) else ov (-4) (fW m d) (fmx (pW m t0 d) (fW m d) 100), h') := by
  have hD := V.1.D
  have hM := V.1.M hd
  have hS := V.1.S
  have hv : ∀ i, fW m d i < 2147483648 := fun i => by have := sa_le (t := i) (d := d) (w := none) V.1; show sa m i none d < _; omega
  intro k
  induction k with
  | zero =>
    intro i n h hi hn ht s
    obtain ⟨n, rfl⟩ : ∃ z, n = z + 1 := ⟨n - 1, by omega⟩
    refine ⟨h, s, ?_⟩
    rw [x_Nm_waits_b62, if_pos (by rw [l99]; exact nI_lt (by omega) (by omega)), show i = 100 by omega]
    split <;> rfl
  | succ k ih =>
    intro i n h hi hn ht s
    obtain ⟨n, rfl⟩ : ∃ z, n = z + 1 := ⟨n - 1, by omega⟩
    have hg1 : h 3 1 = nI c.2.1 := (s 3 1 (nsX (by omega) (by omega) (by omega) (by omega))).trans V.2.2.2.2.1.2.1
    obtain ⟨h1, e1, X, s1, -⟩ := x_at (h := h) (t := i) V.1 (Mx.sx V s) (by omega) V.2.2.2.1.2.1
    have s2 := s.tr s1
    have htm : x_Menu_isInTime 6 (nI d) (nI i) h1 = some (bI (decide (i + dM m d ≤ dS m))) := by
      unfold x_Menu_isInTime
      rw [x_minutesOf V.1 (Mx.sx V s2) hd, bS, (Mx.sx V s2).2.2.2.1, nI_add]
      by_cases hz : i + dM m d ≤ dS m
      · rw [if_neg (by rw [nLT (by omega) (by omega)]; omega), decide_eq_true hz]; rfl
      · rw [if_pos (by rw [nLT (by omega) (by omega)]; omega), decide_eq_false hz]; rfl
    obtain ⟨h', q1, q2⟩ := ih (i + 1) n h1 (by omega) (by omega) (by omega) s2
    refine ⟨h', q1, ?_⟩
    rw [fmx] at q2
    rw [x_Nm_waits_b62, if_neg (by rw [l99]; exact nI_nlt (by omega) (by omega)), hg1, e1, bS, x_together0 X hd, bS, htm, bS, nI_1]
    have hp : pW m t0 d i = decide (i + dM m d ≤ dS m) := by unfold pW; rw [decide_eq_true ht, Bool.true_and]
    rw [hp] at q2
    cases hb : decide (i + dM m d ≤ dS m) with
    | false =>
      rw [hb, if_neg (by decide)] at q2
      rw [bI_f, if_pos i0]
      exact q2
    | true =>
      rw [hb, if_pos rfl] at q2
      rw [bI_t, if_neg i1]
      cases hf : fmx (pW m t0 d) (fW m d) i with
      | none =>
        rw [hf] at q2
        rw [if_neg (show ¬ nI (sa m i none d) ≤ ov (-4) (fW m d) none from fun z => m4_lt (hv i) z)]
        exact q2
      | some b =>
        rw [hf] at q2
        dsimp only at q2
        show (if nI (fW m d i) ≤ nI (fW m d b) then _ else _) = _
        by_cases hz : fW m d b < fW m d i
        · rw [if_neg (by rw [nLE (hv i) (hv b)]; omega)]
          rw [if_pos hz] at q2
          exact q2
        · rw [if_pos (by rw [nLE (hv i) (hv b)]; omega)]
          rw [if_neg hz] at q2
          exact q2
theorem m_w_loop {x y : Hp} {m : Mnu} {c : Cur} (V : View x y m c) {d : Nat} (hd : d < dD m) (ho : c.2.2.1 = none) (hg : c.2.1.testBit d = false) {p2 : Int32} {t0 : Nat} : ∀ (k i n : Nat), i + k = 100 → k < n → t0 ≤ i → m_Mo_waits_b35 (nI d) p2 y n (ob (-4) (fmx (pW m t0 d) (fW m d) i)) (ov (-4) (fW m d) (fmx (pW m t0 d) (fW m d) i)) (nI i) = some (if p2 = 0 then ob (-4) (fmx (pW m t0 d) (fW m d) 100) else ov (-4) (fW m d) (fmx (pW m t0 d) (fW m d) 100)) := by
  have hD := V.1.D
  have hM := V.1.M hd
  have hS := V.1.S
  have Y := V.Y
  have hg6 := p6 hD.2 Y.2.2.2.2
  have hv : ∀ i, fW m d i < 2147483648 := fun i => by have := sa_le (t := i) (d := d) (w := none) V.1; show sa m i none d < _; omega
  intro k
  induction k with
  | zero =>
    intro i n hi hn ht
    obtain ⟨n, rfl⟩ : ∃ z, n = z + 1 := ⟨n - 1, by omega⟩
    rw [m_Mo_waits_b35, if_pos (by rw [l100]; exact nI_le (by omega) (by omega)), show i = 100 by omega]
    split <;> rfl
  | succ k ih =>
    intro i n hi hn ht
    obtain ⟨n, rfl⟩ : ∃ z, n = z + 1 := ⟨n - 1, by omega⟩
    have hr := ih (i + 1) n (by omega) (by omega) (by omega)
    have fs := fun s hs => fstep (p := pW m t0 d) (f := fW m d) (i := i) (by omega) (fun d _ => hv d) (R := fun a b => m_Mo_waits_b35 (nI d) p2 y n a b (nI (i + 1))) (s := s) hs
    have hp : pW m t0 d i = decide (i + dM m d ≤ dS m) := by unfold pW; rw [decide_eq_true ht, Bool.true_and]
    have hc : m_Mo_canOrder (nI d) (nI i) y = some (bI (decide (i + dM m d ≤ dS m))) := by
      unfold m_Mo_canOrder
      rw [Y.2.2.2.1, m_has (by omega) (by omega), bS, hg, bI_f, if_pos i0, show y 4 2 = ob (-4) c.2.2.1 from V.2.2.2.2.2.2.2.1, ho, ob_n, if_neg (by decide), l14, nI_add, if_pos (inR_y (show 14 + d < 74 by omega) (by omega)), nI_cl (by omega), V.2.2.1.2.2.2.2.2.2.2 d hd, nI_add, V.2.2.1.2.2.2.1]
      by_cases hz : i + dM m d ≤ dS m
      · rw [if_neg (by rw [nLT (by omega) (by omega)]; omega), decide_eq_true hz]; rfl
      · rw [if_pos (by rw [nLT (by omega) (by omega)]; omega), decide_eq_false hz]; rfl
    rw [m_Mo_waits_b35, if_neg (by rw [l100]; exact nI_ge (by omega) (by omega)), hc, bS, ← hr]
    cases hb : decide (i + dM m d ≤ dS m) with
    | false =>
      rw [bI_f, if_pos i0, m_Mo_waits_b66, m_Mo_waits_b81, m_Mo_waits_b81, nI_1]
      exact fs (-4) (by rw [hp, hb, if_neg (by decide)])
    | true =>
      rw [bI_t, if_neg i1, m_sumOf0 Y.1 (by omega) hd, bS, m_Mo_waits_b66, m_Mo_waits_b81, m_Mo_waits_b81, nI_1]
      exact fs (nI (fW m d i)) (by rw [hp, hb, if_pos rfl])
theorem m_w_none {y : Hp} {p1 p2 : Int32} (hc : ∀ i, m_Mo_canOrder p1 (nI i) y = some 0) : ∀ (k i n : Nat), i + k = 100 → k < n → m_Mo_waits_b35 p1 p2 y n (-4) (-4) (nI i) = some (-4) := by
  intro k
  induction k with
  | zero =>
    intro i n hi hn
    obtain ⟨n, rfl⟩ : ∃ z, n = z + 1 := ⟨n - 1, by omega⟩
    rw [m_Mo_waits_b35, if_pos (by rw [l100]; exact nI_le (by omega) (by omega))]
    split <;> rfl
  | succ k ih =>
    intro i n hi hn
    obtain ⟨n, rfl⟩ : ∃ z, n = z + 1 := ⟨n - 1, by omega⟩
    rw [m_Mo_waits_b35, if_neg (by rw [l100]; exact nI_ge (by omega) (by omega)), hc i, bS, if_pos i0, m_Mo_waits_b66, if_pos (Int32.le_refl _), m_Mo_waits_b81, if_pos (Int32.le_refl _), nI_1]
    exact ih (i + 1) n (by omega) (by omega)
theorem fmx_to {p : Nat → Bool} {f : Nat → Nat} {n : Nat} (h : ∀ i, i < n → p i = false) : fmx p f n = none := by
  have := fmx_skip (p := p) (f := f) (n := 0) n (fun c _ h2 => h c (by omega))
  rw [Nat.zero_add] at this
  exact this
theorem p_waits (p1 p2 : Int32) : Sim1 (x_Nm_waits p1 p2) (m_Mo_waits p1 p2) := by
  intro x y C
  obtain ⟨m, c, V⟩ := C.view
  have hD := V.1.D
  have Y := V.Y
  have hg6 := p6 hD.2 Y.2.2.2.2
  have ht := V.2.2.2.1.1
  unfold x_Nm_waits m_Mo_waits
  rcases dsh p1 (dD m) (by omega) with ⟨d, hd, rfl⟩ | hp
  · rw [x_hasDishY V.2.1.1 (by omega) hd, m_isDishY Y.1 hd]
    simp only [bS]
    rw [if_neg i1, if_neg i1]
    rcases rng p2 0 1 (by omega) (by omega) with ⟨j, -, hj, rfl⟩ | hb
    · rw [xo01 hj, mi01 hj, bS, bS, if_pos i0, if_neg i1, x_isOrdered V.2.2.2.2.1 V.2.2.2.1 hD.2, bS, Y.2.1]
      have hno : m_Mo_canOrder (nI d) = m_Mo_canOrder (nI d) := rfl
      cases ho : c.2.2.1 with
      | some e =>
        have he := V.2.2.2.1.2.2.1 e ho
        have hc : ∀ i, m_Mo_canOrder (nI d) (nI i) y = some 0 := fun i => by
          unfold m_Mo_canOrder
          rw [Y.2.2.2.1, m_has (by omega) (by omega), bS, show y 4 2 = ob (-4) c.2.2.1 from V.2.2.2.2.2.2.2.1, ho, ob_s, if_pos (show (0 : Int32) ≤ nI e from nI_pos' (by omega))]
          split <;> rfl
        rw [show bI (Option.some e).isSome = 1 from rfl, if_neg i1, m_w_none hc (100 - c.1) c.1 FU (by omega) (by unfold FU; omega)]
        exact ⟨_, _, rfl, rfl, C⟩
      | none =>
        rw [show bI (Option.none : Option Nat).isSome = 0 from rfl, if_pos i0, x_isVetoed V.2.2.2.2.1.2.1 (by omega) (by omega), bS]
        cases hg : c.2.1.testBit d with
        | true =>
          have hc : ∀ i, m_Mo_canOrder (nI d) (nI i) y = some 0 := fun i => by
            unfold m_Mo_canOrder
            rw [Y.2.2.2.1, m_has (by omega) (by omega), bS, hg, bI_t, if_neg i1]
          rw [bI_t, if_neg i1, m_w_none hc (100 - c.1) c.1 FU (by omega) (by unfold FU; omega)]
          exact ⟨_, _, rfl, rfl, C⟩
        | false =>
          have hn : fmx (pW m c.1 d) (fW m d) c.1 = none := fmx_to (fun i hi => by unfold pW; rw [decide_eq_false (by omega)]; rfl)
          obtain ⟨h', s', q⟩ := x_w_loop V hd (p2 := nI j) (t0 := c.1) (100 - c.1) c.1 FU x (by omega) (by unfold FU; omega) (Nat.le_refl _) SX.rf
          have q2 := m_w_loop V hd ho hg (p2 := nI j) (t0 := c.1) (100 - c.1) c.1 FU (by omega) (by unfold FU; omega) (Nat.le_refl _)
          rw [hn] at q q2
          rw [bI_f, if_pos i0, V.2.2.2.2.1.1]
          rw [show x_Nm_waits_b62 (nI d) (nI j) FU (-4) (-4) (nI c.1) x = _ from q, show m_Mo_waits_b35 (nI d) (nI j) y FU (-4) (-4) (nI c.1) = _ from q2]
          exact ⟨_, _, rfl, rfl, C.mv s' SM.rf⟩
    · rw [xo01n hb, mi01n hb, bS, bS, if_neg i1, if_pos i0]; exact ⟨_, _, rfl, rfl, C⟩
  · rw [x_hasDishN V.2.1.1 hp, m_isDishN Y.1 hp]
    simp only [bS]
    rw [if_pos trivial, if_pos trivial]; exact ⟨_, _, rfl, rfl, C⟩
/-- may be -/
def agn (m : Mnu) (k i : Nat) (n : Nte) : Bool := !decide (n.1 = i) || (gv m n.2.2.2.1 (lf (dD m) n.2.2.2.2) k i n.2.1 == decide (n.2.2.1 = 1))
def agk (m : Mnu) (N : Nat → Nte) (k i : Nat) : Nat → Bool
  | 0 => true
  | n + 1 => agk m N k i n && agn m k i (N n)
theorem bI_nI {b : Bool} {z : Nat} (hz : z ≤ 1) : bI b = nI z ↔ (b == decide (z = 1)) = true := by
  rcases z01 hz with rfl | rfl <;> cases b <;> decide
theorem x_ag_loop {x y : Hp} {m : Mnu} {c : Cur} (V : View x y m c) {nN : Nat} {N : Nat → Nte} (T : Ntes x y m nN N) {k i : Nat} (hk : k ≤ 3) (hi : i < dG m) : ∀ (z j n : Nat) (h : Hp), j + z = nN → z < n → agk m N k i j = true → SX x h → ∃ h', SX x h' ∧ x_Nm_agreesWithNotes_b2 (nI i) (nI k) n (nI j) h = some (bI (agk m N k i nN), h') := by
  have hD := V.1.D
  have hG := V.1.G
  have h8 := T.1
  have hF : ∀ j, agk m N k i j = false → ∀ z, agk m N k i (j + z) = false := by
    intro j hj z
    induction z with
    | zero => exact hj
    | succ z ih => show (agk m N k i (j + z) && _) = false; rw [ih, Bool.false_and]
  intro z
  induction z with
  | zero =>
    intro j n h hj hn ha s
    obtain ⟨n, rfl⟩ : ∃ z, n = z + 1 := ⟨n - 1, by omega⟩
    refine ⟨h, s, ?_⟩
    rw [x_Nm_agreesWithNotes_b2, (s 28 0 (nsX (by omega) (by omega) (by omega) (by omega))).trans T.2.1, if_pos (nI_le (by omega) (by omega)), ← show j = nN by omega, ha]
    rfl
  | succ z ih =>
    intro j n h hj hn ha s
    obtain ⟨n, rfl⟩ : ∃ z, n = z + 1 := ⟨n - 1, by omega⟩
    obtain ⟨ok, nx, -⟩ := T.2.2.2 j (by omega)
    have sj := fun b => s (30 + j) b (nsX (by omega) (by omega) (by omega) (by omega))
    have hget : x_Notes_get (nI j) h = some (some (30 + j)) := by
      unfold x_Notes_get
      rw [if_neg (nI_n0 (by omega)), if_neg (by rw [l8]; exact nI_ge (by omega) (by omega)), if_pos (inR_y (show j < 8 by omega) (by omega)), nI_cl (by omega)]
    have hstep : agk m N k i (j + 1) = agn m k i (N j) := by rw [agk, ha, Bool.true_and]
    rw [x_Nm_agreesWithNotes_b2, (s 28 0 (nsX (by omega) (by omega) (by omega) (by omega))).trans T.2.1, if_neg (nI_ge (by omega) (by omega)), hget, bS]
    show ∃ h', SX x h' ∧ (if h (30 + j) 0 = nI i then ((x_Nm_at (h (30 + j) 3) (h (30 + j) 4) h).bind fun h_51 => (x_Moment_gives (nI k) (nI i) (h_51 (30 + j) 1) h_51).bind fun r65 => if r65 = (h_51 (30 + j) 2) then (x_Nm_agreesWithNotes_b2 (nI i) (nI k) n (nI j + (1 : Int32)) h_51) else (some ((0 : Int32), h_51))) else (x_Nm_agreesWithNotes_b2 (nI i) (nI k) n (nI j + (1 : Int32)) h)) = _
    rw [(sj 0).trans nx.1, nI_1]
    by_cases hgi : (N j).1 = i
    · rw [if_pos (by rw [hgi]), (sj 3).trans nx.2.2.2.1, (sj 4).trans nx.2.2.2.2]
      obtain ⟨h1, e1, X, s1, s0⟩ := x_at (h := h) V.1 (Mx.sx V s) ok.2.2.2.1 ok.2.2.2.2
      rw [e1, bS, s0 (30 + j) 1 (by omega), s0 (30 + j) 2 (by omega), (sj 1).trans nx.2.1, (sj 2).trans nx.2.2.1, x_gives X hk hi ok.2.1, bS]
      by_cases hz : (gv m (N j).2.2.2.1 (lf (dD m) (N j).2.2.2.2) k i (N j).2.1 == decide ((N j).2.2.1 = 1)) = true
      · rw [if_pos ((bI_nI ok.2.2.1).mpr hz)]
        exact ih (j + 1) n h1 (by omega) (by omega) (by rw [hstep]; unfold agn; rw [hz, Bool.or_true]) (s.tr s1)
      · rw [if_neg (fun q => hz ((bI_nI ok.2.2.1).mp q))]
        have h2 := hF (j + 1) (by rw [hstep]; unfold agn; rw [decide_eq_true hgi, Bool.eq_false_iff.mpr hz]; rfl) (nN - (j + 1))
        rw [show j + 1 + (nN - (j + 1)) = nN by omega] at h2
        rw [h2]
        exact ⟨h1, s.tr s1, rfl⟩
    · rw [if_neg (by rw [nEQ (by have := ok.1; omega) (by omega)]; exact hgi)]
      exact ih (j + 1) n h (by omega) (by omega) (by rw [hstep]; unfold agn; rw [decide_eq_false hgi]; rfl) s
theorem x_may_loop {x y : Hp} {m : Mnu} {c : Cur} (V : View x y m c) {nN : Nat} {N : Nat → Nte} (T : Ntes x y m nN N) {i : Nat} (hi : i < dG m) : ∀ (z k n : Nat) (h : Hp), k + z = 4 → z < n → SX x h → ∃ h', SX x h' ∧ x_Nm_may_b17 (nI i) n (nI (bts (fun k => agk m N k i nN) k)) (nI k) h = some (nI (bts (fun k => agk m N k i nN) 4), h') := by
  intro z
  induction z with
  | zero =>
    intro k n h hk hn s
    obtain ⟨n, rfl⟩ : ∃ z, n = z + 1 := ⟨n - 1, by omega⟩
    exact ⟨h, s, by rw [x_Nm_may_b17, if_pos (by rw [l3]; exact nI_lt (by omega) (by omega)), show k = 4 by omega]⟩
  | succ z ih =>
    intro k n h hk hn s
    obtain ⟨n, rfl⟩ : ∃ z, n = z + 1 := ⟨n - 1, by omega⟩
    obtain ⟨h1, s1, e1⟩ := x_ag_loop V T (k := k) (by omega) hi nN 0 FU h (by omega) (by have := T.1; unfold FU; omega) rfl s
    obtain ⟨h', s', e'⟩ := ih (k + 1) n h1 (by omega) (by omega) s1
    refine ⟨h', s', ?_⟩
    rw [bts] at e'
    rw [x_Nm_may_b17, if_neg (by rw [l3]; exact nI_nlt (by omega) (by omega)), show x_Nm_agreesWithNotes (nI i) (nI k) h = _ from e1, bS, nI_1]
    dsimp only at e' ⊢
    cases hb : agk m N k i nN with
    | true =>
      rw [hb, if_pos rfl] at e'
      rw [bI_t, if_neg i1, pow_n (by omega), nOr, bS]
      exact e'
    | false =>
      rw [hb, if_neg (by decide)] at e'
      rw [bI_f, if_pos i0]
      exact e'
theorem m_ag_loop {x y : Hp} {m : Mnu} {c : Cur} (V : View x y m c) {nN : Nat} {N : Nat → Nte} (T : Ntes x y m nN N) {k i B : Nat} (hk : k ≤ 3) (hi : i < dG m) {kf : Int32 → Int32 → Option Int32} : ∀ (z j n : Nat), j + z = nN → z < n → m_Mo_may_b25 kf (nI i) y n (nI B) (nI k) (bI (agk m N k i j)) (nI j) = kf (nI (if agk m N k i nN = true then B ||| 2 ^ k else B)) (nI (k + 1)) := by
  have hD := V.1.D
  have hG := V.1.G
  have h8 := T.1
  intro z
  induction z with
  | zero =>
    intro j n hj hn
    obtain ⟨n, rfl⟩ : ∃ z, n = z + 1 := ⟨n - 1, by omega⟩
    rw [m_Mo_may_b25, T.2.2.1, if_pos (nI_le (by omega) (by omega)), show j = nN by omega, nI_1]
    cases agk m N k i nN with
    | true => rw [bI_t, if_neg i1, pow_n (by omega), nOr, bS]; rfl
    | false => rw [bI_f, if_pos i0, nOr0, bS]; rfl
  | succ z ih =>
    intro j n hj hn
    obtain ⟨n, rfl⟩ : ∃ z, n = z + 1 := ⟨n - 1, by omega⟩
    obtain ⟨ok, -, nm⟩ := T.2.2.2 j (by omega)
    have hr := ih (j + 1) n (by omega) (by omega)
    rw [show agk m N k i (j + 1) = (agk m N k i j && agn m k i (N j)) from rfl] at hr
    have hh := m_hasHeart (h := y) (m := m) (t := (N j).2.2.2.1) (g := (N j).2.2.2.2) V.Y.1 ok.2.2.2.1 (by have := ok.2.2.2.2; omega) hk hi ok.2.1
    rw [m_Mo_may_b25, T.2.2.1, if_neg (nI_ge (by omega) (by omega)), l5, nMul, l1, l3, l4, l2, nI_add, nI_add, nI_add, nI_add, nI_add, if_pos (inR_y (show 5 * j + 1 < 40 by omega) (by omega)), if_pos (inR_y (show 5 * j + 3 < 40 by omega) (by omega)), if_pos (inR_y (show 5 * j + 4 < 40 by omega) (by omega)), nI_cl (by omega), nI_cl (by omega), nI_cl (by omega), nm.2.1, nm.2.2.2.1, nm.2.2.2.2, hh, bS]
    cases ha : agk m N k i j with
    | false =>
      rw [ha, Bool.false_and] at hr
      rw [bI_f, if_pos i0]
      exact hr
    | true =>
      rw [ha, Bool.true_and] at hr
      rw [bI_t, if_neg i1, if_pos (inR_y (show 5 * j < 40 by omega) (by omega)), nI_cl (by omega), nm.1]
      by_cases hgi : (N j).1 = i
      · rw [if_pos (by rw [hgi]), if_pos (inR_y (show 5 * j + 2 < 40 by omega) (by omega)), nI_cl (by omega), nm.2.2.1]
        rw [show agn m k i (N j) = (gv m (N j).2.2.2.1 (lf (dD m) (N j).2.2.2.2) k i (N j).2.1 == decide ((N j).2.2.1 = 1)) by unfold agn; rw [decide_eq_true hgi]; rfl] at hr
        rcases z01 ok.2.2.1 with h0 | h0
        · rw [h0] at hr ⊢
          rw [if_neg (by decide)]
          cases hg : gv m (N j).2.2.2.1 (lf (dD m) (N j).2.2.2.2) k i (N j).2.1 with
          | true => rw [hg] at hr; rw [bI_t, if_neg i1]; exact hr
          | false => rw [hg] at hr; rw [bI_f, if_pos i0]; exact hr
        · rw [h0] at hr ⊢
          rw [if_pos rfl]
          cases hg : gv m (N j).2.2.2.1 (lf (dD m) (N j).2.2.2.2) k i (N j).2.1 with
          | true => rw [hg] at hr; rw [bI_t, if_pos (show (1 : Int32) = nI 1 from rfl)]; exact hr
          | false => rw [hg] at hr; rw [bI_f, if_neg (by decide)]; exact hr
      · rw [if_neg (by rw [nEQ (by have := ok.1; omega) (by omega)]; exact hgi)]
        rw [show agn m k i (N j) = true by unfold agn; rw [decide_eq_false hgi]; rfl] at hr
        exact hr
theorem m_may_loop {x y : Hp} {m : Mnu} {c : Cur} (V : View x y m c) {nN : Nat} {N : Nat → Nte} (T : Ntes x y m nN N) {i : Nat} (hi : i < dG m) : ∀ (z k n : Nat), k + z = 4 → z < n → m_Mo_may_b14 (nI i) y n (nI (bts (fun k => agk m N k i nN) k)) (nI k) = some (nI (bts (fun k => agk m N k i nN) 4)) := by
  intro z
  induction z with
  | zero =>
    intro k n hk hn
    obtain ⟨n, rfl⟩ : ∃ z, n = z + 1 := ⟨n - 1, by omega⟩
    rw [m_Mo_may_b14, if_pos (by rw [l4]; exact nI_le (by omega) (by omega)), show k = 4 by omega]
  | succ z ih =>
    intro k n hk hn
    obtain ⟨n, rfl⟩ : ∃ z, n = z + 1 := ⟨n - 1, by omega⟩
    have hr := ih (k + 1) n (by omega) (by omega)
    rw [bts] at hr
    have ha := m_ag_loop V T (k := k) (B := bts (fun k => agk m N k i nN) k) (by omega) hi (kf := m_Mo_may_b14 (nI i) y n) nN 0 FU (by omega) (by have := T.1; unfold FU; omega)
    rw [m_Mo_may_b14, if_neg (by rw [l4]; exact nI_ge (by omega) (by omega))]
    rw [show m_Mo_may_b25 (m_Mo_may_b14 (nI i) y n) (nI i) y FU (nI (bts (fun k => agk m N k i nN) k)) (nI k) 1 0 = _ from ha]
    exact hr
theorem p_may (p : Int32) : Sim1 (x_Nm_may p) (m_Mo_may p) := by
  intro x y C
  obtain ⟨m, c, nP, P, nK, K, nN, N, nT, T, V, h2, h3, h4, h5⟩ := id C
  have hG := V.1.G
  unfold x_Nm_may m_Mo_may
  rcases dsh p (dG m) (by omega) with ⟨i, hi, rfl⟩ | hp
  · obtain ⟨h', s', e⟩ := x_may_loop V h4 hi 4 0 FU x (by omega) (by unfold FU; omega) SX.rf
    have e2 := m_may_loop V h4 hi 4 0 FU (by omega) (by unfold FU; omega)
    rw [x_hasGuestY V.2.1.2.1 (by omega) hi, m_isGuestY V.Y.1 hi, bS, bS, if_neg i1, if_neg i1]
    rw [show x_Nm_may_b17 (nI i) FU 0 0 x = _ from e, show m_Mo_may_b14 (nI i) y FU 0 0 = _ from e2]
    exact ⟨_, _, rfl, rfl, C.mv s' SM.rf⟩
  · rw [x_hasGuestN V.2.1.2.1 hp, m_isGuestN V.Y.1 hp, bS, bS, if_pos i0, if_pos i0]; exact ⟨_, _, rfl, rfl, C⟩
