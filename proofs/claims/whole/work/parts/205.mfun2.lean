/-! the reference's literal functions, the rest -/
def sl (m : Mnu) (t L i d : Nat) : Nat → Bool
  | 0 => true
  | n + 1 => sl m t L i d n && (decide (n = d) || !L.testBit n || decide (wv m t i d < wv m t i n))
theorem sl_is {m : Mnu} {t L i d : Nat} : ∀ n, sl m t L i d n = true ↔ ∀ b, b < n → b ≠ d → L.testBit b = true → wv m t i d < wv m t i b
  | 0 => ⟨fun _ b hb => absurd hb (Nat.not_lt_zero b), fun _ => rfl⟩
  | n + 1 => by
    have ih := sl_is (m := m) (t := t) (L := L) (i := i) (d := d) n
    rw [sl, Bool.and_eq_true, ih]
    constructor
    · rintro ⟨h1, h2⟩ b hb hbd hL
      by_cases e : b = n
      · subst e
        rw [decide_eq_false hbd, hL] at h2
        simpa using h2
      · exact h1 b (by omega) hbd hL
    · intro h
      refine ⟨fun b hb => h b (by omega), ?_⟩
      by_cases e : n = d
      · rw [decide_eq_true e]; rfl
      · cases hL : L.testBit n with
        | false => simp
        | true => rw [decide_eq_true (h n (by omega) e hL)]; simp
theorem wal_is {m : Mnu} {t L i d : Nat} (om : Mok m) (o : Lok m L) (h2 : 2 ≤ pc L) (hd : d < dD m) : (L.testBit d && sl m t L i d (dD m)) = true ↔ wal m t L i = some d := by
  have hD := om.D
  obtain ⟨w, e1, e2, e3⟩ := Lok_ls o (t := t) (i := i)
  obtain ⟨w2, f1, f2, f3⟩ := Lok_ls (Lok_cl om o e2 e3 h2) (t := t) (i := i)
  have m1 := (lmn_is e1).1
  have m2 := (lmn_is f1).1
  rw [clr_bit L o.1 w (by omega) w2 (by omega)] at f3
  have f4 : L.testBit w2 = true ∧ w2 ≠ w := by
    revert f3
    cases L.testBit w2 <;> simp
  rw [Bool.and_eq_true, sl_is]
  unfold wal
  rw [e1]
  dsimp only
  rw [f1]
  dsimp only
  constructor
  · rintro ⟨h1, h3⟩
    have hw : w = d := by
      by_cases e : w = d
      · exact e
      · have a := h3 w e2 e e3
        have b := m1 d hd h1
        (try dsimp only at b)
        omega
    subst hw
    rw [if_pos (h3 w2 f2 f4.2 f4.1)]
  · intro h
    by_cases hz : wv m t i w < wv m t i w2
    · rw [if_pos hz] at h
      have hwd : w = d := Option.some.inj h
      rw [← hwd]
      refine ⟨e3, fun b hb hbd hL => ?_⟩
      have := m2 b hb (by show (clr L w).testBit b = true; rw [clr_bit L o.1 w (by omega) b (by omega), hL, decide_eq_false hbd]; rfl)
      (try dsimp only at this)
      omega
    · rw [if_neg hz] at h; cases h
/-- one dish after the other taken out, if it is so -/
def mfo (p : Nat → Bool) (B : Nat) : Nat → Nat
  | 0 => B
  | n + 1 => if p n = true then clr (mfo p B n) n else mfo p B n
theorem mfo_lt {p : Nat → Bool} {B : Nat} (hB : B < 64) : ∀ n, n ≤ 6 → mfo p B n < 64
  | 0, _ => hB
  | n + 1, h => by
    rw [mfo]
    split
    · exact clr_lt _ (mfo_lt hB n (by omega)) n (by omega)
    · exact mfo_lt hB n (by omega)
theorem mfo_no {p : Nat → Bool} {B : Nat} : ∀ n, (∀ d, d < n → p d = false) → mfo p B n = B
  | 0, _ => rfl
  | n + 1, h => by rw [mfo, h n (by omega), if_neg (by decide)]; exact mfo_no n (fun d hd => h d (by omega))
theorem mfo_one {p : Nat → Bool} {B w : Nat} : ∀ n, w < n → (∀ d, d < n → (p d = true ↔ d = w)) → mfo p B n = clr B w
  | 0, h, _ => absurd h (Nat.not_lt_zero w)
  | n + 1, h, hp => by
    rw [mfo]
    by_cases e : n = w
    · rw [if_pos ((hp n (by omega)).mpr e), e]
      rw [mfo_no]
      intro d hd
      have := hp d (by omega)
      cases hq : p d with
      | false => rfl
      | true => have := this.mp hq; omega
    · have hn : p n = false := by
        cases hq : p n with
        | false => rfl
        | true => exact absurd ((hp n (by omega)).mp hq) e
      rw [hn, if_neg (by decide)]
      exact mfo_one n (by omega) (fun d hd => hp d (by omega))
theorem all_I : ∀ L, L < 64 → nI L &&& (-1) = nI L := by decide +kernel
section MF2
variable {h : Hp} {m : Mnu} {t g : Nat}
theorem m_mid_in (Y : Yn h m t g) {L B i d : Nat} (hL : L < 64) (hB : B < 64) (hi : i < dG m) (hd : d < dD m) {k25 : Int32 → Int32 → Int32 → Option Int32} {k38 : Int32 → Int32 → Int32 → Int32 → Option Int32} (q : Bool) : ∀ (k j n : Nat), j + k = dD m → k < n →
    m_Mo_middle_b60 k25 k38 h n (nI B) (nI L) (nI i) (nI d) (bI (q && sl m t L i d j)) (nI j) = k38 (nI (if (q && sl m t L i d (dD m)) = true then clr B d else B)) (nI L) (nI i) (nI (d + 1)) := by
  have hD := Y.1.1.D
  intro k
  induction k with
  | zero =>
    intro j n hj hn
    obtain ⟨n, rfl⟩ : ∃ z, n = z + 1 := ⟨n - 1, by omega⟩
    rw [m_Mo_middle_b60, Y.1.2.1, if_pos (nI_le (by omega) (by omega)), show j = dD m by omega, nI_1]
    cases (q && sl m t L i d (dD m)) with
    | false => rw [bI_f, if_pos rfl, bS, all_I B hB]; rfl
    | true => rw [bI_t, if_neg (by decide), bS, clr_I B hB d (by omega)]; rfl
  | succ k ih =>
    intro j n hj hn
    obtain ⟨n, rfl⟩ : ∃ z, n = z + 1 := ⟨n - 1, by omega⟩
    have hr := ih (j + 1) n (by omega) (by omega)
    rw [show sl m t L i d (j + 1) = (sl m t L i d j && (decide (j = d) || !L.testBit j || decide (wv m t i d < wv m t i j))) from rfl, ← Bool.and_assoc] at hr
    rw [m_Mo_middle_b60, Y.1.2.1, if_neg (nI_ge (by omega) (by omega)), nI_1]
    cases hw : (q && sl m t L i d j) with
    | false =>
      rw [hw, Bool.false_and] at hr
      rw [bI_f, if_pos rfl]
      exact hr
    | true =>
      rw [hw, Bool.true_and] at hr
      rw [bI_t, if_neg (by decide)]
      by_cases hjd : j = d
      · rw [if_pos (by rw [hjd])]
        rw [decide_eq_true hjd] at hr
        exact hr
      · rw [if_neg (by rw [nEQ (by omega) (by omega)]; exact hjd), m_has (by omega) (by omega), bS]
        rw [decide_eq_false hjd] at hr
        cases hb : L.testBit j with
        | false =>
          rw [hb] at hr
          rw [bI_f, if_pos rfl]
          exact hr
        | true =>
          rw [hb] at hr
          have hv := wv_le (m := m) (t := t) (i := i) (d := j)
          have hv2 := wv_le (m := m) (t := t) (i := i) (d := d)
          rw [bI_t, if_neg (by decide), Y.2.1, m_worthAt Y.1 Y.2.2.1 hi hd, bS, m_worthAt Y.1 Y.2.2.1 hi (by omega), bS]
          by_cases hz : wv m t i d < wv m t i j
          · rw [decide_eq_true hz] at hr
            rw [if_neg (by rw [nLE (by omega) (by omega)]; omega)]
            exact hr
          · rw [decide_eq_false hz] at hr
            rw [if_pos (by rw [nLE (by omega) (by omega)]; omega)]
            exact hr
theorem m_mid_mid (Y : Yn h m t g) {L B i : Nat} (hL : L < 64) (hB : B < 64) (hi : i < dG m) {k25 : Int32 → Int32 → Int32 → Option Int32} : ∀ (k d n : Nat), d + k = dD m → k < n →
    m_Mo_middle_b38 k25 h n (nI (mfo (fun d => L.testBit d && sl m t L i d (dD m)) B d)) (nI L) (nI i) (nI d) = k25 (nI (mfo (fun d => L.testBit d && sl m t L i d (dD m)) B (dD m))) (nI L) (nI (i + 1)) := by
  have hD := Y.1.1.D
  intro k
  induction k with
  | zero =>
    intro d n hd hn
    obtain ⟨n, rfl⟩ : ∃ z, n = z + 1 := ⟨n - 1, by omega⟩
    rw [m_Mo_middle_b38, Y.1.2.1, if_pos (nI_le (by omega) (by omega)), show d = dD m by omega, nI_1]
  | succ k ih =>
    intro d n hd hn
    obtain ⟨n, rfl⟩ : ∃ z, n = z + 1 := ⟨n - 1, by omega⟩
    have hr := ih (d + 1) n (by omega) (by omega)
    have hlt := mfo_lt (p := fun d => L.testBit d && sl m t L i d (dD m)) hB d (by omega)
    have hin := m_mid_in Y hL hlt hi (d := d) (by omega) (k25 := k25) (k38 := m_Mo_middle_b38 k25 h n) (L.testBit d) (dD m) 0 FU (by omega) (by unfold FU; omega)
    rw [show sl m t L i d 0 = true from rfl, Bool.and_true] at hin
    rw [m_Mo_middle_b38, Y.1.2.1, if_neg (nI_ge (by omega) (by omega)), m_has (by omega) (by omega), bS]
    show m_Mo_middle_b60 k25 (m_Mo_middle_b38 k25 h n) h FU _ _ _ _ (bI _) (nI 0) = _
    rw [hin]
    exact hr
theorem m_mid_loop (Y : Yn h m t g) {L : Nat} (o : Lok m L) (h2 : 2 ≤ pc L) : ∀ (k i n : Nat), i + k = dG m → k < n → mid m t L i < 64 → m_Mo_middle_b25 h n (nI (mid m t L i)) (nI L) (nI i) = some (nI (mid m t L (dG m))) := by
  have hD := Y.1.1.D
  have hG := Y.1.1.G
  intro k
  induction k with
  | zero =>
    intro i n hi hn hB
    obtain ⟨n, rfl⟩ : ∃ z, n = z + 1 := ⟨n - 1, by omega⟩
    rw [m_Mo_middle_b25, Y.1.2.2.1, if_pos (nI_le (by omega) (by omega)), show i = dG m by omega]
  | succ k ih =>
    intro i n hi hn hB
    obtain ⟨n, rfl⟩ : ∃ z, n = z + 1 := ⟨n - 1, by omega⟩
    have hw := fun d hd => wal_is (t := t) (i := i) (d := d) Y.1.1 o h2 hd
    have hm : mfo (fun d => L.testBit d && sl m t L i d (dD m)) (mid m t L i) (dD m) = mid m t L (i + 1) := by
      rw [mid]
      cases hz : wal m t L i with
      | none =>
        refine mfo_no _ (fun d hd => ?_)
        cases hq : (L.testBit d && sl m t L i d (dD m)) with
        | false => rfl
        | true => have := (hw d hd).mp hq; rw [hz] at this; cases this
      | some w =>
        have hwD : w < dD m := by
          by_cases e : w < dD m
          · exact e
          · have hq : lst m t L i = some w := by
              unfold wal at hz
              cases h1 : lst m t L i with
              | none => rw [h1] at hz; cases hz
              | some a =>
                rw [h1] at hz
                dsimp only at hz
                cases h3 : lst m t (clr L a) i with
                | none => rw [h3] at hz; cases hz
                | some b =>
                  rw [h3] at hz
                  dsimp only at hz
                  split at hz <;> cases hz
                  rfl
            exact absurd (lmn_lt hq).1 e
        exact mfo_one _ hwD (fun d hd => by
          constructor
          · intro hq
            have := (hw d hd).mp hq
            rw [hz] at this
            exact (Option.some.inj this).symm
          · intro e
            exact (hw d hd).mpr (by rw [hz, e]))
    have hB2 : mid m t L (i + 1) < 64 := by rw [← hm]; exact mfo_lt hB _ hD.2
    have hr := ih (i + 1) n (by omega) (by omega) hB2
    rw [m_Mo_middle_b25, Y.1.2.2.1, if_neg (nI_ge (by omega) (by omega))]
    have hin := m_mid_mid Y o.1 hB (i := i) (by omega) (k25 := m_Mo_middle_b25 h n) (dD m) 0 FU (by omega) (by unfold FU; omega)
    show m_Mo_middle_b38 (m_Mo_middle_b25 h n) h FU _ _ _ (nI 0) = _
    rw [show nI (mid m t L i) = nI (mfo (fun d => L.testBit d && sl m t L i d (dD m)) (mid m t L i) 0) from rfl, hin, hm]
    exact hr
theorem m_middle (Y : Yn h m t g) (o : Lok m (lf (dD m) g)) : m_Mo_middle h = some (nI (mdl m t (lf (dD m) g))) := by
  have hG := Y.1.1.G
  have hp := pc_le _ o.1
  have hp0 := pc_pos _ o.1 o.2.1
  unfold m_Mo_middle mdl
  rw [Y.2.2.2.1, m_leftBy Y.1 Y.2.2.2.2, bS, pc_m o.1, bS]
  by_cases h2 : 2 ≤ pc (lf (dD m) g)
  · rw [if_neg (by rw [l1, nEQ (by omega) (by omega)]; omega), if_pos h2]
    exact m_mid_loop Y o h2 (dG m) 0 FU (by omega) (by unfold FU; omega) o.1
  · rw [if_pos (by rw [l1, nEQ (by omega) (by omega)]; omega), if_neg h2]
theorem m_str_loop (Y : Yn h m t g) {first : Nat} (hf : first < dG m) : ∀ (k u n r : Nat), pc r ≤ k + 1 → k < n → Lok m r → m_Mo_struck_b23 (nI first) h n (nI r) (nI ((first + u) % dG m)) = some (ob (-4) (lst m t (stk m t first k u r) first)) := by
  have hG := Y.1.1.G
  have hD := Y.1.1.D
  intro k
  induction k with
  | zero =>
    intro u n r hu hn o
    obtain ⟨n, rfl⟩ : ∃ z, n = z + 1 := ⟨n - 1, by omega⟩
    rw [m_Mo_struck_b23, pc_m o.1, bS, if_pos (by rw [l1, nLE (by omega) (by omega)]; omega), Y.2.1, m_leastOf Y.1 Y.2.2.1 hf o.1, bS]
    rfl
  | succ k ih =>
    intro u n r hu hn o
    obtain ⟨n, rfl⟩ : ∃ z, n = z + 1 := ⟨n - 1, by omega⟩
    have hp := pc_le r o.1
    rw [m_Mo_struck_b23, pc_m o.1, bS, stk]
    by_cases h1 : 1 < pc r
    · have hm : (first + u) % dG m < dG m := Nat.mod_lt _ (by omega)
      obtain ⟨w, e1, e2, e3⟩ := Lok_ls o (t := t) (i := (first + u) % dG m)
      have hpc := pc_clr r o.1 w (by omega) e3
      rw [if_neg (by rw [l1, nLE (by omega) (by omega)]; omega), if_pos h1, Y.2.1, m_leastOf Y.1 Y.2.2.1 hm o.1, bS, e1, ob_s, clr_I r o.1 w (by omega), bS, Y.1.2.2.1, if_pos (by rw [l0, nEQ (by omega) (by omega)]; omega), nI_1, nRem (by omega) (by omega) (by omega), bS, Nat.mod_add_mod]
      exact ih (u + 1) n _ (by omega) (by omega) (Lok_cl Y.1.1 o e2 e3 h1)
    · rw [if_pos (by rw [l1, nLE (by omega) (by omega)]; omega), if_neg h1, Y.2.1, m_leastOf Y.1 Y.2.2.1 hf o.1, bS]
theorem m_struckY (Y : Yn h m t g) (o : Lok m (lf (dD m) g)) {i : Nat} (hi : i < dG m) : m_Mo_struck (nI i) h = some (ob (-4) (lst m t (stk m t i 6 0 (lf (dD m) g)) i)) := by
  have hp := pc_le _ o.1
  unfold m_Mo_struck
  rw [m_isGuestY Y.1 hi, bS, if_neg (by decide), Y.2.2.2.1, m_leftBy Y.1 Y.2.2.2.2, bS]
  have := m_str_loop Y hi 6 0 FU (lf (dD m) g) (by omega) (by unfold FU; omega) o
  rw [Nat.add_zero, Nat.mod_eq_of_lt hi] at this
  exact this
theorem m_pw_loop (Y : Yn h m t g) {a b : Nat} (ha : a < dD m) (hb : b < dD m) : ∀ (k i n : Nat), i + k = dG m → k < n → m_Mo_both_b5 (nI a) (nI b) h n (nI (sm (fun i => mx2 (wv m t i a) (wv m t i b)) i)) (nI i) = some (nI (pw m t a b)) := by
  have hG := Y.1.1.G
  intro k
  induction k with
  | zero =>
    intro i n hi hn
    obtain ⟨n, rfl⟩ : ∃ z, n = z + 1 := ⟨n - 1, by omega⟩
    rw [m_Mo_both_b5, Y.1.2.2.1, if_pos (nI_le (by omega) (by omega)), show i = dG m by omega]
    rfl
  | succ k ih =>
    intro i n hi hn
    obtain ⟨n, rfl⟩ : ∃ z, n = z + 1 := ⟨n - 1, by omega⟩
    have hr := ih (i + 1) n (by omega) (by omega)
    rw [sm] at hr
    have hv := wv_le (m := m) (t := t) (i := i) (d := a)
    have hv2 := wv_le (m := m) (t := t) (i := i) (d := b)
    rw [m_Mo_both_b5, Y.1.2.2.1, if_neg (nI_ge (by omega) (by omega)), Y.2.1, m_worthAt Y.1 Y.2.2.1 (by omega) ha, bS, m_worthAt Y.1 Y.2.2.1 (by omega) hb, bS, nI_1]
    dsimp only [mx2] at hr
    by_cases hz : wv m t i a < wv m t i b
    · rw [if_pos (by rw [nLE (by omega) (by omega)]; omega), bS, nI_add]
      rw [if_pos hz] at hr
      exact hr
    · rw [if_neg hz] at hr
      by_cases hz2 : wv m t i a = wv m t i b
      · rw [if_pos (by rw [nLE (by omega) (by omega)]; omega), bS, nI_add, ← hz2]
        exact hr
      · rw [if_neg (by rw [nLE (by omega) (by omega)]; omega), bS, nI_add]
        exact hr
theorem m_both (Y : Yn h m t g) {a b : Nat} (ha : a < dD m) (hb : b < dD m) : m_Mo_both (nI a) (nI b) h = some (nI (pw m t a b)) := by
  have hG := Y.1.1.G
  exact m_pw_loop Y ha hb (dG m) 0 FU (by omega) (by unfold FU; omega)
theorem lf_in {D g d : Nat} (hg : g < 2 ^ D) (h : (lf D g).testBit d = true) : d < D := by
  rw [lf_bit hg] at h
  by_cases e : d < D
  · exact e
  · rw [decide_eq_false e] at h; cases h
theorem m_isLeftG (Y : Yn h m t g) {d : Nat} (hd : d < 2147483648) : m_Mo_isLeft (nI d) h = some (bI ((lf (dD m) g).testBit d)) := by
  have hD := Y.1.1.D
  by_cases e : d < dD m
  · exact m_isLeft Y e
  · rw [m_isLeftN Y.1 (Or.inr (nI_le (by omega) hd))]
    cases hb : (lf (dD m) g).testBit d with
    | false => rfl
    | true => exact absurd (lf_in Y.2.2.2.2 hb) e
theorem m_bt_loop (Y : Yn h m t g) : ∀ (k c n : Nat), c + k = 64 → k < n → m_Mo_bestTwo_b8 h n (ob (-4) (fmx (pp (lf (dD m) g)) (pf m t) c)) (ov (-4) (pf m t) (fmx (pp (lf (dD m) g)) (pf m t) c)) (nI c) = some (ob (-4) (bpr m t (lf (dD m) g))) := by
  have hD := Y.1.1.D
  intro k
  induction k with
  | zero =>
    intro c n hc hn
    obtain ⟨n, rfl⟩ : ∃ z, n = z + 1 := ⟨n - 1, by omega⟩
    rw [m_Mo_bestTwo_b8, if_pos (by rw [l64]; exact nI_le (by omega) (by omega)), show c = 64 by omega]
    rfl
  | succ k ih =>
    intro c n hc hn
    obtain ⟨n, rfl⟩ : ∃ z, n = z + 1 := ⟨n - 1, by omega⟩
    have hr := ih (c + 1) n (by omega) (by omega)
    have hv : ∀ d, pf m t d < 2147483648 := fun d => by have := pw_le (t := t) (a := d / 8) (b := d % 8) Y.1.1; show pw m t (d / 8) (d % 8) < _; omega
    have fs := fun s hs => fstep (p := pp (lf (dD m) g)) (f := pf m t) (i := c) (by omega) (fun d _ => hv d) (R := fun a b => m_Mo_bestTwo_b8 h n a b (nI (c + 1))) (s := s) hs
    have no : pp (lf (dD m) g) c = false → m_Mo_bestTwo_b62 (m_Mo_bestTwo_b8 h n) h (ob (-4) (fmx (pp (lf (dD m) g)) (pf m t) c)) (ov (-4) (pf m t) (fmx (pp (lf (dD m) g)) (pf m t) c)) (nI c) = some (ob (-4) (bpr m t (lf (dD m) g))) := by
      intro hp
      rw [← hr, m_Mo_bestTwo_b62, m_Mo_bestTwo_b64, m_Mo_bestTwo_b77, m_Mo_bestTwo_b77, nI_1]
      exact fs (-4) (by rw [hp, if_neg (by decide)])
    rw [m_Mo_bestTwo_b8, if_neg (by rw [l64]; exact nI_ge (by omega) (by omega)), l8, nDiv (by omega) (by omega) (by omega), nMul, bS, nSub (by omega), bS, show c - c / 8 * 8 = c % 8 by omega]
    by_cases hab : c / 8 < c % 8
    · rw [if_neg (by rw [nLE (by omega) (by omega)]; omega), m_isLeftG Y (by omega), bS]
      cases h1 : (lf (dD m) g).testBit (c / 8) with
      | false =>
        rw [bI_f, if_pos rfl]
        exact no (by unfold pp; rw [h1, Bool.and_false, Bool.false_and])
      | true =>
        rw [bI_t, if_neg (by decide), m_isLeftG Y (by omega), bS]
        cases h2 : (lf (dD m) g).testBit (c % 8) with
        | false =>
          rw [bI_f, if_pos rfl]
          exact no (by unfold pp; rw [h2, Bool.and_false])
        | true =>
          rw [bI_t, if_neg (by decide), m_both Y (lf_in Y.2.2.2.2 h1) (lf_in Y.2.2.2.2 h2), bS, ← hr, m_Mo_bestTwo_b64, m_Mo_bestTwo_b77, m_Mo_bestTwo_b77, nI_1]
          exact fs (nI (pw m t (c / 8) (c % 8))) (by rw [if_pos (by unfold pp; rw [h1, h2, decide_eq_true hab]; rfl)]; rfl)
    · rw [if_pos (by rw [nLE (by omega) (by omega)]; omega)]
      exact no (by unfold pp; rw [decide_eq_false hab]; rfl)
theorem m_bestTwo (Y : Yn h m t g) : m_Mo_bestTwo h = some (ob (-4) (bpr m t (lf (dD m) g))) := m_bt_loop Y 64 0 FU (by omega) (by unfold FU; omega)
/-- the wheel -/
def bad (m : Mnu) (t L d : Nat) : Bool := L.testBit d && decide (lw1 m t d = 0)
theorem cnt_two (m : Mnu) (t L : Nat) : ∀ n, cnt (wel m t L) n + cnt (bad m t L) n = cnt (fun d => L.testBit d) n
  | 0 => rfl
  | n + 1 => by
    have ih := cnt_two m t L n
    rw [cnt, cnt, cnt]
    unfold wel bad at *
    cases hb : L.testBit n with
    | false => simpa using ih
    | true =>
      by_cases hz : lw1 m t n = 0
      · rw [decide_eq_true hz, decide_eq_false (show ¬ 0 < lw1 m t n by omega)]
        simp
        omega
      · rw [decide_eq_false hz, decide_eq_true (show 0 < lw1 m t n by omega)]
        simp
        omega
theorem pc_cnt6 : ∀ L, L < 64 → pc L = cnt (fun d => L.testBit d) 6 := by decide +kernel
theorem cnt_skip {p : Nat → Bool} {n : Nat} : ∀ k, (∀ c, n ≤ c → p c = false) → cnt p (n + k) = cnt p n
  | 0, _ => rfl
  | k + 1, h => by
    show (if p (n + k) = true then _ else cnt p (n + k)) = _
    rw [h (n + k) (by omega), if_neg (by decide)]
    exact cnt_skip k h
theorem pc_cnt {m : Mnu} {L : Nat} (om : Mok m) (o : Lok m L) : pc L = cnt (fun d => L.testBit d) (dD m) := by
  have hD := om.D
  rw [pc_cnt6 L o.1, show 6 = dD m + (6 - dD m) by omega]
  refine cnt_skip _ (fun c hc => ?_)
  show L.testBit c = false
  cases hb : L.testBit c with
  | false => rfl
  | true => have := o.2.2 c hb; omega
theorem gcd_step (v w : Nat) : Nat.gcd v w = Nat.gcd w (v % w) := by rw [Nat.gcd_comm v w, Nat.gcd_rec w v, Nat.gcd_comm]
theorem half_lt {w r : Nat} (h0 : 0 < r) (h : r < w) : 2 * (w % r) < w := by
  have h1 := Nat.mod_lt w h0
  rcases Nat.lt_or_ge w (2 * r) with q | q
  · have : w % r = w - r := by
      rw [Nat.mod_eq_sub_mod (by omega), Nat.mod_eq_of_lt (by omega)]
    omega
  · omega
/-- Euclid, as the reference writes it: some 2 j + 1 turns are plenty below 2 ^ j -/
theorem m_gcd_loop {p1 p2 : Int32} {h : Hp} {x y : Nat} (hx : x < 2147483648) (hxy : y ≤ x) : ∀ (j v w n : Nat), w < 2 ^ j → v < 2147483648 → w < 2147483648 → 2 * j < n → 0 < v ∨ 0 < w →
    m_Mo_wheel_b146 p1 p2 h n (nI x) (nI y) (nI v) (nI w) = if p2 = 0 then some (nI ((x - y) / Nat.gcd v w)) else some (nI (x / Nat.gcd v w)) := by
  have done : ∀ (v n : Nat), 0 < v → v < 2147483648 → 0 < n → m_Mo_wheel_b146 p1 p2 h n (nI x) (nI y) (nI v) (nI 0) = if p2 = 0 then some (nI ((x - y) / Nat.gcd v 0)) else some (nI (x / Nat.gcd v 0)) := by
    intro v n hv hv2 hn
    obtain ⟨n, rfl⟩ : ∃ z, n = z + 1 := ⟨n - 1, by omega⟩
    have hne : ¬ nI v = 0 := by rw [l0, nEQ hv2 (by omega)]; omega
    rw [m_Mo_wheel_b146, if_pos (show nI 0 = 0 from rfl), if_pos hne, if_pos hne, Nat.gcd_zero_right, nSub hxy, nDiv (by omega) hv hv2, nDiv hx hv hv2]
  intro j
  induction j with
  | zero =>
    intro v w n h1 hv hw hn h0
    have : w = 0 := by simpa using h1
    subst this
    exact done v n (by omega) hv (by omega)
  | succ j ih =>
    intro v w n h1 hv hw hn h0
    by_cases hw0 : w = 0
    · subst hw0
      exact done v n (by omega) hv (by omega)
    · obtain ⟨n, rfl⟩ : ∃ z, n = z + 2 := ⟨n - 2, by omega⟩
      have hne : ¬ nI w = 0 := by rw [l0, nEQ hw (by omega)]; omega
      rw [m_Mo_wheel_b146, if_neg hne, if_pos hne, nRem hv (by omega) hw, bS, gcd_step v w]
      have hr := Nat.mod_lt v (show 0 < w by omega)
      by_cases hr0 : v % w = 0
      · rw [hr0]
        exact done w (n + 1) (by omega) hw (by omega)
      · have hne2 : ¬ nI (v % w) = 0 := by rw [l0, nEQ (by omega) (by omega)]; exact hr0
        rw [m_Mo_wheel_b146, if_neg hne2, if_pos hne2, nRem hw (by omega) (by omega), bS, gcd_step w (v % w)]
        have hh := half_lt (w := w) (r := v % w) (by omega) hr
        have hm := Nat.mod_lt w (show 0 < v % w by omega)
        exact ih (v % w) (w % (v % w)) n (by rw [Nat.pow_succ] at h1; omega) (by omega) (by omega) (by omega) (by omega)
theorem pow_le6 {a n : Nat} (ha : a ≤ 6) (hn : n ≤ 6) : a ^ n ≤ 46656 := by
  have h1 : a ^ n ≤ 6 ^ n := Nat.pow_le_pow_left ha n
  have h2 : 6 ^ n ≤ 6 ^ 6 := Nat.pow_le_pow_right (by decide) hn
  have h3 : 6 ^ 6 = 46656 := by decide
  omega
theorem m_pow_loop {p2 : Int32} {L b N : Nat} (hL : L < 64) (hN : N ≤ 6) (hb : b ≤ pc L) (hp : 0 < pc L) : ∀ (k i n : Nat), i + k = N → k < n →
    m_Mo_wheel_b107 (nI N) p2 h n (nI L) (nI b) (nI (pc L ^ i)) (nI (b ^ i)) (nI i) = if p2 = 0 then some (nI ((pc L ^ N - b ^ N) / Nat.gcd (pc L ^ N - b ^ N) (pc L ^ N))) else some (nI (pc L ^ N / Nat.gcd (pc L ^ N - b ^ N) (pc L ^ N))) := by
  have hp6 := pc_le L hL
  intro k
  induction k with
  | zero =>
    intro i n hi hn
    obtain ⟨n, rfl⟩ : ∃ z, n = z + 1 := ⟨n - 1, by omega⟩
    have e : i = N := by omega
    subst e
    have h1 := pow_le6 hp6 hN
    have h2 : b ^ i ≤ pc L ^ i := Nat.pow_le_pow_left hb i
    have h3 : 0 < pc L ^ i := Nat.pow_pos hp
    rw [m_Mo_wheel_b107, if_pos (nI_le (Nat.le_refl _) (by omega)), nSub h2, bS]
    exact m_gcd_loop (by omega) h2 16 _ _ FU (by omega) (by omega) (by omega) (by unfold FU; omega) (Or.inr h3)
  | succ k ih =>
    intro i n hi hn
    obtain ⟨n, rfl⟩ : ∃ z, n = z + 1 := ⟨n - 1, by omega⟩
    have hr := ih (i + 1) n (by omega) (by omega)
    rw [m_Mo_wheel_b107, if_neg (nI_ge (by omega) (by omega)), pc_m hL, bS, nMul, bS, nMul, bS, nI_1, ← Nat.pow_succ, ← Nat.pow_succ]
    exact hr
theorem m_bad_loop (Y : Yn h m t g) {p1 p2 : Int32} {L : Nat} (hL : L < 64) : ∀ (k i n : Nat), i + k = dD m → k < n → m_Mo_wheel_b41 p1 p2 h n (nI L) (nI (cnt (bad m t L) i)) (nI i) = m_Mo_wheel_b107 p1 p2 h FU (nI L) (nI (cnt (bad m t L) (dD m))) (nI 1) (nI 1) (nI 0) := by
  have hD := Y.1.1.D
  intro k
  induction k with
  | zero =>
    intro i n hi hn
    obtain ⟨n, rfl⟩ : ∃ z, n = z + 1 := ⟨n - 1, by omega⟩
    rw [m_Mo_wheel_b41, Y.1.2.1, if_pos (nI_le (by omega) (by omega)), show i = dD m by omega]
    rfl
  | succ k ih =>
    intro i n hi hn
    obtain ⟨n, rfl⟩ : ∃ z, n = z + 1 := ⟨n - 1, by omega⟩
    have hr := ih (i + 1) n (by omega) (by omega)
    have hv := lw1_le (m := m) (t := t) (d := i)
    rw [cnt] at hr
    rw [m_Mo_wheel_b41, Y.1.2.1, if_neg (nI_ge (by omega) (by omega)), m_has (by omega) (by omega), bS, nI_1]
    cases hb : L.testBit i with
    | false =>
      rw [if_neg (by unfold bad; rw [hb, Bool.false_and]; decide)] at hr
      rw [bI_f, if_pos rfl, bS, l0, nI_add]
      exact hr
    | true =>
      rw [bI_t, if_neg (by decide), m_worstOff Y (by omega), bS, Y.2.1, m_wo Y (by omega), bS]
      by_cases hz : lw1 m t i = 0
      · rw [if_pos (by unfold bad; rw [hb, decide_eq_true hz]; rfl)] at hr
        rw [if_pos (by rw [hz]; rfl), bS, nI_1]
        exact hr
      · rw [if_neg (by unfold bad; rw [hb, decide_eq_false hz]; decide)] at hr
        rw [if_neg (by rw [l0, nEQ (by omega) (by omega)]; exact hz), bS, l0, nI_add]
        exact hr
/-- the wheel's answer -/
def whl (m : Mnu) (t L N : Nat) (p2 : Int32) : Int32 :=
  let b := cnt (bad m t L) (dD m)
  if p2 = 0 then nI ((pc L ^ N - b ^ N) / Nat.gcd (pc L ^ N - b ^ N) (pc L ^ N)) else nI (pc L ^ N / Nat.gcd (pc L ^ N - b ^ N) (pc L ^ N))
theorem bad_le {m : Mnu} {t L : Nat} (om : Mok m) (o : Lok m L) : cnt (bad m t L) (dD m) ≤ pc L := by
  have := cnt_two m t L (dD m)
  rw [pc_cnt om o]
  omega
theorem m_wheelY (Y : Yn h m t g) (o : Lok m (lf (dD m) g)) {N j : Nat} (hN : N ≤ 6) (hj : j ≤ 1) : m_Mo_wheel (nI N) (nI j) h = some (whl m t (lf (dD m) g) N (nI j)) := by
  have hD := Y.1.1.D
  unfold m_Mo_wheel whl
  rw [show (0 : Int64) = lN 0 from rfl, show (6 : Int64) = lN 6 from rfl, show (1 : Int64) = lN 1 from rfl, m_inY (Nat.zero_le _) hN (by omega), bS, if_neg (by decide), m_inY (Nat.zero_le _) hj (by omega), bS, if_neg (by decide), Y.2.2.2.1, m_leftBy Y.1 Y.2.2.2.2, bS]
  have h1 := m_bad_loop Y (p1 := nI N) (p2 := nI j) o.1 (dD m) 0 FU (by omega) (by unfold FU; omega)
  have h2 := m_pow_loop (h := h) (p2 := nI j) (b := cnt (bad m t (lf (dD m) g)) (dD m)) o.1 hN (bad_le Y.1.1 o) (pc_pos _ o.1 o.2.1) N 0 FU (by omega) (by unfold FU; omega)
  rw [Nat.pow_zero, Nat.pow_zero] at h2
  rw [h2] at h1
  refine h1.trans ?_
  dsimp only
  split <;> rfl
end MF2
