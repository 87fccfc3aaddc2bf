/-! the class's moment: each of its literal functions answers what the plain one does -/
theorem x_hasGuestY {h : Hp} {q G i : Nat} (hG : h q 1 = nI G) (hb : G < 2147483648) (hi : i < G) : x_Menu_hasGuest q (nI i) h = some 1 := by
  unfold x_Menu_hasGuest
  rw [if_neg (nI_n0 (by omega)), hG, if_neg (nI_ge hi hb)]
theorem x_hasGuestN {h : Hp} {q G : Nat} {p : Int32} (hG : h q 1 = nI G) (hp : p < 0 ∨ nI G ≤ p) : x_Menu_hasGuest q p h = some 0 := by
  unfold x_Menu_hasGuest
  rw [hG]
  by_cases h0 : p < 0
  · rw [if_pos h0]
  · rw [if_neg h0, if_pos (hp.resolve_left h0)]
theorem x_hasDishY {h : Hp} {q D d : Nat} (hD : h q 0 = nI D) (hb : D < 2147483648) (hd : d < D) : x_Menu_hasDish q (nI d) h = some 1 := by
  unfold x_Menu_hasDish
  rw [if_neg (nI_n0 (by omega)), hD, if_neg (nI_ge hd hb)]
theorem x_hasDishN {h : Hp} {q D : Nat} {p : Int32} (hD : h q 0 = nI D) (hp : p < 0 ∨ nI D ≤ p) : x_Menu_hasDish q p h = some 0 := by
  unfold x_Menu_hasDish
  rw [hD]
  by_cases h0 : p < 0
  · rw [if_pos h0]
  · rw [if_neg h0, if_pos (hp.resolve_left h0)]
theorem xlen_lt (r : Nat) : xlen r < 2147483648 := by unfold xlen; split <;> (try split) <;> (try split) <;> omega
theorem x_entry {h : Hp} {r k : Nat} (hk : k < xlen r) : x_Nm_entry r (nI k) h = some (h r k) := by
  have hl := xlen_lt r
  unfold x_Nm_entry
  rw [if_neg (nI_n0 (by omega)), ofN, if_neg (nI_ge hk hl), if_pos (inR_y hk hl), nI_cl (by omega)]
theorem x_put {h : Hp} {r k : Nat} (hk : k < xlen r) (x : Int32) : x_Nm_put r (nI k) x h = some (wr h r k x) := by
  have hl := xlen_lt r
  unfold x_Nm_put
  rw [if_neg (nI_n0 (by omega)), ofN, if_neg (nI_ge hk hl), if_pos (inR_y hk hl), nI_cl (by omega)]
  rfl
section XM
variable {h : Hp} {m : Mnu} {t L : Nat}
theorem x_kindOf (X : Xm h m t L) {i : Nat} (hi : i < dG m) : x_Menu_kindOf 6 (nI i) h = some (nI (dK m i)) := by
  have hG := X.ok.G
  unfold x_Menu_kindOf
  rw [x_entry (show i < xlen 7 by show i < 9; omega), bS, X.2.1.2.2.2.2.2.1 i hi]
theorem x_minutesOf (ok : Mok m) (hx : Mx h 6 m) {d : Nat} (hd : d < dD m) : x_Menu_minutesOf 6 (nI d) h = some (nI (dM m d)) := by
  have hD := ok.D
  unfold x_Menu_minutesOf
  rw [x_entry (show d < xlen 9 by show d < 6; omega), bS, hx.2.2.2.2.2.2.2 d hd]
theorem x_told (X : Xm h m t L) {i d : Nat} (hi : i < dG m) (hd : d < dD m) : x_Menu_toldWorth 6 (nI i) (nI d) h = some (nI (dT m i d)) := by
  have hG := X.ok.G
  have hD := X.ok.D
  unfold x_Menu_toldWorth
  rw [x_hasGuestY X.G (by omega) hi, bS, if_neg (by decide), x_hasDishY X.D (by omega) hd, bS, if_neg (by decide), l6, nMul, nI_add, x_entry (show i * 6 + d < xlen 8 by show _ < 54; omega), bS]
  exact congrArg some (X.2.1.2.2.2.2.2.2.1 i d hi hd)
theorem x_value (X : Xm h m t L) {i d : Nat} (hi : i < dG m) (hd : d < dD m) : x_Moment_value (nI i) (nI d) h = some (nI (wv m t i d)) := by
  have hT := X.ok.T hi hd
  have hH := X.ok.H
  have htb := X.tb
  have hq : t / dH m ≤ 99 := Nat.le_trans (Nat.div_le_self _ _) htb
  unfold x_Moment_value wv
  rw [x_told X hi hd, bS]
  by_cases h0 : dT m i d = 0
  · rw [if_pos (by rw [h0]; rfl), if_pos h0, h0]
  · rw [if_neg (by rw [l0, nEQ (by omega) (by omega)]; exact h0), if_neg h0, X.H, if_pos (by rw [l1, nLE (by omega) (by omega)]; omega), if_pos (by rw [l0, nEQ (by omega) (by omega)]; omega), X.t, nDiv (by omega) (by omega) (by omega), nI_add, l9]
    by_cases h9 : dT m i d + t / dH m < 9
    · rw [if_pos (by rw [nLT (by omega) (by omega)]; exact h9), if_pos h9]
    · rw [if_neg (by rw [nLT (by omega) (by omega)]; exact h9), if_neg h9]
/-- all together, but one -/
def sw1 (m : Mnu) (t d : Nat) (w : Option Nat) (i : Nat) : Nat := if some i = w then 0 else wv m t i d
def sa (m : Mnu) (t : Nat) (w : Option Nat) (d : Nat) : Nat := sm (sw1 m t d w) (dG m)
theorem sw1_le {m : Mnu} {t d : Nat} {w : Option Nat} {i : Nat} : sw1 m t d w i ≤ 9 := by unfold sw1; split; omega; exact wv_le
theorem sm1_le {m : Mnu} {t d : Nat} {w : Option Nat} (n : Nat) : sm (sw1 m t d w) n ≤ 9 * n := sm_le n (fun _ _ => sw1_le)
theorem sa_le {m : Mnu} {t d : Nat} {w : Option Nat} (o : Mok m) : sa m t w d ≤ 81 := by have := sm1_le (m := m) (t := t) (d := d) (w := w) (dG m); have := o.G; unfold sa; omega
theorem ob_eq {e : Int32} (he : ∀ a, a < 2147483648 → ¬ nI a = e) {i : Nat} (hi : i < 2147483648) {w : Option Nat} (hw : ∀ j, w = some j → j < 2147483648) : nI i = ob e w ↔ some i = w := by
  cases w with
  | none => exact ⟨fun z => absurd z (he i hi), fun z => by cases z⟩
  | some j =>
    show nI i = nI j ↔ _
    rw [nEQ hi (hw j rfl)]
    exact ⟨fun z => by rw [z], fun z => Option.some.inj z⟩
theorem he1 : ∀ a, a < 2147483648 → ¬ nI a = -1 := fun _ h => nI_nm1 h
theorem he4 : ∀ a, a < 2147483648 → ¬ nI a = -4 := fun _ h => nI_nm4 h
theorem x_tog_loop (X : Xm h m t L) {d : Nat} (hd : d < dD m) {w : Option Nat} (hw : ∀ j, w = some j → j < 2147483648) : ∀ (k i n : Nat), i + k = dG m → k < n → x_Moment_together_b5 (nI d) (ob (-1) w) h n (nI (sm (sw1 m t d w) i)) (nI i) = some (nI (sa m t w d)) := by
  have hG := X.ok.G
  intro k
  induction k with
  | zero =>
    intro i n hi hn
    obtain ⟨n, rfl⟩ : ∃ z, n = z + 1 := ⟨n - 1, by omega⟩
    rw [x_Moment_together_b5, X.G, if_pos (nI_le (by omega) (by omega)), show i = dG m by omega]
    rfl
  | succ k ih =>
    intro i n hi hn
    obtain ⟨n, rfl⟩ : ∃ z, n = z + 1 := ⟨n - 1, by omega⟩
    have hr := ih (i + 1) n (by omega) (by omega)
    rw [sm] at hr
    rw [x_Moment_together_b5, X.G, if_neg (nI_ge (by omega) (by omega))]
    by_cases hz : some i = w
    · rw [if_pos ((ob_eq he1 (by omega) hw).mpr hz), nI_1]
      rw [show sw1 m t d w i = 0 by unfold sw1; rw [if_pos hz], Nat.add_zero] at hr
      exact hr
    · rw [if_neg (fun z => hz ((ob_eq he1 (by omega) hw).mp z)), x_value X (by omega) hd, bS, bS, nI_add, nI_1]
      rw [show sw1 m t d w i = wv m t i d by unfold sw1; rw [if_neg hz]] at hr
      exact hr
theorem x_together (X : Xm h m t L) {d : Nat} (hd : d < dD m) {w : Option Nat} (hw : ∀ j, w = some j → j < 2147483648) : x_Moment_together (nI d) (ob (-1) w) h = some (nI (sa m t w d)) := by
  have hG := X.ok.G
  exact x_tog_loop X hd hw (dG m) 0 FU (by omega) (by unfold FU; omega)
theorem x_together0 (X : Xm h m t L) {d : Nat} (hd : d < dD m) : x_Moment_together (nI d) (-1) h = some (nI (sa m t none d)) := x_together X hd (w := none) (fun j e => by cases e)
theorem x_least_loop (X : Xm h m t L) {d : Nat} (hd : d < dD m) : ∀ (k i n : Nat), i + k = dG m → k < n → x_Moment_leastWorth_b5 (nI d) h n (nI (mnv (fun i => wv m t i d) i)) (nI i) = some (nI (mnv (fun i => wv m t i d) (dG m))) := by
  have hG := X.ok.G
  intro k
  induction k with
  | zero =>
    intro i n hi hn
    obtain ⟨n, rfl⟩ : ∃ z, n = z + 1 := ⟨n - 1, by omega⟩
    rw [x_Moment_leastWorth_b5, X.G, if_pos (nI_le (by omega) (by omega)), show i = dG m by omega]
  | succ k ih =>
    intro i n hi hn
    obtain ⟨n, rfl⟩ : ∃ z, n = z + 1 := ⟨n - 1, by omega⟩
    have hr := ih (i + 1) n (by omega) (by omega)
    rw [mnv] at hr
    have h9 := mnv_le (fun i => wv m t i d) i
    have hv := wv_le (m := m) (t := t) (i := i) (d := d)
    rw [x_Moment_leastWorth_b5, X.G, if_neg (nI_ge (by omega) (by omega)), x_value X (by omega) hd, bS, bS, nI_1]
    by_cases hz : wv m t i d < mnv (fun i => wv m t i d) i
    · rw [if_pos (by rw [nLT (by omega) (by omega)]; exact hz)]
      rw [if_pos hz] at hr
      exact hr
    · rw [if_neg (by rw [nLT (by omega) (by omega)]; exact hz)]
      rw [if_neg hz] at hr
      exact hr
/-- the least that a dish is worth to anybody; to whom -/
def lw1 (m : Mnu) (t d : Nat) : Nat := mnv (fun i => wv m t i d) (dG m)
def who (m : Mnu) (t d : Nat) : Nat := ami (fun i => wv m t i d) (dG m)
theorem lw1_le {m : Mnu} {t d : Nat} : lw1 m t d ≤ 9 := mnv_le _ _
theorem who_lt {m : Mnu} {t d : Nat} (o : Mok m) : who m t d < dG m := ami_lt _ _ o.G.1
theorem lw1_who {m : Mnu} {t d : Nat} (o : Mok m) : lw1 m t d = wv m t (who m t d) d := mn_ami _ o.G.1 (fun _ _ => wv_le)
theorem x_leastWorth (X : Xm h m t L) {d : Nat} (hd : d < dD m) : x_Moment_leastWorth (nI d) h = some (nI (lw1 m t d)) := by
  have hG := X.ok.G
  exact x_least_loop X hd (dG m) 0 FU (by omega) (by unfold FU; omega)
theorem x_opp_loop (X : Xm h m t L) {d : Nat} (hd : d < dD m) : ∀ (k i n : Nat), 0 < i → i + k = dG m → k < n → x_Moment_opponent_b4 (nI d) h n (nI (ami (fun i => wv m t i d) i)) (nI i) = some (nI (who m t d)) := by
  have hG := X.ok.G
  intro k
  induction k with
  | zero =>
    intro i n h0 hi hn
    obtain ⟨n, rfl⟩ : ∃ z, n = z + 1 := ⟨n - 1, by omega⟩
    rw [x_Moment_opponent_b4, X.G, if_pos (nI_le (by omega) (by omega)), show i = dG m by omega]
    rfl
  | succ k ih =>
    intro i n h0 hi hn
    obtain ⟨n, rfl⟩ : ∃ z, n = z + 1 := ⟨n - 1, by omega⟩
    have hr := ih (i + 1) n (by omega) (by omega) (by omega)
    rw [ami] at hr
    have ha := ami_lt (fun i => wv m t i d) i h0
    have hv := wv_le (m := m) (t := t) (i := i) (d := d)
    have hv2 := wv_le (m := m) (t := t) (i := ami (fun i => wv m t i d) i) (d := d)
    rw [x_Moment_opponent_b4, X.G, if_neg (nI_ge (by omega) (by omega)), x_value X (by omega) hd, bS, x_value X (by omega) hd, bS, nI_1]
    by_cases hz : wv m t i d < wv m t (ami (fun i => wv m t i d) i) d
    · rw [if_neg (by rw [nLE (by omega) (by omega)]; omega)]
      rw [if_pos hz] at hr
      exact hr
    · rw [if_pos (by rw [nLE (by omega) (by omega)]; omega)]
      rw [if_neg hz] at hr
      exact hr
theorem x_opponent (X : Xm h m t L) {d : Nat} (hd : d < dD m) : x_Moment_opponent (nI d) h = some (nI (who m t d)) := by
  have hG := X.ok.G
  have := x_opp_loop X hd (dG m - 1) 1 FU (by omega) (by omega) (by unfold FU; omega)
  have e : ami (fun i => wv m t i d) 1 = 0 := by rw [ami, ami]; exact if_neg (Nat.lt_irrefl _)
  rw [e] at this
  exact this
/-- the dish worth most to one, of those left; the one worth least, of some -/
def fav (m : Mnu) (t L i : Nat) : Option Nat := fmx (fun d => L.testBit d) (fun d => wv m t i d) (dD m)
def lst (m : Mnu) (t L i : Nat) : Option Nat := lmn (fun d => L.testBit d) (fun d => wv m t i d) (dD m)
theorem x_fav_loop (X : Xm h m t L) {g : Nat} (hg : g < dG m) : ∀ (k i n : Nat), i + k = dD m → k < n → x_Moment_favourite_b4 (nI g) h n (ob (-1) (fmx (fun d => L.testBit d) (fun d => wv m t g d) i)) (nI i) = some (ob (-1) (fav m t L g)) := by
  have hD := X.ok.D
  have hG := X.ok.G
  have hL := X.Lb
  intro k
  induction k with
  | zero =>
    intro i n hi hn
    obtain ⟨n, rfl⟩ : ∃ z, n = z + 1 := ⟨n - 1, by omega⟩
    rw [x_Moment_favourite_b4, X.D, if_pos (nI_le (by omega) (by omega)), show i = dD m by omega]
    rfl
  | succ k ih =>
    intro i n hi hn
    obtain ⟨n, rfl⟩ : ∃ z, n = z + 1 := ⟨n - 1, by omega⟩
    have hr := ih (i + 1) n (by omega) (by omega)
    rw [fmx] at hr
    rw [x_Moment_favourite_b4, X.D, if_neg (nI_ge (by omega) (by omega)), X.L, x_isIn (by omega) (by omega), bS, nI_1]
    (try dsimp only at hr)
    by_cases hb : L.testBit i = true
    · rw [hb, if_pos rfl] at hr
      rw [hb, bI_t, if_neg (by decide)]
      cases hf : fmx (fun d => L.testBit d) (fun d => wv m t g d) i with
      | none =>
        rw [hf] at hr
        rw [ob_n, if_pos rfl]
        exact hr
      | some b =>
        rw [hf] at hr
        have hb2 := fmx_lt hf
        have hv := wv_le (m := m) (t := t) (i := g) (d := i)
        have hv2 := wv_le (m := m) (t := t) (i := g) (d := b)
        rw [ob_s, if_neg (nI_nm1 (by omega)), x_value X hg (by omega), bS, x_value X hg (by omega), bS]
        dsimp only at hr
        by_cases hz : wv m t g b < wv m t g i
        · rw [if_neg (by rw [nLE (by omega) (by omega)]; omega)]
          rw [if_pos hz] at hr
          exact hr
        · rw [if_pos (by rw [nLE (by omega) (by omega)]; omega)]
          rw [if_neg hz] at hr
          exact hr
    · have hb : L.testBit i = false := by simpa using hb
      rw [hb, if_neg (by decide)] at hr
      rw [hb, bI_f, if_pos rfl]
      exact hr
theorem x_favourite (X : Xm h m t L) {g : Nat} (hg : g < dG m) : x_Moment_favourite (nI g) h = some (ob (-1) (fav m t L g)) := by
  have hD := X.ok.D
  exact x_fav_loop X hg (dD m) 0 FU (by omega) (by unfold FU; omega)
theorem x_lst_loop (X : Xm h m t L) {g A : Nat} (hg : g < dG m) (hA : A < 64) : ∀ (k i n : Nat), i + k = dD m → k < n → x_Moment_leastLiked_b5 (nI g) (nI A) h n (ob (-1) (lmn (fun d => A.testBit d) (fun d => wv m t g d) i)) (nI i) = some (ob (-1) (lst m t A g)) := by
  have hD := X.ok.D
  have hG := X.ok.G
  intro k
  induction k with
  | zero =>
    intro i n hi hn
    obtain ⟨n, rfl⟩ : ∃ z, n = z + 1 := ⟨n - 1, by omega⟩
    rw [x_Moment_leastLiked_b5, X.D, if_pos (nI_le (by omega) (by omega)), show i = dD m by omega]
    rfl
  | succ k ih =>
    intro i n hi hn
    obtain ⟨n, rfl⟩ : ∃ z, n = z + 1 := ⟨n - 1, by omega⟩
    have hr := ih (i + 1) n (by omega) (by omega)
    rw [lmn] at hr
    rw [x_Moment_leastLiked_b5, X.D, if_neg (nI_ge (by omega) (by omega)), x_isIn (by omega) (by omega), bS, nI_1]
    (try dsimp only at hr)
    by_cases hb : A.testBit i = true
    · rw [hb, if_pos rfl] at hr
      rw [hb, bI_t, if_neg (by decide)]
      cases hf : lmn (fun d => A.testBit d) (fun d => wv m t g d) i with
      | none =>
        rw [hf] at hr
        rw [ob_n, if_pos rfl]
        exact hr
      | some b =>
        rw [hf] at hr
        have hb2 := lmn_lt hf
        have hv := wv_le (m := m) (t := t) (i := g) (d := i)
        have hv2 := wv_le (m := m) (t := t) (i := g) (d := b)
        rw [ob_s, if_neg (nI_nm1 (by omega)), x_value X hg (by omega), bS, x_value X hg (by omega), bS]
        dsimp only at hr
        by_cases hz : wv m t g b < wv m t g i
        · rw [if_pos (by rw [nLT (by omega) (by omega)]; omega)]
          rw [if_pos hz] at hr
          exact hr
        · rw [if_neg (by rw [nLT (by omega) (by omega)]; omega)]
          rw [if_neg hz] at hr
          exact hr
    · have hb : A.testBit i = false := by simpa using hb
      rw [hb, if_neg (by decide)] at hr
      rw [hb, bI_f, if_pos rfl]
      exact hr
theorem x_leastLiked (X : Xm h m t L) {g A : Nat} (hg : g < dG m) (hA : A < 64) : x_Moment_leastLiked (nI g) (nI A) h = some (ob (-1) (lst m t A g)) := by
  have hD := X.ok.D
  exact x_lst_loop X hg hA (dD m) 0 FU (by omega) (by unfold FU; omega)
/-- the dish that is worth most to all together (but one) -/
def mst (m : Mnu) (t L : Nat) (w : Option Nat) : Option Nat := fmx (fun d => L.testBit d) (fun d => sa m t w d) (dD m)
theorem x_mst_loop (X : Xm h m t L) {w : Option Nat} (hw : ∀ j, w = some j → j < 2147483648) : ∀ (k i n : Nat), i + k = dD m → k < n → x_Moment_mostDish_b4 (ob (-1) w) h n (ob (-1) (fmx (fun d => L.testBit d) (fun d => sa m t w d) i)) (nI i) = some (ob (-1) (mst m t L w)) := by
  have hD := X.ok.D
  have hG := X.ok.G
  have hL := X.Lb
  intro k
  induction k with
  | zero =>
    intro i n hi hn
    obtain ⟨n, rfl⟩ : ∃ z, n = z + 1 := ⟨n - 1, by omega⟩
    rw [x_Moment_mostDish_b4, X.D, if_pos (nI_le (by omega) (by omega)), show i = dD m by omega]
    rfl
  | succ k ih =>
    intro i n hi hn
    obtain ⟨n, rfl⟩ : ∃ z, n = z + 1 := ⟨n - 1, by omega⟩
    have hr := ih (i + 1) n (by omega) (by omega)
    rw [fmx] at hr
    rw [x_Moment_mostDish_b4, X.D, if_neg (nI_ge (by omega) (by omega)), X.L, x_isIn (by omega) (by omega), bS, nI_1]
    (try dsimp only at hr)
    by_cases hb : L.testBit i = true
    · rw [hb, if_pos rfl] at hr
      rw [hb, bI_t, if_neg (by decide)]
      cases hf : fmx (fun d => L.testBit d) (fun d => sa m t w d) i with
      | none =>
        rw [hf] at hr
        rw [ob_n, if_pos rfl]
        exact hr
      | some b =>
        rw [hf] at hr
        have hb2 := fmx_lt hf
        have hv := sa_le (t := t) (d := i) (w := w) X.ok
        have hv2 := sa_le (t := t) (d := b) (w := w) X.ok
        rw [ob_s, if_neg (nI_nm1 (by omega)), x_together X (by omega) hw, bS, x_together X (by omega) hw, bS]
        dsimp only at hr
        by_cases hz : sa m t w b < sa m t w i
        · rw [if_neg (by rw [nLE (by omega) (by omega)]; omega)]
          rw [if_pos hz] at hr
          exact hr
        · rw [if_pos (by rw [nLE (by omega) (by omega)]; omega)]
          rw [if_neg hz] at hr
          exact hr
    · have hb : L.testBit i = false := by simpa using hb
      rw [hb, if_neg (by decide)] at hr
      rw [hb, bI_f, if_pos rfl]
      exact hr
theorem x_mostDish (X : Xm h m t L) {w : Option Nat} (hw : ∀ j, w = some j → j < 2147483648) : x_Moment_mostDish (ob (-1) w) h = some (ob (-1) (mst m t L w)) := by
  have hD := X.ok.D
  exact x_mst_loop X hw (dD m) 0 FU (by omega) (by unfold FU; omega)
theorem x_mostDish0 (X : Xm h m t L) : x_Moment_mostDish (-1) h = some (ob (-1) (mst m t L none)) := x_mostDish X (w := none) (fun j e => by cases e)
/-- hearts -/
def gv (m : Mnu) (t L k i d : Nat) : Bool := L.testBit d && (if k = 0 then decide (5 ≤ wv m t i d) else if k = 1 then true else if k = 3 then decide (0 < wv m t i d) && decide (fav m t L i = some d) else false)
theorem x_gives (X : Xm h m t L) {k i d : Nat} (hk : k ≤ 3) (hi : i < dG m) (hd : d < dD m) : x_Moment_gives (nI k) (nI i) (nI d) h = some (bI (gv m t L k i d)) := by
  have hD := X.ok.D
  have hL := X.Lb
  have hv := wv_le (m := m) (t := t) (i := i) (d := d)
  unfold x_Moment_gives gv
  rw [X.L, x_isIn (by omega) (by omega), bS]
  cases hb : L.testBit d with
  | false => rfl
  | true =>
    rw [bI_t, if_neg (by decide), Bool.true_and, x_value X hi hd, bS, bS, x_favourite X hi, bS]
    rcases (show k = 0 ∨ k = 1 ∨ k = 2 ∨ k = 3 by omega) with rfl | rfl | rfl | rfl
    · rw [if_pos (show nI 0 = 0 by decide), if_pos rfl]
      by_cases hz : 5 ≤ wv m t i d
      · rw [if_neg (by rw [l5, nLT (by omega) (by omega)]; omega), decide_eq_true hz]; rfl
      · rw [if_pos (by rw [l5, nLT (by omega) (by omega)]; omega), decide_eq_false hz]; rfl
    · rfl
    · rfl
    · rw [if_neg (show ¬ nI 3 = 0 by decide), if_neg (show ¬ nI 3 = 1 by decide), if_neg (show ¬ nI 3 = 2 by decide), if_pos (show nI 3 = 3 by decide)]
      show (if nI (wv m t i d) ≤ 0 then some 0 else if ob (-1) (fav m t L i) = nI d then some 1 else some 0) = some (bI (decide (0 < wv m t i d) && decide (fav m t L i = some d)))
      by_cases hz : 0 < wv m t i d
      · rw [if_neg (by rw [l0, nLE (by omega) (by omega)]; omega), decide_eq_true hz, Bool.true_and]
        cases hf : fav m t L i with
        | none => rw [ob_n, if_neg (fun z => nI_nm1 (a := d) (by omega) z.symm), decide_eq_false (fun z => by cases z)]; rfl
        | some b =>
          have hb2 := fmx_lt hf
          rw [ob_s]
          by_cases hbd : b = d
          · rw [if_pos (by rw [hbd]), hbd, decide_eq_true rfl]; rfl
          · rw [if_neg (by rw [nEQ (by omega) (by omega)]; exact hbd), decide_eq_false (fun z => hbd (Option.some.inj z))]; rfl
      · rw [if_pos (by rw [l0, nLE (by omega) (by omega)]; omega), decide_eq_false hz]; rfl
/-- bits of those for whom it is so; how many -/
def bts (p : Nat → Bool) : Nat → Nat
  | 0 => 0
  | n + 1 => if p n = true then bts p n ||| 2 ^ n else bts p n
def cnt (p : Nat → Bool) : Nat → Nat
  | 0 => 0
  | n + 1 => if p n = true then cnt p n + 1 else cnt p n
theorem bts_cong {p q : Nat → Bool} : ∀ n, (∀ i, i < n → p i = q i) → bts p n = bts q n
  | 0, _ => rfl
  | n + 1, h => by rw [bts, bts, bts_cong n (fun i hi => h i (by omega)), h n (by omega)]
theorem cnt_cong {p q : Nat → Bool} : ∀ n, (∀ i, i < n → p i = q i) → cnt p n = cnt q n
  | 0, _ => rfl
  | n + 1, h => by rw [cnt, cnt, cnt_cong n (fun i hi => h i (by omega)), h n (by omega)]
theorem cnt_le (p : Nat → Bool) : ∀ n, cnt p n ≤ n
  | 0 => Nat.le_refl 0
  | n + 1 => by have := cnt_le p n; rw [cnt]; split <;> omega
theorem x_ho_loop (X : Xm h m t L) {g : Nat} (hg : g < dG m) : ∀ (k i n : Nat), i + k = dD m → k < n → x_Moment_heartsOf_b4 (nI g) h n (nI (bts (gv m t L (dK m g) g) i)) (nI i) = some (nI (bts (gv m t L (dK m g) g) (dD m))) := by
  have hD := X.ok.D
  intro k
  induction k with
  | zero =>
    intro i n hi hn
    obtain ⟨n, rfl⟩ : ∃ z, n = z + 1 := ⟨n - 1, by omega⟩
    rw [x_Moment_heartsOf_b4, X.D, if_pos (nI_le (by omega) (by omega)), show i = dD m by omega]
  | succ k ih =>
    intro i n hi hn
    obtain ⟨n, rfl⟩ : ∃ z, n = z + 1 := ⟨n - 1, by omega⟩
    have hr := ih (i + 1) n (by omega) (by omega)
    rw [bts] at hr
    rw [x_Moment_heartsOf_b4, X.D, if_neg (nI_ge (by omega) (by omega)), x_kindOf X hg, bS, x_gives X (X.ok.K hg) hg (by omega), bS, nI_1]
    cases hb : gv m t L (dK m g) g i with
    | true =>
      rw [hb, if_pos rfl] at hr
      rw [bI_t, if_neg (by decide), pow_n (by omega), bS, nOr]
      exact hr
    | false =>
      rw [hb, if_neg (by decide)] at hr
      rw [bI_f, if_pos rfl]
      exact hr
theorem x_heartsOf (X : Xm h m t L) {g : Nat} (hg : g < dG m) : x_Moment_heartsOf (nI g) h = some (nI (bts (gv m t L (dK m g) g) (dD m))) := by
  have hD := X.ok.D
  exact x_ho_loop X hg (dD m) 0 FU (by omega) (by unfold FU; omega)
theorem x_hn_loop (X : Xm h m t L) {d : Nat} (hd : d < dD m) : ∀ (k i n : Nat), i + k = dG m → k < n → x_Moment_heartsOn_b4 (nI d) h n (nI (cnt (fun i => gv m t L (dK m i) i d) i)) (nI i) = some (nI (cnt (fun i => gv m t L (dK m i) i d) (dG m))) := by
  have hG := X.ok.G
  intro k
  induction k with
  | zero =>
    intro i n hi hn
    obtain ⟨n, rfl⟩ : ∃ z, n = z + 1 := ⟨n - 1, by omega⟩
    rw [x_Moment_heartsOn_b4, X.G, if_pos (nI_le (by omega) (by omega)), show i = dG m by omega]
  | succ k ih =>
    intro i n hi hn
    obtain ⟨n, rfl⟩ : ∃ z, n = z + 1 := ⟨n - 1, by omega⟩
    have hr := ih (i + 1) n (by omega) (by omega)
    rw [cnt] at hr
    rw [x_Moment_heartsOn_b4, X.G, if_neg (nI_ge (by omega) (by omega)), x_kindOf X (by omega), bS, x_gives X (X.ok.K (by omega)) (by omega) hd, bS, nI_1, nI_1]
    (try dsimp only at hr)
    cases hb : gv m t L (dK m i) i d with
    | true =>
      rw [hb, if_pos rfl] at hr
      rw [bI_t, if_neg (by decide)]
      exact hr
    | false =>
      rw [hb, if_neg (by decide)] at hr
      rw [bI_f, if_pos rfl]
      exact hr
theorem x_heartsOn (X : Xm h m t L) {d : Nat} (hd : d < dD m) : x_Moment_heartsOn (nI d) h = some (nI (cnt (fun i => gv m t L (dK m i) i d) (dG m))) := by
  have hG := X.ok.G
  exact x_hn_loop X hd (dG m) 0 FU (by omega) (by unfold FU; omega)
/-- fair -/
def frk (m : Mnu) (t d : Nat) : Nat := 100 * lw1 m t d + sa m t none d
theorem frk_le {m : Mnu} {t d : Nat} (o : Mok m) : frk m t d ≤ 981 := by have := sa_le (t := t) (d := d) (w := none) o; have := lw1_le (m := m) (t := t) (d := d); unfold frk; omega
def fdr (m : Mnu) (t L : Nat) : Option Nat := fmx (fun d => L.testBit d) (frk m t) (dD m)
def ov (e : Int32) (f : Nat → Nat) (o : Option Nat) : Int32 := match o with
  | none => e
  | some d => nI (f d)
theorem x_fairRank (X : Xm h m t L) {d : Nat} (hd : d < dD m) : x_Moment_fairRank (nI d) h = some (nI (frk m t d)) := by
  unfold x_Moment_fairRank
  rw [x_leastWorth X hd, bS, x_together0 X hd, bS, l100, nMul, nI_add]
  rfl
theorem x_fair_loop (X : Xm h m t L) : ∀ (k i n : Nat), i + k = dD m → k < n → x_Moment_fairDish_b6 h n (ob (-1) (fmx (fun d => L.testBit d) (frk m t) i)) (ov (-1) (frk m t) (fmx (fun d => L.testBit d) (frk m t) i)) (nI i) = some (ob (-1) (fdr m t L)) := by
  have hD := X.ok.D
  have hG := X.ok.G
  have hL := X.Lb
  intro k
  induction k with
  | zero =>
    intro i n hi hn
    obtain ⟨n, rfl⟩ : ∃ z, n = z + 1 := ⟨n - 1, by omega⟩
    rw [x_Moment_fairDish_b6, X.D, if_pos (nI_le (by omega) (by omega)), show i = dD m by omega]
    rfl
  | succ k ih =>
    intro i n hi hn
    obtain ⟨n, rfl⟩ : ∃ z, n = z + 1 := ⟨n - 1, by omega⟩
    have hr := ih (i + 1) n (by omega) (by omega)
    rw [fmx] at hr
    rw [x_Moment_fairDish_b6, X.D, if_neg (nI_ge (by omega) (by omega)), X.L, x_isIn (by omega) (by omega), bS, nI_1]
    (try dsimp only at hr)
    by_cases hb : L.testBit i = true
    · rw [hb, if_pos rfl] at hr
      rw [hb, bI_t, if_neg (by decide), x_fairRank X (by omega), bS, bS]
      have hv := frk_le (t := t) (d := i) X.ok
      cases hf : fmx (fun d => L.testBit d) (frk m t) i with
      | none =>
        rw [hf] at hr
        rw [show ov (-1) (frk m t) none = -1 from rfl, if_pos (m1_ltT (a := frk m t i) (by omega))]
        exact hr
      | some b =>
        rw [hf] at hr
        have hb2 := fmx_lt hf
        have hv2 := frk_le (t := t) (d := b) X.ok
        dsimp only at hr
        show (if nI (frk m t b) < nI (frk m t i) then _ else _) = _
        by_cases hz : frk m t b < frk m t i
        · rw [if_pos (by rw [nLT (by omega) (by omega)]; omega)]
          rw [if_pos hz] at hr
          exact hr
        · rw [if_neg (by rw [nLT (by omega) (by omega)]; omega)]
          rw [if_neg hz] at hr
          exact hr
    · have hb : L.testBit i = false := by simpa using hb
      rw [hb, if_neg (by decide)] at hr
      rw [hb, bI_f, if_pos rfl]
      exact hr
theorem x_fairDish (X : Xm h m t L) : x_Moment_fairDish h = some (ob (-1) (fdr m t L)) := by
  have hD := X.ok.D
  exact x_fair_loop X (dD m) 0 FU (by omega) (by unfold FU; omega)
/-- how many like one dish more, less how many like it less -/
def cm (x y : Nat) : Int32 := if x < y then -1 else if x = y then 0 else 1
def ld (m : Mnu) (t a b : Nat) : Nat → Int32
  | 0 => 0
  | n + 1 => ld m t a b n + cm (wv m t n a) (wv m t n b)
theorem x_compare {x y : Nat} (hx : x < 2147483648) (hy : y < 2147483648) (h : Hp) : x_Int_compare (nI x) (nI y) h = some (cm x y) := by
  unfold x_Int_compare cm
  by_cases h1 : x < y
  · rw [if_neg (by rw [nLE hy hx]; omega), if_pos h1]
  · rw [if_pos (by rw [nLE hy hx]; omega), if_neg h1]
    by_cases h2 : x = y
    · rw [if_pos (by rw [h2]), if_pos h2]
    · rw [if_neg (by rw [nEQ hx hy]; exact h2), if_neg h2]
theorem x_lead_loop (X : Xm h m t L) {a b : Nat} (ha : a < dD m) (hb : b < dD m) : ∀ (k i n : Nat), i + k = dG m → k < n → x_Moment_lead_b5 (nI a) (nI b) h n (ld m t a b i) (nI i) = some (ld m t a b (dG m)) := by
  have hG := X.ok.G
  intro k
  induction k with
  | zero =>
    intro i n hi hn
    obtain ⟨n, rfl⟩ : ∃ z, n = z + 1 := ⟨n - 1, by omega⟩
    rw [x_Moment_lead_b5, X.G, if_pos (nI_le (by omega) (by omega)), show i = dG m by omega]
  | succ k ih =>
    intro i n hi hn
    obtain ⟨n, rfl⟩ : ∃ z, n = z + 1 := ⟨n - 1, by omega⟩
    have hr := ih (i + 1) n (by omega) (by omega)
    rw [ld] at hr
    have hv := wv_le (m := m) (t := t) (i := i) (d := a)
    have hv2 := wv_le (m := m) (t := t) (i := i) (d := b)
    rw [x_Moment_lead_b5, X.G, if_neg (nI_ge (by omega) (by omega)), x_value X (by omega) ha, bS, x_value X (by omega) hb, bS, x_compare (by omega) (by omega), bS, bS, nI_1]
    exact hr
theorem x_lead (X : Xm h m t L) {a b : Nat} (ha : a < dD m) (hb : b < dD m) : x_Moment_lead (nI a) (nI b) h = some (ld m t a b (dG m)) := by
  have hG := X.ok.G
  exact x_lead_loop X ha hb (dG m) 0 FU (by omega) (by unfold FU; omega)
/-- wins against each of the first n -/
def wn (m : Mnu) (t L a : Nat) : Nat → Bool
  | 0 => true
  | n + 1 => wn m t L a n && (decide (n = a) || !L.testBit n || decide (0 < ld m t a n (dG m)))
theorem x_win_loop (X : Xm h m t L) {a : Nat} (ha : a < dD m) : ∀ (k i n : Nat), i + k = dD m → k < n → wn m t L a i = true → x_Moment_winsAgainstAll_b2 (nI a) h n (nI i) = some (bI (wn m t L a (dD m))) := by
  have hD := X.ok.D
  have hL := X.Lb
  have hF : ∀ j, wn m t L a j = false → ∀ k, wn m t L a (j + k) = false := by
    intro j hj k
    induction k with
    | zero => exact hj
    | succ k ih => show (wn m t L a (j + k) && _) = false; rw [ih, Bool.false_and]
  intro k
  induction k with
  | zero =>
    intro i n hi hn hw
    obtain ⟨n, rfl⟩ : ∃ z, n = z + 1 := ⟨n - 1, by omega⟩
    rw [x_Moment_winsAgainstAll_b2, X.D, if_pos (nI_le (by omega) (by omega)), ← show i = dD m by omega, hw]
    rfl
  | succ k ih =>
    intro i n hi hn hw
    obtain ⟨n, rfl⟩ : ∃ z, n = z + 1 := ⟨n - 1, by omega⟩
    have hr := ih (i + 1) n (by omega) (by omega)
    have hs : wn m t L a (i + 1) = (decide (i = a) || !L.testBit i || decide (0 < ld m t a i (dG m))) := by rw [wn, hw, Bool.true_and]
    rw [x_Moment_winsAgainstAll_b2, X.D, if_neg (nI_ge (by omega) (by omega)), nI_1]
    by_cases hia : i = a
    · rw [if_pos (by rw [hia])]
      exact hr (by rw [hs, decide_eq_true hia]; rfl)
    · rw [if_neg (by rw [nEQ (by omega) (by omega)]; exact hia), X.L, x_isIn (by omega) (by omega), bS]
      cases hb : L.testBit i with
      | false =>
        rw [bI_f, if_pos rfl]
        exact hr (by rw [hs, hb, decide_eq_false hia]; rfl)
      | true =>
        rw [bI_t, if_neg (by decide), x_lead X ha (by omega), bS]
        by_cases hz : 0 < ld m t a i (dG m)
        · rw [if_pos hz]
          exact hr (by rw [hs, hb, decide_eq_false hia, decide_eq_true hz]; rfl)
        · rw [if_neg hz]
          have h1 : wn m t L a (i + 1) = false := by rw [hs, hb, decide_eq_false hia, decide_eq_false hz]; rfl
          have h2 := hF (i + 1) h1 (dD m - (i + 1))
          rw [show i + 1 + (dD m - (i + 1)) = dD m by omega] at h2
          rw [h2]
          rfl
theorem x_winsAgainstAll (X : Xm h m t L) {a : Nat} (ha : a < dD m) : x_Moment_winsAgainstAll (nI a) h = some (bI (wn m t L a (dD m))) := by
  have hD := X.ok.D
  exact x_win_loop X ha (dD m) 0 FU (by omega) (by unfold FU; omega) rfl
/-- the first for which it is so, from i on -/
def fst (p : Nat → Bool) (e : Int32) : Nat → Nat → Int32
  | 0, _ => e
  | k + 1, i => if p i = true then nI i else fst p e k (i + 1)
def chp (m : Mnu) (t L a : Nat) : Bool := L.testBit a && wn m t L a (dD m)
theorem x_winner_loop (X : Xm h m t L) : ∀ (k i n : Nat), i + k = dD m → k < n → x_Moment_winner_b2 h n (nI i) = some (fst (chp m t L) (-4) k i) := by
  have hD := X.ok.D
  have hL := X.Lb
  intro k
  induction k with
  | zero =>
    intro i n hi hn
    obtain ⟨n, rfl⟩ : ∃ z, n = z + 1 := ⟨n - 1, by omega⟩
    rw [x_Moment_winner_b2, X.D, if_pos (nI_le (by omega) (by omega))]
    rfl
  | succ k ih =>
    intro i n hi hn
    obtain ⟨n, rfl⟩ : ∃ z, n = z + 1 := ⟨n - 1, by omega⟩
    have hr := ih (i + 1) n (by omega) (by omega)
    rw [x_Moment_winner_b2, X.D, if_neg (nI_ge (by omega) (by omega)), X.L, x_isIn (by omega) (by omega), bS, nI_1, fst]
    cases hb : L.testBit i with
    | false =>
      rw [bI_f, if_pos rfl, if_neg (by unfold chp; rw [hb, Bool.false_and]; decide)]
      exact hr
    | true =>
      rw [bI_t, if_neg (by decide), x_winsAgainstAll X (by omega), bS]
      cases hc : wn m t L i (dD m) with
      | false =>
        rw [bI_f, if_pos rfl, if_neg (by unfold chp; rw [hb, hc]; decide)]
        exact hr
      | true => rw [bI_t, if_neg (by decide), if_pos (by unfold chp; rw [hb, hc]; rfl)]
theorem x_winner (X : Xm h m t L) : x_Moment_winner h = some (fst (chp m t L) (-4) (dD m) 0) := by
  have hD := X.ok.D
  exact x_winner_loop X (dD m) 0 FU (by omega) (by unfold FU; omega)
end XM
