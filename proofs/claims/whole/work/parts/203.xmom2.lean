/-! the class's moment, the rest -/
theorem fmx_skip {p : Nat → Bool} {f : Nat → Nat} {n : Nat} : ∀ k, (∀ c, n ≤ c → c < n + k → p c = false) → fmx p f (n + k) = fmx p f n
  | 0, _ => rfl
  | k + 1, h => by
    show (if p (n + k) = true then _ else fmx p f (n + k)) = _
    rw [h (n + k) (by omega) (by omega), if_neg (by decide)]
    exact fmx_skip k (fun c h1 h2 => h c h1 (by omega))
/-- of what is left there is some dish, and all are dishes -/
def Lok (m : Mnu) (L : Nat) : Prop := L < 64 ∧ 0 < L ∧ ∀ d, L.testBit d = true → d < dD m
theorem tb_ex : ∀ L, L < 64 → 0 < L → ∃ d, d < 6 ∧ L.testBit d = true := by decide +kernel
theorem Lok_ex {m : Mnu} {L : Nat} (o : Lok m L) : ∃ d, d < dD m ∧ L.testBit d = true := by
  obtain ⟨d, -, h⟩ := tb_ex L o.1 o.2.1
  exact ⟨d, o.2.2 d h, h⟩
theorem Lok_ls {m : Mnu} {t L i : Nat} (o : Lok m L) : ∃ w, lst m t L i = some w ∧ w < dD m ∧ L.testBit w = true := by
  obtain ⟨d, h1, h2⟩ := Lok_ex o
  obtain ⟨w, hw⟩ := lmn_some (p := fun d => L.testBit d) (f := fun d => wv m t i d) h1 h2
  exact ⟨w, hw, (lmn_lt hw).1, (lmn_lt hw).2⟩
theorem Lok_cl {m : Mnu} {L w : Nat} (om : Mok m) (o : Lok m L) (hw : w < dD m) (hb : L.testBit w = true) (h2 : 2 ≤ pc L) : Lok m (clr L w) := by
  have hD := om.D
  have hc := pc_clr L o.1 w (by omega) hb
  refine ⟨clr_lt L o.1 w (by omega), ?_, fun d hd => ?_⟩
  · rcases Nat.eq_zero_or_pos (clr L w) with z | z
    · rw [z] at hc
      have : pc 0 = 0 := by decide
      omega
    · exact z
  · by_cases h6 : d < 6
    · rw [clr_bit L o.1 w (by omega) d h6] at hd
      exact o.2.2 d (by revert hd; cases L.testBit d <;> simp)
    · have hl := clr_lt L o.1 w (by omega)
      have : (clr L w).testBit d = false := Nat.testBit_lt_two_pow (Nat.lt_of_lt_of_le hl (Nat.pow_le_pow_right (n := 2) (by decide) (show 6 ≤ d by omega)))
      rw [this] at hd
      cases hd
/-- the dish that is worth less to one than each other one -/
def wal (m : Mnu) (t L i : Nat) : Option Nat := match lst m t L i with
  | none => none
  | some w => match lst m t (clr L w) i with
    | none => none
    | some w2 => if wv m t i w < wv m t i w2 then some w else none
def wbt (o : Option Nat) : Int32 := match o with
  | none => 0
  | some w => nI (2 ^ w)
def clo (B : Nat) (o : Option Nat) : Nat := match o with
  | none => B
  | some w => clr B w
def mid (m : Mnu) (t L : Nat) : Nat → Nat
  | 0 => L
  | n + 1 => clo (mid m t L n) (wal m t L n)
section XM2
variable {h : Hp} {m : Mnu} {t L : Nat}
theorem x_worstAlone (X : Xm h m t L) (o : Lok m L) (h2 : 2 ≤ pc L) {i : Nat} (hi : i < dG m) : x_Moment_worstAlone (nI i) h = some (wbt (wal m t L i)) ∧ ∀ w, wal m t L i = some w → w < dD m := by
  have hD := X.ok.D
  obtain ⟨w, e1, e2, e3⟩ := Lok_ls o (t := t) (i := i)
  obtain ⟨w2, f1, f2, f3⟩ := Lok_ls (Lok_cl X.ok o e2 e3 h2) (t := t) (i := i)
  have hv := wv_le (m := m) (t := t) (i := i) (d := w)
  have hv2 := wv_le (m := m) (t := t) (i := i) (d := w2)
  unfold x_Moment_worstAlone wal
  rw [X.L, x_leastLiked X hi o.1, bS, e1, ob_s, clr_I L o.1 w (by omega), x_leastLiked X hi (clr_lt L o.1 w (by omega)), bS, f1, ob_s, x_value X hi e2, bS, x_value X hi f2, bS]
  dsimp only
  rw [f1]
  dsimp only
  by_cases hz : wv m t i w < wv m t i w2
  · rw [if_neg (by rw [nLE (by omega) (by omega)]; omega), if_pos hz, pow_n (by omega)]
    exact ⟨rfl, fun z e => by cases e; exact e2⟩
  · rw [if_pos (by rw [nLE (by omega) (by omega)]; omega), if_neg hz]
    exact ⟨rfl, fun z e => by cases e⟩
theorem clo_lt {B : Nat} (hB : B < 64) {o : Option Nat} (ho : ∀ w, o = some w → w < 6) : clo B o < 64 := by
  cases o with
  | none => exact hB
  | some w => exact clr_lt B hB w (ho w rfl)
theorem clr_I2 : ∀ L, L < 64 → ∀ d, d < 6 → nI L &&& (nI (2 ^ d) ^^^ (-1)) = nI (clr L d) := by decide +kernel
theorem keep_I : ∀ L, L < 64 → nI L &&& ((0 : Int32) ^^^ (-1)) = nI L := by decide +kernel
theorem clo_I {B : Nat} (hB : B < 64) {o : Option Nat} (ho : ∀ w, o = some w → w < 6) : nI B &&& ((wbt o) ^^^ (-1)) = nI (clo B o) := by
  cases o with
  | none => exact keep_I B hB
  | some w => exact clr_I2 B hB w (ho w rfl)
theorem x_mid_loop (X : Xm h m t L) (o : Lok m L) (h2 : 2 ≤ pc L) : ∀ (k i n : Nat), i + k = dG m → k < n → mid m t L i < 64 → x_Moment_nobodysWorst_b23 h n (nI (mid m t L i)) (nI i) = some (nI (mid m t L (dG m))) := by
  have hG := X.ok.G
  have hD := X.ok.D
  intro k
  induction k with
  | zero =>
    intro i n hi hn hB
    obtain ⟨n, rfl⟩ : ∃ z, n = z + 1 := ⟨n - 1, by omega⟩
    rw [x_Moment_nobodysWorst_b23, X.G, if_pos (nI_le (by omega) (by omega)), show i = dG m by omega]
  | succ k ih =>
    intro i n hi hn hB
    obtain ⟨n, rfl⟩ : ∃ z, n = z + 1 := ⟨n - 1, by omega⟩
    obtain ⟨g1, g2⟩ := x_worstAlone X o h2 (i := i) (by omega)
    have g3 : ∀ w, wal m t L i = some w → w < 6 := fun w e => by have := g2 w e; omega
    have hr := ih (i + 1) n (by omega) (by omega) (clo_lt hB g3)
    rw [x_Moment_nobodysWorst_b23, X.G, if_neg (nI_ge (by omega) (by omega)), g1, bS, bS, clo_I hB g3, nI_1]
    exact hr
def mdl (m : Mnu) (t L : Nat) : Nat := if 2 ≤ pc L then mid m t L (dG m) else L
theorem x_nobodysWorst (X : Xm h m t L) (o : Lok m L) : x_Moment_nobodysWorst h = some (nI (mdl m t L)) := by
  have hG := X.ok.G
  have hp := pc_le L o.1
  unfold x_Moment_nobodysWorst mdl
  rw [X.L, pc_x o.1, bS]
  by_cases h2 : 2 ≤ pc L
  · rw [if_pos (by rw [l2, nLE (by omega) (by omega)]; exact h2), if_pos h2, bS]
    exact x_mid_loop X o h2 (dG m) 0 FU (by omega) (by unfold FU; omega) o.1
  · rw [if_neg (by rw [l2, nLE (by omega) (by omega)]; exact h2), if_neg h2]
/-- what is left when they strike by turns -/
def stk (m : Mnu) (t first : Nat) : Nat → Nat → Nat → Nat
  | 0, _, r => r
  | k + 1, u, r => if 1 < pc r then (match lst m t r ((first + u) % dG m) with | some w => stk m t first k (u + 1) (clr r w) | none => r) else r
theorem stk_ok {m : Mnu} (om : Mok m) {t first : Nat} : ∀ (k u r : Nat), Lok m r → Lok m (stk m t first k u r)
  | 0, _, _, o => o
  | k + 1, u, r, o => by
    rw [stk]
    by_cases h1 : 1 < pc r
    · rw [if_pos h1]
      obtain ⟨w, e1, e2, e3⟩ := Lok_ls o (t := t) (i := (first + u) % dG m)
      rw [e1]
      exact stk_ok om k (u + 1) _ (Lok_cl om o e2 e3 h1)
    · rw [if_neg h1]; exact o
theorem x_str_loop (X : Xm h m t L) {first : Nat} (hf : first < dG m) : ∀ (k u n r : Nat), u + k = 6 → k < n → Lok m r → x_Moment_lastStanding_b7 (nI first) h n (nI r) (nI u) = some (ob (-1) (lst m t (stk m t first k u r) first)) := by
  have hG := X.ok.G
  have hD := X.ok.D
  intro k
  induction k with
  | zero =>
    intro u n r hu hn o
    obtain ⟨n, rfl⟩ : ∃ z, n = z + 1 := ⟨n - 1, by omega⟩
    rw [x_Moment_lastStanding_b7, if_pos (by rw [l6]; exact nI_le (by omega) (by omega)), x_leastLiked X hf o.1, bS]
    rfl
  | succ k ih =>
    intro u n r hu hn o
    obtain ⟨n, rfl⟩ : ∃ z, n = z + 1 := ⟨n - 1, by omega⟩
    have hp := pc_le r o.1
    rw [x_Moment_lastStanding_b7, if_neg (by rw [l6]; exact nI_ge (by omega) (by omega)), pc_x o.1, bS, stk]
    by_cases h1 : 1 < pc r
    · rw [if_neg (by rw [l1, nLE (by omega) (by omega)]; omega), X.G, if_neg (by rw [l0, nLE (by omega) (by omega)]; omega), if_pos (by rw [l0, nEQ (by omega) (by omega)]; omega), if_pos h1, nI_add, nRem (by omega) (by omega) (by omega)]
      have hm : (first + u) % dG m < dG m := Nat.mod_lt _ (by omega)
      obtain ⟨w, e1, e2, e3⟩ := Lok_ls o (t := t) (i := (first + u) % dG m)
      rw [x_Moment_lastStanding_b46, x_leastLiked X hm o.1, bS, e1, ob_s, bS, clr_I r o.1 w (by omega), nI_1]
      exact ih (u + 1) n _ (by omega) (by omega) (Lok_cl X.ok o e2 e3 h1)
    · rw [if_pos (by rw [l1, nLE (by omega) (by omega)]; omega), if_neg h1, x_leastLiked X hf o.1, bS]
theorem x_lastStanding (X : Xm h m t L) (o : Lok m L) {first : Nat} (hf : first < dG m) : x_Moment_lastStanding (nI first) h = some (ob (-1) (lst m t (stk m t first 6 0 L) first)) := by
  unfold x_Moment_lastStanding
  rw [X.L, bS]
  exact x_str_loop X hf 6 0 FU L (by omega) (by unfold FU; omega) o
/-- two dishes -/
def mx2 (x y : Nat) : Nat := if x < y then y else x
def pw (m : Mnu) (t a b : Nat) : Nat := sm (fun i => mx2 (wv m t i a) (wv m t i b)) (dG m)
theorem mx2_le {m : Mnu} {t i a b : Nat} : mx2 (wv m t i a) (wv m t i b) ≤ 9 := by unfold mx2; split <;> exact wv_le
theorem pw_le {m : Mnu} {t a b : Nat} (o : Mok m) : pw m t a b ≤ 81 := by
  have := sm_le (f := fun i => mx2 (wv m t i a) (wv m t i b)) (c := 9) (dG m) (fun _ _ => mx2_le)
  have := o.G
  unfold pw
  omega
theorem x_pw_loop (X : Xm h m t L) {a b : Nat} (ha : a < dD m) (hb : b < dD m) : ∀ (k i n : Nat), i + k = dG m → k < n → x_Moment_pairWorth_b5 (nI a) (nI b) h n (nI (sm (fun i => mx2 (wv m t i a) (wv m t i b)) i)) (nI i) = some (nI (pw m t a b)) := by
  have hG := X.ok.G
  intro k
  induction k with
  | zero =>
    intro i n hi hn
    obtain ⟨n, rfl⟩ : ∃ z, n = z + 1 := ⟨n - 1, by omega⟩
    rw [x_Moment_pairWorth_b5, X.G, if_pos (nI_le (by omega) (by omega)), show i = dG m by omega]
    rfl
  | succ k ih =>
    intro i n hi hn
    obtain ⟨n, rfl⟩ : ∃ z, n = z + 1 := ⟨n - 1, by omega⟩
    have hr := ih (i + 1) n (by omega) (by omega)
    rw [sm] at hr
    have hv := wv_le (m := m) (t := t) (i := i) (d := a)
    have hv2 := wv_le (m := m) (t := t) (i := i) (d := b)
    have he : (if nI (wv m t i a) < nI (wv m t i b) then nI (wv m t i b) else nI (wv m t i a)) = nI (mx2 (wv m t i a) (wv m t i b)) := by
      unfold mx2
      by_cases hz : wv m t i a < wv m t i b
      · rw [if_pos (by rw [nLT (by omega) (by omega)]; exact hz), if_pos hz]
      · rw [if_neg (by rw [nLT (by omega) (by omega)]; exact hz), if_neg hz]
    rw [x_Moment_pairWorth_b5, X.G, if_neg (nI_ge (by omega) (by omega)), x_value X (by omega) ha, bS, x_value X (by omega) hb, bS, bS, he, nI_add, nI_1]
    exact hr
theorem x_pairWorth (X : Xm h m t L) {a b : Nat} (ha : a < dD m) (hb : b < dD m) : x_Moment_pairWorth (nI a) (nI b) h = some (nI (pw m t a b)) := by
  have hG := X.ok.G
  exact x_pw_loop X ha hb (dG m) 0 FU (by omega) (by unfold FU; omega)
/-- a pair is its code, 8 times the one and the other -/
def pp (L c : Nat) : Bool := decide (c / 8 < c % 8) && L.testBit (c / 8) && L.testBit (c % 8)
def pf (m : Mnu) (t c : Nat) : Nat := pw m t (c / 8) (c % 8)
def bpr (m : Mnu) (t L : Nat) : Option Nat := fmx (pp L) (pf m t) 64
theorem x_bp_in (X : Xm h m t L) {a : Nat} (ha : a < dD m) {kf : Int32 → Int32 → Int32 → Option Int32} : ∀ (k b n : Nat), b + k = dD m → k < n → x_Moment_bestPair_b22 kf h n (ob (-1) (fmx (pp L) (pf m t) (8 * a + b))) (ov (-1) (pf m t) (fmx (pp L) (pf m t) (8 * a + b))) (nI a) (nI b) = kf (ob (-1) (fmx (pp L) (pf m t) (8 * a + dD m))) (ov (-1) (pf m t) (fmx (pp L) (pf m t) (8 * a + dD m))) (nI (a + 1)) ∨ b ≤ a := by
  have hD := X.ok.D
  have hL := X.Lb
  intro k
  induction k with
  | zero =>
    intro b n hb hn
    obtain ⟨n, rfl⟩ : ∃ z, n = z + 1 := ⟨n - 1, by omega⟩
    left
    rw [x_Moment_bestPair_b22, X.D, if_pos (nI_le (by omega) (by omega)), show b = dD m by omega, nI_1]
  | succ k ih =>
    intro b n hb hn
    obtain ⟨n, rfl⟩ : ∃ z, n = z + 1 := ⟨n - 1, by omega⟩
    by_cases hba : b ≤ a
    · exact Or.inr hba
    left
    have hr := (ih (b + 1) n (by omega) (by omega)).resolve_right (by omega)
    rw [show 8 * a + (b + 1) = (8 * a + b) + 1 by omega, fmx] at hr
    have h1 : (8 * a + b) / 8 = a := by omega
    have h2 : (8 * a + b) % 8 = b := by omega
    have hpp : pp L (8 * a + b) = (L.testBit a && L.testBit b) := by unfold pp; rw [h1, h2, decide_eq_true (show a < b by omega), Bool.true_and]
    have hpf : pf m t (8 * a + b) = pw m t a b := by unfold pf; rw [h1, h2]
    rw [x_Moment_bestPair_b22, X.D, if_neg (nI_ge (by omega) (by omega)), X.L, x_isIn (by omega) (by omega), bS, nI_1]
    cases hb1 : L.testBit a with
    | false =>
      rw [hpp, hb1, Bool.false_and, if_neg (by decide)] at hr
      rw [bI_f, if_pos rfl]
      exact hr
    | true =>
      rw [bI_t, if_neg (by decide), x_isIn (by omega) (by omega), bS]
      cases hb2 : L.testBit b with
      | false =>
        rw [hpp, hb1, hb2, Bool.true_and, if_neg (by decide)] at hr
        rw [bI_f, if_pos rfl]
        exact hr
      | true =>
        rw [hpp, hb1, hb2, Bool.true_and, if_pos rfl] at hr
        rw [bI_t, if_neg (by decide), x_pairWorth X ha (by omega), bS]
        have hv := pw_le (t := t) (a := a) (b := b) X.ok
        cases hf : fmx (pp L) (pf m t) (8 * a + b) with
        | none =>
          rw [hf] at hr
          rw [show ov (-1) (pf m t) none = -1 from rfl, if_pos (m1_ltT (a := pw m t a b) (by omega)), bS, bS, l8, nMul, nI_add]
          rw [show ov (-1) (pf m t) (some (8 * a + b)) = nI (pw m t a b) by rw [← hpf]; rfl] at hr
          exact hr
        | some c =>
          rw [hf] at hr
          have hv2 := pw_le (t := t) (a := c / 8) (b := c % 8) X.ok
          have hpc : pf m t c = pw m t (c / 8) (c % 8) := rfl
          dsimp only at hr
          rw [hpf, hpc] at hr
          show (if nI (pf m t c) < _ then _ else _) = _
          rw [hpc]
          by_cases hz : pw m t (c / 8) (c % 8) < pw m t a b
          · rw [if_pos (by rw [nLT (by omega) (by omega)]; omega), bS, bS, l8, nMul, nI_add]
            rw [if_pos hz] at hr
            rw [show ov (-1) (pf m t) (some (8 * a + b)) = nI (pw m t a b) by rw [← hpf]; rfl] at hr
            exact hr
          · rw [if_neg (by rw [nLT (by omega) (by omega)]; omega)]
            rw [if_neg hz] at hr
            rw [show ov (-1) (pf m t) (some c) = nI (pw m t (c / 8) (c % 8)) from rfl] at hr
            exact hr
theorem pp_no {m : Mnu} {L : Nat} (hD : dD m ≤ 6) (hl : ∀ d, L.testBit d = true → d < dD m) (c : Nat) (h : c % 8 ≤ c / 8 ∨ dD m ≤ c / 8 ∨ dD m ≤ c % 8) : pp L c = false := by
  unfold pp
  rcases h with h | h | h
  · rw [decide_eq_false (by omega)]; rfl
  · cases hb : L.testBit (c / 8) with
    | false => rw [Bool.and_false, Bool.false_and]
    | true => have := hl _ hb; omega
  · cases hb : L.testBit (c % 8) with
    | false => rw [Bool.and_false]
    | true => have := hl _ hb; omega
theorem x_bp_loop (X : Xm h m t L) (hl : ∀ d, L.testBit d = true → d < dD m) : ∀ (k a n : Nat), a + k = dD m → k < n → x_Moment_bestPair_b6 h n (ob (-1) (fmx (pp L) (pf m t) (8 * a))) (ov (-1) (pf m t) (fmx (pp L) (pf m t) (8 * a))) (nI a) = some (ob (-1) (bpr m t L)) := by
  have hD := X.ok.D
  intro k
  induction k with
  | zero =>
    intro a n ha hn
    obtain ⟨n, rfl⟩ : ∃ z, n = z + 1 := ⟨n - 1, by omega⟩
    rw [x_Moment_bestPair_b6, X.D, if_pos (nI_le (by omega) (by omega)), bpr]
    rw [show 64 = 8 * a + (64 - 8 * a) by omega, fmx_skip (64 - 8 * a) (fun c h1 h2 => pp_no hD.2 hl c (Or.inr (Or.inl (by omega))))]
  | succ k ih =>
    intro a n ha hn
    obtain ⟨n, rfl⟩ : ∃ z, n = z + 1 := ⟨n - 1, by omega⟩
    have hr := ih (a + 1) n (by omega) (by omega)
    rw [x_Moment_bestPair_b6, X.D, if_neg (nI_ge (by omega) (by omega)), bS, nI_1]
    have e1 : fmx (pp L) (pf m t) (8 * a + (a + 1)) = fmx (pp L) (pf m t) (8 * a) := fmx_skip (a + 1) (fun c h1 h2 => pp_no hD.2 hl c (Or.inl (by omega)))
    have e2 : fmx (pp L) (pf m t) (8 * (a + 1)) = fmx (pp L) (pf m t) (8 * a + dD m) := by
      rw [show 8 * (a + 1) = 8 * a + dD m + (8 - dD m) by omega]
      exact fmx_skip (8 - dD m) (fun c h1 h2 => pp_no hD.2 hl c (Or.inr (Or.inr (by omega))))
    have hi := (x_bp_in X (a := a) (by omega) (kf := x_Moment_bestPair_b6 h n) (dD m - (a + 1)) (a + 1) FU (by omega) (by unfold FU; omega)).resolve_right (by omega)
    rw [e1] at hi
    rw [hi, ← e2]
    exact hr
theorem x_bestPair (X : Xm h m t L) (hl : ∀ d, L.testBit d = true → d < dD m) : x_Moment_bestPair h = some (ob (-1) (bpr m t L)) := by
  have hD := X.ok.D
  exact x_bp_loop X hl (dD m) 0 FU (by omega) (by unfold FU; omega)
/-- how many are worth something to all -/
def wel (m : Mnu) (t L d : Nat) : Bool := L.testBit d && decide (0 < lw1 m t d)
theorem x_wel_loop (X : Xm h m t L) : ∀ (k i n : Nat), i + k = dD m → k < n → x_Moment_welcomeDishes_b4 h n (nI (cnt (wel m t L) i)) (nI i) = some (nI (cnt (wel m t L) (dD m))) := by
  have hD := X.ok.D
  have hL := X.Lb
  intro k
  induction k with
  | zero =>
    intro i n hi hn
    obtain ⟨n, rfl⟩ : ∃ z, n = z + 1 := ⟨n - 1, by omega⟩
    rw [x_Moment_welcomeDishes_b4, X.D, if_pos (nI_le (by omega) (by omega)), show i = dD m by omega]
  | succ k ih =>
    intro i n hi hn
    obtain ⟨n, rfl⟩ : ∃ z, n = z + 1 := ⟨n - 1, by omega⟩
    have hr := ih (i + 1) n (by omega) (by omega)
    have hv := lw1_le (m := m) (t := t) (d := i)
    rw [cnt] at hr
    rw [x_Moment_welcomeDishes_b4, X.D, if_neg (nI_ge (by omega) (by omega)), X.L, x_isIn (by omega) (by omega), bS, nI_1]
    cases hb : L.testBit i with
    | false =>
      rw [if_neg (by unfold wel; rw [hb, Bool.false_and]; decide)] at hr
      rw [bI_f, if_pos rfl]
      exact hr
    | true =>
      rw [bI_t, if_neg (by decide), x_leastWorth X (by omega), bS]
      by_cases hz : 0 < lw1 m t i
      · rw [if_pos (by unfold wel; rw [hb, decide_eq_true hz]; rfl)] at hr
        rw [if_neg (by rw [l0, nLE (by omega) (by omega)]; omega), nI_1]
        exact hr
      · rw [if_neg (by unfold wel; rw [hb, decide_eq_false hz]; decide)] at hr
        rw [if_pos (by rw [l0, nLE (by omega) (by omega)]; omega)]
        exact hr
theorem x_welcomeDishes (X : Xm h m t L) : x_Moment_welcomeDishes h = some (nI (cnt (wel m t L) (dD m))) := by
  have hD := X.ok.D
  exact x_wel_loop X (dD m) 0 FU (by omega) (by unfold FU; omega)
end XM2
