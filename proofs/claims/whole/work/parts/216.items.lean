/-! numbers in a text -/
def sepc (N x2 : Nat) : Nat := if N ≤ x2 + 1 then 59 else 44
theorem m_b73 {z : Hp} {n k : Nat} {T : Nat → Nat} (R : Rdm z n T k) {kf : Int32 → Hp → Option (Int32 × Hp)} {N x2 j v : Nat} (hN : N ≤ 2) (hx : x2 < N) (hj : j ≤ 3) : m_Mo_numbers_b73 kf (nI N) (nI x2) (nI j) (nI v) z = if (1 ≤ j ∧ j ≤ 2) ∧ k < n ∧ T k = sepc N x2 then kf (nI (x2 + 1)) (wr (wr z 8 x2 (nI v)) 0 12 (nI (k + 1))) else some (0, z) := by
  have hk := R.2.2.2.2
  have hn := R.1
  unfold m_Mo_numbers_b73
  by_cases h : 1 ≤ j ∧ j ≤ 2
  · rw [show m_Mo_in (nI j).toInt64 (1 : Int64) (2 : Int64) z = some 1 from m_inY (lo := 1) (hi := 2) h.1 h.2 (by omega) z, bS, if_neg i1, R.2.2.2.1, m_letter R k (by omega), bS, l1, nSub (by omega)]
    have hl := ltr_lt R k
    have key : ∀ c, 0 < c → c < 100 → m_Mo_numbers_b107 kf (nI N) (nI x2) (nI v) (nI (ltr n T k)) (nI c) z = if k < n ∧ T k = c then kf (nI (x2 + 1)) (wr (wr z 8 x2 (nI v)) 0 12 (nI (k + 1))) else some (0, z) := by
      intro c h0 hc
      unfold m_Mo_numbers_b107
      by_cases e : k < n ∧ T k = c
      · rw [if_pos (by rw [(ltr_c h0).mpr e]), if_pos (inR_y (show x2 < 2 by omega) (by omega)), nI_cl (by omega), bS, bS, wr_ne _ _ (a := 0) (b := 12) (by omega), R.2.2.2.1, nI_1, nI_1, if_pos e]
      · rw [if_neg (by rw [nEQ (by omega) (by omega)]; exact fun q => e ((ltr_c h0).mp q)), if_neg e]
    unfold sepc
    by_cases hs : N ≤ x2 + 1
    · rw [if_pos (nI_le (by omega) (by omega)), if_pos hs, l59, key 59 (by omega) (by omega)]
      by_cases e : k < n ∧ T k = 59
      · rw [if_pos e, if_pos ⟨h, e⟩]
      · rw [if_neg e, if_neg (fun q => e q.2)]
    · rw [if_neg (nI_ge (by omega) (by omega)), if_neg hs, l44, key 44 (by omega) (by omega)]
      by_cases e : k < n ∧ T k = 44
      · rw [if_pos e, if_pos ⟨h, e⟩]
      · rw [if_neg e, if_neg (fun q => e q.2)]
  · rw [show m_Mo_in (nI j).toInt64 (1 : Int64) (2 : Int64) z = some 0 from m_inN (lo := 1) (hi := 2) (by omega) (by omega) (by
      rcases Nat.lt_or_ge j 1 with q | q
      · exact Or.inl ((nI_ltI (by omega) (by omega)).mpr q)
      · exact Or.inr ⟨fun z => by rw [nLT (by omega) (by omega)] at z; omega, nI_ge (by omega) (by omega)⟩) z, bS, if_pos i0, if_neg (fun q => h q.1)]
theorem m_b12s {z : Hp} {n k : Nat} {T : Nat → Nat} (R : Rdm z n T k) {kf : Int32 → Hp → Option (Int32 × Hp)} {N x2 j v : Nat} (hj : j ≤ 3) (f : Nat) : m_Mo_numbers_b12 kf (nI N) (f + 1) (nI x2) (nI j) (nI v) z = if dgt n T k = true ∧ j < 3 then m_Mo_numbers_b12 kf (nI N) f (nI x2) (nI (j + 1)) (nI (10 * v + (T k - 48))) (wr z 0 12 (nI (k + 1))) else m_Mo_numbers_b73 kf (nI N) (nI x2) (nI j) (nI v) z := by
  have hk := R.2.2.2.2
  have hn := R.1
  rw [m_Mo_numbers_b12, R.2.2.2.1, m_letter R k (by omega), bS, show m_Mo_in (nI (ltr n T k)).toInt64 (48 : Int64) (57 : Int64) z = _ from m_dg z R k, bS]
  cases hd : dgt n T k with
  | false => rw [bI_f, if_pos i0, if_neg (fun q => absurd q.1 (by decide))]
  | true =>
    have h1 := dgt_y.mp hd
    rw [bI_t, if_neg i1]
    by_cases hj3 : j < 3
    · rw [if_neg (by rw [l3]; exact nI_ge (by omega) (by omega)), if_pos ⟨rfl, hj3⟩, bS, bS, bS, l10, nMul, nI_add, show (48 : Int32) = nI 48 from rfl, show ltr n T k = T k from by unfold ltr; rw [if_pos h1.1], nSub (by omega), nI_1, nI_1, show 10 * v + T k - 48 = 10 * v + (T k - 48) by omega]
    · rw [if_pos (by rw [l3]; exact nI_le (by omega) (by omega)), if_neg (fun q => hj3 q.2)]
theorem m_num1 {y : Hp} {n p : Nat} {T : Nat → Nat} (R : Rdm y n T p) {kf : Int32 → Hp → Option (Int32 × Hp)} {N x2 : Nat} (hN : N ≤ 2) (hx : x2 < N) :
    (spx n T (sepc N x2) p = none ∧ ∃ y', m_Mo_numbers_b12 kf (nI N) FU (nI x2) 0 0 y = some (0, y') ∧ FM y y') ∨
    ∃ v p' y', spx n T (sepc N x2) p = some (v, p') ∧ m_Mo_numbers_b12 kf (nI N) FU (nI x2) 0 0 y = kf (nI (x2 + 1)) y' ∧ FM y y' ∧ y' 0 12 = nI p' ∧ y' 8 x2 = nI v ∧ (∀ j, j ≠ x2 → y' 8 j = y 8 j) ∧ (∀ j, y' 3 j = y 3 j) := by
  have hc : sepc N x2 = 59 ∨ sepc N x2 = 44 := by unfold sepc; split <;> simp
  have hn := R.1
  have e0 : m_Mo_numbers_b12 kf (nI N) FU (nI x2) 0 0 y = m_Mo_numbers_b12 kf (nI N) (396 + 1 + 1 + 1 + 1) (nI x2) (nI 0) (nI 0) y := rfl
  rw [e0, m_b12s R (by omega)]
  unfold spx num
  by_cases h1 : dgt n T p = true
  · have a1 := dgt_y.mp h1
    have R1 : Rdm (wr y 0 12 (nI (p + 1))) n T (p + 1) := R.to (FM.rf.wr _ (Or.inr (Or.inr ⟨rfl, rfl⟩))) (wr_self _ _ _ _) (by omega)
    rw [if_pos (show dgt n T p = true ∧ 0 < 3 from ⟨h1, by omega⟩), if_pos h1, m_b12s R1 (by omega)]
    by_cases h2 : dgt n T (p + 1) = true
    · have a2 := dgt_y.mp h2
      have R2 : Rdm (wr (wr y 0 12 (nI (p + 1))) 0 12 (nI (p + 1 + 1))) n T (p + 1 + 1) := R1.to (FM.rf.wr _ (Or.inr (Or.inr ⟨rfl, rfl⟩))) (wr_self _ _ _ _) (by omega)
      rw [if_pos (show dgt n T (p + 1) = true ∧ 0 + 1 < 3 from ⟨h2, by omega⟩), if_pos h2, m_b12s R2 (by omega), bS]
      by_cases h3 : dgt n T (p + 1 + 1) = true
      · have a3 := dgt_y.mp h3
        have R3 : Rdm (wr (wr (wr y 0 12 (nI (p + 1))) 0 12 (nI (p + 1 + 1))) 0 12 (nI (p + 1 + 1 + 1))) n T (p + 1 + 1 + 1) := R2.to (FM.rf.wr _ (Or.inr (Or.inr ⟨rfl, rfl⟩))) (wr_self _ _ _ _) (by omega)
        rw [if_pos (show dgt n T (p + 1 + 1) = true ∧ 0 + 1 + 1 < 3 from ⟨h3, by omega⟩), m_b12s R3 (by omega), if_neg (show ¬ (dgt n T (p + 1 + 1 + 1) = true ∧ 0 + 1 + 1 + 1 < 3) from fun q => by omega), m_b73 R3 hN hx (by omega), if_neg (show ¬ ((1 ≤ 0 + 1 + 1 + 1 ∧ 0 + 1 + 1 + 1 ≤ 2) ∧ p + 1 + 1 + 1 < n ∧ T (p + 1 + 1 + 1) = sepc N x2) from fun q => by omega)]
        refine Or.inl ⟨if_neg (fun q => ?_), _, rfl, ((FM.rf.wr _ (Or.inr (Or.inr ⟨rfl, rfl⟩))).wr _ (Or.inr (Or.inr ⟨rfl, rfl⟩))).wr _ (Or.inr (Or.inr ⟨rfl, rfl⟩))⟩
        have q2 : T (p + 2) = sepc N x2 := q.2
        have a32 : 48 ≤ T (p + 2) ∧ T (p + 2) ≤ 57 := a3.2
        omega
      · rw [if_neg (show ¬ (dgt n T (p + 1 + 1) = true ∧ 0 + 1 + 1 < 3) from fun q => h3 q.1), m_b73 R2 hN hx (by omega)]
        by_cases hs : p + 2 < n ∧ T (p + 2) = sepc N x2
        · rw [if_pos (show (1 ≤ 0 + 1 + 1 ∧ 0 + 1 + 1 ≤ 2) ∧ p + 1 + 1 < n ∧ T (p + 1 + 1) = sepc N x2 from ⟨by omega, hs⟩)]
          refine Or.inr ⟨_, _, _, if_pos hs, rfl, ?_, wr_self _ _ _ _, ?_, ?_, ?_⟩
          · exact (((FM.rf.wr _ (Or.inr (Or.inr ⟨rfl, rfl⟩))).wr _ (Or.inr (Or.inr ⟨rfl, rfl⟩))).wr _ (Or.inr (Or.inl rfl))).wr _ (Or.inr (Or.inr ⟨rfl, rfl⟩))
          · rw [wr_ne _ _ (by omega), wr_self, Nat.mul_zero, Nat.zero_add]
          · intro j hj; rw [wr_ne _ _ (by omega), wr_ne _ _ (by omega), wr_ne _ _ (by omega), wr_ne _ _ (by omega)]
          · intro j; rw [wr_ne _ _ (by omega), wr_ne _ _ (by omega), wr_ne _ _ (by omega), wr_ne _ _ (by omega)]
        · rw [if_neg (show ¬ ((1 ≤ 0 + 1 + 1 ∧ 0 + 1 + 1 ≤ 2) ∧ p + 1 + 1 < n ∧ T (p + 1 + 1) = sepc N x2) from fun q => hs q.2)]
          exact Or.inl ⟨if_neg hs, _, rfl, (FM.rf.wr _ (Or.inr (Or.inr ⟨rfl, rfl⟩))).wr _ (Or.inr (Or.inr ⟨rfl, rfl⟩))⟩
    · rw [if_neg (show ¬ (dgt n T (p + 1) = true ∧ 0 + 1 < 3) from fun q => h2 q.1), if_neg h2, m_b73 R1 hN hx (by omega), bS]
      by_cases hs : p + 1 < n ∧ T (p + 1) = sepc N x2
      · rw [if_pos (show (1 ≤ 0 + 1 ∧ 0 + 1 ≤ 2) ∧ p + 1 < n ∧ T (p + 1) = sepc N x2 from ⟨by omega, hs⟩)]
        refine Or.inr ⟨_, _, _, if_pos hs, rfl, ?_, wr_self _ _ _ _, ?_, ?_, ?_⟩
        · exact ((FM.rf.wr _ (Or.inr (Or.inr ⟨rfl, rfl⟩))).wr _ (Or.inr (Or.inl rfl))).wr _ (Or.inr (Or.inr ⟨rfl, rfl⟩))
        · rw [wr_ne _ _ (by omega), wr_self, Nat.mul_zero, Nat.zero_add]
        · intro j hj; rw [wr_ne _ _ (by omega), wr_ne _ _ (by omega), wr_ne _ _ (by omega)]
        · intro j; rw [wr_ne _ _ (by omega), wr_ne _ _ (by omega), wr_ne _ _ (by omega)]
      · rw [if_neg (show ¬ ((1 ≤ 0 + 1 ∧ 0 + 1 ≤ 2) ∧ p + 1 < n ∧ T (p + 1) = sepc N x2) from fun q => hs q.2)]
        exact Or.inl ⟨if_neg hs, _, rfl, FM.rf.wr _ (Or.inr (Or.inr ⟨rfl, rfl⟩))⟩
  · rw [if_neg (show ¬ (dgt n T p = true ∧ 0 < 3) from fun q => h1 q.1), if_neg h1, m_b73 R hN hx (by omega), if_neg (show ¬ ((1 ≤ 0 ∧ 0 ≤ 2) ∧ p < n ∧ T p = sepc N x2) from fun q => by omega)]
    exact Or.inl ⟨rfl, _, rfl, FM.rf⟩
def one (n : Nat) (T : Nat → Nat) (lo hi p : Nat) : Option (Nat × Nat) := (spx n T 59 p).bind fun z => if lo ≤ z.1 ∧ z.1 ≤ hi then some z else none
def xOne (f : Nat) (lo hi : Int32) (q1_ : Nat) (h : Hp) : Option (Int32 × Hp) := (x_Reader_number h).bind fun z2 =>
  (some (wr z2.2 q1_ f z2.1)).bind fun h_5 =>
  (x_Nm_isOutside (h_5 q1_ f) lo hi h_5).bind fun r15 =>
  if r15 = 0 then ((x_Reader_skip (59 : Int32) h_5).bind fun z24 =>
  if z24.1 = 0 then (some ((0 : Int32), z24.2))
  else (some ((1 : Int32), z24.2)))
  else (some ((0 : Int32), h_5))
theorem x_one {q : Nat} (hq : q = 6 ∨ q = 10) {x : Hp} {n p : Nat} {T : Nat → Nat} (R : Rdx x n T p) {f lo hi : Nat} (hlo : lo ≤ 99) (hhi : hi ≤ 99) :
    (one n T lo hi p = none ∧ ∃ x', xOne f (nI lo) (nI hi) q x = some (0, x') ∧ FX q x x') ∨
    ∃ v p' x', one n T lo hi p = some (v, p') ∧ xOne f (nI lo) (nI hi) q x = some (1, x') ∧ x' 1 2 = nI p' ∧ x' q f = nI v ∧ ∀ k j, ¬ (k = 1 ∧ j = 2) → ¬ (k = q ∧ j = f) → x' k j = x k j := by
  unfold xOne one spx
  rcases x_num hq R with ⟨h1, h2⟩ | ⟨v, k, x1, h1, h2, h3, h4⟩
  · rw [h1, h2, bS, bS, wr_self, show x_Nm_isOutside (-1) (nI lo) (nI hi) (wr x q f (-1)) = some 1 from x_outN (Or.inl (by rw [toI_lt, nI_toInt (by omega), m1_toI]; omega)) _, bS, if_neg i1]
    exact Or.inl ⟨rfl, _, rfl, FX.rf.wr _ (Or.inl (by omega))⟩
  · have hb := num_ok h1
    have f1 : FX q x (wr x1 q f (nI v)) := fun a b z1 z2 => by rw [wr_ne _ _ (by omega)]; exact h4 a b z2
    have R1 : Rdx (wr x1 q f (nI v)) n T k := R.to hq f1 (by rw [wr_ne _ _ (by omega)]; exact h3) hb.2.2
    rw [h1, h2, bS, bS, bS, wr_self]
    by_cases hr : lo ≤ v ∧ v ≤ hi
    · rw [x_outY hr.1 hr.2 (by omega), bS, if_pos i0, l59, x_skip (by omega) R1]
      by_cases hs : k < n ∧ T k = 59
      · rw [if_pos hs, if_pos hs, bS, bS, if_pos hr, if_neg i1]
        refine Or.inr ⟨v, k + 1, wr (wr x1 q f (nI v)) 1 2 (nI (k + 1)), rfl, rfl, wr_self _ _ _ _, ?_, fun a b z1 z2 => ?_⟩
        · rw [wr_ne _ _ (by omega), wr_self]
        · rw [wr_ne _ _ (by omega), wr_ne _ _ (by omega)]; exact h4 a b z1
      · rw [if_neg hs, if_neg hs, bS, if_pos i0]
        exact Or.inl ⟨rfl, _, rfl, f1⟩
    · rw [x_outN (by
        rcases Nat.lt_or_ge v lo with z | z
        · exact Or.inl ((nI_ltI (by omega) (by omega)).mpr z)
        · exact Or.inr ⟨fun w => by rw [nLT (by omega) (by omega)] at w; omega, nI_ge (by omega) (by omega)⟩), bS, if_neg i1]
      refine Or.inl ⟨?_, _, rfl, f1⟩
      by_cases hs : k < n ∧ T k = 59
      · rw [if_pos hs, bS, if_neg hr]
      · rw [if_neg hs]; rfl
theorem m_nums1 {y : Hp} {n p : Nat} {T : Nat → Nat} (R : Rdm y n T p) :
    (spx n T 59 p = none ∧ ∃ y', m_Mo_numbers (nI 1) y = some (0, y') ∧ FM y y') ∨
    ∃ v p' y', spx n T 59 p = some (v, p') ∧ m_Mo_numbers (nI 1) y = some (1, y') ∧ FM y y' ∧ y' 0 12 = nI p' ∧ y' 8 0 = nI v ∧ (∀ j, y' 3 j = y 3 j) := by
  have e0 : m_Mo_numbers (nI 1) y = m_Mo_numbers_b2 (nI 1) (398 + 1 + 1) (nI 0) y := rfl
  rw [e0, m_Mo_numbers_b2, if_neg (nI_ge (by omega) (by omega))]
  rcases m_num1 R (kf := m_Mo_numbers_b2 (nI 1) (398 + 1)) (N := 1) (x2 := 0) (by omega) (by omega) with ⟨h1, y', h2, h3⟩ | ⟨v, p', y', h1, h2, h3, h4, h5, h6, h7⟩
  · exact Or.inl ⟨h1, y', h2, h3⟩
  · refine Or.inr ⟨v, p', y', h1, h2.trans ?_, h3, h4, h5, h7⟩
    rw [m_Mo_numbers_b2, if_pos (nI_le (by omega) (by omega))]
theorem m_one {y : Hp} {n p : Nat} {T : Nat → Nat} (R : Rdm y n T p) {f lo hi : Nat} (hf : f < 74) (hlo : lo ≤ 99) (hhi : hi ≤ 99) :
    (one n T lo hi p = none ∧ ∃ y', m_Mo_one (nI f) (nI lo) (nI hi) y = some (0, y') ∧ FM y y') ∨
    ∃ v p' y', one n T lo hi p = some (v, p') ∧ m_Mo_one (nI f) (nI lo) (nI hi) y = some (1, y') ∧ FM y y' ∧ y' 0 12 = nI p' ∧ y' 3 f = nI v ∧ (∀ j, j ≠ f → y' 3 j = y 3 j) := by
  unfold m_Mo_one one
  rcases m_nums1 R with ⟨h1, y', h2, h3⟩ | ⟨v, p', y', h1, h2, h3, h4, h5, h6⟩
  · rw [h1, l1, h2, bS, if_pos i0]
    exact Or.inl ⟨rfl, _, rfl, h3⟩
  · have hb := spx_ok h1
    rw [h1, l1, h2, bS, bS, if_neg i1]
    dsimp only
    rw [h5]
    by_cases hr : lo ≤ v ∧ v ≤ hi
    · rw [nI_l (by omega), nI_l (by omega), nI_l (by omega), show m_Mo_in (lN v) (lN lo) (lN hi) y' = some 1 from by rw [← nI_l (n := v) (by omega)]; exact m_inY hr.1 hr.2 (by omega) y', bS, if_neg i1, if_pos (inR_y hf (by omega)), nI_cl (by omega), bS, if_pos hr]
      refine Or.inr ⟨v, p', wr y' 3 f (nI v), rfl, rfl, h3.wr _ (Or.inl rfl), ?_, wr_self _ _ _ _, fun j hj => ?_⟩
      · rw [wr_ne _ _ (by omega)]; exact h4
      · rw [wr_ne _ _ (by omega)]; exact h6 j
    · rw [nI_l (n := lo) (by omega), nI_l (n := hi) (by omega), m_inN (by omega) (by omega) (by
        rcases Nat.lt_or_ge v lo with z | z
        · exact Or.inl ((nI_ltI (by omega) (by omega)).mpr z)
        · exact Or.inr ⟨fun w => by rw [nLT (by omega) (by omega)] at w; omega, nI_ge (by omega) (by omega)⟩), bS, if_pos i0, if_neg hr]
      exact Or.inl ⟨rfl, _, rfl, h3⟩
