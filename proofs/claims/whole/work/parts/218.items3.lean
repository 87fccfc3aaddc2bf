/-! an item of a text, read by either -/
def Dok (m : Mnu) : Prop := 2 ≤ dD m ∧ dD m ≤ 6 ∧ dG m ≤ 9 ∧ dV m ≤ 3 ∧ 1 ≤ dS m ∧ dS m ≤ 99 ∧ 1 ≤ dH m ∧ dH m ≤ 60 ∧ (∀ i, i < dG m → dK m i ≤ 3) ∧ (∀ i d, i < dG m → d < dD m → dT m i d ≤ 9) ∧ (∀ d, d < 6 → 1 ≤ dM m d ∧ dM m d ≤ 60)
def DX (h : Hp) (q : Nat) (m : Mnu) : Prop := h q 0 = nI (dD m) ∧ h q 1 = nI (dG m) ∧ h q 2 = nI (dV m) ∧ h q 3 = nI (dS m) ∧ h q 4 = nI (dH m) ∧ (∀ i, i < dG m → h (q + 1) i = nI (dK m i)) ∧ (∀ i d, i < dG m → d < dD m → h (q + 2) (i * 6 + d) = nI (dT m i d)) ∧ (∀ d, d < 6 → h (q + 3) d = nI (dM m d))
def DM (h : Hp) (r : Nat) (m : Mnu) : Prop := h r 0 = nI (dD m) ∧ h r 1 = nI (dG m) ∧ h r 2 = nI (dV m) ∧ h r 3 = nI (dS m) ∧ h r 4 = nI (dH m) ∧ (∀ i, i < dG m → h r (5 + i) = nI (dK m i)) ∧ (∀ i d, i < dG m → d < dD m → h r (20 + 6 * i + d) = nI (dT m i d)) ∧ (∀ d, d < 6 → h r (14 + d) = nI (dM m d))
def DI (q : Nat) (x y : Hp) (m : Mnu) (n : Nat) (T : Nat → Nat) (p : Nat) : Prop := Dok m ∧ DX x q m ∧ DM y 3 m ∧ Rdx x n T p ∧ Rdm y n T p
theorem DX.mv {x x' : Hp} {q : Nat} {m : Mnu} (h : ∀ k j, q ≤ k → k ≤ q + 3 → x' k j = x k j) (t : DX x q m) : DX x' q m := ⟨(h q 0 (by omega) (by omega)).trans t.1, (h q 1 (by omega) (by omega)).trans t.2.1, (h q 2 (by omega) (by omega)).trans t.2.2.1, (h q 3 (by omega) (by omega)).trans t.2.2.2.1, (h q 4 (by omega) (by omega)).trans t.2.2.2.2.1, fun i hi => (h _ _ (by omega) (by omega)).trans (t.2.2.2.2.2.1 i hi), fun i d hi hd => (h _ _ (by omega) (by omega)).trans (t.2.2.2.2.2.2.1 i d hi hd), fun d hd => (h _ _ (by omega) (by omega)).trans (t.2.2.2.2.2.2.2 d hd)⟩
theorem DM.mv {x x' : Hp} {r : Nat} {m : Mnu} (h : ∀ j, x' r j = x r j) (t : DM x r m) : DM x' r m := ⟨(h _).trans t.1, (h _).trans t.2.1, (h _).trans t.2.2.1, (h _).trans t.2.2.2.1, (h _).trans t.2.2.2.2.1, fun i hi => (h _).trans (t.2.2.2.2.2.1 i hi), fun i d hi hd => (h _).trans (t.2.2.2.2.2.2.1 i d hi hd), fun d hd => (h _).trans (t.2.2.2.2.2.2.2 d hd)⟩
/-- what reading a part of the text comes to -/
def Rs (q n : Nat) (T : Nat → Nat) (p : Nat) (x y : Hp) (a b : Option (Int32 × Hp)) (Q : Mnu → Prop) : Prop := ∃ r x' y', a = some (r, x') ∧ b = some (r, y') ∧ FX q x x' ∧ FM y y' ∧ (r = 0 ∨ (r = 1 ∧ ∃ m' p', p ≤ p' ∧ DI q x' y' m' n T p' ∧ Q m'))
def setF (f v : Nat) (m : Mnu) : Mnu := ((if f = 0 then v else dD m, dG m, if f = 2 then v else dV m, if f = 3 then v else dS m, if f = 4 then v else dH m), dK m, dT m, dM m)
theorem r_one {q : Nat} (hq : q = 6 ∨ q = 10) {x y : Hp} {m : Mnu} {n p : Nat} {T : Nat → Nat} (I : DI q x y m n T p) {f lo hi : Nat} (hlo : lo ≤ 99) (hhi : hi ≤ 99)
    (hf : (f = 0 ∧ dG m = 0 ∧ lo = 2 ∧ hi = 6) ∨ (f = 2 ∧ hi = 3) ∨ (f = 3 ∧ lo = 1 ∧ hi = 99) ∨ (f = 4 ∧ lo = 1 ∧ hi = 60)) : Rs q n T p x y (xOne f (nI lo) (nI hi) q x) (m_Mo_one (nI f) (nI lo) (nI hi) y) (fun m' => dG m' = dG m) := by
  obtain ⟨ok, dx, dm, rx, rm⟩ := I
  rcases x_one hq rx (f := f) (lo := lo) (hi := hi) hlo hhi with ⟨e1, x', e2, e3⟩ | ⟨v, p', x', e1, e2, e3, e4, e5⟩
  · rcases m_one rm (f := f) (lo := lo) (hi := hi) (by omega) hlo hhi with ⟨g1, y', g2, g3⟩ | ⟨v, p', y', g1, -⟩
    · exact ⟨0, x', y', e2, g2, e3, g3, Or.inl rfl⟩
    · rw [e1] at g1; cases g1
  · rcases m_one rm (f := f) (lo := lo) (hi := hi) (by omega) hlo hhi with ⟨g1, -⟩ | ⟨v', p'', y', g1, g2, g3, g4, g5, g6⟩
    · rw [e1] at g1; cases g1
    · rw [e1] at g1
      cases g1
      have fx : FX q x x' := fun a b z1 z2 => e5 a b z2 (by omega)
      have hv : lo ≤ v ∧ v ≤ hi ∧ p ≤ p' ∧ p' ≤ n := by
        unfold one at e1
        cases hs : spx n T 59 p with
        | none => rw [hs] at e1; cases e1
        | some z =>
          rw [hs, bS] at e1
          by_cases hz : lo ≤ z.1 ∧ z.1 ≤ hi
          · rw [if_pos hz] at e1
            cases e1
            have := spx_ok (v := v) (p' := p') hs
            exact ⟨hz.1, hz.2, by omega, by omega⟩
          · rw [if_neg hz] at e1; cases e1
      refine ⟨1, x', y', e2, g2, fx, g3, Or.inr ⟨rfl, setF f v m, p', hv.2.2.1, ⟨?_, ?_, ?_, rx.to hq fx e3 hv.2.2.2, rm.to g3 g4 hv.2.2.2⟩, rfl⟩⟩
      · obtain ⟨o1, o2, o3, o4, o5, o6, o7, o8, o9, o10, o11⟩ := ok
        rcases hf with ⟨rfl, h0, rfl, rfl⟩ | ⟨rfl, rfl⟩ | ⟨rfl, rfl, rfl⟩ | ⟨rfl, rfl, rfl⟩
        · exact ⟨hv.1, hv.2.1, o3, o4, o5, o6, o7, o8, o9, fun i d hi _ => absurd hi (by show ¬ i < dG m; omega), o11⟩
        · exact ⟨o1, o2, o3, hv.2.1, o5, o6, o7, o8, o9, o10, o11⟩
        · exact ⟨o1, o2, o3, o4, hv.1, hv.2.1, o7, o8, o9, o10, o11⟩
        · exact ⟨o1, o2, o3, o4, o5, o6, hv.1, hv.2.1, o9, o10, o11⟩
      · obtain ⟨t1, t2, t3, t4, t5, t6, t7, t8⟩ := dx
        have e6 : ∀ i, i < dG m → x' (q + 1) i = nI (dK m i) := fun i hi => (e5 _ _ (by omega) (by omega)).trans (t6 i hi)
        have e7 : ∀ i d, i < dG m → d < dD m → x' (q + 2) (i * 6 + d) = nI (dT m i d) := fun i d hi hd => (e5 _ _ (by omega) (by omega)).trans (t7 i d hi hd)
        have e8 : ∀ d, d < 6 → x' (q + 3) d = nI (dM m d) := fun d hd => (e5 _ _ (by omega) (by omega)).trans (t8 d hd)
        rcases hf with ⟨rfl, h0, rfl, rfl⟩ | ⟨rfl, rfl⟩ | ⟨rfl, rfl, rfl⟩ | ⟨rfl, rfl, rfl⟩
        · exact ⟨e4, (e5 _ _ (by omega) (by omega)).trans t2, (e5 _ _ (by omega) (by omega)).trans t3, (e5 _ _ (by omega) (by omega)).trans t4, (e5 _ _ (by omega) (by omega)).trans t5, e6, fun i d hi _ => absurd hi (by show ¬ i < dG m; omega), e8⟩
        · exact ⟨(e5 _ _ (by omega) (by omega)).trans t1, (e5 _ _ (by omega) (by omega)).trans t2, e4, (e5 _ _ (by omega) (by omega)).trans t4, (e5 _ _ (by omega) (by omega)).trans t5, e6, e7, e8⟩
        · exact ⟨(e5 _ _ (by omega) (by omega)).trans t1, (e5 _ _ (by omega) (by omega)).trans t2, (e5 _ _ (by omega) (by omega)).trans t3, e4, (e5 _ _ (by omega) (by omega)).trans t5, e6, e7, e8⟩
        · exact ⟨(e5 _ _ (by omega) (by omega)).trans t1, (e5 _ _ (by omega) (by omega)).trans t2, (e5 _ _ (by omega) (by omega)).trans t3, (e5 _ _ (by omega) (by omega)).trans t4, e4, e6, e7, e8⟩
      · obtain ⟨t1, t2, t3, t4, t5, t6, t7, t8⟩ := dm
        have e6 : ∀ i, i < dG m → y' 3 (5 + i) = nI (dK m i) := fun i hi => (g6 _ (by omega)).trans (t6 i hi)
        have e7 : ∀ i d, i < dG m → d < dD m → y' 3 (20 + 6 * i + d) = nI (dT m i d) := fun i d hi hd => (g6 _ (by omega)).trans (t7 i d hi hd)
        have e8 : ∀ d, d < 6 → y' 3 (14 + d) = nI (dM m d) := fun d hd => (g6 _ (by omega)).trans (t8 d hd)
        rcases hf with ⟨rfl, h0, rfl, rfl⟩ | ⟨rfl, rfl⟩ | ⟨rfl, rfl, rfl⟩ | ⟨rfl, rfl, rfl⟩
        · exact ⟨g5, (g6 _ (by omega)).trans t2, (g6 _ (by omega)).trans t3, (g6 _ (by omega)).trans t4, (g6 _ (by omega)).trans t5, e6, fun i d hi _ => absurd hi (by show ¬ i < dG m; omega), e8⟩
        · exact ⟨(g6 _ (by omega)).trans t1, (g6 _ (by omega)).trans t2, g5, (g6 _ (by omega)).trans t4, (g6 _ (by omega)).trans t5, e6, e7, e8⟩
        · exact ⟨(g6 _ (by omega)).trans t1, (g6 _ (by omega)).trans t2, (g6 _ (by omega)).trans t3, g5, (g6 _ (by omega)).trans t5, e6, e7, e8⟩
        · exact ⟨(g6 _ (by omega)).trans t1, (g6 _ (by omega)).trans t2, (g6 _ (by omega)).trans t3, (g6 _ (by omega)).trans t4, g5, e6, e7, e8⟩
def mMin (h_51 : Hp) : Option (Int32 × Hp) := (m_Mo_numbers (2 : Int32) h_51).bind fun z111 =>
  if z111.1 = 0 then (some ((0 : Int32), z111.2))
  else (if (z111.2 3 0) ≤ (z111.2 8 0) then (some ((0 : Int32), z111.2))
  else ((m_Mo_in ((z111.2 8 1).toInt64) (1 : Int64) (60 : Int64) z111.2).bind fun r143 =>
  if r143 = 0 then (some ((0 : Int32), z111.2))
  else (if inR ((14 : Int32) + (z111.2 8 0)) 74 then (some (wr z111.2 3 ((((14 : Int32) + (z111.2 8 0))).toNatClampNeg) (z111.2 8 1))).bind fun h_170 =>
  some ((1 : Int32), h_170) else none)))
theorem r_min {q : Nat} (hq : q = 6 ∨ q = 10) {x y : Hp} {m : Mnu} {n p : Nat} {T : Nat → Nat} (I : DI q x y m n T p) : Rs q n T p x y (x_Reader_readMinutes q x) (mMin y) (fun _ => True) := by
  obtain ⟨ok, dx, dm, rx, rm⟩ := I
  have hm : (tw n T (dD m) p = none ∧ ∃ y', mMin y = some (0, y') ∧ FM y y') ∨ ∃ d v p' y', tw n T (dD m) p = some (d, v, p') ∧ d < dD m ∧ 1 ≤ v ∧ v ≤ 60 ∧ p ≤ p' ∧ p' ≤ n ∧ mMin y = some (1, y') ∧ FM y y' ∧ y' 0 12 = nI p' ∧ y' 3 (14 + d) = nI v ∧ ∀ j, j ≠ 14 + d → y' 3 j = y 3 j := by
    unfold mMin tw
    rcases m_nums2 rm with ⟨e1, y', e2, e3⟩ | ⟨d, p1, v, p', y', e1, e2, e3, e4, e5, e6, e7, e8⟩
    · rw [show m_Mo_numbers (2 : Int32) y = _ from e2, bS, if_pos i0]
      refine Or.inl ⟨?_, _, rfl, e3⟩
      cases h1 : spx n T 44 p with
      | none => rfl
      | some a =>
        rw [h1, bS] at e1
        rw [bS, e1]; rfl
    · have b1 := spx_ok e1
      have b2 := spx_ok e2
      have hD := ok.2.1
      rw [show m_Mo_numbers (2 : Int32) y = _ from e3, bS, if_neg i1, e1, bS]
      simp only [e8, dm.1, e6, e7]
      rw [e2, bS]
      by_cases hd : d < dD m
      · rw [if_neg (nI_ge (by omega) (by omega))]
        by_cases hr : 1 ≤ v ∧ v ≤ 60
        · rw [show m_Mo_in (nI v).toInt64 (1 : Int64) (60 : Int64) y' = some 1 from m_inY (lo := 1) (hi := 60) hr.1 hr.2 (by omega) y', bS, if_neg i1, l14, nI_add, if_pos (inR_y (show 14 + d < 74 by omega) (by omega)), nI_cl (by omega), bS, if_pos ⟨hd, hr⟩]
          refine Or.inr ⟨d, v, p', wr y' 3 (14 + d) (nI v), rfl, hd, hr.1, hr.2, by omega, by omega, rfl, e4.wr _ (Or.inl rfl), ?_, wr_self _ _ _ _, fun j hj => ?_⟩
          · rw [wr_ne _ _ (by omega)]; exact e5
          · rw [wr_ne _ _ (by omega)]; exact e8 j
        · rw [show m_Mo_in (nI v).toInt64 (1 : Int64) (60 : Int64) y' = some 0 from m_inN (lo := 1) (hi := 60) (by omega) (by omega) (by
            rcases Nat.lt_or_ge v 1 with z | z
            · exact Or.inl ((nI_ltI (by omega) (by omega)).mpr z)
            · exact Or.inr ⟨fun w => by rw [nLT (by omega) (by omega)] at w; omega, nI_ge (by omega) (by omega)⟩) y', bS, if_pos i0, if_neg (fun z => hr z.2)]
          exact Or.inl ⟨rfl, _, rfl, e4⟩
      · rw [if_pos (nI_le (by omega) (by omega)), if_neg (fun z => hd z.1)]
        exact Or.inl ⟨rfl, _, rfl, e4⟩
  rcases x_min hq rx dx.1 ok.2.1 with ⟨e1, x', e2, e3⟩ | ⟨d, v, p', x', e1, e2, e3, e4, e5⟩
  · rcases hm with ⟨g1, y', g2, g3⟩ | ⟨d, v, p', y', g1, -⟩
    · exact ⟨0, x', y', e2, g2, e3, g3, Or.inl rfl⟩
    · rw [e1] at g1; cases g1
  · rcases hm with ⟨g1, -⟩ | ⟨d', v', p'', y', g1, g2, g3, g4, g5, g6, g7, g8, g9, g10, g11⟩
    · rw [e1] at g1; cases g1
    · rw [e1] at g1
      cases g1
      have fx : FX q x x' := fun a b z1 z2 => e5 a b z2 (by omega)
      obtain ⟨o1, o2, o3, o4, o5, o6, o7, o8, o9, o10, o11⟩ := ok
      refine ⟨1, x', y', e2, g7, fx, g8, Or.inr ⟨rfl, (m.1, dK m, dT m, fun z => if z = d then v else dM m z), p', g5, ⟨⟨o1, o2, o3, o4, o5, o6, o7, o8, o9, o10, fun z hz => ?_⟩, ?_, ?_, rx.to hq fx e3 g6, rm.to g8 g9 g6⟩, trivial⟩⟩
      · show 1 ≤ (if z = d then v else dM m z) ∧ (if z = d then v else dM m z) ≤ 60
        by_cases hzd : z = d
        · rw [if_pos hzd]; exact ⟨g3, g4⟩
        · rw [if_neg hzd]; exact o11 z hz
      · obtain ⟨t1, t2, t3, t4, t5, t6, t7, t8⟩ := dx
        refine ⟨(e5 _ _ (by omega) (by omega)).trans t1, (e5 _ _ (by omega) (by omega)).trans t2, (e5 _ _ (by omega) (by omega)).trans t3, (e5 _ _ (by omega) (by omega)).trans t4, (e5 _ _ (by omega) (by omega)).trans t5, fun i hi => (e5 _ _ (by omega) (by omega)).trans (t6 i hi), fun i d hi hd => (e5 _ _ (by omega) (by omega)).trans (t7 i d hi hd), fun z hz => ?_⟩
        show _ = nI (if z = d then v else dM m z)
        by_cases hzd : z = d
        · rw [if_pos hzd, hzd]; exact e4
        · rw [if_neg hzd]; exact (e5 _ _ (by omega) (by omega)).trans (t8 z hz)
      · obtain ⟨t1, t2, t3, t4, t5, t6, t7, t8⟩ := dm
        have hdD : d < dD m := g2
        refine ⟨(g11 _ (by omega)).trans t1, (g11 _ (by omega)).trans t2, (g11 _ (by omega)).trans t3, (g11 _ (by omega)).trans t4, (g11 _ (by omega)).trans t5, fun i (hi : i < dG m) => (g11 _ (by omega)).trans (t6 i hi), fun i z hi hz => (g11 _ (by omega)).trans (t7 i z hi hz), fun z hz => ?_⟩
        show _ = nI (if z = d then v else dM m z)
        by_cases hzd : z = d
        · rw [if_pos hzd, hzd]; exact g10
        · rw [if_neg hzd]; exact (g11 _ (by omega)).trans (t8 z hz)
theorem r_guest {q : Nat} (hq : q = 6 ∨ q = 10) {x y : Hp} {m : Mnu} {n p : Nat} {T : Nat → Nat} (I : DI q x y m n T p) : Rs q n T p x y (x_Reader_readGuest q x) (m_Mo_guestItem y) (fun _ => True) := by
  obtain ⟨ok, dx, dm, rx, rm⟩ := I
  have hn := rx.1
  have hp := rx.2.2.2.2
  have hD := ok.2.1
  have hG := ok.2.2.1
  unfold x_Reader_readGuest m_Mo_guestItem
  rw [bS, bS, dx.2.1, dm.2.1]
  by_cases hg : dG m < 9
  · rw [if_pos (by rw [l9]; exact (nI_ltI (by omega) (by omega)).mpr hg), if_neg (show ¬ nI (dG m) = (9 : Int32) from by rw [l9, nEQ (by omega) (by omega)]; omega), x_fig rx]
    have e0 : m_Mo_guestItem_b17 FU (nI (dG m)) 0 y = m_Mo_guestItem_b17 (399 + 1) (nI (dG m)) 0 y := rfl
    rw [e0, m_Mo_guestItem_b17, dm.1, if_neg (nI_n0 (a := dD m) (by omega)), rm.2.2.2.1, m_letter rm p (by omega), bS, bS, if_pos i0]
    unfold m_Mo_guestItem_b55
    rw [show m_Mo_in (nI (ltr n T p) - 48).toInt64 (0 : Int64) (3 : Int64) y = _ from m_dg2 y rm p (hi := 3) (by omega), bS]
    by_cases h1 : dgt n T p = true
    · have a1 := dgt_y.mp h1
      rw [if_pos h1, bS]
      dsimp only
      by_cases h3 : T p ≤ 48 + 3
      · have f1 : FX q x (wr (wr x 1 2 (nI (p + 1))) (q + 1) (dG m) (nI (T p - 48))) := (FX.rf.wr _ (Or.inr ⟨rfl, rfl⟩)).wr _ (Or.inl (by omega))
        have f2 : FM y (wr (wr y 3 (5 + dG m) (nI (T p - 48))) 0 12 (nI (p + 1))) := (FM.rf.wr _ (Or.inl rfl)).wr _ (Or.inr (Or.inr ⟨rfl, rfl⟩))
        rw [show x_Nm_isOutside (nI (T p - 48)) (0 : Int32) (3 : Int32) (wr x 1 2 (nI (p + 1))) = some 0 from x_outY (lo := 0) (hi := 3) (by omega) (by omega) (by omega) _, bS, if_pos i0, x_put (by rw [xl1 hq]; exact hg), bS, h1, decide_eq_true h3, Bool.true_and, bI_t, if_neg i1, if_pos i0]
        unfold m_Mo_guestItem_b86
        rw [l5, nI_add, if_pos (inR_y (show 5 + dG m < 74 by omega) (by omega)), nI_cl (by omega), bS, bS, wr_ne _ _ (a := 0) (b := 12) (by omega), rm.2.2.2.1, nI_1, show ltr n T p = T p from by unfold ltr; rw [if_pos a1.1], show (48 : Int32) = nI 48 from rfl, nSub a1.2.1]
        have R1 : Rdx (wr (wr x 1 2 (nI (p + 1))) (q + 1) (dG m) (nI (T p - 48))) n T (p + 1 + 0) := rx.to hq f1 (by rw [wr_ne _ _ (by omega), wr_self]) (by omega)
        have R2 : Rdm (wr (wr y 3 (5 + dG m) (nI (T p - 48))) 0 12 (nI (p + 1))) n T (p + 1 + 0) := rm.to f2 (wr_self _ _ _ _) (by omega)
        have X := x_g_loop hq hD hg (dD m) 0 FU (wr (wr x 1 2 (nI (p + 1))) (q + 1) (dG m) (nI (T p - 48))) (by omega) (by unfold FU; omega) R1 (by rw [wr_ne _ _ (by omega), wr_ne _ _ (by omega)]; exact dx.1) (by rw [wr_ne _ _ (by omega), wr_ne _ _ (by omega)]; exact dx.2.1)
        have Y := m_g_loop hD hg (dD m) 0 399 (wr (wr y 3 (5 + dG m) (nI (T p - 48))) 0 12 (nI (p + 1))) (by omega) (by omega) R2 (by rw [wr_ne _ _ (by omega), wr_ne _ _ (by omega)]; exact dm.1) (by rw [wr_ne _ _ (by omega), wr_ne _ _ (by omega)]; exact dm.2.1)
        rcases X with ⟨u1, x', u2, u3⟩ | ⟨u1, x', u2, u3, u4, u5, u6⟩
        · rcases Y with ⟨v1, y', v2, v3⟩ | ⟨v1, -⟩
          · exact ⟨0, x', y', u2, v2, f1.tr u3, f2.tr v3, Or.inl rfl⟩
          · exact absurd v1 u1
        · rcases Y with ⟨v1, -⟩ | ⟨v1, y', v2, v3, v4, v5, v6, v7⟩
          · exact absurd u1 v1
          · have fx : FX q x x' := fun a b z1 z2 => by rw [u6 a b z2 (by omega) (by omega)]; exact f1 a b z1 z2
            have fm := f2.tr v3
            have hpn : p + dD m + 2 ≤ n := by have := v1.2.1; omega
            obtain ⟨o1, o2, o3, o4, o5, o6, o7, o8, o9, o10, o11⟩ := ok
            refine ⟨1, x', y', u2, v2, fx, fm, Or.inr ⟨rfl, ((dD m, dG m + 1, dV m, dS m, dH m), fun i => if i = dG m then T p - 48 else dK m i, fun i d => if i = dG m then T (p + 1 + d) - 48 else dT m i d, dM m), p + dD m + 2, by omega, ⟨⟨o1, o2, hg, o4, o5, o6, o7, o8, fun i hi => ?_, fun i d hi hd => ?_, o11⟩, ?_, ?_, rx.to hq fx u3 hpn, rm.to fm v4 hpn⟩, trivial⟩⟩
            · show (if i = dG m then T p - 48 else dK m i) ≤ 3
              have hi' : i < dG m + 1 := hi
              by_cases e : i = dG m
              · rw [if_pos e]; omega
              · rw [if_neg e]; exact o9 i (by omega)
            · show (if i = dG m then T (p + 1 + d) - 48 else dT m i d) ≤ 9
              have hi' : i < dG m + 1 := hi
              by_cases e : i = dG m
              · rw [if_pos e]; have := dgt_y.mp (v1.1 d (by omega) hd); omega
              · rw [if_neg e]; exact o10 i d (by omega) hd
            · obtain ⟨t1, t2, t3, t4, t5, t6, t7, t8⟩ := dx
              have w : ∀ k j, q ≤ k → k ≤ q + 3 → ¬ (k = q ∧ j = 1) → ¬ (k = q + 1 ∧ j = dG m) → ¬ (k = q + 2 ∧ dG m * 6 ≤ j ∧ j < dG m * 6 + dD m) → x' k j = x k j := fun k j z1 z2 z3 z4 z5 => by rw [u6 k j (by omega) z3 (by omega), wr_ne _ _ z4, wr_ne _ _ (by omega)]
              refine ⟨(w _ _ (by omega) (by omega) (by omega) (by omega) (by omega)).trans t1, u4, (w _ _ (by omega) (by omega) (by omega) (by omega) (by omega)).trans t3, (w _ _ (by omega) (by omega) (by omega) (by omega) (by omega)).trans t4, (w _ _ (by omega) (by omega) (by omega) (by omega) (by omega)).trans t5, fun i hi => ?_, fun i d hi hd => ?_, fun d hd => (w _ _ (by omega) (by omega) (by omega) (by omega) (by omega)).trans (t8 d hd)⟩
              · show _ = nI (if i = dG m then T p - 48 else dK m i)
                have hi' : i < dG m + 1 := hi
                by_cases e : i = dG m
                · rw [if_pos e, e, u6 _ _ (by omega) (by omega) (by omega), wr_self]
                · rw [if_neg e]; exact (w _ _ (by omega) (by omega) (by omega) (by omega) (by omega)).trans (t6 i (by omega))
              · show _ = nI (if i = dG m then T (p + 1 + d) - 48 else dT m i d)
                have hi' : i < dG m + 1 := hi
                have hd' : d < dD m := hd
                by_cases e : i = dG m
                · rw [if_pos e, e]; exact u5 d (by omega) hd
                · rw [if_neg e]; exact (w _ _ (by omega) (by omega) (by omega) (by omega) (by omega)).trans (t7 i d (by omega) hd)
            · obtain ⟨t1, t2, t3, t4, t5, t6, t7, t8⟩ := dm
              have w : ∀ j, j ≠ 1 → j ≠ 5 + dG m → ¬ (20 + 6 * dG m ≤ j ∧ j < 20 + 6 * dG m + dD m) → y' 3 j = y 3 j := fun j z3 z4 z5 => by rw [v7 j z3 (by omega), wr_ne _ _ (by omega), wr_ne _ _ (by omega)]
              refine ⟨(w _ (by omega) (by omega) (by omega)).trans t1, v5, (w _ (by omega) (by omega) (by omega)).trans t3, (w _ (by omega) (by omega) (by omega)).trans t4, (w _ (by omega) (by omega) (by omega)).trans t5, fun i hi => ?_, fun i d hi hd => ?_, fun d hd => (w _ (by omega) (by omega) (by omega)).trans (t8 d hd)⟩
              · show _ = nI (if i = dG m then T p - 48 else dK m i)
                have hi' : i < dG m + 1 := hi
                by_cases e : i = dG m
                · rw [if_pos e, e, v7 _ (by omega) (by omega), wr_ne _ _ (by omega), wr_self]
                · rw [if_neg e]; exact (w _ (by omega) (by omega) (by omega)).trans (t6 i (by omega))
              · show _ = nI (if i = dG m then T (p + 1 + d) - 48 else dT m i d)
                have hi' : i < dG m + 1 := hi
                have hd' : d < dD m := hd
                by_cases e : i = dG m
                · rw [if_pos e, e]; exact v6 d (by omega) hd
                · rw [if_neg e]; exact (w _ (by omega) (by omega) (by omega)).trans (t7 i d (by omega) hd)
      · rw [show x_Nm_isOutside (nI (T p - 48)) (0 : Int32) (3 : Int32) (wr x 1 2 (nI (p + 1))) = some 1 from x_outN (lo := 0) (hi := nI 3) (Or.inr ⟨nI_n0 (by omega), nI_ge (by omega) (by omega)⟩) _, bS, if_neg i1, h1, decide_eq_false h3, Bool.true_and, bI_f, if_pos i0]
        exact ⟨0, _, _, rfl, rfl, FX.rf.wr _ (Or.inr ⟨rfl, rfl⟩), FM.rf, Or.inl rfl⟩
    · rw [if_neg h1, bS, show x_Nm_isOutside (-1) (0 : Int32) (3 : Int32) x = some 1 from x_outN (Or.inl (by decide)) _, bS, if_neg i1, show dgt n T p = false from by cases e : dgt n T p with | false => rfl | true => exact absurd e h1, Bool.false_and, bI_f, if_pos i0]
      exact ⟨0, _, _, rfl, rfl, FX.rf, FM.rf, Or.inl rfl⟩
  · rw [if_neg (fun z => by rw [l9, nLT (by omega) (by omega)] at z; exact hg z), if_pos (show nI (dG m) = (9 : Int32) from by rw [show dG m = 9 by omega]; rfl)]
    exact ⟨0, _, _, rfl, rfl, FX.rf, FM.rf, Or.inl rfl⟩
