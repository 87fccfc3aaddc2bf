/-! the reference's literal functions answer the same -/
section MF
variable {h : Hp} {m : Mnu} {t g : Nat}
theorem m_letT {r : Int32} {j : Nat} (hj : r = nI j) : r.toInt64 = (nI j).toInt64 := by rw [hj]
theorem m_worthAt (Y : Ym h m) (ht : t ≤ 99) {i d : Nat} (hi : i < dG m) (hd : d < dD m) : m_Mo_worthAt (nI i) (nI d) (nI t) h = some (nI (wv m t i d)) := by
  have hG := Y.1.G
  have hD := Y.1.D
  have hH := Y.1.H
  have hT := Y.1.T hi hd
  have hq : t / dH m ≤ 99 := Nat.le_trans (Nat.div_le_self _ _) ht
  unfold m_Mo_worthAt wv
  rw [l20, l6, nMul, nI_add, nI_add, if_pos (inR_y (show 20 + 6 * i + d < 74 by omega) (by omega)), nI_cl (by omega), Y.2.2.2.2.2.2.2.1 i d hi hd, bS]
  by_cases h0 : dT m i d = 0
  · rw [if_pos (by rw [h0]; rfl), if_pos h0]
    rfl
  · rw [if_neg (by rw [l0, nEQ (by omega) (by omega)]; exact h0), if_neg h0, Y.2.2.2.2.2.1, if_pos (by rw [l0, nEQ (by omega) (by omega)]; omega), nDiv (by omega) (by omega) (by omega), nI_add, m_Mo_worthAt_b36, l9]
    by_cases h9 : dT m i d + t / dH m < 9
    · rw [if_pos (by rw [nLE (by omega) (by omega)]; omega), if_pos h9]
    · rw [if_neg h9]
      by_cases h10 : dT m i d + t / dH m = 9
      · rw [h10, if_pos (by rw [nLE (by omega) (by omega)]; omega)]
      · rw [if_neg (by rw [nLE (by omega) (by omega)]; omega)]
theorem m_most_loop (Y : Ym h m) (ht : t ≤ 99) {L g : Nat} (hL : L < 64) (hg : g < dG m) : ∀ (k n : Nat) (b : Option Nat), k ≤ dD m → k < n →
    (∀ c, b = some c → k ≤ c ∧ c < dD m ∧ L.testBit c = true ∧ (∀ d, k ≤ d → d < dD m → L.testBit d = true → wv m t g d ≤ wv m t g c) ∧ (∀ d, k ≤ d → d < c → L.testBit d = true → wv m t g d < wv m t g c)) → (b = none → ∀ d, k ≤ d → d < dD m → L.testBit d = false) →
    m_Mo_mostOf_b14 (nI g) (nI L) (nI t) h n (ob (-4) b) (nI k - 1) = some (ob (-4) (fav m t L g)) := by
  have hD := Y.1.D
  intro k
  induction k with
  | zero =>
    intro n b hk hn h1 h2
    obtain ⟨n, rfl⟩ : ∃ z, n = z + 1 := ⟨n - 1, by omega⟩
    rw [m_Mo_mostOf_b14, if_pos (by decide)]
    cases b with
    | none =>
      have : fav m t L g = none := by
        cases hf : fav m t L g with
        | none => rfl
        | some c => have := fmx_lt hf; rw [h2 rfl c (by omega) this.1] at this; cases this.2
      rw [this]
    | some c =>
      obtain ⟨-, c1, c2, c3, c4⟩ := h1 c rfl
      rw [show fav m t L g = some c from fmx_eq c1 c2 (fun d hd hp => c3 d (by omega) hd hp) (fun d hd hp => c4 d (by omega) hd hp)]
  | succ k ih =>
    intro n b hk hn h1 h2
    obtain ⟨n, rfl⟩ : ∃ z, n = z + 1 := ⟨n - 1, by omega⟩
    have e : nI (k + 1) - 1 = nI k := nI_pred k
    have e2 : nI k + (-1) = nI k - 1 := by
      rw [Int32.sub_eq_add_neg]
    rw [m_Mo_mostOf_b14, e, if_neg (nI_n0 (by omega)), m_has (by omega) (by omega), bS, e2]
    cases hb : L.testBit k with
    | false =>
      rw [bI_f, if_pos rfl]
      refine ih n b (by omega) (by omega) (fun c hc => ?_) (fun hc d hd hd2 => ?_)
      · obtain ⟨c0, c1, c2, c3, c4⟩ := h1 c hc
        refine ⟨by omega, c1, c2, fun d hd hd2 hp => ?_, fun d hd hd2 hp => ?_⟩
        · by_cases e : d = k
          · rw [e, hb] at hp; cases hp
          · exact c3 d (by omega) hd2 hp
        · by_cases e : d = k
          · rw [e, hb] at hp; cases hp
          · exact c4 d (by omega) hd2 hp
      · by_cases e : d = k
        · rw [e]; exact hb
        · exact h2 hc d (by omega) hd2
    | true =>
      rw [bI_t, if_neg (by decide)]
      cases b with
      | none =>
        rw [ob_n, if_pos (by decide)]
        refine ih n (some k) (by omega) (by omega) (fun c hc => ?_) (fun hc => by cases hc)
        cases hc
        refine ⟨Nat.le_refl _, by omega, hb, fun d hd hd2 hp => ?_, fun d hd hd2 hp => by omega⟩
        by_cases e : d = k
        · rw [e]; exact Nat.le_refl _
        · rw [h2 rfl d (by omega) hd2] at hp; cases hp
      | some c =>
        obtain ⟨c0, c1, c2, c3, c4⟩ := h1 c rfl
        have hv := wv_le (m := m) (t := t) (i := g) (d := k)
        have hv2 := wv_le (m := m) (t := t) (i := g) (d := c)
        rw [ob_s, if_neg (nI_n0 (by omega)), m_worthAt Y ht hg (by omega), bS, m_worthAt Y ht hg c1, bS]
        by_cases hz : wv m t g k < wv m t g c
        · rw [if_pos (by rw [nLT (by omega) (by omega)]; omega)]
          refine ih n (some c) (by omega) (by omega) (fun c' hc => ?_) (fun hc => by cases hc)
          cases hc
          refine ⟨by omega, c1, c2, fun d hd hd2 hp => ?_, fun d hd hd2 hp => ?_⟩
          · by_cases e : d = k
            · rw [e]; omega
            · exact c3 d (by omega) hd2 hp
          · by_cases e : d = k
            · rw [e]; exact hz
            · exact c4 d (by omega) hd2 hp
        · rw [if_neg (by rw [nLT (by omega) (by omega)]; omega)]
          refine ih n (some k) (by omega) (by omega) (fun c' hc => ?_) (fun hc => by cases hc)
          cases hc
          refine ⟨Nat.le_refl _, by omega, hb, fun d hd hd2 hp => ?_, fun d hd hd2 hp => by omega⟩
          by_cases e : d = k
          · rw [e]; exact Nat.le_refl _
          · have := c3 d (by omega) hd2 hp; omega
theorem m_mostOf (Y : Ym h m) (ht : t ≤ 99) {L g : Nat} (hL : L < 64) (hg : g < dG m) : m_Mo_mostOf (nI g) (nI L) (nI t) h = some (ob (-4) (fav m t L g)) := by
  have hD := Y.1.D
  unfold m_Mo_mostOf
  rw [Y.2.1, bS]
  exact m_most_loop Y ht hL hg (dD m) FU none (Nat.le_refl _) (by unfold FU; omega) (fun c hc => by cases hc) (fun _ d h1 h2 => by omega)
theorem m_lst_loop (Y : Ym h m) (ht : t ≤ 99) {A g : Nat} (hg : g < dG m) (hA : A < 64) : ∀ (k i n : Nat), i + k = dD m → k < n → m_Mo_leastOf_b7 (nI g) (nI A) (nI t) h n (ob (-4) (lmn (fun d => A.testBit d) (fun d => wv m t g d) i)) (nI i) = some (ob (-4) (lst m t A g)) := by
  have hD := Y.1.D
  have hG := Y.1.G
  intro k
  induction k with
  | zero =>
    intro i n hi hn
    obtain ⟨n, rfl⟩ : ∃ z, n = z + 1 := ⟨n - 1, by omega⟩
    rw [m_Mo_leastOf_b7, Y.2.1, if_pos (nI_le (by omega) (by omega)), show i = dD m by omega]
    rfl
  | succ k ih =>
    intro i n hi hn
    obtain ⟨n, rfl⟩ : ∃ z, n = z + 1 := ⟨n - 1, by omega⟩
    have hr := ih (i + 1) n (by omega) (by omega)
    rw [lmn] at hr
    rw [m_Mo_leastOf_b7, Y.2.1, if_neg (nI_ge (by omega) (by omega)), m_has (by omega) (by omega), bS, nI_1]
    by_cases hb : A.testBit i = true
    · rw [hb, if_pos rfl] at hr
      rw [hb, bI_t, if_neg (by decide)]
      cases hf : lmn (fun d => A.testBit d) (fun d => wv m t g d) i with
      | none =>
        rw [hf] at hr
        rw [ob_n, if_pos (by decide)]
        exact hr
      | some b =>
        rw [hf] at hr
        have hb2 := lmn_lt hf
        have hv := wv_le (m := m) (t := t) (i := g) (d := i)
        have hv2 := wv_le (m := m) (t := t) (i := g) (d := b)
        rw [ob_s, if_neg (nI_n0 (by omega)), m_worthAt Y ht hg (by omega), bS, m_worthAt Y ht hg (by omega), bS]
        dsimp only at hr
        by_cases hz : wv m t g b < wv m t g i
        · rw [if_pos (by rw [nLT (by omega) (by omega)]; omega)]
          rw [if_pos hz] at hr
          exact hr
        · rw [if_neg (by rw [nLT (by omega) (by omega)]; omega)]
          rw [if_neg hz] at hr
          exact hr
    · have hb : A.testBit i = false := by simpa using hb
      rw [hb, if_neg (by decide)] at hr
      rw [hb, bI_f, if_pos rfl]
      exact hr
theorem m_leastOf (Y : Ym h m) (ht : t ≤ 99) {A g : Nat} (hg : g < dG m) (hA : A < 64) : m_Mo_leastOf (nI g) (nI A) (nI t) h = some (ob (-4) (lst m t A g)) := by
  have hD := Y.1.D
  exact m_lst_loop Y ht hg hA (dD m) 0 FU (by omega) (by unfold FU; omega)
theorem m_leftBy (Y : Ym h m) (hg : g < 2 ^ dD m) : m_Mo_leftBy (nI g) h = some (nI (lf (dD m) g)) := by
  have hD := Y.1.D
  unfold m_Mo_leftBy
  rw [Y.2.1, lf_I (dD m) (by omega) g hg]
theorem p6 {D : Nat} (h : D ≤ 6) {g : Nat} (hg : g < 2 ^ D) : g < 64 := Nat.lt_of_lt_of_le hg (Nat.pow_le_pow_right (n := 2) (by decide) h)
theorem m_hasHeart (Y : Ym h m) (ht : t ≤ 99) (hg : g < 2 ^ dD m) {k i d : Nat} (hk : k ≤ 3) (hi : i < dG m) (hd : d < dD m) : m_Mo_hasHeart (nI k) (nI i) (nI d) (nI t) (nI g) h = some (bI (gv m t (lf (dD m) g) k i d)) := by
  have hD := Y.1.D
  have hg6 := p6 hD.2 hg
  have hL := lf_lt (dD m) g hD.2
  have hv := wv_le (m := m) (t := t) (i := i) (d := d)
  unfold m_Mo_hasHeart gv
  rw [m_has (by omega) (by omega), bS, lf_bit hg, decide_eq_true hd, Bool.true_and]
  cases hb : g.testBit d with
  | true => rfl
  | false =>
    rw [bI_f, if_pos rfl, m_worthAt Y ht hi hd, bS, m_leftBy Y hg, bS, m_mostOf Y ht hL hi, bS]
    rcases (show k = 0 ∨ k = 1 ∨ k = 2 ∨ k = 3 by omega) with rfl | rfl | rfl | rfl
    · rw [if_pos (show nI 0 = 0 by decide)]
      show _ = some (bI (decide (5 ≤ wv m t i d)))
      by_cases hz : 5 ≤ wv m t i d
      · rw [if_neg (by rw [l4, nLE (by omega) (by omega)]; omega), decide_eq_true hz]; rfl
      · rw [if_pos (by rw [l4, nLE (by omega) (by omega)]; omega), decide_eq_false hz]; rfl
    · rfl
    · rfl
    · rw [if_neg (show ¬ nI 3 = 0 by decide), if_neg (show ¬ nI 3 = 1 by decide), if_pos (show nI 3 = 3 by decide)]
      show _ = some (bI (decide (0 < wv m t i d) && decide (fav m t (lf (dD m) g) i = some d)))
      by_cases hz : 0 < wv m t i d
      · rw [if_neg (by rw [l0, nLE (by omega) (by omega)]; omega), decide_eq_true hz, Bool.true_and]
        cases hf : fav m t (lf (dD m) g) i with
        | none => rw [ob_n, if_neg (fun z => nI_nm4 (a := d) (by omega) z.symm), decide_eq_false (fun z => by cases z)]; rfl
        | some b =>
          have hb2 := fmx_lt hf
          rw [ob_s]
          by_cases hbd : b = d
          · rw [if_pos (by rw [hbd]), hbd, decide_eq_true rfl]; rfl
          · rw [if_neg (by rw [nEQ (by omega) (by omega)]; exact hbd), decide_eq_false (fun z => hbd (Option.some.inj z))]; rfl
      · rw [if_pos (by rw [l0, nLE (by omega) (by omega)]; omega), decide_eq_false hz]; rfl
theorem m_sum_loop (Y : Ym h m) (ht : t ≤ 99) {d : Nat} (hd : d < dD m) {w : Option Nat} (hw : ∀ j, w = some j → j < 2147483648) : ∀ (k i n : Nat), i + k = dG m → k < n → m_Mo_sumOf_b6 (nI d) (nI t) (ob (-4) w) h n (nI (sm (sw1 m t d w) i)) (nI i) = some (nI (sa m t w d)) := by
  have hG := Y.1.G
  intro k
  induction k with
  | zero =>
    intro i n hi hn
    obtain ⟨n, rfl⟩ : ∃ z, n = z + 1 := ⟨n - 1, by omega⟩
    rw [m_Mo_sumOf_b6, Y.2.2.1, if_pos (nI_le (by omega) (by omega)), show i = dG m by omega]
    rfl
  | succ k ih =>
    intro i n hi hn
    obtain ⟨n, rfl⟩ : ∃ z, n = z + 1 := ⟨n - 1, by omega⟩
    have hr := ih (i + 1) n (by omega) (by omega)
    rw [sm] at hr
    rw [m_Mo_sumOf_b6, Y.2.2.1, if_neg (nI_ge (by omega) (by omega))]
    by_cases hz : some i = w
    · rw [if_pos ((ob_eq he4 (by omega) hw).mpr hz), bS, l0, nI_add, nI_1]
      rw [show sw1 m t d w i = 0 by unfold sw1; rw [if_pos hz]] at hr
      exact hr
    · rw [if_neg (fun z => hz ((ob_eq he4 (by omega) hw).mp z)), m_worthAt Y ht (by omega) hd, bS, bS, nI_add, nI_1]
      rw [show sw1 m t d w i = wv m t i d by unfold sw1; rw [if_neg hz]] at hr
      exact hr
theorem m_sumOf (Y : Ym h m) (ht : t ≤ 99) {d : Nat} (hd : d < dD m) {w : Option Nat} (hw : ∀ j, w = some j → j < 2147483648) : m_Mo_sumOf (nI d) (nI t) (ob (-4) w) h = some (nI (sa m t w d)) := by
  have hG := Y.1.G
  exact m_sum_loop Y ht hd hw (dG m) 0 FU (by omega) (by unfold FU; omega)
theorem m_sumOf0 (Y : Ym h m) (ht : t ≤ 99) {d : Nat} (hd : d < dD m) : m_Mo_sumOf (nI d) (nI t) (-4) h = some (nI (sa m t none d)) := m_sumOf Y ht hd (w := none) (fun j e => by cases e)
/-- one step of 'the first of the greatest', as the reference writes it -/
theorem ov4_lt {f : Nat → Nat} {o : Option Nat} {x : Nat} (hx : x < 2147483648) (hf : ∀ b, o = some b → f b < 2147483648) : nI x ≤ ov (-4) f o ↔ ∃ b, o = some b ∧ x ≤ f b := by
  cases o with
  | none => exact ⟨fun z => absurd z (m4_lt hx), fun ⟨b, e, _⟩ => by cases e⟩
  | some b =>
    show nI x ≤ nI (f b) ↔ _
    rw [nLE hx (hf b rfl)]
    exact ⟨fun z => ⟨b, rfl, z⟩, fun ⟨c, e, z⟩ => by cases e; exact z⟩
theorem ov4_m4 {f : Nat → Nat} {o : Option Nat} (hf : ∀ b, o = some b → f b < 2147483648) : (-4 : Int32) ≤ ov (-4) f o := by
  cases o with
  | none => exact Int32.le_refl _
  | some b =>
    show (-4 : Int32) ≤ nI (f b)
    rw [toI_le, m4_toI, nI_toInt (hf b rfl)]
    omega
/-- the new best, the new most -/
theorem fstep {p : Nat → Bool} {f : Nat → Nat} {i : Nat} (hi : i < 2147483648) (hf : ∀ d, d ≤ i → f d < 2147483648) {R : Int32 → Int32 → Option Int32} {s : Int32} (hs : s = if p i = true then nI (f i) else -4) :
    (if s ≤ ov (-4) f (fmx p f i) then (if s ≤ ov (-4) f (fmx p f i) then R (ob (-4) (fmx p f i)) (ov (-4) f (fmx p f i)) else R (ob (-4) (fmx p f i)) s)
      else (if s ≤ ov (-4) f (fmx p f i) then R (nI i) (ov (-4) f (fmx p f i)) else R (nI i) s)) = R (ob (-4) (fmx p f (i + 1))) (ov (-4) f (fmx p f (i + 1))) := by
  have hb : ∀ b, fmx p f i = some b → f b < 2147483648 := fun b hb => hf b (by have := fmx_lt hb; omega)
  rw [fmx]
  by_cases hp : p i = true
  · rw [if_pos hp] at hs
    rw [if_pos hp, hs]
    cases he : fmx p f i with
    | none =>
      have hq : ¬ nI (f i) ≤ ov (-4) f none := fun z => m4_lt (hf i (Nat.le_refl _)) z
      rw [if_neg hq, if_neg hq]
      rfl
    | some b =>
      have hq := hb b he
      have hi2 := hf i (Nat.le_refl _)
      show (if nI (f i) ≤ nI (f b) then _ else _) = _
      by_cases hz : f b < f i
      · rw [if_neg (by rw [nLE hi2 hq]; omega)]
        show (if nI (f i) ≤ nI (f b) then _ else _) = _
        rw [if_neg (by rw [nLE hi2 hq]; omega)]
        simp only [hz, if_true]
        (try rfl)
      · rw [if_pos (by rw [nLE hi2 hq]; omega)]
        show (if nI (f i) ≤ nI (f b) then _ else _) = _
        rw [if_pos (by rw [nLE hi2 hq]; omega)]
        simp only [hz, if_false]
        (try rfl)
  · rw [if_neg hp] at hs
    rw [if_neg hp, hs, if_pos (ov4_m4 hb), if_pos (ov4_m4 hb)]
theorem m_mst_loop (Y : Ym h m) (ht : t ≤ 99) {L : Nat} (hL : L < 64) {w : Option Nat} (hw : ∀ j, w = some j → j < 2147483648) : ∀ (k i n : Nat), i + k = dD m → k < n → m_Mo_mostToAll_b11 (nI L) (nI t) (ob (-4) w) h n (ob (-4) (fmx (fun d => L.testBit d) (fun d => sa m t w d) i)) (ov (-4) (fun d => sa m t w d) (fmx (fun d => L.testBit d) (fun d => sa m t w d) i)) (nI i) = some (ob (-4) (mst m t L w)) := by
  have hD := Y.1.D
  intro k
  induction k with
  | zero =>
    intro i n hi hn
    obtain ⟨n, rfl⟩ : ∃ z, n = z + 1 := ⟨n - 1, by omega⟩
    rw [m_Mo_mostToAll_b11, Y.2.1, if_pos (nI_le (by omega) (by omega)), show i = dD m by omega]
    rfl
  | succ k ih =>
    intro i n hi hn
    obtain ⟨n, rfl⟩ : ∃ z, n = z + 1 := ⟨n - 1, by omega⟩
    have hr := ih (i + 1) n (by omega) (by omega)
    have hv : ∀ d, sa m t w d < 2147483648 := fun d => by have := sa_le (t := t) (d := d) (w := w) Y.1; omega
    have fs := fun s hs => fstep (p := fun d => L.testBit d) (f := fun d => sa m t w d) (i := i) (by omega) (fun d _ => hv d) (R := fun a b => m_Mo_mostToAll_b11 (nI L) (nI t) (ob (-4) w) h n a b (nI (i + 1))) (s := s) hs
    rw [m_Mo_mostToAll_b11, Y.2.1, if_neg (nI_ge (by omega) (by omega)), m_has (by omega) (by omega), bS]
    rw [← hr]
    cases hb : L.testBit i with
    | false =>
      rw [bI_f, if_pos rfl, m_Mo_mostToAll_b44, m_Mo_mostToAll_b60, m_Mo_mostToAll_b60, nI_1]
      exact fs (-4) (by rw [if_neg (by show ¬ L.testBit i = true; rw [hb]; decide)])
    | true =>
      rw [bI_t, if_neg (by decide), m_sumOf Y ht (by omega) hw, bS, m_Mo_mostToAll_b44, m_Mo_mostToAll_b60, m_Mo_mostToAll_b60, nI_1]
      exact fs (nI (sa m t w i)) (by rw [if_pos (by show L.testBit i = true; exact hb)])
theorem m_mostToAll (Y : Ym h m) (ht : t ≤ 99) {L : Nat} (hL : L < 64) {w : Option Nat} (hw : ∀ j, w = some j → j < 2147483648) : m_Mo_mostToAll (nI L) (nI t) (ob (-4) w) h = some (ob (-4) (mst m t L w)) := by
  have hD := Y.1.D
  exact m_mst_loop Y ht hL hw (dD m) 0 FU (by omega) (by unfold FU; omega)
theorem m_mostToAll0 (Y : Ym h m) (ht : t ≤ 99) {L : Nat} (hL : L < 64) : m_Mo_mostToAll (nI L) (nI t) (-4) h = some (ob (-4) (mst m t L none)) := m_mostToAll Y ht hL (w := none) (fun j e => by cases e)
theorem m_isGuestY (Y : Ym h m) {i : Nat} (hi : i < dG m) : m_Mo_isGuest (nI i) h = some 1 := by
  have hG := Y.1.G
  unfold m_Mo_isGuest
  have e1 : (h 2 1 - 1).toInt64 = lN (dG m - 1) := by rw [Y.2.2.1, l1, nSub (by omega), nI_l (by omega)]
  rw [e1, show (0 : Int64) = lN 0 from rfl, m_inY (Nat.zero_le _) (by omega) (by omega), bS, if_pos (Or.inr rfl)]
theorem m_isGuestN (Y : Ym h m) {p : Int32} (hp : p < 0 ∨ nI (dG m) ≤ p) : m_Mo_isGuest p h = some 0 := by
  have hG := Y.1.G
  unfold m_Mo_isGuest
  have e1 : (h 2 1 - 1).toInt64 = lN (dG m - 1) := by rw [Y.2.2.1, l1, nSub (by omega), nI_l (by omega)]
  rw [e1, show (0 : Int64) = lN 0 from rfl, m_inN (by omega) (by omega) (by
    rcases hp with q | q
    · exact Or.inl q
    · refine Or.inr ⟨fun z => ?_, fun z => ?_⟩
      · have a := toI_lt.mp z; have b := toI_le.mp q; rw [nI_toInt (by omega)] at a b; omega
      · have a := toI_le.mp z; have b := toI_le.mp q; rw [nI_toInt (by omega)] at a b; omega), bS, if_pos (Or.inl rfl)]
theorem m_isDishY (Y : Ym h m) {d : Nat} (hd : d < dD m) : m_Mo_isDish (nI d) h = some 1 := by
  have hD := Y.1.D
  unfold m_Mo_isDish
  have e1 : (h 2 0 - 1).toInt64 = lN (dD m - 1) := by rw [Y.2.1, l1, nSub (by omega), nI_l (by omega)]
  rw [e1, show (0 : Int64) = lN 0 from rfl, m_inY (Nat.zero_le _) (by omega) (by omega), bS, if_pos (Or.inr rfl)]
theorem m_isDishN (Y : Ym h m) {p : Int32} (hp : p < 0 ∨ nI (dD m) ≤ p) : m_Mo_isDish p h = some 0 := by
  have hD := Y.1.D
  unfold m_Mo_isDish
  have e1 : (h 2 0 - 1).toInt64 = lN (dD m - 1) := by rw [Y.2.1, l1, nSub (by omega), nI_l (by omega)]
  rw [e1, show (0 : Int64) = lN 0 from rfl, m_inN (by omega) (by omega) (by
    rcases hp with q | q
    · exact Or.inl q
    · refine Or.inr ⟨fun z => ?_, fun z => ?_⟩
      · have a := toI_lt.mp z; have b := toI_le.mp q; rw [nI_toInt (by omega)] at a b; omega
      · have a := toI_le.mp z; have b := toI_le.mp q; rw [nI_toInt (by omega)] at a b; omega), bS, if_pos (Or.inl rfl)]
/-- the reference's now: a minute, what is gone -/
def Yn (h : Hp) (m : Mnu) (t g : Nat) : Prop := Ym h m ∧ h 4 0 = nI t ∧ t ≤ 99 ∧ h 4 1 = nI g ∧ g < 2 ^ dD m
theorem m_opp_loop (Y : Yn h m t g) {d : Nat} (hd : d < dD m) : ∀ (k i n : Nat), 0 < i → i + k = dG m → k < n → m_Mo_worstOff_b4 (nI d) h n (nI (ami (fun i => wv m t i d) i)) (nI i) = some (nI (who m t d)) := by
  have hG := Y.1.1.G
  intro k
  induction k with
  | zero =>
    intro i n h0 hi hn
    obtain ⟨n, rfl⟩ : ∃ z, n = z + 1 := ⟨n - 1, by omega⟩
    rw [m_Mo_worstOff_b4, Y.1.2.2.1, if_pos (nI_le (by omega) (by omega)), show i = dG m by omega]
    rfl
  | succ k ih =>
    intro i n h0 hi hn
    obtain ⟨n, rfl⟩ : ∃ z, n = z + 1 := ⟨n - 1, by omega⟩
    have hr := ih (i + 1) n (by omega) (by omega) (by omega)
    rw [ami] at hr
    have ha := ami_lt (fun i => wv m t i d) i h0
    have hv := wv_le (m := m) (t := t) (i := i) (d := d)
    have hv2 := wv_le (m := m) (t := t) (i := ami (fun i => wv m t i d) i) (d := d)
    rw [m_Mo_worstOff_b4, Y.1.2.2.1, if_neg (nI_ge (by omega) (by omega)), Y.2.1, m_worthAt Y.1 Y.2.2.1 (by omega) hd, bS, m_worthAt Y.1 Y.2.2.1 (by omega) hd, bS, nI_1]
    by_cases hz : wv m t i d < wv m t (ami (fun i => wv m t i d) i) d
    · rw [if_neg (by rw [nLE (by omega) (by omega)]; omega)]
      rw [if_pos hz] at hr
      exact hr
    · rw [if_pos (by rw [nLE (by omega) (by omega)]; omega)]
      rw [if_neg hz] at hr
      exact hr
theorem m_worstOff (Y : Yn h m t g) {d : Nat} (hd : d < dD m) : m_Mo_worstOff (nI d) h = some (nI (who m t d)) := by
  have hG := Y.1.1.G
  have := m_opp_loop Y hd (dG m - 1) 1 FU (by omega) (by omega) (by unfold FU; omega)
  have e : ami (fun i => wv m t i d) 1 = 0 := by rw [ami, ami]; exact if_neg (Nat.lt_irrefl _)
  rw [e] at this
  exact this
theorem m_wo (Y : Yn h m t g) {d : Nat} (hd : d < dD m) : m_Mo_worthAt (nI (who m t d)) (nI d) (nI t) h = some (nI (lw1 m t d)) := by
  rw [m_worthAt Y.1 Y.2.2.1 (who_lt Y.1.1) hd, lw1_who Y.1.1]
theorem m_lead_loop (Y : Yn h m t g) {a b : Nat} (ha : a < dD m) (hb : b < dD m) : ∀ (k i n : Nat), i + k = dG m → k < n → m_Mo_lead_b5 (nI a) (nI b) h n (ld m t a b i) (nI i) = some (ld m t a b (dG m)) := by
  have hG := Y.1.1.G
  intro k
  induction k with
  | zero =>
    intro i n hi hn
    obtain ⟨n, rfl⟩ : ∃ z, n = z + 1 := ⟨n - 1, by omega⟩
    rw [m_Mo_lead_b5, Y.1.2.2.1, if_pos (nI_le (by omega) (by omega)), show i = dG m by omega]
  | succ k ih =>
    intro i n hi hn
    obtain ⟨n, rfl⟩ : ∃ z, n = z + 1 := ⟨n - 1, by omega⟩
    have hr := ih (i + 1) n (by omega) (by omega)
    rw [ld] at hr
    have hv := wv_le (m := m) (t := t) (i := i) (d := a)
    have hv2 := wv_le (m := m) (t := t) (i := i) (d := b)
    have hs : (nI (wv m t i a) - nI (wv m t i b)).toInt = (wv m t i a : Int) - wv m t i b := pk_sub_toInt (by omega) (by omega)
    rw [m_Mo_lead_b5, Y.1.2.2.1, if_neg (nI_ge (by omega) (by omega)), Y.2.1, m_worthAt Y.1 Y.2.2.1 (by omega) ha, bS, m_worthAt Y.1 Y.2.2.1 (by omega) hb, bS, bS, nI_1]
    have z0 : (0 : Int32).toInt = 0 := rfl
    unfold cm at hr
    by_cases h1 : wv m t i a < wv m t i b
    · rw [if_pos h1] at hr
      rw [if_pos (by rw [toI_le, hs, z0]; omega), if_neg (by rw [toI_le, hs, z0]; omega), bS]
      exact hr
    · rw [if_neg h1] at hr
      by_cases h2 : wv m t i a = wv m t i b
      · rw [if_pos h2] at hr
        rw [if_pos (by rw [toI_le, hs, z0]; omega), if_pos (by rw [toI_le, hs, z0]; omega), bS]
        exact hr
      · rw [if_neg h2] at hr
        rw [if_neg (by rw [toI_le, hs, z0]; omega), bS]
        exact hr
theorem m_lead (Y : Yn h m t g) {a b : Nat} (ha : a < dD m) (hb : b < dD m) : m_Mo_lead (nI a) (nI b) h = some (ld m t a b (dG m)) := by
  have hG := Y.1.1.G
  exact m_lead_loop Y ha hb (dG m) 0 FU (by omega) (by unfold FU; omega)
theorem m_isLeft (Y : Yn h m t g) {d : Nat} (hd : d < dD m) : m_Mo_isLeft (nI d) h = some (bI ((lf (dD m) g).testBit d)) := by
  have hD := Y.1.1.D
  have hg6 := p6 hD.2 Y.2.2.2.2
  unfold m_Mo_isLeft
  rw [m_isDishY Y.1 hd, bS, if_neg (by decide), Y.2.2.2.1, m_has (by omega) (by omega), bS, lf_bit Y.2.2.2.2, decide_eq_true hd, Bool.true_and]
  cases g.testBit d <;> rfl
theorem m_isLeftN (Y : Ym h m) {p : Int32} (hp : p < 0 ∨ nI (dD m) ≤ p) : m_Mo_isLeft p h = some 0 := by
  unfold m_Mo_isLeft
  rw [m_isDishN Y hp, bS, if_pos rfl]
/-- champion -/
theorem m_ch_in (Y : Yn h m t g) {a : Nat} (ha : a < dD m) {kf : Int32 → Option Int32} (q : Bool) : ∀ (k i n : Nat), i + k = dD m → k < n → m_Mo_champion_b20 kf h n (nI a) (bI (q && wn m t (lf (dD m) g) a i)) (nI i) = if (q && wn m t (lf (dD m) g) a (dD m)) = true then some (nI a) else kf (nI (a + 1)) := by
  have hD := Y.1.1.D
  intro k
  induction k with
  | zero =>
    intro i n hi hn
    obtain ⟨n, rfl⟩ : ∃ z, n = z + 1 := ⟨n - 1, by omega⟩
    rw [m_Mo_champion_b20, Y.1.2.1, if_pos (nI_le (by omega) (by omega)), show i = dD m by omega, nI_1]
    cases (q && wn m t (lf (dD m) g) a (dD m)) <;> rfl
  | succ k ih =>
    intro i n hi hn
    obtain ⟨n, rfl⟩ : ∃ z, n = z + 1 := ⟨n - 1, by omega⟩
    have hr := ih (i + 1) n (by omega) (by omega)
    rw [show wn m t (lf (dD m) g) a (i + 1) = (wn m t (lf (dD m) g) a i && (decide (i = a) || !(lf (dD m) g).testBit i || decide (0 < ld m t a i (dG m)))) from rfl, ← Bool.and_assoc] at hr
    rw [m_Mo_champion_b20, Y.1.2.1, if_neg (nI_ge (by omega) (by omega)), nI_1]
    cases hw : (q && wn m t (lf (dD m) g) a i) with
    | false =>
      rw [hw, Bool.false_and] at hr
      rw [bI_f, if_pos rfl]
      exact hr
    | true =>
      rw [hw, Bool.true_and] at hr
      rw [bI_t, if_neg (by decide)]
      by_cases hia : i = a
      · rw [if_pos (by rw [hia])]
        rw [decide_eq_true hia] at hr
        exact hr
      · rw [if_neg (by rw [nEQ (by omega) (by omega)]; exact hia), m_isLeft Y (by omega), bS]
        rw [decide_eq_false hia] at hr
        cases hb : (lf (dD m) g).testBit i with
        | false =>
          rw [hb] at hr
          rw [bI_f, if_pos rfl]
          exact hr
        | true =>
          rw [hb] at hr
          rw [bI_t, if_neg (by decide), m_lead Y ha (by omega), bS]
          by_cases hz : 0 < ld m t a i (dG m)
          · rw [decide_eq_true hz] at hr
            rw [if_neg (by rw [toI_le]; have := toI_lt.mp hz; omega)]
            exact hr
          · rw [decide_eq_false hz] at hr
            have hz2 : ¬ (0 : Int32).toInt < (ld m t a i (dG m)).toInt := fun z => hz (toI_lt.mpr z)
            rw [if_pos (by rw [toI_le]; omega)]
            exact hr
theorem m_ch_loop (Y : Yn h m t g) : ∀ (k i n : Nat), i + k = dD m → k < n → m_Mo_champion_b2 h n (nI i) = some (fst (chp m t (lf (dD m) g)) (-4) k i) := by
  have hD := Y.1.1.D
  intro k
  induction k with
  | zero =>
    intro i n hi hn
    obtain ⟨n, rfl⟩ : ∃ z, n = z + 1 := ⟨n - 1, by omega⟩
    rw [m_Mo_champion_b2, Y.1.2.1, if_pos (nI_le (by omega) (by omega))]
    rfl
  | succ k ih =>
    intro i n hi hn
    obtain ⟨n, rfl⟩ : ∃ z, n = z + 1 := ⟨n - 1, by omega⟩
    have hr := ih (i + 1) n (by omega) (by omega)
    have hin := m_ch_in Y (a := i) (by omega) (kf := m_Mo_champion_b2 h n) ((lf (dD m) g).testBit i) (dD m) 0 FU (by omega) (by unfold FU; omega)
    rw [show wn m t (lf (dD m) g) i 0 = true from rfl, Bool.and_true] at hin
    rw [m_Mo_champion_b2, Y.1.2.1, if_neg (nI_ge (by omega) (by omega)), m_isLeft Y (by omega), bS, fst]
    show m_Mo_champion_b20 (m_Mo_champion_b2 h n) h FU (nI i) (bI _) (nI 0) = _
    rw [hin, hr]
    show _ = some (if chp m t (lf (dD m) g) i = true then _ else _)
    unfold chp
    cases ((lf (dD m) g).testBit i && wn m t (lf (dD m) g) i (dD m)) <;> rfl
theorem m_champion (Y : Yn h m t g) : m_Mo_champion h = some (fst (chp m t (lf (dD m) g)) (-4) (dD m) 0) := by
  have hD := Y.1.1.D
  exact m_ch_loop Y (dD m) 0 FU (by omega) (by unfold FU; omega)
end MF
