/-! what a menu is, what is worth how much; sums, first and last of several -/
abbrev Mnu : Type := (Nat × Nat × Nat × Nat × Nat) × (Nat → Nat) × (Nat → Nat → Nat) × (Nat → Nat)
def dD (m : Mnu) : Nat := m.1.1
def dG (m : Mnu) : Nat := m.1.2.1
def dV (m : Mnu) : Nat := m.1.2.2.1
def dS (m : Mnu) : Nat := m.1.2.2.2.1
def dH (m : Mnu) : Nat := m.1.2.2.2.2
def dK (m : Mnu) : Nat → Nat := m.2.1
def dT (m : Mnu) : Nat → Nat → Nat := m.2.2.1
def dM (m : Mnu) : Nat → Nat := m.2.2.2
def Mok (m : Mnu) : Prop := 2 ≤ dD m ∧ dD m ≤ 6 ∧ 1 ≤ dG m ∧ dG m ≤ 9 ∧ dV m ≤ 3 ∧ 1 ≤ dS m ∧ dS m ≤ 99 ∧ 1 ≤ dH m ∧ dH m ≤ 60 ∧ (∀ i, i < dG m → dK m i ≤ 3) ∧ (∀ i d, i < dG m → d < dD m → dT m i d ≤ 9) ∧ (∀ d, d < dD m → 1 ≤ dM m d ∧ dM m d ≤ 60)
def Mx (h : Hp) (q : Nat) (m : Mnu) : Prop := h q 0 = nI (dD m) ∧ h q 1 = nI (dG m) ∧ h q 2 = nI (dV m) ∧ h q 3 = nI (dS m) ∧ h q 4 = nI (dH m) ∧ (∀ i, i < dG m → h (q + 1) i = nI (dK m i)) ∧ (∀ i d, i < dG m → d < dD m → h (q + 2) (i * 6 + d) = nI (dT m i d)) ∧ (∀ d, d < dD m → h (q + 3) d = nI (dM m d))
def Mm (h : Hp) (r : Nat) (m : Mnu) : Prop := h r 0 = nI (dD m) ∧ h r 1 = nI (dG m) ∧ h r 2 = nI (dV m) ∧ h r 3 = nI (dS m) ∧ h r 4 = nI (dH m) ∧ (∀ i, i < dG m → h r (5 + i) = nI (dK m i)) ∧ (∀ i d, i < dG m → d < dD m → h r (20 + 6 * i + d) = nI (dT m i d)) ∧ (∀ d, d < dD m → h r (14 + d) = nI (dM m d))
def wv (m : Mnu) (t i d : Nat) : Nat := if dT m i d = 0 then 0 else if dT m i d + t / dH m < 9 then dT m i d + t / dH m else 9
theorem wv_le {m : Mnu} {t i d : Nat} : wv m t i d ≤ 9 := by unfold wv; split <;> (try split) <;> omega
/-- the class's moment: a menu, a minute, what is left -/
def Xm (h : Hp) (m : Mnu) (t L : Nat) : Prop := Mok m ∧ Mx h 6 m ∧ h 5 1 = nI t ∧ t ≤ 99 ∧ h 5 2 = nI L ∧ L < 64
def Ym (h : Hp) (m : Mnu) : Prop := Mok m ∧ Mm h 2 m
theorem Xm.ok {h : Hp} {m : Mnu} {t L : Nat} (X : Xm h m t L) : Mok m := X.1
theorem Xm.D {h : Hp} {m : Mnu} {t L : Nat} (X : Xm h m t L) : h 6 0 = nI (dD m) := X.2.1.1
theorem Xm.G {h : Hp} {m : Mnu} {t L : Nat} (X : Xm h m t L) : h 6 1 = nI (dG m) := X.2.1.2.1
theorem Xm.H {h : Hp} {m : Mnu} {t L : Nat} (X : Xm h m t L) : h 6 4 = nI (dH m) := X.2.1.2.2.2.2.1
theorem Xm.t {h : Hp} {m : Mnu} {t L : Nat} (X : Xm h m t L) : h 5 1 = nI t := X.2.2.1
theorem Xm.tb {h : Hp} {m : Mnu} {t L : Nat} (X : Xm h m t L) : t ≤ 99 := X.2.2.2.1
theorem Xm.L {h : Hp} {m : Mnu} {t L : Nat} (X : Xm h m t L) : h 5 2 = nI L := X.2.2.2.2.1
theorem Xm.Lb {h : Hp} {m : Mnu} {t L : Nat} (X : Xm h m t L) : L < 64 := X.2.2.2.2.2
theorem Mok.D {m : Mnu} (o : Mok m) : 2 ≤ dD m ∧ dD m ≤ 6 := ⟨o.1, o.2.1⟩
theorem Mok.G {m : Mnu} (o : Mok m) : 1 ≤ dG m ∧ dG m ≤ 9 := ⟨o.2.2.1, o.2.2.2.1⟩
theorem Mok.V {m : Mnu} (o : Mok m) : dV m ≤ 3 := o.2.2.2.2.1
theorem Mok.S {m : Mnu} (o : Mok m) : 1 ≤ dS m ∧ dS m ≤ 99 := ⟨o.2.2.2.2.2.1, o.2.2.2.2.2.2.1⟩
theorem Mok.H {m : Mnu} (o : Mok m) : 1 ≤ dH m ∧ dH m ≤ 60 := ⟨o.2.2.2.2.2.2.2.1, o.2.2.2.2.2.2.2.2.1⟩
theorem Mok.K {m : Mnu} (o : Mok m) {i : Nat} (hi : i < dG m) : dK m i ≤ 3 := o.2.2.2.2.2.2.2.2.2.1 i hi
theorem Mok.T {m : Mnu} (o : Mok m) {i d : Nat} (hi : i < dG m) (hd : d < dD m) : dT m i d ≤ 9 := o.2.2.2.2.2.2.2.2.2.2.1 i d hi hd
theorem Mok.M {m : Mnu} (o : Mok m) {d : Nat} (hd : d < dD m) : 1 ≤ dM m d ∧ dM m d ≤ 60 := o.2.2.2.2.2.2.2.2.2.2.2 d hd
theorem bS {α β : Type} {a : α} {f : α → Option β} : (some a).bind f = f a := rfl
/-- sums; the least; the first of the least; the first of the greatest among some; the last of the least among some -/
def sm (f : Nat → Nat) : Nat → Nat
  | 0 => 0
  | n + 1 => sm f n + f n
theorem sm_le {f : Nat → Nat} {c : Nat} : ∀ n, (∀ i, i < n → f i ≤ c) → sm f n ≤ c * n
  | 0, _ => Nat.zero_le _
  | n + 1, h => by
    have h1 := sm_le n (fun i hi => h i (by omega))
    have h2 := h n (by omega)
    rw [sm, Nat.mul_succ]
    omega
theorem sm_cong {f g : Nat → Nat} : ∀ n, (∀ i, i < n → f i = g i) → sm f n = sm g n
  | 0, _ => rfl
  | n + 1, h => by rw [sm, sm, sm_cong n (fun i hi => h i (by omega)), h n (by omega)]
def mnv (f : Nat → Nat) : Nat → Nat
  | 0 => 9
  | n + 1 => if f n < mnv f n then f n else mnv f n
def ami (f : Nat → Nat) : Nat → Nat
  | 0 => 0
  | n + 1 => if f n < f (ami f n) then n else ami f n
theorem mnv_le (f : Nat → Nat) : ∀ n, mnv f n ≤ 9
  | 0 => Nat.le_refl 9
  | n + 1 => by have := mnv_le f n; rw [mnv]; split <;> omega
theorem ami_lt (f : Nat → Nat) : ∀ n, 0 < n → ami f n < n
  | 0, h => h
  | 1, _ => by rw [ami, ami]; split <;> omega
  | n + 2, _ => by have := ami_lt f (n + 1) (by omega); rw [ami]; split <;> omega
theorem mn_ami {f : Nat → Nat} : ∀ n, 0 < n → (∀ i, i < n → f i ≤ 9) → mnv f n = f (ami f n)
  | 0, h, _ => absurd h (Nat.lt_irrefl 0)
  | 1, _, hf => by
    have := hf 0 (by omega)
    rw [mnv, mnv, ami, ami]
    by_cases h : f 0 < 9
    · rw [if_pos h, if_neg (Nat.lt_irrefl _)]
    · rw [if_neg h, if_neg (Nat.lt_irrefl _)]; omega
  | n + 2, _, hf => by
    have ih := mn_ami (n + 1) (by omega) (fun i hi => hf i (by omega))
    rw [mnv, ami, ih]
    by_cases h : f (n + 1) < f (ami f (n + 1))
    · rw [if_pos h, if_pos h]
    · rw [if_neg h, if_neg h]
def fmx (p : Nat → Bool) (f : Nat → Nat) : Nat → Option Nat
  | 0 => none
  | n + 1 => if p n = true then (match fmx p f n with | none => some n | some b => if f b < f n then some n else some b) else fmx p f n
def lmn (p : Nat → Bool) (f : Nat → Nat) : Nat → Option Nat
  | 0 => none
  | n + 1 => if p n = true then (match lmn p f n with | none => some n | some b => if f b < f n then some b else some n) else lmn p f n
theorem fmx_lt {p : Nat → Bool} {f : Nat → Nat} : ∀ {n b : Nat}, fmx p f n = some b → b < n ∧ p b = true
  | 0, b, h => by cases h
  | n + 1, b, h => by
    rw [fmx] at h
    by_cases hp : p n = true
    · rw [if_pos hp] at h
      cases hf : fmx p f n with
      | none => rw [hf] at h; cases h; exact ⟨by omega, hp⟩
      | some c =>
        rw [hf] at h
        have ih := fmx_lt hf
        by_cases hc : f c < f n
        · simp only [hc, if_true] at h; cases h; exact ⟨by omega, hp⟩
        · simp only [hc, if_false] at h; cases h; exact ⟨by omega, ih.2⟩
    · rw [if_neg hp] at h
      have ih := fmx_lt h
      exact ⟨by omega, ih.2⟩
theorem lmn_lt {p : Nat → Bool} {f : Nat → Nat} : ∀ {n b : Nat}, lmn p f n = some b → b < n ∧ p b = true
  | 0, b, h => by cases h
  | n + 1, b, h => by
    rw [lmn] at h
    by_cases hp : p n = true
    · rw [if_pos hp] at h
      cases hf : lmn p f n with
      | none => rw [hf] at h; cases h; exact ⟨by omega, hp⟩
      | some c =>
        rw [hf] at h
        have ih := lmn_lt hf
        by_cases hc : f c < f n
        · simp only [hc, if_true] at h; cases h; exact ⟨by omega, ih.2⟩
        · simp only [hc, if_false] at h; cases h; exact ⟨by omega, hp⟩
    · rw [if_neg hp] at h
      have ih := lmn_lt h
      exact ⟨by omega, ih.2⟩
theorem fmx_none {p : Nat → Bool} {f : Nat → Nat} : ∀ {n : Nat}, fmx p f n = none → ∀ d, d < n → p d = false
  | 0, _, d, hd => absurd hd (Nat.not_lt_zero d)
  | n + 1, h, d, hd => by
    rw [fmx] at h
    by_cases hp : p n = true
    · rw [if_pos hp] at h
      cases hf : fmx p f n with
      | none => rw [hf] at h; cases h
      | some c => rw [hf] at h; dsimp only at h; split at h <;> cases h
    · rw [if_neg hp] at h
      by_cases e : d = n
      · subst e; simpa using hp
      · exact fmx_none h d (by omega)
theorem lmn_none {p : Nat → Bool} {f : Nat → Nat} : ∀ {n : Nat}, lmn p f n = none → ∀ d, d < n → p d = false
  | 0, _, d, hd => absurd hd (Nat.not_lt_zero d)
  | n + 1, h, d, hd => by
    rw [lmn] at h
    by_cases hp : p n = true
    · rw [if_pos hp] at h
      cases hf : lmn p f n with
      | none => rw [hf] at h; cases h
      | some c => rw [hf] at h; dsimp only at h; split at h <;> cases h
    · rw [if_neg hp] at h
      by_cases e : d = n
      · subst e; simpa using hp
      · exact lmn_none h d (by omega)
/-- the first of the greatest, told by what it is -/
theorem fmx_is {p : Nat → Bool} {f : Nat → Nat} : ∀ {n b : Nat}, fmx p f n = some b → (∀ d, d < n → p d = true → f d ≤ f b) ∧ (∀ d, d < b → p d = true → f d < f b)
  | 0, b, h => by cases h
  | n + 1, b, h => by
    rw [fmx] at h
    by_cases hp : p n = true
    · rw [if_pos hp] at h
      cases hf : fmx p f n with
      | none =>
        rw [hf] at h; cases h
        have hn := fmx_none hf
        refine ⟨fun d hd hpd => ?_, fun d hd hpd => ?_⟩
        · by_cases e : d = n
          · rw [e]; exact Nat.le_refl _
          · rw [hn d (by omega)] at hpd; cases hpd
        · rw [hn d hd] at hpd; cases hpd
      | some c =>
        rw [hf] at h
        have ih := fmx_is hf
        have il := fmx_lt hf
        by_cases hc : f c < f n
        · simp only [hc, if_true] at h; cases h
          refine ⟨fun d hd hpd => ?_, fun d hd hpd => ?_⟩
          · by_cases e : d = n
            · rw [e]; exact Nat.le_refl _
            · have := ih.1 d (by omega) hpd; omega
          · have := ih.1 d hd hpd; omega
        · simp only [hc, if_false] at h; cases h
          refine ⟨fun d hd hpd => ?_, ih.2⟩
          by_cases e : d = n
          · rw [e]; omega
          · exact ih.1 d (by omega) hpd
    · rw [if_neg hp] at h
      have ih := fmx_is h
      refine ⟨fun d hd hpd => ?_, ih.2⟩
      by_cases e : d = n
      · rw [e] at hpd; exact absurd hpd hp
      · exact ih.1 d (by omega) hpd
theorem fmx_eq {p : Nat → Bool} {f : Nat → Nat} {n b : Nat} (hb : b < n) (hp : p b = true) (h1 : ∀ d, d < n → p d = true → f d ≤ f b) (h2 : ∀ d, d < b → p d = true → f d < f b) : fmx p f n = some b := by
  cases hf : fmx p f n with
  | none => rw [fmx_none hf b hb] at hp; cases hp
  | some c =>
    have il := fmx_lt hf
    have ih := fmx_is hf
    have a1 := h1 c il.1 il.2
    have a2 := ih.1 b hb hp
    by_cases e : c = b
    · rw [e]
    · rcases Nat.lt_or_ge c b with q | q
      · have := h2 c q il.2; omega
      · have := ih.2 b (by omega) hp; omega
theorem fmx_some {p : Nat → Bool} {f : Nat → Nat} {n d : Nat} (hd : d < n) (hp : p d = true) : ∃ b, fmx p f n = some b := by
  cases hf : fmx p f n with
  | none => rw [fmx_none hf d hd] at hp; cases hp
  | some b => exact ⟨b, rfl⟩
theorem lmn_some {p : Nat → Bool} {f : Nat → Nat} {n d : Nat} (hd : d < n) (hp : p d = true) : ∃ b, lmn p f n = some b := by
  cases hf : lmn p f n with
  | none => rw [lmn_none hf d hd] at hp; cases hp
  | some b => exact ⟨b, rfl⟩
theorem fmx_cong {p p' : Nat → Bool} {f f' : Nat → Nat} : ∀ n, (∀ d, d < n → p d = p' d) → (∀ d, d < n → p d = true → f d = f' d) → fmx p f n = fmx p' f' n
  | 0, _, _ => rfl
  | n + 1, h1, h2 => by
    have ih := fmx_cong n (fun d hd => h1 d (by omega)) (fun d hd => h2 d (by omega))
    rw [fmx, fmx, ← ih, ← h1 n (by omega)]
    by_cases hp : p n = true
    · rw [if_pos hp, if_pos hp]
      cases hf : fmx p f n with
      | none => rfl
      | some b =>
        have il := fmx_lt hf
        dsimp only
        rw [h2 n (by omega) hp, h2 b (by omega) il.2]
    · rw [if_neg hp, if_neg hp]
/-- last of the least, told by what it is -/
theorem lmn_is {p : Nat → Bool} {f : Nat → Nat} : ∀ {n b : Nat}, lmn p f n = some b → (∀ d, d < n → p d = true → f b ≤ f d) ∧ (∀ d, b < d → d < n → p d = true → f b < f d)
  | 0, b, h => by cases h
  | n + 1, b, h => by
    rw [lmn] at h
    by_cases hp : p n = true
    · rw [if_pos hp] at h
      cases hf : lmn p f n with
      | none =>
        rw [hf] at h; cases h
        have hn := lmn_none hf
        refine ⟨fun d hd hpd => ?_, fun d hd hd2 hpd => by omega⟩
        by_cases e : d = n
        · rw [e]; exact Nat.le_refl _
        · rw [hn d (by omega)] at hpd; cases hpd
      | some c =>
        rw [hf] at h
        have ih := lmn_is hf
        have il := lmn_lt hf
        by_cases hc : f c < f n
        · simp only [hc, if_true] at h; cases h
          refine ⟨fun d hd hpd => ?_, fun d hd hd2 hpd => ?_⟩
          · by_cases e : d = n
            · rw [e]; omega
            · exact ih.1 d (by omega) hpd
          · by_cases e : d = n
            · rw [e]; exact hc
            · exact ih.2 d hd (by omega) hpd
        · simp only [hc, if_false] at h; cases h
          refine ⟨fun d hd hpd => ?_, fun d hd hd2 hpd => by omega⟩
          by_cases e : d = n
          · rw [e]; exact Nat.le_refl _
          · have := ih.1 d (by omega) hpd; omega
    · rw [if_neg hp] at h
      have ih := lmn_is h
      refine ⟨fun d hd hpd => ?_, fun d hd hd2 hpd => ?_⟩
      · by_cases e : d = n
        · rw [e] at hpd; exact absurd hpd hp
        · exact ih.1 d (by omega) hpd
      · by_cases e : d = n
        · rw [e] at hpd; exact absurd hpd hp
        · exact ih.2 d hd (by omega) hpd
