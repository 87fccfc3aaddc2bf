/-! numbers: Int32 as naturals, conditions, bits -/
def bI (b : Bool) : Int32 := if b then 1 else 0
def ob (e : Int32) (o : Option Nat) : Int32 := match o with
  | none => e
  | some d => nI d
theorem bI_t : bI true = 1 := rfl
theorem bI_f : bI false = 0 := rfl
theorem bI_0 {b : Bool} : bI b = 0 ↔ b = false := by cases b <;> simp [bI]
theorem bI_1 {b : Bool} : bI b = 1 ↔ b = true := by cases b <;> simp [bI]
theorem bI_01 (b : Bool) : bI b = 0 ∨ bI b = 1 := by cases b <;> simp [bI]
theorem ob_n (e : Int32) : ob e none = e := rfl
theorem ob_s (e : Int32) (d : Nat) : ob e (some d) = nI d := rfl
theorem toI_lt {x y : Int32} : x < y ↔ x.toInt < y.toInt := Int32.lt_iff_toInt_lt
theorem toI_le {x y : Int32} : x ≤ y ↔ x.toInt ≤ y.toInt := Int32.le_iff_toInt_le
theorem toI_eq {x y : Int32} : x = y ↔ x.toInt = y.toInt := Int32.toInt_inj.symm
theorem m1_toI : (-1 : Int32).toInt = -1 := by decide
theorem m4_toI : (-4 : Int32).toInt = -4 := by decide
theorem nI_nm1 {a : Nat} (h : a < 2147483648) : ¬ nI a = -1 := fun e => by have := toI_eq.mp e; rw [nI_toInt h, m1_toI] at this; omega
theorem nI_nm4 {a : Nat} (h : a < 2147483648) : ¬ nI a = -4 := fun e => by have := toI_eq.mp e; rw [nI_toInt h, m4_toI] at this; omega
theorem nI_n0 {a : Nat} (h : a < 2147483648) : ¬ nI a < 0 := nI_pos h
theorem m4_lt {a : Nat} (h : a < 2147483648) : ¬ nI a ≤ -4 := fun e => by have := toI_le.mp e; rw [nI_toInt h, m4_toI] at this; omega
theorem m1_lt {a : Nat} (h : a < 2147483648) : ¬ nI a ≤ -1 := fun e => by have := toI_le.mp e; rw [nI_toInt h, m1_toI] at this; omega
theorem m1_ltT {a : Nat} (h : a < 2147483648) : (-1 : Int32) < nI a := by rw [toI_lt, nI_toInt h, m1_toI]; omega
theorem l0 : (0 : Int32) = nI 0 := rfl
theorem l1 : (1 : Int32) = nI 1 := rfl
theorem l2 : (2 : Int32) = nI 2 := rfl
theorem l3 : (3 : Int32) = nI 3 := rfl
theorem l4 : (4 : Int32) = nI 4 := rfl
theorem l5 : (5 : Int32) = nI 5 := rfl
theorem l6 : (6 : Int32) = nI 6 := rfl
theorem l8 : (8 : Int32) = nI 8 := rfl
theorem l9 : (9 : Int32) = nI 9 := rfl
theorem l10 : (10 : Int32) = nI 10 := rfl
theorem l12 : (12 : Int32) = nI 12 := rfl
theorem l14 : (14 : Int32) = nI 14 := rfl
theorem l19 : (19 : Int32) = nI 19 := rfl
theorem l20 : (20 : Int32) = nI 20 := rfl
theorem l30 : (30 : Int32) = nI 30 := rfl
theorem l44 : (44 : Int32) = nI 44 := rfl
theorem l48 : (48 : Int32) = nI 48 := rfl
theorem l57 : (57 : Int32) = nI 57 := rfl
theorem l59 : (59 : Int32) = nI 59 := rfl
theorem l60 : (60 : Int32) = nI 60 := rfl
theorem l64 : (64 : Int32) = nI 64 := rfl
theorem l74 : (74 : Int32) = nI 74 := rfl
theorem l84 : (84 : Int32) = nI 84 := rfl
theorem l90 : (90 : Int32) = nI 90 := rfl
theorem l99 : (99 : Int32) = nI 99 := rfl
theorem l100 : (100 : Int32) = nI 100 := rfl
theorem l126 : (126 : Int32) = nI 126 := rfl
theorem l200 : (200 : Int32) = nI 200 := rfl
theorem ofN (n : Nat) : Int32.ofNat n = nI n := rfl
theorem nI_cl {n : Nat} (h : n < 2147483648) : (nI n).toNatClampNeg = n := nI_clamp h
theorem nLE {a b : Nat} (ha : a < 2147483648) (hb : b < 2147483648) : (nI a ≤ nI b) = (a ≤ b) := propext (nI_leI ha hb)
theorem nLT {a b : Nat} (ha : a < 2147483648) (hb : b < 2147483648) : (nI a < nI b) = (a < b) := propext (nI_ltI ha hb)
theorem nEQ {a b : Nat} (ha : a < 2147483648) (hb : b < 2147483648) : (nI a = nI b) = (a = b) := propext (nI_eq ha hb)
theorem nSub {a b : Nat} (h : b ≤ a) : nI a - nI b = nI (a - b) := pk_sub h
theorem nMul (a b : Nat) : nI a * nI b = nI (a * b) := pk_mul a b
theorem nDiv {a d : Nat} (ha : a < 2147483648) (h0 : 0 < d) (hd : d < 2147483648) : nI a / nI d = nI (a / d) := pk_div ha h0 hd
theorem nRem {a d : Nat} (ha : a < 2147483648) (h0 : 0 < d) (hd : d < 2147483648) : nI a - nI a / nI d * nI d = nI (a % d) := pk_rem ha h0 hd
theorem inR_n {k n : Nat} (h : k < 2147483648) : inR (nI k) n ↔ k < n := by
  show (0 ≤ (nI k).toInt ∧ (nI k).toInt < (n : Int)) ↔ _
  rw [nI_toInt h]
  omega
theorem inR_y {k n : Nat} (h : k < n) (hn : n < 2147483648) : inR (nI k) n := (inR_n (by omega)).mpr h
theorem inR_no {x : Int32} {n : Nat} (h : x < 0) : ¬ inR x n := fun g => by have := toI_lt.mp h; have h0 : (0 : Int32).toInt = 0 := rfl; have := g.1; omega
/-- an int is out of a range, or a natural in it -/
theorem rng (p : Int32) (lo hi : Nat) (hh : hi < 2147483648) (hl : lo < 2147483648) : (∃ j, lo ≤ j ∧ j ≤ hi ∧ p = nI j) ∨ (p < nI lo ∨ (¬ p < nI lo ∧ ¬ p ≤ nI hi)) := by
  by_cases h1 : p < nI lo
  · exact Or.inr (Or.inl h1)
  · by_cases h2 : p ≤ nI hi
    · have h3 : ¬ p < 0 := fun z => h1 (by rw [toI_lt, nI_toInt hl]; have := toI_lt.mp z; have h0 : (0 : Int32).toInt = 0 := rfl; omega)
      obtain ⟨j, hj, rfl⟩ := nI_of h3
      rw [nLE hj hh] at h2
      rw [nLT hj hl] at h1
      exact Or.inl ⟨j, by omega, h2, rfl⟩
    · exact Or.inr (Or.inr ⟨h1, h2⟩)
theorem sh_amt : ∀ n, n < 32 → ((nI n &&& 31).toBitVec.smod 32).toNat = n := by decide +kernel
theorem bit_eq {L d : Nat} (hL : L < 2147483648) (hd : d < 31) : (nI L >>> (nI d &&& 31)) &&& 1 = nI (L / 2 ^ d % 2) := by
  rw [pk_shrN hL _ d (sh_amt d (by omega))]
  have h1 : L / 2 ^ d ≤ L := Nat.div_le_self _ _
  exact pk_andN (by omega) 1 (by decide)
theorem testB (L d : Nat) : L.testBit d = decide (L / 2 ^ d % 2 = 1) := Nat.testBit_eq_decide_div_mod_eq
theorem bit_b {L d : Nat} (hL : L < 2147483648) (hd : d < 31) : (nI L >>> (nI d &&& 31)) &&& 1 = bI (L.testBit d) := by
  rw [bit_eq hL hd, testB]
  have h : L / 2 ^ d % 2 < 2 := Nat.mod_lt _ (by decide)
  generalize L / 2 ^ d % 2 = z at h ⊢
  match z, h with
  | 0, _ => rfl
  | 1, _ => rfl
  | z + 2, h => exact absurd h (by omega)
theorem pow_n {d : Nat} (hd : d < 31) : (1 : Int32) <<< (nI d &&& 31) = nI (2 ^ d) := by
  have h2 : 2 ^ d < 2 ^ 32 := Nat.pow_lt_pow_right (by decide) (by omega)
  have := pk_shlN (n := 1) (nI d &&& 31) d (sh_amt d (by omega)) (by rw [Nat.one_mul]; exact h2)
  rw [Nat.one_mul] at this
  exact this
theorem nOr (a b : Nat) : nI a ||| nI b = nI (a ||| b) := by
  apply Int32.toBitVec_inj.mp
  show (nI a).toBitVec ||| (nI b).toBitVec = (nI (a ||| b)).toBitVec
  show BitVec.ofNat 32 a ||| BitVec.ofNat 32 b = BitVec.ofNat 32 (a ||| b)
  exact (BitVec.ofNat_or).symm
theorem nOr0 (a : Nat) : nI a ||| (0 : Int32) = nI a := by rw [l0, nOr, Nat.or_zero]
/-- the dishes that are left -/
def lf (D g : Nat) : Nat := 2 ^ D - (g + 1)
theorem lf_bit {D g d : Nat} (h : g < 2 ^ D) : (lf D g).testBit d = (decide (d < D) && !g.testBit d) := Nat.testBit_two_pow_sub_succ h d
theorem lf_lt (D g : Nat) (h : D ≤ 6) : lf D g < 64 := by
  have : 2 ^ D ≤ 2 ^ 6 := Nat.pow_le_pow_right (by decide) h
  unfold lf
  omega
theorem lf_I : ∀ D, D < 7 → ∀ g, g < 2 ^ D → ((1 : Int32) <<< (nI D &&& 31) - 1) &&& (nI g ^^^ (-1)) = nI (lf D g) := by decide +kernel
/-- without a dish -/
def clr (L d : Nat) : Nat := if L.testBit d then L - 2 ^ d else L
theorem clr_I : ∀ L, L < 64 → ∀ d, d < 6 → nI L &&& (((1 : Int32) <<< (nI d &&& 31)) ^^^ (-1)) = nI (clr L d) := by decide +kernel
theorem clr_lt : ∀ L, L < 64 → ∀ d, d < 6 → clr L d < 64 := by decide +kernel
theorem clr_bit : ∀ L, L < 64 → ∀ d, d < 6 → ∀ e, e < 6 → (clr L d).testBit e = (L.testBit e && !decide (e = d)) := by decide +kernel
/-- how many -/
def pc (L : Nat) : Nat := (if L.testBit 0 then 1 else 0) + (if L.testBit 1 then 1 else 0) + (if L.testBit 2 then 1 else 0) + (if L.testBit 3 then 1 else 0) + (if L.testBit 4 then 1 else 0) + (if L.testBit 5 then 1 else 0)
theorem pc_x0 : ∀ L, L < 64 → x_Int_bitCount (nI L) (fun _ _ => 0) = some (nI (pc L)) := by decide +kernel
theorem pc_x {L : Nat} (h : L < 64) (hp : Hp) : x_Int_bitCount (nI L) hp = some (nI (pc L)) := pc_x0 L h
theorem pc_m0 : ∀ L, L < 64 → m_Mo_ones_b4 0 (fun _ _ => 0) 8 (nI 0) (nI L) = some (nI (pc L)) := by decide +kernel
theorem ones_mono {p : Int32} {h : Hp} : ∀ (n k : Nat) (x y r : Int32), m_Mo_ones_b4 p h n x y = some r → m_Mo_ones_b4 p h (n + k) x y = some r
  | 0, k, x, y, r, e => by cases e
  | n + 1, k, x, y, r, e => by
    rw [show n + 1 + k = (n + k) + 1 by omega]
    rw [m_Mo_ones_b4] at e ⊢
    by_cases hy : y = 0
    · rw [if_pos hy] at e ⊢; exact e
    · rw [if_neg hy] at e ⊢
      exact ones_mono n k _ _ r e
theorem ones_any {p q : Int32} {h g : Hp} : ∀ (n : Nat) (x y : Int32), m_Mo_ones_b4 p h n x y = m_Mo_ones_b4 q g n x y
  | 0, x, y => rfl
  | n + 1, x, y => by
    rw [m_Mo_ones_b4, m_Mo_ones_b4]
    by_cases hy : y = 0
    · rw [if_pos hy, if_pos hy]
    · rw [if_neg hy, if_neg hy]
      exact ones_any n _ _
theorem pc_m {L : Nat} (h : L < 64) (hp : Hp) : m_Mo_ones (nI L) hp = some (nI (pc L)) := by
  unfold m_Mo_ones
  rw [ones_any (q := 0) (g := fun _ _ => 0)]
  exact ones_mono 8 392 _ _ _ (pc_m0 L h)
theorem pc_le : ∀ L, L < 64 → pc L ≤ 6 := by decide +kernel
theorem pc_clr : ∀ L, L < 64 → ∀ d, d < 6 → L.testBit d = true → pc (clr L d) + 1 = pc L := by decide +kernel
theorem pc_pos : ∀ L, L < 64 → 0 < L → 0 < pc L := by decide +kernel
theorem pc_or : ∀ L, L < 64 → ∀ d, d < 6 → L.testBit d = false → pc (L ||| 2 ^ d) = pc L + 1 := by decide +kernel
/-- the literal functions of the small tests -/
theorem x_isIn {L d : Nat} (hL : L < 2147483648) (hd : d < 31) (h : Hp) : x_Moment_isIn (nI L) (nI d) h = some (bI (L.testBit d)) := by
  unfold x_Moment_isIn
  rw [bit_b hL hd]
  cases L.testBit d <;> rfl
theorem m_has {L d : Nat} (hL : L < 2147483648) (hd : d < 31) (h : Hp) : m_Mo_has (nI L) (nI d) h = some (bI (L.testBit d)) := by
  unfold m_Mo_has
  rw [bit_b hL hd]
  cases L.testBit d <;> rfl
theorem lgc_lt (x y : Int64) : lg_cmp x y < 0 ↔ x < y := by
  unfold lg_cmp
  by_cases h1 : x > y
  · rw [if_pos h1]
    have : ¬ x < y := fun h => by have a := Int64.lt_iff_toInt_lt.mp h; have b := Int64.lt_iff_toInt_lt.mp h1; omega
    simp [this]
  · rw [if_neg h1]
    by_cases h2 : x = y
    · rw [if_pos h2]
      have : ¬ x < y := fun h => by rw [h2] at h; have a := Int64.lt_iff_toInt_lt.mp h; omega
      simp [this]
    · rw [if_neg h2]
      have : x < y := by
        rw [Int64.lt_iff_toInt_lt]
        have a : ¬ y.toInt < x.toInt := fun h => h1 (Int64.lt_iff_toInt_lt.mpr h)
        have b : x.toInt ≠ y.toInt := fun h => h2 (Int64.toInt_inj.mp h)
        omega
      simp [this]
theorem lgc_gt (x y : Int64) : 0 < lg_cmp x y ↔ y < x := by
  unfold lg_cmp
  by_cases h1 : x > y
  · rw [if_pos h1]; simp; exact h1
  · rw [if_neg h1]
    have h3 : ¬ y < x := h1
    by_cases h2 : x = y <;> simp [h2, h3] <;> (try subst h2) <;> simp_all
theorem m_in (x lo hi : Int64) (h : Hp) : m_Mo_in x lo hi h = some (bI (decide (lo ≤ x ∧ x ≤ hi))) := by
  unfold m_Mo_in
  simp only [lgc_lt, lgc_gt]
  by_cases h1 : x < lo
  · rw [if_pos h1]
    have : ¬ (lo ≤ x ∧ x ≤ hi) := fun z => by have a := Int64.lt_iff_toInt_lt.mp h1; have b := Int64.le_iff_toInt_le.mp z.1; omega
    rw [decide_eq_false this]; rfl
  · rw [if_neg h1]
    by_cases h2 : hi < x
    · rw [if_pos h2]
      have : ¬ (lo ≤ x ∧ x ≤ hi) := fun z => by have a := Int64.lt_iff_toInt_lt.mp h2; have b := Int64.le_iff_toInt_le.mp z.2; omega
      rw [decide_eq_false this]; rfl
    · rw [if_neg h2]
      have : lo ≤ x ∧ x ≤ hi := by
        rw [Int64.le_iff_toInt_le, Int64.le_iff_toInt_le]
        have a : ¬ x.toInt < lo.toInt := fun z => h1 (Int64.lt_iff_toInt_lt.mpr z)
        have b : ¬ hi.toInt < x.toInt := fun z => h2 (Int64.lt_iff_toInt_lt.mpr z)
        omega
      rw [decide_eq_true this]; rfl
theorem w64 (p : Int32) : p.toInt64.toInt = p.toInt := Int32.toInt_toInt64 p
theorem m_inP (p : Int32) {lo hi : Nat} (hl : lo < 2147483648) (hh : hi < 2147483648) (h : Hp) : m_Mo_in p.toInt64 (lN lo) (lN hi) h = some (bI (decide ((lo : Int) ≤ p.toInt ∧ p.toInt ≤ (hi : Int)))) := by
  rw [m_in]
  congr 2
  rw [decide_eq_decide, Int64.le_iff_toInt_le, Int64.le_iff_toInt_le, w64, lN_toInt hl, lN_toInt hh]
theorem m_inY {j lo hi : Nat} (h1 : lo ≤ j) (h2 : j ≤ hi) (hh : hi < 2147483648) (h : Hp) : m_Mo_in (nI j).toInt64 (lN lo) (lN hi) h = some 1 := by
  rw [m_inP _ (by omega) hh, nI_toInt (by omega), decide_eq_true (by omega)]; rfl
theorem m_inN {p : Int32} {lo hi : Nat} (hl : lo < 2147483648) (hh : hi < 2147483648) (hp : p < nI lo ∨ (¬ p < nI lo ∧ ¬ p ≤ nI hi)) (h : Hp) : m_Mo_in p.toInt64 (lN lo) (lN hi) h = some 0 := by
  rw [m_inP _ hl hh, decide_eq_false]; rfl
  rintro ⟨a, b⟩
  rcases hp with q | ⟨-, q⟩
  · have := toI_lt.mp q; rw [nI_toInt hl] at this; omega
  · exact q (toI_le.mpr (by rw [nI_toInt hh]; exact b))
theorem x_outY {j lo hi : Nat} (h1 : lo ≤ j) (h2 : j ≤ hi) (hh : hi < 2147483648) (h : Hp) : x_Nm_isOutside (nI j) (nI lo) (nI hi) h = some 0 := by
  unfold x_Nm_isOutside
  rw [if_neg (by rw [nLT (by omega) (by omega)]; omega), if_pos (by rw [nLE (by omega) hh]; exact h2)]
theorem x_outN {p lo hi : Int32} (hp : p < lo ∨ (¬ p < lo ∧ ¬ p ≤ hi)) (h : Hp) : x_Nm_isOutside p lo hi h = some 1 := by
  unfold x_Nm_isOutside
  rcases hp with q | ⟨q1, q2⟩
  · rw [if_pos q]
  · rw [if_neg q1, if_neg q2]
