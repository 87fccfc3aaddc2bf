def FU : Nat := 400
def sg (k : Nat) : Nat := if 6 ≤ k ∧ k < 10 then k + 4 else if 10 ≤ k ∧ k < 14 then k - 4 else k
def sw {α : Type} (f : Nat → α) : Nat → α := fun k => f (sg k)
def swh (h : Hp) : Hp := fun k => h (sg k)
def x_Int_compare (p0 : Int32) (p1 : Int32) (h : Hp) : Option Int32 := if p1 ≤ p0 then (if p0 = p1 then (some (0 : Int32))
  else (some (1 : Int32)))
  else (some (-1 : Int32))

def x_Int_bitCount (p0 : Int32) (h : Hp) : Option Int32 := (some (p0 - (((p0.toUInt32 >>> ((1 : Int32).toUInt32 &&& Int32.toUInt32 31)).toInt32) &&& (1431655765 : Int32)))).bind fun y9 =>
  (some ((y9 &&& (858993459 : Int32)) + (((y9.toUInt32 >>> ((2 : Int32).toUInt32 &&& Int32.toUInt32 31)).toInt32) &&& (858993459 : Int32)))).bind fun y23 =>
  (some ((y23 + ((y23.toUInt32 >>> ((4 : Int32).toUInt32 &&& Int32.toUInt32 31)).toInt32)) &&& (252645135 : Int32))).bind fun y33 =>
  (some (y33 + ((y33.toUInt32 >>> ((8 : Int32).toUInt32 &&& Int32.toUInt32 31)).toInt32))).bind fun y40 =>
  (some (y40 + ((y40.toUInt32 >>> ((16 : Int32).toUInt32 &&& Int32.toUInt32 31)).toInt32))).bind fun y47 =>
  some (y47 &&& (63 : Int32))

def x_Table_clear (q : Nat) (h : Hp) : Option Hp := (some (wr h q 0 (0 : Int32))).bind fun h_2 =>
  (some (wr h_2 q 1 (0 : Int32))).bind fun h_7 =>
  (some (wr h_7 q 2 (-1 : Int32))).bind fun h_12 =>
  (some (wr h_12 q 3 (0 : Int32))).bind fun h_17 =>
  some h_17

def x_Table_copyFrom (q : Nat) (q1_ : Nat) (h : Hp) : Option Hp := (some (wr h q 0 (h q1_ 0))).bind fun h_5 =>
  (some (wr h_5 q 1 (h_5 q1_ 1))).bind fun h_13 =>
  (some (wr h_13 q 2 (h_13 q1_ 2))).bind fun h_21 =>
  (some (wr h_21 q 3 (h_21 q1_ 3))).bind fun h_29 =>
  some h_29

def x_Table_isOrdered (q : Nat) (h : Hp) : Option Int32 := if (h q 2) = (-1 : Int32) then (some (0 : Int32))
  else (some (1 : Int32))

def x_Table_isVetoed (q : Nat) (p1 : Int32) (h : Hp) : Option Int32 := if (((h q 1) >>> (p1 &&& 31)) &&& (1 : Int32)) = (1 : Int32) then (some (1 : Int32))
  else (some (0 : Int32))

def x_Table_spentBy (q : Nat) (p1 : Int32) (h : Hp) : Option Int32 := some (((h q 3) >>> (((2 : Int32) * p1) &&& 31)) &&& (3 : Int32))

def x_Table_strike (q : Nat) (p1 : Int32) (p2 : Int32) (h : Hp) : Option Hp := (some (wr h q 1 ((h q 1) ||| ((1 : Int32) <<< (p2 &&& 31))))).bind fun h_9 =>
  (some (wr h_9 q 3 ((h_9 q 3) + ((1 : Int32) <<< (((2 : Int32) * p1) &&& 31))))).bind fun h_23 =>
  some h_23

def x_Nm_put (q0_ : Nat) (p1 : Int32) (p2 : Int32) (h : Hp) : Option Hp := if p1 < 0 then (some h)
  else (if (Int32.ofNat (xlen q0_)) ≤ p1 then (some h)
  else (if inR p1 (xlen q0_) then (some (wr h q0_ ((p1).toNatClampNeg) p2)).bind fun h_13 =>
  some h_13 else none))

def x_Menu_clear_b29  (q : Nat) : Nat → Int32 → Hp → Option Hp
  | 0, _, _ => none
  | n + 1, x1, h => if (6 : Int32) ≤ x1 then (some h)
  else ((x_Nm_put (q + 3) x1 (20 : Int32) h).bind fun h_42 =>
  x_Menu_clear_b29 q n (x1 + (1 : Int32)) h_42)
def x_Menu_clear (q : Nat) (h : Hp) : Option Hp := (some (wr h q 0 (4 : Int32))).bind fun h_2 =>
  (some (wr h_2 q 1 (0 : Int32))).bind fun h_7 =>
  (some (wr h_7 q 2 (1 : Int32))).bind fun h_12 =>
  (some (wr h_12 q 3 (90 : Int32))).bind fun h_18 =>
  (some (wr h_18 q 4 (20 : Int32))).bind fun h_24 =>
  x_Menu_clear_b29 q FU (0 : Int32) h_24

def x_Menu_hasGuest (q : Nat) (p1 : Int32) (h : Hp) : Option Int32 := if p1 < 0 then (some (0 : Int32))
  else (if (h q 1) ≤ p1 then (some (0 : Int32))
  else (some (1 : Int32)))

def x_Menu_hasDish (q : Nat) (p1 : Int32) (h : Hp) : Option Int32 := if p1 < 0 then (some (0 : Int32))
  else (if (h q 0) ≤ p1 then (some (0 : Int32))
  else (some (1 : Int32)))

def x_Menu_allDishes (q : Nat) (h : Hp) : Option Int32 := some (((1 : Int32) <<< ((h q 0) &&& 31)) - (1 : Int32))

def x_Nm_entry (q0_ : Nat) (p1 : Int32) (h : Hp) : Option Int32 := if p1 < 0 then (some (0 : Int32))
  else (if (Int32.ofNat (xlen q0_)) ≤ p1 then (some (0 : Int32))
  else (if inR p1 (xlen q0_) then some (h q0_ ((p1).toNatClampNeg)) else none))

def x_Menu_kindOf (q : Nat) (p1 : Int32) (h : Hp) : Option Int32 := (x_Nm_entry (q + 1) p1 h).bind fun r5 =>
  some r5

def x_Menu_minutesOf (q : Nat) (p1 : Int32) (h : Hp) : Option Int32 := (x_Nm_entry (q + 3) p1 h).bind fun r5 =>
  some r5

def x_Menu_isInTime (q : Nat) (p1 : Int32) (p2 : Int32) (h : Hp) : Option Int32 := (x_Menu_minutesOf q p1 h).bind fun r3 =>
  if (h q 3) < (p2 + r3) then (some (0 : Int32))
  else (some (1 : Int32))

def x_Menu_toldWorth (q : Nat) (p1 : Int32) (p2 : Int32) (h : Hp) : Option Int32 := (x_Menu_hasGuest q p1 h).bind fun r2 =>
  if r2 = 0 then (some (0 : Int32))
  else ((x_Menu_hasDish q p2 h).bind fun r10 =>
  if r10 = 0 then (some (0 : Int32))
  else ((x_Nm_entry (q + 2) ((p1 * (6 : Int32)) + p2) h).bind fun r26 =>
  some r26))

def x_Moment_value (p1 : Int32) (p2 : Int32) (h : Hp) : Option Int32 := (x_Menu_toldWorth 6 p1 p2 h).bind fun r6 =>
  if r6 = 0 then (some r6)
  else (if (1 : Int32) ≤ (h 6 4) then (if ¬ (h 6 4) = 0 then some (if (r6 + ((h 5 1) / (h 6 4))) < (9 : Int32) then (r6 + ((h 5 1) / (h 6 4))) else (9 : Int32)) else none)
  else (some r6))

def x_Moment_together_b5  (p1 : Int32) (p2 : Int32) (h : Hp) : Nat → Int32 → Int32 → Option Int32
  | 0, _, _ => none
  | n + 1, x3, x4 => if (h 6 1) ≤ x4 then (some x3)
  else (if x4 = p2 then (x_Moment_together_b5 p1 p2 h n x3 (x4 + (1 : Int32)))
  else ((x_Moment_value x4 p1 h).bind fun r28 =>
  (some (x3 + r28)).bind fun y32 =>
  x_Moment_together_b5 p1 p2 h n y32 (x4 + (1 : Int32))))
def x_Moment_together (p1 : Int32) (p2 : Int32) (h : Hp) : Option Int32 := x_Moment_together_b5 p1 p2 h FU (0 : Int32) (0 : Int32)

def x_Moment_leastWorth_b5  (p1 : Int32) (h : Hp) : Nat → Int32 → Int32 → Option Int32
  | 0, _, _ => none
  | n + 1, x2, x3 => if (h 6 1) ≤ x3 then (some x2)
  else ((x_Moment_value x3 p1 h).bind fun r20 =>
  (some (if r20 < x2 then r20 else x2)).bind fun y26 =>
  x_Moment_leastWorth_b5 p1 h n y26 (x3 + (1 : Int32)))
def x_Moment_leastWorth (p1 : Int32) (h : Hp) : Option Int32 := x_Moment_leastWorth_b5 p1 h FU (9 : Int32) (0 : Int32)

def x_Moment_opponent_b4  (p1 : Int32) (h : Hp) : Nat → Int32 → Int32 → Option Int32
  | 0, _, _ => none
  | n + 1, x2, x3 => if (h 6 1) ≤ x3 then (some x2)
  else ((x_Moment_value x3 p1 h).bind fun r18 =>
  (x_Moment_value x2 p1 h).bind fun r24 =>
  if r24 ≤ r18 then (x_Moment_opponent_b4 p1 h n x2 (x3 + (1 : Int32)))
  else (x_Moment_opponent_b4 p1 h n x3 (x3 + (1 : Int32))))
def x_Moment_opponent (p1 : Int32) (h : Hp) : Option Int32 := x_Moment_opponent_b4 p1 h FU (0 : Int32) (1 : Int32)

def x_Moment_isIn (p0 : Int32) (p1 : Int32) (h : Hp) : Option Int32 := if ((p0 >>> (p1 &&& 31)) &&& (1 : Int32)) = (1 : Int32) then (some (1 : Int32))
  else (some (0 : Int32))

def x_Moment_favourite_b4  (p1 : Int32) (h : Hp) : Nat → Int32 → Int32 → Option Int32
  | 0, _, _ => none
  | n + 1, x2, x3 => if (h 6 0) ≤ x3 then (some x2)
  else ((x_Moment_isIn (h 5 2) x3 h).bind fun r20 =>
  if r20 = 0 then (x_Moment_favourite_b4 p1 h n x2 (x3 + (1 : Int32)))
  else (if x2 = (-1 : Int32) then (x_Moment_favourite_b4 p1 h n x3 (x3 + (1 : Int32)))
  else ((x_Moment_value p1 x3 h).bind fun r34 =>
  (x_Moment_value p1 x2 h).bind fun r40 =>
  if r34 ≤ r40 then (x_Moment_favourite_b4 p1 h n x2 (x3 + (1 : Int32)))
  else (x_Moment_favourite_b4 p1 h n x3 (x3 + (1 : Int32))))))
def x_Moment_favourite (p1 : Int32) (h : Hp) : Option Int32 := x_Moment_favourite_b4 p1 h FU (-1 : Int32) (0 : Int32)

def x_Moment_leastLiked_b5  (p1 : Int32) (p2 : Int32) (h : Hp) : Nat → Int32 → Int32 → Option Int32
  | 0, _, _ => none
  | n + 1, x3, x4 => if (h 6 0) ≤ x4 then (some x3)
  else ((x_Moment_isIn p2 x4 h).bind fun r20 =>
  if r20 = 0 then (x_Moment_leastLiked_b5 p1 p2 h n x3 (x4 + (1 : Int32)))
  else (if x3 = (-1 : Int32) then (x_Moment_leastLiked_b5 p1 p2 h n x4 (x4 + (1 : Int32)))
  else ((x_Moment_value p1 x4 h).bind fun r35 =>
  (x_Moment_value p1 x3 h).bind fun r41 =>
  if r41 < r35 then (x_Moment_leastLiked_b5 p1 p2 h n x3 (x4 + (1 : Int32)))
  else (x_Moment_leastLiked_b5 p1 p2 h n x4 (x4 + (1 : Int32))))))
def x_Moment_leastLiked (p1 : Int32) (p2 : Int32) (h : Hp) : Option Int32 := x_Moment_leastLiked_b5 p1 p2 h FU (-1 : Int32) (0 : Int32)

def x_Moment_gives (p1 : Int32) (p2 : Int32) (p3 : Int32) (h : Hp) : Option Int32 := (x_Moment_isIn (h 5 2) p3 h).bind fun r5 =>
  if r5 = 0 then (some (0 : Int32))
  else (if p1 = 0 then ((x_Moment_value p2 p3 h).bind fun r47 =>
  if r47 < (5 : Int32) then (some (0 : Int32))
  else (some (1 : Int32)))
  else (if p1 = 1 then (some (1 : Int32))
  else (if p1 = 2 then (some (0 : Int32))
  else (if p1 = 3 then ((x_Moment_value p2 p3 h).bind fun r65 =>
  if r65 ≤ 0 then (some (0 : Int32))
  else ((x_Moment_favourite p2 h).bind fun r73 =>
  if r73 = p3 then (some (1 : Int32))
  else (some (0 : Int32))))
  else (some (0 : Int32))))))

def x_Moment_heartsOf_b4  (p1 : Int32) (h : Hp) : Nat → Int32 → Int32 → Option Int32
  | 0, _, _ => none
  | n + 1, x2, x3 => if (h 6 0) ≤ x3 then (some x2)
  else ((x_Menu_kindOf 6 p1 h).bind fun r21 =>
  (x_Moment_gives r21 p1 x3 h).bind fun r26 =>
  if r26 = 0 then (x_Moment_heartsOf_b4 p1 h n x2 (x3 + (1 : Int32)))
  else ((some (x2 ||| ((1 : Int32) <<< (x3 &&& 31)))).bind fun y37 =>
  x_Moment_heartsOf_b4 p1 h n y37 (x3 + (1 : Int32))))
def x_Moment_heartsOf (p1 : Int32) (h : Hp) : Option Int32 := x_Moment_heartsOf_b4 p1 h FU (0 : Int32) (0 : Int32)

def x_Moment_heartsOn_b4  (p1 : Int32) (h : Hp) : Nat → Int32 → Int32 → Option Int32
  | 0, _, _ => none
  | n + 1, x2, x3 => if (h 6 1) ≤ x3 then (some x2)
  else ((x_Menu_kindOf 6 x3 h).bind fun r21 =>
  (x_Moment_gives r21 x3 p1 h).bind fun r26 =>
  if r26 = 0 then (x_Moment_heartsOn_b4 p1 h n x2 (x3 + (1 : Int32)))
  else (x_Moment_heartsOn_b4 p1 h n (x2 + (1 : Int32)) (x3 + (1 : Int32))))
def x_Moment_heartsOn (p1 : Int32) (h : Hp) : Option Int32 := x_Moment_heartsOn_b4 p1 h FU (0 : Int32) (0 : Int32)

def x_Moment_mostDish_b4  (p1 : Int32) (h : Hp) : Nat → Int32 → Int32 → Option Int32
  | 0, _, _ => none
  | n + 1, x2, x3 => if (h 6 0) ≤ x3 then (some x2)
  else ((x_Moment_isIn (h 5 2) x3 h).bind fun r20 =>
  if r20 = 0 then (x_Moment_mostDish_b4 p1 h n x2 (x3 + (1 : Int32)))
  else (if x2 = (-1 : Int32) then (x_Moment_mostDish_b4 p1 h n x3 (x3 + (1 : Int32)))
  else ((x_Moment_together x3 p1 h).bind fun r37 =>
  (x_Moment_together x2 p1 h).bind fun r43 =>
  if r37 ≤ r43 then (x_Moment_mostDish_b4 p1 h n x2 (x3 + (1 : Int32)))
  else (x_Moment_mostDish_b4 p1 h n x3 (x3 + (1 : Int32))))))
def x_Moment_mostDish (p1 : Int32) (h : Hp) : Option Int32 := x_Moment_mostDish_b4 p1 h FU (-1 : Int32) (0 : Int32)

def x_Moment_fairRank (p1 : Int32) (h : Hp) : Option Int32 := (x_Moment_leastWorth p1 h).bind fun r4 =>
  (x_Moment_together p1 (-1 : Int32) h).bind fun r11 =>
  some (((100 : Int32) * r4) + r11)

def x_Moment_fairDish_b6   (h : Hp) : Nat → Int32 → Int32 → Int32 → Option Int32
  | 0, _, _, _ => none
  | n + 1, x1, x2, x3 => if (h 6 0) ≤ x3 then (some x1)
  else ((x_Moment_isIn (h 5 2) x3 h).bind fun r22 =>
  if r22 = 0 then (x_Moment_fairDish_b6 h n x1 x2 (x3 + (1 : Int32)))
  else ((x_Moment_fairRank x3 h).bind fun r30 =>
  if x2 < r30 then ((x_Moment_fairRank x3 h).bind fun r44 =>
  x_Moment_fairDish_b6 h n x3 r44 (x3 + (1 : Int32)))
  else (x_Moment_fairDish_b6 h n x1 x2 (x3 + (1 : Int32)))))
def x_Moment_fairDish  (h : Hp) : Option Int32 := x_Moment_fairDish_b6 h FU (-1 : Int32) (-1 : Int32) (0 : Int32)

def x_Moment_lead_b5  (p1 : Int32) (p2 : Int32) (h : Hp) : Nat → Int32 → Int32 → Option Int32
  | 0, _, _ => none
  | n + 1, x3, x4 => if (h 6 1) ≤ x4 then (some x3)
  else ((x_Moment_value x4 p1 h).bind fun r22 =>
  (x_Moment_value x4 p2 h).bind fun r29 =>
  (x_Int_compare r22 r29 h).bind fun r32 =>
  (some (x3 + r32)).bind fun y36 =>
  x_Moment_lead_b5 p1 p2 h n y36 (x4 + (1 : Int32)))
def x_Moment_lead (p1 : Int32) (p2 : Int32) (h : Hp) : Option Int32 := x_Moment_lead_b5 p1 p2 h FU (0 : Int32) (0 : Int32)

def x_Moment_winsAgainstAll_b2  (p1 : Int32) (h : Hp) : Nat → Int32 → Option Int32
  | 0, _ => none
  | n + 1, x2 => if (h 6 0) ≤ x2 then (some (1 : Int32))
  else (if x2 = p1 then (x_Moment_winsAgainstAll_b2 p1 h n (x2 + (1 : Int32)))
  else ((x_Moment_isIn (h 5 2) x2 h).bind fun r23 =>
  if r23 = 0 then (x_Moment_winsAgainstAll_b2 p1 h n (x2 + (1 : Int32)))
  else ((x_Moment_lead p1 x2 h).bind fun r32 =>
  if 0 < r32 then (x_Moment_winsAgainstAll_b2 p1 h n (x2 + (1 : Int32)))
  else (some (0 : Int32)))))
def x_Moment_winsAgainstAll (p1 : Int32) (h : Hp) : Option Int32 := x_Moment_winsAgainstAll_b2 p1 h FU (0 : Int32)

def x_Moment_winner_b2   (h : Hp) : Nat → Int32 → Option Int32
  | 0, _ => none
  | n + 1, x1 => if (h 6 0) ≤ x1 then (some (-4 : Int32))
  else ((x_Moment_isIn (h 5 2) x1 h).bind fun r18 =>
  if r18 = 0 then (x_Moment_winner_b2 h n (x1 + (1 : Int32)))
  else ((x_Moment_winsAgainstAll x1 h).bind fun r26 =>
  if r26 = 0 then (x_Moment_winner_b2 h n (x1 + (1 : Int32)))
  else (some x1)))
def x_Moment_winner  (h : Hp) : Option Int32 := x_Moment_winner_b2 h FU (0 : Int32)

def x_Moment_worstAlone (p1 : Int32) (h : Hp) : Option Int32 := (x_Moment_leastLiked p1 (h 5 2) h).bind fun r6 =>
  (x_Moment_leastLiked p1 ((h 5 2) &&& (((1 : Int32) <<< (r6 &&& 31)) ^^^ (-1 : Int32))) h).bind fun r22 =>
  (x_Moment_value p1 r6 h).bind fun r29 =>
  (x_Moment_value p1 r22 h).bind fun r35 =>
  if r35 ≤ r29 then (some (0 : Int32))
  else (some ((1 : Int32) <<< (r6 &&& 31)))

def x_Moment_nobodysWorst_b23   (h : Hp) : Nat → Int32 → Int32 → Option Int32
  | 0, _, _ => none
  | n + 1, x1, x2 => if (h 6 1) ≤ x2 then (some x1)
  else ((x_Moment_worstAlone x2 h).bind fun r37 =>
  (some (x1 &&& (r37 ^^^ (-1 : Int32)))).bind fun y43 =>
  x_Moment_nobodysWorst_b23 h n y43 (x2 + (1 : Int32)))
def x_Moment_nobodysWorst  (h : Hp) : Option Int32 := (x_Int_bitCount (h 5 2) h).bind fun r4 =>
  if (2 : Int32) ≤ r4 then ((some (h 5 2)).bind fun y20 =>
  x_Moment_nobodysWorst_b23 h FU y20 (0 : Int32))
  else (some (h 5 2))

def x_Moment_lastStanding_b46 (k7 : Int32 → Int32 → Option Int32) (p1 : Int32) (h : Hp) (x2 : Int32) (x3 : Int32) (s0 : Int32) : Option Int32 := (x_Moment_leastLiked s0 x2 h).bind fun r54 =>
  (some (x2 &&& (((1 : Int32) <<< (r54 &&& 31)) ^^^ (-1 : Int32)))).bind fun y61 =>
  k7 y61 (x3 + (1 : Int32))
def x_Moment_lastStanding_b7  (p1 : Int32) (h : Hp) : Nat → Int32 → Int32 → Option Int32
  | 0, _, _ => none
  | n + 1, x2, x3 => if (6 : Int32) ≤ x3 then ((x_Moment_leastLiked p1 x2 h).bind fun r71 =>
  some r71)
  else ((x_Int_bitCount x2 h).bind fun r14 =>
  if r14 ≤ (1 : Int32) then ((x_Moment_leastLiked p1 x2 h).bind fun r71 =>
  some r71)
  else (if (h 6 1) ≤ 0 then (x_Moment_lastStanding_b46 (x_Moment_lastStanding_b7 p1 h n) p1 h x2 x3 (0 : Int32))
  else (if ¬ (h 6 1) = 0 then x_Moment_lastStanding_b46 (x_Moment_lastStanding_b7 p1 h n) p1 h x2 x3 ((p1 + x3) - (p1 + x3) / (h 6 1) * (h 6 1)) else none)))
def x_Moment_lastStanding (p1 : Int32) (h : Hp) : Option Int32 := (some (h 5 2)).bind fun y4 =>
  x_Moment_lastStanding_b7 p1 h FU y4 (0 : Int32)

def x_Moment_pairWorth_b5  (p1 : Int32) (p2 : Int32) (h : Hp) : Nat → Int32 → Int32 → Option Int32
  | 0, _, _ => none
  | n + 1, x3, x4 => if (h 6 1) ≤ x4 then (some x3)
  else ((x_Moment_value x4 p1 h).bind fun r22 =>
  (x_Moment_value x4 p2 h).bind fun r29 =>
  (some (x3 + (if r22 < r29 then r29 else r22))).bind fun y36 =>
  x_Moment_pairWorth_b5 p1 p2 h n y36 (x4 + (1 : Int32)))
def x_Moment_pairWorth (p1 : Int32) (p2 : Int32) (h : Hp) : Option Int32 := x_Moment_pairWorth_b5 p1 p2 h FU (0 : Int32) (0 : Int32)

def x_Moment_bestPair_b22 (k6 : Int32 → Int32 → Int32 → Option Int32)  (h : Hp) : Nat → Int32 → Int32 → Int32 → Int32 → Option Int32
  | 0, _, _, _, _ => none
  | n + 1, x1, x2, x3, x4 => if (h 6 0) ≤ x4 then (k6 x1 x2 (x3 + (1 : Int32)))
  else ((x_Moment_isIn (h 5 2) x3 h).bind fun r39 =>
  if r39 = 0 then (x_Moment_bestPair_b22 k6 h n x1 x2 x3 (x4 + (1 : Int32)))
  else ((x_Moment_isIn (h 5 2) x4 h).bind fun r51 =>
  if r51 = 0 then (x_Moment_bestPair_b22 k6 h n x1 x2 x3 (x4 + (1 : Int32)))
  else ((x_Moment_pairWorth x3 x4 h).bind fun r61 =>
  if x2 < r61 then ((some (((8 : Int32) * x3) + x4)).bind fun y78 =>
  (x_Moment_pairWorth x3 x4 h).bind fun r83 =>
  x_Moment_bestPair_b22 k6 h n y78 r83 x3 (x4 + (1 : Int32)))
  else (x_Moment_bestPair_b22 k6 h n x1 x2 x3 (x4 + (1 : Int32))))))
def x_Moment_bestPair_b6   (h : Hp) : Nat → Int32 → Int32 → Int32 → Option Int32
  | 0, _, _, _ => none
  | n + 1, x1, x2, x3 => if (h 6 0) ≤ x3 then (some x1)
  else ((some (x3 + (1 : Int32))).bind fun y20 =>
  x_Moment_bestPair_b22 (x_Moment_bestPair_b6 h n) h FU x1 x2 x3 y20)
def x_Moment_bestPair  (h : Hp) : Option Int32 := x_Moment_bestPair_b6 h FU (-1 : Int32) (-1 : Int32) (0 : Int32)

def x_Moment_welcomeDishes_b4   (h : Hp) : Nat → Int32 → Int32 → Option Int32
  | 0, _, _ => none
  | n + 1, x1, x2 => if (h 6 0) ≤ x2 then (some x1)
  else ((x_Moment_isIn (h 5 2) x2 h).bind fun r20 =>
  if r20 = 0 then (x_Moment_welcomeDishes_b4 h n x1 (x2 + (1 : Int32)))
  else ((x_Moment_leastWorth x2 h).bind fun r28 =>
  if r28 ≤ 0 then (x_Moment_welcomeDishes_b4 h n x1 (x2 + (1 : Int32)))
  else (x_Moment_welcomeDishes_b4 h n (x1 + (1 : Int32)) (x2 + (1 : Int32)))))
def x_Moment_welcomeDishes  (h : Hp) : Option Int32 := x_Moment_welcomeDishes_b4 h FU (0 : Int32) (0 : Int32)

def x_Notes_get (p1 : Int32) (h : Hp) : Option (Option Nat) := if p1 < 0 then (some none)
  else (if (8 : Int32) ≤ p1 then (some none)
  else (if inR p1 8 then some (some (30 + p1.toNatClampNeg)) else none))

def x_Notes_next  (h : Hp) : Option (Option Nat × Hp) := (x_Notes_get (h 28 0) h).bind fun r5 =>
  r5.elim (some (none, h)) (fun n5 => (some (wr h 28 0 ((h 28 0) + (1 : Int32)))).bind fun h_20 =>
  some ((some n5), h_20))

def x_Pile_get_a (p1 : Int32) (h : Hp) : Option Nat := if p1 < 0 then (none)
  else (if (8 : Int32) ≤ p1 then (none)
  else (if inR p1 8 then some (16 + p1.toNatClampNeg) else none))

def x_Pile_copy (q0_ : Nat) (q1_ : Nat) (h : Hp) : Option Hp := (x_Table_copyFrom q1_ q0_ h).bind fun h_10 =>
  some h_10

def x_Pile_dropLowest_a_b2   : Nat → Int32 → Hp → Option Hp
  | 0, _, _ => none
  | n + 1, x1, h => if (8 : Int32) ≤ x1 then ((some (wr h 14 0 ((8 : Int32) - (1 : Int32)))).bind fun h_40 =>
  some h_40)
  else ((x_Pile_get_a x1 h).bind fun r13 =>
  (x_Pile_get_a (x1 - (1 : Int32)) h).bind fun r20 =>
  (x_Pile_copy r13 r20 h).bind fun h_23 =>
  x_Pile_dropLowest_a_b2 n (x1 + (1 : Int32)) h_23)
def x_Pile_dropLowest_a  (h : Hp) : Option Hp := x_Pile_dropLowest_a_b2 FU (1 : Int32) h

def x_Pile_push_a_b16  (q1_ : Nat) (h : Hp) : Option Hp := (x_Pile_get_a (h 14 0) h).bind fun r22 =>
  (x_Pile_copy q1_ r22 h).bind fun h_25 =>
  (some (wr h_25 14 0 ((h_25 14 0) + (1 : Int32)))).bind fun h_35 =>
  some h_35
def x_Pile_push_a (q1_ : Nat) (h : Hp) : Option Hp := if (h 14 0) < (8 : Int32) then (x_Pile_push_a_b16 q1_ h)
  else ((x_Pile_dropLowest_a h).bind fun h_13 =>
  x_Pile_push_a_b16 q1_ h_13)

def x_Pile_popInto_a (q1_ : Nat) (h : Hp) : Option (Int32 × Hp) := if (1 : Int32) ≤ (h 14 0) then ((some (wr h 14 0 ((h 14 0) - (1 : Int32)))).bind fun h_17 =>
  (x_Pile_get_a (h_17 14 0) h_17).bind fun r25 =>
  (x_Pile_copy r25 q1_ h_17).bind fun h_29 =>
  some ((1 : Int32), h_29))
  else (some ((0 : Int32), h))

def x_Pile_get_b (p1 : Int32) (h : Hp) : Option Nat := if p1 < 0 then (none)
  else (if (2 : Int32) ≤ p1 then (none)
  else (if inR p1 2 then some (26 + p1.toNatClampNeg) else none))

def x_Pile_dropLowest_b_b2   : Nat → Int32 → Hp → Option Hp
  | 0, _, _ => none
  | n + 1, x1, h => if (2 : Int32) ≤ x1 then ((some (wr h 24 0 ((2 : Int32) - (1 : Int32)))).bind fun h_40 =>
  some h_40)
  else ((x_Pile_get_b x1 h).bind fun r13 =>
  (x_Pile_get_b (x1 - (1 : Int32)) h).bind fun r20 =>
  (x_Pile_copy r13 r20 h).bind fun h_23 =>
  x_Pile_dropLowest_b_b2 n (x1 + (1 : Int32)) h_23)
def x_Pile_dropLowest_b  (h : Hp) : Option Hp := x_Pile_dropLowest_b_b2 FU (1 : Int32) h

def x_Pile_push_b_b16  (q1_ : Nat) (h : Hp) : Option Hp := (x_Pile_get_b (h 24 0) h).bind fun r22 =>
  (x_Pile_copy q1_ r22 h).bind fun h_25 =>
  (some (wr h_25 24 0 ((h_25 24 0) + (1 : Int32)))).bind fun h_35 =>
  some h_35
def x_Pile_push_b (q1_ : Nat) (h : Hp) : Option Hp := if (h 24 0) < (2 : Int32) then (x_Pile_push_b_b16 q1_ h)
  else ((x_Pile_dropLowest_b h).bind fun h_13 =>
  x_Pile_push_b_b16 q1_ h_13)

def x_Pile_popInto_b (q1_ : Nat) (h : Hp) : Option (Int32 × Hp) := if (1 : Int32) ≤ (h 24 0) then ((some (wr h 24 0 ((h 24 0) - (1 : Int32)))).bind fun h_17 =>
  (x_Pile_get_b (h_17 24 0) h_17).bind fun r25 =>
  (x_Pile_copy r25 q1_ h_17).bind fun h_29 =>
  some ((1 : Int32), h_29))
  else (some ((0 : Int32), h))

def x_Reader_append (p1 : Int32) (h : Hp) : Option Hp := if (h 1 1) < (200 : Int32) then ((x_Nm_put 2 (h 1 1) p1 h).bind fun h_20 =>
  (some (wr h_20 1 1 ((h_20 1 1) + (1 : Int32)))).bind fun h_30 =>
  some h_30)
  else (some h)

def x_Reader_peek  (h : Hp) : Option Int32 := if (h 1 2) < 0 then (some (-1 : Int32))
  else (if (h 1 1) ≤ (h 1 2) then (some (-1 : Int32))
  else (if (200 : Int32) ≤ (h 1 2) then (some (-1 : Int32))
  else (if inR (h 1 2) (xlen 2) then some (h 2 ((h 1 2).toNatClampNeg)) else none)))

def x_Nm_isOutside (p0 : Int32) (p1 : Int32) (p2 : Int32) (h : Hp) : Option Int32 := if p0 < p1 then (some (1 : Int32))
  else (if p0 ≤ p2 then (some (0 : Int32))
  else (some (1 : Int32)))

def x_Reader_figure  (h : Hp) : Option (Int32 × Hp) := (x_Reader_peek h).bind fun r1 =>
  (x_Nm_isOutside r1 (48 : Int32) (57 : Int32) h).bind fun r10 =>
  if r10 = 0 then ((some (wr h 1 2 ((h 1 2) + (1 : Int32)))).bind fun h_25 =>
  some ((r1 - (48 : Int32)), h_25))
  else (some ((-1 : Int32), h))

def x_Reader_number  (h : Hp) : Option (Int32 × Hp) := (x_Reader_figure h).bind fun z1 =>
  if z1.1 = (-1 : Int32) then (some ((-1 : Int32), z1.2))
  else ((x_Reader_figure z1.2).bind fun z13 =>
  if z13.1 = (-1 : Int32) then (some (z1.1, z13.2))
  else (some ((((10 : Int32) * z1.1) + z13.1), z13.2)))

def x_Reader_skip (p1 : Int32) (h : Hp) : Option (Int32 × Hp) := (x_Reader_peek h).bind fun r1 =>
  if r1 = p1 then ((some (wr h 1 2 ((h 1 2) + (1 : Int32)))).bind fun h_17 =>
  some ((1 : Int32), h_17))
  else (some ((0 : Int32), h))

def x_Reader_readDishes (q1_ : Nat) (h : Hp) : Option (Int32 × Hp) := (x_Reader_number h).bind fun z2 =>
  (some (wr z2.2 q1_ 0 z2.1)).bind fun h_5 =>
  (x_Nm_isOutside (h_5 q1_ 0) (2 : Int32) (6 : Int32) h_5).bind fun r15 =>
  if r15 = 0 then ((x_Reader_skip (59 : Int32) h_5).bind fun z24 =>
  if z24.1 = 0 then (some ((0 : Int32), z24.2))
  else (some ((1 : Int32), z24.2)))
  else (some ((0 : Int32), h_5))

def x_Reader_readGuest_b41  (q1_ : Nat) : Nat → Int32 → Int32 → Hp → Option (Int32 × Hp)
  | 0, _, _, _ => none
  | n + 1, x2, x4, h => if (h q1_ 0) ≤ x4 then ((some (wr h q1_ 1 ((h q1_ 1) + (1 : Int32)))).bind fun h_93 =>
  (x_Reader_skip (59 : Int32) h_93).bind fun z99 =>
  if (z99.1 = 0 ∨ z99.1 = 1) then some (z99.1, z99.2) else none)
  else ((x_Reader_figure h).bind fun z51 =>
  if z51.1 = (-1 : Int32) then (some ((0 : Int32), z51.2))
  else ((x_Nm_put (q1_ + 2) ((x2 * (6 : Int32)) + x4) z51.1 z51.2).bind fun h_77 =>
  x_Reader_readGuest_b41 q1_ n x2 (x4 + (1 : Int32)) h_77))
def x_Reader_readGuest (q1_ : Nat) (h : Hp) : Option (Int32 × Hp) := (some (h q1_ 1)).bind fun y4 =>
  if y4 < (9 : Int32) then ((x_Reader_figure h).bind fun z14 =>
  (x_Nm_isOutside z14.1 (0 : Int32) (3 : Int32) z14.2).bind fun r21 =>
  if r21 = 0 then ((x_Nm_put (q1_ + 1) y4 z14.1 z14.2).bind fun h_35 =>
  x_Reader_readGuest_b41 q1_ FU y4 (0 : Int32) h_35)
  else (some ((0 : Int32), z14.2)))
  else (some ((0 : Int32), h))

def x_Reader_readMinutes (q1_ : Nat) (h : Hp) : Option (Int32 × Hp) := (x_Reader_number h).bind fun z1 =>
  (x_Menu_hasDish q1_ z1.1 z1.2).bind fun r7 =>
  if r7 = 0 then (some ((0 : Int32), z1.2))
  else ((x_Reader_skip (44 : Int32) z1.2).bind fun z16 =>
  if z16.1 = 0 then (some ((0 : Int32), z16.2))
  else ((x_Reader_number z16.2).bind fun z25 =>
  (x_Nm_put (q1_ + 3) z1.1 z25.1 z25.2).bind fun h_35 =>
  (x_Nm_isOutside z25.1 (1 : Int32) (60 : Int32) h_35).bind fun r42 =>
  if r42 = 0 then ((x_Reader_skip (59 : Int32) h_35).bind fun z51 =>
  if z51.1 = 0 then (some ((0 : Int32), z51.2))
  else (some ((1 : Int32), z51.2)))
  else (some ((0 : Int32), h_35))))

def x_Reader_readVetoes (q1_ : Nat) (h : Hp) : Option (Int32 × Hp) := (x_Reader_number h).bind fun z2 =>
  (some (wr z2.2 q1_ 2 z2.1)).bind fun h_5 =>
  (x_Nm_isOutside (h_5 q1_ 2) (0 : Int32) (3 : Int32) h_5).bind fun r14 =>
  if r14 = 0 then ((x_Reader_skip (59 : Int32) h_5).bind fun z23 =>
  if z23.1 = 0 then (some ((0 : Int32), z23.2))
  else (some ((1 : Int32), z23.2)))
  else (some ((0 : Int32), h_5))

def x_Reader_readShuts (q1_ : Nat) (h : Hp) : Option (Int32 × Hp) := (x_Reader_number h).bind fun z2 =>
  (some (wr z2.2 q1_ 3 z2.1)).bind fun h_5 =>
  (x_Nm_isOutside (h_5 q1_ 3) (1 : Int32) (99 : Int32) h_5).bind fun r15 =>
  if r15 = 0 then ((x_Reader_skip (59 : Int32) h_5).bind fun z24 =>
  if z24.1 = 0 then (some ((0 : Int32), z24.2))
  else (some ((1 : Int32), z24.2)))
  else (some ((0 : Int32), h_5))

def x_Reader_readHunger (q1_ : Nat) (h : Hp) : Option (Int32 × Hp) := (x_Reader_number h).bind fun z2 =>
  (some (wr z2.2 q1_ 4 z2.1)).bind fun h_5 =>
  (x_Nm_isOutside (h_5 q1_ 4) (1 : Int32) (60 : Int32) h_5).bind fun r15 =>
  if r15 = 0 then ((x_Reader_skip (59 : Int32) h_5).bind fun z24 =>
  if z24.1 = 0 then (some ((0 : Int32), z24.2))
  else (some ((1 : Int32), z24.2)))
  else (some ((0 : Int32), h_5))

def x_Reader_readItem (q1_ : Nat) (h : Hp) : Option (Int32 × Hp) := (x_Reader_peek h).bind fun r1 =>
  (some (wr h 1 2 ((h 1 2) + (1 : Int32)))).bind fun h_12 =>
  if r1 = (100 : Int32) then (if (h_12 1 3) = 0 then (some ((0 : Int32), h_12))
  else ((x_Reader_readDishes q1_ h_12).bind fun z30 =>
  if z30.1 = 0 then (some ((0 : Int32), z30.2))
  else (some ((1 : Int32), z30.2))))
  else ((some (wr h_12 1 3 (0 : Int32))).bind fun h_44 =>
  if r1 = 103 then ((x_Reader_readGuest q1_ h_44).bind fun z102 =>
  if (z102.1 = 0 ∨ z102.1 = 1) then some (z102.1, z102.2) else none)
  else (if r1 = 104 then ((x_Reader_readHunger q1_ h_44).bind fun z126 =>
  if (z126.1 = 0 ∨ z126.1 = 1) then some (z126.1, z126.2) else none)
  else (if r1 = 115 then ((x_Reader_readShuts q1_ h_44).bind fun z120 =>
  if (z120.1 = 0 ∨ z120.1 = 1) then some (z120.1, z120.2) else none)
  else (if r1 = 116 then ((x_Reader_readMinutes q1_ h_44).bind fun z108 =>
  if (z108.1 = 0 ∨ z108.1 = 1) then some (z108.1, z108.2) else none)
  else (if r1 = 118 then ((x_Reader_readVetoes q1_ h_44).bind fun z114 =>
  if (z114.1 = 0 ∨ z114.1 = 1) then some (z114.1, z114.2) else none)
  else (some ((0 : Int32), h_44)))))))

def x_Reader_readInto_b16  (q1_ : Nat) : Nat → Int32 → Hp → Option (Int32 × Hp)
  | 0, _, _ => none
  | n + 1, x2, h => if (200 : Int32) ≤ x2 then (some ((-4 : Int32), h))
  else (if (h 1 1) ≤ (h 1 2) then (some ((-4 : Int32), h))
  else ((some (h 1 2)).bind fun y38 =>
  (x_Reader_readItem q1_ h).bind fun z41 =>
  if z41.1 = 0 then (some (y38, z41.2))
  else (x_Reader_readInto_b16 q1_ n (x2 + (1 : Int32)) z41.2)))
def x_Reader_readInto (q1_ : Nat) (h : Hp) : Option (Int32 × Hp) := (x_Menu_clear q1_ h).bind fun h_1 =>
  (some (wr h_1 1 2 (0 : Int32))).bind fun h_6 =>
  (some (wr h_6 1 3 (1 : Int32))).bind fun h_11 =>
  x_Reader_readInto_b16 q1_ FU (0 : Int32) h_11

def x_Nm_write (p1 : Int32) (h : Hp) : Option (Int32 × Hp) := (x_Nm_isOutside p1 (32 : Int32) (126 : Int32) h).bind fun r5 =>
  if r5 = 0 then (if (h 1 1) < (200 : Int32) then ((x_Reader_append p1 h).bind fun h_34 =>
  some (h_34 1 1, h_34))
  else (some ((-3 : Int32), h)))
  else (some ((-1 : Int32), h))

def x_Nm_wipe  (h : Hp) : Option (Int32 × Hp) := (some (h 1 1)).bind fun y7 =>
  (some (wr h 1 1 (0 : Int32))).bind fun h_13 =>
  some (y7, h_13)

def x_Nm_fault  (h : Hp) : Option (Int32 × Hp) := (x_Reader_readInto 10 h).bind fun z8 =>
  some (z8.1, z8.2)

def x_Nm_lay  (h : Hp) : Option (Int32 × Hp) := (x_Reader_readInto 10 h).bind fun z8 =>
  if z8.1 = (-4 : Int32) then (if (z8.2 10 1) = 0 then (some ((-2 : Int32), z8.2))
  else ((x_Table_clear 3 z8.2).bind fun h_51 =>
  (some (wr h_51 14 0 (0 : Int32))).bind fun h_59 =>
  (some (wr h_59 24 0 (0 : Int32))).bind fun h_67 =>
  (some (wr h_67 28 0 (0 : Int32))).bind fun h_75 =>
  some (h_75 10 1, swh h_75)))
  else (some ((-2 : Int32), z8.2))

def x_Nm_vetoesLeft (q1_ : Nat) (p2 : Int32) (h : Hp) : Option Int32 := (x_Table_spentBy q1_ p2 h).bind fun r9 =>
  some ((h 6 2) - r9)

def x_Nm_at (p1 : Int32) (p2 : Int32) (h : Hp) : Option Hp := (some (wr h 5 1 p1)).bind fun h_16 =>
  (x_Menu_allDishes 6 h_16).bind fun r27 =>
  (some (wr h_16 5 2 (r27 &&& (p2 ^^^ (-1 : Int32))))).bind fun h_34 =>
  some h_34

def x_Nm_now  (h : Hp) : Option Hp := (x_Nm_at (h 3 0) (h 3 1) h).bind fun h_15 =>
  some h_15

def x_Nm_guest (p1 : Int32) (p2 : Int32) (h : Hp) : Option (Int32 × Hp) := (x_Menu_hasGuest 6 p1 h).bind fun r5 =>
  if r5 = 0 then (some ((-1 : Int32), h))
  else (if p2 = 0 then ((x_Menu_kindOf 6 p1 h).bind fun r49 =>
  some (r49, h))
  else (if p2 = 1 then ((x_Nm_vetoesLeft 3 p1 h).bind fun r59 =>
  some (r59, h))
  else (if p2 = 2 then ((x_Nm_now h).bind fun h_64 =>
  (x_Moment_heartsOf p1 h_64).bind fun r68 =>
  some (r68, h_64))
  else (if p2 = 3 then ((x_Nm_now h).bind fun h_73 =>
  (x_Moment_favourite p1 h_73).bind fun r77 =>
  some (r77, h_73))
  else (some ((-1 : Int32), h))))))

def x_Nm_dish (p1 : Int32) (p2 : Int32) (h : Hp) : Option (Int32 × Hp) := (x_Menu_hasDish 6 p1 h).bind fun r5 =>
  if r5 = 0 then (some ((-1 : Int32), h))
  else (if p2 = 0 then ((x_Menu_minutesOf 6 p1 h).bind fun r49 =>
  some (r49, h))
  else (if p2 = 1 then ((x_Table_isVetoed 3 p1 h).bind fun r58 =>
  if r58 = 0 then (some ((0 : Int32), h))
  else (some ((1 : Int32), h)))
  else (if p2 = 2 then ((x_Nm_now h).bind fun h_71 =>
  (x_Moment_heartsOn p1 h_71).bind fun r75 =>
  some (r75, h_71))
  else (if p2 = 3 then ((x_Nm_now h).bind fun h_80 =>
  (x_Moment_together p1 (-1 : Int32) h_80).bind fun r85 =>
  some (r85, h_80))
  else (some ((-1 : Int32), h))))))

def x_Nm_worth (p1 : Int32) (p2 : Int32) (h : Hp) : Option (Int32 × Hp) := (x_Menu_hasGuest 6 p1 h).bind fun r5 =>
  if r5 = 0 then (some ((-1 : Int32), h))
  else ((x_Menu_hasDish 6 p2 h).bind fun r16 =>
  if r16 = 0 then (some ((-1 : Int32), h))
  else ((x_Nm_now h).bind fun h_25 =>
  (x_Moment_value p1 p2 h_25).bind fun r30 =>
  some (r30, h_25)))

def x_Nm_pass (p1 : Int32) (h : Hp) : Option (Int32 × Hp) := (x_Nm_isOutside p1 (1 : Int32) (30 : Int32) h).bind fun r4 =>
  if r4 = 0 then ((x_Table_isOrdered 3 h).bind fun r16 =>
  if r16 = 0 then (if ((h 3 0) + p1) ≤ (99 : Int32) then ((x_Pile_push_a 3 h).bind fun h_47 =>
  (some (wr h_47 3 0 ((h_47 3 0) + p1))).bind fun h_60 =>
  some (h_60 3 0, h_60))
  else (some ((-2 : Int32), h)))
  else (some ((-2 : Int32), h)))
  else (some ((-1 : Int32), h))

def x_Nm_dishesLeft (q1_ : Nat) (h : Hp) : Option Int32 := (x_Menu_allDishes 6 h).bind fun r4 =>
  (x_Int_bitCount (r4 &&& ((h q1_ 1) ^^^ (-1 : Int32))) h).bind fun r14 =>
  some r14

def x_Nm_veto (p1 : Int32) (p2 : Int32) (h : Hp) : Option (Int32 × Hp) := (x_Menu_hasGuest 6 p1 h).bind fun r5 =>
  if r5 = 0 then (some ((-1 : Int32), h))
  else ((x_Menu_hasDish 6 p2 h).bind fun r16 =>
  if r16 = 0 then (some ((-1 : Int32), h))
  else ((x_Table_isOrdered 3 h).bind fun r28 =>
  if r28 = 0 then ((x_Table_isVetoed 3 p2 h).bind fun r39 =>
  if r39 = 0 then ((x_Nm_vetoesLeft 3 p1 h).bind fun r54 =>
  if r54 < (1 : Int32) then (some ((-2 : Int32), h))
  else ((x_Nm_dishesLeft 3 h).bind fun r66 =>
  if (2 : Int32) ≤ r66 then ((x_Pile_push_a 3 h).bind fun h_84 =>
  (x_Table_strike 3 p1 p2 h_84).bind fun h_93 =>
  (x_Nm_dishesLeft 3 h_93).bind fun r101 =>
  some (r101, h_93))
  else (some ((-2 : Int32), h))))
  else (some ((-2 : Int32), h)))
  else (some ((-2 : Int32), h))))

def x_Nm_order (p1 : Int32) (h : Hp) : Option (Int32 × Hp) := (x_Menu_hasDish 6 p1 h).bind fun r5 =>
  if r5 = 0 then (some ((-1 : Int32), h))
  else ((x_Table_isOrdered 3 h).bind fun r17 =>
  if r17 = 0 then ((x_Table_isVetoed 3 p1 h).bind fun r28 =>
  if r28 = 0 then ((x_Menu_isInTime 6 p1 (h 3 0) h).bind fun r49 =>
  if r49 = 0 then (some ((-2 : Int32), h))
  else ((x_Pile_push_a 3 h).bind fun h_66 =>
  (some (wr h_66 3 2 p1)).bind fun h_74 =>
  (x_Menu_minutesOf 6 p1 h_74).bind fun r89 =>
  some (((h_74 3 0) + r89), h_74)))
  else (some ((-2 : Int32), h)))
  else (some ((-2 : Int32), h)))

def x_Nm_undo  (h : Hp) : Option (Int32 × Hp) := (x_Pile_popInto_a 3 h).bind fun z8 =>
  if z8.1 = 0 then (some ((-2 : Int32), z8.2))
  else (some (z8.2 14 0, z8.2))

def x_Nm_most (p1 : Int32) (h : Hp) : Option (Int32 × Hp) := (x_Nm_isOutside p1 (0 : Int32) (1 : Int32) h).bind fun r3 =>
  if r3 = 0 then ((x_Nm_now h).bind fun h_12 =>
  (x_Moment_mostDish (-1 : Int32) h_12).bind fun r18 =>
  if p1 = 0 then (some (r18, h_12))
  else ((x_Moment_together r18 (-1 : Int32) h_12).bind fun r33 =>
  some (r33, h_12)))
  else (some ((-1 : Int32), h))

def x_Nm_fair (p1 : Int32) (h : Hp) : Option (Int32 × Hp) := (x_Nm_isOutside p1 (0 : Int32) (1 : Int32) h).bind fun r3 =>
  if r3 = 0 then ((x_Nm_now h).bind fun h_12 =>
  (x_Moment_fairDish h_12).bind fun r17 =>
  if p1 = 0 then (some (r17, h_12))
  else ((x_Moment_leastWorth r17 h_12).bind fun r31 =>
  some (r31, h_12)))
  else (some ((-1 : Int32), h))

def x_Nm_isOnOffer (p1 : Int32) (h : Hp) : Option Int32 := (x_Menu_hasDish 6 p1 h).bind fun r5 =>
  if r5 = 0 then (some (0 : Int32))
  else ((x_Table_isVetoed 3 p1 h).bind fun r16 =>
  if r16 = 0 then (some (1 : Int32))
  else (some (0 : Int32)))

def x_Nm_beats (p1 : Int32) (p2 : Int32) (h : Hp) : Option (Int32 × Hp) := (x_Nm_isOnOffer p1 h).bind fun r2 =>
  if r2 = 0 then (some ((-1 : Int32), h))
  else ((x_Nm_isOnOffer p2 h).bind fun r10 =>
  if r10 = 0 then (some ((-1 : Int32), h))
  else (if p1 = p2 then (some ((-1 : Int32), h))
  else ((x_Nm_now h).bind fun h_24 =>
  (x_Moment_lead p1 p2 h_24).bind fun r29 =>
  some ((r29 + (50 : Int32)), h_24))))

def x_Nm_champion  (h : Hp) : Option (Int32 × Hp) := (x_Nm_now h).bind fun h_1 =>
  (x_Moment_winner h_1).bind fun r4 =>
  some (r4, h_1)

def x_Nm_middle  (h : Hp) : Option (Int32 × Hp) := (x_Nm_now h).bind fun h_1 =>
  (x_Moment_nobodysWorst h_1).bind fun r4 =>
  some (r4, h_1)

def x_Nm_struck (p1 : Int32) (h : Hp) : Option (Int32 × Hp) := (x_Menu_hasGuest 6 p1 h).bind fun r5 =>
  if r5 = 0 then (some ((-1 : Int32), h))
  else ((x_Nm_now h).bind fun h_14 =>
  (x_Moment_lastStanding p1 h_14).bind fun r18 =>
  some (r18, h_14))

def x_Nm_two (p1 : Int32) (h : Hp) : Option (Int32 × Hp) := (x_Nm_isOutside p1 (0 : Int32) (1 : Int32) h).bind fun r3 =>
  if r3 = 0 then ((x_Nm_dishesLeft 3 h).bind fun r16 =>
  if (2 : Int32) ≤ r16 then ((x_Nm_now h).bind fun h_27 =>
  (x_Moment_bestPair h_27).bind fun r32 =>
  if p1 = 0 then (some (r32, h_27))
  else ((x_Moment_pairWorth (r32 / (8 : Int32)) (r32 - r32 / (8 : Int32) * (8 : Int32)) h_27).bind fun r53 =>
  some (r53, h_27)))
  else (some ((-4 : Int32), h)))
  else (some ((-1 : Int32), h))

def x_Nm_houses (p1 : Int32) (h : Hp) : Option (Int32 × Hp) := (x_Nm_isOutside p1 (0 : Int32) (99 : Int32) h).bind fun r4 =>
  if r4 = 0 then ((x_Nm_dishesLeft 3 h).bind fun r17 =>
  if (2 : Int32) ≤ r17 then ((x_Nm_now h).bind fun h_27 =>
  (x_Moment_bestPair h_27).bind fun r32 =>
  (x_Moment_pairWorth (r32 / (8 : Int32)) (r32 - r32 / (8 : Int32) * (8 : Int32)) h_27).bind fun r45 =>
  (some (r45 - p1)).bind fun y50 =>
  (x_Moment_mostDish (-1 : Int32) h_27).bind fun r57 =>
  (x_Moment_together r57 (-1 : Int32) h_27).bind fun r61 =>
  if y50 ≤ r61 then (some ((2 : Int32), h_27))
  else (some ((1 : Int32), h_27)))
  else (some ((2 : Int32), h)))
  else (some ((-1 : Int32), h))

def x_Nm_waits_b62  (p1 : Int32) (p2 : Int32) : Nat → Int32 → Int32 → Int32 → Hp → Option (Int32 × Hp)
  | 0, _, _, _, _ => none
  | n + 1, x3, x4, x5, h => if (99 : Int32) < x5 then (if p2 = 0 then (some (x3, h))
  else (some (x4, h)))
  else ((x_Nm_at x5 (h 3 1) h).bind fun h_79 =>
  (x_Moment_together p1 (-1 : Int32) h_79).bind fun r84 =>
  (x_Menu_isInTime 6 p1 x5 h_79).bind fun r96 =>
  if r96 = 0 then (x_Nm_waits_b62 p1 p2 n x3 x4 (x5 + (1 : Int32)) h_79)
  else (if r84 ≤ x4 then (x_Nm_waits_b62 p1 p2 n x3 x4 (x5 + (1 : Int32)) h_79)
  else (x_Nm_waits_b62 p1 p2 n x5 r84 (x5 + (1 : Int32)) h_79)))
def x_Nm_waits (p1 : Int32) (p2 : Int32) (h : Hp) : Option (Int32 × Hp) := (x_Menu_hasDish 6 p1 h).bind fun r5 =>
  if r5 = 0 then (some ((-1 : Int32), h))
  else ((x_Nm_isOutside p2 (0 : Int32) (1 : Int32) h).bind fun r14 =>
  if r14 = 0 then ((x_Table_isOrdered 3 h).bind fun r26 =>
  if r26 = 0 then ((x_Table_isVetoed 3 p1 h).bind fun r37 =>
  if r37 = 0 then ((some (h 3 0)).bind fun y60 =>
  x_Nm_waits_b62 p1 p2 FU (-4 : Int32) (-4 : Int32) y60 h)
  else (some ((-4 : Int32), h)))
  else (some ((-4 : Int32), h)))
  else (some ((-1 : Int32), h)))

def x_Nm_heard (p1 : Int32) (p2 : Int32) (p3 : Int32) (h : Hp) : Option (Int32 × Hp) := (x_Menu_hasGuest 6 p1 h).bind fun r5 =>
  if r5 = 0 then (some ((-1 : Int32), h))
  else ((x_Menu_hasDish 6 p2 h).bind fun r16 =>
  if r16 = 0 then (some ((-1 : Int32), h))
  else ((x_Nm_isOutside p3 (0 : Int32) (1 : Int32) h).bind fun r25 =>
  if r25 = 0 then ((x_Notes_next h).bind fun z37 =>
  z37.1.elim ((some z37.2).bind fun h_37 => some ((-3 : Int32), h_37)) (fun n37 => (some z37.2).bind fun h_37 => (some (wr h_37 n37 0 p1)).bind fun h_53 =>
  (some (wr h_53 n37 1 p2)).bind fun h_59 =>
  if p3 = (1 : Int32) then ((some (wr h_59 n37 2 (1 : Int32))).bind fun h_74 =>
  (some (wr h_74 n37 3 (h_74 3 0))).bind fun h_86 =>
  (some (wr h_86 n37 4 (h_86 3 1))).bind fun h_98 =>
  some (h_98 28 0, h_98))
  else ((some (wr h_59 n37 2 (0 : Int32))).bind fun h_74 =>
  (some (wr h_74 n37 3 (h_74 3 0))).bind fun h_86 =>
  (some (wr h_86 n37 4 (h_86 3 1))).bind fun h_98 =>
  some (h_98 28 0, h_98))))
  else (some ((-1 : Int32), h))))

def x_Nm_forget  (h : Hp) : Option (Int32 × Hp) := (some (h 28 0)).bind fun y7 =>
  (some (wr h 28 0 (0 : Int32))).bind fun h_13 =>
  some (y7, h_13)

def x_Nm_agreesWithNotes_b2  (p1 : Int32) (p2 : Int32) : Nat → Int32 → Hp → Option (Int32 × Hp)
  | 0, _, _ => none
  | n + 1, x3, h => if (h 28 0) ≤ x3 then (some ((1 : Int32), h))
  else ((x_Notes_get x3 h).bind fun r18 =>
  r18.elim (x_Nm_agreesWithNotes_b2 p1 p2 n (x3 + (1 : Int32)) h) (fun n18 => if (h n18 0) = p1 then ((x_Nm_at (h n18 3) (h n18 4) h).bind fun h_51 =>
  (x_Moment_gives p2 p1 (h_51 n18 1) h_51).bind fun r65 =>
  if r65 = (h_51 n18 2) then (x_Nm_agreesWithNotes_b2 p1 p2 n (x3 + (1 : Int32)) h_51)
  else (some ((0 : Int32), h_51)))
  else (x_Nm_agreesWithNotes_b2 p1 p2 n (x3 + (1 : Int32)) h)))
def x_Nm_agreesWithNotes (p1 : Int32) (p2 : Int32) (h : Hp) : Option (Int32 × Hp) := x_Nm_agreesWithNotes_b2 p1 p2 FU (0 : Int32) h

def x_Nm_may_b17  (p1 : Int32) : Nat → Int32 → Int32 → Hp → Option (Int32 × Hp)
  | 0, _, _, _ => none
  | n + 1, x2, x3, h => if (3 : Int32) < x3 then (some (x2, h))
  else ((x_Nm_agreesWithNotes p1 x3 h).bind fun z25 =>
  if z25.1 = 0 then (x_Nm_may_b17 p1 n x2 (x3 + (1 : Int32)) z25.2)
  else ((some (x2 ||| ((1 : Int32) <<< (x3 &&& 31)))).bind fun y36 =>
  x_Nm_may_b17 p1 n y36 (x3 + (1 : Int32)) z25.2))
def x_Nm_may (p1 : Int32) (h : Hp) : Option (Int32 × Hp) := (x_Menu_hasGuest 6 p1 h).bind fun r5 =>
  if r5 = 0 then (some ((-1 : Int32), h))
  else (x_Nm_may_b17 p1 FU (0 : Int32) (0 : Int32) h)

def x_Nm_suits_b27  (p1 : Int32) : Nat → Int32 → Int32 → Int32 → Hp → Option (Int32 × Hp)
  | 0, _, _, _, _ => none
  | n + 1, x3, x4, x5, h => if (h 6 1) ≤ x5 then (some (x4, h))
  else ((x_Moment_value x5 p1 h).bind fun r43 =>
  (x_Moment_value x5 x3 h).bind fun r50 =>
  if r43 < r50 then (x_Nm_suits_b27 p1 n x3 x4 (x5 + (1 : Int32)) h)
  else ((some (x4 ||| ((1 : Int32) <<< (x5 &&& 31)))).bind fun y63 =>
  x_Nm_suits_b27 p1 n x3 y63 (x5 + (1 : Int32)) h))
def x_Nm_suits (p1 : Int32) (h : Hp) : Option (Int32 × Hp) := (x_Nm_isOnOffer p1 h).bind fun r2 =>
  if r2 = 0 then (some ((-1 : Int32), h))
  else ((x_Nm_now h).bind fun h_11 =>
  (x_Moment_mostDish (-1 : Int32) h_11).bind fun r17 =>
  x_Nm_suits_b27 p1 FU r17 (0 : Int32) (0 : Int32) h_11)

def x_Nm_against (p1 : Int32) (p2 : Int32) (h : Hp) : Option (Int32 × Hp) := (x_Menu_hasDish 6 p1 h).bind fun r5 =>
  if r5 = 0 then (some ((-1 : Int32), h))
  else ((x_Nm_isOutside p2 (0 : Int32) (1 : Int32) h).bind fun r14 =>
  if r14 = 0 then (if p2 = 0 then ((x_Nm_now h).bind fun h_27 =>
  (x_Moment_opponent p1 h_27).bind fun r31 =>
  some (r31, h_27))
  else ((x_Nm_now h).bind fun h_38 =>
  (x_Moment_leastWorth p1 h_38).bind fun r42 =>
  some (r42, h_38)))
  else (some ((-1 : Int32), h)))

def x_Nm_ask_b26  (p1 : Int32) : Nat → Int32 → Int32 → Hp → Option (Int32 × Hp)
  | 0, _, _, _ => none
  | n + 1, x3, x4, h => if p1 ≤ x4 then (some ((-4 : Int32), h))
  else (if (h 6 1) ≤ x4 then (some ((-4 : Int32), h))
  else ((x_Moment_mostDish x4 h).bind fun r47 =>
  if r47 = x3 then (x_Nm_ask_b26 p1 n x3 (x4 + (1 : Int32)) h)
  else (some (x4, h))))
def x_Nm_ask (p1 : Int32) (h : Hp) : Option (Int32 × Hp) := (x_Nm_isOutside p1 (1 : Int32) (9 : Int32) h).bind fun r4 =>
  if r4 = 0 then ((x_Nm_now h).bind fun h_13 =>
  (x_Moment_mostDish (-1 : Int32) h_13).bind fun r19 =>
  x_Nm_ask_b26 p1 FU r19 (0 : Int32) h_13)
  else (some ((-1 : Int32), h))

def x_Nm_power_b4  (p0 : Int32) (p1 : Int32) (h : Hp) : Nat → Int32 → Int32 → Option Int32
  | 0, _, _ => none
  | n + 1, x2, x3 => if p1 ≤ x3 then (some x2)
  else ((some (x2 * p0)).bind fun y12 =>
  x_Nm_power_b4 p0 p1 h n y12 (x3 + (1 : Int32)))
def x_Nm_power (p0 : Int32) (p1 : Int32) (h : Hp) : Option Int32 := x_Nm_power_b4 p0 p1 h FU (1 : Int32) (0 : Int32)

def x_Nm_commonDivisor_b7  (p0 : Int32) (p1 : Int32) (h : Hp) : Nat → Int32 → Int32 → Int32 → Option Int32
  | 0, _, _, _ => none
  | n + 1, x2, x3, x4 => if (64 : Int32) ≤ x4 then (some x2)
  else (if x3 = 0 then (some x2)
  else (if ¬ x3 = 0 then (some (x2 - x2 / x3 * x3)).bind fun y21 =>
  x_Nm_commonDivisor_b7 p0 p1 h n x3 y21 (x4 + (1 : Int32)) else none))
def x_Nm_commonDivisor (p0 : Int32) (p1 : Int32) (h : Hp) : Option Int32 := x_Nm_commonDivisor_b7 p0 p1 h FU p1 p0 (0 : Int32)

def x_Nm_wheel (p1 : Int32) (p2 : Int32) (h : Hp) : Option (Int32 × Hp) := (x_Nm_isOutside p1 (0 : Int32) (6 : Int32) h).bind fun r4 =>
  if r4 = 0 then ((x_Nm_isOutside p2 (0 : Int32) (1 : Int32) h).bind fun r13 =>
  if r13 = 0 then ((x_Nm_now h).bind fun h_22 =>
  (x_Int_bitCount (h_22 5 2) h_22).bind fun r30 =>
  (x_Nm_power r30 p1 h_22).bind fun r38 =>
  (x_Moment_welcomeDishes h_22).bind fun r48 =>
  (x_Nm_power (r30 - r48) p1 h_22).bind fun r53 =>
  (some (r38 - r53)).bind fun y57 =>
  (x_Nm_commonDivisor y57 r38 h_22).bind fun r64 =>
  (some (if (1 : Int32) < r64 then r64 else (1 : Int32))).bind fun y70 =>
  if p2 = 0 then (if ¬ y70 = 0 then some ((y57 / y70), h_22) else none)
  else (if ¬ y70 = 0 then some ((r38 / y70), h_22) else none))
  else (some ((-1 : Int32), h)))
  else (some ((-1 : Int32), h))

def x_Nm_drawOf (p0 : Int32) (p1 : Int32) (h : Hp) : Option Int32 := (some ((((7919 : Int64) * (p0.toInt64)) + ((6151 : Int64) * (p1.toInt64))) + (1 : Int64))).bind fun y15 =>
  some ((((y15 * y15) - (y15 * y15) / (65521 : Int64) * (65521 : Int64)) / (2 : Int64)).toInt32)

def x_Nm_pretend_b33  (p1 : Int32) (h : Hp) : Option Hp := if (1 : Int32) ≤ (h 6 1) then (if ¬ (h 6 1) = 0 then (some ((p1 / (8 : Int32)) - (p1 / (8 : Int32)) / (h 6 1) * (h 6 1))).bind fun y57 =>
  (x_Nm_vetoesLeft 4 y57 h).bind fun r64 =>
  if r64 < (1 : Int32) then (some h)
  else ((x_Nm_dishesLeft 4 h).bind fun r76 =>
  if r76 < (2 : Int32) then (some h)
  else (if ((p1 / (128 : Int32)) - (p1 / (128 : Int32)) / (3 : Int32) * (3 : Int32)) = 0 then ((x_Nm_at (h 4 0) (h 4 1) h).bind fun h_109 =>
  (x_Moment_leastLiked y57 (h_109 5 2) h_109).bind fun r127 =>
  (x_Table_strike 4 y57 r127 h_109).bind fun h_130 =>
  some h_130)
  else (some h))) else none)
  else (some h)
def x_Nm_pretend (p1 : Int32) (h : Hp) : Option Hp := (some ((1 : Int32) + (p1 - p1 / (5 : Int32) * (5 : Int32)))).bind fun y5 =>
  if (99 : Int32) < ((h 4 0) + y5) then (x_Nm_pretend_b33 p1 h)
  else ((some (wr h 4 0 ((h 4 0) + y5))).bind fun h_30 =>
  x_Nm_pretend_b33 p1 h_30)

def x_Nm_evening_b59  (p1 : Int32) (p2 : Int32) (p3 : Int32) : Nat → Int32 → Hp → Option (Int32 × Hp)
  | 0, _, _ => none
  | n + 1, x4, h => if p2 ≤ x4 then ((x_Nm_at (h 4 0) (h 4 1) h).bind fun h_96 =>
  if p3 = 0 then (some (h_96 5 2, h_96))
  else ((x_Moment_mostDish (-1 : Int32) h_96).bind fun r116 =>
  some (r116, h_96)))
  else ((x_Nm_drawOf p1 x4 h).bind fun r69 =>
  (x_Nm_pretend r69 h).bind fun h_72 =>
  x_Nm_evening_b59 p1 p2 p3 n (x4 + (1 : Int32)) h_72)
def x_Nm_evening (p1 : Int32) (p2 : Int32) (p3 : Int32) (h : Hp) : Option (Int32 × Hp) := (x_Nm_isOutside p1 (0 : Int32) (9999 : Int32) h).bind fun r5 =>
  if r5 = 0 then ((x_Nm_isOutside p2 (1 : Int32) (20 : Int32) h).bind fun r15 =>
  if r15 = 0 then ((x_Nm_isOutside p3 (0 : Int32) (1 : Int32) h).bind fun r24 =>
  if r24 = 0 then ((x_Table_isOrdered 3 h).bind fun r36 =>
  if r36 = 0 then ((x_Table_copyFrom 4 3 h).bind fun h_53 =>
  x_Nm_evening_b59 p1 p2 p3 FU (0 : Int32) h_53)
  else (some ((-2 : Int32), h)))
  else (some ((-1 : Int32), h)))
  else (some ((-1 : Int32), h)))
  else (some ((-1 : Int32), h))

def x_Nm_keep  (h : Hp) : Option (Int32 × Hp) := if (h 24 0) < (2 : Int32) then ((x_Pile_push_b 3 h).bind fun h_22 =>
  some (h_22 24 0, h_22))
  else (some ((-3 : Int32), h))

def x_Nm_back  (h : Hp) : Option (Int32 × Hp) := (x_Pile_popInto_b 3 h).bind fun z8 =>
  if z8.1 = 0 then (some ((-2 : Int32), z8.2))
  else ((some (wr z8.2 14 0 (0 : Int32))).bind fun h_22 =>
  some (h_22 24 0, h_22))

def x_Nm_count (p1 : Int32) (h : Hp) : Option Int32 := if p1 = 0 then (some (h 6 1))
  else (if p1 = 1 then (some (h 6 0))
  else (if p1 = 2 then (some (h 3 0))
  else (if p1 = 3 then ((x_Int_bitCount (h 3 1) h).bind fun r83 =>
  some r83)
  else (if p1 = 4 then ((x_Table_isOrdered 3 h).bind fun r91 =>
  if r91 = 0 then (some (-4 : Int32))
  else (some (h 3 2)))
  else (if p1 = 5 then (some (h 28 0))
  else (if p1 = 6 then (some (h 14 0))
  else (if p1 = 7 then (some (h 24 0))
  else (if p1 = 8 then (some (h 1 1))
  else (some (-1 : Int32))))))))))

def m_Mo_firstGuest (p1 : Int32) (p2 : Int32) (p3 : Int32) (h : Hp) : Option Hp := if inR ((5 : Int32) + p1) 74 then (some (wr h 3 ((((5 : Int32) + p1)).toNatClampNeg) p2)).bind fun h_8 =>
  if inR ((20 : Int32) + ((6 : Int32) * p1)) 74 then (some (wr h_8 3 ((((20 : Int32) + ((6 : Int32) * p1))).toNatClampNeg) (p3 / (1000 : Int32)))).bind fun h_25 =>
  if inR ((21 : Int32) + ((6 : Int32) * p1)) 74 then (some (wr h_25 3 ((((21 : Int32) + ((6 : Int32) * p1))).toNatClampNeg) ((p3 / (100 : Int32)) - (p3 / (100 : Int32)) / (10 : Int32) * (10 : Int32)))).bind fun h_44 =>
  if inR ((22 : Int32) + ((6 : Int32) * p1)) 74 then (some (wr h_44 3 ((((22 : Int32) + ((6 : Int32) * p1))).toNatClampNeg) ((p3 / (10 : Int32)) - (p3 / (10 : Int32)) / (10 : Int32) * (10 : Int32)))).bind fun h_63 =>
  if inR ((23 : Int32) + ((6 : Int32) * p1)) 74 then (some (wr h_63 3 ((((23 : Int32) + ((6 : Int32) * p1))).toNatClampNeg) (p3 - p3 / (10 : Int32) * (10 : Int32)))).bind fun h_79 =>
  some h_79 else none else none else none else none else none

def m_Mo_in (p0 : Int64) (p2 : Int64) (p4 : Int64) (h : Hp) : Option Int32 := if (lg_cmp p0 p2) < 0 then (some (0 : Int32))
  else (if 0 < (lg_cmp p0 p4) then (some (0 : Int32))
  else (some (1 : Int32)))

def m_Mo_has (p0 : Int32) (p1 : Int32) (h : Hp) : Option Int32 := if ((p0 >>> (p1 &&& 31)) &&& (1 : Int32)) = (1 : Int32) then (some (1 : Int32))
  else (some (0 : Int32))

def m_Mo_ones_b4  (p0 : Int32) (h : Hp) : Nat → Int32 → Int32 → Option Int32
  | 0, _, _ => none
  | n + 1, x1, x2 => if x2 = 0 then (some x1)
  else ((some (x2 &&& (x2 - (1 : Int32)))).bind fun y16 =>
  m_Mo_ones_b4 p0 h n (x1 + (1 : Int32)) y16)
def m_Mo_ones (p0 : Int32) (h : Hp) : Option Int32 := m_Mo_ones_b4 p0 h FU (0 : Int32) p0

def m_Mo_empty_b53   : Nat → Int32 → Hp → Option Hp
  | 0, _, _ => none
  | n + 1, x1, h => if (6 : Int32) ≤ x1 then ((some (wr h 0 4 (0 : Int32))).bind fun h_78 =>
  some h_78)
  else (if inR ((14 : Int32) + x1) 74 then (some (wr h 3 ((((14 : Int32) + x1)).toNatClampNeg) (20 : Int32))).bind fun h_69 =>
  m_Mo_empty_b53 n (x1 + (1 : Int32)) h_69 else none)
def m_Mo_empty_b2   : Nat → Int32 → Hp → Option Hp
  | 0, _, _ => none
  | n + 1, x1, h => if (74 : Int32) ≤ x1 then ((some (wr h 3 0 (4 : Int32))).bind fun h_27 =>
  (some (wr h_27 3 2 (1 : Int32))).bind fun h_34 =>
  (some (wr h_34 3 3 (90 : Int32))).bind fun h_42 =>
  (some (wr h_42 3 4 (20 : Int32))).bind fun h_50 =>
  m_Mo_empty_b53 FU (0 : Int32) h_50)
  else (if inR x1 74 then (some (wr h 3 ((x1).toNatClampNeg) (0 : Int32))).bind fun h_14 =>
  m_Mo_empty_b2 n (x1 + (1 : Int32)) h_14 else none)
def m_Mo_empty  (h : Hp) : Option Hp := m_Mo_empty_b2 FU (0 : Int32) h

def m_Mo_write (p1 : Int32) (h : Hp) : Option (Int32 × Hp) := (m_Mo_in (p1.toInt64) (32 : Int64) (126 : Int64) h).bind fun r8 =>
  if r8 = 0 then (some ((-1 : Int32), h))
  else (if (h 0 0) = (200 : Int32) then (some ((-3 : Int32), h))
  else (if inR (h 0 0) 200 then (some (wr h 1 ((h 0 0).toNatClampNeg) p1)).bind fun h_38 =>
  (some (wr h_38 0 0 ((h_38 0 0) + (1 : Int32)))).bind fun h_46 =>
  some (h_46 0 0, h_46) else none))

def m_Mo_wipe  (h : Hp) : Option (Int32 × Hp) := (some (h 0 0)).bind fun y4 =>
  (some (wr h 0 0 (0 : Int32))).bind fun h_7 =>
  some (y4, h_7)

def m_Mo_letterAt (p1 : Int32) (h : Hp) : Option Int32 := if (h 0 0) ≤ p1 then (some (0 : Int32))
  else (if inR p1 200 then some (h 1 ((p1).toNatClampNeg)) else none)

def m_Mo_numbers_b107 (k2 : Int32 → Hp → Option (Int32 × Hp)) (p1 : Int32) (x2 : Int32) (x4 : Int32) (s0 : Int32) (s1 : Int32) (h : Hp) : Option (Int32 × Hp) := if s0 = s1 then (if inR x2 2 then (some (wr h 8 ((x2).toNatClampNeg) x4)).bind fun h_119 =>
  (some (wr h_119 0 12 ((h_119 0 12) + (1 : Int32)))).bind fun h_127 =>
  k2 (x2 + (1 : Int32)) h_127 else none)
  else (some ((0 : Int32), h))
def m_Mo_numbers_b73 (k2 : Int32 → Hp → Option (Int32 × Hp)) (p1 : Int32) (x2 : Int32) (x3 : Int32) (x4 : Int32) (h : Hp) : Option (Int32 × Hp) := (m_Mo_in (x3.toInt64) (1 : Int64) (2 : Int64) h).bind fun r79 =>
  if r79 = 0 then (some ((0 : Int32), h))
  else ((m_Mo_letterAt (h 0 12) h).bind fun r90 =>
  if (p1 - (1 : Int32)) ≤ x2 then (m_Mo_numbers_b107 (k2) p1 x2 x4 r90 (59 : Int32) h)
  else (m_Mo_numbers_b107 (k2) p1 x2 x4 r90 (44 : Int32) h))
def m_Mo_numbers_b12 (k2 : Int32 → Hp → Option (Int32 × Hp)) (p1 : Int32) : Nat → Int32 → Int32 → Int32 → Hp → Option (Int32 × Hp)
  | 0, _, _, _, _ => none
  | n + 1, x2, x3, x4, h => (m_Mo_letterAt (h 0 12) h).bind fun r17 =>
  (m_Mo_in (r17.toInt64) (48 : Int64) (57 : Int64) h).bind fun r27 =>
  if r27 = 0 then (m_Mo_numbers_b73 (k2) p1 x2 x3 x4 h)
  else (if (3 : Int32) ≤ x3 then (m_Mo_numbers_b73 (k2) p1 x2 x3 x4 h)
  else ((m_Mo_letterAt (h 0 12) h).bind fun r48 =>
  (some ((((10 : Int32) * x4) + r48) - (48 : Int32))).bind fun y55 =>
  (some (wr h 0 12 ((h 0 12) + (1 : Int32)))).bind fun h_67 =>
  m_Mo_numbers_b12 k2 p1 n x2 (x3 + (1 : Int32)) y55 h_67))
def m_Mo_numbers_b2  (p1 : Int32) : Nat → Int32 → Hp → Option (Int32 × Hp)
  | 0, _, _ => none
  | n + 1, x2, h => if p1 ≤ x2 then (some ((1 : Int32), h))
  else (m_Mo_numbers_b12 (m_Mo_numbers_b2 p1 n) p1 FU x2 (0 : Int32) (0 : Int32) h)
def m_Mo_numbers (p1 : Int32) (h : Hp) : Option (Int32 × Hp) := m_Mo_numbers_b2 p1 FU (0 : Int32) h

def m_Mo_guestItem_b122   (s0 : Int32) (h : Hp) : Option (Int32 × Hp) := (some (wr h 0 12 ((h 0 12) + (1 : Int32)))).bind fun h_130 =>
  (some (wr h_130 3 1 ((h_130 3 1) + (1 : Int32)))).bind fun h_142 =>
  if (s0 = 0 ∨ s0 = 1) then some (s0, h_142) else none
def m_Mo_guestItem_b86 (k17 : Int32 → Int32 → Hp → Option (Int32 × Hp))  (x1 : Int32) (x2 : Int32) (x3 : Int32) (s1 : Int32) (h : Hp) : Option (Int32 × Hp) := if inR s1 74 then (some (wr h 3 ((s1).toNatClampNeg) x3)).bind fun h_87 =>
  (some (wr h_87 0 12 ((h_87 0 12) + (1 : Int32)))).bind fun h_95 =>
  k17 x1 (x2 + (1 : Int32)) h_95 else none
def m_Mo_guestItem_b55 (k17 : Int32 → Int32 → Hp → Option (Int32 × Hp))  (x1 : Int32) (x2 : Int32) (x3 : Int32) (s0 : Int64) (s1 : Int64) (s2 : Int64) (h : Hp) : Option (Int32 × Hp) := (m_Mo_in s0 s1 s2 h).bind fun r55 =>
  if r55 = 0 then (some ((0 : Int32), h))
  else (if x2 = 0 then (m_Mo_guestItem_b86 (k17) x1 x2 x3 ((5 : Int32) + x1) h)
  else (m_Mo_guestItem_b86 (k17) x1 x2 x3 (((19 : Int32) + ((6 : Int32) * x1)) + x2) h))
def m_Mo_guestItem_b17   : Nat → Int32 → Int32 → Hp → Option (Int32 × Hp)
  | 0, _, _, _ => none
  | n + 1, x1, x2, h => if (h 3 0) < x2 then ((m_Mo_letterAt (h 0 12) h).bind fun r109 =>
  if r109 = (59 : Int32) then (m_Mo_guestItem_b122 (1 : Int32) h)
  else (m_Mo_guestItem_b122 (0 : Int32) h))
  else ((m_Mo_letterAt (h 0 12) h).bind fun r32 =>
  (some (r32 - (48 : Int32))).bind fun y38 =>
  if x2 = 0 then (m_Mo_guestItem_b55 (m_Mo_guestItem_b17 n) x1 x2 y38 (y38.toInt64) (0 : Int64) (3 : Int64) h)
  else (m_Mo_guestItem_b55 (m_Mo_guestItem_b17 n) x1 x2 y38 (y38.toInt64) (0 : Int64) (9 : Int64) h))
def m_Mo_guestItem  (h : Hp) : Option (Int32 × Hp) := (some (h 3 1)).bind fun y6 =>
  if y6 = (9 : Int32) then (some ((0 : Int32), h))
  else (m_Mo_guestItem_b17 FU y6 (0 : Int32) h)

def m_Mo_one (p1 : Int32) (p2 : Int32) (p3 : Int32) (h : Hp) : Option (Int32 × Hp) := (m_Mo_numbers (1 : Int32) h).bind fun z2 =>
  if z2.1 = 0 then (some ((0 : Int32), z2.2))
  else ((m_Mo_in ((z2.2 8 0).toInt64) (p2.toInt64) (p3.toInt64) z2.2).bind fun r19 =>
  if r19 = 0 then (some ((0 : Int32), z2.2))
  else (if inR p1 74 then (some (wr z2.2 3 ((p1).toNatClampNeg) (z2.2 8 0))).bind fun h_38 =>
  some ((1 : Int32), h_38) else none))

def m_Mo_item  (h : Hp) : Option (Int32 × Hp) := (m_Mo_letterAt (h 0 12) h).bind fun r5 =>
  (some (wr h 0 12 ((h 0 12) + (1 : Int32)))).bind fun h_16 =>
  if r5 = (100 : Int32) then ((m_Mo_one (0 : Int32) (2 : Int32) (6 : Int32) h_16).bind fun z30 =>
  if z30.1 = 0 then (some ((0 : Int32), z30.2))
  else (if (z30.2 0 4) = 0 then (some ((1 : Int32), z30.2))
  else (some ((0 : Int32), z30.2))))
  else ((some (wr h_16 0 4 (1 : Int32))).bind fun h_51 =>
  if r5 = 103 then ((m_Mo_guestItem h_51).bind fun z105 =>
  if (z105.1 = 0 ∨ z105.1 = 1) then some (z105.1, z105.2) else none)
  else (if r5 = 104 then ((m_Mo_one (4 : Int32) (1 : Int32) (60 : Int32) h_51).bind fun z195 =>
  if (z195.1 = 0 ∨ z195.1 = 1) then some (z195.1, z195.2) else none)
  else (if r5 = 115 then ((m_Mo_one (3 : Int32) (1 : Int32) (99 : Int32) h_51).bind fun z186 =>
  if (z186.1 = 0 ∨ z186.1 = 1) then some (z186.1, z186.2) else none)
  else (if r5 = 116 then ((m_Mo_numbers (2 : Int32) h_51).bind fun z111 =>
  if z111.1 = 0 then (some ((0 : Int32), z111.2))
  else (if (z111.2 3 0) ≤ (z111.2 8 0) then (some ((0 : Int32), z111.2))
  else ((m_Mo_in ((z111.2 8 1).toInt64) (1 : Int64) (60 : Int64) z111.2).bind fun r143 =>
  if r143 = 0 then (some ((0 : Int32), z111.2))
  else (if inR ((14 : Int32) + (z111.2 8 0)) 74 then (some (wr z111.2 3 ((((14 : Int32) + (z111.2 8 0))).toNatClampNeg) (z111.2 8 1))).bind fun h_170 =>
  some ((1 : Int32), h_170) else none))))
  else (if r5 = 118 then ((m_Mo_one (2 : Int32) (0 : Int32) (3 : Int32) h_51).bind fun z177 =>
  if (z177.1 = 0 ∨ z177.1 = 1) then some (z177.1, z177.2) else none)
  else (some ((0 : Int32), h_51)))))))

def m_Mo_readAll_b9   : Nat → Hp → Option (Int32 × Hp)
  | 0, _ => none
  | n + 1, h => if (h 0 0) ≤ (h 0 12) then (some ((-4 : Int32), h))
  else ((some (h 0 12)).bind fun y24 =>
  (m_Mo_item h).bind fun z26 =>
  if z26.1 = 0 then (some (y24, z26.2))
  else (m_Mo_readAll_b9 n z26.2))
def m_Mo_readAll  (h : Hp) : Option (Int32 × Hp) := (m_Mo_empty h).bind fun h_1 =>
  (some (wr h_1 0 12 (0 : Int32))).bind fun h_6 =>
  m_Mo_readAll_b9 FU h_6

def m_Mo_fault  (h : Hp) : Option (Int32 × Hp) := (m_Mo_readAll h).bind fun z1 =>
  some (z1.1, z1.2)

def m_Mo_begin_b28   : Nat → Int32 → Hp → Option Hp
  | 0, _, _ => none
  | n + 1, x1, h => if (9 : Int32) ≤ x1 then ((some (wr h 4 0 (0 : Int32))).bind fun h_60 =>
  (some (wr h_60 4 1 (0 : Int32))).bind fun h_67 =>
  (some (wr h_67 4 2 (-4 : Int32))).bind fun h_75 =>
  (some (wr h_75 0 11 (0 : Int32))).bind fun h_78 =>
  (some (wr h_78 0 7 (0 : Int32))).bind fun h_83 =>
  (some (wr h_83 0 9 (0 : Int32))).bind fun h_88 =>
  some h_88)
  else (if inR ((3 : Int32) + x1) 12 then (some (wr h 4 ((((3 : Int32) + x1)).toNatClampNeg) (h 2 2))).bind fun h_47 =>
  m_Mo_begin_b28 n (x1 + (1 : Int32)) h_47 else none)
def m_Mo_begin_b2   : Nat → Int32 → Hp → Option Hp
  | 0, _, _ => none
  | n + 1, x1, h => if (74 : Int32) ≤ x1 then (m_Mo_begin_b28 FU (0 : Int32) h)
  else (if inR x1 74 then if inR x1 74 then (some (wr h 2 ((x1).toNatClampNeg) (h 3 ((x1).toNatClampNeg)))).bind fun h_19 =>
  m_Mo_begin_b2 n (x1 + (1 : Int32)) h_19 else none else none)
def m_Mo_begin  (h : Hp) : Option Hp := m_Mo_begin_b2 FU (0 : Int32) h

def m_Mo_lay  (h : Hp) : Option (Int32 × Hp) := (m_Mo_readAll h).bind fun z1 =>
  if z1.1 = (-4 : Int32) then (if (z1.2 3 1) = 0 then (some ((-2 : Int32), z1.2))
  else ((m_Mo_begin z1.2).bind fun h_22 =>
  some (h_22 2 1, h_22)))
  else (some ((-2 : Int32), z1.2))

def m_Mo_isGuest (p1 : Int32) (h : Hp) : Option Int32 := (m_Mo_in (p1.toInt64) (0 : Int64) (((h 2 1) - (1 : Int32)).toInt64) h).bind fun r12 =>
  if (r12 = 0 ∨ r12 = 1) then some r12 else none

def m_Mo_isDish (p1 : Int32) (h : Hp) : Option Int32 := (m_Mo_in (p1.toInt64) (0 : Int64) (((h 2 0) - (1 : Int32)).toInt64) h).bind fun r12 =>
  if (r12 = 0 ∨ r12 = 1) then some r12 else none

def m_Mo_leftBy (p1 : Int32) (h : Hp) : Option Int32 := some ((((1 : Int32) <<< ((h 2 0) &&& 31)) - (1 : Int32)) &&& (p1 ^^^ (-1 : Int32)))

def m_Mo_worthAt_b36  (p1 : Int32) (p2 : Int32) (p3 : Int32) (h : Hp) (s0 : Int32) : Option Int32 := if s0 ≤ (9 : Int32) then (some s0)
  else (some (9 : Int32))
def m_Mo_worthAt (p1 : Int32) (p2 : Int32) (p3 : Int32) (h : Hp) : Option Int32 := if inR (((20 : Int32) + ((6 : Int32) * p1)) + p2) 74 then (some (h 2 (((((20 : Int32) + ((6 : Int32) * p1)) + p2)).toNatClampNeg))).bind fun y14 =>
  if y14 = 0 then (m_Mo_worthAt_b36 p1 p2 p3 h (0 : Int32))
  else (if ¬ (h 2 4) = 0 then m_Mo_worthAt_b36 p1 p2 p3 h (y14 + (p3 / (h 2 4))) else none) else none

def m_Mo_mostOf_b14  (p1 : Int32) (p2 : Int32) (p3 : Int32) (h : Hp) : Nat → Int32 → Int32 → Option Int32
  | 0, _, _ => none
  | n + 1, x4, x5 => if x5 < 0 then (some x4)
  else ((m_Mo_has p2 x5 h).bind fun r22 =>
  if r22 = 0 then (m_Mo_mostOf_b14 p1 p2 p3 h n x4 (x5 + (-1 : Int32)))
  else (if x4 < 0 then (m_Mo_mostOf_b14 p1 p2 p3 h n x5 (x5 + (-1 : Int32)))
  else ((m_Mo_worthAt p1 x5 p3 h).bind fun r38 =>
  (m_Mo_worthAt p1 x4 p3 h).bind fun r46 =>
  if r38 < r46 then (m_Mo_mostOf_b14 p1 p2 p3 h n x4 (x5 + (-1 : Int32)))
  else (m_Mo_mostOf_b14 p1 p2 p3 h n x5 (x5 + (-1 : Int32))))))
def m_Mo_mostOf (p1 : Int32) (p2 : Int32) (p3 : Int32) (h : Hp) : Option Int32 := (some ((h 2 0) - (1 : Int32))).bind fun y12 =>
  m_Mo_mostOf_b14 p1 p2 p3 h FU (-4 : Int32) y12

def m_Mo_leastOf_b7  (p1 : Int32) (p2 : Int32) (p3 : Int32) (h : Hp) : Nat → Int32 → Int32 → Option Int32
  | 0, _, _ => none
  | n + 1, x4, x5 => if (h 2 0) ≤ x5 then (some x4)
  else ((m_Mo_has p2 x5 h).bind fun r21 =>
  if r21 = 0 then (m_Mo_leastOf_b7 p1 p2 p3 h n x4 (x5 + (1 : Int32)))
  else (if x4 < 0 then (m_Mo_leastOf_b7 p1 p2 p3 h n x5 (x5 + (1 : Int32)))
  else ((m_Mo_worthAt p1 x5 p3 h).bind fun r37 =>
  (m_Mo_worthAt p1 x4 p3 h).bind fun r45 =>
  if r45 < r37 then (m_Mo_leastOf_b7 p1 p2 p3 h n x4 (x5 + (1 : Int32)))
  else (m_Mo_leastOf_b7 p1 p2 p3 h n x5 (x5 + (1 : Int32))))))
def m_Mo_leastOf (p1 : Int32) (p2 : Int32) (p3 : Int32) (h : Hp) : Option Int32 := m_Mo_leastOf_b7 p1 p2 p3 h FU (-4 : Int32) (0 : Int32)

def m_Mo_hasHeart (p1 : Int32) (p2 : Int32) (p3 : Int32) (p4 : Int32) (p5 : Int32) (h : Hp) : Option Int32 := (m_Mo_has p5 p3 h).bind fun r3 =>
  if r3 = 0 then ((m_Mo_worthAt p2 p3 p4 h).bind fun r16 =>
  if p1 = 0 then (if r16 ≤ (4 : Int32) then (some (0 : Int32))
  else (some (1 : Int32)))
  else (if p1 = (1 : Int32) then (some (1 : Int32))
  else (if p1 = (3 : Int32) then (if r16 ≤ 0 then (some (0 : Int32))
  else ((m_Mo_leftBy p5 h).bind fun r59 =>
  (m_Mo_mostOf p2 r59 p4 h).bind fun r64 =>
  if r64 = p3 then (some (1 : Int32))
  else (some (0 : Int32))))
  else (some (0 : Int32)))))
  else (some (0 : Int32))

def m_Mo_sumOf_b6  (p1 : Int32) (p2 : Int32) (p3 : Int32) (h : Hp) : Nat → Int32 → Int32 → Option Int32
  | 0, _, _ => none
  | n + 1, x4, x5 => if (h 2 1) ≤ x5 then (some x4)
  else (if x5 = p3 then ((some (x4 + (0 : Int32))).bind fun y38 =>
  m_Mo_sumOf_b6 p1 p2 p3 h n y38 (x5 + (1 : Int32)))
  else ((m_Mo_worthAt x5 p1 p2 h).bind fun r34 =>
  (some (x4 + r34)).bind fun y38 =>
  m_Mo_sumOf_b6 p1 p2 p3 h n y38 (x5 + (1 : Int32))))
def m_Mo_sumOf (p1 : Int32) (p2 : Int32) (p3 : Int32) (h : Hp) : Option Int32 := m_Mo_sumOf_b6 p1 p2 p3 h FU (0 : Int32) (0 : Int32)

def m_Mo_mostToAll_b60 (k11 : Int32 → Int32 → Int32 → Option Int32) (p1 : Int32) (p2 : Int32) (p3 : Int32) (h : Hp) (x5 : Int32) (x6 : Int32) (x7 : Int32) (s0 : Int32) : Option Int32 := if x7 ≤ x5 then (k11 s0 x5 (x6 + (1 : Int32)))
  else (k11 s0 x7 (x6 + (1 : Int32)))
def m_Mo_mostToAll_b44 (k11 : Int32 → Int32 → Int32 → Option Int32) (p1 : Int32) (p2 : Int32) (p3 : Int32) (h : Hp) (x4 : Int32) (x5 : Int32) (x6 : Int32) (s0 : Int32) : Option Int32 := if s0 ≤ x5 then (m_Mo_mostToAll_b60 (k11) p1 p2 p3 h x5 x6 s0 x4)
  else (m_Mo_mostToAll_b60 (k11) p1 p2 p3 h x5 x6 s0 x6)
def m_Mo_mostToAll_b11  (p1 : Int32) (p2 : Int32) (p3 : Int32) (h : Hp) : Nat → Int32 → Int32 → Int32 → Option Int32
  | 0, _, _, _ => none
  | n + 1, x4, x5, x6 => if (h 2 0) ≤ x6 then (some x4)
  else ((m_Mo_has p1 x6 h).bind fun r25 =>
  if r25 = 0 then (m_Mo_mostToAll_b44 (m_Mo_mostToAll_b11 p1 p2 p3 h n) p1 p2 p3 h x4 x5 x6 (-4 : Int32))
  else ((m_Mo_sumOf x6 p2 p3 h).bind fun r36 =>
  m_Mo_mostToAll_b44 (m_Mo_mostToAll_b11 p1 p2 p3 h n) p1 p2 p3 h x4 x5 x6 r36))
def m_Mo_mostToAll (p1 : Int32) (p2 : Int32) (p3 : Int32) (h : Hp) : Option Int32 := m_Mo_mostToAll_b11 p1 p2 p3 h FU (-4 : Int32) (-4 : Int32) (0 : Int32)

def m_Mo_guest_b27  (p1 : Int32) (p2 : Int32) (h : Hp) : Nat → Int32 → Int32 → Option Int32
  | 0, _, _ => none
  | n + 1, x3, x4 => if (h 2 0) ≤ x4 then (if p2 = 0 then (if inR ((5 : Int32) + p1) 74 then some (h 2 ((((5 : Int32) + p1)).toNatClampNeg)) else none)
  else (if p2 = (1 : Int32) then (if inR ((3 : Int32) + p1) 12 then some (h 4 ((((3 : Int32) + p1)).toNatClampNeg)) else none)
  else (if p2 = (2 : Int32) then (some x3)
  else ((m_Mo_leftBy (h 4 1) h).bind fun r134 =>
  (m_Mo_mostOf p1 r134 (h 4 0) h).bind fun r143 =>
  some r143))))
  else (if inR ((5 : Int32) + p1) 74 then (m_Mo_hasHeart (h 2 ((((5 : Int32) + p1)).toNatClampNeg)) p1 x4 (h 4 0) (h 4 1) h).bind fun r63 =>
  if r63 = 0 then ((some (x3 ||| (0 : Int32))).bind fun y78 =>
  m_Mo_guest_b27 p1 p2 h n y78 (x4 + (1 : Int32)))
  else ((some (x3 ||| ((1 : Int32) <<< (x4 &&& 31)))).bind fun y78 =>
  m_Mo_guest_b27 p1 p2 h n y78 (x4 + (1 : Int32))) else none)
def m_Mo_guest (p1 : Int32) (p2 : Int32) (h : Hp) : Option Int32 := (m_Mo_isGuest p1 h).bind fun r2 =>
  if r2 = 0 then (some (-1 : Int32))
  else ((m_Mo_in (p2.toInt64) (0 : Int64) (3 : Int64) h).bind fun r14 =>
  if r14 = 0 then (some (-1 : Int32))
  else (m_Mo_guest_b27 p1 p2 h FU (0 : Int32) (0 : Int32)))

def m_Mo_dish_b27  (p1 : Int32) (p2 : Int32) (h : Hp) : Nat → Int32 → Int32 → Option Int32
  | 0, _, _ => none
  | n + 1, x3, x4 => if (h 2 1) ≤ x4 then (if p2 = 0 then (if inR ((14 : Int32) + p1) 74 then some (h 2 ((((14 : Int32) + p1)).toNatClampNeg)) else none)
  else (if p2 = (1 : Int32) then (some (((h 4 1) >>> (p1 &&& 31)) &&& (1 : Int32)))
  else (if p2 = (2 : Int32) then (some x3)
  else ((m_Mo_sumOf p1 (h 4 0) (-4 : Int32) h).bind fun r136 =>
  some r136))))
  else (if inR ((5 : Int32) + x4) 74 then (m_Mo_hasHeart (h 2 ((((5 : Int32) + x4)).toNatClampNeg)) x4 p1 (h 4 0) (h 4 1) h).bind fun r64 =>
  if r64 = 0 then ((some (x3 + (0 : Int32))).bind fun y76 =>
  m_Mo_dish_b27 p1 p2 h n y76 (x4 + (1 : Int32)))
  else ((some (x3 + (1 : Int32))).bind fun y76 =>
  m_Mo_dish_b27 p1 p2 h n y76 (x4 + (1 : Int32))) else none)
def m_Mo_dish (p1 : Int32) (p2 : Int32) (h : Hp) : Option Int32 := (m_Mo_isDish p1 h).bind fun r2 =>
  if r2 = 0 then (some (-1 : Int32))
  else ((m_Mo_in (p2.toInt64) (0 : Int64) (3 : Int64) h).bind fun r14 =>
  if r14 = 0 then (some (-1 : Int32))
  else (m_Mo_dish_b27 p1 p2 h FU (0 : Int32) (0 : Int32)))

def m_Mo_worth (p1 : Int32) (p2 : Int32) (h : Hp) : Option Int32 := (m_Mo_isGuest p1 h).bind fun r2 =>
  if r2 = 0 then (some (-1 : Int32))
  else ((m_Mo_isDish p2 h).bind fun r10 =>
  if r10 = 0 then (some (-1 : Int32))
  else ((m_Mo_worthAt p1 p2 (h 4 0) h).bind fun r25 =>
  some r25))

def m_Mo_note_b50   : Nat → Int32 → Hp → Option Hp
  | 0, _, _ => none
  | n + 1, x1, h => if (12 : Int32) ≤ x1 then ((some (wr h 0 7 ((h 0 7) + (1 : Int32)))).bind fun h_89 =>
  some h_89)
  else (if inR x1 12 then if inR (((12 : Int32) * (h 0 7)) + x1) 96 then (some (wr h 5 (((((12 : Int32) * (h 0 7)) + x1)).toNatClampNeg) (h 4 ((x1).toNatClampNeg)))).bind fun h_75 =>
  m_Mo_note_b50 n (x1 + (1 : Int32)) h_75 else none else none)
def m_Mo_note_b11   : Nat → Int32 → Hp → Option Hp
  | 0, _, _ => none
  | n + 1, x1, h => if (84 : Int32) ≤ x1 then ((some (wr h 0 7 ((h 0 7) - (1 : Int32)))).bind fun h_45 =>
  m_Mo_note_b50 FU (0 : Int32) h_45)
  else (if inR ((12 : Int32) + x1) 96 then if inR x1 96 then (some (wr h 5 ((x1).toNatClampNeg) (h 5 ((((12 : Int32) + x1)).toNatClampNeg)))).bind fun h_31 =>
  m_Mo_note_b11 n (x1 + (1 : Int32)) h_31 else none else none)
def m_Mo_note  (h : Hp) : Option Hp := if (h 0 7) = (8 : Int32) then (m_Mo_note_b11 FU (0 : Int32) h)
  else (m_Mo_note_b50 FU (0 : Int32) h)

def m_Mo_pass (p1 : Int32) (h : Hp) : Option (Int32 × Hp) := (m_Mo_in (p1.toInt64) (1 : Int64) (30 : Int64) h).bind fun r6 =>
  if r6 = 0 then (some ((-1 : Int32), h))
  else (if (99 : Int32) < ((h 4 0) + p1) then (some ((-2 : Int32), h))
  else (if (h 4 2) < 0 then ((m_Mo_note h).bind fun h_40 =>
  (some (wr h_40 4 0 ((h_40 4 0) + p1))).bind fun h_52 =>
  some (h_52 4 0, h_52))
  else (some ((-2 : Int32), h))))

def m_Mo_veto (p1 : Int32) (p2 : Int32) (h : Hp) : Option (Int32 × Hp) := (m_Mo_isGuest p1 h).bind fun r2 =>
  if r2 = 0 then (some ((-1 : Int32), h))
  else ((m_Mo_isDish p2 h).bind fun r10 =>
  if r10 = 0 then (some ((-1 : Int32), h))
  else ((m_Mo_leftBy (h 4 1) h).bind fun r25 =>
  (m_Mo_has r25 p2 h).bind fun r31 =>
  if r31 = 0 then (some ((-2 : Int32), h))
  else (if inR ((3 : Int32) + p1) 12 then if (h 4 ((((3 : Int32) + p1)).toNatClampNeg)) = 0 then (some ((-2 : Int32), h))
  else ((m_Mo_ones r25 h).bind fun r49 =>
  if r49 < (2 : Int32) then (some ((-2 : Int32), h))
  else (if (h 4 2) < 0 then ((m_Mo_note h).bind fun h_69 =>
  (some (wr h_69 4 1 ((h_69 4 1) ||| ((1 : Int32) <<< (p2 &&& 31))))).bind fun h_83 =>
  if inR ((3 : Int32) + p1) 12 then if inR ((3 : Int32) + p1) 12 then (some (wr h_83 4 ((((3 : Int32) + p1)).toNatClampNeg) ((h_83 4 ((((3 : Int32) + p1)).toNatClampNeg)) - (1 : Int32)))).bind fun h_95 =>
  (m_Mo_ones r25 h_95).bind fun r97 =>
  some ((r97 - (1 : Int32)), h_95) else none else none)
  else (some ((-2 : Int32), h)))) else none)))

def m_Mo_canOrder (p1 : Int32) (p2 : Int32) (h : Hp) : Option Int32 := (m_Mo_has (h 4 1) p1 h).bind fun r7 =>
  if r7 = 0 then (if 0 ≤ (h 4 2) then (some (0 : Int32))
  else (if inR ((14 : Int32) + p1) 74 then if (h 2 3) < (p2 + (h 2 ((((14 : Int32) + p1)).toNatClampNeg))) then (some (0 : Int32))
  else (some (1 : Int32)) else none))
  else (some (0 : Int32))

def m_Mo_order (p1 : Int32) (h : Hp) : Option (Int32 × Hp) := (m_Mo_isDish p1 h).bind fun r2 =>
  if r2 = 0 then (some ((-1 : Int32), h))
  else ((m_Mo_canOrder p1 (h 4 0) h).bind fun r18 =>
  if r18 = 0 then (some ((-2 : Int32), h))
  else ((m_Mo_note h).bind fun h_28 =>
  (some (wr h_28 4 2 p1)).bind fun h_37 =>
  if inR ((14 : Int32) + p1) 74 then some (((h_37 4 0) + (h_37 2 ((((14 : Int32) + p1)).toNatClampNeg))), h_37) else none))

def m_Mo_undo_b22   : Nat → Int32 → Hp → Option (Int32 × Hp)
  | 0, _, _ => none
  | n + 1, x1, h => if (12 : Int32) ≤ x1 then (some (h 0 7, h))
  else (if inR (((12 : Int32) * (h 0 7)) + x1) 96 then if inR x1 12 then (some (wr h 4 ((x1).toNatClampNeg) (h 5 (((((12 : Int32) * (h 0 7)) + x1)).toNatClampNeg)))).bind fun h_47 =>
  m_Mo_undo_b22 n (x1 + (1 : Int32)) h_47 else none else none)
def m_Mo_undo  (h : Hp) : Option (Int32 × Hp) := if (h 0 7) = 0 then (some ((-2 : Int32), h))
  else ((some (wr h 0 7 ((h 0 7) - (1 : Int32)))).bind fun h_17 =>
  m_Mo_undo_b22 FU (0 : Int32) h_17)

def m_Mo_most (p1 : Int32) (h : Hp) : Option Int32 := (m_Mo_in (p1.toInt64) (0 : Int64) (1 : Int64) h).bind fun r4 =>
  if r4 = 0 then (some (-1 : Int32))
  else ((m_Mo_leftBy (h 4 1) h).bind fun r20 =>
  (m_Mo_mostToAll r20 (h 4 0) (-4 : Int32) h).bind fun r31 =>
  if p1 = 0 then (some r31)
  else ((m_Mo_sumOf r31 (h 4 0) (-4 : Int32) h).bind fun r53 =>
  some r53))

def m_Mo_worstOff_b4  (p1 : Int32) (h : Hp) : Nat → Int32 → Int32 → Option Int32
  | 0, _, _ => none
  | n + 1, x2, x3 => if (h 2 1) ≤ x3 then (some x2)
  else ((m_Mo_worthAt x3 p1 (h 4 0) h).bind fun r23 =>
  (m_Mo_worthAt x2 p1 (h 4 0) h).bind fun r35 =>
  if r35 ≤ r23 then (m_Mo_worstOff_b4 p1 h n x2 (x3 + (1 : Int32)))
  else (m_Mo_worstOff_b4 p1 h n x3 (x3 + (1 : Int32))))
def m_Mo_worstOff (p1 : Int32) (h : Hp) : Option Int32 := m_Mo_worstOff_b4 p1 h FU (0 : Int32) (1 : Int32)

def m_Mo_fair_b101 (k21 : Int32 → Int32 → Int32 → Option Int32) (p1 : Int32) (h : Hp) (x3 : Int32) (x4 : Int32) (x5 : Int32) (s0 : Int32) : Option Int32 := if x5 ≤ x3 then (k21 s0 x3 (x4 + (1 : Int32)))
  else (k21 s0 x5 (x4 + (1 : Int32)))
def m_Mo_fair_b87 (k21 : Int32 → Int32 → Int32 → Option Int32) (p1 : Int32) (h : Hp) (x2 : Int32) (x3 : Int32) (x4 : Int32) (s0 : Int32) : Option Int32 := if s0 ≤ x3 then (m_Mo_fair_b101 (k21) p1 h x3 x4 s0 x2)
  else (m_Mo_fair_b101 (k21) p1 h x3 x4 s0 x4)
def m_Mo_fair_b21  (p1 : Int32) (h : Hp) : Nat → Int32 → Int32 → Int32 → Option Int32
  | 0, _, _, _ => none
  | n + 1, x2, x3, x4 => if (h 2 0) ≤ x4 then (if p1 = 0 then (some x2)
  else (some (x3 / (100 : Int32))))
  else ((m_Mo_has (h 4 1) x4 h).bind fun r40 =>
  if r40 = 0 then ((m_Mo_worstOff x4 h).bind fun r57 =>
  (m_Mo_worthAt r57 x4 (h 4 0) h).bind fun r68 =>
  (m_Mo_sumOf x4 (h 4 0) (-4 : Int32) h).bind fun r83 =>
  m_Mo_fair_b87 (m_Mo_fair_b21 p1 h n) p1 h x2 x3 x4 (((100 : Int32) * r68) + r83))
  else (m_Mo_fair_b87 (m_Mo_fair_b21 p1 h n) p1 h x2 x3 x4 (-4 : Int32)))
def m_Mo_fair (p1 : Int32) (h : Hp) : Option Int32 := (m_Mo_in (p1.toInt64) (0 : Int64) (1 : Int64) h).bind fun r4 =>
  if r4 = 0 then (some (-1 : Int32))
  else (m_Mo_fair_b21 p1 h FU (-4 : Int32) (-4 : Int32) (0 : Int32))

def m_Mo_lead_b5  (p1 : Int32) (p2 : Int32) (h : Hp) : Nat → Int32 → Int32 → Option Int32
  | 0, _, _ => none
  | n + 1, x3, x4 => if (h 2 1) ≤ x4 then (some x3)
  else ((m_Mo_worthAt x4 p1 (h 4 0) h).bind fun r26 =>
  (m_Mo_worthAt x4 p2 (h 4 0) h).bind fun r39 =>
  (some (r26 - r39)).bind fun y43 =>
  if y43 ≤ 0 then (if 0 ≤ y43 then ((some (x3 + (0 : Int32))).bind fun y66 =>
  m_Mo_lead_b5 p1 p2 h n y66 (x4 + (1 : Int32)))
  else ((some (x3 + (-1 : Int32))).bind fun y66 =>
  m_Mo_lead_b5 p1 p2 h n y66 (x4 + (1 : Int32))))
  else ((some (x3 + (1 : Int32))).bind fun y66 =>
  m_Mo_lead_b5 p1 p2 h n y66 (x4 + (1 : Int32))))
def m_Mo_lead (p1 : Int32) (p2 : Int32) (h : Hp) : Option Int32 := m_Mo_lead_b5 p1 p2 h FU (0 : Int32) (0 : Int32)

def m_Mo_isLeft (p1 : Int32) (h : Hp) : Option Int32 := (m_Mo_isDish p1 h).bind fun r2 =>
  if r2 = 0 then (some (0 : Int32))
  else ((m_Mo_has (h 4 1) p1 h).bind fun r15 =>
  if r15 = 0 then (some (1 : Int32))
  else (some (0 : Int32)))

def m_Mo_beats (p1 : Int32) (p2 : Int32) (h : Hp) : Option Int32 := (m_Mo_isLeft p1 h).bind fun r2 =>
  if r2 = 0 then (some (-1 : Int32))
  else ((m_Mo_isLeft p2 h).bind fun r10 =>
  if r10 = 0 then (some (-1 : Int32))
  else (if p1 = p2 then (some (-1 : Int32))
  else ((m_Mo_lead p1 p2 h).bind fun r26 =>
  some ((50 : Int32) + r26))))

def m_Mo_champion_b20 (k2 : Int32 → Option Int32)  (h : Hp) : Nat → Int32 → Int32 → Int32 → Option Int32
  | 0, _, _, _ => none
  | n + 1, x1, x2, x3 => if (h 2 0) ≤ x3 then (if x2 = 0 then (k2 (x1 + (1 : Int32)))
  else (some x1))
  else (if x2 = 0 then (m_Mo_champion_b20 k2 h n x1 (0 : Int32) (x3 + (1 : Int32)))
  else (if x3 = x1 then (m_Mo_champion_b20 k2 h n x1 (1 : Int32) (x3 + (1 : Int32)))
  else ((m_Mo_isLeft x3 h).bind fun r41 =>
  if r41 = 0 then (m_Mo_champion_b20 k2 h n x1 (1 : Int32) (x3 + (1 : Int32)))
  else ((m_Mo_lead x1 x3 h).bind fun r50 =>
  if r50 ≤ 0 then (m_Mo_champion_b20 k2 h n x1 (0 : Int32) (x3 + (1 : Int32)))
  else (m_Mo_champion_b20 k2 h n x1 (1 : Int32) (x3 + (1 : Int32)))))))
def m_Mo_champion_b2   (h : Hp) : Nat → Int32 → Option Int32
  | 0, _ => none
  | n + 1, x1 => if (h 2 0) ≤ x1 then (some (-4 : Int32))
  else ((m_Mo_isLeft x1 h).bind fun r14 =>
  m_Mo_champion_b20 (m_Mo_champion_b2 h n) h FU x1 r14 (0 : Int32))
def m_Mo_champion  (h : Hp) : Option Int32 := m_Mo_champion_b2 h FU (0 : Int32)

def m_Mo_middle_b60 (k25 : Int32 → Int32 → Int32 → Option Int32) (k38 : Int32 → Int32 → Int32 → Int32 → Option Int32)  (h : Hp) : Nat → Int32 → Int32 → Int32 → Int32 → Int32 → Int32 → Option Int32
  | 0, _, _, _, _, _, _ => none
  | n + 1, x1, x2, x3, x4, x5, x6 => if (h 2 0) ≤ x6 then (if x5 = 0 then ((some (x1 &&& (-1 : Int32))).bind fun y151 =>
  k38 y151 x2 x3 (x4 + (1 : Int32)))
  else ((some (x1 &&& (((1 : Int32) <<< (x4 &&& 31)) ^^^ (-1 : Int32)))).bind fun y151 =>
  k38 y151 x2 x3 (x4 + (1 : Int32))))
  else (if x5 = 0 then (m_Mo_middle_b60 k25 k38 h n x1 x2 x3 x4 (0 : Int32) (x6 + (1 : Int32)))
  else (if x6 = x4 then (m_Mo_middle_b60 k25 k38 h n x1 x2 x3 x4 (1 : Int32) (x6 + (1 : Int32)))
  else ((m_Mo_has x2 x6 h).bind fun r86 =>
  if r86 = 0 then (m_Mo_middle_b60 k25 k38 h n x1 x2 x3 x4 (1 : Int32) (x6 + (1 : Int32)))
  else ((m_Mo_worthAt x3 x4 (h 4 0) h).bind fun r102 =>
  (m_Mo_worthAt x3 x6 (h 4 0) h).bind fun r115 =>
  if r115 ≤ r102 then (m_Mo_middle_b60 k25 k38 h n x1 x2 x3 x4 (0 : Int32) (x6 + (1 : Int32)))
  else (m_Mo_middle_b60 k25 k38 h n x1 x2 x3 x4 (1 : Int32) (x6 + (1 : Int32)))))))
def m_Mo_middle_b38 (k25 : Int32 → Int32 → Int32 → Option Int32)  (h : Hp) : Nat → Int32 → Int32 → Int32 → Int32 → Option Int32
  | 0, _, _, _, _ => none
  | n + 1, x1, x2, x3, x4 => if (h 2 0) ≤ x4 then (k25 x1 x2 (x3 + (1 : Int32)))
  else ((m_Mo_has x2 x4 h).bind fun r52 =>
  m_Mo_middle_b60 (k25) (m_Mo_middle_b38 k25 h n) h FU x1 x2 x3 x4 r52 (0 : Int32))
def m_Mo_middle_b25   (h : Hp) : Nat → Int32 → Int32 → Int32 → Option Int32
  | 0, _, _, _ => none
  | n + 1, x1, x2, x3 => if (h 2 1) ≤ x3 then (some x1)
  else (m_Mo_middle_b38 (m_Mo_middle_b25 h n) h FU x1 x2 x3 (0 : Int32))
def m_Mo_middle  (h : Hp) : Option Int32 := (m_Mo_leftBy (h 4 1) h).bind fun r7 =>
  (m_Mo_ones r7 h).bind fun r12 =>
  if r12 = (1 : Int32) then (some r7)
  else (m_Mo_middle_b25 h FU r7 r7 (0 : Int32))

def m_Mo_struck_b23  (p1 : Int32) (h : Hp) : Nat → Int32 → Int32 → Option Int32
  | 0, _, _ => none
  | n + 1, x2, x3 => (m_Mo_ones x2 h).bind fun r24 =>
  if r24 ≤ (1 : Int32) then ((m_Mo_leastOf p1 x2 (h 4 0) h).bind fun r73 =>
  some r73)
  else ((m_Mo_leastOf x3 x2 (h 4 0) h).bind fun r42 =>
  (some (x2 &&& (((1 : Int32) <<< (r42 &&& 31)) ^^^ (-1 : Int32)))).bind fun y49 =>
  if ¬ (h 2 1) = 0 then (some ((x3 + (1 : Int32)) - (x3 + (1 : Int32)) / (h 2 1) * (h 2 1))).bind fun y60 =>
  m_Mo_struck_b23 p1 h n y49 y60 else none)
def m_Mo_struck (p1 : Int32) (h : Hp) : Option Int32 := (m_Mo_isGuest p1 h).bind fun r2 =>
  if r2 = 0 then (some (-1 : Int32))
  else ((m_Mo_leftBy (h 4 1) h).bind fun r17 =>
  m_Mo_struck_b23 p1 h FU r17 p1)

def m_Mo_both_b5  (p1 : Int32) (p2 : Int32) (h : Hp) : Nat → Int32 → Int32 → Option Int32
  | 0, _, _ => none
  | n + 1, x3, x4 => if (h 2 1) ≤ x4 then (some x3)
  else ((m_Mo_worthAt x4 p1 (h 4 0) h).bind fun r26 =>
  (m_Mo_worthAt x4 p2 (h 4 0) h).bind fun r41 =>
  if r26 ≤ r41 then ((some (x3 + r41)).bind fun y62 =>
  m_Mo_both_b5 p1 p2 h n y62 (x4 + (1 : Int32)))
  else ((some (x3 + r26)).bind fun y62 =>
  m_Mo_both_b5 p1 p2 h n y62 (x4 + (1 : Int32))))
def m_Mo_both (p1 : Int32) (p2 : Int32) (h : Hp) : Option Int32 := m_Mo_both_b5 p1 p2 h FU (0 : Int32) (0 : Int32)

def m_Mo_bestTwo_b77 (k8 : Int32 → Int32 → Int32 → Option Int32)  (h : Hp) (x2 : Int32) (x3 : Int32) (x6 : Int32) (s0 : Int32) : Option Int32 := if x6 ≤ x2 then (k8 s0 x2 (x3 + (1 : Int32)))
  else (k8 s0 x6 (x3 + (1 : Int32)))
def m_Mo_bestTwo_b64 (k8 : Int32 → Int32 → Int32 → Option Int32)  (h : Hp) (x1 : Int32) (x2 : Int32) (x3 : Int32) (s0 : Int32) : Option Int32 := if s0 ≤ x2 then (m_Mo_bestTwo_b77 (k8) h x2 x3 s0 x1)
  else (m_Mo_bestTwo_b77 (k8) h x2 x3 s0 x3)
def m_Mo_bestTwo_b62 (k8 : Int32 → Int32 → Int32 → Option Int32)  (h : Hp) (x1 : Int32) (x2 : Int32) (x3 : Int32) : Option Int32 := m_Mo_bestTwo_b64 (k8) h x1 x2 x3 (-4 : Int32)
def m_Mo_bestTwo_b8   (h : Hp) : Nat → Int32 → Int32 → Int32 → Option Int32
  | 0, _, _, _ => none
  | n + 1, x1, x2, x3 => if (64 : Int32) ≤ x3 then (some x1)
  else ((some (x3 / (8 : Int32))).bind fun y18 =>
  (some (x3 - x3 / (8 : Int32) * (8 : Int32))).bind fun y24 =>
  if y24 ≤ y18 then (m_Mo_bestTwo_b62 (m_Mo_bestTwo_b8 h n) h x1 x2 x3)
  else ((m_Mo_isLeft y18 h).bind fun r36 =>
  if r36 = 0 then (m_Mo_bestTwo_b62 (m_Mo_bestTwo_b8 h n) h x1 x2 x3)
  else ((m_Mo_isLeft y24 h).bind fun r45 =>
  if r45 = 0 then (m_Mo_bestTwo_b62 (m_Mo_bestTwo_b8 h n) h x1 x2 x3)
  else ((m_Mo_both y18 y24 h).bind fun r56 =>
  m_Mo_bestTwo_b64 (m_Mo_bestTwo_b8 h n) h x1 x2 x3 r56))))
def m_Mo_bestTwo  (h : Hp) : Option Int32 := m_Mo_bestTwo_b8 h FU (-4 : Int32) (-4 : Int32) (0 : Int32)

def m_Mo_two (p1 : Int32) (h : Hp) : Option Int32 := (m_Mo_in (p1.toInt64) (0 : Int64) (1 : Int64) h).bind fun r4 =>
  if r4 = 0 then (some (-1 : Int32))
  else ((m_Mo_bestTwo h).bind fun r13 =>
  if r13 < 0 then (some r13)
  else (if p1 = 0 then (some r13)
  else ((m_Mo_both (r13 / (8 : Int32)) (r13 - r13 / (8 : Int32) * (8 : Int32)) h).bind fun r38 =>
  some r38)))

def m_Mo_houses (p1 : Int32) (h : Hp) : Option Int32 := (m_Mo_in (p1.toInt64) (0 : Int64) (99 : Int64) h).bind fun r6 =>
  if r6 = 0 then (some (-1 : Int32))
  else ((m_Mo_bestTwo h).bind fun r15 =>
  if r15 < 0 then (some (2 : Int32))
  else ((m_Mo_both (r15 / (8 : Int32)) (r15 - r15 / (8 : Int32) * (8 : Int32)) h).bind fun r32 =>
  (m_Mo_most (1 : Int32) h).bind fun r39 =>
  if (r32 - p1) ≤ r39 then (some (2 : Int32))
  else (some (1 : Int32))))

def m_Mo_waits_b81 (k35 : Int32 → Int32 → Int32 → Option Int32) (p1 : Int32) (p2 : Int32) (h : Hp) (x4 : Int32) (x5 : Int32) (x6 : Int32) (s0 : Int32) : Option Int32 := if x6 ≤ x4 then (k35 s0 x4 (x5 + (1 : Int32)))
  else (k35 s0 x6 (x5 + (1 : Int32)))
def m_Mo_waits_b66 (k35 : Int32 → Int32 → Int32 → Option Int32) (p1 : Int32) (p2 : Int32) (h : Hp) (x3 : Int32) (x4 : Int32) (x5 : Int32) (s0 : Int32) : Option Int32 := if s0 ≤ x4 then (m_Mo_waits_b81 (k35) p1 p2 h x4 x5 s0 x3)
  else (m_Mo_waits_b81 (k35) p1 p2 h x4 x5 s0 x5)
def m_Mo_waits_b35  (p1 : Int32) (p2 : Int32) (h : Hp) : Nat → Int32 → Int32 → Int32 → Option Int32
  | 0, _, _, _ => none
  | n + 1, x3, x4, x5 => if (100 : Int32) ≤ x5 then (if p2 = 0 then (some x3)
  else (some x4))
  else ((m_Mo_canOrder p1 x5 h).bind fun r46 =>
  if r46 = 0 then (m_Mo_waits_b66 (m_Mo_waits_b35 p1 p2 h n) p1 p2 h x3 x4 x5 (-4 : Int32))
  else ((m_Mo_sumOf p1 x5 (-4 : Int32) h).bind fun r58 =>
  m_Mo_waits_b66 (m_Mo_waits_b35 p1 p2 h n) p1 p2 h x3 x4 x5 r58))
def m_Mo_waits (p1 : Int32) (p2 : Int32) (h : Hp) : Option Int32 := (m_Mo_isDish p1 h).bind fun r2 =>
  if r2 = 0 then (some (-1 : Int32))
  else ((m_Mo_in (p2.toInt64) (0 : Int64) (1 : Int64) h).bind fun r12 =>
  if r12 = 0 then (some (-1 : Int32))
  else ((some (h 4 0)).bind fun y33 =>
  m_Mo_waits_b35 p1 p2 h FU (-4 : Int32) (-4 : Int32) y33))

def m_Mo_heard (p1 : Int32) (p2 : Int32) (p3 : Int32) (h : Hp) : Option (Int32 × Hp) := (m_Mo_isGuest p1 h).bind fun r2 =>
  if r2 = 0 then (some ((-1 : Int32), h))
  else ((m_Mo_isDish p2 h).bind fun r10 =>
  if r10 = 0 then (some ((-1 : Int32), h))
  else ((m_Mo_in (p3.toInt64) (0 : Int64) (1 : Int64) h).bind fun r20 =>
  if r20 = 0 then (some ((-1 : Int32), h))
  else (if (h 0 11) = (8 : Int32) then (some ((-3 : Int32), h))
  else (if inR ((5 : Int32) * (h 0 11)) 40 then (some (wr h 7 ((((5 : Int32) * (h 0 11))).toNatClampNeg) p1)).bind fun h_51 =>
  if inR (((5 : Int32) * (h_51 0 11)) + (1 : Int32)) 40 then (some (wr h_51 7 (((((5 : Int32) * (h_51 0 11)) + (1 : Int32))).toNatClampNeg) p2)).bind fun h_65 =>
  if inR (((5 : Int32) * (h_65 0 11)) + (2 : Int32)) 40 then (some (wr h_65 7 (((((5 : Int32) * (h_65 0 11)) + (2 : Int32))).toNatClampNeg) p3)).bind fun h_79 =>
  if inR (((5 : Int32) * (h_79 0 11)) + (3 : Int32)) 40 then (some (wr h_79 7 (((((5 : Int32) * (h_79 0 11)) + (3 : Int32))).toNatClampNeg) (h_79 4 0))).bind fun h_98 =>
  if inR (((5 : Int32) * (h_98 0 11)) + (4 : Int32)) 40 then (some (wr h_98 7 (((((5 : Int32) * (h_98 0 11)) + (4 : Int32))).toNatClampNeg) (h_98 4 1))).bind fun h_117 =>
  (some (wr h_117 0 11 ((h_117 0 11) + (1 : Int32)))).bind fun h_125 =>
  some (h_125 0 11, h_125) else none else none else none else none else none))))

def m_Mo_forget  (h : Hp) : Option (Int32 × Hp) := (some (h 0 11)).bind fun y4 =>
  (some (wr h 0 11 (0 : Int32))).bind fun h_7 =>
  some (y4, h_7)

def m_Mo_may_b25 (k14 : Int32 → Int32 → Option Int32) (p1 : Int32) (h : Hp) : Nat → Int32 → Int32 → Int32 → Int32 → Option Int32
  | 0, _, _, _, _ => none
  | n + 1, x2, x3, x4, x5 => if (h 0 11) ≤ x5 then (if x4 = 0 then ((some (x2 ||| (0 : Int32))).bind fun y145 =>
  k14 y145 (x3 + (1 : Int32)))
  else ((some (x2 ||| ((1 : Int32) <<< (x3 &&& 31)))).bind fun y145 =>
  k14 y145 (x3 + (1 : Int32))))
  else (if inR (((5 : Int32) * x5) + (1 : Int32)) 40 then if inR (((5 : Int32) * x5) + (3 : Int32)) 40 then if inR (((5 : Int32) * x5) + (4 : Int32)) 40 then (m_Mo_hasHeart x3 p1 (h 7 (((((5 : Int32) * x5) + (1 : Int32))).toNatClampNeg)) (h 7 (((((5 : Int32) * x5) + (3 : Int32))).toNatClampNeg)) (h 7 (((((5 : Int32) * x5) + (4 : Int32))).toNatClampNeg)) h).bind fun r70 =>
  if x4 = 0 then (m_Mo_may_b25 k14 p1 h n x2 x3 (0 : Int32) (x5 + (1 : Int32)))
  else (if inR ((5 : Int32) * x5) 40 then if (h 7 ((((5 : Int32) * x5)).toNatClampNeg)) = p1 then (if inR (((5 : Int32) * x5) + (2 : Int32)) 40 then if (h 7 (((((5 : Int32) * x5) + (2 : Int32))).toNatClampNeg)) = (1 : Int32) then (if r70 = (1 : Int32) then (m_Mo_may_b25 k14 p1 h n x2 x3 (1 : Int32) (x5 + (1 : Int32)))
  else (m_Mo_may_b25 k14 p1 h n x2 x3 (0 : Int32) (x5 + (1 : Int32))))
  else (if r70 = (0 : Int32) then (m_Mo_may_b25 k14 p1 h n x2 x3 (1 : Int32) (x5 + (1 : Int32)))
  else (m_Mo_may_b25 k14 p1 h n x2 x3 (0 : Int32) (x5 + (1 : Int32)))) else none)
  else (m_Mo_may_b25 k14 p1 h n x2 x3 (1 : Int32) (x5 + (1 : Int32))) else none) else none else none else none)
def m_Mo_may_b14  (p1 : Int32) (h : Hp) : Nat → Int32 → Int32 → Option Int32
  | 0, _, _ => none
  | n + 1, x2, x3 => if (4 : Int32) ≤ x3 then (some x2)
  else (m_Mo_may_b25 (m_Mo_may_b14 p1 h n) p1 h FU x2 x3 (1 : Int32) (0 : Int32))
def m_Mo_may (p1 : Int32) (h : Hp) : Option Int32 := (m_Mo_isGuest p1 h).bind fun r2 =>
  if r2 = 0 then (some (-1 : Int32))
  else (m_Mo_may_b14 p1 h FU (0 : Int32) (0 : Int32))

def m_Mo_suits_b21  (p1 : Int32) (h : Hp) : Nat → Int32 → Int32 → Int32 → Option Int32
  | 0, _, _, _ => none
  | n + 1, x2, x3, x4 => if (h 2 1) ≤ x4 then (some x3)
  else ((m_Mo_worthAt x4 p1 (h 4 0) h).bind fun r43 =>
  (m_Mo_worthAt x4 x2 (h 4 0) h).bind fun r56 =>
  if r43 < r56 then ((some (x3 ||| (0 : Int32))).bind fun y71 =>
  m_Mo_suits_b21 p1 h n x2 y71 (x4 + (1 : Int32)))
  else ((some (x3 ||| ((1 : Int32) <<< (x4 &&& 31)))).bind fun y71 =>
  m_Mo_suits_b21 p1 h n x2 y71 (x4 + (1 : Int32))))
def m_Mo_suits (p1 : Int32) (h : Hp) : Option Int32 := (m_Mo_isLeft p1 h).bind fun r2 =>
  if r2 = 0 then (some (-1 : Int32))
  else ((m_Mo_most (0 : Int32) h).bind fun r12 =>
  m_Mo_suits_b21 p1 h FU r12 (0 : Int32) (0 : Int32))

def m_Mo_against (p1 : Int32) (p2 : Int32) (h : Hp) : Option Int32 := (m_Mo_isDish p1 h).bind fun r2 =>
  if r2 = 0 then (some (-1 : Int32))
  else ((m_Mo_in (p2.toInt64) (0 : Int64) (1 : Int64) h).bind fun r12 =>
  if r12 = 0 then (some (-1 : Int32))
  else ((m_Mo_worstOff p1 h).bind fun r22 =>
  if p2 = 0 then (some r22)
  else ((m_Mo_worthAt r22 p1 (h 4 0) h).bind fun r43 =>
  some r43)))

def m_Mo_ask_b22  (p1 : Int32) (h : Hp) : Nat → Int32 → Int32 → Option Int32
  | 0, _, _ => none
  | n + 1, x2, x3 => if p1 ≤ x3 then (some (-4 : Int32))
  else (if (h 2 1) ≤ x3 then (some (-4 : Int32))
  else ((m_Mo_leftBy (h 4 1) h).bind fun r45 =>
  (m_Mo_mostToAll r45 (h 4 0) x3 h).bind fun r55 =>
  if r55 = x2 then (m_Mo_ask_b22 p1 h n x2 (x3 + (1 : Int32)))
  else (some x3)))
def m_Mo_ask (p1 : Int32) (h : Hp) : Option Int32 := (m_Mo_in (p1.toInt64) (1 : Int64) (9 : Int64) h).bind fun r6 =>
  if r6 = 0 then (some (-1 : Int32))
  else ((m_Mo_most (0 : Int32) h).bind fun r16 =>
  m_Mo_ask_b22 p1 h FU r16 (0 : Int32))

def m_Mo_wheel_b146  (p1 : Int32) (p2 : Int32) (h : Hp) : Nat → Int32 → Int32 → Int32 → Int32 → Option Int32
  | 0, _, _, _, _ => none
  | n + 1, x5, x6, x7, x8 => if x8 = 0 then (if p2 = 0 then (if ¬ x7 = 0 then some ((x5 - x6) / x7) else none)
  else (if ¬ x7 = 0 then some (x5 / x7) else none))
  else (if ¬ x8 = 0 then (some (x7 - x7 / x8 * x8)).bind fun y156 =>
  m_Mo_wheel_b146 p1 p2 h n x5 x6 x8 y156 else none)
def m_Mo_wheel_b107  (p1 : Int32) (p2 : Int32) (h : Hp) : Nat → Int32 → Int32 → Int32 → Int32 → Int32 → Option Int32
  | 0, _, _, _, _, _ => none
  | n + 1, x3, x4, x5, x6, x7 => if p1 ≤ x7 then ((some (x5 - x6)).bind fun y140 =>
  m_Mo_wheel_b146 p1 p2 h FU x5 x6 y140 x5)
  else ((m_Mo_ones x3 h).bind fun r116 =>
  (some (x5 * r116)).bind fun y120 =>
  (some (x6 * x4)).bind fun y127 =>
  m_Mo_wheel_b107 p1 p2 h n x3 x4 y120 y127 (x7 + (1 : Int32)))
def m_Mo_wheel_b41  (p1 : Int32) (p2 : Int32) (h : Hp) : Nat → Int32 → Int32 → Int32 → Option Int32
  | 0, _, _, _ => none
  | n + 1, x3, x4, x5 => if (h 2 0) ≤ x5 then (m_Mo_wheel_b107 p1 p2 h FU x3 x4 (1 : Int32) (1 : Int32) (0 : Int32))
  else ((m_Mo_has x3 x5 h).bind fun r57 =>
  if r57 = 0 then ((some (x4 + (0 : Int32))).bind fun y90 =>
  m_Mo_wheel_b41 p1 p2 h n x3 y90 (x5 + (1 : Int32)))
  else ((m_Mo_worstOff x5 h).bind fun r67 =>
  (m_Mo_worthAt r67 x5 (h 4 0) h).bind fun r78 =>
  if r78 = 0 then ((some (x4 + (1 : Int32))).bind fun y90 =>
  m_Mo_wheel_b41 p1 p2 h n x3 y90 (x5 + (1 : Int32)))
  else ((some (x4 + (0 : Int32))).bind fun y90 =>
  m_Mo_wheel_b41 p1 p2 h n x3 y90 (x5 + (1 : Int32)))))
def m_Mo_wheel (p1 : Int32) (p2 : Int32) (h : Hp) : Option Int32 := (m_Mo_in (p1.toInt64) (0 : Int64) (6 : Int64) h).bind fun r6 =>
  if r6 = 0 then (some (-1 : Int32))
  else ((m_Mo_in (p2.toInt64) (0 : Int64) (1 : Int64) h).bind fun r16 =>
  if r16 = 0 then (some (-1 : Int32))
  else ((m_Mo_leftBy (h 4 1) h).bind fun r31 =>
  m_Mo_wheel_b41 p1 p2 h FU r31 (0 : Int32) (0 : Int32)))

def m_Mo_evening_b163 (k99 : Int32 → Int32 → Int32 → Hp → Option (Int32 × Hp)) (p1 : Int32) (p2 : Int32) (p3 : Int32) (x5 : Int32) (x6 : Int32) (x9 : Int32) (s0 : Int32) (s1 : Int32) (h : Hp) : Option (Int32 × Hp) := (some (s0 + s1)).bind fun y164 =>
  if ¬ (h 2 1) = 0 then (some ((x9 / (8 : Int32)) - (x9 / (8 : Int32)) / (h 2 1) * (h 2 1))).bind fun y178 =>
  if inR y178 9 then if (h 9 ((y178).toNatClampNeg)) ≤ 0 then (k99 y164 x5 (x6 + (1 : Int32)) h)
  else ((m_Mo_leftBy x5 h).bind fun r193 =>
  (m_Mo_ones r193 h).bind fun r196 =>
  if r196 ≤ (1 : Int32) then (k99 y164 x5 (x6 + (1 : Int32)) h)
  else (if ((x9 / (128 : Int32)) - (x9 / (128 : Int32)) / (3 : Int32) * (3 : Int32)) = 0 then ((m_Mo_leftBy x5 h).bind fun r223 =>
  (m_Mo_leastOf y178 r223 y164 h).bind fun r228 =>
  (some (x5 ||| ((1 : Int32) <<< (r228 &&& 31)))).bind fun y233 =>
  if inR y178 9 then if inR y178 9 then (some (wr h 9 ((y178).toNatClampNeg) ((h 9 ((y178).toNatClampNeg)) - (1 : Int32)))).bind fun h_245 =>
  k99 y164 y233 (x6 + (1 : Int32)) h_245 else none else none)
  else (k99 y164 x5 (x6 + (1 : Int32)) h))) else none else none
def m_Mo_evening_b99  (p1 : Int32) (p2 : Int32) (p3 : Int32) : Nat → Int32 → Int32 → Int32 → Hp → Option (Int32 × Hp)
  | 0, _, _, _, _ => none
  | n + 1, x4, x5, x6, h => if p2 ≤ x6 then (if p3 = 0 then ((m_Mo_leftBy x5 h).bind fun r259 =>
  some (r259, h))
  else ((m_Mo_leftBy x5 h).bind fun r269 =>
  (m_Mo_mostToAll r269 x4 (-4 : Int32) h).bind fun r276 =>
  some (r276, h)))
  else ((some ((((7919 : Int64) * (p1.toInt64)) + ((6151 : Int64) * (x6.toInt64))) + (1 : Int64))).bind fun y121 =>
  (some ((((y121 * y121) - (y121 * y121) / (65521 : Int64) * (65521 : Int64)).toInt32) / (2 : Int32))).bind fun y135 =>
  if ((x4 + (1 : Int32)) + (y135 - y135 / (5 : Int32) * (5 : Int32))) ≤ (99 : Int32) then (m_Mo_evening_b163 (m_Mo_evening_b99 p1 p2 p3 n) p1 p2 p3 x5 x6 y135 x4 ((1 : Int32) + (y135 - y135 / (5 : Int32) * (5 : Int32))) h)
  else (m_Mo_evening_b163 (m_Mo_evening_b99 p1 p2 p3 n) p1 p2 p3 x5 x6 y135 x4 (0 : Int32) h))
def m_Mo_evening_b67  (p1 : Int32) (p2 : Int32) (p3 : Int32) : Nat → Int32 → Int32 → Int32 → Hp → Option (Int32 × Hp)
  | 0, _, _, _, _ => none
  | n + 1, x4, x5, x6, h => if (9 : Int32) ≤ x6 then (m_Mo_evening_b99 p1 p2 p3 FU x4 x5 (0 : Int32) h)
  else (if inR ((3 : Int32) + x6) 12 then if inR x6 9 then (some (wr h 9 ((x6).toNatClampNeg) (h 4 ((((3 : Int32) + x6)).toNatClampNeg)))).bind fun h_89 =>
  m_Mo_evening_b67 p1 p2 p3 n x4 x5 (x6 + (1 : Int32)) h_89 else none else none)
def m_Mo_evening (p1 : Int32) (p2 : Int32) (p3 : Int32) (h : Hp) : Option (Int32 × Hp) := (m_Mo_in (p1.toInt64) (0 : Int64) (9999 : Int64) h).bind fun r6 =>
  if r6 = 0 then (some ((-1 : Int32), h))
  else ((m_Mo_in (p2.toInt64) (1 : Int64) (20 : Int64) h).bind fun r18 =>
  if r18 = 0 then (some ((-1 : Int32), h))
  else ((m_Mo_in (p3.toInt64) (0 : Int64) (1 : Int64) h).bind fun r28 =>
  if r28 = 0 then (some ((-1 : Int32), h))
  else (if (h 4 2) < 0 then ((some (h 4 0)).bind fun y54 =>
  (some (h 4 1)).bind fun y62 =>
  m_Mo_evening_b67 p1 p2 p3 FU y54 y62 (0 : Int32) h)
  else (some ((-2 : Int32), h)))))

def m_Mo_keep_b13   : Nat → Int32 → Hp → Option (Int32 × Hp)
  | 0, _, _ => none
  | n + 1, x1, h => if (12 : Int32) ≤ x1 then ((some (wr h 0 9 ((h 0 9) + (1 : Int32)))).bind fun h_52 =>
  some (h_52 0 9, h_52))
  else (if inR x1 12 then if inR (((12 : Int32) * (h 0 9)) + x1) 24 then (some (wr h 6 (((((12 : Int32) * (h 0 9)) + x1)).toNatClampNeg) (h 4 ((x1).toNatClampNeg)))).bind fun h_38 =>
  m_Mo_keep_b13 n (x1 + (1 : Int32)) h_38 else none else none)
def m_Mo_keep  (h : Hp) : Option (Int32 × Hp) := if (h 0 9) = (2 : Int32) then (some ((-3 : Int32), h))
  else (m_Mo_keep_b13 FU (0 : Int32) h)

def m_Mo_back_b22   : Nat → Int32 → Hp → Option (Int32 × Hp)
  | 0, _, _ => none
  | n + 1, x1, h => if (12 : Int32) ≤ x1 then ((some (wr h 0 7 (0 : Int32))).bind fun h_56 =>
  some (h_56 0 9, h_56))
  else (if inR (((12 : Int32) * (h 0 9)) + x1) 24 then if inR x1 12 then (some (wr h 4 ((x1).toNatClampNeg) (h 6 (((((12 : Int32) * (h 0 9)) + x1)).toNatClampNeg)))).bind fun h_47 =>
  m_Mo_back_b22 n (x1 + (1 : Int32)) h_47 else none else none)
def m_Mo_back  (h : Hp) : Option (Int32 × Hp) := if (h 0 9) = 0 then (some ((-2 : Int32), h))
  else ((some (wr h 0 9 ((h 0 9) - (1 : Int32)))).bind fun h_17 =>
  m_Mo_back_b22 FU (0 : Int32) h_17)

def m_Mo_count (p1 : Int32) (h : Hp) : Option Int32 := if p1 = 0 then (some (h 2 1))
  else (if p1 = 1 then (some (h 2 0))
  else (if p1 = 2 then (some (h 4 0))
  else (if p1 = 3 then ((m_Mo_ones (h 4 1) h).bind fun r79 =>
  some r79)
  else (if p1 = 4 then (some (h 4 2))
  else (if p1 = 5 then (some (h 0 11))
  else (if p1 = 6 then (some (h 0 7))
  else (if p1 = 7 then (some (h 0 9))
  else (if p1 = 8 then (some (h 0 0))
  else (some (-1 : Int32))))))))))
