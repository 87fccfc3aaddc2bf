/-! the law: its loop, its start -/
set_option maxHeartbeats 8000000 in
set_option maxRecDepth 100000 in
theorem law_loop {p : Program} {l : Launch} {e : Env} {s : State} {m : MethodId} {below : List Frame} {meth : Method} {c : Code} {E : xE} {b L : Nat} {xs : Nat → Int32} (hL : L ≤ 256) (C0 : lw_At p s m meth c b L xs) (hK : va_K E.1 xcl (xtys E) s) (hN : xNw s) (a' : Nat → Nat) :
    ∀ (n j : Nat), j ≤ L → L + 1 ≤ j + n → ∀ (a : Nat → Nat) (mm : Nat) (fx fy : Hp) (H : Heap) (locs : List Loc) (ls : Array Slot), LW E s.heap.size a mm a' fx fy H → Cpl fx fy → va_S (fun q => s.heap.size ≤ q) s.heap H locs → lv_has ls 4 [(3, .int (nI j)), (2, .ref (a' 0)), (1, .ref (a 0)), (0, .ref b)] → W p l e room_1 s m #[Value.ref b] below meth c H locs 48 1028 (lw_Z below #[Value.ref b] s) (F0 m 18 ls []) := by
  obtain ⟨hx, hb, hr, hml, hown, hts, hX, hbl, hlocks, hgv⟩ := C0
  have htb : ∀ w ∈ TB, w.before #[Value.ref b] s = true := fun w hw => hts w (TB_in w hw)
  intro n
  induction n with
  | zero =>
    intro j h1 h2
    exact absurd h2 (by omega)
  | succ n ih =>
    intro j hj hn a mm fx fy H locs ls hW hC hS hl
    refine lv_iload_n hx hb d_law_law_18 rfl (lv_at hl 0 rfl) ?_
    refine lv_aload_n hx hb d_law_law_19 rfl (lv_at hl 3 rfl) ?_
    refine va_slen hx hb hX hbl (Nat.not_le.mpr hbl) hS d_law_law_20 ?_
    refine lv_iconst (v := (4 : Int32)) hx hb d_law_law_21 (by decide) ?_
    refine lv_isub hx hb d_law_law_22 ?_
    refine lv_icmp_gt (tgt := 921) hx hb d_law_law_23 (by decide) (fun c23 => ?_) (fun c23 => ?_)
    · refine lv_iconst (v := (1 : Int32)) hx hb d_law_law_921 (by decide) ?_
      refine va_forget (fun q hq => hS.2.2 q hq) ?_
      refine W.widen (k := 600000) (n := 7302249) (Nat.le_of_ble_eq_true rfl) (Nat.le_of_ble_eq_true rfl) ?_
      exact lw_ret hx hb hr hlocks d_law_law_922
    · have hj4 : j + 4 ≤ L := by
        rcases Nat.lt_or_ge L (j + 4) with q | q
        · exact absurd ((lim hL (by omega)).mpr q) c23
        · exact q
      refine lv_aload_n hx hb d_law_law_26 rfl (lv_at hl 3 rfl) ?_
      refine lv_iload_n hx hb d_law_law_27 rfl (lv_at hl 0 rfl) ?_
      refine va_sld hx hb hX hbl (Nat.not_le.mpr hbl) hS (vp_in_nI (by omega) (by omega)) d_law_law_28 ?_
      refine lv_bipush (v := (31 : Int32)) hx hb d_law_law_29 (by decide) ?_
      refine lv_iand hx hb d_law_law_31 ?_
      obtain ⟨t, ht, et⟩ := pk_andE (xs (nI j).toNatClampNeg) (m := 31) 5 (by decide)
      rw [et]
      have next : ∀ (a1 : Nat → Nat) (m1 : Nat) (gx gy : Hp) (H1 : Heap) (locs1 : List Loc), a1 0 = a 0 → LW E s.heap.size a1 m1 a' gx gy H1 → Cpl gx gy → va_S (fun q => s.heap.size ≤ q) s.heap H1 locs1 → W p l e room_1 s m #[Value.ref b] below meth c H1 locs1 48 1028 (lw_Z below #[Value.ref b] s) (F0 m 915 ls []) := by
        intro a1 m1 gx gy H1 locs1 e0 hW1 hC1 hS1
        refine lv_iinc (v := nI (j + 4)) (lv' := [(3, .int (nI (j + 4))), (2, .ref (a' 0)), (1, .ref (a1 0)), (0, .ref b)]) hx hb d_law_law_915 hl (k := 0) rfl (next4 j) (by decide) (by rw [e0]; rfl) (fun ls hl => ?_)
        refine lv_goto (tgt := 18) hx hb d_law_law_918 (by decide) ?_
        exact ih (j + 4) hj4 (by omega) a1 m1 gx gy H1 locs1 ls hW1 hC1 hS1 hl
      match t, ht with
      | 0, _ =>
        refine lv_tableIn (tgt := 172) (off := 140) hx hb d_law_law_32 (by decide) (by decide) (by decide) (by decide) ?_
        exact law_0 hx hb hml hown htb hK hN hX hbl hL hj4 hW hC hS hl next
      | 1, _ =>
        refine lv_tableIn (tgt := 195) (off := 163) hx hb d_law_law_32 (by decide) (by decide) (by decide) (by decide) ?_
        exact law_1 hx hb hml hown htb hK hN hX hbl hL hj4 hW hC hS hl next
      | 2, _ =>
        refine lv_tableIn (tgt := 208) (off := 176) hx hb d_law_law_32 (by decide) (by decide) (by decide) (by decide) ?_
        exact law_2 hx hb hml hown htb hK hN hX hbl hL hj4 hW hC hS hl next
      | 3, _ =>
        refine lv_tableIn (tgt := 221) (off := 189) hx hb d_law_law_32 (by decide) (by decide) (by decide) (by decide) ?_
        exact law_3 hx hb hml hown htb hK hN hX hbl hL hj4 hW hC hS hl next
      | 4, _ =>
        refine lv_tableIn (tgt := 234) (off := 202) hx hb d_law_law_32 (by decide) (by decide) (by decide) (by decide) ?_
        exact law_4 hx hb hml hown htb hK hN hX hbl hL hj4 hW hC hS hl next
      | 5, _ =>
        refine lv_tableIn (tgt := 267) (off := 235) hx hb d_law_law_32 (by decide) (by decide) (by decide) (by decide) ?_
        exact law_5 hx hb hml hown htb hK hN hX hbl hL hj4 hW hC hS hl next
      | 6, _ =>
        refine lv_tableIn (tgt := 300) (off := 268) hx hb d_law_law_32 (by decide) (by decide) (by decide) (by decide) ?_
        exact law_6 hx hb hml hown htb hK hN hX hbl hL hj4 hW hC hS hl next
      | 7, _ =>
        refine lv_tableIn (tgt := 333) (off := 301) hx hb d_law_law_32 (by decide) (by decide) (by decide) (by decide) ?_
        exact law_7 hx hb hml hown htb hK hN hX hbl hL hj4 hW hC hS hl next
      | 8, _ =>
        refine lv_tableIn (tgt := 356) (off := 324) hx hb d_law_law_32 (by decide) (by decide) (by decide) (by decide) ?_
        exact law_8 hx hb hml hown htb hK hN hX hbl hL hj4 hW hC hS hl next
      | 9, _ =>
        refine lv_tableIn (tgt := 389) (off := 357) hx hb d_law_law_32 (by decide) (by decide) (by decide) (by decide) ?_
        exact law_9 hx hb hml hown htb hK hN hX hbl hL hj4 hW hC hS hl next
      | 10, _ =>
        refine lv_tableIn (tgt := 412) (off := 380) hx hb d_law_law_32 (by decide) (by decide) (by decide) (by decide) ?_
        exact law_10 hx hb hml hown htb hK hN hX hbl hL hj4 hW hC hS hl next
      | 11, _ =>
        refine lv_tableIn (tgt := 425) (off := 393) hx hb d_law_law_32 (by decide) (by decide) (by decide) (by decide) ?_
        exact law_11 hx hb hml hown htb hK hN hX hbl hL hj4 hW hC hS hl next
      | 12, _ =>
        refine lv_tableIn (tgt := 448) (off := 416) hx hb d_law_law_32 (by decide) (by decide) (by decide) (by decide) ?_
        exact law_12 hx hb hml hown htb hK hN hX hbl hL hj4 hW hC hS hl next
      | 13, _ =>
        refine lv_tableIn (tgt := 471) (off := 439) hx hb d_law_law_32 (by decide) (by decide) (by decide) (by decide) ?_
        exact law_13 hx hb hml hown htb hK hN hX hbl hL hj4 hW hC hS hl next
      | 14, _ =>
        refine lv_tableIn (tgt := 504) (off := 472) hx hb d_law_law_32 (by decide) (by decide) (by decide) (by decide) ?_
        exact law_14 hx hb hml hown htb hK hN hX hbl hL hj4 hW hC hS hl next
      | 15, _ =>
        refine lv_tableIn (tgt := 517) (off := 485) hx hb d_law_law_32 (by decide) (by decide) (by decide) (by decide) ?_
        exact law_15 hx hb hml hown htb hK hN hX hbl hL hj4 hW hC hS hl next
      | 16, _ =>
        refine lv_tableIn (tgt := 530) (off := 498) hx hb d_law_law_32 (by decide) (by decide) (by decide) (by decide) ?_
        exact law_16 hx hb hml hown htb hK hN hX hbl hL hj4 hW hC hS hl next
      | 17, _ =>
        refine lv_tableIn (tgt := 553) (off := 521) hx hb d_law_law_32 (by decide) (by decide) (by decide) (by decide) ?_
        exact law_17 hx hb hml hown htb hK hN hX hbl hL hj4 hW hC hS hl next
      | 18, _ =>
        refine lv_tableIn (tgt := 576) (off := 544) hx hb d_law_law_32 (by decide) (by decide) (by decide) (by decide) ?_
        exact law_18 hx hb hml hown htb hK hN hX hbl hL hj4 hW hC hS hl next
      | 19, _ =>
        refine lv_tableIn (tgt := 599) (off := 567) hx hb d_law_law_32 (by decide) (by decide) (by decide) (by decide) ?_
        exact law_19 hx hb hml hown htb hK hN hX hbl hL hj4 hW hC hS hl next
      | 20, _ =>
        refine lv_tableIn (tgt := 632) (off := 600) hx hb d_law_law_32 (by decide) (by decide) (by decide) (by decide) ?_
        exact law_20 hx hb hml hown htb hK hN hX hbl hL hj4 hW hC hS hl next
      | 21, _ =>
        refine lv_tableIn (tgt := 675) (off := 643) hx hb d_law_law_32 (by decide) (by decide) (by decide) (by decide) ?_
        exact law_21 hx hb hml hown htb hK hN hX hbl hL hj4 hW hC hS hl next
      | 22, _ =>
        refine lv_tableIn (tgt := 688) (off := 656) hx hb d_law_law_32 (by decide) (by decide) (by decide) (by decide) ?_
        exact law_22 hx hb hml hown htb hK hN hX hbl hL hj4 hW hC hS hl next
      | 23, _ =>
        refine lv_tableIn (tgt := 711) (off := 679) hx hb d_law_law_32 (by decide) (by decide) (by decide) (by decide) ?_
        exact law_23 hx hb hml hown htb hK hN hX hbl hL hj4 hW hC hS hl next
      | 24, _ =>
        refine lv_tableIn (tgt := 734) (off := 702) hx hb d_law_law_32 (by decide) (by decide) (by decide) (by decide) ?_
        exact law_24 hx hb hml hown htb hK hN hX hbl hL hj4 hW hC hS hl next
      | 25, _ =>
        refine lv_tableIn (tgt := 767) (off := 735) hx hb d_law_law_32 (by decide) (by decide) (by decide) (by decide) ?_
        exact law_25 hx hb hml hown htb hK hN hX hbl hL hj4 hW hC hS hl next
      | 26, _ =>
        refine lv_tableIn (tgt := 790) (off := 758) hx hb d_law_law_32 (by decide) (by decide) (by decide) (by decide) ?_
        exact law_26 hx hb hml hown htb hK hN hX hbl hL hj4 hW hC hS hl next
      | 27, _ =>
        refine lv_tableIn (tgt := 823) (off := 791) hx hb d_law_law_32 (by decide) (by decide) (by decide) (by decide) ?_
        exact law_27 hx hb hml hown htb hK hN hX hbl hL hj4 hW hC hS hl next
      | 28, _ =>
        refine lv_tableIn (tgt := 866) (off := 834) hx hb d_law_law_32 (by decide) (by decide) (by decide) (by decide) ?_
        exact law_28 hx hb hml hown htb hK hN hX hbl hL hj4 hW hC hS hl next
      | 29, _ =>
        refine lv_tableIn (tgt := 879) (off := 847) hx hb d_law_law_32 (by decide) (by decide) (by decide) (by decide) ?_
        exact law_29 hx hb hml hown htb hK hN hX hbl hL hj4 hW hC hS hl next
      | 30, _ =>
        refine lv_tableIn (tgt := 892) (off := 860) hx hb d_law_law_32 (by decide) (by decide) (by decide) (by decide) ?_
        exact law_30 hx hb hml hown htb hK hN hX hbl hL hj4 hW hC hS hl next
      | 31, _ =>
        refine lv_tableOut (tgt := 915) hx hb d_law_law_32 (Or.inr (by decide)) (by decide) ?_
        exact next a mm fx fy H locs rfl hW hC hS
      | t + 32, h => exact absurd h (by omega)
set_option maxHeartbeats 8000000 in
set_option maxRecDepth 100000 in
theorem whole_start {p : Program} {e : Env} {s : State} {m : MethodId} {below : List Frame} {meth : Method} {c : Code} (l : Launch) (hflags : l.flags = flags0) {b L : Nat} {xs : Nat → Int32} (hL : L ≤ 256) (C0 : lw_At p s m meth c b L xs) : W p l e room_1 s m #[Value.ref b] below meth c s.heap [] 0 0 (lw_Z below #[Value.ref b] s) (entryFrame m ([Value.ref b] : List Value).toArray 4) := by
  obtain ⟨hx, hb, hr, hml, hown, hts, hX, hbl, hlocks, hgv⟩ := id C0
  have htb : ∀ w ∈ TB, w.before #[Value.ref b] s = true := fun w hw => hts w (TB_in w hw)
  obtain ⟨E, hK⟩ := lw_known hts
  have hN : xNw s := xNw.of hts
  obtain ⟨k, v, z, hF, hR⟩ := lw_text hts hgv
  obtain ⟨fx, fy, ex, ey, hC⟩ := first
  have hA : ∀ q : Nat, s.heap.size ≤ q → (fun q : Nat => s.heap.size ≤ q) q := fun _ h => h
  have hS : va_S (fun q : Nat => s.heap.size ≤ q) s.heap s.heap [] := va_S.rf
  have hP : va_P E.1 xcl [] s.heap := fun k q h => by simp at h
  have hD : va_D (fun q : Nat => s.heap.size ≤ q) [] := ⟨fun i j p q h => by simp at h, fun k q h => by simp at h⟩
  have hl := lv_entry ([.ref b]) (n := 4) (Nat.le_of_ble_eq_true rfl)
  rw [lg_entry_eq]
  generalize (lg_sl ([.ref b]) ++ List.replicate (4 - (lg_sl ([.ref b])).length) Slot.unset).toArray = ls at hl ⊢
  have hl : lv_has ls 4 [(0, .ref b)] := hl
  refine va_new (ci := 0) (fs := [.null, .null, .null, .null, .null, .null, .null, .null, .null]) (C := R_Nm) (T := T_Nm) (N := 9) hx hb htb in_Nm ty_Nm tk_Nm hown (htb _ q64) (htb _ q65) (htb _ q49) hK hP hD hS hA rfl (fun j hj => by match j, hj with | 0, _ => rfl | 1, _ => rfl | 2, _ => rfl | 3, _ => rfl | 4, _ => rfl | 5, _ => rfl | 6, _ => rfl | 7, _ => rfl | 8, _ => rfl | n + 9, h => exact absurd h (by omega)) (Nat.le_of_ble_eq_true rfl) (Nat.le_of_ble_eq_true rfl) d_law_law_0 (fun q0 H hP hD hS => ?_)
  have hP : va_P E.1 xcl [(q0, .inr (0, [.null, .null, .null, .null, .null, .null, .null, .null, .null]))] H := hP
  have hz0 : s.heap.size ≤ q0 := hD.2 0 _ rfl
  refine W.widen (k := 1) (n := 9) (Nat.le_of_ble_eq_true rfl) (Nat.le_of_ble_eq_true rfl) ?_
  refine lv_dup hx hb d_law_law_3 rfl ?_
  have hsub : ∀ q, xA (fun _ => q0) 1 H.size q → (fun q : Nat => s.heap.size ≤ q) q := fun q h => h.elim (fun ⟨_, _, e⟩ => by rw [e]; exact hz0) (fun h => Nat.le_trans hS.1 h)
  refine fCallN (va_runI (As := []) (rest := [.ref q0]) ⟨hx, hb, hml, hown, htb⟩ (cx_Nm_init l E q0 k v z H.size ex) (cwI 0 htb (gC q68) rfl rfl rfl (htb _ q49) (htb _ q66) (htb _ q67) rfl hd_x_Nm_init ⟨Nat.le_of_ble_eq_true rfl, Nat.le_of_ble_eq_true rfl⟩) ⟨nPc_blind, nPc_pre hK hN hP hF hS hR hsub⟩ rfl rfl hl.1 rfl (lv_room (Nat.le_of_ble_eq_true rfl)) d_law_law_4 ⟨Nat.le_of_ble_eq_true rfl, Nat.le_of_ble_eq_true rfl⟩) hS hsub (fun a H1 locs1 ha hP1 hS1 _ _ => ?_)
  obtain ⟨rfl, hi, hn⟩ := ha
  refine W.widen (k := 38) (n := 482) (Nat.le_of_ble_eq_true rfl) (Nat.le_of_ble_eq_true rfl) ?_
  have hga : ∀ i, i < 38 → s.heap.size ≤ a i := fun i h => by
    by_cases h0 : i = 0
    · rw [h0]; exact hz0
    · exact Nat.le_trans hS.1 (hn i (by omega) h)
  refine lv_astore_n (lv' := [(1, .ref (a 0)), (0, .ref b)]) hx hb d_law_law_7 rfl hl (by decide) rfl (fun ls hl => ?_)
  refine va_new (ci := 8) (fs := [.int 0, .null, .null, .null, .int 0, .null, .null, .int 0, .null, .int 0, .null, .int 0, .int 0, .null, .null]) (C := R_Mo) (T := T_Mo) (N := 15) hx hb htb in_Mo ty_Mo tk_Mo hown (htb _ q656) (htb _ q657) (htb _ q61) hK hP1 (xD hi hga) hS1 hA rfl (fun j hj => by match j, hj with | 0, _ => rfl | 1, _ => rfl | 2, _ => rfl | 3, _ => rfl | 4, _ => rfl | 5, _ => rfl | 6, _ => rfl | 7, _ => rfl | 8, _ => rfl | 9, _ => rfl | 10, _ => rfl | 11, _ => rfl | 12, _ => rfl | 13, _ => rfl | 14, _ => rfl | n + 15, h => exact absurd h (by omega)) (Nat.le_of_ble_eq_true rfl) (Nat.le_of_ble_eq_true rfl) d_law_law_8 (fun q1 H2 hP2 hD2 hS2 => ?_)
  have hPX2 : va_P E.1 xcl (xV E a (a 6) (a 10) (a 6) fx) H2 := fun k p h => hP2 k p (by rw [List.getElem?_append_left (List.getElem?_eq_some_iff.mp h).1]; exact h)
  have hPM2 : va_P E.1 xcl [(q1, .inr (8, [.int 0, .null, .null, .null, .int 0, .null, .null, .int 0, .null, .int 0, .null, .int 0, .int 0, .null, .null]))] H2 := hP2.sub [38] rfl
  have hz1 : s.heap.size ≤ q1 := hD2.2 38 _ rfl
  have hxa : ∀ k, k < 38 → ∃ p : Nat × va_E, (xV E a (a 6) (a 10) (a 6) fx)[k]? = some p ∧ p.1 = a k := fun k hk => by
    have h1 : ((xV E a (a 6) (a 10) (a 6) fx).map Prod.fst)[k]? = some (a k) := by
      show ((List.range 38).map a)[k]? = some (a k)
      rw [List.getElem?_map, List.getElem?_range hk]; rfl
    rw [List.getElem?_map] at h1
    cases h2 : (xV E a (a 6) (a 10) (a 6) fx)[k]? with
    | none => rw [h2] at h1; cases h1
    | some p => rw [h2] at h1; exact ⟨p, rfl, Option.some.inj h1⟩
  have hlt : ∀ k, k < 38 → a k < H2.size := fun k hk => by
    obtain ⟨p, h1, h2⟩ := hxa k hk
    rw [← h2]
    exact (hPX2 k p h1).lt
  have hnq : ∀ k, k < 38 → q1 ≠ a k := fun k hk e => by
    obtain ⟨p, h1, h2⟩ := hxa k hk
    have h3 : (xV E a (a 6) (a 10) (a 6) fx ++ [(q1, .inr (8, [.int 0, .null, .null, .null, .int 0, .null, .null, .int 0, .null, .int 0, .null, .int 0, .int 0, .null, .null]))])[k]? = some p := by rw [List.getElem?_append_left (List.getElem?_eq_some_iff.mp h1).1]; exact h1
    have := hD2.1 k 38 p _ h3 rfl (by rw [h2, ← e])
    omega
  refine W.widen (k := 39) (n := 497) (Nat.le_of_ble_eq_true rfl) (Nat.le_of_ble_eq_true rfl) ?_
  refine lv_dup hx hb d_law_law_11 rfl ?_
  have hsub2 : ∀ q, xA (fun _ => q1) 1 H2.size q → (fun q : Nat => s.heap.size ≤ q) q := fun q h => h.elim (fun ⟨_, _, e⟩ => by rw [e]; exact hz1) (fun h => Nat.le_trans hS2.1 h)
  refine fCallN (fRunI (As := []) (rest := [.ref q1]) hx hb hml hown htb (hK.sub (tys' := mtys (E.1, E.2.1)) [0] rfl) hN hPM2 (cm_Mo_init l (E.1, E.2.1) q1 H2.size ey) q658 q659 q61 q660 rfl hd_m_Mo_init rfl rfl ⟨Nat.le_of_ble_eq_true rfl, Nat.le_of_ble_eq_true rfl⟩ rfl hl.1 rfl (Nat.le_of_ble_eq_true rfl) d_law_law_12 ⟨Nat.le_of_ble_eq_true rfl, Nat.le_of_ble_eq_true rfl⟩) hS2 hsub2 (fun a' H3 locs3 ha hP3 hS3 _ hk3 => ?_)
  obtain ⟨rfl, fi, fn⟩ := ha
  refine W.widen (k := 48) (n := 1028) (Nat.le_of_ble_eq_true rfl) (Nat.le_of_ble_eq_true rfl) ?_
  refine lv_astore_n (lv' := [(2, .ref (a' 0)), (1, .ref (a 0)), (0, .ref b)]) hx hb d_law_law_15 rfl hl (by decide) rfl (fun ls hl => ?_)
  refine lv_iconst (v := nI 0) hx hb d_law_law_16 (by decide) ?_
  refine lv_istore_n (lv' := [(3, .int (nI 0)), (2, .ref (a' 0)), (1, .ref (a 0)), (0, .ref b)]) hx hb d_law_law_17 rfl hl (by decide) rfl (fun ls hl => ?_)
  refine law_loop hL C0 hK hN a' (L + 1) 0 (Nat.zero_le L) (by omega) a (a 6) fx fy H3 locs3 ls ⟨hi, fi, fun i j h1 h2 e => ?_, hga, fun j h => ?_, ?_, hP3⟩ hC hS3 hl
  · by_cases h0 : j = 0
    · rw [h0] at e
      exact hnq i h1 e.symm
    · have := fn j (by omega) h2
      have := hlt i h1
      omega
  · by_cases h0 : j = 0
    · rw [h0]; exact hz1
    · exact Nat.le_trans hS2.1 (fn j (by omega) h)
  · exact apart hPX2 (n' := 38) (n := 1) (a := fun _ => a' 0) rfl (fun _ j _ h => hnq j h) hk3
