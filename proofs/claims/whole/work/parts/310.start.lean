/-! the law's entry: classes, arrays, the text -/
theorem lw_known {s : State} {A : Array Value} (hts : ∀ w ∈ lw_tbl, w.before A s = true) : ∃ E : xE, va_K E.1 xcl (xtys E) s := by
  obtain ⟨c0, i0, h0⟩ := u_known (C := R_Nm) (T := T_Nm) (N := 9) (n := 9) hts (fun w hw => TB_in w (in_Nm w hw)) (hts (.instantiable R_Nm 9) (by decide +kernel))
  obtain ⟨c1, i1, h1⟩ := u_known (C := R_Menu) (T := T_Menu) (N := 8) (n := 8) hts (fun w hw => TB_in w (in_Menu w hw)) (hts (.instantiable R_Menu 8) (by decide +kernel))
  obtain ⟨c2, i2, h2⟩ := u_known (C := R_Moment) (T := T_Moment) (N := 3) (n := 3) hts (fun w hw => TB_in w (in_Moment w hw)) (hts (.instantiable R_Moment 3) (by decide +kernel))
  obtain ⟨c3, i3, h3⟩ := u_known (C := R_Note) (T := T_Note) (N := 5) (n := 5) hts (fun w hw => TB_in w (in_Note w hw)) (hts (.instantiable R_Note 5) (by decide +kernel))
  obtain ⟨c4, i4, h4⟩ := u_known (C := R_Notes) (T := T_Notes) (N := 2) (n := 2) hts (fun w hw => TB_in w (in_Notes w hw)) (hts (.instantiable R_Notes 2) (by decide +kernel))
  obtain ⟨c5, i5, h5⟩ := u_known (C := R_Pile) (T := T_Pile) (N := 2) (n := 2) hts (fun w hw => TB_in w (in_Pile w hw)) (hts (.instantiable R_Pile 2) (by decide +kernel))
  obtain ⟨c6, i6, h6⟩ := u_known (C := R_Reader) (T := T_Reader) (N := 4) (n := 4) hts (fun w hw => TB_in w (in_Reader w hw)) (hts (.instantiable R_Reader 4) (by decide +kernel))
  obtain ⟨c7, i7, h7⟩ := u_known (C := R_Table) (T := T_Table) (N := 4) (n := 4) hts (fun w hw => TB_in w (in_Table w hw)) (hts (.instantiable R_Table 4) (by decide +kernel))
  obtain ⟨c8, i8, h8⟩ := u_known (C := R_Mo) (T := T_Mo) (N := 15) (n := 15) hts (fun w hw => TB_in w (in_Mo w hw)) (hts (.instantiable R_Mo 15) (by decide +kernel))
  obtain ⟨cI, kI, pI, f1, f2, f3⟩ := Cond.arrayClass_spec (hts _ (TB_in _ q86))
  obtain ⟨pT, cT, kT, g1, -, g3, g4, g5⟩ := Cond.arrayOver_spec (hts _ nq2)
  obtain ⟨pN, cN, kN, e1, -, e3, e4, e5⟩ := Cond.arrayOver_spec (hts _ nq4)
  refine ⟨((fun k => match k with | 0 => c0 | 1 => c1 | 2 => c2 | 3 => c3 | 4 => c4 | 5 => c5 | 6 => c6 | 7 => c7 | _ => c8, fun k => match k with | 0 => i0 | 1 => i1 | 2 => i2 | 3 => i3 | 4 => i4 | 5 => i5 | 6 => i6 | 7 => i7 | _ => i8), cI, cT, cN), fun k q hq => ?_, fun k q hq => ?_⟩
  · match k, hq with
    | 0, hq => cases hq; exact h0
    | 1, hq => cases hq; exact h1
    | 2, hq => cases hq; exact h2
    | 3, hq => cases hq; exact h3
    | 4, hq => cases hq; exact h4
    | 5, hq => cases hq; exact h5
    | 6, hq => cases hq; exact h6
    | 7, hq => cases hq; exact h7
    | 8, hq => cases hq; exact h8
    | n + 9, hq => exact absurd (List.getElem?_eq_some_iff.mp hq).1 (by show ¬ (n + 9 < 9); omega)
  · match k, hq with
    | 0, hq => cases hq; exact ⟨fun N z => ⟨(fun k h => by cases h), kI, f2, pI, f3⟩, f1⟩
    | 1, hq => cases hq; exact ⟨fun N z => ⟨(fun k h => by cases h), kT, g3, pT, g4⟩, kT, pT, g3, g4, g1, g5⟩
    | 2, hq => cases hq; exact ⟨fun N z => ⟨(fun k h => by cases h), kN, e3, pN, e4⟩, kN, pN, e3, e4, e1, e5⟩
    | n + 3, hq => exact absurd (List.getElem?_eq_some_iff.mp hq).1 (by show ¬ (n + 3 < 3); omega)
theorem FT_mem : ∀ j, j < 68 → (Cond.eq (.elem (.field (.string "NoneMinds" 64) "java/lang/String" "value" "[B") (.int (Int32.ofNat j))) (.int (FT.getD j 0))) ∈ flatC (Jvm.Cond.and given_1 narrow_1) := by decide +kernel
theorem lw_text {s : State} {A : Array Value} (hts : ∀ w ∈ lw_tbl, w.before A s = true) (hg : (Jvm.Cond.and given_1 narrow_1).before A s = true) : ∃ k v z, SF k v z (fun q => s.heap.size ≤ q) s s.heap ∧ vk_R R_Nm 64 FTs k s := by
  have hs := flat_of_before _ hg
  have hA : ∀ a : Nat, a < s.heap.size → ¬ (fun q : Nat => s.heap.size ≤ q) a := fun a h => Nat.not_le.mpr h
  have hex : (Cond.exactly (.string "NoneMinds" 64) "java/lang/String").before A s = true := hs _ (by decide +kernel)
  have hco : (Cond.eq (.field (.string "NoneMinds" 64) "java/lang/String" "coder" "B") (.int 0)).before A s = true := hs _ (by decide +kernel)
  have har : (Cond.arrayOf (.field (.string "NoneMinds" 64) "java/lang/String" "value" "[B") .byte).before A s = true := hs _ (by decide +kernel)
  have hle : (Cond.eq (.length (.field (.string "NoneMinds" 64) "java/lang/String" "value" "[B")) (.int 68)).before A s = true := hs _ (by decide +kernel)
  have hcs : (Cond.eq (.static "java/lang/String" "COMPACT_STRINGS" "Z") (.int 1)).before A s = true := hs _ (by decide +kernel)
  have hfo : (Cond.isRef (.static "jdk/internal/util/Preconditions" "SIOOBE_FORMATTER" "Ljava/util/function/BiFunction;")).before A s = true := hs _ (by decide +kernel)
  have hl1 : (Cond.laysStatic "java/lang/String" "COMPACT_STRINGS" "Z").before A s = true := hts _ (by decide +kernel)
  have hl2 : (Cond.laysStatic "jdk/internal/util/Preconditions" "SIOOBE_FORMATTER" "Ljava/util/function/BiFunction;").before A s = true := hts _ (by decide +kernel)
  have hsr : (Cond.stringRef R_Nm 64 FTs).before A s = true := hts _ (by decide +kernel)
  have z1 : ∀ {i : Nat}, i < 1 → i = 0 := fun h => by omega
  obtain ⟨adK, adV, hS, hT⟩ := vk_Sof (args := A) (s := s) (N := 1) (tm := fun _ => .string "NoneMinds" 64) (len := [68]) (byt := [FT]) (A := fun q => s.heap.size ≤ q) (fun i hi => by cases z1 hi; decide) (fun i hi => hex) (fun i hi => hco) (fun i hi => har) (fun i hi => by cases z1 hi; exact hle) (fun i hi j hj => by cases z1 hi; exact hs _ (FT_mem j hj)) (fun i j hi hj h => absurd ((z1 hi).trans (z1 hj).symm) h) hA
  obtain ⟨o1, o2, o3, o4⟩ := hS.1 0 (by omega)
  obtain ⟨w, hw, hwr⟩ := Cond.isRef_spec hfo
  obtain ⟨z, rfl⟩ : ∃ z, w = va_rf z := by cases w <;> first | exact ⟨none, rfl⟩ | exact ⟨some _, rfl⟩ | cases hwr
  exact ⟨adK 0, adV 0, z, ⟨o1, o2, o3, o4, va_Zof hl1 (hts _ (TB_in _ q57)) (va_eqi hcs) hA, va_Zof hl2 (hts _ (TB_in _ q59)) hw hA⟩, vk_R.of hsr (hT 0 (by omega))⟩
