abbrev LX9_fitting_5 (v : Int32) (X : zX) (x1 : Int32) (x2 : Int32) (x3 : Int32) (x4 : Int32) : Prop := zJ SX 2 mX9_fitting (zRf v X) 5 [some (.ref 0), some (.int x1), some (.int x2), some (.int x3), some (.int x4)] [] X
theorem eX9_fitting (v : Int32) (X : zX) (a1 : Int32) (a2 : Int32) (h : LX9_fitting_5 v X a1 a2 0 0) : zPf SX 2 mX9_fitting [.ref 0, .int a1, .int a2] X v := by
  refine zP_in [some (.ref 0), some (.int a1), some (.int a2), none, none] ⟨rfl, rfl, rfl, trivial⟩ (by decide) (Nat.le_of_ble_eq_true rfl) ?_
  refine j_iconst (v := 0) dX9_fitting_0 rfl ?_
  refine j_istore_n (L2 := [some (.ref 0), some (.int a1), some (.int a2), some (.int 0), none]) dX9_fitting_1 (by decide) (zno rfl) rfl ?_
  refine j_iconst (v := 0) dX9_fitting_2 rfl ?_
  refine j_istore (L2 := [some (.ref 0), some (.int a1), some (.int a2), some (.int 0), some (.int 0)]) dX9_fitting_3 (by decide) (zno rfl) rfl ?_
  exact zJw h ⟨rfl, rfl, rfl, rfl, rfl, trivial⟩
theorem bX9_fitting_5 (v : Int32) (X : zX) (x1 : Int32) (x2 : Int32) (x3 : Int32) (x4 : Int32) (h : (((X 4 10) ≤ x4) → (x3 = v)) ∧ ((¬ ((X 4 10) ≤ x4)) → (∃ r2 : Int32, zPf SX 1 mX9_pieceFrom [.ref 0, .int x4, .int x1] X r2 ∧ (((¬ r2 = x2) → (LX9_fitting_5 v X x1 x2 x3 (x4 + 1))) ∧ ((r2 = x2) → (LX9_fitting_5 v X x1 x2 (x3 ||| (zshl 1 x4)) (x4 + 1))))))) : LX9_fitting_5 v X x1 x2 x3 x4 := by
  refine j_iload dX9_fitting_5 rfl ?_
  refine j_aload_n dX9_fitting_7 rfl ?_
  refine j_getr dX9_fitting_8 fX9_19 rfl rfl ?_
  refine j_getf dX9_fitting_11 fX9_108 rfl rfl ?_
  refine j_ic_ge (tgt := 41) dX9_fitting_14 (by decide) (fun hc1 => ?_) (fun hc1 => ?_)
  · have h := h.1 hc1
    refine j_iload_n dX9_fitting_41 rfl ?_
    refine j_iret dX9_fitting_42 rfl rfl ?_
    exact ⟨by rw [h], rfl⟩
  · have h := h.2 hc1
    refine j_aload_n dX9_fitting_17 rfl ?_
    refine j_iload dX9_fitting_18 rfl ?_
    refine j_iload_n dX9_fitting_20 rfl ?_
    obtain ⟨r2, hc, h⟩ := h
    refine j_cvf (lc := 1) (as := [.int x4, .int x1]) dX9_fitting_21 iX9_pieceFrom vX9_pieceFrom kX9_283 (by decide) rfl rfl rfl rfl (Nat.zero_le _) hc ?_
    refine j_iload_n dX9_fitting_24 rfl ?_
    refine j_ic_ne (tgt := 35) dX9_fitting_25 (by decide) (fun hc3 => ?_) (fun hc3 => ?_)
    · have h := h.1 hc3
      refine j_iinc (v := (x4 + 1)) (L2 := [some (.ref 0), some (.int x1), some (.int x2), some (.int x3), some (.int (x4 + 1))]) dX9_fitting_35 rfl rfl (by decide) (zno rfl) rfl ?_
      refine j_goto (tgt := 5) dX9_fitting_38 (by decide) ?_
      exact zJw h ⟨rfl, rfl, rfl, rfl, rfl, trivial⟩
    · have h := h.2 hc3
      refine j_iload_n dX9_fitting_28 rfl ?_
      refine j_iconst (v := 1) dX9_fitting_29 rfl ?_
      refine j_iload dX9_fitting_30 rfl ?_
      refine j_ishl dX9_fitting_32 ?_
      refine j_ior dX9_fitting_33 ?_
      refine j_istore_n (L2 := [some (.ref 0), some (.int x1), some (.int x2), some (.int (x3 ||| (zshl 1 x4))), some (.int x4)]) dX9_fitting_34 (by decide) (zno rfl) rfl ?_
      refine j_iinc (v := (x4 + 1)) (L2 := [some (.ref 0), some (.int x1), some (.int x2), some (.int (x3 ||| (zshl 1 x4))), some (.int (x4 + 1))]) dX9_fitting_35 rfl rfl (by decide) (zno rfl) rfl ?_
      refine j_goto (tgt := 5) dX9_fitting_38 (by decide) ?_
      exact zJw h ⟨rfl, rfl, rfl, rfl, rfl, trivial⟩
abbrev LX9_powerOfThree_4 (v : Int32) (X : zX) (x0 : Int32) (x1 : Int32) (x2 : Int32) : Prop := zJ SX 0 mX9_powerOfThree (zRf v X) 4 [some (.int x0), some (.int x1), some (.int x2)] [] X
theorem eX9_powerOfThree (v : Int32) (X : zX) (a1 : Int32) (h : LX9_powerOfThree_4 v X a1 1 0) : zPf SX 0 mX9_powerOfThree [.int a1] X v := by
  refine zP_in [some (.int a1), none, none] ⟨rfl, trivial⟩ (by decide) (Nat.le_of_ble_eq_true rfl) ?_
  refine j_iconst (v := 1) dX9_powerOfThree_0 rfl ?_
  refine j_istore_n (L2 := [some (.int a1), some (.int 1), none]) dX9_powerOfThree_1 (by decide) (zno rfl) rfl ?_
  refine j_iconst (v := 0) dX9_powerOfThree_2 rfl ?_
  refine j_istore_n (L2 := [some (.int a1), some (.int 1), some (.int 0)]) dX9_powerOfThree_3 (by decide) (zno rfl) rfl ?_
  exact zJw h ⟨rfl, rfl, rfl, trivial⟩
theorem bX9_powerOfThree_4 (v : Int32) (X : zX) (x0 : Int32) (x1 : Int32) (x2 : Int32) (h : ((x0 ≤ x2) → (x1 = v)) ∧ ((¬ (x0 ≤ x2)) → (LX9_powerOfThree_4 v X x0 (x1 * 3) (x2 + 1)))) : LX9_powerOfThree_4 v X x0 x1 x2 := by
  refine j_iload_n dX9_powerOfThree_4 rfl ?_
  refine j_iload_n dX9_powerOfThree_5 rfl ?_
  refine j_ic_ge (tgt := 19) dX9_powerOfThree_6 (by decide) (fun hc1 => ?_) (fun hc1 => ?_)
  · have h := h.1 hc1
    refine j_iload_n dX9_powerOfThree_19 rfl ?_
    refine j_iret dX9_powerOfThree_20 rfl rfl ?_
    exact ⟨by rw [h], rfl⟩
  · have h := h.2 hc1
    refine j_iload_n dX9_powerOfThree_9 rfl ?_
    refine j_iconst (v := 3) dX9_powerOfThree_10 rfl ?_
    refine j_imul dX9_powerOfThree_11 ?_
    refine j_istore_n (L2 := [some (.int x0), some (.int (x1 * 3)), some (.int x2)]) dX9_powerOfThree_12 (by decide) (zno rfl) rfl ?_
    refine j_iinc (v := (x2 + 1)) (L2 := [some (.int x0), some (.int (x1 * 3)), some (.int (x2 + 1))]) dX9_powerOfThree_13 rfl rfl (by decide) (zno rfl) rfl ?_
    refine j_goto (tgt := 4) dX9_powerOfThree_16 (by decide) ?_
    exact zJw h ⟨rfl, rfl, rfl, trivial⟩
theorem eX9_canTell (v : Int32) (X : zX) (a1 : Int32) (a2 : Int32) (h : ∃ r1 : Int32, zPf SX 1 mX9_singable [.ref 0, .int a1] X r1 ∧ (((¬ ((zshr r1 a2) &&& 1) = 1) → (0 = v)) ∧ ((((zshr r1 a2) &&& 1) = 1) → (∃ r3 : Int32, zPf SX 0 mX9_ageNow [.ref 0, .int a1] X r3 ∧ (((r3 < (X 54 4)) → (0 = v)) ∧ ((¬ (r3 < (X 54 4))) → (∃ j5 : Nat, a2 = nI j5 ∧ j5 < 24 ∧ (∃ r6 : Int32, zPf SX 0 mX2_speaks [.ref 19, .int a1, .int (X 7 j5)] X r6 ∧ (((r6 = 0) → (0 = v)) ∧ ((¬ (r6 = 0)) → (1 = v))))))))))) : zPf SX 2 mX9_canTell [.ref 0, .int a1, .int a2] X v := by
  refine zP_in [some (.ref 0), some (.int a1), some (.int a2)] ⟨rfl, rfl, rfl, trivial⟩ (by decide) (Nat.le_of_ble_eq_true rfl) ?_
  refine j_aload_n dX9_canTell_0 rfl ?_
  refine j_iload_n dX9_canTell_1 rfl ?_
  obtain ⟨r1, hc, h⟩ := h
  refine j_cvf (lc := 1) (as := [.int a1]) dX9_canTell_2 iX9_singable vX9_singable kX9_218 (by decide) rfl rfl rfl rfl (Nat.zero_le _) hc ?_
  refine j_iload_n dX9_canTell_5 rfl ?_
  refine j_ishr dX9_canTell_6 ?_
  refine j_iconst (v := 1) dX9_canTell_7 rfl ?_
  refine j_iand dX9_canTell_8 ?_
  refine j_iconst (v := 1) dX9_canTell_9 rfl ?_
  refine j_ic_ne (tgt := 52) dX9_canTell_10 (by decide) (fun hc2 => ?_) (fun hc2 => ?_)
  · have h := h.1 hc2
    refine j_iconst (v := 0) dX9_canTell_52 rfl ?_
    refine j_iret dX9_canTell_53 rfl (by decide) ?_
    exact ⟨by rw [h], rfl⟩
  · have h := h.2 hc2
    refine j_aload_n dX9_canTell_13 rfl ?_
    refine j_iload_n dX9_canTell_14 rfl ?_
    obtain ⟨r3, hc, h⟩ := h
    refine j_cvf (lc := 0) (as := [.int a1]) dX9_canTell_15 iX9_ageNow vX9_ageNow kX9_172 (by decide) rfl rfl rfl rfl (Nat.zero_le _) hc ?_
    refine j_aload_n dX9_canTell_18 rfl ?_
    refine j_getr dX9_canTell_19 fX9_75 rfl rfl ?_
    refine j_getf dX9_canTell_22 fX9_203 rfl rfl ?_
    refine j_ic_lt (tgt := 52) dX9_canTell_25 (by decide) (fun hc4 => ?_) (fun hc4 => ?_)
    · have h := h.1 hc4
      refine j_iconst (v := 0) dX9_canTell_52 rfl ?_
      refine j_iret dX9_canTell_53 rfl (by decide) ?_
      exact ⟨by rw [h], rfl⟩
    · have h := h.2 hc4
      refine j_aload_n dX9_canTell_28 rfl ?_
      refine j_getr dX9_canTell_29 fX9_26 rfl rfl ?_
      refine j_iload_n dX9_canTell_32 rfl ?_
      refine j_aload_n dX9_canTell_33 rfl ?_
      refine j_getr dX9_canTell_34 fX9_19 rfl rfl ?_
      refine j_getr dX9_canTell_37 fX9_154 rfl rfl ?_
      refine j_iload_n dX9_canTell_40 rfl ?_
      obtain ⟨j5, ej5, lj5, h⟩ := h
      refine j_iald dX9_canTell_41 rfl (zin ej5 lj5 (by decide)) ?_
      rw [zcl ej5 lj5 (by decide)]
      obtain ⟨r6, hc, h⟩ := h
      refine j_cvf (lc := 0) (as := [.int a1, .int (X 7 j5)]) dX9_canTell_42 iX2_speaks vX2_speaks kX9_346 (by decide) rfl rfl rfl rfl (Nat.zero_le _) hc ?_
      refine j_if_eq (tgt := 52) dX9_canTell_45 (by decide) (fun hc7 => ?_) (fun hc7 => ?_)
      · have h := h.1 hc7
        refine j_iconst (v := 0) dX9_canTell_52 rfl ?_
        refine j_iret dX9_canTell_53 rfl (by decide) ?_
        exact ⟨by rw [h], rfl⟩
      · have h := h.2 hc7
        refine j_iconst (v := 1) dX9_canTell_48 rfl ?_
        refine j_goto (tgt := 53) dX9_canTell_49 (by decide) ?_
        refine j_iret dX9_canTell_53 rfl (by decide) ?_
        exact ⟨by rw [h], rfl⟩
theorem eX9_canLearn (v : Int32) (X : zX) (a1 : Int32) (a2 : Int32) (h : ∃ j1 : Nat, a1 = nI j1 ∧ j1 < 8 ∧ ((((X 24 j1) = 0) → (0 = v)) ∧ ((¬ ((X 24 j1) = 0)) → (∃ r3 : Int32, zPf SX 0 mX9_hearable [.ref 0, .int a1] X r3 ∧ (((¬ ((zshr r3 a2) &&& 1) = 1) → (0 = v)) ∧ ((((zshr r3 a2) &&& 1) = 1) → (∃ j5 : Nat, a1 = nI j5 ∧ j5 < 8 ∧ (((¬ ((zshr (X 23 j5) a2) &&& 1) = 0) → (0 = v)) ∧ ((((zshr (X 23 j5) a2) &&& 1) = 0) → (∃ j7 : Nat, a2 = nI j7 ∧ j7 < 24 ∧ (∃ r8 : Int32, zPf SX 0 mX2_speaks [.ref 19, .int a1, .int (X 7 j7)] X r8 ∧ (((r8 = 0) → (0 = v)) ∧ ((¬ (r8 = 0)) → (1 = v)))))))))))))) : zPf SX 1 mX9_canLearn [.ref 0, .int a1, .int a2] X v := by
  refine zP_in [some (.ref 0), some (.int a1), some (.int a2)] ⟨rfl, rfl, rfl, trivial⟩ (by decide) (Nat.le_of_ble_eq_true rfl) ?_
  refine j_aload_n dX9_canLearn_0 rfl ?_
  refine j_getr dX9_canLearn_1 fX9_26 rfl rfl ?_
  refine j_getr dX9_canLearn_4 fX9_109 rfl rfl ?_
  refine j_iload_n dX9_canLearn_7 rfl ?_
  obtain ⟨j1, ej1, lj1, h⟩ := h
  refine j_zald dX9_canLearn_8 rfl (zin ej1 lj1 (by decide)) ?_
  rw [zcl ej1 lj1 (by decide)]
  refine j_if_eq (tgt := 65) dX9_canLearn_9 (by decide) (fun hc2 => ?_) (fun hc2 => ?_)
  · have h := h.1 hc2
    refine j_iconst (v := 0) dX9_canLearn_65 rfl ?_
    refine j_iret dX9_canLearn_66 rfl (by decide) ?_
    exact ⟨by rw [h], rfl⟩
  · have h := h.2 hc2
    refine j_aload_n dX9_canLearn_12 rfl ?_
    refine j_iload_n dX9_canLearn_13 rfl ?_
    obtain ⟨r3, hc, h⟩ := h
    refine j_cvf (lc := 0) (as := [.int a1]) dX9_canLearn_14 iX9_hearable vX9_hearable kX9_215 (by decide) rfl rfl rfl rfl (Nat.zero_le _) hc ?_
    refine j_iload_n dX9_canLearn_17 rfl ?_
    refine j_ishr dX9_canLearn_18 ?_
    refine j_iconst (v := 1) dX9_canLearn_19 rfl ?_
    refine j_iand dX9_canLearn_20 ?_
    refine j_iconst (v := 1) dX9_canLearn_21 rfl ?_
    refine j_ic_ne (tgt := 65) dX9_canLearn_22 (by decide) (fun hc4 => ?_) (fun hc4 => ?_)
    · have h := h.1 hc4
      refine j_iconst (v := 0) dX9_canLearn_65 rfl ?_
      refine j_iret dX9_canLearn_66 rfl (by decide) ?_
      exact ⟨by rw [h], rfl⟩
    · have h := h.2 hc4
      refine j_aload_n dX9_canLearn_25 rfl ?_
      refine j_getr dX9_canLearn_26 fX9_26 rfl rfl ?_
      refine j_getr dX9_canLearn_29 fX9_113 rfl rfl ?_
      refine j_iload_n dX9_canLearn_32 rfl ?_
      obtain ⟨j5, ej5, lj5, h⟩ := h
      refine j_iald dX9_canLearn_33 rfl (zin ej5 lj5 (by decide)) ?_
      rw [zcl ej5 lj5 (by decide)]
      refine j_iload_n dX9_canLearn_34 rfl ?_
      refine j_ishr dX9_canLearn_35 ?_
      refine j_iconst (v := 1) dX9_canLearn_36 rfl ?_
      refine j_iand dX9_canLearn_37 ?_
      refine j_if_ne (tgt := 65) dX9_canLearn_38 (by decide) (fun hc6 => ?_) (fun hc6 => ?_)
      · have h := h.1 hc6
        refine j_iconst (v := 0) dX9_canLearn_65 rfl ?_
        refine j_iret dX9_canLearn_66 rfl (by decide) ?_
        exact ⟨by rw [h], rfl⟩
      · have h := h.2 hc6
        refine j_aload_n dX9_canLearn_41 rfl ?_
        refine j_getr dX9_canLearn_42 fX9_26 rfl rfl ?_
        refine j_iload_n dX9_canLearn_45 rfl ?_
        refine j_aload_n dX9_canLearn_46 rfl ?_
        refine j_getr dX9_canLearn_47 fX9_19 rfl rfl ?_
        refine j_getr dX9_canLearn_50 fX9_154 rfl rfl ?_
        refine j_iload_n dX9_canLearn_53 rfl ?_
        obtain ⟨j7, ej7, lj7, h⟩ := h
        refine j_iald dX9_canLearn_54 rfl (zin ej7 lj7 (by decide)) ?_
        rw [zcl ej7 lj7 (by decide)]
        obtain ⟨r8, hc, h⟩ := h
        refine j_cvf (lc := 0) (as := [.int a1, .int (X 7 j7)]) dX9_canLearn_55 iX2_speaks vX2_speaks kX9_346 (by decide) rfl rfl rfl rfl (Nat.zero_le _) hc ?_
        refine j_if_eq (tgt := 65) dX9_canLearn_58 (by decide) (fun hc9 => ?_) (fun hc9 => ?_)
        · have h := h.1 hc9
          refine j_iconst (v := 0) dX9_canLearn_65 rfl ?_
          refine j_iret dX9_canLearn_66 rfl (by decide) ?_
          exact ⟨by rw [h], rfl⟩
        · have h := h.2 hc9
          refine j_iconst (v := 1) dX9_canLearn_61 rfl ?_
          refine j_goto (tgt := 66) dX9_canLearn_62 (by decide) ?_
          refine j_iret dX9_canLearn_66 rfl (by decide) ?_
          exact ⟨by rw [h], rfl⟩
abbrev LX9_loneAndTeachable_4 (v : Int32) (X : zX) (x1 : Int32) (x2 : Int32) (x3 : Int32) : Prop := zJ SX 3 mX9_loneAndTeachable (zRf v X) 4 [some (.ref 0), some (.int x1), some (.int x2), some (.int x3)] [] X
theorem eX9_loneAndTeachable (v : Int32) (X : zX) (a1 : Int32) (h : LX9_loneAndTeachable_4 v X a1 0 0) : zPf SX 3 mX9_loneAndTeachable [.ref 0, .int a1] X v := by
  refine zP_in [some (.ref 0), some (.int a1), none, none] ⟨rfl, rfl, trivial⟩ (by decide) (Nat.le_of_ble_eq_true rfl) ?_
  refine j_iconst (v := 0) dX9_loneAndTeachable_0 rfl ?_
  refine j_istore_n (L2 := [some (.ref 0), some (.int a1), some (.int 0), none]) dX9_loneAndTeachable_1 (by decide) (zno rfl) rfl ?_
  refine j_iconst (v := 0) dX9_loneAndTeachable_2 rfl ?_
  refine j_istore_n (L2 := [some (.ref 0), some (.int a1), some (.int 0), some (.int 0)]) dX9_loneAndTeachable_3 (by decide) (zno rfl) rfl ?_
  exact zJw h ⟨rfl, rfl, rfl, rfl, trivial⟩
theorem bX9_loneAndTeachable_4 (v : Int32) (X : zX) (x1 : Int32) (x2 : Int32) (x3 : Int32) (h : (((X 4 10) ≤ x3) → (x2 = v)) ∧ ((¬ ((X 4 10) ≤ x3)) → (∃ r2 : Int32, zPf SX 0 mX2_heads [.ref 19, .int x3] X r2 ∧ (((¬ r2 = 1) → (LX9_loneAndTeachable_4 v X x1 x2 (x3 + 1))) ∧ ((r2 = 1) → (∃ r4 : Int32, zPf SX 2 mX9_canTell [.ref 0, .int x1, .int x3] X r4 ∧ (((r4 = 0) → (LX9_loneAndTeachable_4 v X x1 x2 (x3 + 1))) ∧ ((¬ (r4 = 0)) → (∃ r6 : Int32, zPf SX 2 mX9_somebodyCanLearn [.ref 0, .int x3] X r6 ∧ (((r6 = 0) → (LX9_loneAndTeachable_4 v X x1 x2 (x3 + 1))) ∧ ((¬ (r6 = 0)) → (LX9_loneAndTeachable_4 v X x1 (x2 + 1) (x3 + 1))))))))))))) : LX9_loneAndTeachable_4 v X x1 x2 x3 := by
  refine j_iload_n dX9_loneAndTeachable_4 rfl ?_
  refine j_aload_n dX9_loneAndTeachable_5 rfl ?_
  refine j_getr dX9_loneAndTeachable_6 fX9_19 rfl rfl ?_
  refine j_getf dX9_loneAndTeachable_9 fX9_108 rfl rfl ?_
  refine j_ic_ge (tgt := 53) dX9_loneAndTeachable_12 (by decide) (fun hc1 => ?_) (fun hc1 => ?_)
  · have h := h.1 hc1
    refine j_iload_n dX9_loneAndTeachable_53 rfl ?_
    refine j_iret dX9_loneAndTeachable_54 rfl rfl ?_
    exact ⟨by rw [h], rfl⟩
  · have h := h.2 hc1
    refine j_aload_n dX9_loneAndTeachable_15 rfl ?_
    refine j_getr dX9_loneAndTeachable_16 fX9_26 rfl rfl ?_
    refine j_iload_n dX9_loneAndTeachable_19 rfl ?_
    obtain ⟨r2, hc, h⟩ := h
    refine j_cvf (lc := 0) (as := [.int x3]) dX9_loneAndTeachable_20 iX2_heads vX2_heads kX9_166 (by decide) rfl rfl rfl rfl (Nat.zero_le _) hc ?_
    refine j_iconst (v := 1) dX9_loneAndTeachable_23 rfl ?_
    refine j_ic_ne (tgt := 47) dX9_loneAndTeachable_24 (by decide) (fun hc3 => ?_) (fun hc3 => ?_)
    · have h := h.1 hc3
      refine j_iinc (v := (x3 + 1)) (L2 := [some (.ref 0), some (.int x1), some (.int x2), some (.int (x3 + 1))]) dX9_loneAndTeachable_47 rfl rfl (by decide) (zno rfl) rfl ?_
      refine j_goto (tgt := 4) dX9_loneAndTeachable_50 (by decide) ?_
      exact zJw h ⟨rfl, rfl, rfl, rfl, trivial⟩
    · have h := h.2 hc3
      refine j_aload_n dX9_loneAndTeachable_27 rfl ?_
      refine j_iload_n dX9_loneAndTeachable_28 rfl ?_
      refine j_iload_n dX9_loneAndTeachable_29 rfl ?_
      obtain ⟨r4, hc, h⟩ := h
      refine j_cvf (lc := 2) (as := [.int x1, .int x3]) dX9_loneAndTeachable_30 iX9_canTell vX9_canTell kX9_290 (by decide) rfl rfl rfl rfl (Nat.zero_le _) hc ?_
      refine j_if_eq (tgt := 47) dX9_loneAndTeachable_33 (by decide) (fun hc5 => ?_) (fun hc5 => ?_)
      · have h := h.1 hc5
        refine j_iinc (v := (x3 + 1)) (L2 := [some (.ref 0), some (.int x1), some (.int x2), some (.int (x3 + 1))]) dX9_loneAndTeachable_47 rfl rfl (by decide) (zno rfl) rfl ?_
        refine j_goto (tgt := 4) dX9_loneAndTeachable_50 (by decide) ?_
        exact zJw h ⟨rfl, rfl, rfl, rfl, trivial⟩
      · have h := h.2 hc5
        refine j_aload_n dX9_loneAndTeachable_36 rfl ?_
        refine j_iload_n dX9_loneAndTeachable_37 rfl ?_
        obtain ⟨r6, hc, h⟩ := h
        refine j_cvf (lc := 2) (as := [.int x3]) dX9_loneAndTeachable_38 iX9_somebodyCanLearn vX9_somebodyCanLearn kX9_349 (by decide) rfl rfl rfl rfl (Nat.zero_le _) hc ?_
        refine j_if_eq (tgt := 47) dX9_loneAndTeachable_41 (by decide) (fun hc7 => ?_) (fun hc7 => ?_)
        · have h := h.1 hc7
          refine j_iinc (v := (x3 + 1)) (L2 := [some (.ref 0), some (.int x1), some (.int x2), some (.int (x3 + 1))]) dX9_loneAndTeachable_47 rfl rfl (by decide) (zno rfl) rfl ?_
          refine j_goto (tgt := 4) dX9_loneAndTeachable_50 (by decide) ?_
          exact zJw h ⟨rfl, rfl, rfl, rfl, trivial⟩
        · have h := h.2 hc7
          refine j_iinc (v := (x2 + 1)) (L2 := [some (.ref 0), some (.int x1), some (.int (x2 + 1)), some (.int x3)]) dX9_loneAndTeachable_44 rfl rfl (by decide) (zno rfl) rfl ?_
          refine j_iinc (v := (x3 + 1)) (L2 := [some (.ref 0), some (.int x1), some (.int (x2 + 1)), some (.int (x3 + 1))]) dX9_loneAndTeachable_47 rfl rfl (by decide) (zno rfl) rfl ?_
          refine j_goto (tgt := 4) dX9_loneAndTeachable_50 (by decide) ?_
          exact zJw h ⟨rfl, rfl, rfl, rfl, trivial⟩
abbrev LX9_somebodyCanLearn_2 (v : Int32) (X : zX) (x1 : Int32) (x2 : Int32) : Prop := zJ SX 2 mX9_somebodyCanLearn (zRf v X) 2 [some (.ref 0), some (.int x1), some (.int x2)] [] X
theorem eX9_somebodyCanLearn (v : Int32) (X : zX) (a1 : Int32) (h : LX9_somebodyCanLearn_2 v X a1 0) : zPf SX 2 mX9_somebodyCanLearn [.ref 0, .int a1] X v := by
  refine zP_in [some (.ref 0), some (.int a1), none] ⟨rfl, rfl, trivial⟩ (by decide) (Nat.le_of_ble_eq_true rfl) ?_
  refine j_iconst (v := 0) dX9_somebodyCanLearn_0 rfl ?_
  refine j_istore_n (L2 := [some (.ref 0), some (.int a1), some (.int 0)]) dX9_somebodyCanLearn_1 (by decide) (zno rfl) rfl ?_
  exact zJw h ⟨rfl, rfl, rfl, trivial⟩
theorem bX9_somebodyCanLearn_2 (v : Int32) (X : zX) (x1 : Int32) (x2 : Int32) (h : (((X 19 5) ≤ x2) → (0 = v)) ∧ ((¬ ((X 19 5) ≤ x2)) → (∃ r2 : Int32, zPf SX 1 mX9_canLearn [.ref 0, .int x2, .int x1] X r2 ∧ (((r2 = 0) → (LX9_somebodyCanLearn_2 v X x1 (x2 + 1))) ∧ ((¬ (r2 = 0)) → (1 = v)))))) : LX9_somebodyCanLearn_2 v X x1 x2 := by
  refine j_iload_n dX9_somebodyCanLearn_2 rfl ?_
  refine j_aload_n dX9_somebodyCanLearn_3 rfl ?_
  refine j_getr dX9_somebodyCanLearn_4 fX9_26 rfl rfl ?_
  refine j_getf dX9_somebodyCanLearn_7 fX9_107 rfl rfl ?_
  refine j_ic_ge (tgt := 30) dX9_somebodyCanLearn_10 (by decide) (fun hc1 => ?_) (fun hc1 => ?_)
  · have h := h.1 hc1
    refine j_iconst (v := 0) dX9_somebodyCanLearn_30 rfl ?_
    refine j_iret dX9_somebodyCanLearn_31 rfl (by decide) ?_
    exact ⟨by rw [h], rfl⟩
  · have h := h.2 hc1
    refine j_aload_n dX9_somebodyCanLearn_13 rfl ?_
    refine j_iload_n dX9_somebodyCanLearn_14 rfl ?_
    refine j_iload_n dX9_somebodyCanLearn_15 rfl ?_
    obtain ⟨r2, hc, h⟩ := h
    refine j_cvf (lc := 1) (as := [.int x2, .int x1]) dX9_somebodyCanLearn_16 iX9_canLearn vX9_canLearn kX9_293 (by decide) rfl rfl rfl rfl (Nat.zero_le _) hc ?_
    refine j_if_eq (tgt := 24) dX9_somebodyCanLearn_19 (by decide) (fun hc3 => ?_) (fun hc3 => ?_)
    · have h := h.1 hc3
      refine j_iinc (v := (x2 + 1)) (L2 := [some (.ref 0), some (.int x1), some (.int (x2 + 1))]) dX9_somebodyCanLearn_24 rfl rfl (by decide) (zno rfl) rfl ?_
      refine j_goto (tgt := 2) dX9_somebodyCanLearn_27 (by decide) ?_
      exact zJw h ⟨rfl, rfl, rfl, trivial⟩
    · have h := h.2 hc3
      refine j_iconst (v := 1) dX9_somebodyCanLearn_22 rfl ?_
      refine j_iret dX9_somebodyCanLearn_23 rfl (by decide) ?_
      exact ⟨by rw [h], rfl⟩
