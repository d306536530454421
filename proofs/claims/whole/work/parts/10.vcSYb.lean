theorem eX10_mayHear (v : Int32) (X : zX) (a1 : Int32) (a2 : Int32) (h : ∃ j1 : Nat, a2 = nI j1 ∧ j1 < 24 ∧ ((((X 7 j1) = (-4)) → (1 = v)) ∧ ((¬ ((X 7 j1) = (-4))) → (∃ j3 : Nat, a2 = nI j3 ∧ j3 < 24 ∧ (∃ j4 : Nat, a1 = nI j4 ∧ j4 < 8 ∧ ((((X 7 j3) = (X 9 j4)) → (1 = v)) ∧ ((¬ ((X 7 j3) = (X 9 j4))) → (∃ j6 : Nat, a2 = nI j6 ∧ j6 < 24 ∧ (∃ j7 : Nat, (X 7 j6) = nI j7 ∧ j7 < 8 ∧ (∃ j8 : Nat, a1 = nI j8 ∧ j8 < 8 ∧ (((¬ ((zshr (X 15 j7) (X 9 j8)) &&& 1) = 1) → (0 = v)) ∧ ((((zshr (X 15 j7) (X 9 j8)) &&& 1) = 1) → (1 = v))))))))))))) : zPf SY 0 mX10_mayHear [.ref 0, .int a1, .int a2] X v := by
  refine zP_in [some (.ref 0), some (.int a1), some (.int a2)] ⟨rfl, rfl, rfl, trivial⟩ (by decide) (Nat.le_of_ble_eq_true rfl) ?_
  refine j_aload_n dX10_mayHear_0 rfl ?_
  refine j_getr dX10_mayHear_1 fX10_28 rfl rfl ?_
  refine j_iload_n dX10_mayHear_4 rfl ?_
  obtain ⟨j1, ej1, lj1, h⟩ := h
  refine j_iald dX10_mayHear_5 rfl (zin ej1 lj1 (by decide)) ?_
  rw [zcl ej1 lj1 (by decide)]
  refine j_bipush (v := (-4)) dX10_mayHear_6 rfl ?_
  refine j_ic_eq (tgt := 50) dX10_mayHear_8 (by decide) (fun hc2 => ?_) (fun hc2 => ?_)
  · have h := h.1 hc2
    refine j_iconst (v := 1) dX10_mayHear_50 rfl ?_
    refine j_goto (tgt := 55) dX10_mayHear_51 (by decide) ?_
    refine j_iret dX10_mayHear_55 rfl (by decide) ?_
    exact ⟨by rw [h], rfl⟩
  · have h := h.2 hc2
    refine j_aload_n dX10_mayHear_11 rfl ?_
    refine j_getr dX10_mayHear_12 fX10_28 rfl rfl ?_
    refine j_iload_n dX10_mayHear_15 rfl ?_
    obtain ⟨j3, ej3, lj3, h⟩ := h
    refine j_iald dX10_mayHear_16 rfl (zin ej3 lj3 (by decide)) ?_
    rw [zcl ej3 lj3 (by decide)]
    refine j_aload_n dX10_mayHear_17 rfl ?_
    refine j_getr dX10_mayHear_18 fX10_34 rfl rfl ?_
    refine j_iload_n dX10_mayHear_21 rfl ?_
    obtain ⟨j4, ej4, lj4, h⟩ := h
    refine j_iald dX10_mayHear_22 rfl (zin ej4 lj4 (by decide)) ?_
    rw [zcl ej4 lj4 (by decide)]
    refine j_ic_eq (tgt := 50) dX10_mayHear_23 (by decide) (fun hc5 => ?_) (fun hc5 => ?_)
    · have h := h.1 hc5
      refine j_iconst (v := 1) dX10_mayHear_50 rfl ?_
      refine j_goto (tgt := 55) dX10_mayHear_51 (by decide) ?_
      refine j_iret dX10_mayHear_55 rfl (by decide) ?_
      exact ⟨by rw [h], rfl⟩
    · have h := h.2 hc5
      refine j_aload_n dX10_mayHear_26 rfl ?_
      refine j_getr dX10_mayHear_27 fX10_53 rfl rfl ?_
      refine j_aload_n dX10_mayHear_30 rfl ?_
      refine j_getr dX10_mayHear_31 fX10_28 rfl rfl ?_
      refine j_iload_n dX10_mayHear_34 rfl ?_
      obtain ⟨j6, ej6, lj6, h⟩ := h
      refine j_iald dX10_mayHear_35 rfl (zin ej6 lj6 (by decide)) ?_
      rw [zcl ej6 lj6 (by decide)]
      obtain ⟨j7, ej7, lj7, h⟩ := h
      refine j_iald dX10_mayHear_36 rfl (zin ej7 lj7 (by decide)) ?_
      rw [zcl ej7 lj7 (by decide)]
      refine j_aload_n dX10_mayHear_37 rfl ?_
      refine j_getr dX10_mayHear_38 fX10_34 rfl rfl ?_
      refine j_iload_n dX10_mayHear_41 rfl ?_
      obtain ⟨j8, ej8, lj8, h⟩ := h
      refine j_iald dX10_mayHear_42 rfl (zin ej8 lj8 (by decide)) ?_
      rw [zcl ej8 lj8 (by decide)]
      refine j_ishr dX10_mayHear_43 ?_
      refine j_iconst (v := 1) dX10_mayHear_44 rfl ?_
      refine j_iand dX10_mayHear_45 ?_
      refine j_iconst (v := 1) dX10_mayHear_46 rfl ?_
      refine j_ic_ne (tgt := 54) dX10_mayHear_47 (by decide) (fun hc9 => ?_) (fun hc9 => ?_)
      · have h := h.1 hc9
        refine j_iconst (v := 0) dX10_mayHear_54 rfl ?_
        refine j_iret dX10_mayHear_55 rfl (by decide) ?_
        exact ⟨by rw [h], rfl⟩
      · have h := h.2 hc9
        refine j_iconst (v := 1) dX10_mayHear_50 rfl ?_
        refine j_goto (tgt := 55) dX10_mayHear_51 (by decide) ?_
        refine j_iret dX10_mayHear_55 rfl (by decide) ?_
        exact ⟨by rw [h], rfl⟩
theorem eX10_maySing (v : Int32) (X : zX) (a1 : Int32) (a2 : Int32) (h : ∃ j1 : Nat, a2 = nI j1 ∧ j1 < 24 ∧ ((((X 7 j1) = (-4)) → (∃ r3 : Int32, zPf SY 0 mX10_hasIt [.ref 0, .int a1, .int a2] X r3 ∧ (((r3 = 0) → (0 = v)) ∧ ((¬ (r3 = 0)) → (∃ j5 : Nat, a1 = nI j5 ∧ j5 < 8 ∧ (((¬ (X 14 j5) = 0) → (0 = v)) ∧ (((X 14 j5) = 0) → (∃ r7 : Int32, zPf SY 0 mX10_ageOf [.ref 0, .int a1] X r7 ∧ (((r7 < (X 0 19)) → (0 = v)) ∧ ((¬ (r7 < (X 0 19))) → (1 = v))))))))))) ∧ ((¬ ((X 7 j1) = (-4))) → (∃ j9 : Nat, a2 = nI j9 ∧ j9 < 24 ∧ (∃ j10 : Nat, a1 = nI j10 ∧ j10 < 8 ∧ (((¬ (X 7 j9) = (X 9 j10)) → (0 = v)) ∧ (((X 7 j9) = (X 9 j10)) → (∃ r12 : Int32, zPf SY 0 mX10_hasIt [.ref 0, .int a1, .int a2] X r12 ∧ (((r12 = 0) → (0 = v)) ∧ ((¬ (r12 = 0)) → (∃ j14 : Nat, a1 = nI j14 ∧ j14 < 8 ∧ (((¬ (X 14 j14) = 0) → (0 = v)) ∧ (((X 14 j14) = 0) → (∃ r16 : Int32, zPf SY 0 mX10_ageOf [.ref 0, .int a1] X r16 ∧ (((r16 < (X 0 19)) → (0 = v)) ∧ ((¬ (r16 < (X 0 19))) → (1 = v))))))))))))))))) : zPf SY 1 mX10_maySing [.ref 0, .int a1, .int a2] X v := by
  refine zP_in [some (.ref 0), some (.int a1), some (.int a2)] ⟨rfl, rfl, rfl, trivial⟩ (by decide) (Nat.le_of_ble_eq_true rfl) ?_
  refine j_aload_n dX10_maySing_0 rfl ?_
  refine j_getr dX10_maySing_1 fX10_28 rfl rfl ?_
  refine j_iload_n dX10_maySing_4 rfl ?_
  obtain ⟨j1, ej1, lj1, h⟩ := h
  refine j_iald dX10_maySing_5 rfl (zin ej1 lj1 (by decide)) ?_
  rw [zcl ej1 lj1 (by decide)]
  refine j_bipush (v := (-4)) dX10_maySing_6 rfl ?_
  refine j_ic_eq (tgt := 26) dX10_maySing_8 (by decide) (fun hc2 => ?_) (fun hc2 => ?_)
  · have h := h.1 hc2
    refine j_aload_n dX10_maySing_26 rfl ?_
    refine j_iload_n dX10_maySing_27 rfl ?_
    refine j_iload_n dX10_maySing_28 rfl ?_
    obtain ⟨r3, hc, h⟩ := h
    refine j_cvf (lc := 0) (as := [.int a1, .int a2]) dX10_maySing_29 iX10_hasIt vX10_hasIt kX10_140 (by decide) rfl rfl rfl rfl (Nat.zero_le _) hc ?_
    refine j_if_eq (tgt := 60) dX10_maySing_32 (by decide) (fun hc4 => ?_) (fun hc4 => ?_)
    · have h := h.1 hc4
      refine j_iconst (v := 0) dX10_maySing_60 rfl ?_
      refine j_iret dX10_maySing_61 rfl (by decide) ?_
      exact ⟨by rw [h], rfl⟩
    · have h := h.2 hc4
      refine j_aload_n dX10_maySing_35 rfl ?_
      refine j_getr dX10_maySing_36 fX10_49 rfl rfl ?_
      refine j_iload_n dX10_maySing_39 rfl ?_
      obtain ⟨j5, ej5, lj5, h⟩ := h
      refine j_zald dX10_maySing_40 rfl (zin ej5 lj5 (by decide)) ?_
      rw [zcl ej5 lj5 (by decide)]
      refine j_if_ne (tgt := 60) dX10_maySing_41 (by decide) (fun hc6 => ?_) (fun hc6 => ?_)
      · have h := h.1 hc6
        refine j_iconst (v := 0) dX10_maySing_60 rfl ?_
        refine j_iret dX10_maySing_61 rfl (by decide) ?_
        exact ⟨by rw [h], rfl⟩
      · have h := h.2 hc6
        refine j_aload_n dX10_maySing_44 rfl ?_
        refine j_iload_n dX10_maySing_45 rfl ?_
        obtain ⟨r7, hc, h⟩ := h
        refine j_cvf (lc := 0) (as := [.int a1]) dX10_maySing_46 iX10_ageOf vX10_ageOf kX10_167 (by decide) rfl rfl rfl rfl (Nat.zero_le _) hc ?_
        refine j_aload_n dX10_maySing_49 rfl ?_
        refine j_getf dX10_maySing_50 fX10_179 rfl rfl ?_
        refine j_ic_lt (tgt := 60) dX10_maySing_53 (by decide) (fun hc8 => ?_) (fun hc8 => ?_)
        · have h := h.1 hc8
          refine j_iconst (v := 0) dX10_maySing_60 rfl ?_
          refine j_iret dX10_maySing_61 rfl (by decide) ?_
          exact ⟨by rw [h], rfl⟩
        · have h := h.2 hc8
          refine j_iconst (v := 1) dX10_maySing_56 rfl ?_
          refine j_goto (tgt := 61) dX10_maySing_57 (by decide) ?_
          refine j_iret dX10_maySing_61 rfl (by decide) ?_
          exact ⟨by rw [h], rfl⟩
  · have h := h.2 hc2
    refine j_aload_n dX10_maySing_11 rfl ?_
    refine j_getr dX10_maySing_12 fX10_28 rfl rfl ?_
    refine j_iload_n dX10_maySing_15 rfl ?_
    obtain ⟨j9, ej9, lj9, h⟩ := h
    refine j_iald dX10_maySing_16 rfl (zin ej9 lj9 (by decide)) ?_
    rw [zcl ej9 lj9 (by decide)]
    refine j_aload_n dX10_maySing_17 rfl ?_
    refine j_getr dX10_maySing_18 fX10_34 rfl rfl ?_
    refine j_iload_n dX10_maySing_21 rfl ?_
    obtain ⟨j10, ej10, lj10, h⟩ := h
    refine j_iald dX10_maySing_22 rfl (zin ej10 lj10 (by decide)) ?_
    rw [zcl ej10 lj10 (by decide)]
    refine j_ic_ne (tgt := 60) dX10_maySing_23 (by decide) (fun hc11 => ?_) (fun hc11 => ?_)
    · have h := h.1 hc11
      refine j_iconst (v := 0) dX10_maySing_60 rfl ?_
      refine j_iret dX10_maySing_61 rfl (by decide) ?_
      exact ⟨by rw [h], rfl⟩
    · have h := h.2 hc11
      refine j_aload_n dX10_maySing_26 rfl ?_
      refine j_iload_n dX10_maySing_27 rfl ?_
      refine j_iload_n dX10_maySing_28 rfl ?_
      obtain ⟨r12, hc, h⟩ := h
      refine j_cvf (lc := 0) (as := [.int a1, .int a2]) dX10_maySing_29 iX10_hasIt vX10_hasIt kX10_140 (by decide) rfl rfl rfl rfl (Nat.zero_le _) hc ?_
      refine j_if_eq (tgt := 60) dX10_maySing_32 (by decide) (fun hc13 => ?_) (fun hc13 => ?_)
      · have h := h.1 hc13
        refine j_iconst (v := 0) dX10_maySing_60 rfl ?_
        refine j_iret dX10_maySing_61 rfl (by decide) ?_
        exact ⟨by rw [h], rfl⟩
      · have h := h.2 hc13
        refine j_aload_n dX10_maySing_35 rfl ?_
        refine j_getr dX10_maySing_36 fX10_49 rfl rfl ?_
        refine j_iload_n dX10_maySing_39 rfl ?_
        obtain ⟨j14, ej14, lj14, h⟩ := h
        refine j_zald dX10_maySing_40 rfl (zin ej14 lj14 (by decide)) ?_
        rw [zcl ej14 lj14 (by decide)]
        refine j_if_ne (tgt := 60) dX10_maySing_41 (by decide) (fun hc15 => ?_) (fun hc15 => ?_)
        · have h := h.1 hc15
          refine j_iconst (v := 0) dX10_maySing_60 rfl ?_
          refine j_iret dX10_maySing_61 rfl (by decide) ?_
          exact ⟨by rw [h], rfl⟩
        · have h := h.2 hc15
          refine j_aload_n dX10_maySing_44 rfl ?_
          refine j_iload_n dX10_maySing_45 rfl ?_
          obtain ⟨r16, hc, h⟩ := h
          refine j_cvf (lc := 0) (as := [.int a1]) dX10_maySing_46 iX10_ageOf vX10_ageOf kX10_167 (by decide) rfl rfl rfl rfl (Nat.zero_le _) hc ?_
          refine j_aload_n dX10_maySing_49 rfl ?_
          refine j_getf dX10_maySing_50 fX10_179 rfl rfl ?_
          refine j_ic_lt (tgt := 60) dX10_maySing_53 (by decide) (fun hc17 => ?_) (fun hc17 => ?_)
          · have h := h.1 hc17
            refine j_iconst (v := 0) dX10_maySing_60 rfl ?_
            refine j_iret dX10_maySing_61 rfl (by decide) ?_
            exact ⟨by rw [h], rfl⟩
          · have h := h.2 hc17
            refine j_iconst (v := 1) dX10_maySing_56 rfl ?_
            refine j_goto (tgt := 61) dX10_maySing_57 (by decide) ?_
            refine j_iret dX10_maySing_61 rfl (by decide) ?_
            exact ⟨by rw [h], rfl⟩
abbrev LX10_may_25 (v : Int32) (X : zX) (x1 : Int32) (x2 : Int32) (x3 : Int32) (x4 : Int32) : Prop := zJ SY 2 mX10_may (zRf v X) 25 [some (.ref 0), some (.int x1), some (.int x2), some (.int x3), some (.int x4)] [] X
theorem eX10_may (v : Int32) (X : zX) (a1 : Int32) (a2 : Int32) (h : ∃ r1 : Int32, zPf SY 1 mX10_isOne [.ref 0, .int a1] X r1 ∧ (((r1 = 0) → ((-1) = v)) ∧ ((¬ (r1 = 0)) → (∃ r3 : Int32, zPf SY 0 mX10_in [.long a2.toInt64, .long 0, .long 1] X r3 ∧ (((¬ r3 = 0) → (LX10_may_25 v X a1 a2 0 0)) ∧ ((r3 = 0) → ((-1) = v))))))) : zPf SY 2 mX10_may [.ref 0, .int a1, .int a2] X v := by
  refine zP_in [some (.ref 0), some (.int a1), some (.int a2), none, none] ⟨rfl, rfl, rfl, trivial⟩ (by decide) (Nat.le_of_ble_eq_true rfl) ?_
  refine j_aload_n dX10_may_0 rfl ?_
  refine j_iload_n dX10_may_1 rfl ?_
  obtain ⟨r1, hc, h⟩ := h
  refine j_cvf (lc := 1) (as := [.int a1]) dX10_may_2 iX10_isOne vX10_isOne kX10_144 (by decide) rfl rfl rfl rfl (Nat.zero_le _) hc ?_
  refine j_if_eq (tgt := 18) dX10_may_5 (by decide) (fun hc2 => ?_) (fun hc2 => ?_)
  · have h := h.1 hc2
    refine j_iconst (v := (-1)) dX10_may_18 rfl ?_
    refine j_iret dX10_may_19 rfl rfl ?_
    exact ⟨by rw [h], rfl⟩
  · have h := h.2 hc2
    refine j_iload_n dX10_may_8 rfl ?_
    refine j_i2l dX10_may_9 ?_
    refine j_lconst (v := 0) dX10_may_10 rfl ?_
    refine j_lconst (v := 1) dX10_may_11 rfl ?_
    obtain ⟨r3, hc, h⟩ := h
    refine j_csf (lc := 0) (as := [.long a2.toInt64, .long 0, .long 1]) dX10_may_12 iX10_in sX10_in kX10_102 (by decide) rfl rfl (Nat.zero_le _) hc ?_
    refine j_if_ne (tgt := 20) dX10_may_15 (by decide) (fun hc4 => ?_) (fun hc4 => ?_)
    · have h := h.1 hc4
      refine j_iconst (v := 0) dX10_may_20 rfl ?_
      refine j_istore_n (L2 := [some (.ref 0), some (.int a1), some (.int a2), some (.int 0), none]) dX10_may_21 (by decide) (zno rfl) rfl ?_
      refine j_iconst (v := 0) dX10_may_22 rfl ?_
      refine j_istore (L2 := [some (.ref 0), some (.int a1), some (.int a2), some (.int 0), some (.int 0)]) dX10_may_23 (by decide) (zno rfl) rfl ?_
      exact zJw h ⟨rfl, rfl, rfl, rfl, rfl, trivial⟩
    · have h := h.2 hc4
      refine j_iconst (v := (-1)) dX10_may_18 rfl ?_
      refine j_iret dX10_may_19 rfl rfl ?_
      exact ⟨by rw [h], rfl⟩
theorem bX10_may_25 (v : Int32) (X : zX) (x1 : Int32) (x2 : Int32) (x3 : Int32) (x4 : Int32) (h : (((X 0 3) ≤ x4) → (x3 = v)) ∧ ((¬ ((X 0 3) ≤ x4)) → (((¬ x2 = 0) → (∃ r7 : Int32, zPf SY 1 mX10_maySing [.ref 0, .int x1, .int x4] X r7 ∧ (((r7 = 0) → (LX10_may_25 v X x1 x2 (x3 ||| 0) (x4 + 1))) ∧ ((¬ (r7 = 0)) → (LX10_may_25 v X x1 x2 (x3 ||| (zshl 1 x4)) (x4 + 1)))))) ∧ ((x2 = 0) → (∃ r9 : Int32, zPf SY 0 mX10_mayHear [.ref 0, .int x1, .int x4] X r9 ∧ (((r9 = 0) → (LX10_may_25 v X x1 x2 (x3 ||| 0) (x4 + 1))) ∧ ((¬ (r9 = 0)) → (LX10_may_25 v X x1 x2 (x3 ||| (zshl 1 x4)) (x4 + 1))))))))) : LX10_may_25 v X x1 x2 x3 x4 := by
  refine j_iload dX10_may_25 rfl ?_
  refine j_aload_n dX10_may_27 rfl ?_
  refine j_getf dX10_may_28 fX10_106 rfl rfl ?_
  refine j_ic_ge (tgt := 78) dX10_may_31 (by decide) (fun hc5 => ?_) (fun hc5 => ?_)
  · have h := h.1 hc5
    refine j_iload_n dX10_may_78 rfl ?_
    refine j_iret dX10_may_79 rfl rfl ?_
    exact ⟨by rw [h], rfl⟩
  · have h := h.2 hc5
    refine j_iload_n dX10_may_34 rfl ?_
    refine j_iload_n dX10_may_35 rfl ?_
    refine j_if_ne (tgt := 52) dX10_may_36 (by decide) (fun hc6 => ?_) (fun hc6 => ?_)
    · have h := h.1 hc6
      refine j_aload_n dX10_may_52 rfl ?_
      refine j_iload_n dX10_may_53 rfl ?_
      refine j_iload dX10_may_54 rfl ?_
      obtain ⟨r7, hc, h⟩ := h
      refine j_cvf (lc := 1) (as := [.int x1, .int x4]) dX10_may_56 iX10_maySing vX10_maySing kX10_270 (by decide) rfl rfl rfl rfl (by simp [Value.category]) hc ?_
      refine j_if_eq (tgt := 69) dX10_may_59 (by decide) (fun hc8 => ?_) (fun hc8 => ?_)
      · have h := h.1 hc8
        refine j_iconst (v := 0) dX10_may_69 rfl ?_
        refine j_ior dX10_may_70 ?_
        refine j_istore_n (L2 := [some (.ref 0), some (.int x1), some (.int x2), some (.int (x3 ||| 0)), some (.int x4)]) dX10_may_71 (by decide) (zno rfl) rfl ?_
        refine j_iinc (v := (x4 + 1)) (L2 := [some (.ref 0), some (.int x1), some (.int x2), some (.int (x3 ||| 0)), some (.int (x4 + 1))]) dX10_may_72 rfl rfl (by decide) (zno rfl) rfl ?_
        refine j_goto (tgt := 25) dX10_may_75 (by decide) ?_
        exact zJw h ⟨rfl, rfl, rfl, rfl, rfl, trivial⟩
      · have h := h.2 hc8
        refine j_iconst (v := 1) dX10_may_62 rfl ?_
        refine j_iload dX10_may_63 rfl ?_
        refine j_ishl dX10_may_65 ?_
        refine j_goto (tgt := 70) dX10_may_66 (by decide) ?_
        refine j_ior dX10_may_70 ?_
        refine j_istore_n (L2 := [some (.ref 0), some (.int x1), some (.int x2), some (.int (x3 ||| (zshl 1 x4))), some (.int x4)]) dX10_may_71 (by decide) (zno rfl) rfl ?_
        refine j_iinc (v := (x4 + 1)) (L2 := [some (.ref 0), some (.int x1), some (.int x2), some (.int (x3 ||| (zshl 1 x4))), some (.int (x4 + 1))]) dX10_may_72 rfl rfl (by decide) (zno rfl) rfl ?_
        refine j_goto (tgt := 25) dX10_may_75 (by decide) ?_
        exact zJw h ⟨rfl, rfl, rfl, rfl, rfl, trivial⟩
    · have h := h.2 hc6
      refine j_aload_n dX10_may_39 rfl ?_
      refine j_iload_n dX10_may_40 rfl ?_
      refine j_iload dX10_may_41 rfl ?_
      obtain ⟨r9, hc, h⟩ := h
      refine j_cvf (lc := 0) (as := [.int x1, .int x4]) dX10_may_43 iX10_mayHear vX10_mayHear kX10_267 (by decide) rfl rfl rfl rfl (by simp [Value.category]) hc ?_
      refine j_if_eq (tgt := 69) dX10_may_46 (by decide) (fun hc10 => ?_) (fun hc10 => ?_)
      · have h := h.1 hc10
        refine j_iconst (v := 0) dX10_may_69 rfl ?_
        refine j_ior dX10_may_70 ?_
        refine j_istore_n (L2 := [some (.ref 0), some (.int x1), some (.int x2), some (.int (x3 ||| 0)), some (.int x4)]) dX10_may_71 (by decide) (zno rfl) rfl ?_
        refine j_iinc (v := (x4 + 1)) (L2 := [some (.ref 0), some (.int x1), some (.int x2), some (.int (x3 ||| 0)), some (.int (x4 + 1))]) dX10_may_72 rfl rfl (by decide) (zno rfl) rfl ?_
        refine j_goto (tgt := 25) dX10_may_75 (by decide) ?_
        exact zJw h ⟨rfl, rfl, rfl, rfl, rfl, trivial⟩
      · have h := h.2 hc10
        refine j_goto (tgt := 62) dX10_may_49 (by decide) ?_
        refine j_iconst (v := 1) dX10_may_62 rfl ?_
        refine j_iload dX10_may_63 rfl ?_
        refine j_ishl dX10_may_65 ?_
        refine j_goto (tgt := 70) dX10_may_66 (by decide) ?_
        refine j_ior dX10_may_70 ?_
        refine j_istore_n (L2 := [some (.ref 0), some (.int x1), some (.int x2), some (.int (x3 ||| (zshl 1 x4))), some (.int x4)]) dX10_may_71 (by decide) (zno rfl) rfl ?_
        refine j_iinc (v := (x4 + 1)) (L2 := [some (.ref 0), some (.int x1), some (.int x2), some (.int (x3 ||| (zshl 1 x4))), some (.int (x4 + 1))]) dX10_may_72 rfl rfl (by decide) (zno rfl) rfl ?_
        refine j_goto (tgt := 25) dX10_may_75 (by decide) ?_
        exact zJw h ⟨rfl, rfl, rfl, rfl, rfl, trivial⟩
abbrev LX10_asks_45 (v : Int32) (X : zX) (x1 : Int32) (x2 : Int32) (x3 : Int32) (x4 : Int32) (x5 : Int32) (x6 : Int32) (x7 : Int32) (x8 : Int32) : Prop := zJ SY 2 mX10_asks (zRf v X) 45 [some (.ref 0), some (.int x1), some (.int x2), some (.int x3), some (.int x4), some (.int x5), some (.int x6), some (.int x7), some (.int x8), none] [] X
theorem eX10_asks (v : Int32) (X : zX) (a1 : Int32) (a2 : Int32) (a3 : Int32) (h : ∃ r1 : Int32, zPf SY 1 mX10_isOne [.ref 0, .int a1] X r1 ∧ (((r1 = 0) → ((-1) = v)) ∧ ((¬ (r1 = 0)) → (∃ r3 : Int32, zPf SY 1 mX10_isSong [.int a2] X r3 ∧ (((r3 = 0) → ((-1) = v)) ∧ ((¬ (r3 = 0)) → (∃ r5 : Int32, zPf SY 0 mX10_in [.long a3.toInt64, .long 0, .long 3] X r5 ∧ (((¬ r5 = 0) → (LX10_asks_45 v X a1 a2 a3 0 0 0 (-4) 0)) ∧ ((r5 = 0) → ((-1) = v)))))))))) : zPf SY 2 mX10_asks [.ref 0, .int a1, .int a2, .int a3] X v := by
  refine zP_in [some (.ref 0), some (.int a1), some (.int a2), some (.int a3), none, none, none, none, none, none] ⟨rfl, rfl, rfl, rfl, trivial⟩ (by decide) (Nat.le_of_ble_eq_true rfl) ?_
  refine j_aload_n dX10_asks_0 rfl ?_
  refine j_iload_n dX10_asks_1 rfl ?_
  obtain ⟨r1, hc, h⟩ := h
  refine j_cvf (lc := 1) (as := [.int a1]) dX10_asks_2 iX10_isOne vX10_isOne kX10_144 (by decide) rfl rfl rfl rfl (Nat.zero_le _) hc ?_
  refine j_if_eq (tgt := 27) dX10_asks_5 (by decide) (fun hc2 => ?_) (fun hc2 => ?_)
  · have h := h.1 hc2
    refine j_iconst (v := (-1)) dX10_asks_27 rfl ?_
    refine j_iret dX10_asks_28 rfl rfl ?_
    exact ⟨by rw [h], rfl⟩
  · have h := h.2 hc2
    refine j_iload_n dX10_asks_8 rfl ?_
    obtain ⟨r3, hc, h⟩ := h
    refine j_csf (lc := 1) (as := [.int a2]) dX10_asks_9 iX10_isSong sX10_isSong kX10_118 (by decide) rfl rfl (Nat.zero_le _) hc ?_
    refine j_if_eq (tgt := 27) dX10_asks_12 (by decide) (fun hc4 => ?_) (fun hc4 => ?_)
    · have h := h.1 hc4
      refine j_iconst (v := (-1)) dX10_asks_27 rfl ?_
      refine j_iret dX10_asks_28 rfl rfl ?_
      exact ⟨by rw [h], rfl⟩
    · have h := h.2 hc4
      refine j_iload_n dX10_asks_15 rfl ?_
      refine j_i2l dX10_asks_16 ?_
      refine j_lconst (v := 0) dX10_asks_17 rfl ?_
      refine j_ldc2 (v := 3) dX10_asks_18 qX10_112 ?_
      obtain ⟨r5, hc, h⟩ := h
      refine j_csf (lc := 0) (as := [.long a3.toInt64, .long 0, .long 3]) dX10_asks_21 iX10_in sX10_in kX10_102 (by decide) rfl rfl (Nat.zero_le _) hc ?_
      refine j_if_ne (tgt := 29) dX10_asks_24 (by decide) (fun hc6 => ?_) (fun hc6 => ?_)
      · have h := h.1 hc6
        refine j_iconst (v := 0) dX10_asks_29 rfl ?_
        refine j_istore (L2 := [some (.ref 0), some (.int a1), some (.int a2), some (.int a3), some (.int 0), none, none, none, none, none]) dX10_asks_30 (by decide) (zno rfl) rfl ?_
        refine j_iconst (v := 0) dX10_asks_32 rfl ?_
        refine j_istore (L2 := [some (.ref 0), some (.int a1), some (.int a2), some (.int a3), some (.int 0), some (.int 0), none, none, none, none]) dX10_asks_33 (by decide) (zno rfl) rfl ?_
        refine j_iconst (v := 0) dX10_asks_35 rfl ?_
        refine j_istore (L2 := [some (.ref 0), some (.int a1), some (.int a2), some (.int a3), some (.int 0), some (.int 0), some (.int 0), none, none, none]) dX10_asks_36 (by decide) (zno rfl) rfl ?_
        refine j_bipush (v := (-4)) dX10_asks_38 rfl ?_
        refine j_istore (L2 := [some (.ref 0), some (.int a1), some (.int a2), some (.int a3), some (.int 0), some (.int 0), some (.int 0), some (.int (-4)), none, none]) dX10_asks_40 (by decide) (zno rfl) rfl ?_
        refine j_iconst (v := 0) dX10_asks_42 rfl ?_
        refine j_istore (L2 := [some (.ref 0), some (.int a1), some (.int a2), some (.int a3), some (.int 0), some (.int 0), some (.int 0), some (.int (-4)), some (.int 0), none]) dX10_asks_43 (by decide) (zno rfl) rfl ?_
        exact zJw h ⟨rfl, rfl, rfl, rfl, rfl, rfl, rfl, rfl, rfl, trivial⟩
      · have h := h.2 hc6
        refine j_iconst (v := (-1)) dX10_asks_27 rfl ?_
        refine j_iret dX10_asks_28 rfl rfl ?_
        exact ⟨by rw [h], rfl⟩
theorem bX10_asks_45 (v : Int32) (X : zX) (x1 : Int32) (x2 : Int32) (x3 : Int32) (x4 : Int32) (x5 : Int32) (x6 : Int32) (x7 : Int32) (x8 : Int32) (h : (((X 0 3) ≤ x8) → (((¬ x3 = 0) → (((¬ x3 = 1) → (((¬ x3 = 2) → (x7 = v)) ∧ ((x3 = 2) → (x6 = v)))) ∧ ((x3 = 1) → (x5 = v)))) ∧ ((x3 = 0) → (x4 = v)))) ∧ ((¬ ((X 0 3) ≤ x8)) → (∃ j11 : Nat, x8 = nI j11 ∧ j11 < 24 ∧ (((¬ (X 3 j11) = x2) → (LX10_asks_45 v X x1 x2 x3 x4 x5 x6 x7 (x8 + 1))) ∧ (((X 3 j11) = x2) → (∃ r13 : Int32, zPf SY 0 mX10_mayHear [.ref 0, .int x1, .int x8] X r13 ∧ (((r13 = 0) → (LX10_asks_45 v X x1 x2 x3 (x4 ||| 0) (x5 + 1) (x6 ||| 0) x7 (x8 + 1))) ∧ ((¬ (r13 = 0)) → (∃ j15 : Nat, x8 = nI j15 ∧ j15 < 24 ∧ (((¬ x7 = (-4)) → (LX10_asks_45 v X x1 x2 x3 (x4 ||| (zshl 1 x8)) (x5 + 0) (x6 ||| (zshl 1 (X 4 j15))) x7 (x8 + 1))) ∧ ((x7 = (-4)) → (∃ j17 : Nat, x1 = nI j17 ∧ j17 < 8 ∧ (∃ j18 : Nat, x8 = nI j18 ∧ j18 < 24 ∧ (((¬ ((zshr (X 12 j17) (X 5 j18)) &&& 1) = 0) → (LX10_asks_45 v X x1 x2 x3 (x4 ||| (zshl 1 x8)) (x5 + 0) (x6 ||| (zshl 1 (X 4 j15))) x7 (x8 + 1))) ∧ ((((zshr (X 12 j17) (X 5 j18)) &&& 1) = 0) → (LX10_asks_45 v X x1 x2 x3 (x4 ||| (zshl 1 x8)) (x5 + 0) (x6 ||| (zshl 1 (X 4 j15))) x8 (x8 + 1))))))))))))))))) : LX10_asks_45 v X x1 x2 x3 x4 x5 x6 x7 x8 := by
  refine j_iload dX10_asks_45 rfl ?_
  refine j_aload_n dX10_asks_47 rfl ?_
  refine j_getf dX10_asks_48 fX10_106 rfl rfl ?_
  refine j_ic_ge (tgt := 176) dX10_asks_51 (by decide) (fun hc7 => ?_) (fun hc7 => ?_)
  · have h := h.1 hc7
    refine j_iload_n dX10_asks_176 rfl ?_
    refine j_if_ne (tgt := 185) dX10_asks_177 (by decide) (fun hc8 => ?_) (fun hc8 => ?_)
    · have h := h.1 hc8
      refine j_iload_n dX10_asks_185 rfl ?_
      refine j_iconst (v := 1) dX10_asks_186 rfl ?_
      refine j_ic_ne (tgt := 195) dX10_asks_187 (by decide) (fun hc9 => ?_) (fun hc9 => ?_)
      · have h := h.1 hc9
        refine j_iload_n dX10_asks_195 rfl ?_
        refine j_iconst (v := 2) dX10_asks_196 rfl ?_
        refine j_ic_ne (tgt := 205) dX10_asks_197 (by decide) (fun hc10 => ?_) (fun hc10 => ?_)
        · have h := h.1 hc10
          refine j_iload dX10_asks_205 rfl ?_
          refine j_iret dX10_asks_207 rfl rfl ?_
          exact ⟨by rw [h], rfl⟩
        · have h := h.2 hc10
          refine j_iload dX10_asks_200 rfl ?_
          refine j_goto (tgt := 207) dX10_asks_202 (by decide) ?_
          refine j_iret dX10_asks_207 rfl rfl ?_
          exact ⟨by rw [h], rfl⟩
      · have h := h.2 hc9
        refine j_iload dX10_asks_190 rfl ?_
        refine j_goto (tgt := 207) dX10_asks_192 (by decide) ?_
        refine j_iret dX10_asks_207 rfl rfl ?_
        exact ⟨by rw [h], rfl⟩
    · have h := h.2 hc8
      refine j_iload dX10_asks_180 rfl ?_
      refine j_goto (tgt := 207) dX10_asks_182 (by decide) ?_
      refine j_iret dX10_asks_207 rfl rfl ?_
      exact ⟨by rw [h], rfl⟩
  · have h := h.2 hc7
    refine j_aload_n dX10_asks_54 rfl ?_
    refine j_getr dX10_asks_55 fX10_16 rfl rfl ?_
    refine j_iload dX10_asks_58 rfl ?_
    obtain ⟨j11, ej11, lj11, h⟩ := h
    refine j_iald dX10_asks_60 rfl (zin ej11 lj11 (by decide)) ?_
    rw [zcl ej11 lj11 (by decide)]
    refine j_iload_n dX10_asks_61 rfl ?_
    refine j_ic_ne (tgt := 170) dX10_asks_62 (by decide) (fun hc12 => ?_) (fun hc12 => ?_)
    · have h := h.1 hc12
      refine j_iinc (v := (x8 + 1)) (L2 := [some (.ref 0), some (.int x1), some (.int x2), some (.int x3), some (.int x4), some (.int x5), some (.int x6), some (.int x7), some (.int (x8 + 1)), none]) dX10_asks_170 rfl rfl (by decide) (zno rfl) rfl ?_
      refine j_goto (tgt := 45) dX10_asks_173 (by decide) ?_
      exact zJw h ⟨rfl, rfl, rfl, rfl, rfl, rfl, rfl, rfl, rfl, trivial⟩
    · have h := h.2 hc12
      refine j_aload_n dX10_asks_65 rfl ?_
      refine j_iload_n dX10_asks_66 rfl ?_
      refine j_iload dX10_asks_67 rfl ?_
      obtain ⟨r13, hc, h⟩ := h
      refine j_cvf (lc := 0) (as := [.int x1, .int x8]) dX10_asks_69 iX10_mayHear vX10_mayHear kX10_267 (by decide) rfl rfl rfl rfl (Nat.zero_le _) hc ?_
      refine j_istore (L2 := [some (.ref 0), some (.int x1), some (.int x2), some (.int x3), some (.int x4), some (.int x5), some (.int x6), some (.int x7), some (.int x8), some (.int r13)]) dX10_asks_72 (by decide) (zno rfl) rfl ?_
      refine j_iload dX10_asks_74 rfl ?_
      refine j_iload dX10_asks_76 rfl ?_
      refine j_if_eq (tgt := 88) dX10_asks_78 (by decide) (fun hc14 => ?_) (fun hc14 => ?_)
      · have h := h.1 hc14
        refine j_iconst (v := 0) dX10_asks_88 rfl ?_
        refine j_ior dX10_asks_89 ?_
        refine j_istore (L2 := [some (.ref 0), some (.int x1), some (.int x2), some (.int x3), some (.int (x4 ||| 0)), some (.int x5), some (.int x6), some (.int x7), some (.int x8), some (.int r13)]) dX10_asks_90 (by decide) (zno rfl) rfl ?_
        refine j_iload dX10_asks_92 rfl ?_
        refine j_iload dX10_asks_94 rfl ?_
        refine j_if_eq (tgt := 103) dX10_asks_96 (by decide) (fun _ => ?_) (fun hc => absurd hc14 hc)
        refine j_iconst (v := 1) dX10_asks_103 rfl ?_
        refine j_iadd dX10_asks_104 ?_
        refine j_istore (L2 := [some (.ref 0), some (.int x1), some (.int x2), some (.int x3), some (.int (x4 ||| 0)), some (.int (x5 + 1)), some (.int x6), some (.int x7), some (.int x8), some (.int r13)]) dX10_asks_105 (by decide) (zno rfl) rfl ?_
        refine j_iload dX10_asks_107 rfl ?_
        refine j_iload dX10_asks_109 rfl ?_
        refine j_if_eq (tgt := 126) dX10_asks_111 (by decide) (fun _ => ?_) (fun hc => absurd hc14 hc)
        refine j_iconst (v := 0) dX10_asks_126 rfl ?_
        refine j_ior dX10_asks_127 ?_
        refine j_istore (L2 := [some (.ref 0), some (.int x1), some (.int x2), some (.int x3), some (.int (x4 ||| 0)), some (.int (x5 + 1)), some (.int (x6 ||| 0)), some (.int x7), some (.int x8), some (.int r13)]) dX10_asks_128 (by decide) (zno rfl) rfl ?_
        refine j_iload dX10_asks_130 rfl ?_
        refine j_if_eq (tgt := 166) dX10_asks_132 (by decide) (fun _ => ?_) (fun hc => absurd hc14 hc)
        refine j_iload dX10_asks_166 rfl ?_
        refine j_istore (L2 := [some (.ref 0), some (.int x1), some (.int x2), some (.int x3), some (.int (x4 ||| 0)), some (.int (x5 + 1)), some (.int (x6 ||| 0)), some (.int x7), some (.int x8), some (.int r13)]) dX10_asks_168 (by decide) (zno rfl) rfl ?_
        refine j_iinc (v := (x8 + 1)) (L2 := [some (.ref 0), some (.int x1), some (.int x2), some (.int x3), some (.int (x4 ||| 0)), some (.int (x5 + 1)), some (.int (x6 ||| 0)), some (.int x7), some (.int (x8 + 1)), some (.int r13)]) dX10_asks_170 rfl rfl (by decide) (zno rfl) rfl ?_
        refine j_goto (tgt := 45) dX10_asks_173 (by decide) ?_
        exact zJw h ⟨rfl, rfl, rfl, rfl, rfl, rfl, rfl, rfl, rfl, trivial⟩
      · have h := h.2 hc14
        refine j_iconst (v := 1) dX10_asks_81 rfl ?_
        refine j_iload dX10_asks_82 rfl ?_
        refine j_ishl dX10_asks_84 ?_
        refine j_goto (tgt := 89) dX10_asks_85 (by decide) ?_
        refine j_ior dX10_asks_89 ?_
        refine j_istore (L2 := [some (.ref 0), some (.int x1), some (.int x2), some (.int x3), some (.int (x4 ||| (zshl 1 x8))), some (.int x5), some (.int x6), some (.int x7), some (.int x8), some (.int r13)]) dX10_asks_90 (by decide) (zno rfl) rfl ?_
        refine j_iload dX10_asks_92 rfl ?_
        refine j_iload dX10_asks_94 rfl ?_
        refine j_if_eq (tgt := 103) dX10_asks_96 (by decide) (fun hc => absurd hc hc14) (fun _ => ?_)
        refine j_iconst (v := 0) dX10_asks_99 rfl ?_
        refine j_goto (tgt := 104) dX10_asks_100 (by decide) ?_
        refine j_iadd dX10_asks_104 ?_
        refine j_istore (L2 := [some (.ref 0), some (.int x1), some (.int x2), some (.int x3), some (.int (x4 ||| (zshl 1 x8))), some (.int (x5 + 0)), some (.int x6), some (.int x7), some (.int x8), some (.int r13)]) dX10_asks_105 (by decide) (zno rfl) rfl ?_
        refine j_iload dX10_asks_107 rfl ?_
        refine j_iload dX10_asks_109 rfl ?_
        refine j_if_eq (tgt := 126) dX10_asks_111 (by decide) (fun hc => absurd hc hc14) (fun _ => ?_)
        refine j_iconst (v := 1) dX10_asks_114 rfl ?_
        refine j_aload_n dX10_asks_115 rfl ?_
        refine j_getr dX10_asks_116 fX10_19 rfl rfl ?_
        refine j_iload dX10_asks_119 rfl ?_
        obtain ⟨j15, ej15, lj15, h⟩ := h
        refine j_iald dX10_asks_121 rfl (zin ej15 lj15 (by decide)) ?_
        rw [zcl ej15 lj15 (by decide)]
        refine j_ishl dX10_asks_122 ?_
        refine j_goto (tgt := 127) dX10_asks_123 (by decide) ?_
        refine j_ior dX10_asks_127 ?_
        refine j_istore (L2 := [some (.ref 0), some (.int x1), some (.int x2), some (.int x3), some (.int (x4 ||| (zshl 1 x8))), some (.int (x5 + 0)), some (.int (x6 ||| (zshl 1 (X 4 j15)))), some (.int x7), some (.int x8), some (.int r13)]) dX10_asks_128 (by decide) (zno rfl) rfl ?_
        refine j_iload dX10_asks_130 rfl ?_
        refine j_if_eq (tgt := 166) dX10_asks_132 (by decide) (fun hc => absurd hc hc14) (fun _ => ?_)
        refine j_iload dX10_asks_135 rfl ?_
        refine j_bipush (v := (-4)) dX10_asks_137 rfl ?_
        refine j_ic_ne (tgt := 166) dX10_asks_139 (by decide) (fun hc16 => ?_) (fun hc16 => ?_)
        · have h := h.1 hc16
          refine j_iload dX10_asks_166 rfl ?_
          refine j_istore (L2 := [some (.ref 0), some (.int x1), some (.int x2), some (.int x3), some (.int (x4 ||| (zshl 1 x8))), some (.int (x5 + 0)), some (.int (x6 ||| (zshl 1 (X 4 j15)))), some (.int x7), some (.int x8), some (.int r13)]) dX10_asks_168 (by decide) (zno rfl) rfl ?_
          refine j_iinc (v := (x8 + 1)) (L2 := [some (.ref 0), some (.int x1), some (.int x2), some (.int x3), some (.int (x4 ||| (zshl 1 x8))), some (.int (x5 + 0)), some (.int (x6 ||| (zshl 1 (X 4 j15)))), some (.int x7), some (.int (x8 + 1)), some (.int r13)]) dX10_asks_170 rfl rfl (by decide) (zno rfl) rfl ?_
          refine j_goto (tgt := 45) dX10_asks_173 (by decide) ?_
          exact zJw h ⟨rfl, rfl, rfl, rfl, rfl, rfl, rfl, rfl, rfl, trivial⟩
        · have h := h.2 hc16
          refine j_aload_n dX10_asks_142 rfl ?_
          refine j_getr dX10_asks_143 fX10_43 rfl rfl ?_
          refine j_iload_n dX10_asks_146 rfl ?_
          obtain ⟨j17, ej17, lj17, h⟩ := h
          refine j_iald dX10_asks_147 rfl (zin ej17 lj17 (by decide)) ?_
          rw [zcl ej17 lj17 (by decide)]
          refine j_aload_n dX10_asks_148 rfl ?_
          refine j_getr dX10_asks_149 fX10_22 rfl rfl ?_
          refine j_iload dX10_asks_152 rfl ?_
          obtain ⟨j18, ej18, lj18, h⟩ := h
          refine j_iald dX10_asks_154 rfl (zin ej18 lj18 (by decide)) ?_
          rw [zcl ej18 lj18 (by decide)]
          refine j_ishr dX10_asks_155 ?_
          refine j_iconst (v := 1) dX10_asks_156 rfl ?_
          refine j_iand dX10_asks_157 ?_
          refine j_if_ne (tgt := 166) dX10_asks_158 (by decide) (fun hc19 => ?_) (fun hc19 => ?_)
          · have h := h.1 hc19
            refine j_iload dX10_asks_166 rfl ?_
            refine j_istore (L2 := [some (.ref 0), some (.int x1), some (.int x2), some (.int x3), some (.int (x4 ||| (zshl 1 x8))), some (.int (x5 + 0)), some (.int (x6 ||| (zshl 1 (X 4 j15)))), some (.int x7), some (.int x8), some (.int r13)]) dX10_asks_168 (by decide) (zno rfl) rfl ?_
            refine j_iinc (v := (x8 + 1)) (L2 := [some (.ref 0), some (.int x1), some (.int x2), some (.int x3), some (.int (x4 ||| (zshl 1 x8))), some (.int (x5 + 0)), some (.int (x6 ||| (zshl 1 (X 4 j15)))), some (.int x7), some (.int (x8 + 1)), some (.int r13)]) dX10_asks_170 rfl rfl (by decide) (zno rfl) rfl ?_
            refine j_goto (tgt := 45) dX10_asks_173 (by decide) ?_
            exact zJw h ⟨rfl, rfl, rfl, rfl, rfl, rfl, rfl, rfl, rfl, trivial⟩
          · have h := h.2 hc19
            refine j_iload dX10_asks_161 rfl ?_
            refine j_goto (tgt := 168) dX10_asks_163 (by decide) ?_
            refine j_istore (L2 := [some (.ref 0), some (.int x1), some (.int x2), some (.int x3), some (.int (x4 ||| (zshl 1 x8))), some (.int (x5 + 0)), some (.int (x6 ||| (zshl 1 (X 4 j15)))), some (.int x8), some (.int x8), some (.int r13)]) dX10_asks_168 (by decide) (zno rfl) rfl ?_
            refine j_iinc (v := (x8 + 1)) (L2 := [some (.ref 0), some (.int x1), some (.int x2), some (.int x3), some (.int (x4 ||| (zshl 1 x8))), some (.int (x5 + 0)), some (.int (x6 ||| (zshl 1 (X 4 j15)))), some (.int x8), some (.int (x8 + 1)), some (.int r13)]) dX10_asks_170 rfl rfl (by decide) (zno rfl) rfl ?_
            refine j_goto (tgt := 45) dX10_asks_173 (by decide) ?_
            exact zJw h ⟨rfl, rfl, rfl, rfl, rfl, rfl, rfl, rfl, rfl, trivial⟩
theorem eX10_arePeople (v : Int32) (X : zX) (a1 : Int32) (h : ∃ r1 : Int32, zPf SY 0 mX10_in [.long a1.toInt64, .long 0, .long ((zshl 1 (X 0 10)) - 1).toInt64] X r1 ∧ (narrow .boolean (.int r1) = .int r1 ∧ r1 = v)) : zPf SY 1 mX10_arePeople [.ref 0, .int a1] X v := by
  refine zP_in [some (.ref 0), some (.int a1)] ⟨rfl, rfl, trivial⟩ (by decide) (Nat.le_of_ble_eq_true rfl) ?_
  refine j_iload_n dX10_arePeople_0 rfl ?_
  refine j_i2l dX10_arePeople_1 ?_
  refine j_lconst (v := 0) dX10_arePeople_2 rfl ?_
  refine j_iconst (v := 1) dX10_arePeople_3 rfl ?_
  refine j_aload_n dX10_arePeople_4 rfl ?_
  refine j_getf dX10_arePeople_5 fX10_109 rfl rfl ?_
  refine j_ishl dX10_arePeople_8 ?_
  refine j_iconst (v := 1) dX10_arePeople_9 rfl ?_
  refine j_isub dX10_arePeople_10 ?_
  refine j_i2l dX10_arePeople_11 ?_
  obtain ⟨r1, hc, h⟩ := h
  refine j_csf (lc := 0) (as := [.long a1.toInt64, .long 0, .long ((zshl 1 (X 0 10)) - 1).toInt64]) dX10_arePeople_12 iX10_in sX10_in kX10_102 (by decide) rfl rfl (Nat.zero_le _) hc ?_
  refine j_iret (ty := .boolean) dX10_arePeople_15 rfl h.1 ?_
  have h := h.2
  exact ⟨by rw [h], rfl⟩
abbrev LX10_sungBy_4 (v : Int32) (X : zX) (x1 : Int32) (x2 : Int32) (x3 : Int32) : Prop := zJ SY 2 mX10_sungBy (zRf v X) 4 [some (.ref 0), some (.int x1), some (.int x2), some (.int x3), none] [] X
abbrev LX10_sungBy_15 (v : Int32) (X : zX) (x1 : Int32) (x2 : Int32) (x3 : Int32) (x4 : Int32) : Prop := zJ SY 2 mX10_sungBy (zRf v X) 15 [some (.ref 0), some (.int x1), some (.int x2), some (.int x3), some (.int x4)] [] X
theorem eX10_sungBy (v : Int32) (X : zX) (a1 : Int32) (h : LX10_sungBy_4 v X a1 0 0) : zPf SY 2 mX10_sungBy [.ref 0, .int a1] X v := by
  refine zP_in [some (.ref 0), some (.int a1), none, none, none] ⟨rfl, rfl, trivial⟩ (by decide) (Nat.le_of_ble_eq_true rfl) ?_
  refine j_iconst (v := 0) dX10_sungBy_0 rfl ?_
  refine j_istore_n (L2 := [some (.ref 0), some (.int a1), some (.int 0), none, none]) dX10_sungBy_1 (by decide) (zno rfl) rfl ?_
  refine j_iconst (v := 0) dX10_sungBy_2 rfl ?_
  refine j_istore_n (L2 := [some (.ref 0), some (.int a1), some (.int 0), some (.int 0), none]) dX10_sungBy_3 (by decide) (zno rfl) rfl ?_
  exact zJw h ⟨rfl, rfl, rfl, rfl, trivial⟩
theorem bX10_sungBy_4 (v : Int32) (X : zX) (x1 : Int32) (x2 : Int32) (x3 : Int32) (h : (((X 0 10) ≤ x3) → (x2 = v)) ∧ ((¬ ((X 0 10) ≤ x3)) → (LX10_sungBy_15 v X x1 x2 x3 0))) : LX10_sungBy_4 v X x1 x2 x3 := by
  refine j_iload_n dX10_sungBy_4 rfl ?_
  refine j_aload_n dX10_sungBy_5 rfl ?_
  refine j_getf dX10_sungBy_6 fX10_109 rfl rfl ?_
  refine j_ic_ge (tgt := 66) dX10_sungBy_9 (by decide) (fun hc1 => ?_) (fun hc1 => ?_)
  · have h := h.1 hc1
    refine j_iload_n dX10_sungBy_66 rfl ?_
    refine j_iret dX10_sungBy_67 rfl rfl ?_
    exact ⟨by rw [h], rfl⟩
  · have h := h.2 hc1
    refine j_iconst (v := 0) dX10_sungBy_12 rfl ?_
    refine j_istore (L2 := [some (.ref 0), some (.int x1), some (.int x2), some (.int x3), some (.int 0)]) dX10_sungBy_13 (by decide) (zno rfl) rfl ?_
    exact zJw h ⟨rfl, rfl, rfl, rfl, rfl, trivial⟩
theorem bX10_sungBy_15 (v : Int32) (X : zX) (x1 : Int32) (x2 : Int32) (x3 : Int32) (x4 : Int32) (h : (((X 0 3) ≤ x4) → (LX10_sungBy_4 v X x1 x2 (x3 + 1))) ∧ ((¬ ((X 0 3) ≤ x4)) → (((¬ ((zshr x1 x3) &&& 1) = 1) → (LX10_sungBy_15 v X x1 (x2 ||| 0) x3 (x4 + 1))) ∧ ((((zshr x1 x3) &&& 1) = 1) → (∃ r4 : Int32, zPf SY 1 mX10_maySing [.ref 0, .int x3, .int x4] X r4 ∧ (((r4 = 0) → (LX10_sungBy_15 v X x1 (x2 ||| 0) x3 (x4 + 1))) ∧ ((¬ (r4 = 0)) → (LX10_sungBy_15 v X x1 (x2 ||| (zshl 1 x4)) x3 (x4 + 1))))))))) : LX10_sungBy_15 v X x1 x2 x3 x4 := by
  refine j_iload dX10_sungBy_15 rfl ?_
  refine j_aload_n dX10_sungBy_17 rfl ?_
  refine j_getf dX10_sungBy_18 fX10_106 rfl rfl ?_
  refine j_ic_ge (tgt := 60) dX10_sungBy_21 (by decide) (fun hc2 => ?_) (fun hc2 => ?_)
  · have h := h.1 hc2
    refine j_iinc (v := (x3 + 1)) (L2 := [some (.ref 0), some (.int x1), some (.int x2), some (.int (x3 + 1)), some (.int x4)]) dX10_sungBy_60 rfl rfl (by decide) (zno rfl) rfl ?_
    refine j_goto (tgt := 4) dX10_sungBy_63 (by decide) ?_
    exact zJw h ⟨rfl, rfl, rfl, rfl, trivial⟩
  · have h := h.2 hc2
    refine j_iload_n dX10_sungBy_24 rfl ?_
    refine j_iload_n dX10_sungBy_25 rfl ?_
    refine j_iload_n dX10_sungBy_26 rfl ?_
    refine j_ishr dX10_sungBy_27 ?_
    refine j_iconst (v := 1) dX10_sungBy_28 rfl ?_
    refine j_iand dX10_sungBy_29 ?_
    refine j_iconst (v := 1) dX10_sungBy_30 rfl ?_
    refine j_ic_ne (tgt := 51) dX10_sungBy_31 (by decide) (fun hc3 => ?_) (fun hc3 => ?_)
    · have h := h.1 hc3
      refine j_iconst (v := 0) dX10_sungBy_51 rfl ?_
      refine j_ior dX10_sungBy_52 ?_
      refine j_istore_n (L2 := [some (.ref 0), some (.int x1), some (.int (x2 ||| 0)), some (.int x3), some (.int x4)]) dX10_sungBy_53 (by decide) (zno rfl) rfl ?_
      refine j_iinc (v := (x4 + 1)) (L2 := [some (.ref 0), some (.int x1), some (.int (x2 ||| 0)), some (.int x3), some (.int (x4 + 1))]) dX10_sungBy_54 rfl rfl (by decide) (zno rfl) rfl ?_
      refine j_goto (tgt := 15) dX10_sungBy_57 (by decide) ?_
      exact zJw h ⟨rfl, rfl, rfl, rfl, rfl, trivial⟩
    · have h := h.2 hc3
      refine j_aload_n dX10_sungBy_34 rfl ?_
      refine j_iload_n dX10_sungBy_35 rfl ?_
      refine j_iload dX10_sungBy_36 rfl ?_
      obtain ⟨r4, hc, h⟩ := h
      refine j_cvf (lc := 1) (as := [.int x3, .int x4]) dX10_sungBy_38 iX10_maySing vX10_maySing kX10_270 (by decide) rfl rfl rfl rfl (by simp [Value.category]) hc ?_
      refine j_if_eq (tgt := 51) dX10_sungBy_41 (by decide) (fun hc5 => ?_) (fun hc5 => ?_)
      · have h := h.1 hc5
        refine j_iconst (v := 0) dX10_sungBy_51 rfl ?_
        refine j_ior dX10_sungBy_52 ?_
        refine j_istore_n (L2 := [some (.ref 0), some (.int x1), some (.int (x2 ||| 0)), some (.int x3), some (.int x4)]) dX10_sungBy_53 (by decide) (zno rfl) rfl ?_
        refine j_iinc (v := (x4 + 1)) (L2 := [some (.ref 0), some (.int x1), some (.int (x2 ||| 0)), some (.int x3), some (.int (x4 + 1))]) dX10_sungBy_54 rfl rfl (by decide) (zno rfl) rfl ?_
        refine j_goto (tgt := 15) dX10_sungBy_57 (by decide) ?_
        exact zJw h ⟨rfl, rfl, rfl, rfl, rfl, trivial⟩
      · have h := h.2 hc5
        refine j_iconst (v := 1) dX10_sungBy_44 rfl ?_
        refine j_iload dX10_sungBy_45 rfl ?_
        refine j_ishl dX10_sungBy_47 ?_
        refine j_goto (tgt := 52) dX10_sungBy_48 (by decide) ?_
        refine j_ior dX10_sungBy_52 ?_
        refine j_istore_n (L2 := [some (.ref 0), some (.int x1), some (.int (x2 ||| (zshl 1 x4))), some (.int x3), some (.int x4)]) dX10_sungBy_53 (by decide) (zno rfl) rfl ?_
        refine j_iinc (v := (x4 + 1)) (L2 := [some (.ref 0), some (.int x1), some (.int (x2 ||| (zshl 1 x4))), some (.int x3), some (.int (x4 + 1))]) dX10_sungBy_54 rfl rfl (by decide) (zno rfl) rfl ?_
        refine j_goto (tgt := 15) dX10_sungBy_57 (by decide) ?_
        exact zJw h ⟨rfl, rfl, rfl, rfl, rfl, trivial⟩
abbrev LX10_ledBy_11 (v : Int32) (X : zX) (x2 : Int32) (x3 : Int32) (x4 : Int32) : Prop := zJ SY 3 mX10_ledBy (zRf v X) 11 [some (.ref 0), none, some (.int x2), some (.int x3), some (.int x4)] [] X
theorem eX10_ledBy (v : Int32) (X : zX) (a1 : Int32) (h : ∃ r1 : Int32, zPf SY 2 mX10_sungBy [.ref 0, .int a1] X r1 ∧ (LX10_ledBy_11 v X r1 0 0)) : zPf SY 3 mX10_ledBy [.ref 0, .int a1] X v := by
  refine zP_in [some (.ref 0), some (.int a1), none, none, none] ⟨rfl, rfl, trivial⟩ (by decide) (Nat.le_of_ble_eq_true rfl) ?_
  refine j_aload_n dX10_ledBy_0 rfl ?_
  refine j_iload_n dX10_ledBy_1 rfl ?_
  obtain ⟨r1, hc, h⟩ := h
  refine j_cvf (lc := 2) (as := [.int a1]) dX10_ledBy_2 iX10_sungBy vX10_sungBy kX10_273 (by decide) rfl rfl rfl rfl (Nat.zero_le _) hc ?_
  refine j_istore_n (L2 := [some (.ref 0), some (.int a1), some (.int r1), none, none]) dX10_ledBy_5 (by decide) (zno rfl) rfl ?_
  refine j_iconst (v := 0) dX10_ledBy_6 rfl ?_
  refine j_istore_n (L2 := [some (.ref 0), some (.int a1), some (.int r1), some (.int 0), none]) dX10_ledBy_7 (by decide) (zno rfl) rfl ?_
  refine j_iconst (v := 0) dX10_ledBy_8 rfl ?_
  refine j_istore (L2 := [some (.ref 0), some (.int a1), some (.int r1), some (.int 0), some (.int 0)]) dX10_ledBy_9 (by decide) (zno rfl) rfl ?_
  exact zJw h ⟨rfl, rfl, rfl, rfl, trivial⟩
theorem bX10_ledBy_11 (v : Int32) (X : zX) (x2 : Int32) (x3 : Int32) (x4 : Int32) (h : (((X 0 3) ≤ x4) → (x3 = v)) ∧ ((¬ ((X 0 3) ≤ x4)) → (((¬ ((zshr x2 x4) &&& 1) = 1) → (LX10_ledBy_11 v X x2 (x3 ||| 0) (x4 + 1))) ∧ ((((zshr x2 x4) &&& 1) = 1) → (∃ j4 : Nat, x4 = nI j4 ∧ j4 < 24 ∧ (((¬ ((X 17 j4) &&& (x2 ^^^ (-1))) = 0) → (LX10_ledBy_11 v X x2 (x3 ||| 0) (x4 + 1))) ∧ ((((X 17 j4) &&& (x2 ^^^ (-1))) = 0) → (LX10_ledBy_11 v X x2 (x3 ||| (zshl 1 x4)) (x4 + 1))))))))) : LX10_ledBy_11 v X x2 x3 x4 := by
  refine j_iload dX10_ledBy_11 rfl ?_
  refine j_aload_n dX10_ledBy_13 rfl ?_
  refine j_getf dX10_ledBy_14 fX10_106 rfl rfl ?_
  refine j_ic_ge (tgt := 61) dX10_ledBy_17 (by decide) (fun hc2 => ?_) (fun hc2 => ?_)
  · have h := h.1 hc2
    refine j_iload_n dX10_ledBy_61 rfl ?_
    refine j_iret dX10_ledBy_62 rfl rfl ?_
    exact ⟨by rw [h], rfl⟩
  · have h := h.2 hc2
    refine j_iload_n dX10_ledBy_20 rfl ?_
    refine j_iload_n dX10_ledBy_21 rfl ?_
    refine j_iload dX10_ledBy_22 rfl ?_
    refine j_ishr dX10_ledBy_24 ?_
    refine j_iconst (v := 1) dX10_ledBy_25 rfl ?_
    refine j_iand dX10_ledBy_26 ?_
    refine j_iconst (v := 1) dX10_ledBy_27 rfl ?_
    refine j_ic_ne (tgt := 52) dX10_ledBy_28 (by decide) (fun hc3 => ?_) (fun hc3 => ?_)
    · have h := h.1 hc3
      refine j_iconst (v := 0) dX10_ledBy_52 rfl ?_
      refine j_ior dX10_ledBy_53 ?_
      refine j_istore_n (L2 := [some (.ref 0), none, some (.int x2), some (.int (x3 ||| 0)), some (.int x4)]) dX10_ledBy_54 (by decide) (zno rfl) rfl ?_
      refine j_iinc (v := (x4 + 1)) (L2 := [some (.ref 0), none, some (.int x2), some (.int (x3 ||| 0)), some (.int (x4 + 1))]) dX10_ledBy_55 rfl rfl (by decide) (zno rfl) rfl ?_
      refine j_goto (tgt := 11) dX10_ledBy_58 (by decide) ?_
      exact zJw h ⟨rfl, rfl, rfl, rfl, trivial⟩
    · have h := h.2 hc3
      refine j_aload_n dX10_ledBy_31 rfl ?_
      refine j_getr dX10_ledBy_32 fX10_59 rfl rfl ?_
      refine j_iload dX10_ledBy_35 rfl ?_
      obtain ⟨j4, ej4, lj4, h⟩ := h
      refine j_iald dX10_ledBy_37 rfl (zin ej4 lj4 (by decide)) ?_
      rw [zcl ej4 lj4 (by decide)]
      refine j_iload_n dX10_ledBy_38 rfl ?_
      refine j_iconst (v := (-1)) dX10_ledBy_39 rfl ?_
      refine j_ixor dX10_ledBy_40 ?_
      refine j_iand dX10_ledBy_41 ?_
      refine j_if_ne (tgt := 52) dX10_ledBy_42 (by decide) (fun hc5 => ?_) (fun hc5 => ?_)
      · have h := h.1 hc5
        refine j_iconst (v := 0) dX10_ledBy_52 rfl ?_
        refine j_ior dX10_ledBy_53 ?_
        refine j_istore_n (L2 := [some (.ref 0), none, some (.int x2), some (.int (x3 ||| 0)), some (.int x4)]) dX10_ledBy_54 (by decide) (zno rfl) rfl ?_
        refine j_iinc (v := (x4 + 1)) (L2 := [some (.ref 0), none, some (.int x2), some (.int (x3 ||| 0)), some (.int (x4 + 1))]) dX10_ledBy_55 rfl rfl (by decide) (zno rfl) rfl ?_
        refine j_goto (tgt := 11) dX10_ledBy_58 (by decide) ?_
        exact zJw h ⟨rfl, rfl, rfl, rfl, trivial⟩
      · have h := h.2 hc5
        refine j_iconst (v := 1) dX10_ledBy_45 rfl ?_
        refine j_iload dX10_ledBy_46 rfl ?_
        refine j_ishl dX10_ledBy_48 ?_
        refine j_goto (tgt := 53) dX10_ledBy_49 (by decide) ?_
        refine j_ior dX10_ledBy_53 ?_
        refine j_istore_n (L2 := [some (.ref 0), none, some (.int x2), some (.int (x3 ||| (zshl 1 x4))), some (.int x4)]) dX10_ledBy_54 (by decide) (zno rfl) rfl ?_
        refine j_iinc (v := (x4 + 1)) (L2 := [some (.ref 0), none, some (.int x2), some (.int (x3 ||| (zshl 1 x4))), some (.int (x4 + 1))]) dX10_ledBy_55 rfl rfl (by decide) (zno rfl) rfl ?_
        refine j_goto (tgt := 11) dX10_ledBy_58 (by decide) ?_
        exact zJw h ⟨rfl, rfl, rfl, rfl, trivial⟩
theorem eX10_led (v : Int32) (X : zX) (a1 : Int32) (h : ∃ r1 : Int32, zPf SY 1 mX10_arePeople [.ref 0, .int a1] X r1 ∧ (((r1 = 0) → ((-1) = v)) ∧ ((¬ (r1 = 0)) → (∃ r3 : Int32, zPf SY 3 mX10_ledBy [.ref 0, .int a1] X r3 ∧ (r3 = v))))) : zPf SY 4 mX10_led [.ref 0, .int a1] X v := by
  refine zP_in [some (.ref 0), some (.int a1)] ⟨rfl, rfl, trivial⟩ (by decide) (Nat.le_of_ble_eq_true rfl) ?_
  refine j_aload_n dX10_led_0 rfl ?_
  refine j_iload_n dX10_led_1 rfl ?_
  obtain ⟨r1, hc, h⟩ := h
  refine j_cvf (lc := 1) (as := [.int a1]) dX10_led_2 iX10_arePeople vX10_arePeople kX10_276 (by decide) rfl rfl rfl rfl (Nat.zero_le _) hc ?_
  refine j_if_eq (tgt := 16) dX10_led_5 (by decide) (fun hc2 => ?_) (fun hc2 => ?_)
  · have h := h.1 hc2
    refine j_iconst (v := (-1)) dX10_led_16 rfl ?_
    refine j_iret dX10_led_17 rfl rfl ?_
    exact ⟨by rw [h], rfl⟩
  · have h := h.2 hc2
    refine j_aload_n dX10_led_8 rfl ?_
    refine j_iload_n dX10_led_9 rfl ?_
    obtain ⟨r3, hc, h⟩ := h
    refine j_cvf (lc := 3) (as := [.int a1]) dX10_led_10 iX10_ledBy vX10_ledBy kX10_279 (by decide) rfl rfl rfl rfl (Nat.zero_le _) hc ?_
    refine j_goto (tgt := 17) dX10_led_13 (by decide) ?_
    refine j_iret dX10_led_17 rfl rfl ?_
    exact ⟨by rw [h], rfl⟩
abbrev LX10_need_13 (v : Int32) (X : zX) (x1 : Int32) (x2 : Int32) (x3 : Int32) : Prop := zJ SY 2 mX10_need (zRf v X) 13 [some (.ref 0), some (.int x1), some (.int x2), some (.int x3), none, none] [] X
abbrev LX10_need_34 (v : Int32) (X : zX) (x1 : Int32) (x2 : Int32) (x3 : Int32) (x4 : Int32) : Prop := zJ SY 2 mX10_need (zRf v X) 34 [some (.ref 0), some (.int x1), some (.int x2), some (.int x3), some (.int x4), none] [] X
theorem eX10_need (v : Int32) (X : zX) (a1 : Int32) (h : ∃ r1 : Int32, zPf SY 1 mX10_isSong [.int a1] X r1 ∧ (((¬ r1 = 0) → (LX10_need_13 v X a1 0 0)) ∧ ((r1 = 0) → ((-1) = v)))) : zPf SY 2 mX10_need [.ref 0, .int a1] X v := by
  refine zP_in [some (.ref 0), some (.int a1), none, none, none, none] ⟨rfl, rfl, trivial⟩ (by decide) (Nat.le_of_ble_eq_true rfl) ?_
  refine j_iload_n dX10_need_0 rfl ?_
  obtain ⟨r1, hc, h⟩ := h
  refine j_csf (lc := 1) (as := [.int a1]) dX10_need_1 iX10_isSong sX10_isSong kX10_118 (by decide) rfl rfl (Nat.zero_le _) hc ?_
  refine j_if_ne (tgt := 9) dX10_need_4 (by decide) (fun hc2 => ?_) (fun hc2 => ?_)
  · have h := h.1 hc2
    refine j_iconst (v := 0) dX10_need_9 rfl ?_
    refine j_istore_n (L2 := [some (.ref 0), some (.int a1), some (.int 0), none, none, none]) dX10_need_10 (by decide) (zno rfl) rfl ?_
    refine j_iconst (v := 0) dX10_need_11 rfl ?_
    refine j_istore_n (L2 := [some (.ref 0), some (.int a1), some (.int 0), some (.int 0), none, none]) dX10_need_12 (by decide) (zno rfl) rfl ?_
    exact zJw h ⟨rfl, rfl, rfl, rfl, trivial⟩
  · have h := h.2 hc2
    refine j_iconst (v := (-1)) dX10_need_7 rfl ?_
    refine j_iret dX10_need_8 rfl rfl ?_
    exact ⟨by rw [h], rfl⟩
theorem bX10_need_13 (v : Int32) (X : zX) (x1 : Int32) (x2 : Int32) (x3 : Int32) (h : (((X 0 3) ≤ x3) → (x2 = v)) ∧ ((¬ ((X 0 3) ≤ x3)) → (∃ j4 : Nat, x3 = nI j4 ∧ j4 < 24 ∧ (((¬ (X 3 j4) = x1) → (LX10_need_13 v X x1 x2 (x3 + 1))) ∧ (((X 3 j4) = x1) → (LX10_need_34 v X x1 x2 x3 0)))))) : LX10_need_13 v X x1 x2 x3 := by
  refine j_iload_n dX10_need_13 rfl ?_
  refine j_aload_n dX10_need_14 rfl ?_
  refine j_getf dX10_need_15 fX10_106 rfl rfl ?_
  refine j_ic_ge (tgt := 116) dX10_need_18 (by decide) (fun hc3 => ?_) (fun hc3 => ?_)
  · have h := h.1 hc3
    refine j_iload_n dX10_need_116 rfl ?_
    refine j_iret dX10_need_117 rfl rfl ?_
    exact ⟨by rw [h], rfl⟩
  · have h := h.2 hc3
    refine j_aload_n dX10_need_21 rfl ?_
    refine j_getr dX10_need_22 fX10_16 rfl rfl ?_
    refine j_iload_n dX10_need_25 rfl ?_
    obtain ⟨j4, ej4, lj4, h⟩ := h
    refine j_iald dX10_need_26 rfl (zin ej4 lj4 (by decide)) ?_
    rw [zcl ej4 lj4 (by decide)]
    refine j_iload_n dX10_need_27 rfl ?_
    refine j_ic_ne (tgt := 110) dX10_need_28 (by decide) (fun hc5 => ?_) (fun hc5 => ?_)
    · have h := h.1 hc5
      refine j_iinc (v := (x3 + 1)) (L2 := [some (.ref 0), some (.int x1), some (.int x2), some (.int (x3 + 1)), none, none]) dX10_need_110 rfl rfl (by decide) (zno rfl) rfl ?_
      refine j_goto (tgt := 13) dX10_need_113 (by decide) ?_
      exact zJw h ⟨rfl, rfl, rfl, rfl, trivial⟩
    · have h := h.2 hc5
      refine j_iconst (v := 0) dX10_need_31 rfl ?_
      refine j_istore (L2 := [some (.ref 0), some (.int x1), some (.int x2), some (.int x3), some (.int 0), none]) dX10_need_32 (by decide) (zno rfl) rfl ?_
      exact zJw h ⟨rfl, rfl, rfl, rfl, rfl, trivial⟩
theorem bX10_need_34 (v : Int32) (X : zX) (x1 : Int32) (x2 : Int32) (x3 : Int32) (x4 : Int32) (h : (((X 0 3) ≤ x4) → (LX10_need_13 v X x1 x2 (x3 + 1))) ∧ ((¬ ((X 0 3) ≤ x4)) → (((x4 = x3) → (∃ j8 : Nat, x4 = nI j8 ∧ j8 < 24 ∧ ((((X 7 j8) = (-4)) → (LX10_need_34 v X x1 (x2 ||| 0) x3 (x4 + 1))) ∧ ((¬ ((X 7 j8) = (-4))) → (∃ j10 : Nat, x4 = nI j10 ∧ j10 < 24 ∧ (LX10_need_34 v X x1 (x2 ||| (zshl 1 (X 7 j10))) x3 (x4 + 1))))))) ∧ ((¬ (x4 = x3)) → (∃ j11 : Nat, x3 = nI j11 ∧ j11 < 24 ∧ (((¬ ((zshr (X 17 j11) x4) &&& 1) = 1) → (LX10_need_34 v X x1 (x2 ||| 0) x3 (x4 + 1))) ∧ ((((zshr (X 17 j11) x4) &&& 1) = 1) → (∃ j13 : Nat, x4 = nI j13 ∧ j13 < 24 ∧ ((((X 7 j13) = (-4)) → (LX10_need_34 v X x1 (x2 ||| 0) x3 (x4 + 1))) ∧ ((¬ ((X 7 j13) = (-4))) → (∃ j15 : Nat, x4 = nI j15 ∧ j15 < 24 ∧ (LX10_need_34 v X x1 (x2 ||| (zshl 1 (X 7 j15))) x3 (x4 + 1))))))))))))) : LX10_need_34 v X x1 x2 x3 x4 := by
  refine j_iload dX10_need_34 rfl ?_
  refine j_aload_n dX10_need_36 rfl ?_
  refine j_getf dX10_need_37 fX10_106 rfl rfl ?_
  refine j_ic_ge (tgt := 110) dX10_need_40 (by decide) (fun hc6 => ?_) (fun hc6 => ?_)
  · have h := h.1 hc6
    refine j_iinc (v := (x3 + 1)) (L2 := [some (.ref 0), some (.int x1), some (.int x2), some (.int (x3 + 1)), some (.int x4), none]) dX10_need_110 rfl rfl (by decide) (zno rfl) rfl ?_
    refine j_goto (tgt := 13) dX10_need_113 (by decide) ?_
    exact zJw h ⟨rfl, rfl, rfl, rfl, trivial⟩
  · have h := h.2 hc6
    refine j_iload dX10_need_43 rfl ?_
    refine j_iload_n dX10_need_45 rfl ?_
    refine j_ic_eq (tgt := 64) dX10_need_46 (by decide) (fun hc7 => ?_) (fun hc7 => ?_)
    · have h := h.1 hc7
      refine j_iconst (v := 1) dX10_need_64 rfl ?_
      refine j_goto (tgt := 69) dX10_need_65 (by decide) ?_
      refine j_istore (L2 := [some (.ref 0), some (.int x1), some (.int x2), some (.int x3), some (.int x4), some (.int 1)]) dX10_need_69 (by decide) (zno rfl) rfl ?_
      refine j_iload_n dX10_need_71 rfl ?_
      refine j_iload dX10_need_72 rfl ?_
      refine j_if_eq (tgt := 101) dX10_need_74 (by decide) (fun hc => absurd hc (by decide)) (fun _ => ?_)
      refine j_aload_n dX10_need_77 rfl ?_
      refine j_getr dX10_need_78 fX10_28 rfl rfl ?_
      refine j_iload dX10_need_81 rfl ?_
      obtain ⟨j8, ej8, lj8, h⟩ := h
      refine j_iald dX10_need_83 rfl (zin ej8 lj8 (by decide)) ?_
      rw [zcl ej8 lj8 (by decide)]
      refine j_bipush (v := (-4)) dX10_need_84 rfl ?_
      refine j_ic_eq (tgt := 101) dX10_need_86 (by decide) (fun hc9 => ?_) (fun hc9 => ?_)
      · have h := h.1 hc9
        refine j_iconst (v := 0) dX10_need_101 rfl ?_
        refine j_ior dX10_need_102 ?_
        refine j_istore_n (L2 := [some (.ref 0), some (.int x1), some (.int (x2 ||| 0)), some (.int x3), some (.int x4), some (.int 1)]) dX10_need_103 (by decide) (zno rfl) rfl ?_
        refine j_iinc (v := (x4 + 1)) (L2 := [some (.ref 0), some (.int x1), some (.int (x2 ||| 0)), some (.int x3), some (.int (x4 + 1)), some (.int 1)]) dX10_need_104 rfl rfl (by decide) (zno rfl) rfl ?_
        refine j_goto (tgt := 34) dX10_need_107 (by decide) ?_
        exact zJw h ⟨rfl, rfl, rfl, rfl, rfl, trivial⟩
      · have h := h.2 hc9
        refine j_iconst (v := 1) dX10_need_89 rfl ?_
        refine j_aload_n dX10_need_90 rfl ?_
        refine j_getr dX10_need_91 fX10_28 rfl rfl ?_
        refine j_iload dX10_need_94 rfl ?_
        obtain ⟨j10, ej10, lj10, h⟩ := h
        refine j_iald dX10_need_96 rfl (zin ej10 lj10 (by decide)) ?_
        rw [zcl ej10 lj10 (by decide)]
        refine j_ishl dX10_need_97 ?_
        refine j_goto (tgt := 102) dX10_need_98 (by decide) ?_
        refine j_ior dX10_need_102 ?_
        refine j_istore_n (L2 := [some (.ref 0), some (.int x1), some (.int (x2 ||| (zshl 1 (X 7 j10)))), some (.int x3), some (.int x4), some (.int 1)]) dX10_need_103 (by decide) (zno rfl) rfl ?_
        refine j_iinc (v := (x4 + 1)) (L2 := [some (.ref 0), some (.int x1), some (.int (x2 ||| (zshl 1 (X 7 j10)))), some (.int x3), some (.int (x4 + 1)), some (.int 1)]) dX10_need_104 rfl rfl (by decide) (zno rfl) rfl ?_
        refine j_goto (tgt := 34) dX10_need_107 (by decide) ?_
        exact zJw h ⟨rfl, rfl, rfl, rfl, rfl, trivial⟩
    · have h := h.2 hc7
      refine j_aload_n dX10_need_49 rfl ?_
      refine j_getr dX10_need_50 fX10_59 rfl rfl ?_
      refine j_iload_n dX10_need_53 rfl ?_
      obtain ⟨j11, ej11, lj11, h⟩ := h
      refine j_iald dX10_need_54 rfl (zin ej11 lj11 (by decide)) ?_
      rw [zcl ej11 lj11 (by decide)]
      refine j_iload dX10_need_55 rfl ?_
      refine j_ishr dX10_need_57 ?_
      refine j_iconst (v := 1) dX10_need_58 rfl ?_
      refine j_iand dX10_need_59 ?_
      refine j_iconst (v := 1) dX10_need_60 rfl ?_
      refine j_ic_ne (tgt := 68) dX10_need_61 (by decide) (fun hc12 => ?_) (fun hc12 => ?_)
      · have h := h.1 hc12
        refine j_iconst (v := 0) dX10_need_68 rfl ?_
        refine j_istore (L2 := [some (.ref 0), some (.int x1), some (.int x2), some (.int x3), some (.int x4), some (.int 0)]) dX10_need_69 (by decide) (zno rfl) rfl ?_
        refine j_iload_n dX10_need_71 rfl ?_
        refine j_iload dX10_need_72 rfl ?_
        refine j_if_eq (tgt := 101) dX10_need_74 (by decide) (fun _ => ?_) (fun hc => absurd hc (by decide))
        refine j_iconst (v := 0) dX10_need_101 rfl ?_
        refine j_ior dX10_need_102 ?_
        refine j_istore_n (L2 := [some (.ref 0), some (.int x1), some (.int (x2 ||| 0)), some (.int x3), some (.int x4), some (.int 0)]) dX10_need_103 (by decide) (zno rfl) rfl ?_
        refine j_iinc (v := (x4 + 1)) (L2 := [some (.ref 0), some (.int x1), some (.int (x2 ||| 0)), some (.int x3), some (.int (x4 + 1)), some (.int 0)]) dX10_need_104 rfl rfl (by decide) (zno rfl) rfl ?_
        refine j_goto (tgt := 34) dX10_need_107 (by decide) ?_
        exact zJw h ⟨rfl, rfl, rfl, rfl, rfl, trivial⟩
      · have h := h.2 hc12
        refine j_iconst (v := 1) dX10_need_64 rfl ?_
        refine j_goto (tgt := 69) dX10_need_65 (by decide) ?_
        refine j_istore (L2 := [some (.ref 0), some (.int x1), some (.int x2), some (.int x3), some (.int x4), some (.int 1)]) dX10_need_69 (by decide) (zno rfl) rfl ?_
        refine j_iload_n dX10_need_71 rfl ?_
        refine j_iload dX10_need_72 rfl ?_
        refine j_if_eq (tgt := 101) dX10_need_74 (by decide) (fun hc => absurd hc (by decide)) (fun _ => ?_)
        refine j_aload_n dX10_need_77 rfl ?_
        refine j_getr dX10_need_78 fX10_28 rfl rfl ?_
        refine j_iload dX10_need_81 rfl ?_
        obtain ⟨j13, ej13, lj13, h⟩ := h
        refine j_iald dX10_need_83 rfl (zin ej13 lj13 (by decide)) ?_
        rw [zcl ej13 lj13 (by decide)]
        refine j_bipush (v := (-4)) dX10_need_84 rfl ?_
        refine j_ic_eq (tgt := 101) dX10_need_86 (by decide) (fun hc14 => ?_) (fun hc14 => ?_)
        · have h := h.1 hc14
          refine j_iconst (v := 0) dX10_need_101 rfl ?_
          refine j_ior dX10_need_102 ?_
          refine j_istore_n (L2 := [some (.ref 0), some (.int x1), some (.int (x2 ||| 0)), some (.int x3), some (.int x4), some (.int 1)]) dX10_need_103 (by decide) (zno rfl) rfl ?_
          refine j_iinc (v := (x4 + 1)) (L2 := [some (.ref 0), some (.int x1), some (.int (x2 ||| 0)), some (.int x3), some (.int (x4 + 1)), some (.int 1)]) dX10_need_104 rfl rfl (by decide) (zno rfl) rfl ?_
          refine j_goto (tgt := 34) dX10_need_107 (by decide) ?_
          exact zJw h ⟨rfl, rfl, rfl, rfl, rfl, trivial⟩
        · have h := h.2 hc14
          refine j_iconst (v := 1) dX10_need_89 rfl ?_
          refine j_aload_n dX10_need_90 rfl ?_
          refine j_getr dX10_need_91 fX10_28 rfl rfl ?_
          refine j_iload dX10_need_94 rfl ?_
          obtain ⟨j15, ej15, lj15, h⟩ := h
          refine j_iald dX10_need_96 rfl (zin ej15 lj15 (by decide)) ?_
          rw [zcl ej15 lj15 (by decide)]
          refine j_ishl dX10_need_97 ?_
          refine j_goto (tgt := 102) dX10_need_98 (by decide) ?_
          refine j_ior dX10_need_102 ?_
          refine j_istore_n (L2 := [some (.ref 0), some (.int x1), some (.int (x2 ||| (zshl 1 (X 7 j15)))), some (.int x3), some (.int x4), some (.int 1)]) dX10_need_103 (by decide) (zno rfl) rfl ?_
          refine j_iinc (v := (x4 + 1)) (L2 := [some (.ref 0), some (.int x1), some (.int (x2 ||| (zshl 1 (X 7 j15)))), some (.int x3), some (.int (x4 + 1)), some (.int 1)]) dX10_need_104 rfl rfl (by decide) (zno rfl) rfl ?_
          refine j_goto (tgt := 34) dX10_need_107 (by decide) ?_
          exact zJw h ⟨rfl, rfl, rfl, rfl, rfl, trivial⟩
theorem eX10_steps (P : zX → Prop) (X : zX) (a1 : Int32) (a2 : Int32) (a3 : Int32) (a4 : Int32) (h : ∃ j1 : Nat, a2 = nI j1 ∧ j1 < 24 ∧ (((¬ (X 4 j1) = (a1 / 21)) → (P X)) ∧ (((X 4 j1) = (a1 / 21)) → ((((X 0 21) < ((a1 - a1 / 21 * 21) + a4)) → (P X)) ∧ ((¬ ((X 0 21) < ((a1 - a1 / 21 * 21) + a4))) → (∃ j4 : Nat, a3 = nI j4 ∧ j4 < 24 ∧ (∃ j5 : Nat, a3 = nI j5 ∧ j5 < 24 ∧ (∃ r6 : Int32, zPf SY 0 mX10_hasWater [.ref 0, .int (X 4 j5)] X r6 ∧ (((r6 = 0) → (∃ j8 : Nat, a1 = nI j8 ∧ j8 < 252 ∧ (∃ j9 : Nat, ((21 * (X 4 j4)) + ((a1 - a1 / 21 * 21) + a4)) = nI j9 ∧ j9 < 252 ∧ ((((X 23 j9) ≤ ((X 23 j8) + a4)) → (∃ j11 : Nat, ((21 * (X 4 j4)) + ((a1 - a1 / 21 * 21) + a4)) = nI j11 ∧ j11 < 252 ∧ (∃ j12 : Nat, ((21 * (X 4 j4)) + ((a1 - a1 / 21 * 21) + a4)) = nI j12 ∧ j12 < 252 ∧ (P (zs X 23 j12 (X 23 j11)))))) ∧ ((¬ ((X 23 j9) ≤ ((X 23 j8) + a4))) → (∃ j13 : Nat, a1 = nI j13 ∧ j13 < 252 ∧ (∃ j14 : Nat, ((21 * (X 4 j4)) + ((a1 - a1 / 21 * 21) + a4)) = nI j14 ∧ j14 < 252 ∧ (P (zs X 23 j14 ((X 23 j13) + a4)))))))))) ∧ ((¬ (r6 = 0)) → (∃ j15 : Nat, a1 = nI j15 ∧ j15 < 252 ∧ (∃ j16 : Nat, ((21 * (X 4 j4)) + 0) = nI j16 ∧ j16 < 252 ∧ ((((X 23 j16) ≤ ((X 23 j15) + a4)) → (∃ j18 : Nat, ((21 * (X 4 j4)) + 0) = nI j18 ∧ j18 < 252 ∧ (∃ j19 : Nat, ((21 * (X 4 j4)) + 0) = nI j19 ∧ j19 < 252 ∧ (P (zs X 23 j19 (X 23 j18)))))) ∧ ((¬ ((X 23 j16) ≤ ((X 23 j15) + a4))) → (∃ j20 : Nat, a1 = nI j20 ∧ j20 < 252 ∧ (∃ j21 : Nat, ((21 * (X 4 j4)) + 0) = nI j21 ∧ j21 < 252 ∧ (P (zs X 23 j21 ((X 23 j20) + a4))))))))))))))))))) : zPw SY 1 mX10_steps [.ref 0, .int a1, .int a2, .int a3, .int a4] X P := by
  refine zP_in [some (.ref 0), some (.int a1), some (.int a2), some (.int a3), some (.int a4), none, none] ⟨rfl, rfl, rfl, rfl, rfl, trivial⟩ (by decide) (Nat.le_of_ble_eq_true rfl) ?_
  refine j_iload_n dX10_steps_0 rfl ?_
  refine j_bipush (v := 21) dX10_steps_1 rfl ?_
  refine j_irem dX10_steps_3 (by decide) ?_
  refine j_iload dX10_steps_4 rfl ?_
  refine j_iadd dX10_steps_6 ?_
  refine j_istore (L2 := [some (.ref 0), some (.int a1), some (.int a2), some (.int a3), some (.int a4), some (.int ((a1 - a1 / 21 * 21) + a4)), none]) dX10_steps_7 (by decide) (zno rfl) rfl ?_
  refine j_aload_n dX10_steps_9 rfl ?_
  refine j_getr dX10_steps_10 fX10_19 rfl rfl ?_
  refine j_iload_n dX10_steps_13 rfl ?_
  obtain ⟨j1, ej1, lj1, h⟩ := h
  refine j_iald dX10_steps_14 rfl (zin ej1 lj1 (by decide)) ?_
  rw [zcl ej1 lj1 (by decide)]
  refine j_iload_n dX10_steps_15 rfl ?_
  refine j_bipush (v := 21) dX10_steps_16 rfl ?_
  refine j_idiv dX10_steps_18 (by decide) ?_
  refine j_ic_ne (tgt := 107) dX10_steps_19 (by decide) (fun hc2 => ?_) (fun hc2 => ?_)
  · have h := h.1 hc2
    refine j_vret dX10_steps_107 rfl ?_
    exact ⟨rfl, h⟩
  · have h := h.2 hc2
    refine j_iload dX10_steps_22 rfl ?_
    refine j_aload_n dX10_steps_24 rfl ?_
    refine j_getf dX10_steps_25 fX10_185 rfl rfl ?_
    refine j_ic_gt (tgt := 107) dX10_steps_28 (by decide) (fun hc3 => ?_) (fun hc3 => ?_)
    · have h := h.1 hc3
      refine j_vret dX10_steps_107 rfl ?_
      exact ⟨rfl, h⟩
    · have h := h.2 hc3
      refine j_bipush (v := 21) dX10_steps_31 rfl ?_
      refine j_aload_n dX10_steps_33 rfl ?_
      refine j_getr dX10_steps_34 fX10_19 rfl rfl ?_
      refine j_iload_n dX10_steps_37 rfl ?_
      obtain ⟨j4, ej4, lj4, h⟩ := h
      refine j_iald dX10_steps_38 rfl (zin ej4 lj4 (by decide)) ?_
      rw [zcl ej4 lj4 (by decide)]
      refine j_imul dX10_steps_39 ?_
      refine j_aload_n dX10_steps_40 rfl ?_
      refine j_aload_n dX10_steps_41 rfl ?_
      refine j_getr dX10_steps_42 fX10_19 rfl rfl ?_
      refine j_iload_n dX10_steps_45 rfl ?_
      obtain ⟨j5, ej5, lj5, h⟩ := h
      refine j_iald dX10_steps_46 rfl (zin ej5 lj5 (by decide)) ?_
      rw [zcl ej5 lj5 (by decide)]
      obtain ⟨r6, hc, h⟩ := h
      refine j_cvf (lc := 0) (as := [.int (X 4 j5)]) dX10_steps_47 iX10_hasWater vX10_hasWater kX10_158 (by decide) rfl rfl rfl rfl (by simp [Value.category]) hc ?_
      refine j_if_eq (tgt := 57) dX10_steps_50 (by decide) (fun hc7 => ?_) (fun hc7 => ?_)
      · have h := h.1 hc7
        refine j_iload dX10_steps_57 rfl ?_
        refine j_iadd dX10_steps_59 ?_
        refine j_istore (L2 := [some (.ref 0), some (.int a1), some (.int a2), some (.int a3), some (.int a4), some (.int ((a1 - a1 / 21 * 21) + a4)), some (.int ((21 * (X 4 j4)) + ((a1 - a1 / 21 * 21) + a4)))]) dX10_steps_60 (by decide) (zno rfl) rfl ?_
        refine j_aload_n dX10_steps_62 rfl ?_
        refine j_getr dX10_steps_63 fX10_77 rfl rfl ?_
        refine j_iload dX10_steps_66 rfl ?_
        refine j_aload_n dX10_steps_68 rfl ?_
        refine j_getr dX10_steps_69 fX10_77 rfl rfl ?_
        refine j_iload_n dX10_steps_72 rfl ?_
        obtain ⟨j8, ej8, lj8, h⟩ := h
        refine j_iald dX10_steps_73 rfl (zin ej8 lj8 (by decide)) ?_
        rw [zcl ej8 lj8 (by decide)]
        refine j_iload dX10_steps_74 rfl ?_
        refine j_iadd dX10_steps_76 ?_
        refine j_aload_n dX10_steps_77 rfl ?_
        refine j_getr dX10_steps_78 fX10_77 rfl rfl ?_
        refine j_iload dX10_steps_81 rfl ?_
        obtain ⟨j9, ej9, lj9, h⟩ := h
        refine j_iald dX10_steps_83 rfl (zin ej9 lj9 (by decide)) ?_
        rw [zcl ej9 lj9 (by decide)]
        refine j_ic_ge (tgt := 99) dX10_steps_84 (by decide) (fun hc10 => ?_) (fun hc10 => ?_)
        · have h := h.1 hc10
          refine j_aload_n dX10_steps_99 rfl ?_
          refine j_getr dX10_steps_100 fX10_77 rfl rfl ?_
          refine j_iload dX10_steps_103 rfl ?_
          obtain ⟨j11, ej11, lj11, h⟩ := h
          refine j_iald dX10_steps_105 rfl (zin ej11 lj11 (by decide)) ?_
          rw [zcl ej11 lj11 (by decide)]
          obtain ⟨j12, ej12, lj12, h⟩ := h
          refine j_iast dX10_steps_106 rfl (zin ej12 lj12 (by decide)) ?_
          rw [zcl ej12 lj12 (by decide)]
          refine j_vret dX10_steps_107 rfl ?_
          exact ⟨rfl, h⟩
        · have h := h.2 hc10
          refine j_aload_n dX10_steps_87 rfl ?_
          refine j_getr dX10_steps_88 fX10_77 rfl rfl ?_
          refine j_iload_n dX10_steps_91 rfl ?_
          obtain ⟨j13, ej13, lj13, h⟩ := h
          refine j_iald dX10_steps_92 rfl (zin ej13 lj13 (by decide)) ?_
          rw [zcl ej13 lj13 (by decide)]
          refine j_iload dX10_steps_93 rfl ?_
          refine j_iadd dX10_steps_95 ?_
          refine j_goto (tgt := 106) dX10_steps_96 (by decide) ?_
          obtain ⟨j14, ej14, lj14, h⟩ := h
          refine j_iast dX10_steps_106 rfl (zin ej14 lj14 (by decide)) ?_
          rw [zcl ej14 lj14 (by decide)]
          refine j_vret dX10_steps_107 rfl ?_
          exact ⟨rfl, h⟩
      · have h := h.2 hc7
        refine j_iconst (v := 0) dX10_steps_53 rfl ?_
        refine j_goto (tgt := 59) dX10_steps_54 (by decide) ?_
        refine j_iadd dX10_steps_59 ?_
        refine j_istore (L2 := [some (.ref 0), some (.int a1), some (.int a2), some (.int a3), some (.int a4), some (.int ((a1 - a1 / 21 * 21) + a4)), some (.int ((21 * (X 4 j4)) + 0))]) dX10_steps_60 (by decide) (zno rfl) rfl ?_
        refine j_aload_n dX10_steps_62 rfl ?_
        refine j_getr dX10_steps_63 fX10_77 rfl rfl ?_
        refine j_iload dX10_steps_66 rfl ?_
        refine j_aload_n dX10_steps_68 rfl ?_
        refine j_getr dX10_steps_69 fX10_77 rfl rfl ?_
        refine j_iload_n dX10_steps_72 rfl ?_
        obtain ⟨j15, ej15, lj15, h⟩ := h
        refine j_iald dX10_steps_73 rfl (zin ej15 lj15 (by decide)) ?_
        rw [zcl ej15 lj15 (by decide)]
        refine j_iload dX10_steps_74 rfl ?_
        refine j_iadd dX10_steps_76 ?_
        refine j_aload_n dX10_steps_77 rfl ?_
        refine j_getr dX10_steps_78 fX10_77 rfl rfl ?_
        refine j_iload dX10_steps_81 rfl ?_
        obtain ⟨j16, ej16, lj16, h⟩ := h
        refine j_iald dX10_steps_83 rfl (zin ej16 lj16 (by decide)) ?_
        rw [zcl ej16 lj16 (by decide)]
        refine j_ic_ge (tgt := 99) dX10_steps_84 (by decide) (fun hc17 => ?_) (fun hc17 => ?_)
        · have h := h.1 hc17
          refine j_aload_n dX10_steps_99 rfl ?_
          refine j_getr dX10_steps_100 fX10_77 rfl rfl ?_
          refine j_iload dX10_steps_103 rfl ?_
          obtain ⟨j18, ej18, lj18, h⟩ := h
          refine j_iald dX10_steps_105 rfl (zin ej18 lj18 (by decide)) ?_
          rw [zcl ej18 lj18 (by decide)]
          obtain ⟨j19, ej19, lj19, h⟩ := h
          refine j_iast dX10_steps_106 rfl (zin ej19 lj19 (by decide)) ?_
          rw [zcl ej19 lj19 (by decide)]
          refine j_vret dX10_steps_107 rfl ?_
          exact ⟨rfl, h⟩
        · have h := h.2 hc17
          refine j_aload_n dX10_steps_87 rfl ?_
          refine j_getr dX10_steps_88 fX10_77 rfl rfl ?_
          refine j_iload_n dX10_steps_91 rfl ?_
          obtain ⟨j20, ej20, lj20, h⟩ := h
          refine j_iald dX10_steps_92 rfl (zin ej20 lj20 (by decide)) ?_
          rw [zcl ej20 lj20 (by decide)]
          refine j_iload dX10_steps_93 rfl ?_
          refine j_iadd dX10_steps_95 ?_
          refine j_goto (tgt := 106) dX10_steps_96 (by decide) ?_
          obtain ⟨j21, ej21, lj21, h⟩ := h
          refine j_iast dX10_steps_106 rfl (zin ej21 lj21 (by decide)) ?_
          rw [zcl ej21 lj21 (by decide)]
          refine j_vret dX10_steps_107 rfl ?_
          exact ⟨rfl, h⟩
abbrev LX10_findWays_2 (P : zX → Prop) (M : zX) (x1 : Int32) (x2 : Int32) (x3 : Int32) : Prop := zJ SY 2 mX10_findWays (zRw P) 2 [some (.ref 0), some (.int x1), some (.int x2), some (.int x3), none, none, none] [] M
abbrev LX10_findWays_43 (P : zX → Prop) (M : zX) (x1 : Int32) (x3 : Int32) : Prop := zJ SY 2 mX10_findWays (zRw P) 43 [some (.ref 0), some (.int x1), none, some (.int x3), none, none, none] [] M
abbrev LX10_findWays_54 (P : zX → Prop) (M : zX) (x1 : Int32) (x4 : Int32) (x5 : Int32) : Prop := zJ SY 2 mX10_findWays (zRw P) 54 [some (.ref 0), some (.int x1), none, none, some (.int x4), some (.int x5), none] [] M
abbrev LX10_findWays_147 (P : zX → Prop) (M : zX) (x1 : Int32) (x3 : Int32) (x4 : Int32) (x5 : Int32) : Prop := zJ SY 2 mX10_findWays (zRw P) 147 [some (.ref 0), some (.int x1), none, some (.int x3), some (.int x4), some (.int x5), none] [] M
theorem eX10_findWays (P : zX → Prop) (X : zX) (a1 : Int32) (a2 : Int32) (h : LX10_findWays_2 P X a1 a2 0) : zPw SY 2 mX10_findWays [.ref 0, .int a1, .int a2] X P := by
  refine zP_in [some (.ref 0), some (.int a1), some (.int a2), none, none, none, none] ⟨rfl, rfl, rfl, trivial⟩ (by decide) (Nat.le_of_ble_eq_true rfl) ?_
  refine j_iconst (v := 0) dX10_findWays_0 rfl ?_
  refine j_istore_n (L2 := [some (.ref 0), some (.int a1), some (.int a2), some (.int 0), none, none, none]) dX10_findWays_1 (by decide) (zno rfl) rfl ?_
  exact zJw h ⟨rfl, rfl, rfl, rfl, trivial⟩
theorem bX10_findWays_2 (P : zX → Prop) (M : zX) (x1 : Int32) (x2 : Int32) (x3 : Int32) (h : ((252 ≤ x3) → (∃ j2 : Nat, (21 * x2) = nI j2 ∧ j2 < 252 ∧ (LX10_findWays_43 P (zs M 23 j2 0) x1 1))) ∧ ((¬ (252 ≤ x3)) → (∃ j3 : Nat, x3 = nI j3 ∧ j3 < 252 ∧ (∃ j4 : Nat, x3 = nI j4 ∧ j4 < 252 ∧ (LX10_findWays_2 P (zs (zs M 23 j3 1000000) 24 j4 (vp_nar .boolean 0)) x1 x2 (x3 + 1)))))) : LX10_findWays_2 P M x1 x2 x3 := by
  refine j_iload_n dX10_findWays_2 rfl ?_
  refine j_sipush (v := 252) dX10_findWays_3 rfl ?_
  refine j_ic_ge (tgt := 31) dX10_findWays_6 (by decide) (fun hc1 => ?_) (fun hc1 => ?_)
  · have h := h.1 hc1
    refine j_aload_n dX10_findWays_31 rfl ?_
    refine j_getr dX10_findWays_32 fX10_77 rfl rfl ?_
    refine j_bipush (v := 21) dX10_findWays_35 rfl ?_
    refine j_iload_n dX10_findWays_37 rfl ?_
    refine j_imul dX10_findWays_38 ?_
    refine j_iconst (v := 0) dX10_findWays_39 rfl ?_
    obtain ⟨j2, ej2, lj2, h⟩ := h
    refine j_iast dX10_findWays_40 rfl (zin ej2 lj2 (by decide)) ?_
    rw [zcl ej2 lj2 (by decide)]
    refine j_iconst (v := 1) dX10_findWays_41 rfl ?_
    refine j_istore_n (L2 := [some (.ref 0), some (.int x1), some (.int x2), some (.int 1), none, none, none]) dX10_findWays_42 (by decide) (zno rfl) rfl ?_
    exact zJw h ⟨rfl, rfl, rfl, trivial⟩
  · have h := h.2 hc1
    refine j_aload_n dX10_findWays_9 rfl ?_
    refine j_getr dX10_findWays_10 fX10_77 rfl rfl ?_
    refine j_iload_n dX10_findWays_13 rfl ?_
    refine j_ldc_w (v := 1000000) dX10_findWays_14 qX10_282 ?_
    obtain ⟨j3, ej3, lj3, h⟩ := h
    refine j_iast dX10_findWays_17 rfl (zin ej3 lj3 (by decide)) ?_
    rw [zcl ej3 lj3 (by decide)]
    refine j_aload_n dX10_findWays_18 rfl ?_
    refine j_getr dX10_findWays_19 fX10_80 rfl rfl ?_
    refine j_iload_n dX10_findWays_22 rfl ?_
    refine j_iconst (v := 0) dX10_findWays_23 rfl ?_
    obtain ⟨j4, ej4, lj4, h⟩ := h
    refine j_zast dX10_findWays_24 rfl (zin ej4 lj4 (by decide)) ?_
    rw [zcl ej4 lj4 (by decide)]
    refine j_iinc (v := (x3 + 1)) (L2 := [some (.ref 0), some (.int x1), some (.int x2), some (.int (x3 + 1)), none, none, none]) dX10_findWays_25 rfl rfl (by decide) (zno rfl) rfl ?_
    refine j_goto (tgt := 2) dX10_findWays_28 (by decide) ?_
    exact zJw h ⟨rfl, rfl, rfl, rfl, trivial⟩
theorem bX10_findWays_43 (P : zX → Prop) (M : zX) (x1 : Int32) (x3 : Int32) (h : ((x3 = 0) → (P M)) ∧ ((¬ (x3 = 0)) → (LX10_findWays_54 P M x1 (-4) 0))) : LX10_findWays_43 P M x1 x3 := by
  refine j_iload_n dX10_findWays_43 rfl ?_
  refine j_if_eq (tgt := 263) dX10_findWays_44 (by decide) (fun hc5 => ?_) (fun hc5 => ?_)
  · have h := h.1 hc5
    refine j_vret dX10_findWays_263 rfl ?_
    exact ⟨rfl, h⟩
  · have h := h.2 hc5
    refine j_bipush (v := (-4)) dX10_findWays_47 rfl ?_
    refine j_istore (L2 := [some (.ref 0), some (.int x1), none, some (.int x3), some (.int (-4)), none, none]) dX10_findWays_49 (by decide) (zno rfl) rfl ?_
    refine j_iconst (v := 0) dX10_findWays_51 rfl ?_
    refine j_istore (L2 := [some (.ref 0), some (.int x1), none, some (.int x3), some (.int (-4)), some (.int 0), none]) dX10_findWays_52 (by decide) (zno rfl) rfl ?_
    exact zJw h ⟨rfl, rfl, rfl, rfl, trivial⟩
theorem bX10_findWays_54 (P : zX → Prop) (M : zX) (x1 : Int32) (x4 : Int32) (x5 : Int32) (h : ((252 ≤ x5) → (((x4 = (-4)) → (LX10_findWays_43 P M x1 0)) ∧ ((¬ (x4 = (-4))) → (∃ j8 : Nat, x4 = nI j8 ∧ j8 < 252 ∧ (LX10_findWays_147 P (zs M 24 j8 (vp_nar .boolean 1)) x1 1 x4 0))))) ∧ ((¬ (252 ≤ x5)) → (∃ j9 : Nat, x5 = nI j9 ∧ j9 < 252 ∧ (((¬ (M 24 j9) = 0) → (LX10_findWays_54 P M x1 x4 (x5 + 1))) ∧ (((M 24 j9) = 0) → (∃ j11 : Nat, x5 = nI j11 ∧ j11 < 252 ∧ (((1000000 ≤ (M 23 j11)) → (LX10_findWays_54 P M x1 x4 (x5 + 1))) ∧ ((¬ (1000000 ≤ (M 23 j11))) → (((x4 = (-4)) → (LX10_findWays_54 P M x1 x5 (x5 + 1))) ∧ ((¬ (x4 = (-4))) → (∃ j14 : Nat, x5 = nI j14 ∧ j14 < 252 ∧ (∃ j15 : Nat, x4 = nI j15 ∧ j15 < 252 ∧ ((((M 23 j15) ≤ (M 23 j14)) → (LX10_findWays_54 P M x1 x4 (x5 + 1))) ∧ ((¬ ((M 23 j15) ≤ (M 23 j14))) → (LX10_findWays_54 P M x1 x5 (x5 + 1)))))))))))))))) : LX10_findWays_54 P M x1 x4 x5 := by
  refine j_iload dX10_findWays_54 rfl ?_
  refine j_sipush (v := 252) dX10_findWays_56 rfl ?_
  refine j_ic_ge (tgt := 119) dX10_findWays_59 (by decide) (fun hc6 => ?_) (fun hc6 => ?_)
  · have h := h.1 hc6
    refine j_iload dX10_findWays_119 rfl ?_
    refine j_bipush (v := (-4)) dX10_findWays_121 rfl ?_
    refine j_ic_eq (tgt := 130) dX10_findWays_123 (by decide) (fun hc7 => ?_) (fun hc7 => ?_)
    · have h := h.1 hc7
      refine j_iconst (v := 0) dX10_findWays_130 rfl ?_
      refine j_istore_n (L2 := [some (.ref 0), some (.int x1), none, some (.int 0), some (.int x4), some (.int x5), none]) dX10_findWays_131 (by decide) (zno rfl) rfl ?_
      refine j_iload_n dX10_findWays_132 rfl ?_
      refine j_if_eq (tgt := 260) dX10_findWays_133 (by decide) (fun _ => ?_) (fun hc => absurd hc (by decide))
      refine j_goto (tgt := 43) dX10_findWays_260 (by decide) ?_
      exact zJw h ⟨rfl, rfl, rfl, trivial⟩
    · have h := h.2 hc7
      refine j_iconst (v := 1) dX10_findWays_126 rfl ?_
      refine j_goto (tgt := 131) dX10_findWays_127 (by decide) ?_
      refine j_istore_n (L2 := [some (.ref 0), some (.int x1), none, some (.int 1), some (.int x4), some (.int x5), none]) dX10_findWays_131 (by decide) (zno rfl) rfl ?_
      refine j_iload_n dX10_findWays_132 rfl ?_
      refine j_if_eq (tgt := 260) dX10_findWays_133 (by decide) (fun hc => absurd hc (by decide)) (fun _ => ?_)
      refine j_aload_n dX10_findWays_136 rfl ?_
      refine j_getr dX10_findWays_137 fX10_80 rfl rfl ?_
      refine j_iload dX10_findWays_140 rfl ?_
      refine j_iconst (v := 1) dX10_findWays_142 rfl ?_
      obtain ⟨j8, ej8, lj8, h⟩ := h
      refine j_zast dX10_findWays_143 rfl (zin ej8 lj8 (by decide)) ?_
      rw [zcl ej8 lj8 (by decide)]
      refine j_iconst (v := 0) dX10_findWays_144 rfl ?_
      refine j_istore (L2 := [some (.ref 0), some (.int x1), none, some (.int 1), some (.int x4), some (.int 0), none]) dX10_findWays_145 (by decide) (zno rfl) rfl ?_
      exact zJw h ⟨rfl, rfl, rfl, rfl, rfl, trivial⟩
  · have h := h.2 hc6
    refine j_aload_n dX10_findWays_62 rfl ?_
    refine j_getr dX10_findWays_63 fX10_80 rfl rfl ?_
    refine j_iload dX10_findWays_66 rfl ?_
    obtain ⟨j9, ej9, lj9, h⟩ := h
    refine j_zald dX10_findWays_68 rfl (zin ej9 lj9 (by decide)) ?_
    rw [zcl ej9 lj9 (by decide)]
    refine j_if_ne (tgt := 113) dX10_findWays_69 (by decide) (fun hc10 => ?_) (fun hc10 => ?_)
    · have h := h.1 hc10
      refine j_iinc (v := (x5 + 1)) (L2 := [some (.ref 0), some (.int x1), none, none, some (.int x4), some (.int (x5 + 1)), none]) dX10_findWays_113 rfl rfl (by decide) (zno rfl) rfl ?_
      refine j_goto (tgt := 54) dX10_findWays_116 (by decide) ?_
      exact zJw h ⟨rfl, rfl, rfl, rfl, trivial⟩
    · have h := h.2 hc10
      refine j_aload_n dX10_findWays_72 rfl ?_
      refine j_getr dX10_findWays_73 fX10_77 rfl rfl ?_
      refine j_iload dX10_findWays_76 rfl ?_
      obtain ⟨j11, ej11, lj11, h⟩ := h
      refine j_iald dX10_findWays_78 rfl (zin ej11 lj11 (by decide)) ?_
      rw [zcl ej11 lj11 (by decide)]
      refine j_ldc_w (v := 1000000) dX10_findWays_79 qX10_282 ?_
      refine j_ic_ge (tgt := 113) dX10_findWays_82 (by decide) (fun hc12 => ?_) (fun hc12 => ?_)
      · have h := h.1 hc12
        refine j_iinc (v := (x5 + 1)) (L2 := [some (.ref 0), some (.int x1), none, none, some (.int x4), some (.int (x5 + 1)), none]) dX10_findWays_113 rfl rfl (by decide) (zno rfl) rfl ?_
        refine j_goto (tgt := 54) dX10_findWays_116 (by decide) ?_
        exact zJw h ⟨rfl, rfl, rfl, rfl, trivial⟩
      · have h := h.2 hc12
        refine j_iload dX10_findWays_85 rfl ?_
        refine j_bipush (v := (-4)) dX10_findWays_87 rfl ?_
        refine j_ic_eq (tgt := 109) dX10_findWays_89 (by decide) (fun hc13 => ?_) (fun hc13 => ?_)
        · have h := h.1 hc13
          refine j_iload dX10_findWays_109 rfl ?_
          refine j_istore (L2 := [some (.ref 0), some (.int x1), none, none, some (.int x5), some (.int x5), none]) dX10_findWays_111 (by decide) (zno rfl) rfl ?_
          refine j_iinc (v := (x5 + 1)) (L2 := [some (.ref 0), some (.int x1), none, none, some (.int x5), some (.int (x5 + 1)), none]) dX10_findWays_113 rfl rfl (by decide) (zno rfl) rfl ?_
          refine j_goto (tgt := 54) dX10_findWays_116 (by decide) ?_
          exact zJw h ⟨rfl, rfl, rfl, rfl, trivial⟩
        · have h := h.2 hc13
          refine j_aload_n dX10_findWays_92 rfl ?_
          refine j_getr dX10_findWays_93 fX10_77 rfl rfl ?_
          refine j_iload dX10_findWays_96 rfl ?_
          obtain ⟨j14, ej14, lj14, h⟩ := h
          refine j_iald dX10_findWays_98 rfl (zin ej14 lj14 (by decide)) ?_
          rw [zcl ej14 lj14 (by decide)]
          refine j_aload_n dX10_findWays_99 rfl ?_
          refine j_getr dX10_findWays_100 fX10_77 rfl rfl ?_
          refine j_iload dX10_findWays_103 rfl ?_
          obtain ⟨j15, ej15, lj15, h⟩ := h
          refine j_iald dX10_findWays_105 rfl (zin ej15 lj15 (by decide)) ?_
          rw [zcl ej15 lj15 (by decide)]
          refine j_ic_ge (tgt := 113) dX10_findWays_106 (by decide) (fun hc16 => ?_) (fun hc16 => ?_)
          · have h := h.1 hc16
            refine j_iinc (v := (x5 + 1)) (L2 := [some (.ref 0), some (.int x1), none, none, some (.int x4), some (.int (x5 + 1)), none]) dX10_findWays_113 rfl rfl (by decide) (zno rfl) rfl ?_
            refine j_goto (tgt := 54) dX10_findWays_116 (by decide) ?_
            exact zJw h ⟨rfl, rfl, rfl, rfl, trivial⟩
          · have h := h.2 hc16
            refine j_iload dX10_findWays_109 rfl ?_
            refine j_istore (L2 := [some (.ref 0), some (.int x1), none, none, some (.int x5), some (.int x5), none]) dX10_findWays_111 (by decide) (zno rfl) rfl ?_
            refine j_iinc (v := (x5 + 1)) (L2 := [some (.ref 0), some (.int x1), none, none, some (.int x5), some (.int (x5 + 1)), none]) dX10_findWays_113 rfl rfl (by decide) (zno rfl) rfl ?_
            refine j_goto (tgt := 54) dX10_findWays_116 (by decide) ?_
            exact zJw h ⟨rfl, rfl, rfl, rfl, trivial⟩
theorem bX10_findWays_147 (P : zX → Prop) (M : zX) (x1 : Int32) (x3 : Int32) (x4 : Int32) (x5 : Int32) (h : (((M 0 3) ≤ x5) → (LX10_findWays_43 P M x1 x3)) ∧ ((¬ ((M 0 3) ≤ x5)) → (∃ j18 : Nat, x5 = nI j18 ∧ j18 < 24 ∧ (((¬ (M 8 j18) = 0) → (∃ j20 : Nat, x5 = nI j20 ∧ j20 < 24 ∧ (∃ j21 : Nat, x5 = nI j21 ∧ j21 < 24 ∧ (∃ r22 : Int32, zPf SY 0 mX10_verseBy [.ref 0, .int (M 3 j20), .int ((M 8 j21) - 1)] M r22 ∧ (((r22 = (-4)) → (LX10_findWays_147 P M x1 x3 x4 (x5 + 1))) ∧ ((¬ (r22 = (-4))) → (((¬ ((zshr x1 x5) &&& 1) = 1) → (LX10_findWays_147 P M x1 x3 x4 (x5 + 1))) ∧ ((((zshr x1 x5) &&& 1) = 1) → (((¬ ((zshr x1 r22) &&& 1) = 1) → (LX10_findWays_147 P M x1 x3 x4 (x5 + 1))) ∧ ((((zshr x1 r22) &&& 1) = 1) → (∃ j26 : Nat, x5 = nI j26 ∧ j26 < 24 ∧ (∃ Qr27 : zX → Prop, zPw SY 1 mX10_steps [.ref 0, .int x4, .int x5, .int r22, .int (M 6 j26)] M Qr27 ∧ ∀ M28 : zX, Qr27 M28 → (∃ j29 : Nat, x5 = nI j29 ∧ j29 < 24 ∧ (∃ Qr30 : zX → Prop, zPw SY 1 mX10_steps [.ref 0, .int x4, .int r22, .int x5, .int (M28 6 j29)] M28 Qr30 ∧ ∀ M31 : zX, Qr30 M31 → (LX10_findWays_147 P M31 x1 x3 x4 (x5 + 1)))))))))))))))) ∧ (((M 8 j18) = 0) → (LX10_findWays_147 P M x1 x3 x4 (x5 + 1))))))) : LX10_findWays_147 P M x1 x3 x4 x5 := by
  refine j_iload dX10_findWays_147 rfl ?_
  refine j_aload_n dX10_findWays_149 rfl ?_
  refine j_getf dX10_findWays_150 fX10_106 rfl rfl ?_
  refine j_ic_ge (tgt := 260) dX10_findWays_153 (by decide) (fun hc17 => ?_) (fun hc17 => ?_)
  · have h := h.1 hc17
    refine j_goto (tgt := 43) dX10_findWays_260 (by decide) ?_
    exact zJw h ⟨rfl, rfl, rfl, trivial⟩
  · have h := h.2 hc17
    refine j_aload_n dX10_findWays_156 rfl ?_
    refine j_getr dX10_findWays_157 fX10_31 rfl rfl ?_
    refine j_iload dX10_findWays_160 rfl ?_
    obtain ⟨j18, ej18, lj18, h⟩ := h
    refine j_iald dX10_findWays_162 rfl (zin ej18 lj18 (by decide)) ?_
    rw [zcl ej18 lj18 (by decide)]
    refine j_if_ne (tgt := 171) dX10_findWays_163 (by decide) (fun hc19 => ?_) (fun hc19 => ?_)
    · have h := h.1 hc19
      refine j_aload_n dX10_findWays_171 rfl ?_
      refine j_aload_n dX10_findWays_172 rfl ?_
      refine j_getr dX10_findWays_173 fX10_16 rfl rfl ?_
      refine j_iload dX10_findWays_176 rfl ?_
      obtain ⟨j20, ej20, lj20, h⟩ := h
      refine j_iald dX10_findWays_178 rfl (zin ej20 lj20 (by decide)) ?_
      rw [zcl ej20 lj20 (by decide)]
      refine j_aload_n dX10_findWays_179 rfl ?_
      refine j_getr dX10_findWays_180 fX10_31 rfl rfl ?_
      refine j_iload dX10_findWays_183 rfl ?_
      obtain ⟨j21, ej21, lj21, h⟩ := h
      refine j_iald dX10_findWays_185 rfl (zin ej21 lj21 (by decide)) ?_
      rw [zcl ej21 lj21 (by decide)]
      refine j_iconst (v := 1) dX10_findWays_186 rfl ?_
      refine j_isub dX10_findWays_187 ?_
      obtain ⟨r22, hc, h⟩ := h
      refine j_cvf (lc := 0) (as := [.int (M 3 j20), .int ((M 8 j21) - 1)]) dX10_findWays_188 iX10_verseBy vX10_verseBy kX10_283 (by decide) rfl rfl rfl rfl (Nat.zero_le _) hc ?_
      refine j_istore (L2 := [some (.ref 0), some (.int x1), none, some (.int x3), some (.int x4), some (.int x5), some (.int r22)]) dX10_findWays_191 (by decide) (zno rfl) rfl ?_
      refine j_iload dX10_findWays_193 rfl ?_
      refine j_bipush (v := (-4)) dX10_findWays_195 rfl ?_
      refine j_ic_eq (tgt := 254) dX10_findWays_197 (by decide) (fun hc23 => ?_) (fun hc23 => ?_)
      · have h := h.1 hc23
        refine j_iinc (v := (x5 + 1)) (L2 := [some (.ref 0), some (.int x1), none, some (.int x3), some (.int x4), some (.int (x5 + 1)), some (.int r22)]) dX10_findWays_254 rfl rfl (by decide) (zno rfl) rfl ?_
        refine j_goto (tgt := 147) dX10_findWays_257 (by decide) ?_
        exact zJw h ⟨rfl, rfl, rfl, rfl, rfl, trivial⟩
      · have h := h.2 hc23
        refine j_iload_n dX10_findWays_200 rfl ?_
        refine j_iload dX10_findWays_201 rfl ?_
        refine j_ishr dX10_findWays_203 ?_
        refine j_iconst (v := 1) dX10_findWays_204 rfl ?_
        refine j_iand dX10_findWays_205 ?_
        refine j_iconst (v := 1) dX10_findWays_206 rfl ?_
        refine j_ic_ne (tgt := 254) dX10_findWays_207 (by decide) (fun hc24 => ?_) (fun hc24 => ?_)
        · have h := h.1 hc24
          refine j_iinc (v := (x5 + 1)) (L2 := [some (.ref 0), some (.int x1), none, some (.int x3), some (.int x4), some (.int (x5 + 1)), some (.int r22)]) dX10_findWays_254 rfl rfl (by decide) (zno rfl) rfl ?_
          refine j_goto (tgt := 147) dX10_findWays_257 (by decide) ?_
          exact zJw h ⟨rfl, rfl, rfl, rfl, rfl, trivial⟩
        · have h := h.2 hc24
          refine j_iload_n dX10_findWays_210 rfl ?_
          refine j_iload dX10_findWays_211 rfl ?_
          refine j_ishr dX10_findWays_213 ?_
          refine j_iconst (v := 1) dX10_findWays_214 rfl ?_
          refine j_iand dX10_findWays_215 ?_
          refine j_iconst (v := 1) dX10_findWays_216 rfl ?_
          refine j_ic_ne (tgt := 254) dX10_findWays_217 (by decide) (fun hc25 => ?_) (fun hc25 => ?_)
          · have h := h.1 hc25
            refine j_iinc (v := (x5 + 1)) (L2 := [some (.ref 0), some (.int x1), none, some (.int x3), some (.int x4), some (.int (x5 + 1)), some (.int r22)]) dX10_findWays_254 rfl rfl (by decide) (zno rfl) rfl ?_
            refine j_goto (tgt := 147) dX10_findWays_257 (by decide) ?_
            exact zJw h ⟨rfl, rfl, rfl, rfl, rfl, trivial⟩
          · have h := h.2 hc25
            refine j_aload_n dX10_findWays_220 rfl ?_
            refine j_iload dX10_findWays_221 rfl ?_
            refine j_iload dX10_findWays_223 rfl ?_
            refine j_iload dX10_findWays_225 rfl ?_
            refine j_aload_n dX10_findWays_227 rfl ?_
            refine j_getr dX10_findWays_228 fX10_25 rfl rfl ?_
            refine j_iload dX10_findWays_231 rfl ?_
            obtain ⟨j26, ej26, lj26, h⟩ := h
            refine j_iald dX10_findWays_233 rfl (zin ej26 lj26 (by decide)) ?_
            rw [zcl ej26 lj26 (by decide)]
            obtain ⟨_, hc, h⟩ := h
            refine j_cvw (lc := 1) (as := [.int x4, .int x5, .int r22, .int (M 6 j26)]) dX10_findWays_234 iX10_steps vX10_steps kX10_286 (by decide) rfl rfl rfl rfl (Nat.zero_le _) hc (fun M28 hr => ?_)
            have h := h _ hr
            refine j_aload_n dX10_findWays_237 rfl ?_
            refine j_iload dX10_findWays_238 rfl ?_
            refine j_iload dX10_findWays_240 rfl ?_
            refine j_iload dX10_findWays_242 rfl ?_
            refine j_aload_n dX10_findWays_244 rfl ?_
            refine j_getr dX10_findWays_245 fX10_25 rfl rfl ?_
            refine j_iload dX10_findWays_248 rfl ?_
            obtain ⟨j29, ej29, lj29, h⟩ := h
            refine j_iald dX10_findWays_250 rfl (zin ej29 lj29 (by decide)) ?_
            rw [zcl ej29 lj29 (by decide)]
            obtain ⟨_, hc, h⟩ := h
            refine j_cvw (lc := 1) (as := [.int x4, .int r22, .int x5, .int (M28 6 j29)]) dX10_findWays_251 iX10_steps vX10_steps kX10_286 (by decide) rfl rfl rfl rfl (Nat.zero_le _) hc (fun M31 hr => ?_)
            have h := h _ hr
            refine j_iinc (v := (x5 + 1)) (L2 := [some (.ref 0), some (.int x1), none, some (.int x3), some (.int x4), some (.int (x5 + 1)), some (.int r22)]) dX10_findWays_254 rfl rfl (by decide) (zno rfl) rfl ?_
            refine j_goto (tgt := 147) dX10_findWays_257 (by decide) ?_
            exact zJw h ⟨rfl, rfl, rfl, rfl, rfl, trivial⟩
    · have h := h.2 hc19
      refine j_bipush (v := (-4)) dX10_findWays_166 rfl ?_
      refine j_goto (tgt := 191) dX10_findWays_168 (by decide) ?_
      refine j_istore (L2 := [some (.ref 0), some (.int x1), none, some (.int x3), some (.int x4), some (.int x5), some (.int (-4))]) dX10_findWays_191 (by decide) (zno rfl) rfl ?_
      refine j_iload dX10_findWays_193 rfl ?_
      refine j_bipush (v := (-4)) dX10_findWays_195 rfl ?_
      refine j_ic_eq (tgt := 254) dX10_findWays_197 (by decide) (fun _ => ?_) (fun hc => absurd hc (by decide))
      refine j_iinc (v := (x5 + 1)) (L2 := [some (.ref 0), some (.int x1), none, some (.int x3), some (.int x4), some (.int (x5 + 1)), some (.int (-4))]) dX10_findWays_254 rfl rfl (by decide) (zno rfl) rfl ?_
      refine j_goto (tgt := 147) dX10_findWays_257 (by decide) ?_
      exact zJw h ⟨rfl, rfl, rfl, rfl, rfl, trivial⟩
abbrev LX10_fewestTo_6 (v : Int32) (X : zX) (x1 : Int32) (x2 : Int32) (x3 : Int32) : Prop := zJ SY 0 mX10_fewestTo (zRf v X) 6 [some (.ref 0), some (.int x1), some (.int x2), some (.int x3)] [] X
theorem eX10_fewestTo (v : Int32) (X : zX) (a1 : Int32) (h : LX10_fewestTo_6 v X a1 1000000 0) : zPf SY 0 mX10_fewestTo [.ref 0, .int a1] X v := by
  refine zP_in [some (.ref 0), some (.int a1), none, none] ⟨rfl, rfl, trivial⟩ (by decide) (Nat.le_of_ble_eq_true rfl) ?_
  refine j_ldc_w (v := 1000000) dX10_fewestTo_0 qX10_282 ?_
  refine j_istore_n (L2 := [some (.ref 0), some (.int a1), some (.int 1000000), none]) dX10_fewestTo_3 (by decide) (zno rfl) rfl ?_
  refine j_iconst (v := 0) dX10_fewestTo_4 rfl ?_
  refine j_istore_n (L2 := [some (.ref 0), some (.int a1), some (.int 1000000), some (.int 0)]) dX10_fewestTo_5 (by decide) (zno rfl) rfl ?_
  exact zJw h ⟨rfl, rfl, rfl, rfl, trivial⟩
theorem bX10_fewestTo_6 (v : Int32) (X : zX) (x1 : Int32) (x2 : Int32) (x3 : Int32) (h : ((21 ≤ x3) → (x2 = v)) ∧ ((¬ (21 ≤ x3)) → (∃ j2 : Nat, ((21 * x1) + x3) = nI j2 ∧ j2 < 252 ∧ (((x2 ≤ (X 23 j2)) → (LX10_fewestTo_6 v X x1 x2 (x3 + 1))) ∧ ((¬ (x2 ≤ (X 23 j2))) → (∃ j4 : Nat, ((21 * x1) + x3) = nI j4 ∧ j4 < 252 ∧ (LX10_fewestTo_6 v X x1 (X 23 j4) (x3 + 1)))))))) : LX10_fewestTo_6 v X x1 x2 x3 := by
  refine j_iload_n dX10_fewestTo_6 rfl ?_
  refine j_bipush (v := 21) dX10_fewestTo_7 rfl ?_
  refine j_ic_ge (tgt := 49) dX10_fewestTo_9 (by decide) (fun hc1 => ?_) (fun hc1 => ?_)
  · have h := h.1 hc1
    refine j_iload_n dX10_fewestTo_49 rfl ?_
    refine j_iret dX10_fewestTo_50 rfl rfl ?_
    exact ⟨by rw [h], rfl⟩
  · have h := h.2 hc1
    refine j_aload_n dX10_fewestTo_12 rfl ?_
    refine j_getr dX10_fewestTo_13 fX10_77 rfl rfl ?_
    refine j_bipush (v := 21) dX10_fewestTo_16 rfl ?_
    refine j_iload_n dX10_fewestTo_18 rfl ?_
    refine j_imul dX10_fewestTo_19 ?_
    refine j_iload_n dX10_fewestTo_20 rfl ?_
    refine j_iadd dX10_fewestTo_21 ?_
    obtain ⟨j2, ej2, lj2, h⟩ := h
    refine j_iald dX10_fewestTo_22 rfl (zin ej2 lj2 (by decide)) ?_
    rw [zcl ej2 lj2 (by decide)]
    refine j_iload_n dX10_fewestTo_23 rfl ?_
    refine j_ic_ge (tgt := 41) dX10_fewestTo_24 (by decide) (fun hc3 => ?_) (fun hc3 => ?_)
    · have h := h.1 hc3
      refine j_iload_n dX10_fewestTo_41 rfl ?_
      refine j_istore_n (L2 := [some (.ref 0), some (.int x1), some (.int x2), some (.int x3)]) dX10_fewestTo_42 (by decide) (zno rfl) rfl ?_
      refine j_iinc (v := (x3 + 1)) (L2 := [some (.ref 0), some (.int x1), some (.int x2), some (.int (x3 + 1))]) dX10_fewestTo_43 rfl rfl (by decide) (zno rfl) rfl ?_
      refine j_goto (tgt := 6) dX10_fewestTo_46 (by decide) ?_
      exact zJw h ⟨rfl, rfl, rfl, rfl, trivial⟩
    · have h := h.2 hc3
      refine j_aload_n dX10_fewestTo_27 rfl ?_
      refine j_getr dX10_fewestTo_28 fX10_77 rfl rfl ?_
      refine j_bipush (v := 21) dX10_fewestTo_31 rfl ?_
      refine j_iload_n dX10_fewestTo_33 rfl ?_
      refine j_imul dX10_fewestTo_34 ?_
      refine j_iload_n dX10_fewestTo_35 rfl ?_
      refine j_iadd dX10_fewestTo_36 ?_
      obtain ⟨j4, ej4, lj4, h⟩ := h
      refine j_iald dX10_fewestTo_37 rfl (zin ej4 lj4 (by decide)) ?_
      rw [zcl ej4 lj4 (by decide)]
      refine j_goto (tgt := 42) dX10_fewestTo_38 (by decide) ?_
      refine j_istore_n (L2 := [some (.ref 0), some (.int x1), some (.int (X 23 j4)), some (.int x3)]) dX10_fewestTo_42 (by decide) (zno rfl) rfl ?_
      refine j_iinc (v := (x3 + 1)) (L2 := [some (.ref 0), some (.int x1), some (.int (X 23 j4)), some (.int (x3 + 1))]) dX10_fewestTo_43 rfl rfl (by decide) (zno rfl) rfl ?_
      refine j_goto (tgt := 6) dX10_fewestTo_46 (by decide) ?_
      exact zJw h ⟨rfl, rfl, rfl, rfl, trivial⟩
theorem eX10_wayBy (P : Int32 → zX → Prop) (X : zX) (a1 : Int32) (a2 : Int32) (a3 : Int32) (h : ∃ Qr1 : zX → Prop, zPw SY 2 mX10_findWays [.ref 0, .int a1, .int a2] X Qr1 ∧ ∀ M2 : zX, Qr1 M2 → (∃ r3 : Int32, zPf SY 0 mX10_fewestTo [.ref 0, .int a3] M2 r3 ∧ (((¬ r3 = 1000000) → (∃ r5 : Int32, zPf SY 0 mX10_fewestTo [.ref 0, .int a3] M2 r5 ∧ (P r5 M2))) ∧ ((r3 = 1000000) → (P (-4) M2))))) : zPi SY 3 mX10_wayBy [.ref 0, .int a1, .int a2, .int a3] X P := by
  refine zP_in [some (.ref 0), some (.int a1), some (.int a2), some (.int a3)] ⟨rfl, rfl, rfl, rfl, trivial⟩ (by decide) (Nat.le_of_ble_eq_true rfl) ?_
  refine j_aload_n dX10_wayBy_0 rfl ?_
  refine j_iload_n dX10_wayBy_1 rfl ?_
  refine j_iload_n dX10_wayBy_2 rfl ?_
  obtain ⟨_, hc, h⟩ := h
  refine j_cvw (lc := 2) (as := [.int a1, .int a2]) dX10_wayBy_3 iX10_findWays vX10_findWays kX10_290 (by decide) rfl rfl rfl rfl (Nat.zero_le _) hc (fun M2 hr => ?_)
  have h := h _ hr
  refine j_aload_n dX10_wayBy_6 rfl ?_
  refine j_iload_n dX10_wayBy_7 rfl ?_
  obtain ⟨r3, hc, h⟩ := h
  refine j_cvf (lc := 0) (as := [.int a3]) dX10_wayBy_8 iX10_fewestTo vX10_fewestTo kX10_293 (by decide) rfl rfl rfl rfl (Nat.zero_le _) hc ?_
  refine j_ldc_w (v := 1000000) dX10_wayBy_11 qX10_282 ?_
  refine j_ic_ne (tgt := 22) dX10_wayBy_14 (by decide) (fun hc4 => ?_) (fun hc4 => ?_)
  · have h := h.1 hc4
    refine j_aload_n dX10_wayBy_22 rfl ?_
    refine j_iload_n dX10_wayBy_23 rfl ?_
    obtain ⟨r5, hc, h⟩ := h
    refine j_cvf (lc := 0) (as := [.int a3]) dX10_wayBy_24 iX10_fewestTo vX10_fewestTo kX10_293 (by decide) rfl rfl rfl rfl (Nat.zero_le _) hc ?_
    refine j_iret dX10_wayBy_27 rfl rfl ?_
    exact ⟨_, rfl, h⟩
  · have h := h.2 hc4
    refine j_bipush (v := (-4)) dX10_wayBy_17 rfl ?_
    refine j_goto (tgt := 27) dX10_wayBy_19 (by decide) ?_
    refine j_iret dX10_wayBy_27 rfl rfl ?_
    exact ⟨_, rfl, h⟩
theorem eX10_way (P : Int32 → zX → Prop) (X : zX) (a1 : Int32) (a2 : Int32) (a3 : Int32) (h : ∃ r1 : Int32, zPf SY 1 mX10_arePeople [.ref 0, .int a1] X r1 ∧ (((r1 = 0) → (P (-1) X)) ∧ ((¬ (r1 = 0)) → (∃ r3 : Int32, zPf SY 1 mX10_isPlace [.ref 0, .int a2] X r3 ∧ (((r3 = 0) → (P (-1) X)) ∧ ((¬ (r3 = 0)) → (∃ r5 : Int32, zPf SY 1 mX10_isPlace [.ref 0, .int a3] X r5 ∧ (((r5 = 0) → (P (-1) X)) ∧ ((¬ (r5 = 0)) → (∃ r7 : Int32, zPf SY 3 mX10_ledBy [.ref 0, .int a1] X r7 ∧ (∃ Qr8 : Int32 → zX → Prop, zPi SY 3 mX10_wayBy [.ref 0, .int r7, .int a2, .int a3] X Qr8 ∧ ∀ (r8 : Int32) (M9 : zX), Qr8 r8 M9 → (P r8 M9)))))))))))) : zPi SY 4 mX10_way [.ref 0, .int a1, .int a2, .int a3] X P := by
  refine zP_in [some (.ref 0), some (.int a1), some (.int a2), some (.int a3)] ⟨rfl, rfl, rfl, rfl, trivial⟩ (by decide) (Nat.le_of_ble_eq_true rfl) ?_
  refine j_aload_n dX10_way_0 rfl ?_
  refine j_iload_n dX10_way_1 rfl ?_
  obtain ⟨r1, hc, h⟩ := h
  refine j_cvf (lc := 1) (as := [.int a1]) dX10_way_2 iX10_arePeople vX10_arePeople kX10_276 (by decide) rfl rfl rfl rfl (Nat.zero_le _) hc ?_
  refine j_if_eq (tgt := 38) dX10_way_5 (by decide) (fun hc2 => ?_) (fun hc2 => ?_)
  · have h := h.1 hc2
    refine j_iconst (v := (-1)) dX10_way_38 rfl ?_
    refine j_iret dX10_way_39 rfl rfl ?_
    exact ⟨_, rfl, h⟩
  · have h := h.2 hc2
    refine j_aload_n dX10_way_8 rfl ?_
    refine j_iload_n dX10_way_9 rfl ?_
    obtain ⟨r3, hc, h⟩ := h
    refine j_cvf (lc := 1) (as := [.int a2]) dX10_way_10 iX10_isPlace vX10_isPlace kX10_122 (by decide) rfl rfl rfl rfl (Nat.zero_le _) hc ?_
    refine j_if_eq (tgt := 38) dX10_way_13 (by decide) (fun hc4 => ?_) (fun hc4 => ?_)
    · have h := h.1 hc4
      refine j_iconst (v := (-1)) dX10_way_38 rfl ?_
      refine j_iret dX10_way_39 rfl rfl ?_
      exact ⟨_, rfl, h⟩
    · have h := h.2 hc4
      refine j_aload_n dX10_way_16 rfl ?_
      refine j_iload_n dX10_way_17 rfl ?_
      obtain ⟨r5, hc, h⟩ := h
      refine j_cvf (lc := 1) (as := [.int a3]) dX10_way_18 iX10_isPlace vX10_isPlace kX10_122 (by decide) rfl rfl rfl rfl (Nat.zero_le _) hc ?_
      refine j_if_eq (tgt := 38) dX10_way_21 (by decide) (fun hc6 => ?_) (fun hc6 => ?_)
      · have h := h.1 hc6
        refine j_iconst (v := (-1)) dX10_way_38 rfl ?_
        refine j_iret dX10_way_39 rfl rfl ?_
        exact ⟨_, rfl, h⟩
      · have h := h.2 hc6
        refine j_aload_n dX10_way_24 rfl ?_
        refine j_aload_n dX10_way_25 rfl ?_
        refine j_iload_n dX10_way_26 rfl ?_
        obtain ⟨r7, hc, h⟩ := h
        refine j_cvf (lc := 3) (as := [.int a1]) dX10_way_27 iX10_ledBy vX10_ledBy kX10_279 (by decide) rfl rfl rfl rfl (by simp [Value.category]) hc ?_
        refine j_iload_n dX10_way_30 rfl ?_
        refine j_iload_n dX10_way_31 rfl ?_
        obtain ⟨_, hc, h⟩ := h
        refine j_cvi (lc := 3) (as := [.int r7, .int a2, .int a3]) dX10_way_32 iX10_wayBy vX10_wayBy kX10_296 (by decide) rfl rfl rfl rfl (Nat.zero_le _) hc (fun r8 M9 hr => ?_)
        have h := h _ _ hr
        refine j_goto (tgt := 39) dX10_way_35 (by decide) ?_
        refine j_iret dX10_way_39 rfl rfl ?_
        exact ⟨_, rfl, h⟩
abbrev LX10_wanting_52 (P : Int32 → zX → Prop) (M : zX) (x2 : Int32) (x3 : Int32) (x4 : Int32) (x5 : Int32) : Prop := zJ SY 4 mX10_wanting (zRi P) 52 [some (.ref 0), none, some (.int x2), some (.int x3), some (.int x4), some (.int x5)] [] M
theorem eX10_wanting (P : Int32 → zX → Prop) (X : zX) (a1 : Int32) (a2 : Int32) (a3 : Int32) (h : ∃ r1 : Int32, zPf SY 1 mX10_arePeople [.ref 0, .int a1] X r1 ∧ (((r1 = 0) → (P (-1) X)) ∧ ((¬ (r1 = 0)) → (∃ r3 : Int32, zPf SY 1 mX10_isPlace [.ref 0, .int a2] X r3 ∧ (((r3 = 0) → (P (-1) X)) ∧ ((¬ (r3 = 0)) → (∃ r5 : Int32, zPf SY 1 mX10_isPlace [.ref 0, .int a3] X r5 ∧ (((¬ r5 = 0) → (∃ r7 : Int32, zPf SY 3 mX10_ledBy [.ref 0, .int a1] X r7 ∧ (∃ Qr8 : Int32 → zX → Prop, zPi SY 3 mX10_wayBy [.ref 0, .int r7, .int a2, .int a3] X Qr8 ∧ ∀ (r8 : Int32) (M9 : zX), Qr8 r8 M9 → (((r8 = (-4)) → (LX10_wanting_52 P M9 a2 a3 r7 0)) ∧ ((¬ (r8 = (-4))) → (P (-2) M9)))))) ∧ ((r5 = 0) → (P (-1) X)))))))))) : zPi SY 4 mX10_wanting [.ref 0, .int a1, .int a2, .int a3] X P := by
  refine zP_in [some (.ref 0), some (.int a1), some (.int a2), some (.int a3), none, none] ⟨rfl, rfl, rfl, rfl, trivial⟩ (by decide) (Nat.le_of_ble_eq_true rfl) ?_
  refine j_aload_n dX10_wanting_0 rfl ?_
  refine j_iload_n dX10_wanting_1 rfl ?_
  obtain ⟨r1, hc, h⟩ := h
  refine j_cvf (lc := 1) (as := [.int a1]) dX10_wanting_2 iX10_arePeople vX10_arePeople kX10_276 (by decide) rfl rfl rfl rfl (Nat.zero_le _) hc ?_
  refine j_if_eq (tgt := 24) dX10_wanting_5 (by decide) (fun hc2 => ?_) (fun hc2 => ?_)
  · have h := h.1 hc2
    refine j_iconst (v := (-1)) dX10_wanting_24 rfl ?_
    refine j_iret dX10_wanting_25 rfl rfl ?_
    exact ⟨_, rfl, h⟩
  · have h := h.2 hc2
    refine j_aload_n dX10_wanting_8 rfl ?_
    refine j_iload_n dX10_wanting_9 rfl ?_
    obtain ⟨r3, hc, h⟩ := h
    refine j_cvf (lc := 1) (as := [.int a2]) dX10_wanting_10 iX10_isPlace vX10_isPlace kX10_122 (by decide) rfl rfl rfl rfl (Nat.zero_le _) hc ?_
    refine j_if_eq (tgt := 24) dX10_wanting_13 (by decide) (fun hc4 => ?_) (fun hc4 => ?_)
    · have h := h.1 hc4
      refine j_iconst (v := (-1)) dX10_wanting_24 rfl ?_
      refine j_iret dX10_wanting_25 rfl rfl ?_
      exact ⟨_, rfl, h⟩
    · have h := h.2 hc4
      refine j_aload_n dX10_wanting_16 rfl ?_
      refine j_iload_n dX10_wanting_17 rfl ?_
      obtain ⟨r5, hc, h⟩ := h
      refine j_cvf (lc := 1) (as := [.int a3]) dX10_wanting_18 iX10_isPlace vX10_isPlace kX10_122 (by decide) rfl rfl rfl rfl (Nat.zero_le _) hc ?_
      refine j_if_ne (tgt := 26) dX10_wanting_21 (by decide) (fun hc6 => ?_) (fun hc6 => ?_)
      · have h := h.1 hc6
        refine j_aload_n dX10_wanting_26 rfl ?_
        refine j_iload_n dX10_wanting_27 rfl ?_
        obtain ⟨r7, hc, h⟩ := h
        refine j_cvf (lc := 3) (as := [.int a1]) dX10_wanting_28 iX10_ledBy vX10_ledBy kX10_279 (by decide) rfl rfl rfl rfl (Nat.zero_le _) hc ?_
        refine j_istore (L2 := [some (.ref 0), some (.int a1), some (.int a2), some (.int a3), some (.int r7), none]) dX10_wanting_31 (by decide) (zno rfl) rfl ?_
        refine j_aload_n dX10_wanting_33 rfl ?_
        refine j_iload dX10_wanting_34 rfl ?_
        refine j_iload_n dX10_wanting_36 rfl ?_
        refine j_iload_n dX10_wanting_37 rfl ?_
        obtain ⟨_, hc, h⟩ := h
        refine j_cvi (lc := 3) (as := [.int r7, .int a2, .int a3]) dX10_wanting_38 iX10_wayBy vX10_wayBy kX10_296 (by decide) rfl rfl rfl rfl (Nat.zero_le _) hc (fun r8 M9 hr => ?_)
        have h := h _ _ hr
        refine j_bipush (v := (-4)) dX10_wanting_41 rfl ?_
        refine j_ic_eq (tgt := 49) dX10_wanting_43 (by decide) (fun hc10 => ?_) (fun hc10 => ?_)
        · have h := h.1 hc10
          refine j_iconst (v := 0) dX10_wanting_49 rfl ?_
          refine j_istore (L2 := [some (.ref 0), some (.int a1), some (.int a2), some (.int a3), some (.int r7), some (.int 0)]) dX10_wanting_50 (by decide) (zno rfl) rfl ?_
          exact zJw h ⟨rfl, rfl, rfl, rfl, rfl, trivial⟩
        · have h := h.2 hc10
          refine j_bipush (v := (-2)) dX10_wanting_46 rfl ?_
          refine j_iret dX10_wanting_48 rfl rfl ?_
          exact ⟨_, rfl, h⟩
      · have h := h.2 hc6
        refine j_iconst (v := (-1)) dX10_wanting_24 rfl ?_
        refine j_iret dX10_wanting_25 rfl rfl ?_
        exact ⟨_, rfl, h⟩
theorem bX10_wanting_52 (P : Int32 → zX → Prop) (M : zX) (x2 : Int32) (x3 : Int32) (x4 : Int32) (x5 : Int32) (h : (((M 0 3) ≤ x5) → (P (-4) M)) ∧ ((¬ ((M 0 3) ≤ x5)) → (((¬ ((zshr x4 x5) &&& 1) = 0) → (LX10_wanting_52 P M x2 x3 x4 (x5 + 1))) ∧ ((((zshr x4 x5) &&& 1) = 0) → (∃ Qr13 : Int32 → zX → Prop, zPi SY 3 mX10_wayBy [.ref 0, .int (x4 ||| (zshl 1 x5)), .int x2, .int x3] M Qr13 ∧ ∀ (r13 : Int32) (M14 : zX), Qr13 r13 M14 → (((r13 = (-4)) → (LX10_wanting_52 P M14 x2 x3 x4 (x5 + 1))) ∧ ((¬ (r13 = (-4))) → (P x5 M14)))))))) : LX10_wanting_52 P M x2 x3 x4 x5 := by
  refine j_iload dX10_wanting_52 rfl ?_
  refine j_aload_n dX10_wanting_54 rfl ?_
  refine j_getf dX10_wanting_55 fX10_106 rfl rfl ?_
  refine j_ic_ge (tgt := 98) dX10_wanting_58 (by decide) (fun hc11 => ?_) (fun hc11 => ?_)
  · have h := h.1 hc11
    refine j_bipush (v := (-4)) dX10_wanting_98 rfl ?_
    refine j_iret dX10_wanting_100 rfl rfl ?_
    exact ⟨_, rfl, h⟩
  · have h := h.2 hc11
    refine j_iload dX10_wanting_61 rfl ?_
    refine j_iload dX10_wanting_63 rfl ?_
    refine j_ishr dX10_wanting_65 ?_
    refine j_iconst (v := 1) dX10_wanting_66 rfl ?_
    refine j_iand dX10_wanting_67 ?_
    refine j_if_ne (tgt := 92) dX10_wanting_68 (by decide) (fun hc12 => ?_) (fun hc12 => ?_)
    · have h := h.1 hc12
      refine j_iinc (v := (x5 + 1)) (L2 := [some (.ref 0), none, some (.int x2), some (.int x3), some (.int x4), some (.int (x5 + 1))]) dX10_wanting_92 rfl rfl (by decide) (zno rfl) rfl ?_
      refine j_goto (tgt := 52) dX10_wanting_95 (by decide) ?_
      exact zJw h ⟨rfl, rfl, rfl, rfl, rfl, trivial⟩
    · have h := h.2 hc12
      refine j_aload_n dX10_wanting_71 rfl ?_
      refine j_iload dX10_wanting_72 rfl ?_
      refine j_iconst (v := 1) dX10_wanting_74 rfl ?_
      refine j_iload dX10_wanting_75 rfl ?_
      refine j_ishl dX10_wanting_77 ?_
      refine j_ior dX10_wanting_78 ?_
      refine j_iload_n dX10_wanting_79 rfl ?_
      refine j_iload_n dX10_wanting_80 rfl ?_
      obtain ⟨_, hc, h⟩ := h
      refine j_cvi (lc := 3) (as := [.int (x4 ||| (zshl 1 x5)), .int x2, .int x3]) dX10_wanting_81 iX10_wayBy vX10_wayBy kX10_296 (by decide) rfl rfl rfl rfl (Nat.zero_le _) hc (fun r13 M14 hr => ?_)
      have h := h _ _ hr
      refine j_bipush (v := (-4)) dX10_wanting_84 rfl ?_
      refine j_ic_eq (tgt := 92) dX10_wanting_86 (by decide) (fun hc15 => ?_) (fun hc15 => ?_)
      · have h := h.1 hc15
        refine j_iinc (v := (x5 + 1)) (L2 := [some (.ref 0), none, some (.int x2), some (.int x3), some (.int x4), some (.int (x5 + 1))]) dX10_wanting_92 rfl rfl (by decide) (zno rfl) rfl ?_
        refine j_goto (tgt := 52) dX10_wanting_95 (by decide) ?_
        exact zJw h ⟨rfl, rfl, rfl, rfl, rfl, trivial⟩
      · have h := h.2 hc15
        refine j_iload dX10_wanting_89 rfl ?_
        refine j_iret dX10_wanting_91 rfl rfl ?_
        exact ⟨_, rfl, h⟩
abbrev LX10_reach_33 (P : Int32 → zX → Prop) (M : zX) (x3 : Int32) (x4 : Int32) : Prop := zJ SY 4 mX10_reach (zRi P) 33 [some (.ref 0), none, none, some (.int x3), some (.int x4)] [] M
theorem eX10_reach (P : Int32 → zX → Prop) (X : zX) (a1 : Int32) (a2 : Int32) (h : ∃ r1 : Int32, zPf SY 1 mX10_arePeople [.ref 0, .int a1] X r1 ∧ (((r1 = 0) → (P (-1) X)) ∧ ((¬ (r1 = 0)) → (∃ r3 : Int32, zPf SY 1 mX10_isPlace [.ref 0, .int a2] X r3 ∧ (((¬ r3 = 0) → (∃ r5 : Int32, zPf SY 3 mX10_ledBy [.ref 0, .int a1] X r5 ∧ (∃ Qr6 : zX → Prop, zPw SY 2 mX10_findWays [.ref 0, .int r5, .int a2] X Qr6 ∧ ∀ M7 : zX, Qr6 M7 → (LX10_reach_33 P M7 0 0)))) ∧ ((r3 = 0) → (P (-1) X))))))) : zPi SY 4 mX10_reach [.ref 0, .int a1, .int a2] X P := by
  refine zP_in [some (.ref 0), some (.int a1), some (.int a2), none, none] ⟨rfl, rfl, rfl, trivial⟩ (by decide) (Nat.le_of_ble_eq_true rfl) ?_
  refine j_aload_n dX10_reach_0 rfl ?_
  refine j_iload_n dX10_reach_1 rfl ?_
  obtain ⟨r1, hc, h⟩ := h
  refine j_cvf (lc := 1) (as := [.int a1]) dX10_reach_2 iX10_arePeople vX10_arePeople kX10_276 (by decide) rfl rfl rfl rfl (Nat.zero_le _) hc ?_
  refine j_if_eq (tgt := 16) dX10_reach_5 (by decide) (fun hc2 => ?_) (fun hc2 => ?_)
  · have h := h.1 hc2
    refine j_iconst (v := (-1)) dX10_reach_16 rfl ?_
    refine j_iret dX10_reach_17 rfl rfl ?_
    exact ⟨_, rfl, h⟩
  · have h := h.2 hc2
    refine j_aload_n dX10_reach_8 rfl ?_
    refine j_iload_n dX10_reach_9 rfl ?_
    obtain ⟨r3, hc, h⟩ := h
    refine j_cvf (lc := 1) (as := [.int a2]) dX10_reach_10 iX10_isPlace vX10_isPlace kX10_122 (by decide) rfl rfl rfl rfl (Nat.zero_le _) hc ?_
    refine j_if_ne (tgt := 18) dX10_reach_13 (by decide) (fun hc4 => ?_) (fun hc4 => ?_)
    · have h := h.1 hc4
      refine j_aload_n dX10_reach_18 rfl ?_
      refine j_aload_n dX10_reach_19 rfl ?_
      refine j_iload_n dX10_reach_20 rfl ?_
      obtain ⟨r5, hc, h⟩ := h
      refine j_cvf (lc := 3) (as := [.int a1]) dX10_reach_21 iX10_ledBy vX10_ledBy kX10_279 (by decide) rfl rfl rfl rfl (by simp [Value.category]) hc ?_
      refine j_iload_n dX10_reach_24 rfl ?_
      obtain ⟨_, hc, h⟩ := h
      refine j_cvw (lc := 2) (as := [.int r5, .int a2]) dX10_reach_25 iX10_findWays vX10_findWays kX10_290 (by decide) rfl rfl rfl rfl (Nat.zero_le _) hc (fun M7 hr => ?_)
      have h := h _ hr
      refine j_iconst (v := 0) dX10_reach_28 rfl ?_
      refine j_istore_n (L2 := [some (.ref 0), some (.int a1), some (.int a2), some (.int 0), none]) dX10_reach_29 (by decide) (zno rfl) rfl ?_
      refine j_iconst (v := 0) dX10_reach_30 rfl ?_
      refine j_istore (L2 := [some (.ref 0), some (.int a1), some (.int a2), some (.int 0), some (.int 0)]) dX10_reach_31 (by decide) (zno rfl) rfl ?_
      exact zJw h ⟨rfl, rfl, rfl, trivial⟩
    · have h := h.2 hc4
      refine j_iconst (v := (-1)) dX10_reach_16 rfl ?_
      refine j_iret dX10_reach_17 rfl rfl ?_
      exact ⟨_, rfl, h⟩
theorem bX10_reach_33 (P : Int32 → zX → Prop) (M : zX) (x3 : Int32) (x4 : Int32) (h : (((M 0 0) ≤ x4) → (P x3 M)) ∧ ((¬ ((M 0 0) ≤ x4)) → (∃ r9 : Int32, zPf SY 0 mX10_fewestTo [.ref 0, .int x4] M r9 ∧ (((1000000 ≤ r9) → (LX10_reach_33 P M (x3 ||| 0) (x4 + 1))) ∧ ((¬ (1000000 ≤ r9)) → (LX10_reach_33 P M (x3 ||| (zshl 1 x4)) (x4 + 1))))))) : LX10_reach_33 P M x3 x4 := by
  refine j_iload dX10_reach_33 rfl ?_
  refine j_aload_n dX10_reach_35 rfl ?_
  refine j_getf dX10_reach_36 fX10_98 rfl rfl ?_
  refine j_ic_ge (tgt := 71) dX10_reach_39 (by decide) (fun hc8 => ?_) (fun hc8 => ?_)
  · have h := h.1 hc8
    refine j_iload_n dX10_reach_71 rfl ?_
    refine j_iret dX10_reach_72 rfl rfl ?_
    exact ⟨_, rfl, h⟩
  · have h := h.2 hc8
    refine j_iload_n dX10_reach_42 rfl ?_
    refine j_aload_n dX10_reach_43 rfl ?_
    refine j_iload dX10_reach_44 rfl ?_
    obtain ⟨r9, hc, h⟩ := h
    refine j_cvf (lc := 0) (as := [.int x4]) dX10_reach_46 iX10_fewestTo vX10_fewestTo kX10_293 (by decide) rfl rfl rfl rfl (by simp [Value.category]) hc ?_
    refine j_ldc_w (v := 1000000) dX10_reach_49 qX10_282 ?_
    refine j_ic_ge (tgt := 62) dX10_reach_52 (by decide) (fun hc10 => ?_) (fun hc10 => ?_)
    · have h := h.1 hc10
      refine j_iconst (v := 0) dX10_reach_62 rfl ?_
      refine j_ior dX10_reach_63 ?_
      refine j_istore_n (L2 := [some (.ref 0), none, none, some (.int (x3 ||| 0)), some (.int x4)]) dX10_reach_64 (by decide) (zno rfl) rfl ?_
      refine j_iinc (v := (x4 + 1)) (L2 := [some (.ref 0), none, none, some (.int (x3 ||| 0)), some (.int (x4 + 1))]) dX10_reach_65 rfl rfl (by decide) (zno rfl) rfl ?_
      refine j_goto (tgt := 33) dX10_reach_68 (by decide) ?_
      exact zJw h ⟨rfl, rfl, rfl, trivial⟩
    · have h := h.2 hc10
      refine j_iconst (v := 1) dX10_reach_55 rfl ?_
      refine j_iload dX10_reach_56 rfl ?_
      refine j_ishl dX10_reach_58 ?_
      refine j_goto (tgt := 63) dX10_reach_59 (by decide) ?_
      refine j_ior dX10_reach_63 ?_
      refine j_istore_n (L2 := [some (.ref 0), none, none, some (.int (x3 ||| (zshl 1 x4))), some (.int x4)]) dX10_reach_64 (by decide) (zno rfl) rfl ?_
      refine j_iinc (v := (x4 + 1)) (L2 := [some (.ref 0), none, none, some (.int (x3 ||| (zshl 1 x4))), some (.int (x4 + 1))]) dX10_reach_65 rfl rfl (by decide) (zno rfl) rfl ?_
      refine j_goto (tgt := 33) dX10_reach_68 (by decide) ?_
      exact zJw h ⟨rfl, rfl, rfl, trivial⟩
abbrev LX10_party_39 (P : Int32 → zX → Prop) (M : zX) (x1 : Int32) (x2 : Int32) (x3 : Int32) (x4 : Int32) (x5 : Int32) (x6 : Int32) : Prop := zJ SY 4 mX10_party (zRi P) 39 [some (.ref 0), some (.int x1), some (.int x2), some (.int x3), some (.int x4), some (.int x5), some (.int x6), none] [] M
theorem eX10_party (P : Int32 → zX → Prop) (X : zX) (a1 : Int32) (a2 : Int32) (a3 : Int32) (h : ∃ r1 : Int32, zPf SY 1 mX10_isPlace [.ref 0, .int a1] X r1 ∧ (((r1 = 0) → (P (-1) X)) ∧ ((¬ (r1 = 0)) → (∃ r3 : Int32, zPf SY 1 mX10_isPlace [.ref 0, .int a2] X r3 ∧ (((r3 = 0) → (P (-1) X)) ∧ ((¬ (r3 = 0)) → (∃ r5 : Int32, zPf SY 0 mX10_in [.long a3.toInt64, .long 0, .long 1] X r5 ∧ (((¬ r5 = 0) → (LX10_party_39 P X a1 a2 a3 (-4) (-4) 0)) ∧ ((r5 = 0) → (P (-1) X)))))))))) : zPi SY 4 mX10_party [.ref 0, .int a1, .int a2, .int a3] X P := by
  refine zP_in [some (.ref 0), some (.int a1), some (.int a2), some (.int a3), none, none, none, none] ⟨rfl, rfl, rfl, rfl, trivial⟩ (by decide) (Nat.le_of_ble_eq_true rfl) ?_
  refine j_aload_n dX10_party_0 rfl ?_
  refine j_iload_n dX10_party_1 rfl ?_
  obtain ⟨r1, hc, h⟩ := h
  refine j_cvf (lc := 1) (as := [.int a1]) dX10_party_2 iX10_isPlace vX10_isPlace kX10_122 (by decide) rfl rfl rfl rfl (Nat.zero_le _) hc ?_
  refine j_if_eq (tgt := 26) dX10_party_5 (by decide) (fun hc2 => ?_) (fun hc2 => ?_)
  · have h := h.1 hc2
    refine j_iconst (v := (-1)) dX10_party_26 rfl ?_
    refine j_iret dX10_party_27 rfl rfl ?_
    exact ⟨_, rfl, h⟩
  · have h := h.2 hc2
    refine j_aload_n dX10_party_8 rfl ?_
    refine j_iload_n dX10_party_9 rfl ?_
    obtain ⟨r3, hc, h⟩ := h
    refine j_cvf (lc := 1) (as := [.int a2]) dX10_party_10 iX10_isPlace vX10_isPlace kX10_122 (by decide) rfl rfl rfl rfl (Nat.zero_le _) hc ?_
    refine j_if_eq (tgt := 26) dX10_party_13 (by decide) (fun hc4 => ?_) (fun hc4 => ?_)
    · have h := h.1 hc4
      refine j_iconst (v := (-1)) dX10_party_26 rfl ?_
      refine j_iret dX10_party_27 rfl rfl ?_
      exact ⟨_, rfl, h⟩
    · have h := h.2 hc4
      refine j_iload_n dX10_party_16 rfl ?_
      refine j_i2l dX10_party_17 ?_
      refine j_lconst (v := 0) dX10_party_18 rfl ?_
      refine j_lconst (v := 1) dX10_party_19 rfl ?_
      obtain ⟨r5, hc, h⟩ := h
      refine j_csf (lc := 0) (as := [.long a3.toInt64, .long 0, .long 1]) dX10_party_20 iX10_in sX10_in kX10_102 (by decide) rfl rfl (Nat.zero_le _) hc ?_
      refine j_if_ne (tgt := 28) dX10_party_23 (by decide) (fun hc6 => ?_) (fun hc6 => ?_)
      · have h := h.1 hc6
        refine j_bipush (v := (-4)) dX10_party_28 rfl ?_
        refine j_istore (L2 := [some (.ref 0), some (.int a1), some (.int a2), some (.int a3), some (.int (-4)), none, none, none]) dX10_party_30 (by decide) (zno rfl) rfl ?_
        refine j_bipush (v := (-4)) dX10_party_32 rfl ?_
        refine j_istore (L2 := [some (.ref 0), some (.int a1), some (.int a2), some (.int a3), some (.int (-4)), some (.int (-4)), none, none]) dX10_party_34 (by decide) (zno rfl) rfl ?_
        refine j_iconst (v := 0) dX10_party_36 rfl ?_
        refine j_istore (L2 := [some (.ref 0), some (.int a1), some (.int a2), some (.int a3), some (.int (-4)), some (.int (-4)), some (.int 0), none]) dX10_party_37 (by decide) (zno rfl) rfl ?_
        exact zJw h ⟨rfl, rfl, rfl, rfl, rfl, rfl, rfl, trivial⟩
      · have h := h.2 hc6
        refine j_iconst (v := (-1)) dX10_party_26 rfl ?_
        refine j_iret dX10_party_27 rfl rfl ?_
        exact ⟨_, rfl, h⟩
theorem bX10_party_39 (P : Int32 → zX → Prop) (M : zX) (x1 : Int32) (x2 : Int32) (x3 : Int32) (x4 : Int32) (x5 : Int32) (x6 : Int32) (h : (((zshl 1 (M 0 10)) ≤ x6) → (((¬ x3 = 0) → (P x5 M)) ∧ ((x3 = 0) → (P x4 M)))) ∧ ((¬ ((zshl 1 (M 0 10)) ≤ x6)) → (((x4 = (-4)) → (∃ r10 : Int32, zPf SY 3 mX10_ledBy [.ref 0, .int x6] M r10 ∧ (∃ Qr11 : Int32 → zX → Prop, zPi SY 3 mX10_wayBy [.ref 0, .int r10, .int x1, .int x2] M Qr11 ∧ ∀ (r11 : Int32) (M12 : zX), Qr11 r11 M12 → (((¬ r11 = (-4)) → (LX10_party_39 P M12 x1 x2 x3 x6 r11 (x6 + 1))) ∧ ((r11 = (-4)) → (LX10_party_39 P M12 x1 x2 x3 x4 x5 (x6 + 1))))))) ∧ ((¬ (x4 = (-4))) → (∃ r14 : Int32, zPf SY 0 mX10_countOf [.int x6] M r14 ∧ (∃ r15 : Int32, zPf SY 0 mX10_countOf [.int x4] M r15 ∧ (((r15 ≤ r14) → (LX10_party_39 P M x1 x2 x3 x4 x5 (x6 + 1))) ∧ ((¬ (r15 ≤ r14)) → (∃ r17 : Int32, zPf SY 3 mX10_ledBy [.ref 0, .int x6] M r17 ∧ (∃ Qr18 : Int32 → zX → Prop, zPi SY 3 mX10_wayBy [.ref 0, .int r17, .int x1, .int x2] M Qr18 ∧ ∀ (r18 : Int32) (M19 : zX), Qr18 r18 M19 → (((¬ r18 = (-4)) → (LX10_party_39 P M19 x1 x2 x3 x6 r18 (x6 + 1))) ∧ ((r18 = (-4)) → (LX10_party_39 P M19 x1 x2 x3 x4 x5 (x6 + 1)))))))))))))) : LX10_party_39 P M x1 x2 x3 x4 x5 x6 := by
  refine j_iload dX10_party_39 rfl ?_
  refine j_iconst (v := 1) dX10_party_41 rfl ?_
  refine j_aload_n dX10_party_42 rfl ?_
  refine j_getf dX10_party_43 fX10_109 rfl rfl ?_
  refine j_ishl dX10_party_46 ?_
  refine j_ic_ge (tgt := 122) dX10_party_47 (by decide) (fun hc7 => ?_) (fun hc7 => ?_)
  · have h := h.1 hc7
    refine j_iload_n dX10_party_122 rfl ?_
    refine j_if_ne (tgt := 131) dX10_party_123 (by decide) (fun hc8 => ?_) (fun hc8 => ?_)
    · have h := h.1 hc8
      refine j_iload dX10_party_131 rfl ?_
      refine j_iret dX10_party_133 rfl rfl ?_
      exact ⟨_, rfl, h⟩
    · have h := h.2 hc8
      refine j_iload dX10_party_126 rfl ?_
      refine j_goto (tgt := 133) dX10_party_128 (by decide) ?_
      refine j_iret dX10_party_133 rfl rfl ?_
      exact ⟨_, rfl, h⟩
  · have h := h.2 hc7
    refine j_iload dX10_party_50 rfl ?_
    refine j_bipush (v := (-4)) dX10_party_52 rfl ?_
    refine j_ic_eq (tgt := 70) dX10_party_54 (by decide) (fun hc9 => ?_) (fun hc9 => ?_)
    · have h := h.1 hc9
      refine j_aload_n dX10_party_70 rfl ?_
      refine j_aload_n dX10_party_71 rfl ?_
      refine j_iload dX10_party_72 rfl ?_
      obtain ⟨r10, hc, h⟩ := h
      refine j_cvf (lc := 3) (as := [.int x6]) dX10_party_74 iX10_ledBy vX10_ledBy kX10_279 (by decide) rfl rfl rfl rfl (by simp [Value.category]) hc ?_
      refine j_iload_n dX10_party_77 rfl ?_
      refine j_iload_n dX10_party_78 rfl ?_
      obtain ⟨_, hc, h⟩ := h
      refine j_cvi (lc := 3) (as := [.int r10, .int x1, .int x2]) dX10_party_79 iX10_wayBy vX10_wayBy kX10_296 (by decide) rfl rfl rfl rfl (Nat.zero_le _) hc (fun r11 M12 hr => ?_)
      have h := h _ _ hr
      refine j_istore (L2 := [some (.ref 0), some (.int x1), some (.int x2), some (.int x3), some (.int x4), some (.int x5), some (.int x6), some (.int r11)]) dX10_party_82 (by decide) (zno rfl) rfl ?_
      refine j_iload dX10_party_84 rfl ?_
      refine j_bipush (v := (-4)) dX10_party_86 rfl ?_
      refine j_ic_ne (tgt := 96) dX10_party_88 (by decide) (fun hc13 => ?_) (fun hc13 => ?_)
      · have h := h.1 hc13
        refine j_iload dX10_party_96 rfl ?_
        refine j_istore (L2 := [some (.ref 0), some (.int x1), some (.int x2), some (.int x3), some (.int x6), some (.int x5), some (.int x6), some (.int r11)]) dX10_party_98 (by decide) (zno rfl) rfl ?_
        refine j_iload dX10_party_100 rfl ?_
        refine j_bipush (v := (-4)) dX10_party_102 rfl ?_
        refine j_ic_ne (tgt := 112) dX10_party_104 (by decide) (fun _ => ?_) (fun hc => absurd hc hc13)
        refine j_iload dX10_party_112 rfl ?_
        refine j_istore (L2 := [some (.ref 0), some (.int x1), some (.int x2), some (.int x3), some (.int x6), some (.int r11), some (.int x6), some (.int r11)]) dX10_party_114 (by decide) (zno rfl) rfl ?_
        refine j_iinc (v := (x6 + 1)) (L2 := [some (.ref 0), some (.int x1), some (.int x2), some (.int x3), some (.int x6), some (.int r11), some (.int (x6 + 1)), some (.int r11)]) dX10_party_116 rfl rfl (by decide) (zno rfl) rfl ?_
        refine j_goto (tgt := 39) dX10_party_119 (by decide) ?_
        exact zJw h ⟨rfl, rfl, rfl, rfl, rfl, rfl, rfl, trivial⟩
      · have h := h.2 hc13
        refine j_iload dX10_party_91 rfl ?_
        refine j_goto (tgt := 98) dX10_party_93 (by decide) ?_
        refine j_istore (L2 := [some (.ref 0), some (.int x1), some (.int x2), some (.int x3), some (.int x4), some (.int x5), some (.int x6), some (.int r11)]) dX10_party_98 (by decide) (zno rfl) rfl ?_
        refine j_iload dX10_party_100 rfl ?_
        refine j_bipush (v := (-4)) dX10_party_102 rfl ?_
        refine j_ic_ne (tgt := 112) dX10_party_104 (by decide) (fun hc => absurd hc13 hc) (fun _ => ?_)
        refine j_iload dX10_party_107 rfl ?_
        refine j_goto (tgt := 114) dX10_party_109 (by decide) ?_
        refine j_istore (L2 := [some (.ref 0), some (.int x1), some (.int x2), some (.int x3), some (.int x4), some (.int x5), some (.int x6), some (.int r11)]) dX10_party_114 (by decide) (zno rfl) rfl ?_
        refine j_iinc (v := (x6 + 1)) (L2 := [some (.ref 0), some (.int x1), some (.int x2), some (.int x3), some (.int x4), some (.int x5), some (.int (x6 + 1)), some (.int r11)]) dX10_party_116 rfl rfl (by decide) (zno rfl) rfl ?_
        refine j_goto (tgt := 39) dX10_party_119 (by decide) ?_
        exact zJw h ⟨rfl, rfl, rfl, rfl, rfl, rfl, rfl, trivial⟩
    · have h := h.2 hc9
      refine j_iload dX10_party_57 rfl ?_
      obtain ⟨r14, hc, h⟩ := h
      refine j_csf (lc := 0) (as := [.int x6]) dX10_party_59 iX10_countOf sX10_countOf kX10_300 (by decide) rfl rfl (Nat.zero_le _) hc ?_
      refine j_iload dX10_party_62 rfl ?_
      obtain ⟨r15, hc, h⟩ := h
      refine j_csf (lc := 0) (as := [.int x4]) dX10_party_64 iX10_countOf sX10_countOf kX10_300 (by decide) rfl rfl (by simp [Value.category]) hc ?_
      refine j_ic_ge (tgt := 116) dX10_party_67 (by decide) (fun hc16 => ?_) (fun hc16 => ?_)
      · have h := h.1 hc16
        refine j_iinc (v := (x6 + 1)) (L2 := [some (.ref 0), some (.int x1), some (.int x2), some (.int x3), some (.int x4), some (.int x5), some (.int (x6 + 1)), none]) dX10_party_116 rfl rfl (by decide) (zno rfl) rfl ?_
        refine j_goto (tgt := 39) dX10_party_119 (by decide) ?_
        exact zJw h ⟨rfl, rfl, rfl, rfl, rfl, rfl, rfl, trivial⟩
      · have h := h.2 hc16
        refine j_aload_n dX10_party_70 rfl ?_
        refine j_aload_n dX10_party_71 rfl ?_
        refine j_iload dX10_party_72 rfl ?_
        obtain ⟨r17, hc, h⟩ := h
        refine j_cvf (lc := 3) (as := [.int x6]) dX10_party_74 iX10_ledBy vX10_ledBy kX10_279 (by decide) rfl rfl rfl rfl (by simp [Value.category]) hc ?_
        refine j_iload_n dX10_party_77 rfl ?_
        refine j_iload_n dX10_party_78 rfl ?_
        obtain ⟨_, hc, h⟩ := h
        refine j_cvi (lc := 3) (as := [.int r17, .int x1, .int x2]) dX10_party_79 iX10_wayBy vX10_wayBy kX10_296 (by decide) rfl rfl rfl rfl (Nat.zero_le _) hc (fun r18 M19 hr => ?_)
        have h := h _ _ hr
        refine j_istore (L2 := [some (.ref 0), some (.int x1), some (.int x2), some (.int x3), some (.int x4), some (.int x5), some (.int x6), some (.int r18)]) dX10_party_82 (by decide) (zno rfl) rfl ?_
        refine j_iload dX10_party_84 rfl ?_
        refine j_bipush (v := (-4)) dX10_party_86 rfl ?_
        refine j_ic_ne (tgt := 96) dX10_party_88 (by decide) (fun hc20 => ?_) (fun hc20 => ?_)
        · have h := h.1 hc20
          refine j_iload dX10_party_96 rfl ?_
          refine j_istore (L2 := [some (.ref 0), some (.int x1), some (.int x2), some (.int x3), some (.int x6), some (.int x5), some (.int x6), some (.int r18)]) dX10_party_98 (by decide) (zno rfl) rfl ?_
          refine j_iload dX10_party_100 rfl ?_
          refine j_bipush (v := (-4)) dX10_party_102 rfl ?_
          refine j_ic_ne (tgt := 112) dX10_party_104 (by decide) (fun _ => ?_) (fun hc => absurd hc hc20)
          refine j_iload dX10_party_112 rfl ?_
          refine j_istore (L2 := [some (.ref 0), some (.int x1), some (.int x2), some (.int x3), some (.int x6), some (.int r18), some (.int x6), some (.int r18)]) dX10_party_114 (by decide) (zno rfl) rfl ?_
          refine j_iinc (v := (x6 + 1)) (L2 := [some (.ref 0), some (.int x1), some (.int x2), some (.int x3), some (.int x6), some (.int r18), some (.int (x6 + 1)), some (.int r18)]) dX10_party_116 rfl rfl (by decide) (zno rfl) rfl ?_
          refine j_goto (tgt := 39) dX10_party_119 (by decide) ?_
          exact zJw h ⟨rfl, rfl, rfl, rfl, rfl, rfl, rfl, trivial⟩
        · have h := h.2 hc20
          refine j_iload dX10_party_91 rfl ?_
          refine j_goto (tgt := 98) dX10_party_93 (by decide) ?_
          refine j_istore (L2 := [some (.ref 0), some (.int x1), some (.int x2), some (.int x3), some (.int x4), some (.int x5), some (.int x6), some (.int r18)]) dX10_party_98 (by decide) (zno rfl) rfl ?_
          refine j_iload dX10_party_100 rfl ?_
          refine j_bipush (v := (-4)) dX10_party_102 rfl ?_
          refine j_ic_ne (tgt := 112) dX10_party_104 (by decide) (fun hc => absurd hc20 hc) (fun _ => ?_)
          refine j_iload dX10_party_107 rfl ?_
          refine j_goto (tgt := 114) dX10_party_109 (by decide) ?_
          refine j_istore (L2 := [some (.ref 0), some (.int x1), some (.int x2), some (.int x3), some (.int x4), some (.int x5), some (.int x6), some (.int r18)]) dX10_party_114 (by decide) (zno rfl) rfl ?_
          refine j_iinc (v := (x6 + 1)) (L2 := [some (.ref 0), some (.int x1), some (.int x2), some (.int x3), some (.int x4), some (.int x5), some (.int (x6 + 1)), some (.int r18)]) dX10_party_116 rfl rfl (by decide) (zno rfl) rfl ?_
          refine j_goto (tgt := 39) dX10_party_119 (by decide) ?_
          exact zJw h ⟨rfl, rfl, rfl, rfl, rfl, rfl, rfl, trivial⟩
theorem eX10_arePlaces (v : Int32) (X : zX) (a1 : Int32) (h : ∃ r1 : Int32, zPf SY 0 mX10_in [.long a1.toInt64, .long 0, .long ((zshl 1 (X 0 0)) - 1).toInt64] X r1 ∧ (narrow .boolean (.int r1) = .int r1 ∧ r1 = v)) : zPf SY 1 mX10_arePlaces [.ref 0, .int a1] X v := by
  refine zP_in [some (.ref 0), some (.int a1)] ⟨rfl, rfl, trivial⟩ (by decide) (Nat.le_of_ble_eq_true rfl) ?_
  refine j_iload_n dX10_arePlaces_0 rfl ?_
  refine j_i2l dX10_arePlaces_1 ?_
  refine j_lconst (v := 0) dX10_arePlaces_2 rfl ?_
  refine j_iconst (v := 1) dX10_arePlaces_3 rfl ?_
  refine j_aload_n dX10_arePlaces_4 rfl ?_
  refine j_getf dX10_arePlaces_5 fX10_98 rfl rfl ?_
  refine j_ishl dX10_arePlaces_8 ?_
  refine j_iconst (v := 1) dX10_arePlaces_9 rfl ?_
  refine j_isub dX10_arePlaces_10 ?_
  refine j_i2l dX10_arePlaces_11 ?_
  obtain ⟨r1, hc, h⟩ := h
  refine j_csf (lc := 0) (as := [.long a1.toInt64, .long 0, .long ((zshl 1 (X 0 0)) - 1).toInt64]) dX10_arePlaces_12 iX10_in sX10_in kX10_102 (by decide) rfl rfl (Nat.zero_le _) hc ?_
  refine j_iret (ty := .boolean) dX10_arePlaces_15 rfl h.1 ?_
  have h := h.2
  exact ⟨by rw [h], rfl⟩
abbrev LX10_shutBy_4 (v : Int32) (X : zX) (x1 : Int32) (x2 : Int32) (x3 : Int32) : Prop := zJ SY 0 mX10_shutBy (zRf v X) 4 [some (.ref 0), some (.int x1), some (.int x2), some (.int x3)] [] X
theorem eX10_shutBy (v : Int32) (X : zX) (a1 : Int32) (h : LX10_shutBy_4 v X a1 0 0) : zPf SY 0 mX10_shutBy [.ref 0, .int a1] X v := by
  refine zP_in [some (.ref 0), some (.int a1), none, none] ⟨rfl, rfl, trivial⟩ (by decide) (Nat.le_of_ble_eq_true rfl) ?_
  refine j_iconst (v := 0) dX10_shutBy_0 rfl ?_
  refine j_istore_n (L2 := [some (.ref 0), some (.int a1), some (.int 0), none]) dX10_shutBy_1 (by decide) (zno rfl) rfl ?_
  refine j_iconst (v := 0) dX10_shutBy_2 rfl ?_
  refine j_istore_n (L2 := [some (.ref 0), some (.int a1), some (.int 0), some (.int 0)]) dX10_shutBy_3 (by decide) (zno rfl) rfl ?_
  exact zJw h ⟨rfl, rfl, rfl, rfl, trivial⟩
theorem bX10_shutBy_4 (v : Int32) (X : zX) (x1 : Int32) (x2 : Int32) (x3 : Int32) (h : (((X 0 3) ≤ x3) → (x2 = v)) ∧ ((¬ ((X 0 3) ≤ x3)) → (∃ j2 : Nat, x3 = nI j2 ∧ j2 < 24 ∧ (((¬ ((zshr x1 (X 4 j2)) &&& 1) = 1) → (LX10_shutBy_4 v X x1 (x2 ||| 0) (x3 + 1))) ∧ ((((zshr x1 (X 4 j2)) &&& 1) = 1) → (LX10_shutBy_4 v X x1 (x2 ||| (zshl 1 x3)) (x3 + 1))))))) : LX10_shutBy_4 v X x1 x2 x3 := by
  refine j_iload_n dX10_shutBy_4 rfl ?_
  refine j_aload_n dX10_shutBy_5 rfl ?_
  refine j_getf dX10_shutBy_6 fX10_106 rfl rfl ?_
  refine j_ic_ge (tgt := 42) dX10_shutBy_9 (by decide) (fun hc1 => ?_) (fun hc1 => ?_)
  · have h := h.1 hc1
    refine j_iload_n dX10_shutBy_42 rfl ?_
    refine j_iret dX10_shutBy_43 rfl rfl ?_
    exact ⟨by rw [h], rfl⟩
  · have h := h.2 hc1
    refine j_iload_n dX10_shutBy_12 rfl ?_
    refine j_iload_n dX10_shutBy_13 rfl ?_
    refine j_aload_n dX10_shutBy_14 rfl ?_
    refine j_getr dX10_shutBy_15 fX10_19 rfl rfl ?_
    refine j_iload_n dX10_shutBy_18 rfl ?_
    obtain ⟨j2, ej2, lj2, h⟩ := h
    refine j_iald dX10_shutBy_19 rfl (zin ej2 lj2 (by decide)) ?_
    rw [zcl ej2 lj2 (by decide)]
    refine j_ishr dX10_shutBy_20 ?_
    refine j_iconst (v := 1) dX10_shutBy_21 rfl ?_
    refine j_iand dX10_shutBy_22 ?_
    refine j_iconst (v := 1) dX10_shutBy_23 rfl ?_
    refine j_ic_ne (tgt := 33) dX10_shutBy_24 (by decide) (fun hc3 => ?_) (fun hc3 => ?_)
    · have h := h.1 hc3
      refine j_iconst (v := 0) dX10_shutBy_33 rfl ?_
      refine j_ior dX10_shutBy_34 ?_
      refine j_istore_n (L2 := [some (.ref 0), some (.int x1), some (.int (x2 ||| 0)), some (.int x3)]) dX10_shutBy_35 (by decide) (zno rfl) rfl ?_
      refine j_iinc (v := (x3 + 1)) (L2 := [some (.ref 0), some (.int x1), some (.int (x2 ||| 0)), some (.int (x3 + 1))]) dX10_shutBy_36 rfl rfl (by decide) (zno rfl) rfl ?_
      refine j_goto (tgt := 4) dX10_shutBy_39 (by decide) ?_
      exact zJw h ⟨rfl, rfl, rfl, rfl, trivial⟩
    · have h := h.2 hc3
      refine j_iconst (v := 1) dX10_shutBy_27 rfl ?_
      refine j_iload_n dX10_shutBy_28 rfl ?_
      refine j_ishl dX10_shutBy_29 ?_
      refine j_goto (tgt := 34) dX10_shutBy_30 (by decide) ?_
      refine j_ior dX10_shutBy_34 ?_
      refine j_istore_n (L2 := [some (.ref 0), some (.int x1), some (.int (x2 ||| (zshl 1 x3))), some (.int x3)]) dX10_shutBy_35 (by decide) (zno rfl) rfl ?_
      refine j_iinc (v := (x3 + 1)) (L2 := [some (.ref 0), some (.int x1), some (.int (x2 ||| (zshl 1 x3))), some (.int (x3 + 1))]) dX10_shutBy_36 rfl rfl (by decide) (zno rfl) rfl ?_
      refine j_goto (tgt := 4) dX10_shutBy_39 (by decide) ?_
      exact zJw h ⟨rfl, rfl, rfl, rfl, trivial⟩
abbrev LX10_cut_32 (v : Int32) (X : zX) (x2 : Int32) (x3 : Int32) (x4 : Int32) (x5 : Int32) : Prop := zJ SY 2 mX10_cut (zRf v X) 32 [some (.ref 0), none, some (.int x2), some (.int x3), some (.int x4), some (.int x5), none] [] X
theorem eX10_cut (v : Int32) (X : zX) (a1 : Int32) (a2 : Int32) (h : ∃ r1 : Int32, zPf SY 1 mX10_arePlaces [.ref 0, .int a1] X r1 ∧ (((r1 = 0) → ((-1) = v)) ∧ ((¬ (r1 = 0)) → (∃ r3 : Int32, zPf SY 0 mX10_in [.long a2.toInt64, .long 0, .long 1] X r3 ∧ (((¬ r3 = 0) → (∃ r5 : Int32, zPf SY 0 mX10_shutBy [.ref 0, .int a1] X r5 ∧ (LX10_cut_32 v X a2 r5 0 0))) ∧ ((r3 = 0) → ((-1) = v))))))) : zPf SY 2 mX10_cut [.ref 0, .int a1, .int a2] X v := by
  refine zP_in [some (.ref 0), some (.int a1), some (.int a2), none, none, none, none] ⟨rfl, rfl, rfl, trivial⟩ (by decide) (Nat.le_of_ble_eq_true rfl) ?_
  refine j_aload_n dX10_cut_0 rfl ?_
  refine j_iload_n dX10_cut_1 rfl ?_
  obtain ⟨r1, hc, h⟩ := h
  refine j_cvf (lc := 1) (as := [.int a1]) dX10_cut_2 iX10_arePlaces vX10_arePlaces kX10_303 (by decide) rfl rfl rfl rfl (Nat.zero_le _) hc ?_
  refine j_if_eq (tgt := 18) dX10_cut_5 (by decide) (fun hc2 => ?_) (fun hc2 => ?_)
  · have h := h.1 hc2
    refine j_iconst (v := (-1)) dX10_cut_18 rfl ?_
    refine j_iret dX10_cut_19 rfl rfl ?_
    exact ⟨by rw [h], rfl⟩
  · have h := h.2 hc2
    refine j_iload_n dX10_cut_8 rfl ?_
    refine j_i2l dX10_cut_9 ?_
    refine j_lconst (v := 0) dX10_cut_10 rfl ?_
    refine j_lconst (v := 1) dX10_cut_11 rfl ?_
    obtain ⟨r3, hc, h⟩ := h
    refine j_csf (lc := 0) (as := [.long a2.toInt64, .long 0, .long 1]) dX10_cut_12 iX10_in sX10_in kX10_102 (by decide) rfl rfl (Nat.zero_le _) hc ?_
    refine j_if_ne (tgt := 20) dX10_cut_15 (by decide) (fun hc4 => ?_) (fun hc4 => ?_)
    · have h := h.1 hc4
      refine j_aload_n dX10_cut_20 rfl ?_
      refine j_iload_n dX10_cut_21 rfl ?_
      obtain ⟨r5, hc, h⟩ := h
      refine j_cvf (lc := 0) (as := [.int a1]) dX10_cut_22 iX10_shutBy vX10_shutBy kX10_306 (by decide) rfl rfl rfl rfl (Nat.zero_le _) hc ?_
      refine j_istore_n (L2 := [some (.ref 0), some (.int a1), some (.int a2), some (.int r5), none, none, none]) dX10_cut_25 (by decide) (zno rfl) rfl ?_
      refine j_iconst (v := 0) dX10_cut_26 rfl ?_
      refine j_istore (L2 := [some (.ref 0), some (.int a1), some (.int a2), some (.int r5), some (.int 0), none, none]) dX10_cut_27 (by decide) (zno rfl) rfl ?_
      refine j_iconst (v := 0) dX10_cut_29 rfl ?_
      refine j_istore (L2 := [some (.ref 0), some (.int a1), some (.int a2), some (.int r5), some (.int 0), some (.int 0), none]) dX10_cut_30 (by decide) (zno rfl) rfl ?_
      exact zJw h ⟨rfl, rfl, rfl, rfl, rfl, trivial⟩
    · have h := h.2 hc4
      refine j_iconst (v := (-1)) dX10_cut_18 rfl ?_
      refine j_iret dX10_cut_19 rfl rfl ?_
      exact ⟨by rw [h], rfl⟩
theorem bX10_cut_32 (v : Int32) (X : zX) (x2 : Int32) (x3 : Int32) (x4 : Int32) (x5 : Int32) (h : (((X 0 3) ≤ x5) → (((¬ x2 = 0) → (x4 = v)) ∧ ((x2 = 0) → (x3 = v)))) ∧ ((¬ ((X 0 3) ≤ x5)) → (∃ j8 : Nat, x5 = nI j8 ∧ j8 < 24 ∧ ((((X 8 j8) ≤ 0) → (((¬ ((zshr x3 x5) &&& 1) = 1) → (LX10_cut_32 v X x2 x3 (x4 ||| 0) (x5 + 1))) ∧ ((((zshr x3 x5) &&& 1) = 1) → (LX10_cut_32 v X x2 x3 (x4 ||| 0) (x5 + 1))))) ∧ ((¬ ((X 8 j8) ≤ 0)) → (∃ j11 : Nat, x5 = nI j11 ∧ j11 < 24 ∧ (∃ j12 : Nat, x5 = nI j12 ∧ j12 < 24 ∧ (∃ r13 : Int32, zPf SY 0 mX10_lengthOf [.ref 0, .int (X 3 j12)] X r13 ∧ ((((r13 - 1) ≤ (X 8 j11)) → (((¬ ((zshr x3 x5) &&& 1) = 1) → (LX10_cut_32 v X x2 x3 (x4 ||| 0) (x5 + 1))) ∧ ((((zshr x3 x5) &&& 1) = 1) → (LX10_cut_32 v X x2 x3 (x4 ||| 0) (x5 + 1))))) ∧ ((¬ ((r13 - 1) ≤ (X 8 j11))) → (((¬ ((zshr x3 x5) &&& 1) = 1) → (LX10_cut_32 v X x2 x3 (x4 ||| 0) (x5 + 1))) ∧ ((((zshr x3 x5) &&& 1) = 1) → (∃ j17 : Nat, x5 = nI j17 ∧ j17 < 24 ∧ (LX10_cut_32 v X x2 x3 (x4 ||| (zshl 1 (X 3 j17))) (x5 + 1))))))))))))))) : LX10_cut_32 v X x2 x3 x4 x5 := by
  refine j_iload dX10_cut_32 rfl ?_
  refine j_aload_n dX10_cut_34 rfl ?_
  refine j_getf dX10_cut_35 fX10_106 rfl rfl ?_
  refine j_ic_ge (tgt := 120) dX10_cut_38 (by decide) (fun hc6 => ?_) (fun hc6 => ?_)
  · have h := h.1 hc6
    refine j_iload_n dX10_cut_120 rfl ?_
    refine j_if_ne (tgt := 128) dX10_cut_121 (by decide) (fun hc7 => ?_) (fun hc7 => ?_)
    · have h := h.1 hc7
      refine j_iload dX10_cut_128 rfl ?_
      refine j_iret dX10_cut_130 rfl rfl ?_
      exact ⟨by rw [h], rfl⟩
    · have h := h.2 hc7
      refine j_iload_n dX10_cut_124 rfl ?_
      refine j_goto (tgt := 130) dX10_cut_125 (by decide) ?_
      refine j_iret dX10_cut_130 rfl rfl ?_
      exact ⟨by rw [h], rfl⟩
  · have h := h.2 hc6
    refine j_aload_n dX10_cut_41 rfl ?_
    refine j_getr dX10_cut_42 fX10_31 rfl rfl ?_
    refine j_iload dX10_cut_45 rfl ?_
    obtain ⟨j8, ej8, lj8, h⟩ := h
    refine j_iald dX10_cut_47 rfl (zin ej8 lj8 (by decide)) ?_
    rw [zcl ej8 lj8 (by decide)]
    refine j_if_le (tgt := 78) dX10_cut_48 (by decide) (fun hc9 => ?_) (fun hc9 => ?_)
    · have h := h.1 hc9
      refine j_iconst (v := 0) dX10_cut_78 rfl ?_
      refine j_istore (L2 := [some (.ref 0), none, some (.int x2), some (.int x3), some (.int x4), some (.int x5), some (.int 0)]) dX10_cut_79 (by decide) (zno rfl) rfl ?_
      refine j_iload dX10_cut_81 rfl ?_
      refine j_iload_n dX10_cut_83 rfl ?_
      refine j_iload dX10_cut_84 rfl ?_
      refine j_ishr dX10_cut_86 ?_
      refine j_iconst (v := 1) dX10_cut_87 rfl ?_
      refine j_iand dX10_cut_88 ?_
      refine j_iconst (v := 1) dX10_cut_89 rfl ?_
      refine j_ic_ne (tgt := 110) dX10_cut_90 (by decide) (fun hc10 => ?_) (fun hc10 => ?_)
      · have h := h.1 hc10
        refine j_iconst (v := 0) dX10_cut_110 rfl ?_
        refine j_ior dX10_cut_111 ?_
        refine j_istore (L2 := [some (.ref 0), none, some (.int x2), some (.int x3), some (.int (x4 ||| 0)), some (.int x5), some (.int 0)]) dX10_cut_112 (by decide) (zno rfl) rfl ?_
        refine j_iinc (v := (x5 + 1)) (L2 := [some (.ref 0), none, some (.int x2), some (.int x3), some (.int (x4 ||| 0)), some (.int (x5 + 1)), some (.int 0)]) dX10_cut_114 rfl rfl (by decide) (zno rfl) rfl ?_
        refine j_goto (tgt := 32) dX10_cut_117 (by decide) ?_
        exact zJw h ⟨rfl, rfl, rfl, rfl, rfl, trivial⟩
      · have h := h.2 hc10
        refine j_iload dX10_cut_93 rfl ?_
        refine j_if_eq (tgt := 110) dX10_cut_95 (by decide) (fun _ => ?_) (fun hc => absurd hc (by decide))
        refine j_iconst (v := 0) dX10_cut_110 rfl ?_
        refine j_ior dX10_cut_111 ?_
        refine j_istore (L2 := [some (.ref 0), none, some (.int x2), some (.int x3), some (.int (x4 ||| 0)), some (.int x5), some (.int 0)]) dX10_cut_112 (by decide) (zno rfl) rfl ?_
        refine j_iinc (v := (x5 + 1)) (L2 := [some (.ref 0), none, some (.int x2), some (.int x3), some (.int (x4 ||| 0)), some (.int (x5 + 1)), some (.int 0)]) dX10_cut_114 rfl rfl (by decide) (zno rfl) rfl ?_
        refine j_goto (tgt := 32) dX10_cut_117 (by decide) ?_
        exact zJw h ⟨rfl, rfl, rfl, rfl, rfl, trivial⟩
    · have h := h.2 hc9
      refine j_aload_n dX10_cut_51 rfl ?_
      refine j_getr dX10_cut_52 fX10_31 rfl rfl ?_
      refine j_iload dX10_cut_55 rfl ?_
      obtain ⟨j11, ej11, lj11, h⟩ := h
      refine j_iald dX10_cut_57 rfl (zin ej11 lj11 (by decide)) ?_
      rw [zcl ej11 lj11 (by decide)]
      refine j_aload_n dX10_cut_58 rfl ?_
      refine j_aload_n dX10_cut_59 rfl ?_
      refine j_getr dX10_cut_60 fX10_16 rfl rfl ?_
      refine j_iload dX10_cut_63 rfl ?_
      obtain ⟨j12, ej12, lj12, h⟩ := h
      refine j_iald dX10_cut_65 rfl (zin ej12 lj12 (by decide)) ?_
      rw [zcl ej12 lj12 (by decide)]
      obtain ⟨r13, hc, h⟩ := h
      refine j_cvf (lc := 0) (as := [.int (X 3 j12)]) dX10_cut_66 iX10_lengthOf vX10_lengthOf kX10_129 (by decide) rfl rfl rfl rfl (by simp [Value.category]) hc ?_
      refine j_iconst (v := 1) dX10_cut_69 rfl ?_
      refine j_isub dX10_cut_70 ?_
      refine j_ic_ge (tgt := 78) dX10_cut_71 (by decide) (fun hc14 => ?_) (fun hc14 => ?_)
      · have h := h.1 hc14
        refine j_iconst (v := 0) dX10_cut_78 rfl ?_
        refine j_istore (L2 := [some (.ref 0), none, some (.int x2), some (.int x3), some (.int x4), some (.int x5), some (.int 0)]) dX10_cut_79 (by decide) (zno rfl) rfl ?_
        refine j_iload dX10_cut_81 rfl ?_
        refine j_iload_n dX10_cut_83 rfl ?_
        refine j_iload dX10_cut_84 rfl ?_
        refine j_ishr dX10_cut_86 ?_
        refine j_iconst (v := 1) dX10_cut_87 rfl ?_
        refine j_iand dX10_cut_88 ?_
        refine j_iconst (v := 1) dX10_cut_89 rfl ?_
        refine j_ic_ne (tgt := 110) dX10_cut_90 (by decide) (fun hc15 => ?_) (fun hc15 => ?_)
        · have h := h.1 hc15
          refine j_iconst (v := 0) dX10_cut_110 rfl ?_
          refine j_ior dX10_cut_111 ?_
          refine j_istore (L2 := [some (.ref 0), none, some (.int x2), some (.int x3), some (.int (x4 ||| 0)), some (.int x5), some (.int 0)]) dX10_cut_112 (by decide) (zno rfl) rfl ?_
          refine j_iinc (v := (x5 + 1)) (L2 := [some (.ref 0), none, some (.int x2), some (.int x3), some (.int (x4 ||| 0)), some (.int (x5 + 1)), some (.int 0)]) dX10_cut_114 rfl rfl (by decide) (zno rfl) rfl ?_
          refine j_goto (tgt := 32) dX10_cut_117 (by decide) ?_
          exact zJw h ⟨rfl, rfl, rfl, rfl, rfl, trivial⟩
        · have h := h.2 hc15
          refine j_iload dX10_cut_93 rfl ?_
          refine j_if_eq (tgt := 110) dX10_cut_95 (by decide) (fun _ => ?_) (fun hc => absurd hc (by decide))
          refine j_iconst (v := 0) dX10_cut_110 rfl ?_
          refine j_ior dX10_cut_111 ?_
          refine j_istore (L2 := [some (.ref 0), none, some (.int x2), some (.int x3), some (.int (x4 ||| 0)), some (.int x5), some (.int 0)]) dX10_cut_112 (by decide) (zno rfl) rfl ?_
          refine j_iinc (v := (x5 + 1)) (L2 := [some (.ref 0), none, some (.int x2), some (.int x3), some (.int (x4 ||| 0)), some (.int (x5 + 1)), some (.int 0)]) dX10_cut_114 rfl rfl (by decide) (zno rfl) rfl ?_
          refine j_goto (tgt := 32) dX10_cut_117 (by decide) ?_
          exact zJw h ⟨rfl, rfl, rfl, rfl, rfl, trivial⟩
      · have h := h.2 hc14
        refine j_iconst (v := 1) dX10_cut_74 rfl ?_
        refine j_goto (tgt := 79) dX10_cut_75 (by decide) ?_
        refine j_istore (L2 := [some (.ref 0), none, some (.int x2), some (.int x3), some (.int x4), some (.int x5), some (.int 1)]) dX10_cut_79 (by decide) (zno rfl) rfl ?_
        refine j_iload dX10_cut_81 rfl ?_
        refine j_iload_n dX10_cut_83 rfl ?_
        refine j_iload dX10_cut_84 rfl ?_
        refine j_ishr dX10_cut_86 ?_
        refine j_iconst (v := 1) dX10_cut_87 rfl ?_
        refine j_iand dX10_cut_88 ?_
        refine j_iconst (v := 1) dX10_cut_89 rfl ?_
        refine j_ic_ne (tgt := 110) dX10_cut_90 (by decide) (fun hc16 => ?_) (fun hc16 => ?_)
        · have h := h.1 hc16
          refine j_iconst (v := 0) dX10_cut_110 rfl ?_
          refine j_ior dX10_cut_111 ?_
          refine j_istore (L2 := [some (.ref 0), none, some (.int x2), some (.int x3), some (.int (x4 ||| 0)), some (.int x5), some (.int 1)]) dX10_cut_112 (by decide) (zno rfl) rfl ?_
          refine j_iinc (v := (x5 + 1)) (L2 := [some (.ref 0), none, some (.int x2), some (.int x3), some (.int (x4 ||| 0)), some (.int (x5 + 1)), some (.int 1)]) dX10_cut_114 rfl rfl (by decide) (zno rfl) rfl ?_
          refine j_goto (tgt := 32) dX10_cut_117 (by decide) ?_
          exact zJw h ⟨rfl, rfl, rfl, rfl, rfl, trivial⟩
        · have h := h.2 hc16
          refine j_iload dX10_cut_93 rfl ?_
          refine j_if_eq (tgt := 110) dX10_cut_95 (by decide) (fun hc => absurd hc (by decide)) (fun _ => ?_)
          refine j_iconst (v := 1) dX10_cut_98 rfl ?_
          refine j_aload_n dX10_cut_99 rfl ?_
          refine j_getr dX10_cut_100 fX10_16 rfl rfl ?_
          refine j_iload dX10_cut_103 rfl ?_
          obtain ⟨j17, ej17, lj17, h⟩ := h
          refine j_iald dX10_cut_105 rfl (zin ej17 lj17 (by decide)) ?_
          rw [zcl ej17 lj17 (by decide)]
          refine j_ishl dX10_cut_106 ?_
          refine j_goto (tgt := 111) dX10_cut_107 (by decide) ?_
          refine j_ior dX10_cut_111 ?_
          refine j_istore (L2 := [some (.ref 0), none, some (.int x2), some (.int x3), some (.int (x4 ||| (zshl 1 (X 3 j17)))), some (.int x5), some (.int 1)]) dX10_cut_112 (by decide) (zno rfl) rfl ?_
          refine j_iinc (v := (x5 + 1)) (L2 := [some (.ref 0), none, some (.int x2), some (.int x3), some (.int (x4 ||| (zshl 1 (X 3 j17)))), some (.int (x5 + 1)), some (.int 1)]) dX10_cut_114 rfl rfl (by decide) (zno rfl) rfl ?_
          refine j_goto (tgt := 32) dX10_cut_117 (by decide) ?_
          exact zJw h ⟨rfl, rfl, rfl, rfl, rfl, trivial⟩
abbrev LX10_cutTold_41 (v : Int32) (X : zX) (x1 : Int32) (x3 : Int32) (x4 : Int32) (x5 : Int32) (x6 : Int32) : Prop := zJ SY 2 mX10_cutTold (zRf v X) 41 [some (.ref 0), some (.int x1), none, some (.int x3), some (.int x4), some (.int x5), some (.int x6)] [] X
theorem eX10_cutTold (v : Int32) (X : zX) (a1 : Int32) (a2 : Int32) (a3 : Int32) (h : ∃ r1 : Int32, zPf SY 1 mX10_isOne [.ref 0, .int a1] X r1 ∧ (((r1 = 0) → ((-1) = v)) ∧ ((¬ (r1 = 0)) → (∃ r3 : Int32, zPf SY 1 mX10_arePlaces [.ref 0, .int a2] X r3 ∧ (((r3 = 0) → ((-1) = v)) ∧ ((¬ (r3 = 0)) → (∃ r5 : Int32, zPf SY 0 mX10_in [.long a3.toInt64, .long 0, .long 1] X r5 ∧ (((¬ r5 = 0) → (∃ r7 : Int32, zPf SY 0 mX10_shutBy [.ref 0, .int a2] X r7 ∧ (LX10_cutTold_41 v X a1 a3 r7 0 0))) ∧ ((r5 = 0) → ((-1) = v)))))))))) : zPf SY 2 mX10_cutTold [.ref 0, .int a1, .int a2, .int a3] X v := by
  refine zP_in [some (.ref 0), some (.int a1), some (.int a2), some (.int a3), none, none, none] ⟨rfl, rfl, rfl, rfl, trivial⟩ (by decide) (Nat.le_of_ble_eq_true rfl) ?_
  refine j_aload_n dX10_cutTold_0 rfl ?_
  refine j_iload_n dX10_cutTold_1 rfl ?_
  obtain ⟨r1, hc, h⟩ := h
  refine j_cvf (lc := 1) (as := [.int a1]) dX10_cutTold_2 iX10_isOne vX10_isOne kX10_144 (by decide) rfl rfl rfl rfl (Nat.zero_le _) hc ?_
  refine j_if_eq (tgt := 26) dX10_cutTold_5 (by decide) (fun hc2 => ?_) (fun hc2 => ?_)
  · have h := h.1 hc2
    refine j_iconst (v := (-1)) dX10_cutTold_26 rfl ?_
    refine j_iret dX10_cutTold_27 rfl rfl ?_
    exact ⟨by rw [h], rfl⟩
  · have h := h.2 hc2
    refine j_aload_n dX10_cutTold_8 rfl ?_
    refine j_iload_n dX10_cutTold_9 rfl ?_
    obtain ⟨r3, hc, h⟩ := h
    refine j_cvf (lc := 1) (as := [.int a2]) dX10_cutTold_10 iX10_arePlaces vX10_arePlaces kX10_303 (by decide) rfl rfl rfl rfl (Nat.zero_le _) hc ?_
    refine j_if_eq (tgt := 26) dX10_cutTold_13 (by decide) (fun hc4 => ?_) (fun hc4 => ?_)
    · have h := h.1 hc4
      refine j_iconst (v := (-1)) dX10_cutTold_26 rfl ?_
      refine j_iret dX10_cutTold_27 rfl rfl ?_
      exact ⟨by rw [h], rfl⟩
    · have h := h.2 hc4
      refine j_iload_n dX10_cutTold_16 rfl ?_
      refine j_i2l dX10_cutTold_17 ?_
      refine j_lconst (v := 0) dX10_cutTold_18 rfl ?_
      refine j_lconst (v := 1) dX10_cutTold_19 rfl ?_
      obtain ⟨r5, hc, h⟩ := h
      refine j_csf (lc := 0) (as := [.long a3.toInt64, .long 0, .long 1]) dX10_cutTold_20 iX10_in sX10_in kX10_102 (by decide) rfl rfl (Nat.zero_le _) hc ?_
      refine j_if_ne (tgt := 28) dX10_cutTold_23 (by decide) (fun hc6 => ?_) (fun hc6 => ?_)
      · have h := h.1 hc6
        refine j_aload_n dX10_cutTold_28 rfl ?_
        refine j_iload_n dX10_cutTold_29 rfl ?_
        obtain ⟨r7, hc, h⟩ := h
        refine j_cvf (lc := 0) (as := [.int a2]) dX10_cutTold_30 iX10_shutBy vX10_shutBy kX10_306 (by decide) rfl rfl rfl rfl (Nat.zero_le _) hc ?_
        refine j_istore (L2 := [some (.ref 0), some (.int a1), some (.int a2), some (.int a3), some (.int r7), none, none]) dX10_cutTold_33 (by decide) (zno rfl) rfl ?_
        refine j_iconst (v := 0) dX10_cutTold_35 rfl ?_
        refine j_istore (L2 := [some (.ref 0), some (.int a1), some (.int a2), some (.int a3), some (.int r7), some (.int 0), none]) dX10_cutTold_36 (by decide) (zno rfl) rfl ?_
        refine j_iconst (v := 0) dX10_cutTold_38 rfl ?_
        refine j_istore (L2 := [some (.ref 0), some (.int a1), some (.int a2), some (.int a3), some (.int r7), some (.int 0), some (.int 0)]) dX10_cutTold_39 (by decide) (zno rfl) rfl ?_
        exact zJw h ⟨rfl, rfl, rfl, rfl, rfl, rfl, trivial⟩
      · have h := h.2 hc6
        refine j_iconst (v := (-1)) dX10_cutTold_26 rfl ?_
        refine j_iret dX10_cutTold_27 rfl rfl ?_
        exact ⟨by rw [h], rfl⟩
theorem bX10_cutTold_41 (v : Int32) (X : zX) (x1 : Int32) (x3 : Int32) (x4 : Int32) (x5 : Int32) (x6 : Int32) (h : (((X 0 3) ≤ x6) → (((¬ x3 = 0) → (∃ r10 : Int32, zPf SY 0 mX10_countOf [.int (x4 &&& (x5 ^^^ (-1)))] X r10 ∧ (r10 = v))) ∧ ((x3 = 0) → (x5 = v)))) ∧ ((¬ ((X 0 3) ≤ x6)) → (((¬ ((zshr x4 x6) &&& 1) = 1) → (LX10_cutTold_41 v X x1 x3 x4 (x5 ||| 0) (x6 + 1))) ∧ ((((zshr x4 x6) &&& 1) = 1) → (∃ r12 : Int32, zPf SY 0 mX10_mayHear [.ref 0, .int x1, .int x6] X r12 ∧ (((r12 = 0) → (LX10_cutTold_41 v X x1 x3 x4 (x5 ||| 0) (x6 + 1))) ∧ ((¬ (r12 = 0)) → (LX10_cutTold_41 v X x1 x3 x4 (x5 ||| (zshl 1 x6)) (x6 + 1))))))))) : LX10_cutTold_41 v X x1 x3 x4 x5 x6 := by
  refine j_iload dX10_cutTold_41 rfl ?_
  refine j_aload_n dX10_cutTold_43 rfl ?_
  refine j_getf dX10_cutTold_44 fX10_106 rfl rfl ?_
  refine j_ic_ge (tgt := 90) dX10_cutTold_47 (by decide) (fun hc8 => ?_) (fun hc8 => ?_)
  · have h := h.1 hc8
    refine j_iload_n dX10_cutTold_90 rfl ?_
    refine j_if_ne (tgt := 99) dX10_cutTold_91 (by decide) (fun hc9 => ?_) (fun hc9 => ?_)
    · have h := h.1 hc9
      refine j_iload dX10_cutTold_99 rfl ?_
      refine j_iload dX10_cutTold_101 rfl ?_
      refine j_iconst (v := (-1)) dX10_cutTold_103 rfl ?_
      refine j_ixor dX10_cutTold_104 ?_
      refine j_iand dX10_cutTold_105 ?_
      obtain ⟨r10, hc, h⟩ := h
      refine j_csf (lc := 0) (as := [.int (x4 &&& (x5 ^^^ (-1)))]) dX10_cutTold_106 iX10_countOf sX10_countOf kX10_300 (by decide) rfl rfl (Nat.zero_le _) hc ?_
      refine j_iret dX10_cutTold_109 rfl rfl ?_
      exact ⟨by rw [h], rfl⟩
    · have h := h.2 hc9
      refine j_iload dX10_cutTold_94 rfl ?_
      refine j_goto (tgt := 109) dX10_cutTold_96 (by decide) ?_
      refine j_iret dX10_cutTold_109 rfl rfl ?_
      exact ⟨by rw [h], rfl⟩
  · have h := h.2 hc8
    refine j_iload dX10_cutTold_50 rfl ?_
    refine j_iload dX10_cutTold_52 rfl ?_
    refine j_iload dX10_cutTold_54 rfl ?_
    refine j_ishr dX10_cutTold_56 ?_
    refine j_iconst (v := 1) dX10_cutTold_57 rfl ?_
    refine j_iand dX10_cutTold_58 ?_
    refine j_iconst (v := 1) dX10_cutTold_59 rfl ?_
    refine j_ic_ne (tgt := 80) dX10_cutTold_60 (by decide) (fun hc11 => ?_) (fun hc11 => ?_)
    · have h := h.1 hc11
      refine j_iconst (v := 0) dX10_cutTold_80 rfl ?_
      refine j_ior dX10_cutTold_81 ?_
      refine j_istore (L2 := [some (.ref 0), some (.int x1), none, some (.int x3), some (.int x4), some (.int (x5 ||| 0)), some (.int x6)]) dX10_cutTold_82 (by decide) (zno rfl) rfl ?_
      refine j_iinc (v := (x6 + 1)) (L2 := [some (.ref 0), some (.int x1), none, some (.int x3), some (.int x4), some (.int (x5 ||| 0)), some (.int (x6 + 1))]) dX10_cutTold_84 rfl rfl (by decide) (zno rfl) rfl ?_
      refine j_goto (tgt := 41) dX10_cutTold_87 (by decide) ?_
      exact zJw h ⟨rfl, rfl, rfl, rfl, rfl, rfl, trivial⟩
    · have h := h.2 hc11
      refine j_aload_n dX10_cutTold_63 rfl ?_
      refine j_iload_n dX10_cutTold_64 rfl ?_
      refine j_iload dX10_cutTold_65 rfl ?_
      obtain ⟨r12, hc, h⟩ := h
      refine j_cvf (lc := 0) (as := [.int x1, .int x6]) dX10_cutTold_67 iX10_mayHear vX10_mayHear kX10_267 (by decide) rfl rfl rfl rfl (by simp [Value.category]) hc ?_
      refine j_if_eq (tgt := 80) dX10_cutTold_70 (by decide) (fun hc13 => ?_) (fun hc13 => ?_)
      · have h := h.1 hc13
        refine j_iconst (v := 0) dX10_cutTold_80 rfl ?_
        refine j_ior dX10_cutTold_81 ?_
        refine j_istore (L2 := [some (.ref 0), some (.int x1), none, some (.int x3), some (.int x4), some (.int (x5 ||| 0)), some (.int x6)]) dX10_cutTold_82 (by decide) (zno rfl) rfl ?_
        refine j_iinc (v := (x6 + 1)) (L2 := [some (.ref 0), some (.int x1), none, some (.int x3), some (.int x4), some (.int (x5 ||| 0)), some (.int (x6 + 1))]) dX10_cutTold_84 rfl rfl (by decide) (zno rfl) rfl ?_
        refine j_goto (tgt := 41) dX10_cutTold_87 (by decide) ?_
        exact zJw h ⟨rfl, rfl, rfl, rfl, rfl, rfl, trivial⟩
      · have h := h.2 hc13
        refine j_iconst (v := 1) dX10_cutTold_73 rfl ?_
        refine j_iload dX10_cutTold_74 rfl ?_
        refine j_ishl dX10_cutTold_76 ?_
        refine j_goto (tgt := 81) dX10_cutTold_77 (by decide) ?_
        refine j_ior dX10_cutTold_81 ?_
        refine j_istore (L2 := [some (.ref 0), some (.int x1), none, some (.int x3), some (.int x4), some (.int (x5 ||| (zshl 1 x6))), some (.int x6)]) dX10_cutTold_82 (by decide) (zno rfl) rfl ?_
        refine j_iinc (v := (x6 + 1)) (L2 := [some (.ref 0), some (.int x1), none, some (.int x3), some (.int x4), some (.int (x5 ||| (zshl 1 x6))), some (.int (x6 + 1))]) dX10_cutTold_84 rfl rfl (by decide) (zno rfl) rfl ?_
        refine j_goto (tgt := 41) dX10_cutTold_87 (by decide) ?_
        exact zJw h ⟨rfl, rfl, rfl, rfl, rfl, rfl, trivial⟩
theorem eX10_goes (v : Int32) (X : zX) (a1 : Int32) (a2 : Int32) (h : ∃ j1 : Nat, a1 = nI j1 ∧ j1 < 24 ∧ (∃ j2 : Nat, (X 4 j1) = nI j2 ∧ j2 < 12 ∧ (∃ j3 : Nat, a2 = nI j3 ∧ j3 < 24 ∧ (∃ j4 : Nat, (X 4 j3) = nI j4 ∧ j4 < 12 ∧ ((((X 1 j4) ≤ (X 1 j2)) → ((((X 1 j2) ≤ (X 1 j4)) → (2 = v)) ∧ ((¬ ((X 1 j2) ≤ (X 1 j4))) → (0 = v)))) ∧ ((¬ ((X 1 j4) ≤ (X 1 j2))) → (1 = v))))))) : zPf SY 0 mX10_goes [.ref 0, .int a1, .int a2] X v := by
  refine zP_in [some (.ref 0), some (.int a1), some (.int a2), none, none] ⟨rfl, rfl, rfl, trivial⟩ (by decide) (Nat.le_of_ble_eq_true rfl) ?_
  refine j_aload_n dX10_goes_0 rfl ?_
  refine j_getr dX10_goes_1 fX10_7 rfl rfl ?_
  refine j_aload_n dX10_goes_4 rfl ?_
  refine j_getr dX10_goes_5 fX10_19 rfl rfl ?_
  refine j_iload_n dX10_goes_8 rfl ?_
  obtain ⟨j1, ej1, lj1, h⟩ := h
  refine j_iald dX10_goes_9 rfl (zin ej1 lj1 (by decide)) ?_
  rw [zcl ej1 lj1 (by decide)]
  obtain ⟨j2, ej2, lj2, h⟩ := h
  refine j_iald dX10_goes_10 rfl (zin ej2 lj2 (by decide)) ?_
  rw [zcl ej2 lj2 (by decide)]
  refine j_istore_n (L2 := [some (.ref 0), some (.int a1), some (.int a2), some (.int (X 1 j2)), none]) dX10_goes_11 (by decide) (zno rfl) rfl ?_
  refine j_aload_n dX10_goes_12 rfl ?_
  refine j_getr dX10_goes_13 fX10_7 rfl rfl ?_
  refine j_aload_n dX10_goes_16 rfl ?_
  refine j_getr dX10_goes_17 fX10_19 rfl rfl ?_
  refine j_iload_n dX10_goes_20 rfl ?_
  obtain ⟨j3, ej3, lj3, h⟩ := h
  refine j_iald dX10_goes_21 rfl (zin ej3 lj3 (by decide)) ?_
  rw [zcl ej3 lj3 (by decide)]
  obtain ⟨j4, ej4, lj4, h⟩ := h
  refine j_iald dX10_goes_22 rfl (zin ej4 lj4 (by decide)) ?_
  rw [zcl ej4 lj4 (by decide)]
  refine j_istore (L2 := [some (.ref 0), some (.int a1), some (.int a2), some (.int (X 1 j2)), some (.int (X 1 j4))]) dX10_goes_23 (by decide) (zno rfl) rfl ?_
  refine j_iload dX10_goes_25 rfl ?_
  refine j_iload_n dX10_goes_27 rfl ?_
  refine j_ic_le (tgt := 35) dX10_goes_28 (by decide) (fun hc5 => ?_) (fun hc5 => ?_)
  · have h := h.1 hc5
    refine j_iload dX10_goes_35 rfl ?_
    refine j_iload_n dX10_goes_37 rfl ?_
    refine j_ic_ge (tgt := 45) dX10_goes_38 (by decide) (fun hc6 => ?_) (fun hc6 => ?_)
    · have h := h.1 hc6
      refine j_iconst (v := 2) dX10_goes_45 rfl ?_
      refine j_iret dX10_goes_46 rfl rfl ?_
      exact ⟨by rw [h], rfl⟩
    · have h := h.2 hc6
      refine j_iconst (v := 0) dX10_goes_41 rfl ?_
      refine j_goto (tgt := 46) dX10_goes_42 (by decide) ?_
      refine j_iret dX10_goes_46 rfl rfl ?_
      exact ⟨by rw [h], rfl⟩
  · have h := h.2 hc5
    refine j_iconst (v := 1) dX10_goes_31 rfl ?_
    refine j_goto (tgt := 46) dX10_goes_32 (by decide) ?_
    refine j_iret dX10_goes_46 rfl rfl ?_
    exact ⟨by rw [h], rfl⟩
abbrev LX10_tune_29 (v : Int32) (X : zX) (x1 : Int32) (x2 : Int32) (x3 : Int32) (x4 : Int32) : Prop := zJ SY 2 mX10_tune (zRf v X) 29 [some (.ref 0), some (.int x1), some (.int x2), some (.int x3), some (.int x4)] [] X
theorem eX10_tune (v : Int32) (X : zX) (a1 : Int32) (h : ∃ r1 : Int32, zPf SY 1 mX10_isSong [.int a1] X r1 ∧ (((¬ r1 = 0) → (∃ r3 : Int32, zPf SY 0 mX10_lengthOf [.ref 0, .int a1] X r3 ∧ (((r3 ≤ 17) → (LX10_tune_29 v X a1 r3 1 0)) ∧ ((¬ (r3 ≤ 17)) → ((-2) = v))))) ∧ ((r1 = 0) → ((-1) = v)))) : zPf SY 2 mX10_tune [.ref 0, .int a1] X v := by
  refine zP_in [some (.ref 0), some (.int a1), none, none, none] ⟨rfl, rfl, trivial⟩ (by decide) (Nat.le_of_ble_eq_true rfl) ?_
  refine j_iload_n dX10_tune_0 rfl ?_
  obtain ⟨r1, hc, h⟩ := h
  refine j_csf (lc := 1) (as := [.int a1]) dX10_tune_1 iX10_isSong sX10_isSong kX10_118 (by decide) rfl rfl (Nat.zero_le _) hc ?_
  refine j_if_ne (tgt := 9) dX10_tune_4 (by decide) (fun hc2 => ?_) (fun hc2 => ?_)
  · have h := h.1 hc2
    refine j_aload_n dX10_tune_9 rfl ?_
    refine j_iload_n dX10_tune_10 rfl ?_
    obtain ⟨r3, hc, h⟩ := h
    refine j_cvf (lc := 0) (as := [.int a1]) dX10_tune_11 iX10_lengthOf vX10_lengthOf kX10_129 (by decide) rfl rfl rfl rfl (Nat.zero_le _) hc ?_
    refine j_istore_n (L2 := [some (.ref 0), some (.int a1), some (.int r3), none, none]) dX10_tune_14 (by decide) (zno rfl) rfl ?_
    refine j_iload_n dX10_tune_15 rfl ?_
    refine j_bipush (v := 17) dX10_tune_16 rfl ?_
    refine j_ic_le (tgt := 24) dX10_tune_18 (by decide) (fun hc4 => ?_) (fun hc4 => ?_)
    · have h := h.1 hc4
      refine j_iconst (v := 1) dX10_tune_24 rfl ?_
      refine j_istore_n (L2 := [some (.ref 0), some (.int a1), some (.int r3), some (.int 1), none]) dX10_tune_25 (by decide) (zno rfl) rfl ?_
      refine j_iconst (v := 0) dX10_tune_26 rfl ?_
      refine j_istore (L2 := [some (.ref 0), some (.int a1), some (.int r3), some (.int 1), some (.int 0)]) dX10_tune_27 (by decide) (zno rfl) rfl ?_
      exact zJw h ⟨rfl, rfl, rfl, rfl, rfl, trivial⟩
    · have h := h.2 hc4
      refine j_bipush (v := (-2)) dX10_tune_21 rfl ?_
      refine j_iret dX10_tune_23 rfl rfl ?_
      exact ⟨by rw [h], rfl⟩
  · have h := h.2 hc2
    refine j_iconst (v := (-1)) dX10_tune_7 rfl ?_
    refine j_iret dX10_tune_8 rfl rfl ?_
    exact ⟨by rw [h], rfl⟩
theorem bX10_tune_29 (v : Int32) (X : zX) (x1 : Int32) (x2 : Int32) (x3 : Int32) (x4 : Int32) (h : ((x2 ≤ (x4 + 1)) → (x3 = v)) ∧ ((¬ (x2 ≤ (x4 + 1))) → (∃ r6 : Int32, zPf SY 0 mX10_verseBy [.ref 0, .int x1, .int x4] X r6 ∧ (∃ r7 : Int32, zPf SY 0 mX10_verseBy [.ref 0, .int x1, .int (x4 + 1)] X r7 ∧ (∃ r8 : Int32, zPf SY 0 mX10_goes [.ref 0, .int r6, .int r7] X r8 ∧ (LX10_tune_29 v X x1 x2 ((3 * x3) + r8) (x4 + 1))))))) : LX10_tune_29 v X x1 x2 x3 x4 := by
  refine j_iload dX10_tune_29 rfl ?_
  refine j_iconst (v := 1) dX10_tune_31 rfl ?_
  refine j_iadd dX10_tune_32 ?_
  refine j_iload_n dX10_tune_33 rfl ?_
  refine j_ic_ge (tgt := 68) dX10_tune_34 (by decide) (fun hc5 => ?_) (fun hc5 => ?_)
  · have h := h.1 hc5
    refine j_iload_n dX10_tune_68 rfl ?_
    refine j_iret dX10_tune_69 rfl rfl ?_
    exact ⟨by rw [h], rfl⟩
  · have h := h.2 hc5
    refine j_iconst (v := 3) dX10_tune_37 rfl ?_
    refine j_iload_n dX10_tune_38 rfl ?_
    refine j_imul dX10_tune_39 ?_
    refine j_aload_n dX10_tune_40 rfl ?_
    refine j_aload_n dX10_tune_41 rfl ?_
    refine j_iload_n dX10_tune_42 rfl ?_
    refine j_iload dX10_tune_43 rfl ?_
    obtain ⟨r6, hc, h⟩ := h
    refine j_cvf (lc := 0) (as := [.int x1, .int x4]) dX10_tune_45 iX10_verseBy vX10_verseBy kX10_283 (by decide) rfl rfl rfl rfl (by simp [Value.category]) hc ?_
    refine j_aload_n dX10_tune_48 rfl ?_
    refine j_iload_n dX10_tune_49 rfl ?_
    refine j_iload dX10_tune_50 rfl ?_
    refine j_iconst (v := 1) dX10_tune_52 rfl ?_
    refine j_iadd dX10_tune_53 ?_
    obtain ⟨r7, hc, h⟩ := h
    refine j_cvf (lc := 0) (as := [.int x1, .int (x4 + 1)]) dX10_tune_54 iX10_verseBy vX10_verseBy kX10_283 (by decide) rfl rfl rfl rfl (by simp [Value.category]) hc ?_
    obtain ⟨r8, hc, h⟩ := h
    refine j_cvf (lc := 0) (as := [.int r6, .int r7]) dX10_tune_57 iX10_goes vX10_goes kX10_309 (by decide) rfl rfl rfl rfl (by simp [Value.category]) hc ?_
    refine j_iadd dX10_tune_60 ?_
    refine j_istore_n (L2 := [some (.ref 0), some (.int x1), some (.int x2), some (.int ((3 * x3) + r8)), some (.int x4)]) dX10_tune_61 (by decide) (zno rfl) rfl ?_
    refine j_iinc (v := (x4 + 1)) (L2 := [some (.ref 0), some (.int x1), some (.int x2), some (.int ((3 * x3) + r8)), some (.int (x4 + 1))]) dX10_tune_62 rfl rfl (by decide) (zno rfl) rfl ?_
    refine j_goto (tgt := 29) dX10_tune_65 (by decide) ?_
    exact zJw h ⟨rfl, rfl, rfl, rfl, rfl, trivial⟩
theorem eX10_hasSteps (v : Int32) (X : zX) (a1 : Int32) (a2 : Int32) (h : ∃ j1 : Nat, a1 = nI j1 ∧ j1 < 24 ∧ (∃ j2 : Nat, a1 = nI j2 ∧ j2 < 24 ∧ (∃ r3 : Int32, zPf SY 0 mX10_lengthOf [.ref 0, .int (X 3 j2)] X r3 ∧ (((r3 ≤ ((X 8 j1) + a2)) → (0 = v)) ∧ ((¬ (r3 ≤ ((X 8 j1) + a2))) → (1 = v)))))) : zPf SY 1 mX10_hasSteps [.ref 0, .int a1, .int a2] X v := by
  refine zP_in [some (.ref 0), some (.int a1), some (.int a2)] ⟨rfl, rfl, rfl, trivial⟩ (by decide) (Nat.le_of_ble_eq_true rfl) ?_
  refine j_aload_n dX10_hasSteps_0 rfl ?_
  refine j_getr dX10_hasSteps_1 fX10_31 rfl rfl ?_
  refine j_iload_n dX10_hasSteps_4 rfl ?_
  obtain ⟨j1, ej1, lj1, h⟩ := h
  refine j_iald dX10_hasSteps_5 rfl (zin ej1 lj1 (by decide)) ?_
  rw [zcl ej1 lj1 (by decide)]
  refine j_iload_n dX10_hasSteps_6 rfl ?_
  refine j_iadd dX10_hasSteps_7 ?_
  refine j_aload_n dX10_hasSteps_8 rfl ?_
  refine j_aload_n dX10_hasSteps_9 rfl ?_
  refine j_getr dX10_hasSteps_10 fX10_16 rfl rfl ?_
  refine j_iload_n dX10_hasSteps_13 rfl ?_
  obtain ⟨j2, ej2, lj2, h⟩ := h
  refine j_iald dX10_hasSteps_14 rfl (zin ej2 lj2 (by decide)) ?_
  rw [zcl ej2 lj2 (by decide)]
  obtain ⟨r3, hc, h⟩ := h
  refine j_cvf (lc := 0) (as := [.int (X 3 j2)]) dX10_hasSteps_15 iX10_lengthOf vX10_lengthOf kX10_129 (by decide) rfl rfl rfl rfl (by simp [Value.category]) hc ?_
  refine j_ic_ge (tgt := 25) dX10_hasSteps_18 (by decide) (fun hc4 => ?_) (fun hc4 => ?_)
  · have h := h.1 hc4
    refine j_iconst (v := 0) dX10_hasSteps_25 rfl ?_
    refine j_iret dX10_hasSteps_26 rfl (by decide) ?_
    exact ⟨by rw [h], rfl⟩
  · have h := h.2 hc4
    refine j_iconst (v := 1) dX10_hasSteps_21 rfl ?_
    refine j_goto (tgt := 26) dX10_hasSteps_22 (by decide) ?_
    refine j_iret dX10_hasSteps_26 rfl (by decide) ?_
    exact ⟨by rw [h], rfl⟩
abbrev LX10_pieceAt_5 (v : Int32) (X : zX) (x1 : Int32) (x2 : Int32) (x3 : Int32) (x4 : Int32) : Prop := zJ SY 1 mX10_pieceAt (zRf v X) 5 [some (.ref 0), some (.int x1), some (.int x2), some (.int x3), some (.int x4)] [] X
theorem eX10_pieceAt (v : Int32) (X : zX) (a1 : Int32) (a2 : Int32) (h : LX10_pieceAt_5 v X a1 a2 0 0) : zPf SY 1 mX10_pieceAt [.ref 0, .int a1, .int a2] X v := by
  refine zP_in [some (.ref 0), some (.int a1), some (.int a2), none, none] ⟨rfl, rfl, rfl, trivial⟩ (by decide) (Nat.le_of_ble_eq_true rfl) ?_
  refine j_iconst (v := 0) dX10_pieceAt_0 rfl ?_
  refine j_istore_n (L2 := [some (.ref 0), some (.int a1), some (.int a2), some (.int 0), none]) dX10_pieceAt_1 (by decide) (zno rfl) rfl ?_
  refine j_iconst (v := 0) dX10_pieceAt_2 rfl ?_
  refine j_istore (L2 := [some (.ref 0), some (.int a1), some (.int a2), some (.int 0), some (.int 0)]) dX10_pieceAt_3 (by decide) (zno rfl) rfl ?_
  exact zJw h ⟨rfl, rfl, rfl, rfl, rfl, trivial⟩
theorem bX10_pieceAt_5 (v : Int32) (X : zX) (x1 : Int32) (x2 : Int32) (x3 : Int32) (x4 : Int32) (h : ((x2 ≤ x4) → (x3 = v)) ∧ ((¬ (x2 ≤ x4)) → (∃ j2 : Nat, x1 = nI j2 ∧ j2 < 24 ∧ (∃ j3 : Nat, x1 = nI j3 ∧ j3 < 24 ∧ (∃ r4 : Int32, zPf SY 0 mX10_verseBy [.ref 0, .int (X 3 j2), .int ((X 8 j3) + x4)] X r4 ∧ (∃ j5 : Nat, x1 = nI j5 ∧ j5 < 24 ∧ (∃ j6 : Nat, x1 = nI j6 ∧ j6 < 24 ∧ (∃ r7 : Int32, zPf SY 0 mX10_verseBy [.ref 0, .int (X 3 j5), .int (((X 8 j6) + x4) + 1)] X r7 ∧ (∃ r8 : Int32, zPf SY 0 mX10_goes [.ref 0, .int r4, .int r7] X r8 ∧ (LX10_pieceAt_5 v X x1 x2 ((3 * x3) + r8) (x4 + 1))))))))))) : LX10_pieceAt_5 v X x1 x2 x3 x4 := by
  refine j_iload dX10_pieceAt_5 rfl ?_
  refine j_iload_n dX10_pieceAt_7 rfl ?_
  refine j_ic_ge (tgt := 66) dX10_pieceAt_8 (by decide) (fun hc1 => ?_) (fun hc1 => ?_)
  · have h := h.1 hc1
    refine j_iload_n dX10_pieceAt_66 rfl ?_
    refine j_iret dX10_pieceAt_67 rfl rfl ?_
    exact ⟨by rw [h], rfl⟩
  · have h := h.2 hc1
    refine j_iconst (v := 3) dX10_pieceAt_11 rfl ?_
    refine j_iload_n dX10_pieceAt_12 rfl ?_
    refine j_imul dX10_pieceAt_13 ?_
    refine j_aload_n dX10_pieceAt_14 rfl ?_
    refine j_aload_n dX10_pieceAt_15 rfl ?_
    refine j_aload_n dX10_pieceAt_16 rfl ?_
    refine j_getr dX10_pieceAt_17 fX10_16 rfl rfl ?_
    refine j_iload_n dX10_pieceAt_20 rfl ?_
    obtain ⟨j2, ej2, lj2, h⟩ := h
    refine j_iald dX10_pieceAt_21 rfl (zin ej2 lj2 (by decide)) ?_
    rw [zcl ej2 lj2 (by decide)]
    refine j_aload_n dX10_pieceAt_22 rfl ?_
    refine j_getr dX10_pieceAt_23 fX10_31 rfl rfl ?_
    refine j_iload_n dX10_pieceAt_26 rfl ?_
    obtain ⟨j3, ej3, lj3, h⟩ := h
    refine j_iald dX10_pieceAt_27 rfl (zin ej3 lj3 (by decide)) ?_
    rw [zcl ej3 lj3 (by decide)]
    refine j_iload dX10_pieceAt_28 rfl ?_
    refine j_iadd dX10_pieceAt_30 ?_
    obtain ⟨r4, hc, h⟩ := h
    refine j_cvf (lc := 0) (as := [.int (X 3 j2), .int ((X 8 j3) + x4)]) dX10_pieceAt_31 iX10_verseBy vX10_verseBy kX10_283 (by decide) rfl rfl rfl rfl (by simp [Value.category]) hc ?_
    refine j_aload_n dX10_pieceAt_34 rfl ?_
    refine j_aload_n dX10_pieceAt_35 rfl ?_
    refine j_getr dX10_pieceAt_36 fX10_16 rfl rfl ?_
    refine j_iload_n dX10_pieceAt_39 rfl ?_
    obtain ⟨j5, ej5, lj5, h⟩ := h
    refine j_iald dX10_pieceAt_40 rfl (zin ej5 lj5 (by decide)) ?_
    rw [zcl ej5 lj5 (by decide)]
    refine j_aload_n dX10_pieceAt_41 rfl ?_
    refine j_getr dX10_pieceAt_42 fX10_31 rfl rfl ?_
    refine j_iload_n dX10_pieceAt_45 rfl ?_
    obtain ⟨j6, ej6, lj6, h⟩ := h
    refine j_iald dX10_pieceAt_46 rfl (zin ej6 lj6 (by decide)) ?_
    rw [zcl ej6 lj6 (by decide)]
    refine j_iload dX10_pieceAt_47 rfl ?_
    refine j_iadd dX10_pieceAt_49 ?_
    refine j_iconst (v := 1) dX10_pieceAt_50 rfl ?_
    refine j_iadd dX10_pieceAt_51 ?_
    obtain ⟨r7, hc, h⟩ := h
    refine j_cvf (lc := 0) (as := [.int (X 3 j5), .int (((X 8 j6) + x4) + 1)]) dX10_pieceAt_52 iX10_verseBy vX10_verseBy kX10_283 (by decide) rfl rfl rfl rfl (by simp [Value.category]) hc ?_
    obtain ⟨r8, hc, h⟩ := h
    refine j_cvf (lc := 0) (as := [.int r4, .int r7]) dX10_pieceAt_55 iX10_goes vX10_goes kX10_309 (by decide) rfl rfl rfl rfl (by simp [Value.category]) hc ?_
    refine j_iadd dX10_pieceAt_58 ?_
    refine j_istore_n (L2 := [some (.ref 0), some (.int x1), some (.int x2), some (.int ((3 * x3) + r8)), some (.int x4)]) dX10_pieceAt_59 (by decide) (zno rfl) rfl ?_
    refine j_iinc (v := (x4 + 1)) (L2 := [some (.ref 0), some (.int x1), some (.int x2), some (.int ((3 * x3) + r8)), some (.int (x4 + 1))]) dX10_pieceAt_60 rfl rfl (by decide) (zno rfl) rfl ?_
    refine j_goto (tgt := 5) dX10_pieceAt_63 (by decide) ?_
    exact zJw h ⟨rfl, rfl, rfl, rfl, rfl, trivial⟩
abbrev LX10_fitting_5 (v : Int32) (X : zX) (x1 : Int32) (x2 : Int32) (x3 : Int32) (x4 : Int32) : Prop := zJ SY 2 mX10_fitting (zRf v X) 5 [some (.ref 0), some (.int x1), some (.int x2), some (.int x3), some (.int x4)] [] X
theorem eX10_fitting (v : Int32) (X : zX) (a1 : Int32) (a2 : Int32) (h : LX10_fitting_5 v X a1 a2 0 0) : zPf SY 2 mX10_fitting [.ref 0, .int a1, .int a2] X v := by
  refine zP_in [some (.ref 0), some (.int a1), some (.int a2), none, none] ⟨rfl, rfl, rfl, trivial⟩ (by decide) (Nat.le_of_ble_eq_true rfl) ?_
  refine j_iconst (v := 0) dX10_fitting_0 rfl ?_
  refine j_istore_n (L2 := [some (.ref 0), some (.int a1), some (.int a2), some (.int 0), none]) dX10_fitting_1 (by decide) (zno rfl) rfl ?_
  refine j_iconst (v := 0) dX10_fitting_2 rfl ?_
  refine j_istore (L2 := [some (.ref 0), some (.int a1), some (.int a2), some (.int 0), some (.int 0)]) dX10_fitting_3 (by decide) (zno rfl) rfl ?_
  exact zJw h ⟨rfl, rfl, rfl, rfl, rfl, trivial⟩
theorem bX10_fitting_5 (v : Int32) (X : zX) (x1 : Int32) (x2 : Int32) (x3 : Int32) (x4 : Int32) (h : (((X 0 3) ≤ x4) → (x3 = v)) ∧ ((¬ ((X 0 3) ≤ x4)) → (∃ r2 : Int32, zPf SY 1 mX10_hasSteps [.ref 0, .int x4, .int x1] X r2 ∧ (((r2 = 0) → (LX10_fitting_5 v X x1 x2 (x3 ||| 0) (x4 + 1))) ∧ ((¬ (r2 = 0)) → (∃ r4 : Int32, zPf SY 1 mX10_pieceAt [.ref 0, .int x4, .int x1] X r4 ∧ (((¬ r4 = x2) → (LX10_fitting_5 v X x1 x2 (x3 ||| 0) (x4 + 1))) ∧ ((r4 = x2) → (LX10_fitting_5 v X x1 x2 (x3 ||| (zshl 1 x4)) (x4 + 1)))))))))) : LX10_fitting_5 v X x1 x2 x3 x4 := by
  refine j_iload dX10_fitting_5 rfl ?_
  refine j_aload_n dX10_fitting_7 rfl ?_
  refine j_getf dX10_fitting_8 fX10_106 rfl rfl ?_
  refine j_ic_ge (tgt := 52) dX10_fitting_11 (by decide) (fun hc1 => ?_) (fun hc1 => ?_)
  · have h := h.1 hc1
    refine j_iload_n dX10_fitting_52 rfl ?_
    refine j_iret dX10_fitting_53 rfl rfl ?_
    exact ⟨by rw [h], rfl⟩
  · have h := h.2 hc1
    refine j_iload_n dX10_fitting_14 rfl ?_
    refine j_aload_n dX10_fitting_15 rfl ?_
    refine j_iload dX10_fitting_16 rfl ?_
    refine j_iload_n dX10_fitting_18 rfl ?_
    obtain ⟨r2, hc, h⟩ := h
    refine j_cvf (lc := 1) (as := [.int x4, .int x1]) dX10_fitting_19 iX10_hasSteps vX10_hasSteps kX10_312 (by decide) rfl rfl rfl rfl (by simp [Value.category]) hc ?_
    refine j_if_eq (tgt := 43) dX10_fitting_22 (by decide) (fun hc3 => ?_) (fun hc3 => ?_)
    · have h := h.1 hc3
      refine j_iconst (v := 0) dX10_fitting_43 rfl ?_
      refine j_ior dX10_fitting_44 ?_
      refine j_istore_n (L2 := [some (.ref 0), some (.int x1), some (.int x2), some (.int (x3 ||| 0)), some (.int x4)]) dX10_fitting_45 (by decide) (zno rfl) rfl ?_
      refine j_iinc (v := (x4 + 1)) (L2 := [some (.ref 0), some (.int x1), some (.int x2), some (.int (x3 ||| 0)), some (.int (x4 + 1))]) dX10_fitting_46 rfl rfl (by decide) (zno rfl) rfl ?_
      refine j_goto (tgt := 5) dX10_fitting_49 (by decide) ?_
      exact zJw h ⟨rfl, rfl, rfl, rfl, rfl, trivial⟩
    · have h := h.2 hc3
      refine j_aload_n dX10_fitting_25 rfl ?_
      refine j_iload dX10_fitting_26 rfl ?_
      refine j_iload_n dX10_fitting_28 rfl ?_
      obtain ⟨r4, hc, h⟩ := h
      refine j_cvf (lc := 1) (as := [.int x4, .int x1]) dX10_fitting_29 iX10_pieceAt vX10_pieceAt kX10_315 (by decide) rfl rfl rfl rfl (by simp [Value.category]) hc ?_
      refine j_iload_n dX10_fitting_32 rfl ?_
      refine j_ic_ne (tgt := 43) dX10_fitting_33 (by decide) (fun hc5 => ?_) (fun hc5 => ?_)
      · have h := h.1 hc5
        refine j_iconst (v := 0) dX10_fitting_43 rfl ?_
        refine j_ior dX10_fitting_44 ?_
        refine j_istore_n (L2 := [some (.ref 0), some (.int x1), some (.int x2), some (.int (x3 ||| 0)), some (.int x4)]) dX10_fitting_45 (by decide) (zno rfl) rfl ?_
        refine j_iinc (v := (x4 + 1)) (L2 := [some (.ref 0), some (.int x1), some (.int x2), some (.int (x3 ||| 0)), some (.int (x4 + 1))]) dX10_fitting_46 rfl rfl (by decide) (zno rfl) rfl ?_
        refine j_goto (tgt := 5) dX10_fitting_49 (by decide) ?_
        exact zJw h ⟨rfl, rfl, rfl, rfl, rfl, trivial⟩
      · have h := h.2 hc5
        refine j_iconst (v := 1) dX10_fitting_36 rfl ?_
        refine j_iload dX10_fitting_37 rfl ?_
        refine j_ishl dX10_fitting_39 ?_
        refine j_goto (tgt := 44) dX10_fitting_40 (by decide) ?_
        refine j_ior dX10_fitting_44 ?_
        refine j_istore_n (L2 := [some (.ref 0), some (.int x1), some (.int x2), some (.int (x3 ||| (zshl 1 x4))), some (.int x4)]) dX10_fitting_45 (by decide) (zno rfl) rfl ?_
        refine j_iinc (v := (x4 + 1)) (L2 := [some (.ref 0), some (.int x1), some (.int x2), some (.int (x3 ||| (zshl 1 x4))), some (.int (x4 + 1))]) dX10_fitting_46 rfl rfl (by decide) (zno rfl) rfl ?_
        refine j_goto (tgt := 5) dX10_fitting_49 (by decide) ?_
        exact zJw h ⟨rfl, rfl, rfl, rfl, rfl, trivial⟩
abbrev LX10_firstOf_2 (v : Int32) (X : zX) (x0 : Int32) (x1 : Int32) : Prop := zJ SY 0 mX10_firstOf (zRf v X) 2 [some (.int x0), some (.int x1)] [] X
theorem eX10_firstOf (v : Int32) (X : zX) (a1 : Int32) (h : LX10_firstOf_2 v X a1 0) : zPf SY 0 mX10_firstOf [.int a1] X v := by
  refine zP_in [some (.int a1), none] ⟨rfl, trivial⟩ (by decide) (Nat.le_of_ble_eq_true rfl) ?_
  refine j_iconst (v := 0) dX10_firstOf_0 rfl ?_
  refine j_istore_n (L2 := [some (.int a1), some (.int 0)]) dX10_firstOf_1 (by decide) (zno rfl) rfl ?_
  exact zJw h ⟨rfl, rfl, trivial⟩
theorem bX10_firstOf_2 (v : Int32) (X : zX) (x0 : Int32) (x1 : Int32) (h : ((¬ ((zshr x0 x1) &&& 1) = 0) → (x1 = v)) ∧ ((((zshr x0 x1) &&& 1) = 0) → (LX10_firstOf_2 v X x0 (x1 + 1)))) : LX10_firstOf_2 v X x0 x1 := by
  refine j_iload_n dX10_firstOf_2 rfl ?_
  refine j_iload_n dX10_firstOf_3 rfl ?_
  refine j_ishr dX10_firstOf_4 ?_
  refine j_iconst (v := 1) dX10_firstOf_5 rfl ?_
  refine j_iand dX10_firstOf_6 ?_
  refine j_if_ne (tgt := 16) dX10_firstOf_7 (by decide) (fun hc1 => ?_) (fun hc1 => ?_)
  · have h := h.1 hc1
    refine j_iload_n dX10_firstOf_16 rfl ?_
    refine j_iret dX10_firstOf_17 rfl rfl ?_
    exact ⟨by rw [h], rfl⟩
  · have h := h.2 hc1
    refine j_iinc (v := (x1 + 1)) (L2 := [some (.int x0), some (.int (x1 + 1))]) dX10_firstOf_10 rfl rfl (by decide) (zno rfl) rfl ?_
    refine j_goto (tgt := 2) dX10_firstOf_13 (by decide) ?_
    exact zJw h ⟨rfl, rfl, trivial⟩
abbrev LX10_where_6 (v : Int32) (X : zX) (x1 : Int32) (x2 : Int32) (x3 : Int32) (x4 : Int32) (x5 : Int32) : Prop := zJ SY 3 mX10_where (zRf v X) 6 [some (.ref 0), some (.int x1), some (.int x2), some (.int x3), some (.int x4), some (.int x5)] [] X
theorem eX10_where (v : Int32) (X : zX) (a1 : Int32) (a2 : Int32) (a3 : Int32) (h : LX10_where_6 v X a1 a2 a3 1 0) : zPf SY 3 mX10_where [.ref 0, .int a1, .int a2, .int a3] X v := by
  refine zP_in [some (.ref 0), some (.int a1), some (.int a2), some (.int a3), none, none] ⟨rfl, rfl, rfl, rfl, trivial⟩ (by decide) (Nat.le_of_ble_eq_true rfl) ?_
  refine j_iconst (v := 1) dX10_where_0 rfl ?_
  refine j_istore (L2 := [some (.ref 0), some (.int a1), some (.int a2), some (.int a3), some (.int 1), none]) dX10_where_1 (by decide) (zno rfl) rfl ?_
  refine j_iconst (v := 0) dX10_where_3 rfl ?_
  refine j_istore (L2 := [some (.ref 0), some (.int a1), some (.int a2), some (.int a3), some (.int 1), some (.int 0)]) dX10_where_4 (by decide) (zno rfl) rfl ?_
  exact zJw h ⟨rfl, rfl, rfl, rfl, rfl, rfl, trivial⟩
theorem bX10_where_6 (v : Int32) (X : zX) (x1 : Int32) (x2 : Int32) (x3 : Int32) (x4 : Int32) (x5 : Int32) (h : ((x1 ≤ x5) → (∃ r2 : Int32, zPf SY 0 mX10_in [.long x1.toInt64, .long 1, .long 8] X r2 ∧ (((r2 = 0) → ((-1) = v)) ∧ ((¬ (r2 = 0)) → (∃ r4 : Int32, zPf SY 0 mX10_in [.long x2.toInt64, .long 0, .long (x4 - 1).toInt64] X r4 ∧ (((r4 = 0) → ((-1) = v)) ∧ ((¬ (r4 = 0)) → (∃ r6 : Int32, zPf SY 0 mX10_in [.long x3.toInt64, .long 0, .long 2] X r6 ∧ (((¬ r6 = 0) → (∃ r8 : Int32, zPf SY 2 mX10_fitting [.ref 0, .int x1, .int x2] X r8 ∧ (((¬ x3 = 0) → (((¬ x3 = 2) → (((¬ r8 = 0) → (∃ r12 : Int32, zPf SY 0 mX10_firstOf [.int r8] X r12 ∧ (r12 = v))) ∧ ((r8 = 0) → ((-4) = v)))) ∧ ((x3 = 2) → (r8 = v)))) ∧ ((x3 = 0) → (∃ r13 : Int32, zPf SY 0 mX10_countOf [.int r8] X r13 ∧ (r13 = v)))))) ∧ ((r6 = 0) → ((-1) = v))))))))))) ∧ ((¬ (x1 ≤ x5)) → (((8 ≤ x5) → (∃ r15 : Int32, zPf SY 0 mX10_in [.long x1.toInt64, .long 1, .long 8] X r15 ∧ (((r15 = 0) → ((-1) = v)) ∧ ((¬ (r15 = 0)) → (∃ r17 : Int32, zPf SY 0 mX10_in [.long x2.toInt64, .long 0, .long (x4 - 1).toInt64] X r17 ∧ (((r17 = 0) → ((-1) = v)) ∧ ((¬ (r17 = 0)) → (∃ r19 : Int32, zPf SY 0 mX10_in [.long x3.toInt64, .long 0, .long 2] X r19 ∧ (((¬ r19 = 0) → (∃ r21 : Int32, zPf SY 2 mX10_fitting [.ref 0, .int x1, .int x2] X r21 ∧ (((¬ x3 = 0) → (((¬ x3 = 2) → (((¬ r21 = 0) → (∃ r25 : Int32, zPf SY 0 mX10_firstOf [.int r21] X r25 ∧ (r25 = v))) ∧ ((r21 = 0) → ((-4) = v)))) ∧ ((x3 = 2) → (r21 = v)))) ∧ ((x3 = 0) → (∃ r26 : Int32, zPf SY 0 mX10_countOf [.int r21] X r26 ∧ (r26 = v)))))) ∧ ((r19 = 0) → ((-1) = v))))))))))) ∧ ((¬ (8 ≤ x5)) → (LX10_where_6 v X x1 x2 x3 (x4 * 3) (x5 + 1)))))) : LX10_where_6 v X x1 x2 x3 x4 x5 := by
  refine j_iload dX10_where_6 rfl ?_
  refine j_iload_n dX10_where_8 rfl ?_
  refine j_ic_ge (tgt := 31) dX10_where_9 (by decide) (fun hc1 => ?_) (fun hc1 => ?_)
  · have h := h.1 hc1
    refine j_iload_n dX10_where_31 rfl ?_
    refine j_i2l dX10_where_32 ?_
    refine j_lconst (v := 1) dX10_where_33 rfl ?_
    refine j_ldc2 (v := 8) dX10_where_34 qX10_125 ?_
    obtain ⟨r2, hc, h⟩ := h
    refine j_csf (lc := 0) (as := [.long x1.toInt64, .long 1, .long 8]) dX10_where_37 iX10_in sX10_in kX10_102 (by decide) rfl rfl (Nat.zero_le _) hc ?_
    refine j_if_eq (tgt := 69) dX10_where_40 (by decide) (fun hc3 => ?_) (fun hc3 => ?_)
    · have h := h.1 hc3
      refine j_iconst (v := (-1)) dX10_where_69 rfl ?_
      refine j_iret dX10_where_70 rfl rfl ?_
      exact ⟨by rw [h], rfl⟩
    · have h := h.2 hc3
      refine j_iload_n dX10_where_43 rfl ?_
      refine j_i2l dX10_where_44 ?_
      refine j_lconst (v := 0) dX10_where_45 rfl ?_
      refine j_iload dX10_where_46 rfl ?_
      refine j_iconst (v := 1) dX10_where_48 rfl ?_
      refine j_isub dX10_where_49 ?_
      refine j_i2l dX10_where_50 ?_
      obtain ⟨r4, hc, h⟩ := h
      refine j_csf (lc := 0) (as := [.long x2.toInt64, .long 0, .long (x4 - 1).toInt64]) dX10_where_51 iX10_in sX10_in kX10_102 (by decide) rfl rfl (Nat.zero_le _) hc ?_
      refine j_if_eq (tgt := 69) dX10_where_54 (by decide) (fun hc5 => ?_) (fun hc5 => ?_)
      · have h := h.1 hc5
        refine j_iconst (v := (-1)) dX10_where_69 rfl ?_
        refine j_iret dX10_where_70 rfl rfl ?_
        exact ⟨by rw [h], rfl⟩
      · have h := h.2 hc5
        refine j_iload_n dX10_where_57 rfl ?_
        refine j_i2l dX10_where_58 ?_
        refine j_lconst (v := 0) dX10_where_59 rfl ?_
        refine j_ldc2 (v := 2) dX10_where_60 qX10_257 ?_
        obtain ⟨r6, hc, h⟩ := h
        refine j_csf (lc := 0) (as := [.long x3.toInt64, .long 0, .long 2]) dX10_where_63 iX10_in sX10_in kX10_102 (by decide) rfl rfl (Nat.zero_le _) hc ?_
        refine j_if_ne (tgt := 71) dX10_where_66 (by decide) (fun hc7 => ?_) (fun hc7 => ?_)
        · have h := h.1 hc7
          refine j_aload_n dX10_where_71 rfl ?_
          refine j_iload_n dX10_where_72 rfl ?_
          refine j_iload_n dX10_where_73 rfl ?_
          obtain ⟨r8, hc, h⟩ := h
          refine j_cvf (lc := 2) (as := [.int x1, .int x2]) dX10_where_74 iX10_fitting vX10_fitting kX10_318 (by decide) rfl rfl rfl rfl (Nat.zero_le _) hc ?_
          refine j_istore (L2 := [some (.ref 0), some (.int x1), some (.int x2), some (.int x3), some (.int x4), some (.int r8)]) dX10_where_77 (by decide) (zno rfl) rfl ?_
          refine j_iload_n dX10_where_79 rfl ?_
          refine j_if_ne (tgt := 91) dX10_where_80 (by decide) (fun hc9 => ?_) (fun hc9 => ?_)
          · have h := h.1 hc9
            refine j_iload_n dX10_where_91 rfl ?_
            refine j_iconst (v := 2) dX10_where_92 rfl ?_
            refine j_ic_ne (tgt := 101) dX10_where_93 (by decide) (fun hc10 => ?_) (fun hc10 => ?_)
            · have h := h.1 hc10
              refine j_iload dX10_where_101 rfl ?_
              refine j_if_ne (tgt := 111) dX10_where_103 (by decide) (fun hc11 => ?_) (fun hc11 => ?_)
              · have h := h.1 hc11
                refine j_iload dX10_where_111 rfl ?_
                obtain ⟨r12, hc, h⟩ := h
                refine j_csf (lc := 0) (as := [.int r8]) dX10_where_113 iX10_firstOf sX10_firstOf kX10_321 (by decide) rfl rfl (Nat.zero_le _) hc ?_
                refine j_iret dX10_where_116 rfl rfl ?_
                exact ⟨by rw [h], rfl⟩
              · have h := h.2 hc11
                refine j_bipush (v := (-4)) dX10_where_106 rfl ?_
                refine j_goto (tgt := 116) dX10_where_108 (by decide) ?_
                refine j_iret dX10_where_116 rfl rfl ?_
                exact ⟨by rw [h], rfl⟩
            · have h := h.2 hc10
              refine j_iload dX10_where_96 rfl ?_
              refine j_goto (tgt := 116) dX10_where_98 (by decide) ?_
              refine j_iret dX10_where_116 rfl rfl ?_
              exact ⟨by rw [h], rfl⟩
          · have h := h.2 hc9
            refine j_iload dX10_where_83 rfl ?_
            obtain ⟨r13, hc, h⟩ := h
            refine j_csf (lc := 0) (as := [.int r8]) dX10_where_85 iX10_countOf sX10_countOf kX10_300 (by decide) rfl rfl (Nat.zero_le _) hc ?_
            refine j_goto (tgt := 116) dX10_where_88 (by decide) ?_
            refine j_iret dX10_where_116 rfl rfl ?_
            exact ⟨by rw [h], rfl⟩
        · have h := h.2 hc7
          refine j_iconst (v := (-1)) dX10_where_69 rfl ?_
          refine j_iret dX10_where_70 rfl rfl ?_
          exact ⟨by rw [h], rfl⟩
  · have h := h.2 hc1
    refine j_iload dX10_where_12 rfl ?_
    refine j_bipush (v := 8) dX10_where_14 rfl ?_
    refine j_ic_ge (tgt := 31) dX10_where_16 (by decide) (fun hc14 => ?_) (fun hc14 => ?_)
    · have h := h.1 hc14
      refine j_iload_n dX10_where_31 rfl ?_
      refine j_i2l dX10_where_32 ?_
      refine j_lconst (v := 1) dX10_where_33 rfl ?_
      refine j_ldc2 (v := 8) dX10_where_34 qX10_125 ?_
      obtain ⟨r15, hc, h⟩ := h
      refine j_csf (lc := 0) (as := [.long x1.toInt64, .long 1, .long 8]) dX10_where_37 iX10_in sX10_in kX10_102 (by decide) rfl rfl (Nat.zero_le _) hc ?_
      refine j_if_eq (tgt := 69) dX10_where_40 (by decide) (fun hc16 => ?_) (fun hc16 => ?_)
      · have h := h.1 hc16
        refine j_iconst (v := (-1)) dX10_where_69 rfl ?_
        refine j_iret dX10_where_70 rfl rfl ?_
        exact ⟨by rw [h], rfl⟩
      · have h := h.2 hc16
        refine j_iload_n dX10_where_43 rfl ?_
        refine j_i2l dX10_where_44 ?_
        refine j_lconst (v := 0) dX10_where_45 rfl ?_
        refine j_iload dX10_where_46 rfl ?_
        refine j_iconst (v := 1) dX10_where_48 rfl ?_
        refine j_isub dX10_where_49 ?_
        refine j_i2l dX10_where_50 ?_
        obtain ⟨r17, hc, h⟩ := h
        refine j_csf (lc := 0) (as := [.long x2.toInt64, .long 0, .long (x4 - 1).toInt64]) dX10_where_51 iX10_in sX10_in kX10_102 (by decide) rfl rfl (Nat.zero_le _) hc ?_
        refine j_if_eq (tgt := 69) dX10_where_54 (by decide) (fun hc18 => ?_) (fun hc18 => ?_)
        · have h := h.1 hc18
          refine j_iconst (v := (-1)) dX10_where_69 rfl ?_
          refine j_iret dX10_where_70 rfl rfl ?_
          exact ⟨by rw [h], rfl⟩
        · have h := h.2 hc18
          refine j_iload_n dX10_where_57 rfl ?_
          refine j_i2l dX10_where_58 ?_
          refine j_lconst (v := 0) dX10_where_59 rfl ?_
          refine j_ldc2 (v := 2) dX10_where_60 qX10_257 ?_
          obtain ⟨r19, hc, h⟩ := h
          refine j_csf (lc := 0) (as := [.long x3.toInt64, .long 0, .long 2]) dX10_where_63 iX10_in sX10_in kX10_102 (by decide) rfl rfl (Nat.zero_le _) hc ?_
          refine j_if_ne (tgt := 71) dX10_where_66 (by decide) (fun hc20 => ?_) (fun hc20 => ?_)
          · have h := h.1 hc20
            refine j_aload_n dX10_where_71 rfl ?_
            refine j_iload_n dX10_where_72 rfl ?_
            refine j_iload_n dX10_where_73 rfl ?_
            obtain ⟨r21, hc, h⟩ := h
            refine j_cvf (lc := 2) (as := [.int x1, .int x2]) dX10_where_74 iX10_fitting vX10_fitting kX10_318 (by decide) rfl rfl rfl rfl (Nat.zero_le _) hc ?_
            refine j_istore (L2 := [some (.ref 0), some (.int x1), some (.int x2), some (.int x3), some (.int x4), some (.int r21)]) dX10_where_77 (by decide) (zno rfl) rfl ?_
            refine j_iload_n dX10_where_79 rfl ?_
            refine j_if_ne (tgt := 91) dX10_where_80 (by decide) (fun hc22 => ?_) (fun hc22 => ?_)
            · have h := h.1 hc22
              refine j_iload_n dX10_where_91 rfl ?_
              refine j_iconst (v := 2) dX10_where_92 rfl ?_
              refine j_ic_ne (tgt := 101) dX10_where_93 (by decide) (fun hc23 => ?_) (fun hc23 => ?_)
              · have h := h.1 hc23
                refine j_iload dX10_where_101 rfl ?_
                refine j_if_ne (tgt := 111) dX10_where_103 (by decide) (fun hc24 => ?_) (fun hc24 => ?_)
                · have h := h.1 hc24
                  refine j_iload dX10_where_111 rfl ?_
                  obtain ⟨r25, hc, h⟩ := h
                  refine j_csf (lc := 0) (as := [.int r21]) dX10_where_113 iX10_firstOf sX10_firstOf kX10_321 (by decide) rfl rfl (Nat.zero_le _) hc ?_
                  refine j_iret dX10_where_116 rfl rfl ?_
                  exact ⟨by rw [h], rfl⟩
                · have h := h.2 hc24
                  refine j_bipush (v := (-4)) dX10_where_106 rfl ?_
                  refine j_goto (tgt := 116) dX10_where_108 (by decide) ?_
                  refine j_iret dX10_where_116 rfl rfl ?_
                  exact ⟨by rw [h], rfl⟩
              · have h := h.2 hc23
                refine j_iload dX10_where_96 rfl ?_
                refine j_goto (tgt := 116) dX10_where_98 (by decide) ?_
                refine j_iret dX10_where_116 rfl rfl ?_
                exact ⟨by rw [h], rfl⟩
            · have h := h.2 hc22
              refine j_iload dX10_where_83 rfl ?_
              obtain ⟨r26, hc, h⟩ := h
              refine j_csf (lc := 0) (as := [.int r21]) dX10_where_85 iX10_countOf sX10_countOf kX10_300 (by decide) rfl rfl (Nat.zero_le _) hc ?_
              refine j_goto (tgt := 116) dX10_where_88 (by decide) ?_
              refine j_iret dX10_where_116 rfl rfl ?_
              exact ⟨by rw [h], rfl⟩
          · have h := h.2 hc20
            refine j_iconst (v := (-1)) dX10_where_69 rfl ?_
            refine j_iret dX10_where_70 rfl rfl ?_
            exact ⟨by rw [h], rfl⟩
    · have h := h.2 hc14
      refine j_iload dX10_where_19 rfl ?_
      refine j_iconst (v := 3) dX10_where_21 rfl ?_
      refine j_imul dX10_where_22 ?_
      refine j_istore (L2 := [some (.ref 0), some (.int x1), some (.int x2), some (.int x3), some (.int (x4 * 3)), some (.int x5)]) dX10_where_23 (by decide) (zno rfl) rfl ?_
      refine j_iinc (v := (x5 + 1)) (L2 := [some (.ref 0), some (.int x1), some (.int x2), some (.int x3), some (.int (x4 * 3)), some (.int (x5 + 1))]) dX10_where_25 rfl rfl (by decide) (zno rfl) rfl ?_
      refine j_goto (tgt := 6) dX10_where_28 (by decide) ?_
      exact zJw h ⟨rfl, rfl, rfl, rfl, rfl, rfl, trivial⟩
abbrev LX10_sure_12 (v : Int32) (X : zX) (x1 : Int32) (x2 : Int32) : Prop := zJ SY 3 mX10_sure (zRf v X) 12 [some (.ref 0), some (.int x1), some (.int x2)] [] X
theorem eX10_sure (v : Int32) (X : zX) (a1 : Int32) (h : ∃ r1 : Int32, zPf SY 1 mX10_isVerse [.ref 0, .int a1] X r1 ∧ (((¬ r1 = 0) → (LX10_sure_12 v X a1 1)) ∧ ((r1 = 0) → ((-1) = v)))) : zPf SY 3 mX10_sure [.ref 0, .int a1] X v := by
  refine zP_in [some (.ref 0), some (.int a1), none] ⟨rfl, rfl, trivial⟩ (by decide) (Nat.le_of_ble_eq_true rfl) ?_
  refine j_aload_n dX10_sure_0 rfl ?_
  refine j_iload_n dX10_sure_1 rfl ?_
  obtain ⟨r1, hc, h⟩ := h
  refine j_cvf (lc := 1) (as := [.int a1]) dX10_sure_2 iX10_isVerse vX10_isVerse kX10_147 (by decide) rfl rfl rfl rfl (Nat.zero_le _) hc ?_
  refine j_if_ne (tgt := 10) dX10_sure_5 (by decide) (fun hc2 => ?_) (fun hc2 => ?_)
  · have h := h.1 hc2
    refine j_iconst (v := 1) dX10_sure_10 rfl ?_
    refine j_istore_n (L2 := [some (.ref 0), some (.int a1), some (.int 1)]) dX10_sure_11 (by decide) (zno rfl) rfl ?_
    exact zJw h ⟨rfl, rfl, rfl, trivial⟩
  · have h := h.2 hc2
    refine j_iconst (v := (-1)) dX10_sure_8 rfl ?_
    refine j_iret dX10_sure_9 rfl rfl ?_
    exact ⟨by rw [h], rfl⟩
theorem bX10_sure_12 (v : Int32) (X : zX) (x1 : Int32) (x2 : Int32) (h : ((8 < x2) → ((-4) = v)) ∧ ((¬ (8 < x2)) → (∃ r4 : Int32, zPf SY 1 mX10_hasSteps [.ref 0, .int x1, .int x2] X r4 ∧ (((r4 = 0) → (LX10_sure_12 v X x1 (x2 + 1))) ∧ ((¬ (r4 = 0)) → (∃ r6 : Int32, zPf SY 1 mX10_pieceAt [.ref 0, .int x1, .int x2] X r6 ∧ (∃ r7 : Int32, zPf SY 2 mX10_fitting [.ref 0, .int x2, .int r6] X r7 ∧ (((¬ r7 = (zshl 1 x1)) → (LX10_sure_12 v X x1 (x2 + 1))) ∧ ((r7 = (zshl 1 x1)) → (x2 = v)))))))))) : LX10_sure_12 v X x1 x2 := by
  refine j_iload_n dX10_sure_12 rfl ?_
  refine j_bipush (v := 8) dX10_sure_13 rfl ?_
  refine j_ic_gt (tgt := 52) dX10_sure_15 (by decide) (fun hc3 => ?_) (fun hc3 => ?_)
  · have h := h.1 hc3
    refine j_bipush (v := (-4)) dX10_sure_52 rfl ?_
    refine j_iret dX10_sure_54 rfl rfl ?_
    exact ⟨by rw [h], rfl⟩
  · have h := h.2 hc3
    refine j_aload_n dX10_sure_18 rfl ?_
    refine j_iload_n dX10_sure_19 rfl ?_
    refine j_iload_n dX10_sure_20 rfl ?_
    obtain ⟨r4, hc, h⟩ := h
    refine j_cvf (lc := 1) (as := [.int x1, .int x2]) dX10_sure_21 iX10_hasSteps vX10_hasSteps kX10_312 (by decide) rfl rfl rfl rfl (Nat.zero_le _) hc ?_
    refine j_if_eq (tgt := 46) dX10_sure_24 (by decide) (fun hc5 => ?_) (fun hc5 => ?_)
    · have h := h.1 hc5
      refine j_iinc (v := (x2 + 1)) (L2 := [some (.ref 0), some (.int x1), some (.int (x2 + 1))]) dX10_sure_46 rfl rfl (by decide) (zno rfl) rfl ?_
      refine j_goto (tgt := 12) dX10_sure_49 (by decide) ?_
      exact zJw h ⟨rfl, rfl, rfl, trivial⟩
    · have h := h.2 hc5
      refine j_aload_n dX10_sure_27 rfl ?_
      refine j_iload_n dX10_sure_28 rfl ?_
      refine j_aload_n dX10_sure_29 rfl ?_
      refine j_iload_n dX10_sure_30 rfl ?_
      refine j_iload_n dX10_sure_31 rfl ?_
      obtain ⟨r6, hc, h⟩ := h
      refine j_cvf (lc := 1) (as := [.int x1, .int x2]) dX10_sure_32 iX10_pieceAt vX10_pieceAt kX10_315 (by decide) rfl rfl rfl rfl (by simp [Value.category]) hc ?_
      obtain ⟨r7, hc, h⟩ := h
      refine j_cvf (lc := 2) (as := [.int x2, .int r6]) dX10_sure_35 iX10_fitting vX10_fitting kX10_318 (by decide) rfl rfl rfl rfl (Nat.zero_le _) hc ?_
      refine j_iconst (v := 1) dX10_sure_38 rfl ?_
      refine j_iload_n dX10_sure_39 rfl ?_
      refine j_ishl dX10_sure_40 ?_
      refine j_ic_ne (tgt := 46) dX10_sure_41 (by decide) (fun hc8 => ?_) (fun hc8 => ?_)
      · have h := h.1 hc8
        refine j_iinc (v := (x2 + 1)) (L2 := [some (.ref 0), some (.int x1), some (.int (x2 + 1))]) dX10_sure_46 rfl rfl (by decide) (zno rfl) rfl ?_
        refine j_goto (tgt := 12) dX10_sure_49 (by decide) ?_
        exact zJw h ⟨rfl, rfl, rfl, trivial⟩
      · have h := h.2 hc8
        refine j_iload_n dX10_sure_44 rfl ?_
        refine j_iret dX10_sure_45 rfl rfl ?_
        exact ⟨by rw [h], rfl⟩
abbrev LX10_faster_49 (v : Int32) (X : zX) (x1 : Int32) (x2 : Int32) (x3 : Int32) (x4 : Int32) (x5 : Int32) (x6 : Int32) (x7 : Int32) : Prop := zJ SY 2 mX10_faster (zRf v X) 49 [some (.ref 0), some (.int x1), some (.int x2), some (.int x3), some (.int x4), some (.int x5), some (.int x6), some (.int x7)] [] X
theorem eX10_faster (v : Int32) (X : zX) (a1 : Int32) (a2 : Int32) (a3 : Int32) (h : ∃ r1 : Int32, zPf SY 1 mX10_isSong [.int a1] X r1 ∧ (((r1 = 0) → ((-1) = v)) ∧ ((¬ (r1 = 0)) → (∃ r3 : Int32, zPf SY 0 mX10_in [.long a2.toInt64, .long 2, .long 4] X r3 ∧ (((r3 = 0) → ((-1) = v)) ∧ ((¬ (r3 = 0)) → (∃ r5 : Int32, zPf SY 0 mX10_in [.long a3.toInt64, .long 0, .long 1] X r5 ∧ (((¬ r5 = 0) → (∃ r7 : Int32, zPf SY 0 mX10_lengthOf [.ref 0, .int a1] X r7 ∧ (LX10_faster_49 v X a1 a2 a3 r7 0 0 0))) ∧ ((r5 = 0) → ((-1) = v)))))))))) : zPf SY 2 mX10_faster [.ref 0, .int a1, .int a2, .int a3] X v := by
  refine zP_in [some (.ref 0), some (.int a1), some (.int a2), some (.int a3), none, none, none, none] ⟨rfl, rfl, rfl, rfl, trivial⟩ (by decide) (Nat.le_of_ble_eq_true rfl) ?_
  refine j_iload_n dX10_faster_0 rfl ?_
  obtain ⟨r1, hc, h⟩ := h
  refine j_csf (lc := 1) (as := [.int a1]) dX10_faster_1 iX10_isSong sX10_isSong kX10_118 (by decide) rfl rfl (Nat.zero_le _) hc ?_
  refine j_if_eq (tgt := 31) dX10_faster_4 (by decide) (fun hc2 => ?_) (fun hc2 => ?_)
  · have h := h.1 hc2
    refine j_iconst (v := (-1)) dX10_faster_31 rfl ?_
    refine j_iret dX10_faster_32 rfl rfl ?_
    exact ⟨by rw [h], rfl⟩
  · have h := h.2 hc2
    refine j_iload_n dX10_faster_7 rfl ?_
    refine j_i2l dX10_faster_8 ?_
    refine j_ldc2 (v := 2) dX10_faster_9 qX10_257 ?_
    refine j_ldc2 (v := 4) dX10_faster_12 qX10_156 ?_
    obtain ⟨r3, hc, h⟩ := h
    refine j_csf (lc := 0) (as := [.long a2.toInt64, .long 2, .long 4]) dX10_faster_15 iX10_in sX10_in kX10_102 (by decide) rfl rfl (Nat.zero_le _) hc ?_
    refine j_if_eq (tgt := 31) dX10_faster_18 (by decide) (fun hc4 => ?_) (fun hc4 => ?_)
    · have h := h.1 hc4
      refine j_iconst (v := (-1)) dX10_faster_31 rfl ?_
      refine j_iret dX10_faster_32 rfl rfl ?_
      exact ⟨by rw [h], rfl⟩
    · have h := h.2 hc4
      refine j_iload_n dX10_faster_21 rfl ?_
      refine j_i2l dX10_faster_22 ?_
      refine j_lconst (v := 0) dX10_faster_23 rfl ?_
      refine j_lconst (v := 1) dX10_faster_24 rfl ?_
      obtain ⟨r5, hc, h⟩ := h
      refine j_csf (lc := 0) (as := [.long a3.toInt64, .long 0, .long 1]) dX10_faster_25 iX10_in sX10_in kX10_102 (by decide) rfl rfl (Nat.zero_le _) hc ?_
      refine j_if_ne (tgt := 33) dX10_faster_28 (by decide) (fun hc6 => ?_) (fun hc6 => ?_)
      · have h := h.1 hc6
        refine j_aload_n dX10_faster_33 rfl ?_
        refine j_iload_n dX10_faster_34 rfl ?_
        obtain ⟨r7, hc, h⟩ := h
        refine j_cvf (lc := 0) (as := [.int a1]) dX10_faster_35 iX10_lengthOf vX10_lengthOf kX10_129 (by decide) rfl rfl rfl rfl (Nat.zero_le _) hc ?_
        refine j_istore (L2 := [some (.ref 0), some (.int a1), some (.int a2), some (.int a3), some (.int r7), none, none, none]) dX10_faster_38 (by decide) (zno rfl) rfl ?_
        refine j_iconst (v := 0) dX10_faster_40 rfl ?_
        refine j_istore (L2 := [some (.ref 0), some (.int a1), some (.int a2), some (.int a3), some (.int r7), some (.int 0), none, none]) dX10_faster_41 (by decide) (zno rfl) rfl ?_
        refine j_iconst (v := 0) dX10_faster_43 rfl ?_
        refine j_istore (L2 := [some (.ref 0), some (.int a1), some (.int a2), some (.int a3), some (.int r7), some (.int 0), some (.int 0), none]) dX10_faster_44 (by decide) (zno rfl) rfl ?_
        refine j_iconst (v := 0) dX10_faster_46 rfl ?_
        refine j_istore (L2 := [some (.ref 0), some (.int a1), some (.int a2), some (.int a3), some (.int r7), some (.int 0), some (.int 0), some (.int 0)]) dX10_faster_47 (by decide) (zno rfl) rfl ?_
        exact zJw h ⟨rfl, rfl, rfl, rfl, rfl, rfl, rfl, rfl, trivial⟩
      · have h := h.2 hc6
        refine j_iconst (v := (-1)) dX10_faster_31 rfl ?_
        refine j_iret dX10_faster_32 rfl rfl ?_
        exact ⟨by rw [h], rfl⟩
theorem bX10_faster_49 (v : Int32) (X : zX) (x1 : Int32) (x2 : Int32) (x3 : Int32) (x4 : Int32) (x5 : Int32) (x6 : Int32) (x7 : Int32) (h : ((x4 ≤ (x7 + x2)) → (((¬ x3 = 0) → (x6 = v)) ∧ ((x3 = 0) → (x5 = v)))) ∧ ((¬ (x4 ≤ (x7 + x2))) → (∃ r10 : Int32, zPf SY 0 mX10_verseBy [.ref 0, .int x1, .int x7] X r10 ∧ (∃ r11 : Int32, zPf SY 0 mX10_verseBy [.ref 0, .int x1, .int (x7 + x2)] X r11 ∧ (∃ r12 : Int32, zPf SY 0 mX10_goes [.ref 0, .int r10, .int r11] X r12 ∧ (∃ r13 : Int32, zPf SY 0 mX10_verseBy [.ref 0, .int x1, .int x7] X r13 ∧ (∃ r14 : Int32, zPf SY 0 mX10_verseBy [.ref 0, .int x1, .int (x7 + 1)] X r14 ∧ (∃ r15 : Int32, zPf SY 0 mX10_goes [.ref 0, .int r13, .int r14] X r15 ∧ (((¬ r12 = r15) → (LX10_faster_49 v X x1 x2 x3 x4 (x5 + 1) (x6 + 0) (x7 + x2))) ∧ ((r12 = r15) → (LX10_faster_49 v X x1 x2 x3 x4 (x5 + 1) (x6 + 1) (x7 + x2)))))))))))) : LX10_faster_49 v X x1 x2 x3 x4 x5 x6 x7 := by
  refine j_iload dX10_faster_49 rfl ?_
  refine j_iload_n dX10_faster_51 rfl ?_
  refine j_iadd dX10_faster_52 ?_
  refine j_iload dX10_faster_53 rfl ?_
  refine j_ic_ge (tgt := 123) dX10_faster_55 (by decide) (fun hc8 => ?_) (fun hc8 => ?_)
  · have h := h.1 hc8
    refine j_iload_n dX10_faster_123 rfl ?_
    refine j_if_ne (tgt := 132) dX10_faster_124 (by decide) (fun hc9 => ?_) (fun hc9 => ?_)
    · have h := h.1 hc9
      refine j_iload dX10_faster_132 rfl ?_
      refine j_iret dX10_faster_134 rfl rfl ?_
      exact ⟨by rw [h], rfl⟩
    · have h := h.2 hc9
      refine j_iload dX10_faster_127 rfl ?_
      refine j_goto (tgt := 134) dX10_faster_129 (by decide) ?_
      refine j_iret dX10_faster_134 rfl rfl ?_
      exact ⟨by rw [h], rfl⟩
  · have h := h.2 hc8
    refine j_iinc (v := (x5 + 1)) (L2 := [some (.ref 0), some (.int x1), some (.int x2), some (.int x3), some (.int x4), some (.int (x5 + 1)), some (.int x6), some (.int x7)]) dX10_faster_58 rfl rfl (by decide) (zno rfl) rfl ?_
    refine j_iload dX10_faster_61 rfl ?_
    refine j_aload_n dX10_faster_63 rfl ?_
    refine j_aload_n dX10_faster_64 rfl ?_
    refine j_iload_n dX10_faster_65 rfl ?_
    refine j_iload dX10_faster_66 rfl ?_
    obtain ⟨r10, hc, h⟩ := h
    refine j_cvf (lc := 0) (as := [.int x1, .int x7]) dX10_faster_68 iX10_verseBy vX10_verseBy kX10_283 (by decide) rfl rfl rfl rfl (by simp [Value.category]) hc ?_
    refine j_aload_n dX10_faster_71 rfl ?_
    refine j_iload_n dX10_faster_72 rfl ?_
    refine j_iload dX10_faster_73 rfl ?_
    refine j_iload_n dX10_faster_75 rfl ?_
    refine j_iadd dX10_faster_76 ?_
    obtain ⟨r11, hc, h⟩ := h
    refine j_cvf (lc := 0) (as := [.int x1, .int (x7 + x2)]) dX10_faster_77 iX10_verseBy vX10_verseBy kX10_283 (by decide) rfl rfl rfl rfl (by simp [Value.category]) hc ?_
    obtain ⟨r12, hc, h⟩ := h
    refine j_cvf (lc := 0) (as := [.int r10, .int r11]) dX10_faster_80 iX10_goes vX10_goes kX10_309 (by decide) rfl rfl rfl rfl (by simp [Value.category]) hc ?_
    refine j_aload_n dX10_faster_83 rfl ?_
    refine j_aload_n dX10_faster_84 rfl ?_
    refine j_iload_n dX10_faster_85 rfl ?_
    refine j_iload dX10_faster_86 rfl ?_
    obtain ⟨r13, hc, h⟩ := h
    refine j_cvf (lc := 0) (as := [.int x1, .int x7]) dX10_faster_88 iX10_verseBy vX10_verseBy kX10_283 (by decide) rfl rfl rfl rfl (by simp [Value.category]) hc ?_
    refine j_aload_n dX10_faster_91 rfl ?_
    refine j_iload_n dX10_faster_92 rfl ?_
    refine j_iload dX10_faster_93 rfl ?_
    refine j_iconst (v := 1) dX10_faster_95 rfl ?_
    refine j_iadd dX10_faster_96 ?_
    obtain ⟨r14, hc, h⟩ := h
    refine j_cvf (lc := 0) (as := [.int x1, .int (x7 + 1)]) dX10_faster_97 iX10_verseBy vX10_verseBy kX10_283 (by decide) rfl rfl rfl rfl (by simp [Value.category]) hc ?_
    obtain ⟨r15, hc, h⟩ := h
    refine j_cvf (lc := 0) (as := [.int r13, .int r14]) dX10_faster_100 iX10_goes vX10_goes kX10_309 (by decide) rfl rfl rfl rfl (by simp [Value.category]) hc ?_
    refine j_ic_ne (tgt := 110) dX10_faster_103 (by decide) (fun hc16 => ?_) (fun hc16 => ?_)
    · have h := h.1 hc16
      refine j_iconst (v := 0) dX10_faster_110 rfl ?_
      refine j_iadd dX10_faster_111 ?_
      refine j_istore (L2 := [some (.ref 0), some (.int x1), some (.int x2), some (.int x3), some (.int x4), some (.int (x5 + 1)), some (.int (x6 + 0)), some (.int x7)]) dX10_faster_112 (by decide) (zno rfl) rfl ?_
      refine j_iload dX10_faster_114 rfl ?_
      refine j_iload_n dX10_faster_116 rfl ?_
      refine j_iadd dX10_faster_117 ?_
      refine j_istore (L2 := [some (.ref 0), some (.int x1), some (.int x2), some (.int x3), some (.int x4), some (.int (x5 + 1)), some (.int (x6 + 0)), some (.int (x7 + x2))]) dX10_faster_118 (by decide) (zno rfl) rfl ?_
      refine j_goto (tgt := 49) dX10_faster_120 (by decide) ?_
      exact zJw h ⟨rfl, rfl, rfl, rfl, rfl, rfl, rfl, rfl, trivial⟩
    · have h := h.2 hc16
      refine j_iconst (v := 1) dX10_faster_106 rfl ?_
      refine j_goto (tgt := 111) dX10_faster_107 (by decide) ?_
      refine j_iadd dX10_faster_111 ?_
      refine j_istore (L2 := [some (.ref 0), some (.int x1), some (.int x2), some (.int x3), some (.int x4), some (.int (x5 + 1)), some (.int (x6 + 1)), some (.int x7)]) dX10_faster_112 (by decide) (zno rfl) rfl ?_
      refine j_iload dX10_faster_114 rfl ?_
      refine j_iload_n dX10_faster_116 rfl ?_
      refine j_iadd dX10_faster_117 ?_
      refine j_istore (L2 := [some (.ref 0), some (.int x1), some (.int x2), some (.int x3), some (.int x4), some (.int (x5 + 1)), some (.int (x6 + 1)), some (.int (x7 + x2))]) dX10_faster_118 (by decide) (zno rfl) rfl ?_
      refine j_goto (tgt := 49) dX10_faster_120 (by decide) ?_
      exact zJw h ⟨rfl, rfl, rfl, rfl, rfl, rfl, rfl, rfl, trivial⟩
abbrev LX10_cross_40 (v : Int32) (X : zX) (x1 : Int32) (x2 : Int32) (x3 : Int32) (x4 : Int32) (x5 : Int32) (x6 : Int32) : Prop := zJ SY 2 mX10_cross (zRf v X) 40 [some (.ref 0), some (.int x1), some (.int x2), some (.int x3), some (.int x4), some (.int x5), some (.int x6), none, none, none, none] [] X
abbrev LX10_cross_126 (v : Int32) (X : zX) (x1 : Int32) (x2 : Int32) (x3 : Int32) (x6 : Int32) (x7 : Int32) (x8 : Int32) : Prop := zJ SY 2 mX10_cross (zRf v X) 126 [some (.ref 0), some (.int x1), some (.int x2), some (.int x3), none, none, some (.int x6), some (.int x7), some (.int x8), none, none] [] X
abbrev LX10_cross_138 (v : Int32) (X : zX) (x1 : Int32) (x2 : Int32) (x3 : Int32) (x6 : Int32) (x7 : Int32) (x8 : Int32) (x9 : Int32) : Prop := zJ SY 2 mX10_cross (zRf v X) 138 [some (.ref 0), some (.int x1), some (.int x2), some (.int x3), none, none, some (.int x6), some (.int x7), some (.int x8), some (.int x9), none] [] X
theorem eX10_cross (v : Int32) (X : zX) (a1 : Int32) (a2 : Int32) (a3 : Int32) (h : ∃ r1 : Int32, zPf SY 1 mX10_isSong [.int a1] X r1 ∧ (((r1 = 0) → ((-1) = v)) ∧ ((¬ (r1 = 0)) → (∃ r3 : Int32, zPf SY 1 mX10_isSong [.int a2] X r3 ∧ (((r3 = 0) → ((-1) = v)) ∧ ((¬ (r3 = 0)) → (((a1 = a2) → ((-1) = v)) ∧ ((¬ (a1 = a2)) → (∃ r6 : Int32, zPf SY 0 mX10_in [.long a3.toInt64, .long 0, .long 1] X r6 ∧ (((¬ r6 = 0) → (LX10_cross_40 v X a1 a2 a3 0 0 0)) ∧ ((r6 = 0) → ((-1) = v)))))))))))) : zPf SY 2 mX10_cross [.ref 0, .int a1, .int a2, .int a3] X v := by
  refine zP_in [some (.ref 0), some (.int a1), some (.int a2), some (.int a3), none, none, none, none, none, none, none] ⟨rfl, rfl, rfl, rfl, trivial⟩ (by decide) (Nat.le_of_ble_eq_true rfl) ?_
  refine j_iload_n dX10_cross_0 rfl ?_
  obtain ⟨r1, hc, h⟩ := h
  refine j_csf (lc := 1) (as := [.int a1]) dX10_cross_1 iX10_isSong sX10_isSong kX10_118 (by decide) rfl rfl (Nat.zero_le _) hc ?_
  refine j_if_eq (tgt := 29) dX10_cross_4 (by decide) (fun hc2 => ?_) (fun hc2 => ?_)
  · have h := h.1 hc2
    refine j_iconst (v := (-1)) dX10_cross_29 rfl ?_
    refine j_iret dX10_cross_30 rfl rfl ?_
    exact ⟨by rw [h], rfl⟩
  · have h := h.2 hc2
    refine j_iload_n dX10_cross_7 rfl ?_
    obtain ⟨r3, hc, h⟩ := h
    refine j_csf (lc := 1) (as := [.int a2]) dX10_cross_8 iX10_isSong sX10_isSong kX10_118 (by decide) rfl rfl (Nat.zero_le _) hc ?_
    refine j_if_eq (tgt := 29) dX10_cross_11 (by decide) (fun hc4 => ?_) (fun hc4 => ?_)
    · have h := h.1 hc4
      refine j_iconst (v := (-1)) dX10_cross_29 rfl ?_
      refine j_iret dX10_cross_30 rfl rfl ?_
      exact ⟨by rw [h], rfl⟩
    · have h := h.2 hc4
      refine j_iload_n dX10_cross_14 rfl ?_
      refine j_iload_n dX10_cross_15 rfl ?_
      refine j_ic_eq (tgt := 29) dX10_cross_16 (by decide) (fun hc5 => ?_) (fun hc5 => ?_)
      · have h := h.1 hc5
        refine j_iconst (v := (-1)) dX10_cross_29 rfl ?_
        refine j_iret dX10_cross_30 rfl rfl ?_
        exact ⟨by rw [h], rfl⟩
      · have h := h.2 hc5
        refine j_iload_n dX10_cross_19 rfl ?_
        refine j_i2l dX10_cross_20 ?_
        refine j_lconst (v := 0) dX10_cross_21 rfl ?_
        refine j_lconst (v := 1) dX10_cross_22 rfl ?_
        obtain ⟨r6, hc, h⟩ := h
        refine j_csf (lc := 0) (as := [.long a3.toInt64, .long 0, .long 1]) dX10_cross_23 iX10_in sX10_in kX10_102 (by decide) rfl rfl (Nat.zero_le _) hc ?_
        refine j_if_ne (tgt := 31) dX10_cross_26 (by decide) (fun hc7 => ?_) (fun hc7 => ?_)
        · have h := h.1 hc7
          refine j_iconst (v := 0) dX10_cross_31 rfl ?_
          refine j_istore (L2 := [some (.ref 0), some (.int a1), some (.int a2), some (.int a3), some (.int 0), none, none, none, none, none, none]) dX10_cross_32 (by decide) (zno rfl) rfl ?_
          refine j_iconst (v := 0) dX10_cross_34 rfl ?_
          refine j_istore (L2 := [some (.ref 0), some (.int a1), some (.int a2), some (.int a3), some (.int 0), some (.int 0), none, none, none, none, none]) dX10_cross_35 (by decide) (zno rfl) rfl ?_
          refine j_iconst (v := 0) dX10_cross_37 rfl ?_
          refine j_istore (L2 := [some (.ref 0), some (.int a1), some (.int a2), some (.int a3), some (.int 0), some (.int 0), some (.int 0), none, none, none, none]) dX10_cross_38 (by decide) (zno rfl) rfl ?_
          exact zJw h ⟨rfl, rfl, rfl, rfl, rfl, rfl, rfl, trivial⟩
        · have h := h.2 hc7
          refine j_iconst (v := (-1)) dX10_cross_29 rfl ?_
          refine j_iret dX10_cross_30 rfl rfl ?_
          exact ⟨by rw [h], rfl⟩
theorem bX10_cross_40 (v : Int32) (X : zX) (x1 : Int32) (x2 : Int32) (x3 : Int32) (x4 : Int32) (x5 : Int32) (x6 : Int32) (h : (((X 0 3) ≤ x6) → (LX10_cross_126 v X x1 x2 x3 (x4 &&& x5) 0 0)) ∧ ((¬ ((X 0 3) ≤ x6)) → (∃ j9 : Nat, x6 = nI j9 ∧ j9 < 24 ∧ (((¬ (X 3 j9) = x1) → (∃ j11 : Nat, x6 = nI j11 ∧ j11 < 24 ∧ (((¬ (X 3 j11) = x2) → (LX10_cross_40 v X x1 x2 x3 (x4 ||| 0) (x5 ||| 0) (x6 + 1))) ∧ (((X 3 j11) = x2) → (∃ j13 : Nat, x6 = nI j13 ∧ j13 < 24 ∧ (LX10_cross_40 v X x1 x2 x3 (x4 ||| 0) (x5 ||| (zshl 1 (X 4 j13))) (x6 + 1))))))) ∧ (((X 3 j9) = x1) → (∃ j14 : Nat, x6 = nI j14 ∧ j14 < 24 ∧ (∃ j15 : Nat, x6 = nI j15 ∧ j15 < 24 ∧ (((¬ (X 3 j15) = x2) → (LX10_cross_40 v X x1 x2 x3 (x4 ||| (zshl 1 (X 4 j14))) (x5 ||| 0) (x6 + 1))) ∧ (((X 3 j15) = x2) → (∃ j17 : Nat, x6 = nI j17 ∧ j17 < 24 ∧ (LX10_cross_40 v X x1 x2 x3 (x4 ||| (zshl 1 (X 4 j14))) (x5 ||| (zshl 1 (X 4 j17))) (x6 + 1)))))))))))) : LX10_cross_40 v X x1 x2 x3 x4 x5 x6 := by
  refine j_iload dX10_cross_40 rfl ?_
  refine j_aload_n dX10_cross_42 rfl ?_
  refine j_getf dX10_cross_43 fX10_106 rfl rfl ?_
  refine j_ic_ge (tgt := 113) dX10_cross_46 (by decide) (fun hc8 => ?_) (fun hc8 => ?_)
  · have h := h.1 hc8
    refine j_iload dX10_cross_113 rfl ?_
    refine j_iload dX10_cross_115 rfl ?_
    refine j_iand dX10_cross_117 ?_
    refine j_istore (L2 := [some (.ref 0), some (.int x1), some (.int x2), some (.int x3), some (.int x4), some (.int x5), some (.int (x4 &&& x5)), none, none, none, none]) dX10_cross_118 (by decide) (zno rfl) rfl ?_
    refine j_iconst (v := 0) dX10_cross_120 rfl ?_
    refine j_istore (L2 := [some (.ref 0), some (.int x1), some (.int x2), some (.int x3), some (.int x4), some (.int x5), some (.int (x4 &&& x5)), some (.int 0), none, none, none]) dX10_cross_121 (by decide) (zno rfl) rfl ?_
    refine j_iconst (v := 0) dX10_cross_123 rfl ?_
    refine j_istore (L2 := [some (.ref 0), some (.int x1), some (.int x2), some (.int x3), some (.int x4), some (.int x5), some (.int (x4 &&& x5)), some (.int 0), some (.int 0), none, none]) dX10_cross_124 (by decide) (zno rfl) rfl ?_
    exact zJw h ⟨rfl, rfl, rfl, rfl, rfl, rfl, rfl, trivial⟩
  · have h := h.2 hc8
    refine j_iload dX10_cross_49 rfl ?_
    refine j_aload_n dX10_cross_51 rfl ?_
    refine j_getr dX10_cross_52 fX10_16 rfl rfl ?_
    refine j_iload dX10_cross_55 rfl ?_
    obtain ⟨j9, ej9, lj9, h⟩ := h
    refine j_iald dX10_cross_57 rfl (zin ej9 lj9 (by decide)) ?_
    rw [zcl ej9 lj9 (by decide)]
    refine j_iload_n dX10_cross_58 rfl ?_
    refine j_ic_ne (tgt := 74) dX10_cross_59 (by decide) (fun hc10 => ?_) (fun hc10 => ?_)
    · have h := h.1 hc10
      refine j_iconst (v := 0) dX10_cross_74 rfl ?_
      refine j_ior dX10_cross_75 ?_
      refine j_istore (L2 := [some (.ref 0), some (.int x1), some (.int x2), some (.int x3), some (.int (x4 ||| 0)), some (.int x5), some (.int x6), none, none, none, none]) dX10_cross_76 (by decide) (zno rfl) rfl ?_
      refine j_iload dX10_cross_78 rfl ?_
      refine j_aload_n dX10_cross_80 rfl ?_
      refine j_getr dX10_cross_81 fX10_16 rfl rfl ?_
      refine j_iload dX10_cross_84 rfl ?_
      obtain ⟨j11, ej11, lj11, h⟩ := h
      refine j_iald dX10_cross_86 rfl (zin ej11 lj11 (by decide)) ?_
      rw [zcl ej11 lj11 (by decide)]
      refine j_iload_n dX10_cross_87 rfl ?_
      refine j_ic_ne (tgt := 103) dX10_cross_88 (by decide) (fun hc12 => ?_) (fun hc12 => ?_)
      · have h := h.1 hc12
        refine j_iconst (v := 0) dX10_cross_103 rfl ?_
        refine j_ior dX10_cross_104 ?_
        refine j_istore (L2 := [some (.ref 0), some (.int x1), some (.int x2), some (.int x3), some (.int (x4 ||| 0)), some (.int (x5 ||| 0)), some (.int x6), none, none, none, none]) dX10_cross_105 (by decide) (zno rfl) rfl ?_
        refine j_iinc (v := (x6 + 1)) (L2 := [some (.ref 0), some (.int x1), some (.int x2), some (.int x3), some (.int (x4 ||| 0)), some (.int (x5 ||| 0)), some (.int (x6 + 1)), none, none, none, none]) dX10_cross_107 rfl rfl (by decide) (zno rfl) rfl ?_
        refine j_goto (tgt := 40) dX10_cross_110 (by decide) ?_
        exact zJw h ⟨rfl, rfl, rfl, rfl, rfl, rfl, rfl, trivial⟩
      · have h := h.2 hc12
        refine j_iconst (v := 1) dX10_cross_91 rfl ?_
        refine j_aload_n dX10_cross_92 rfl ?_
        refine j_getr dX10_cross_93 fX10_19 rfl rfl ?_
        refine j_iload dX10_cross_96 rfl ?_
        obtain ⟨j13, ej13, lj13, h⟩ := h
        refine j_iald dX10_cross_98 rfl (zin ej13 lj13 (by decide)) ?_
        rw [zcl ej13 lj13 (by decide)]
        refine j_ishl dX10_cross_99 ?_
        refine j_goto (tgt := 104) dX10_cross_100 (by decide) ?_
        refine j_ior dX10_cross_104 ?_
        refine j_istore (L2 := [some (.ref 0), some (.int x1), some (.int x2), some (.int x3), some (.int (x4 ||| 0)), some (.int (x5 ||| (zshl 1 (X 4 j13)))), some (.int x6), none, none, none, none]) dX10_cross_105 (by decide) (zno rfl) rfl ?_
        refine j_iinc (v := (x6 + 1)) (L2 := [some (.ref 0), some (.int x1), some (.int x2), some (.int x3), some (.int (x4 ||| 0)), some (.int (x5 ||| (zshl 1 (X 4 j13)))), some (.int (x6 + 1)), none, none, none, none]) dX10_cross_107 rfl rfl (by decide) (zno rfl) rfl ?_
        refine j_goto (tgt := 40) dX10_cross_110 (by decide) ?_
        exact zJw h ⟨rfl, rfl, rfl, rfl, rfl, rfl, rfl, trivial⟩
    · have h := h.2 hc10
      refine j_iconst (v := 1) dX10_cross_62 rfl ?_
      refine j_aload_n dX10_cross_63 rfl ?_
      refine j_getr dX10_cross_64 fX10_19 rfl rfl ?_
      refine j_iload dX10_cross_67 rfl ?_
      obtain ⟨j14, ej14, lj14, h⟩ := h
      refine j_iald dX10_cross_69 rfl (zin ej14 lj14 (by decide)) ?_
      rw [zcl ej14 lj14 (by decide)]
      refine j_ishl dX10_cross_70 ?_
      refine j_goto (tgt := 75) dX10_cross_71 (by decide) ?_
      refine j_ior dX10_cross_75 ?_
      refine j_istore (L2 := [some (.ref 0), some (.int x1), some (.int x2), some (.int x3), some (.int (x4 ||| (zshl 1 (X 4 j14)))), some (.int x5), some (.int x6), none, none, none, none]) dX10_cross_76 (by decide) (zno rfl) rfl ?_
      refine j_iload dX10_cross_78 rfl ?_
      refine j_aload_n dX10_cross_80 rfl ?_
      refine j_getr dX10_cross_81 fX10_16 rfl rfl ?_
      refine j_iload dX10_cross_84 rfl ?_
      obtain ⟨j15, ej15, lj15, h⟩ := h
      refine j_iald dX10_cross_86 rfl (zin ej15 lj15 (by decide)) ?_
      rw [zcl ej15 lj15 (by decide)]
      refine j_iload_n dX10_cross_87 rfl ?_
      refine j_ic_ne (tgt := 103) dX10_cross_88 (by decide) (fun hc16 => ?_) (fun hc16 => ?_)
      · have h := h.1 hc16
        refine j_iconst (v := 0) dX10_cross_103 rfl ?_
        refine j_ior dX10_cross_104 ?_
        refine j_istore (L2 := [some (.ref 0), some (.int x1), some (.int x2), some (.int x3), some (.int (x4 ||| (zshl 1 (X 4 j14)))), some (.int (x5 ||| 0)), some (.int x6), none, none, none, none]) dX10_cross_105 (by decide) (zno rfl) rfl ?_
        refine j_iinc (v := (x6 + 1)) (L2 := [some (.ref 0), some (.int x1), some (.int x2), some (.int x3), some (.int (x4 ||| (zshl 1 (X 4 j14)))), some (.int (x5 ||| 0)), some (.int (x6 + 1)), none, none, none, none]) dX10_cross_107 rfl rfl (by decide) (zno rfl) rfl ?_
        refine j_goto (tgt := 40) dX10_cross_110 (by decide) ?_
        exact zJw h ⟨rfl, rfl, rfl, rfl, rfl, rfl, rfl, trivial⟩
      · have h := h.2 hc16
        refine j_iconst (v := 1) dX10_cross_91 rfl ?_
        refine j_aload_n dX10_cross_92 rfl ?_
        refine j_getr dX10_cross_93 fX10_19 rfl rfl ?_
        refine j_iload dX10_cross_96 rfl ?_
        obtain ⟨j17, ej17, lj17, h⟩ := h
        refine j_iald dX10_cross_98 rfl (zin ej17 lj17 (by decide)) ?_
        rw [zcl ej17 lj17 (by decide)]
        refine j_ishl dX10_cross_99 ?_
        refine j_goto (tgt := 104) dX10_cross_100 (by decide) ?_
        refine j_ior dX10_cross_104 ?_
        refine j_istore (L2 := [some (.ref 0), some (.int x1), some (.int x2), some (.int x3), some (.int (x4 ||| (zshl 1 (X 4 j14)))), some (.int (x5 ||| (zshl 1 (X 4 j17)))), some (.int x6), none, none, none, none]) dX10_cross_105 (by decide) (zno rfl) rfl ?_
        refine j_iinc (v := (x6 + 1)) (L2 := [some (.ref 0), some (.int x1), some (.int x2), some (.int x3), some (.int (x4 ||| (zshl 1 (X 4 j14)))), some (.int (x5 ||| (zshl 1 (X 4 j17)))), some (.int (x6 + 1)), none, none, none, none]) dX10_cross_107 rfl rfl (by decide) (zno rfl) rfl ?_
        refine j_goto (tgt := 40) dX10_cross_110 (by decide) ?_
        exact zJw h ⟨rfl, rfl, rfl, rfl, rfl, rfl, rfl, trivial⟩
theorem bX10_cross_126 (v : Int32) (X : zX) (x1 : Int32) (x2 : Int32) (x3 : Int32) (x6 : Int32) (x7 : Int32) (x8 : Int32) (h : (((X 0 10) ≤ x8) → (((¬ x3 = 0) → (x7 = v)) ∧ ((x3 = 0) → (x6 = v)))) ∧ ((¬ ((X 0 10) ≤ x8)) → (LX10_cross_138 v X x1 x2 x3 x6 x7 x8 0))) : LX10_cross_126 v X x1 x2 x3 x6 x7 x8 := by
  refine j_iload dX10_cross_126 rfl ?_
  refine j_aload_n dX10_cross_128 rfl ?_
  refine j_getf dX10_cross_129 fX10_109 rfl rfl ?_
  refine j_ic_ge (tgt := 233) dX10_cross_132 (by decide) (fun hc18 => ?_) (fun hc18 => ?_)
  · have h := h.1 hc18
    refine j_iload_n dX10_cross_233 rfl ?_
    refine j_if_ne (tgt := 242) dX10_cross_234 (by decide) (fun hc19 => ?_) (fun hc19 => ?_)
    · have h := h.1 hc19
      refine j_iload dX10_cross_242 rfl ?_
      refine j_iret dX10_cross_244 rfl rfl ?_
      exact ⟨by rw [h], rfl⟩
    · have h := h.2 hc19
      refine j_iload dX10_cross_237 rfl ?_
      refine j_goto (tgt := 244) dX10_cross_239 (by decide) ?_
      refine j_iret dX10_cross_244 rfl rfl ?_
      exact ⟨by rw [h], rfl⟩
  · have h := h.2 hc18
    refine j_iconst (v := 0) dX10_cross_135 rfl ?_
    refine j_istore (L2 := [some (.ref 0), some (.int x1), some (.int x2), some (.int x3), none, none, some (.int x6), some (.int x7), some (.int x8), some (.int 0), none]) dX10_cross_136 (by decide) (zno rfl) rfl ?_
    exact zJw h ⟨rfl, rfl, rfl, rfl, rfl, rfl, rfl, rfl, trivial⟩
theorem bX10_cross_138 (v : Int32) (X : zX) (x1 : Int32) (x2 : Int32) (x3 : Int32) (x6 : Int32) (x7 : Int32) (x8 : Int32) (x9 : Int32) (h : (((X 0 3) ≤ x9) → (LX10_cross_126 v X x1 x2 x3 x6 x7 (x8 + 1))) ∧ ((¬ ((X 0 3) ≤ x9)) → (∃ j21 : Nat, x9 = nI j21 ∧ j21 < 24 ∧ ((((X 3 j21) = x1) → (∃ j23 : Nat, x9 = nI j23 ∧ j23 < 24 ∧ (((¬ ((zshr x6 (X 4 j23)) &&& 1) = 1) → (LX10_cross_138 v X x1 x2 x3 x6 (x7 ||| 0) x8 (x9 + 1))) ∧ ((((zshr x6 (X 4 j23)) &&& 1) = 1) → (∃ r25 : Int32, zPf SY 1 mX10_maySing [.ref 0, .int x8, .int x9] X r25 ∧ (((r25 = 0) → (LX10_cross_138 v X x1 x2 x3 x6 (x7 ||| 0) x8 (x9 + 1))) ∧ ((¬ (r25 = 0)) → (LX10_cross_138 v X x1 x2 x3 x6 (x7 ||| (zshl 1 x8)) x8 (x9 + 1))))))))) ∧ ((¬ ((X 3 j21) = x1)) → (∃ j27 : Nat, x9 = nI j27 ∧ j27 < 24 ∧ (((¬ (X 3 j27) = x2) → (LX10_cross_138 v X x1 x2 x3 x6 (x7 ||| 0) x8 (x9 + 1))) ∧ (((X 3 j27) = x2) → (∃ j29 : Nat, x9 = nI j29 ∧ j29 < 24 ∧ (((¬ ((zshr x6 (X 4 j29)) &&& 1) = 1) → (LX10_cross_138 v X x1 x2 x3 x6 (x7 ||| 0) x8 (x9 + 1))) ∧ ((((zshr x6 (X 4 j29)) &&& 1) = 1) → (∃ r31 : Int32, zPf SY 1 mX10_maySing [.ref 0, .int x8, .int x9] X r31 ∧ (((r31 = 0) → (LX10_cross_138 v X x1 x2 x3 x6 (x7 ||| 0) x8 (x9 + 1))) ∧ ((¬ (r31 = 0)) → (LX10_cross_138 v X x1 x2 x3 x6 (x7 ||| (zshl 1 x8)) x8 (x9 + 1)))))))))))))))) : LX10_cross_138 v X x1 x2 x3 x6 x7 x8 x9 := by
  refine j_iload dX10_cross_138 rfl ?_
  refine j_aload_n dX10_cross_140 rfl ?_
  refine j_getf dX10_cross_141 fX10_106 rfl rfl ?_
  refine j_ic_ge (tgt := 227) dX10_cross_144 (by decide) (fun hc20 => ?_) (fun hc20 => ?_)
  · have h := h.1 hc20
    refine j_iinc (v := (x8 + 1)) (L2 := [some (.ref 0), some (.int x1), some (.int x2), some (.int x3), none, none, some (.int x6), some (.int x7), some (.int (x8 + 1)), some (.int x9), none]) dX10_cross_227 rfl rfl (by decide) (zno rfl) rfl ?_
    refine j_goto (tgt := 126) dX10_cross_230 (by decide) ?_
    exact zJw h ⟨rfl, rfl, rfl, rfl, rfl, rfl, rfl, trivial⟩
  · have h := h.2 hc20
    refine j_aload_n dX10_cross_147 rfl ?_
    refine j_getr dX10_cross_148 fX10_16 rfl rfl ?_
    refine j_iload dX10_cross_151 rfl ?_
    obtain ⟨j21, ej21, lj21, h⟩ := h
    refine j_iald dX10_cross_153 rfl (zin ej21 lj21 (by decide)) ?_
    rw [zcl ej21 lj21 (by decide)]
    refine j_iload_n dX10_cross_154 rfl ?_
    refine j_ic_eq (tgt := 169) dX10_cross_155 (by decide) (fun hc22 => ?_) (fun hc22 => ?_)
    · have h := h.1 hc22
      refine j_iload dX10_cross_169 rfl ?_
      refine j_aload_n dX10_cross_171 rfl ?_
      refine j_getr dX10_cross_172 fX10_19 rfl rfl ?_
      refine j_iload dX10_cross_175 rfl ?_
      obtain ⟨j23, ej23, lj23, h⟩ := h
      refine j_iald dX10_cross_177 rfl (zin ej23 lj23 (by decide)) ?_
      rw [zcl ej23 lj23 (by decide)]
      refine j_ishr dX10_cross_178 ?_
      refine j_iconst (v := 1) dX10_cross_179 rfl ?_
      refine j_iand dX10_cross_180 ?_
      refine j_iconst (v := 1) dX10_cross_181 rfl ?_
      refine j_ic_ne (tgt := 200) dX10_cross_182 (by decide) (fun hc24 => ?_) (fun hc24 => ?_)
      · have h := h.1 hc24
        refine j_iconst (v := 0) dX10_cross_200 rfl ?_
        refine j_istore (L2 := [some (.ref 0), some (.int x1), some (.int x2), some (.int x3), none, none, some (.int x6), some (.int x7), some (.int x8), some (.int x9), some (.int 0)]) dX10_cross_201 (by decide) (zno rfl) rfl ?_
        refine j_iload dX10_cross_203 rfl ?_
        refine j_iload dX10_cross_205 rfl ?_
        refine j_if_eq (tgt := 217) dX10_cross_207 (by decide) (fun _ => ?_) (fun hc => absurd hc (by decide))
        refine j_iconst (v := 0) dX10_cross_217 rfl ?_
        refine j_ior dX10_cross_218 ?_
        refine j_istore (L2 := [some (.ref 0), some (.int x1), some (.int x2), some (.int x3), none, none, some (.int x6), some (.int (x7 ||| 0)), some (.int x8), some (.int x9), some (.int 0)]) dX10_cross_219 (by decide) (zno rfl) rfl ?_
        refine j_iinc (v := (x9 + 1)) (L2 := [some (.ref 0), some (.int x1), some (.int x2), some (.int x3), none, none, some (.int x6), some (.int (x7 ||| 0)), some (.int x8), some (.int (x9 + 1)), some (.int 0)]) dX10_cross_221 rfl rfl (by decide) (zno rfl) rfl ?_
        refine j_goto (tgt := 138) dX10_cross_224 (by decide) ?_
        exact zJw h ⟨rfl, rfl, rfl, rfl, rfl, rfl, rfl, rfl, trivial⟩
      · have h := h.2 hc24
        refine j_aload_n dX10_cross_185 rfl ?_
        refine j_iload dX10_cross_186 rfl ?_
        refine j_iload dX10_cross_188 rfl ?_
        obtain ⟨r25, hc, h⟩ := h
        refine j_cvf (lc := 1) (as := [.int x8, .int x9]) dX10_cross_190 iX10_maySing vX10_maySing kX10_270 (by decide) rfl rfl rfl rfl (Nat.zero_le _) hc ?_
        refine j_if_eq (tgt := 200) dX10_cross_193 (by decide) (fun hc26 => ?_) (fun hc26 => ?_)
        · have h := h.1 hc26
          refine j_iconst (v := 0) dX10_cross_200 rfl ?_
          refine j_istore (L2 := [some (.ref 0), some (.int x1), some (.int x2), some (.int x3), none, none, some (.int x6), some (.int x7), some (.int x8), some (.int x9), some (.int 0)]) dX10_cross_201 (by decide) (zno rfl) rfl ?_
          refine j_iload dX10_cross_203 rfl ?_
          refine j_iload dX10_cross_205 rfl ?_
          refine j_if_eq (tgt := 217) dX10_cross_207 (by decide) (fun _ => ?_) (fun hc => absurd hc (by decide))
          refine j_iconst (v := 0) dX10_cross_217 rfl ?_
          refine j_ior dX10_cross_218 ?_
          refine j_istore (L2 := [some (.ref 0), some (.int x1), some (.int x2), some (.int x3), none, none, some (.int x6), some (.int (x7 ||| 0)), some (.int x8), some (.int x9), some (.int 0)]) dX10_cross_219 (by decide) (zno rfl) rfl ?_
          refine j_iinc (v := (x9 + 1)) (L2 := [some (.ref 0), some (.int x1), some (.int x2), some (.int x3), none, none, some (.int x6), some (.int (x7 ||| 0)), some (.int x8), some (.int (x9 + 1)), some (.int 0)]) dX10_cross_221 rfl rfl (by decide) (zno rfl) rfl ?_
          refine j_goto (tgt := 138) dX10_cross_224 (by decide) ?_
          exact zJw h ⟨rfl, rfl, rfl, rfl, rfl, rfl, rfl, rfl, trivial⟩
        · have h := h.2 hc26
          refine j_iconst (v := 1) dX10_cross_196 rfl ?_
          refine j_goto (tgt := 201) dX10_cross_197 (by decide) ?_
          refine j_istore (L2 := [some (.ref 0), some (.int x1), some (.int x2), some (.int x3), none, none, some (.int x6), some (.int x7), some (.int x8), some (.int x9), some (.int 1)]) dX10_cross_201 (by decide) (zno rfl) rfl ?_
          refine j_iload dX10_cross_203 rfl ?_
          refine j_iload dX10_cross_205 rfl ?_
          refine j_if_eq (tgt := 217) dX10_cross_207 (by decide) (fun hc => absurd hc (by decide)) (fun _ => ?_)
          refine j_iconst (v := 1) dX10_cross_210 rfl ?_
          refine j_iload dX10_cross_211 rfl ?_
          refine j_ishl dX10_cross_213 ?_
          refine j_goto (tgt := 218) dX10_cross_214 (by decide) ?_
          refine j_ior dX10_cross_218 ?_
          refine j_istore (L2 := [some (.ref 0), some (.int x1), some (.int x2), some (.int x3), none, none, some (.int x6), some (.int (x7 ||| (zshl 1 x8))), some (.int x8), some (.int x9), some (.int 1)]) dX10_cross_219 (by decide) (zno rfl) rfl ?_
          refine j_iinc (v := (x9 + 1)) (L2 := [some (.ref 0), some (.int x1), some (.int x2), some (.int x3), none, none, some (.int x6), some (.int (x7 ||| (zshl 1 x8))), some (.int x8), some (.int (x9 + 1)), some (.int 1)]) dX10_cross_221 rfl rfl (by decide) (zno rfl) rfl ?_
          refine j_goto (tgt := 138) dX10_cross_224 (by decide) ?_
          exact zJw h ⟨rfl, rfl, rfl, rfl, rfl, rfl, rfl, rfl, trivial⟩
    · have h := h.2 hc22
      refine j_aload_n dX10_cross_158 rfl ?_
      refine j_getr dX10_cross_159 fX10_16 rfl rfl ?_
      refine j_iload dX10_cross_162 rfl ?_
      obtain ⟨j27, ej27, lj27, h⟩ := h
      refine j_iald dX10_cross_164 rfl (zin ej27 lj27 (by decide)) ?_
      rw [zcl ej27 lj27 (by decide)]
      refine j_iload_n dX10_cross_165 rfl ?_
      refine j_ic_ne (tgt := 200) dX10_cross_166 (by decide) (fun hc28 => ?_) (fun hc28 => ?_)
      · have h := h.1 hc28
        refine j_iconst (v := 0) dX10_cross_200 rfl ?_
        refine j_istore (L2 := [some (.ref 0), some (.int x1), some (.int x2), some (.int x3), none, none, some (.int x6), some (.int x7), some (.int x8), some (.int x9), some (.int 0)]) dX10_cross_201 (by decide) (zno rfl) rfl ?_
        refine j_iload dX10_cross_203 rfl ?_
        refine j_iload dX10_cross_205 rfl ?_
        refine j_if_eq (tgt := 217) dX10_cross_207 (by decide) (fun _ => ?_) (fun hc => absurd hc (by decide))
        refine j_iconst (v := 0) dX10_cross_217 rfl ?_
        refine j_ior dX10_cross_218 ?_
        refine j_istore (L2 := [some (.ref 0), some (.int x1), some (.int x2), some (.int x3), none, none, some (.int x6), some (.int (x7 ||| 0)), some (.int x8), some (.int x9), some (.int 0)]) dX10_cross_219 (by decide) (zno rfl) rfl ?_
        refine j_iinc (v := (x9 + 1)) (L2 := [some (.ref 0), some (.int x1), some (.int x2), some (.int x3), none, none, some (.int x6), some (.int (x7 ||| 0)), some (.int x8), some (.int (x9 + 1)), some (.int 0)]) dX10_cross_221 rfl rfl (by decide) (zno rfl) rfl ?_
        refine j_goto (tgt := 138) dX10_cross_224 (by decide) ?_
        exact zJw h ⟨rfl, rfl, rfl, rfl, rfl, rfl, rfl, rfl, trivial⟩
      · have h := h.2 hc28
        refine j_iload dX10_cross_169 rfl ?_
        refine j_aload_n dX10_cross_171 rfl ?_
        refine j_getr dX10_cross_172 fX10_19 rfl rfl ?_
        refine j_iload dX10_cross_175 rfl ?_
        obtain ⟨j29, ej29, lj29, h⟩ := h
        refine j_iald dX10_cross_177 rfl (zin ej29 lj29 (by decide)) ?_
        rw [zcl ej29 lj29 (by decide)]
        refine j_ishr dX10_cross_178 ?_
        refine j_iconst (v := 1) dX10_cross_179 rfl ?_
        refine j_iand dX10_cross_180 ?_
        refine j_iconst (v := 1) dX10_cross_181 rfl ?_
        refine j_ic_ne (tgt := 200) dX10_cross_182 (by decide) (fun hc30 => ?_) (fun hc30 => ?_)
        · have h := h.1 hc30
          refine j_iconst (v := 0) dX10_cross_200 rfl ?_
          refine j_istore (L2 := [some (.ref 0), some (.int x1), some (.int x2), some (.int x3), none, none, some (.int x6), some (.int x7), some (.int x8), some (.int x9), some (.int 0)]) dX10_cross_201 (by decide) (zno rfl) rfl ?_
          refine j_iload dX10_cross_203 rfl ?_
          refine j_iload dX10_cross_205 rfl ?_
          refine j_if_eq (tgt := 217) dX10_cross_207 (by decide) (fun _ => ?_) (fun hc => absurd hc (by decide))
          refine j_iconst (v := 0) dX10_cross_217 rfl ?_
          refine j_ior dX10_cross_218 ?_
          refine j_istore (L2 := [some (.ref 0), some (.int x1), some (.int x2), some (.int x3), none, none, some (.int x6), some (.int (x7 ||| 0)), some (.int x8), some (.int x9), some (.int 0)]) dX10_cross_219 (by decide) (zno rfl) rfl ?_
          refine j_iinc (v := (x9 + 1)) (L2 := [some (.ref 0), some (.int x1), some (.int x2), some (.int x3), none, none, some (.int x6), some (.int (x7 ||| 0)), some (.int x8), some (.int (x9 + 1)), some (.int 0)]) dX10_cross_221 rfl rfl (by decide) (zno rfl) rfl ?_
          refine j_goto (tgt := 138) dX10_cross_224 (by decide) ?_
          exact zJw h ⟨rfl, rfl, rfl, rfl, rfl, rfl, rfl, rfl, trivial⟩
        · have h := h.2 hc30
          refine j_aload_n dX10_cross_185 rfl ?_
          refine j_iload dX10_cross_186 rfl ?_
          refine j_iload dX10_cross_188 rfl ?_
          obtain ⟨r31, hc, h⟩ := h
          refine j_cvf (lc := 1) (as := [.int x8, .int x9]) dX10_cross_190 iX10_maySing vX10_maySing kX10_270 (by decide) rfl rfl rfl rfl (Nat.zero_le _) hc ?_
          refine j_if_eq (tgt := 200) dX10_cross_193 (by decide) (fun hc32 => ?_) (fun hc32 => ?_)
          · have h := h.1 hc32
            refine j_iconst (v := 0) dX10_cross_200 rfl ?_
            refine j_istore (L2 := [some (.ref 0), some (.int x1), some (.int x2), some (.int x3), none, none, some (.int x6), some (.int x7), some (.int x8), some (.int x9), some (.int 0)]) dX10_cross_201 (by decide) (zno rfl) rfl ?_
            refine j_iload dX10_cross_203 rfl ?_
            refine j_iload dX10_cross_205 rfl ?_
            refine j_if_eq (tgt := 217) dX10_cross_207 (by decide) (fun _ => ?_) (fun hc => absurd hc (by decide))
            refine j_iconst (v := 0) dX10_cross_217 rfl ?_
            refine j_ior dX10_cross_218 ?_
            refine j_istore (L2 := [some (.ref 0), some (.int x1), some (.int x2), some (.int x3), none, none, some (.int x6), some (.int (x7 ||| 0)), some (.int x8), some (.int x9), some (.int 0)]) dX10_cross_219 (by decide) (zno rfl) rfl ?_
            refine j_iinc (v := (x9 + 1)) (L2 := [some (.ref 0), some (.int x1), some (.int x2), some (.int x3), none, none, some (.int x6), some (.int (x7 ||| 0)), some (.int x8), some (.int (x9 + 1)), some (.int 0)]) dX10_cross_221 rfl rfl (by decide) (zno rfl) rfl ?_
            refine j_goto (tgt := 138) dX10_cross_224 (by decide) ?_
            exact zJw h ⟨rfl, rfl, rfl, rfl, rfl, rfl, rfl, rfl, trivial⟩
          · have h := h.2 hc32
            refine j_iconst (v := 1) dX10_cross_196 rfl ?_
            refine j_goto (tgt := 201) dX10_cross_197 (by decide) ?_
            refine j_istore (L2 := [some (.ref 0), some (.int x1), some (.int x2), some (.int x3), none, none, some (.int x6), some (.int x7), some (.int x8), some (.int x9), some (.int 1)]) dX10_cross_201 (by decide) (zno rfl) rfl ?_
            refine j_iload dX10_cross_203 rfl ?_
            refine j_iload dX10_cross_205 rfl ?_
            refine j_if_eq (tgt := 217) dX10_cross_207 (by decide) (fun hc => absurd hc (by decide)) (fun _ => ?_)
            refine j_iconst (v := 1) dX10_cross_210 rfl ?_
            refine j_iload dX10_cross_211 rfl ?_
            refine j_ishl dX10_cross_213 ?_
            refine j_goto (tgt := 218) dX10_cross_214 (by decide) ?_
            refine j_ior dX10_cross_218 ?_
            refine j_istore (L2 := [some (.ref 0), some (.int x1), some (.int x2), some (.int x3), none, none, some (.int x6), some (.int (x7 ||| (zshl 1 x8))), some (.int x8), some (.int x9), some (.int 1)]) dX10_cross_219 (by decide) (zno rfl) rfl ?_
            refine j_iinc (v := (x9 + 1)) (L2 := [some (.ref 0), some (.int x1), some (.int x2), some (.int x3), none, none, some (.int x6), some (.int (x7 ||| (zshl 1 x8))), some (.int x8), some (.int (x9 + 1)), some (.int 1)]) dX10_cross_221 rfl rfl (by decide) (zno rfl) rfl ?_
            refine j_goto (tgt := 138) dX10_cross_224 (by decide) ?_
            exact zJw h ⟨rfl, rfl, rfl, rfl, rfl, rfl, rfl, rfl, trivial⟩
