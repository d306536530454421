theorem eX10_in (v : Int32) (X : zX) (a1 : Int64) (a2 : Int64) (a3 : Int64) (h : (((lg_cmp a1 a2) < 0) → (0 = v)) ∧ ((¬ ((lg_cmp a1 a2) < 0)) → (((0 < (lg_cmp a1 a3)) → (0 = v)) ∧ ((¬ (0 < (lg_cmp a1 a3))) → (1 = v))))) : zPf SY 0 mX10_in [.long a1, .long a2, .long a3] X v := by
  refine zP_in [some (.long a1), none, some (.long a2), none, some (.long a3), none] ⟨rfl, rfl, rfl, trivial⟩ (by decide) (Nat.le_of_ble_eq_true rfl) ?_
  refine j_lload_n dX10_in_0 rfl ?_
  refine j_lload_n dX10_in_1 rfl ?_
  refine j_lcmp dX10_in_2 ?_
  refine j_if_lt (tgt := 17) dX10_in_3 (by decide) (fun hc1 => ?_) (fun hc1 => ?_)
  · have h := h.1 hc1
    refine j_iconst (v := 0) dX10_in_17 rfl ?_
    refine j_iret dX10_in_18 rfl (by decide) ?_
    exact ⟨by rw [h], rfl⟩
  · have h := h.2 hc1
    refine j_lload_n dX10_in_6 rfl ?_
    refine j_lload dX10_in_7 rfl ?_
    refine j_lcmp dX10_in_9 ?_
    refine j_if_gt (tgt := 17) dX10_in_10 (by decide) (fun hc2 => ?_) (fun hc2 => ?_)
    · have h := h.1 hc2
      refine j_iconst (v := 0) dX10_in_17 rfl ?_
      refine j_iret dX10_in_18 rfl (by decide) ?_
      exact ⟨by rw [h], rfl⟩
    · have h := h.2 hc2
      refine j_iconst (v := 1) dX10_in_13 rfl ?_
      refine j_goto (tgt := 18) dX10_in_14 (by decide) ?_
      refine j_iret dX10_in_18 rfl (by decide) ?_
      exact ⟨by rw [h], rfl⟩
abbrev LX10_countOf_4 (v : Int32) (X : zX) (x0 : Int32) (x1 : Int32) (x2 : Int32) : Prop := zJ SY 0 mX10_countOf (zRf v X) 4 [some (.int x0), some (.int x1), some (.int x2)] [] X
theorem eX10_countOf (v : Int32) (X : zX) (a1 : Int32) (h : LX10_countOf_4 v X a1 0 0) : zPf SY 0 mX10_countOf [.int a1] X v := by
  refine zP_in [some (.int a1), none, none] ⟨rfl, trivial⟩ (by decide) (Nat.le_of_ble_eq_true rfl) ?_
  refine j_iconst (v := 0) dX10_countOf_0 rfl ?_
  refine j_istore_n (L2 := [some (.int a1), some (.int 0), none]) dX10_countOf_1 (by decide) (zno rfl) rfl ?_
  refine j_iconst (v := 0) dX10_countOf_2 rfl ?_
  refine j_istore_n (L2 := [some (.int a1), some (.int 0), some (.int 0)]) dX10_countOf_3 (by decide) (zno rfl) rfl ?_
  exact zJw h ⟨rfl, rfl, rfl, trivial⟩
theorem bX10_countOf_4 (v : Int32) (X : zX) (x0 : Int32) (x1 : Int32) (x2 : Int32) (h : ((24 ≤ x2) → (x1 = v)) ∧ ((¬ (24 ≤ x2)) → (LX10_countOf_4 v X x0 (x1 + ((zshr x0 x2) &&& 1)) (x2 + 1)))) : LX10_countOf_4 v X x0 x1 x2 := by
  refine j_iload_n dX10_countOf_4 rfl ?_
  refine j_bipush (v := 24) dX10_countOf_5 rfl ?_
  refine j_ic_ge (tgt := 24) dX10_countOf_7 (by decide) (fun hc1 => ?_) (fun hc1 => ?_)
  · have h := h.1 hc1
    refine j_iload_n dX10_countOf_24 rfl ?_
    refine j_iret dX10_countOf_25 rfl rfl ?_
    exact ⟨by rw [h], rfl⟩
  · have h := h.2 hc1
    refine j_iload_n dX10_countOf_10 rfl ?_
    refine j_iload_n dX10_countOf_11 rfl ?_
    refine j_iload_n dX10_countOf_12 rfl ?_
    refine j_ishr dX10_countOf_13 ?_
    refine j_iconst (v := 1) dX10_countOf_14 rfl ?_
    refine j_iand dX10_countOf_15 ?_
    refine j_iadd dX10_countOf_16 ?_
    refine j_istore_n (L2 := [some (.int x0), some (.int (x1 + ((zshr x0 x2) &&& 1))), some (.int x2)]) dX10_countOf_17 (by decide) (zno rfl) rfl ?_
    refine j_iinc (v := (x2 + 1)) (L2 := [some (.int x0), some (.int (x1 + ((zshr x0 x2) &&& 1))), some (.int (x2 + 1))]) dX10_countOf_18 rfl rfl (by decide) (zno rfl) rfl ?_
    refine j_goto (tgt := 4) dX10_countOf_21 (by decide) ?_
    exact zJw h ⟨rfl, rfl, rfl, trivial⟩
theorem eX10_flag (v : Int32) (X : zX) (a1 : Int32) (h : ((a1 = 0) → (0 = v)) ∧ ((¬ (a1 = 0)) → (1 = v))) : zPf SY 0 mX10_flag [.int a1] X v := by
  refine zP_in [some (.int a1)] ⟨rfl, trivial⟩ (by decide) (Nat.le_of_ble_eq_true rfl) ?_
  refine j_iload_n dX10_flag_0 rfl ?_
  refine j_if_eq (tgt := 8) dX10_flag_1 (by decide) (fun hc1 => ?_) (fun hc1 => ?_)
  · have h := h.1 hc1
    refine j_iconst (v := 0) dX10_flag_8 rfl ?_
    refine j_iret dX10_flag_9 rfl rfl ?_
    exact ⟨by rw [h], rfl⟩
  · have h := h.2 hc1
    refine j_iconst (v := 1) dX10_flag_4 rfl ?_
    refine j_goto (tgt := 9) dX10_flag_5 (by decide) ?_
    refine j_iret dX10_flag_9 rfl rfl ?_
    exact ⟨by rw [h], rfl⟩
theorem eX10_isPlace (v : Int32) (X : zX) (a1 : Int32) (h : ∃ r1 : Int32, zPf SY 0 mX10_in [.long a1.toInt64, .long 0, .long ((X 0 0) - 1).toInt64] X r1 ∧ (narrow .boolean (.int r1) = .int r1 ∧ r1 = v)) : zPf SY 1 mX10_isPlace [.ref 0, .int a1] X v := by
  refine zP_in [some (.ref 0), some (.int a1)] ⟨rfl, rfl, trivial⟩ (by decide) (Nat.le_of_ble_eq_true rfl) ?_
  refine j_iload_n dX10_isPlace_0 rfl ?_
  refine j_i2l dX10_isPlace_1 ?_
  refine j_lconst (v := 0) dX10_isPlace_2 rfl ?_
  refine j_aload_n dX10_isPlace_3 rfl ?_
  refine j_getf dX10_isPlace_4 fX10_98 rfl rfl ?_
  refine j_iconst (v := 1) dX10_isPlace_7 rfl ?_
  refine j_isub dX10_isPlace_8 ?_
  refine j_i2l dX10_isPlace_9 ?_
  obtain ⟨r1, hc, h⟩ := h
  refine j_csf (lc := 0) (as := [.long a1.toInt64, .long 0, .long ((X 0 0) - 1).toInt64]) dX10_isPlace_10 iX10_in sX10_in kX10_102 (by decide) rfl rfl (Nat.zero_le _) hc ?_
  refine j_iret (ty := .boolean) dX10_isPlace_13 rfl h.1 ?_
  have h := h.2
  exact ⟨by rw [h], rfl⟩
theorem eX10_isVerse (v : Int32) (X : zX) (a1 : Int32) (h : ∃ r1 : Int32, zPf SY 0 mX10_in [.long a1.toInt64, .long 0, .long ((X 0 3) - 1).toInt64] X r1 ∧ (narrow .boolean (.int r1) = .int r1 ∧ r1 = v)) : zPf SY 1 mX10_isVerse [.ref 0, .int a1] X v := by
  refine zP_in [some (.ref 0), some (.int a1)] ⟨rfl, rfl, trivial⟩ (by decide) (Nat.le_of_ble_eq_true rfl) ?_
  refine j_iload_n dX10_isVerse_0 rfl ?_
  refine j_i2l dX10_isVerse_1 ?_
  refine j_lconst (v := 0) dX10_isVerse_2 rfl ?_
  refine j_aload_n dX10_isVerse_3 rfl ?_
  refine j_getf dX10_isVerse_4 fX10_106 rfl rfl ?_
  refine j_iconst (v := 1) dX10_isVerse_7 rfl ?_
  refine j_isub dX10_isVerse_8 ?_
  refine j_i2l dX10_isVerse_9 ?_
  obtain ⟨r1, hc, h⟩ := h
  refine j_csf (lc := 0) (as := [.long a1.toInt64, .long 0, .long ((X 0 3) - 1).toInt64]) dX10_isVerse_10 iX10_in sX10_in kX10_102 (by decide) rfl rfl (Nat.zero_le _) hc ?_
  refine j_iret (ty := .boolean) dX10_isVerse_13 rfl h.1 ?_
  have h := h.2
  exact ⟨by rw [h], rfl⟩
theorem eX10_isOne (v : Int32) (X : zX) (a1 : Int32) (h : ∃ r1 : Int32, zPf SY 0 mX10_in [.long a1.toInt64, .long 0, .long ((X 0 10) - 1).toInt64] X r1 ∧ (narrow .boolean (.int r1) = .int r1 ∧ r1 = v)) : zPf SY 1 mX10_isOne [.ref 0, .int a1] X v := by
  refine zP_in [some (.ref 0), some (.int a1)] ⟨rfl, rfl, trivial⟩ (by decide) (Nat.le_of_ble_eq_true rfl) ?_
  refine j_iload_n dX10_isOne_0 rfl ?_
  refine j_i2l dX10_isOne_1 ?_
  refine j_lconst (v := 0) dX10_isOne_2 rfl ?_
  refine j_aload_n dX10_isOne_3 rfl ?_
  refine j_getf dX10_isOne_4 fX10_109 rfl rfl ?_
  refine j_iconst (v := 1) dX10_isOne_7 rfl ?_
  refine j_isub dX10_isOne_8 ?_
  refine j_i2l dX10_isOne_9 ?_
  obtain ⟨r1, hc, h⟩ := h
  refine j_csf (lc := 0) (as := [.long a1.toInt64, .long 0, .long ((X 0 10) - 1).toInt64]) dX10_isOne_10 iX10_in sX10_in kX10_102 (by decide) rfl rfl (Nat.zero_le _) hc ?_
  refine j_iret (ty := .boolean) dX10_isOne_13 rfl h.1 ?_
  have h := h.2
  exact ⟨by rw [h], rfl⟩
theorem eX10_isSong (v : Int32) (X : zX) (a1 : Int32) (h : ∃ r1 : Int32, zPf SY 0 mX10_in [.long a1.toInt64, .long 0, .long 3] X r1 ∧ (narrow .boolean (.int r1) = .int r1 ∧ r1 = v)) : zPf SY 1 mX10_isSong [.int a1] X v := by
  refine zP_in [some (.int a1)] ⟨rfl, trivial⟩ (by decide) (Nat.le_of_ble_eq_true rfl) ?_
  refine j_iload_n dX10_isSong_0 rfl ?_
  refine j_i2l dX10_isSong_1 ?_
  refine j_lconst (v := 0) dX10_isSong_2 rfl ?_
  refine j_ldc2 (v := 3) dX10_isSong_3 qX10_112 ?_
  obtain ⟨r1, hc, h⟩ := h
  refine j_csf (lc := 0) (as := [.long a1.toInt64, .long 0, .long 3]) dX10_isSong_6 iX10_in sX10_in kX10_102 (by decide) rfl rfl (Nat.zero_le _) hc ?_
  refine j_iret (ty := .boolean) dX10_isSong_9 rfl h.1 ?_
  have h := h.2
  exact ⟨by rw [h], rfl⟩
theorem eX10_place (P : Int32 → zX → Prop) (X : zX) (a1 : Int32) (a2 : Int32) (h : ∃ r1 : Int32, zPf SY 0 mX10_in [.long a1.toInt64, .long 0, .long 9] X r1 ∧ (((r1 = 0) → (P (-1) X)) ∧ ((¬ (r1 = 0)) → (∃ r3 : Int32, zPf SY 0 mX10_in [.long a2.toInt64, .long 0, .long 15] X r3 ∧ (((¬ r3 = 0) → (((¬ (X 0 0) = 12) → (∃ j6 : Nat, (X 0 0) = nI j6 ∧ j6 < 12 ∧ (∃ j7 : Nat, (X 0 0) = nI j7 ∧ j7 < 12 ∧ (P (((X 0 0) + 1) - 1) (zs (zs (zs X 1 j6 a1) 2 j7 a2) 0 0 ((X 0 0) + 1)))))) ∧ (((X 0 0) = 12) → (P (-3) X)))) ∧ ((r3 = 0) → (P (-1) X))))))) : zPi SY 1 mX10_place [.ref 0, .int a1, .int a2] X P := by
  refine zP_in [some (.ref 0), some (.int a1), some (.int a2)] ⟨rfl, rfl, rfl, trivial⟩ (by decide) (Nat.le_of_ble_eq_true rfl) ?_
  refine j_iload_n dX10_place_0 rfl ?_
  refine j_i2l dX10_place_1 ?_
  refine j_lconst (v := 0) dX10_place_2 rfl ?_
  refine j_ldc2 (v := 9) dX10_place_3 qX10_114 ?_
  obtain ⟨r1, hc, h⟩ := h
  refine j_csf (lc := 0) (as := [.long a1.toInt64, .long 0, .long 9]) dX10_place_6 iX10_in sX10_in kX10_102 (by decide) rfl rfl (Nat.zero_le _) hc ?_
  refine j_if_eq (tgt := 24) dX10_place_9 (by decide) (fun hc2 => ?_) (fun hc2 => ?_)
  · have h := h.1 hc2
    refine j_iconst (v := (-1)) dX10_place_24 rfl ?_
    refine j_iret dX10_place_25 rfl rfl ?_
    exact ⟨_, rfl, h⟩
  · have h := h.2 hc2
    refine j_iload_n dX10_place_12 rfl ?_
    refine j_i2l dX10_place_13 ?_
    refine j_lconst (v := 0) dX10_place_14 rfl ?_
    refine j_ldc2 (v := 15) dX10_place_15 qX10_116 ?_
    obtain ⟨r3, hc, h⟩ := h
    refine j_csf (lc := 0) (as := [.long a2.toInt64, .long 0, .long 15]) dX10_place_18 iX10_in sX10_in kX10_102 (by decide) rfl rfl (Nat.zero_le _) hc ?_
    refine j_if_ne (tgt := 26) dX10_place_21 (by decide) (fun hc4 => ?_) (fun hc4 => ?_)
    · have h := h.1 hc4
      refine j_aload_n dX10_place_26 rfl ?_
      refine j_getf dX10_place_27 fX10_98 rfl rfl ?_
      refine j_bipush (v := 12) dX10_place_30 rfl ?_
      refine j_ic_ne (tgt := 38) dX10_place_32 (by decide) (fun hc5 => ?_) (fun hc5 => ?_)
      · have h := h.1 hc5
        refine j_aload_n dX10_place_38 rfl ?_
        refine j_getr dX10_place_39 fX10_7 rfl rfl ?_
        refine j_aload_n dX10_place_42 rfl ?_
        refine j_getf dX10_place_43 fX10_98 rfl rfl ?_
        refine j_iload_n dX10_place_46 rfl ?_
        obtain ⟨j6, ej6, lj6, h⟩ := h
        refine j_iast dX10_place_47 rfl (zin ej6 lj6 (by decide)) ?_
        rw [zcl ej6 lj6 (by decide)]
        refine j_aload_n dX10_place_48 rfl ?_
        refine j_getr dX10_place_49 fX10_13 rfl rfl ?_
        refine j_aload_n dX10_place_52 rfl ?_
        refine j_getv (v := .int (X 0 0)) dX10_place_53 fX10_98 rfl rfl (fun _ => rfl) ?_
        refine j_iload_n dX10_place_56 rfl ?_
        obtain ⟨j7, ej7, lj7, h⟩ := h
        refine j_iast dX10_place_57 rfl (zin ej7 lj7 (by decide)) ?_
        rw [zcl ej7 lj7 (by decide)]
        refine j_aload_n dX10_place_58 rfl ?_
        refine j_dup dX10_place_59 rfl ?_
        refine j_getv (v := .int (X 0 0)) dX10_place_60 fX10_98 rfl rfl (fun _ => rfl) ?_
        refine j_iconst (v := 1) dX10_place_63 rfl ?_
        refine j_iadd dX10_place_64 ?_
        refine j_putf dX10_place_65 fX10_98 pX10_0 rfl rfl ?_
        refine j_aload_n dX10_place_68 rfl ?_
        refine j_getv (v := .int ((X 0 0) + 1)) dX10_place_69 fX10_98 rfl rfl (fun _ => rfl) ?_
        refine j_iconst (v := 1) dX10_place_72 rfl ?_
        refine j_isub dX10_place_73 ?_
        refine j_iret dX10_place_74 rfl rfl ?_
        exact ⟨_, rfl, h⟩
      · have h := h.2 hc5
        refine j_bipush (v := (-3)) dX10_place_35 rfl ?_
        refine j_iret dX10_place_37 rfl rfl ?_
        exact ⟨_, rfl, h⟩
    · have h := h.2 hc4
      refine j_iconst (v := (-1)) dX10_place_24 rfl ?_
      refine j_iret dX10_place_25 rfl rfl ?_
      exact ⟨_, rfl, h⟩
abbrev LX10_lengthOf_4 (v : Int32) (X : zX) (x1 : Int32) (x2 : Int32) (x3 : Int32) : Prop := zJ SY 0 mX10_lengthOf (zRf v X) 4 [some (.ref 0), some (.int x1), some (.int x2), some (.int x3)] [] X
theorem eX10_lengthOf (v : Int32) (X : zX) (a1 : Int32) (h : LX10_lengthOf_4 v X a1 0 0) : zPf SY 0 mX10_lengthOf [.ref 0, .int a1] X v := by
  refine zP_in [some (.ref 0), some (.int a1), none, none] ⟨rfl, rfl, trivial⟩ (by decide) (Nat.le_of_ble_eq_true rfl) ?_
  refine j_iconst (v := 0) dX10_lengthOf_0 rfl ?_
  refine j_istore_n (L2 := [some (.ref 0), some (.int a1), some (.int 0), none]) dX10_lengthOf_1 (by decide) (zno rfl) rfl ?_
  refine j_iconst (v := 0) dX10_lengthOf_2 rfl ?_
  refine j_istore_n (L2 := [some (.ref 0), some (.int a1), some (.int 0), some (.int 0)]) dX10_lengthOf_3 (by decide) (zno rfl) rfl ?_
  exact zJw h ⟨rfl, rfl, rfl, rfl, trivial⟩
theorem bX10_lengthOf_4 (v : Int32) (X : zX) (x1 : Int32) (x2 : Int32) (x3 : Int32) (h : (((X 0 3) ≤ x3) → (x2 = v)) ∧ ((¬ ((X 0 3) ≤ x3)) → (∃ j2 : Nat, x3 = nI j2 ∧ j2 < 24 ∧ (((¬ (X 3 j2) = x1) → (LX10_lengthOf_4 v X x1 (x2 + 0) (x3 + 1))) ∧ (((X 3 j2) = x1) → (LX10_lengthOf_4 v X x1 (x2 + 1) (x3 + 1))))))) : LX10_lengthOf_4 v X x1 x2 x3 := by
  refine j_iload_n dX10_lengthOf_4 rfl ?_
  refine j_aload_n dX10_lengthOf_5 rfl ?_
  refine j_getf dX10_lengthOf_6 fX10_106 rfl rfl ?_
  refine j_ic_ge (tgt := 36) dX10_lengthOf_9 (by decide) (fun hc1 => ?_) (fun hc1 => ?_)
  · have h := h.1 hc1
    refine j_iload_n dX10_lengthOf_36 rfl ?_
    refine j_iret dX10_lengthOf_37 rfl rfl ?_
    exact ⟨by rw [h], rfl⟩
  · have h := h.2 hc1
    refine j_iload_n dX10_lengthOf_12 rfl ?_
    refine j_aload_n dX10_lengthOf_13 rfl ?_
    refine j_getr dX10_lengthOf_14 fX10_16 rfl rfl ?_
    refine j_iload_n dX10_lengthOf_17 rfl ?_
    obtain ⟨j2, ej2, lj2, h⟩ := h
    refine j_iald dX10_lengthOf_18 rfl (zin ej2 lj2 (by decide)) ?_
    rw [zcl ej2 lj2 (by decide)]
    refine j_iload_n dX10_lengthOf_19 rfl ?_
    refine j_ic_ne (tgt := 27) dX10_lengthOf_20 (by decide) (fun hc3 => ?_) (fun hc3 => ?_)
    · have h := h.1 hc3
      refine j_iconst (v := 0) dX10_lengthOf_27 rfl ?_
      refine j_iadd dX10_lengthOf_28 ?_
      refine j_istore_n (L2 := [some (.ref 0), some (.int x1), some (.int (x2 + 0)), some (.int x3)]) dX10_lengthOf_29 (by decide) (zno rfl) rfl ?_
      refine j_iinc (v := (x3 + 1)) (L2 := [some (.ref 0), some (.int x1), some (.int (x2 + 0)), some (.int (x3 + 1))]) dX10_lengthOf_30 rfl rfl (by decide) (zno rfl) rfl ?_
      refine j_goto (tgt := 4) dX10_lengthOf_33 (by decide) ?_
      exact zJw h ⟨rfl, rfl, rfl, rfl, trivial⟩
    · have h := h.2 hc3
      refine j_iconst (v := 1) dX10_lengthOf_23 rfl ?_
      refine j_goto (tgt := 28) dX10_lengthOf_24 (by decide) ?_
      refine j_iadd dX10_lengthOf_28 ?_
      refine j_istore_n (L2 := [some (.ref 0), some (.int x1), some (.int (x2 + 1)), some (.int x3)]) dX10_lengthOf_29 (by decide) (zno rfl) rfl ?_
      refine j_iinc (v := (x3 + 1)) (L2 := [some (.ref 0), some (.int x1), some (.int (x2 + 1)), some (.int (x3 + 1))]) dX10_lengthOf_30 rfl rfl (by decide) (zno rfl) rfl ?_
      refine j_goto (tgt := 4) dX10_lengthOf_33 (by decide) ?_
      exact zJw h ⟨rfl, rfl, rfl, rfl, trivial⟩
abbrev LX10_verseBy_6 (v : Int32) (X : zX) (x1 : Int32) (x2 : Int32) (x3 : Int32) (x4 : Int32) : Prop := zJ SY 0 mX10_verseBy (zRf v X) 6 [some (.ref 0), some (.int x1), some (.int x2), some (.int x3), some (.int x4)] [] X
theorem eX10_verseBy (v : Int32) (X : zX) (a1 : Int32) (a2 : Int32) (h : LX10_verseBy_6 v X a1 a2 (-4) 0) : zPf SY 0 mX10_verseBy [.ref 0, .int a1, .int a2] X v := by
  refine zP_in [some (.ref 0), some (.int a1), some (.int a2), none, none] ⟨rfl, rfl, rfl, trivial⟩ (by decide) (Nat.le_of_ble_eq_true rfl) ?_
  refine j_bipush (v := (-4)) dX10_verseBy_0 rfl ?_
  refine j_istore_n (L2 := [some (.ref 0), some (.int a1), some (.int a2), some (.int (-4)), none]) dX10_verseBy_2 (by decide) (zno rfl) rfl ?_
  refine j_iconst (v := 0) dX10_verseBy_3 rfl ?_
  refine j_istore (L2 := [some (.ref 0), some (.int a1), some (.int a2), some (.int (-4)), some (.int 0)]) dX10_verseBy_4 (by decide) (zno rfl) rfl ?_
  exact zJw h ⟨rfl, rfl, rfl, rfl, rfl, trivial⟩
theorem bX10_verseBy_6 (v : Int32) (X : zX) (x1 : Int32) (x2 : Int32) (x3 : Int32) (x4 : Int32) (h : (((X 0 3) ≤ x4) → (x3 = v)) ∧ ((¬ ((X 0 3) ≤ x4)) → (∃ j2 : Nat, x4 = nI j2 ∧ j2 < 24 ∧ (((¬ (X 3 j2) = x1) → (LX10_verseBy_6 v X x1 x2 x3 (x4 + 1))) ∧ (((X 3 j2) = x1) → (∃ j4 : Nat, x4 = nI j4 ∧ j4 < 24 ∧ (((¬ (X 8 j4) = x2) → (LX10_verseBy_6 v X x1 x2 x3 (x4 + 1))) ∧ (((X 8 j4) = x2) → (LX10_verseBy_6 v X x1 x2 x4 (x4 + 1)))))))))) : LX10_verseBy_6 v X x1 x2 x3 x4 := by
  refine j_iload dX10_verseBy_6 rfl ?_
  refine j_aload_n dX10_verseBy_8 rfl ?_
  refine j_getf dX10_verseBy_9 fX10_106 rfl rfl ?_
  refine j_ic_ge (tgt := 50) dX10_verseBy_12 (by decide) (fun hc1 => ?_) (fun hc1 => ?_)
  · have h := h.1 hc1
    refine j_iload_n dX10_verseBy_50 rfl ?_
    refine j_iret dX10_verseBy_51 rfl rfl ?_
    exact ⟨by rw [h], rfl⟩
  · have h := h.2 hc1
    refine j_aload_n dX10_verseBy_15 rfl ?_
    refine j_getr dX10_verseBy_16 fX10_16 rfl rfl ?_
    refine j_iload dX10_verseBy_19 rfl ?_
    obtain ⟨j2, ej2, lj2, h⟩ := h
    refine j_iald dX10_verseBy_21 rfl (zin ej2 lj2 (by decide)) ?_
    rw [zcl ej2 lj2 (by decide)]
    refine j_iload_n dX10_verseBy_22 rfl ?_
    refine j_ic_ne (tgt := 42) dX10_verseBy_23 (by decide) (fun hc3 => ?_) (fun hc3 => ?_)
    · have h := h.1 hc3
      refine j_iload_n dX10_verseBy_42 rfl ?_
      refine j_istore_n (L2 := [some (.ref 0), some (.int x1), some (.int x2), some (.int x3), some (.int x4)]) dX10_verseBy_43 (by decide) (zno rfl) rfl ?_
      refine j_iinc (v := (x4 + 1)) (L2 := [some (.ref 0), some (.int x1), some (.int x2), some (.int x3), some (.int (x4 + 1))]) dX10_verseBy_44 rfl rfl (by decide) (zno rfl) rfl ?_
      refine j_goto (tgt := 6) dX10_verseBy_47 (by decide) ?_
      exact zJw h ⟨rfl, rfl, rfl, rfl, rfl, trivial⟩
    · have h := h.2 hc3
      refine j_aload_n dX10_verseBy_26 rfl ?_
      refine j_getr dX10_verseBy_27 fX10_31 rfl rfl ?_
      refine j_iload dX10_verseBy_30 rfl ?_
      obtain ⟨j4, ej4, lj4, h⟩ := h
      refine j_iald dX10_verseBy_32 rfl (zin ej4 lj4 (by decide)) ?_
      rw [zcl ej4 lj4 (by decide)]
      refine j_iload_n dX10_verseBy_33 rfl ?_
      refine j_ic_ne (tgt := 42) dX10_verseBy_34 (by decide) (fun hc5 => ?_) (fun hc5 => ?_)
      · have h := h.1 hc5
        refine j_iload_n dX10_verseBy_42 rfl ?_
        refine j_istore_n (L2 := [some (.ref 0), some (.int x1), some (.int x2), some (.int x3), some (.int x4)]) dX10_verseBy_43 (by decide) (zno rfl) rfl ?_
        refine j_iinc (v := (x4 + 1)) (L2 := [some (.ref 0), some (.int x1), some (.int x2), some (.int x3), some (.int (x4 + 1))]) dX10_verseBy_44 rfl rfl (by decide) (zno rfl) rfl ?_
        refine j_goto (tgt := 6) dX10_verseBy_47 (by decide) ?_
        exact zJw h ⟨rfl, rfl, rfl, rfl, rfl, trivial⟩
      · have h := h.2 hc5
        refine j_iload dX10_verseBy_37 rfl ?_
        refine j_goto (tgt := 43) dX10_verseBy_39 (by decide) ?_
        refine j_istore_n (L2 := [some (.ref 0), some (.int x1), some (.int x2), some (.int x4), some (.int x4)]) dX10_verseBy_43 (by decide) (zno rfl) rfl ?_
        refine j_iinc (v := (x4 + 1)) (L2 := [some (.ref 0), some (.int x1), some (.int x2), some (.int x4), some (.int (x4 + 1))]) dX10_verseBy_44 rfl rfl (by decide) (zno rfl) rfl ?_
        refine j_goto (tgt := 6) dX10_verseBy_47 (by decide) ?_
        exact zJw h ⟨rfl, rfl, rfl, rfl, rfl, trivial⟩
theorem eX10_verse (P : Int32 → zX → Prop) (X : zX) (a1 : Int32) (a2 : Int32) (a3 : Int32) (a4 : Int32) (a5 : Int32) (h : ∃ r1 : Int32, zPf SY 1 mX10_isSong [.int a1] X r1 ∧ (((r1 = 0) → (P (-1) X)) ∧ ((¬ (r1 = 0)) → (∃ r3 : Int32, zPf SY 1 mX10_isPlace [.ref 0, .int a2] X r3 ∧ (((r3 = 0) → (P (-1) X)) ∧ ((¬ (r3 = 0)) → (∃ r5 : Int32, zPf SY 0 mX10_in [.long a3.toInt64, .long 0, .long 8] X r5 ∧ (((r5 = 0) → (P (-1) X)) ∧ ((¬ (r5 = 0)) → (((a5 = (-4)) → (∃ r8 : Int32, zPf SY 0 mX10_lengthOf [.ref 0, .int a1] X r8 ∧ (((r8 ≤ 0) → (((¬ (X 0 3) = 24) → (∃ j11 : Nat, (X 0 3) = nI j11 ∧ j11 < 24 ∧ (∃ j12 : Nat, (X 0 3) = nI j12 ∧ j12 < 24 ∧ (∃ j13 : Nat, (X 0 3) = nI j13 ∧ j13 < 24 ∧ (((¬ r8 = 0) → (∃ j15 : Nat, (X 0 3) = nI j15 ∧ j15 < 24 ∧ (∃ j16 : Nat, (X 0 3) = nI j16 ∧ j16 < 24 ∧ (∃ j17 : Nat, (X 0 3) = nI j17 ∧ j17 < 24 ∧ (P (((X 0 3) + 1) - 1) (zs (zs (zs (zs (zs (zs (zs X 3 j11 a1) 4 j12 a2) 5 j13 a3) 6 j15 a4) 7 j16 a5) 8 j17 r8) 0 3 ((X 0 3) + 1))))))) ∧ ((r8 = 0) → (∃ j18 : Nat, (X 0 3) = nI j18 ∧ j18 < 24 ∧ (∃ j19 : Nat, (X 0 3) = nI j19 ∧ j19 < 24 ∧ (∃ j20 : Nat, (X 0 3) = nI j20 ∧ j20 < 24 ∧ (P (((X 0 3) + 1) - 1) (zs (zs (zs (zs (zs (zs (zs X 3 j11 a1) 4 j12 a2) 5 j13 a3) 6 j18 0) 7 j19 a5) 8 j20 r8) 0 3 ((X 0 3) + 1)))))))))))) ∧ (((X 0 3) = 24) → (P (-3) X)))) ∧ ((¬ (r8 ≤ 0)) → (∃ r21 : Int32, zPf SY 0 mX10_in [.long a4.toInt64, .long 1, .long 9] X r21 ∧ (((¬ r21 = 0) → (((¬ (X 0 3) = 24) → (∃ j24 : Nat, (X 0 3) = nI j24 ∧ j24 < 24 ∧ (∃ j25 : Nat, (X 0 3) = nI j25 ∧ j25 < 24 ∧ (∃ j26 : Nat, (X 0 3) = nI j26 ∧ j26 < 24 ∧ (((¬ r8 = 0) → (∃ j28 : Nat, (X 0 3) = nI j28 ∧ j28 < 24 ∧ (∃ j29 : Nat, (X 0 3) = nI j29 ∧ j29 < 24 ∧ (∃ j30 : Nat, (X 0 3) = nI j30 ∧ j30 < 24 ∧ (P (((X 0 3) + 1) - 1) (zs (zs (zs (zs (zs (zs (zs X 3 j24 a1) 4 j25 a2) 5 j26 a3) 6 j28 a4) 7 j29 a5) 8 j30 r8) 0 3 ((X 0 3) + 1))))))) ∧ ((r8 = 0) → (∃ j31 : Nat, (X 0 3) = nI j31 ∧ j31 < 24 ∧ (∃ j32 : Nat, (X 0 3) = nI j32 ∧ j32 < 24 ∧ (∃ j33 : Nat, (X 0 3) = nI j33 ∧ j33 < 24 ∧ (P (((X 0 3) + 1) - 1) (zs (zs (zs (zs (zs (zs (zs X 3 j24 a1) 4 j25 a2) 5 j26 a3) 6 j31 0) 7 j32 a5) 8 j33 r8) 0 3 ((X 0 3) + 1)))))))))))) ∧ (((X 0 3) = 24) → (P (-3) X)))) ∧ ((r21 = 0) → (P (-1) X)))))))) ∧ ((¬ (a5 = (-4))) → (∃ r34 : Int32, zPf SY 0 mX10_in [.long a5.toInt64, .long 0, .long 7] X r34 ∧ (((¬ r34 = 0) → (∃ r36 : Int32, zPf SY 0 mX10_lengthOf [.ref 0, .int a1] X r36 ∧ (((r36 ≤ 0) → (((¬ (X 0 3) = 24) → (∃ j39 : Nat, (X 0 3) = nI j39 ∧ j39 < 24 ∧ (∃ j40 : Nat, (X 0 3) = nI j40 ∧ j40 < 24 ∧ (∃ j41 : Nat, (X 0 3) = nI j41 ∧ j41 < 24 ∧ (((¬ r36 = 0) → (∃ j43 : Nat, (X 0 3) = nI j43 ∧ j43 < 24 ∧ (∃ j44 : Nat, (X 0 3) = nI j44 ∧ j44 < 24 ∧ (∃ j45 : Nat, (X 0 3) = nI j45 ∧ j45 < 24 ∧ (P (((X 0 3) + 1) - 1) (zs (zs (zs (zs (zs (zs (zs X 3 j39 a1) 4 j40 a2) 5 j41 a3) 6 j43 a4) 7 j44 a5) 8 j45 r36) 0 3 ((X 0 3) + 1))))))) ∧ ((r36 = 0) → (∃ j46 : Nat, (X 0 3) = nI j46 ∧ j46 < 24 ∧ (∃ j47 : Nat, (X 0 3) = nI j47 ∧ j47 < 24 ∧ (∃ j48 : Nat, (X 0 3) = nI j48 ∧ j48 < 24 ∧ (P (((X 0 3) + 1) - 1) (zs (zs (zs (zs (zs (zs (zs X 3 j39 a1) 4 j40 a2) 5 j41 a3) 6 j46 0) 7 j47 a5) 8 j48 r36) 0 3 ((X 0 3) + 1)))))))))))) ∧ (((X 0 3) = 24) → (P (-3) X)))) ∧ ((¬ (r36 ≤ 0)) → (∃ r49 : Int32, zPf SY 0 mX10_in [.long a4.toInt64, .long 1, .long 9] X r49 ∧ (((¬ r49 = 0) → (((¬ (X 0 3) = 24) → (∃ j52 : Nat, (X 0 3) = nI j52 ∧ j52 < 24 ∧ (∃ j53 : Nat, (X 0 3) = nI j53 ∧ j53 < 24 ∧ (∃ j54 : Nat, (X 0 3) = nI j54 ∧ j54 < 24 ∧ (((¬ r36 = 0) → (∃ j56 : Nat, (X 0 3) = nI j56 ∧ j56 < 24 ∧ (∃ j57 : Nat, (X 0 3) = nI j57 ∧ j57 < 24 ∧ (∃ j58 : Nat, (X 0 3) = nI j58 ∧ j58 < 24 ∧ (P (((X 0 3) + 1) - 1) (zs (zs (zs (zs (zs (zs (zs X 3 j52 a1) 4 j53 a2) 5 j54 a3) 6 j56 a4) 7 j57 a5) 8 j58 r36) 0 3 ((X 0 3) + 1))))))) ∧ ((r36 = 0) → (∃ j59 : Nat, (X 0 3) = nI j59 ∧ j59 < 24 ∧ (∃ j60 : Nat, (X 0 3) = nI j60 ∧ j60 < 24 ∧ (∃ j61 : Nat, (X 0 3) = nI j61 ∧ j61 < 24 ∧ (P (((X 0 3) + 1) - 1) (zs (zs (zs (zs (zs (zs (zs X 3 j52 a1) 4 j53 a2) 5 j54 a3) 6 j59 0) 7 j60 a5) 8 j61 r36) 0 3 ((X 0 3) + 1)))))))))))) ∧ (((X 0 3) = 24) → (P (-3) X)))) ∧ ((r49 = 0) → (P (-1) X)))))))) ∧ ((r34 = 0) → (P (-1) X))))))))))))))) : zPi SY 2 mX10_verse [.ref 0, .int a1, .int a2, .int a3, .int a4, .int a5] X P := by
  refine zP_in [some (.ref 0), some (.int a1), some (.int a2), some (.int a3), some (.int a4), some (.int a5), none] ⟨rfl, rfl, rfl, rfl, rfl, rfl, trivial⟩ (by decide) (Nat.le_of_ble_eq_true rfl) ?_
  refine j_iload_n dX10_verse_0 rfl ?_
  obtain ⟨r1, hc, h⟩ := h
  refine j_csf (lc := 1) (as := [.int a1]) dX10_verse_1 iX10_isSong sX10_isSong kX10_118 (by decide) rfl rfl (Nat.zero_le _) hc ?_
  refine j_if_eq (tgt := 47) dX10_verse_4 (by decide) (fun hc2 => ?_) (fun hc2 => ?_)
  · have h := h.1 hc2
    refine j_iconst (v := (-1)) dX10_verse_47 rfl ?_
    refine j_iret dX10_verse_48 rfl rfl ?_
    exact ⟨_, rfl, h⟩
  · have h := h.2 hc2
    refine j_aload_n dX10_verse_7 rfl ?_
    refine j_iload_n dX10_verse_8 rfl ?_
    obtain ⟨r3, hc, h⟩ := h
    refine j_cvf (lc := 1) (as := [.int a2]) dX10_verse_9 iX10_isPlace vX10_isPlace kX10_122 (by decide) rfl rfl rfl rfl (Nat.zero_le _) hc ?_
    refine j_if_eq (tgt := 47) dX10_verse_12 (by decide) (fun hc4 => ?_) (fun hc4 => ?_)
    · have h := h.1 hc4
      refine j_iconst (v := (-1)) dX10_verse_47 rfl ?_
      refine j_iret dX10_verse_48 rfl rfl ?_
      exact ⟨_, rfl, h⟩
    · have h := h.2 hc4
      refine j_iload_n dX10_verse_15 rfl ?_
      refine j_i2l dX10_verse_16 ?_
      refine j_lconst (v := 0) dX10_verse_17 rfl ?_
      refine j_ldc2 (v := 8) dX10_verse_18 qX10_125 ?_
      obtain ⟨r5, hc, h⟩ := h
      refine j_csf (lc := 0) (as := [.long a3.toInt64, .long 0, .long 8]) dX10_verse_21 iX10_in sX10_in kX10_102 (by decide) rfl rfl (Nat.zero_le _) hc ?_
      refine j_if_eq (tgt := 47) dX10_verse_24 (by decide) (fun hc6 => ?_) (fun hc6 => ?_)
      · have h := h.1 hc6
        refine j_iconst (v := (-1)) dX10_verse_47 rfl ?_
        refine j_iret dX10_verse_48 rfl rfl ?_
        exact ⟨_, rfl, h⟩
      · have h := h.2 hc6
        refine j_iload dX10_verse_27 rfl ?_
        refine j_bipush (v := (-4)) dX10_verse_29 rfl ?_
        refine j_ic_eq (tgt := 49) dX10_verse_31 (by decide) (fun hc7 => ?_) (fun hc7 => ?_)
        · have h := h.1 hc7
          refine j_aload_n dX10_verse_49 rfl ?_
          refine j_iload_n dX10_verse_50 rfl ?_
          obtain ⟨r8, hc, h⟩ := h
          refine j_cvf (lc := 0) (as := [.int a1]) dX10_verse_51 iX10_lengthOf vX10_lengthOf kX10_129 (by decide) rfl rfl rfl rfl (Nat.zero_le _) hc ?_
          refine j_istore (L2 := [some (.ref 0), some (.int a1), some (.int a2), some (.int a3), some (.int a4), some (.int a5), some (.int r8)]) dX10_verse_54 (by decide) (zno rfl) rfl ?_
          refine j_iload dX10_verse_56 rfl ?_
          refine j_if_le (tgt := 76) dX10_verse_58 (by decide) (fun hc9 => ?_) (fun hc9 => ?_)
          · have h := h.1 hc9
            refine j_aload_n dX10_verse_76 rfl ?_
            refine j_getf dX10_verse_77 fX10_106 rfl rfl ?_
            refine j_bipush (v := 24) dX10_verse_80 rfl ?_
            refine j_ic_ne (tgt := 88) dX10_verse_82 (by decide) (fun hc10 => ?_) (fun hc10 => ?_)
            · have h := h.1 hc10
              refine j_aload_n dX10_verse_88 rfl ?_
              refine j_getr dX10_verse_89 fX10_16 rfl rfl ?_
              refine j_aload_n dX10_verse_92 rfl ?_
              refine j_getf dX10_verse_93 fX10_106 rfl rfl ?_
              refine j_iload_n dX10_verse_96 rfl ?_
              obtain ⟨j11, ej11, lj11, h⟩ := h
              refine j_iast dX10_verse_97 rfl (zin ej11 lj11 (by decide)) ?_
              rw [zcl ej11 lj11 (by decide)]
              refine j_aload_n dX10_verse_98 rfl ?_
              refine j_getr dX10_verse_99 fX10_19 rfl rfl ?_
              refine j_aload_n dX10_verse_102 rfl ?_
              refine j_getv (v := .int (X 0 3)) dX10_verse_103 fX10_106 rfl rfl (fun _ => rfl) ?_
              refine j_iload_n dX10_verse_106 rfl ?_
              obtain ⟨j12, ej12, lj12, h⟩ := h
              refine j_iast dX10_verse_107 rfl (zin ej12 lj12 (by decide)) ?_
              rw [zcl ej12 lj12 (by decide)]
              refine j_aload_n dX10_verse_108 rfl ?_
              refine j_getr dX10_verse_109 fX10_22 rfl rfl ?_
              refine j_aload_n dX10_verse_112 rfl ?_
              refine j_getv (v := .int (X 0 3)) dX10_verse_113 fX10_106 rfl rfl (fun _ => rfl) ?_
              refine j_iload_n dX10_verse_116 rfl ?_
              obtain ⟨j13, ej13, lj13, h⟩ := h
              refine j_iast dX10_verse_117 rfl (zin ej13 lj13 (by decide)) ?_
              rw [zcl ej13 lj13 (by decide)]
              refine j_aload_n dX10_verse_118 rfl ?_
              refine j_getr dX10_verse_119 fX10_25 rfl rfl ?_
              refine j_aload_n dX10_verse_122 rfl ?_
              refine j_getv (v := .int (X 0 3)) dX10_verse_123 fX10_106 rfl rfl (fun _ => rfl) ?_
              refine j_iload dX10_verse_126 rfl ?_
              refine j_if_ne (tgt := 135) dX10_verse_128 (by decide) (fun hc14 => ?_) (fun hc14 => ?_)
              · have h := h.1 hc14
                refine j_iload dX10_verse_135 rfl ?_
                obtain ⟨j15, ej15, lj15, h⟩ := h
                refine j_iast dX10_verse_137 rfl (zin ej15 lj15 (by decide)) ?_
                rw [zcl ej15 lj15 (by decide)]
                refine j_aload_n dX10_verse_138 rfl ?_
                refine j_getr dX10_verse_139 fX10_28 rfl rfl ?_
                refine j_aload_n dX10_verse_142 rfl ?_
                refine j_getv (v := .int (X 0 3)) dX10_verse_143 fX10_106 rfl rfl (fun _ => rfl) ?_
                refine j_iload dX10_verse_146 rfl ?_
                obtain ⟨j16, ej16, lj16, h⟩ := h
                refine j_iast dX10_verse_148 rfl (zin ej16 lj16 (by decide)) ?_
                rw [zcl ej16 lj16 (by decide)]
                refine j_aload_n dX10_verse_149 rfl ?_
                refine j_getr dX10_verse_150 fX10_31 rfl rfl ?_
                refine j_aload_n dX10_verse_153 rfl ?_
                refine j_getv (v := .int (X 0 3)) dX10_verse_154 fX10_106 rfl rfl (fun _ => rfl) ?_
                refine j_iload dX10_verse_157 rfl ?_
                obtain ⟨j17, ej17, lj17, h⟩ := h
                refine j_iast dX10_verse_159 rfl (zin ej17 lj17 (by decide)) ?_
                rw [zcl ej17 lj17 (by decide)]
                refine j_aload_n dX10_verse_160 rfl ?_
                refine j_dup dX10_verse_161 rfl ?_
                refine j_getv (v := .int (X 0 3)) dX10_verse_162 fX10_106 rfl rfl (fun _ => rfl) ?_
                refine j_iconst (v := 1) dX10_verse_165 rfl ?_
                refine j_iadd dX10_verse_166 ?_
                refine j_putf dX10_verse_167 fX10_106 pX10_3 rfl rfl ?_
                refine j_aload_n dX10_verse_170 rfl ?_
                refine j_getv (v := .int ((X 0 3) + 1)) dX10_verse_171 fX10_106 rfl rfl (fun _ => rfl) ?_
                refine j_iconst (v := 1) dX10_verse_174 rfl ?_
                refine j_isub dX10_verse_175 ?_
                refine j_iret dX10_verse_176 rfl rfl ?_
                exact ⟨_, rfl, h⟩
              · have h := h.2 hc14
                refine j_iconst (v := 0) dX10_verse_131 rfl ?_
                refine j_goto (tgt := 137) dX10_verse_132 (by decide) ?_
                obtain ⟨j18, ej18, lj18, h⟩ := h
                refine j_iast dX10_verse_137 rfl (zin ej18 lj18 (by decide)) ?_
                rw [zcl ej18 lj18 (by decide)]
                refine j_aload_n dX10_verse_138 rfl ?_
                refine j_getr dX10_verse_139 fX10_28 rfl rfl ?_
                refine j_aload_n dX10_verse_142 rfl ?_
                refine j_getv (v := .int (X 0 3)) dX10_verse_143 fX10_106 rfl rfl (fun _ => rfl) ?_
                refine j_iload dX10_verse_146 rfl ?_
                obtain ⟨j19, ej19, lj19, h⟩ := h
                refine j_iast dX10_verse_148 rfl (zin ej19 lj19 (by decide)) ?_
                rw [zcl ej19 lj19 (by decide)]
                refine j_aload_n dX10_verse_149 rfl ?_
                refine j_getr dX10_verse_150 fX10_31 rfl rfl ?_
                refine j_aload_n dX10_verse_153 rfl ?_
                refine j_getv (v := .int (X 0 3)) dX10_verse_154 fX10_106 rfl rfl (fun _ => rfl) ?_
                refine j_iload dX10_verse_157 rfl ?_
                obtain ⟨j20, ej20, lj20, h⟩ := h
                refine j_iast dX10_verse_159 rfl (zin ej20 lj20 (by decide)) ?_
                rw [zcl ej20 lj20 (by decide)]
                refine j_aload_n dX10_verse_160 rfl ?_
                refine j_dup dX10_verse_161 rfl ?_
                refine j_getv (v := .int (X 0 3)) dX10_verse_162 fX10_106 rfl rfl (fun _ => rfl) ?_
                refine j_iconst (v := 1) dX10_verse_165 rfl ?_
                refine j_iadd dX10_verse_166 ?_
                refine j_putf dX10_verse_167 fX10_106 pX10_3 rfl rfl ?_
                refine j_aload_n dX10_verse_170 rfl ?_
                refine j_getv (v := .int ((X 0 3) + 1)) dX10_verse_171 fX10_106 rfl rfl (fun _ => rfl) ?_
                refine j_iconst (v := 1) dX10_verse_174 rfl ?_
                refine j_isub dX10_verse_175 ?_
                refine j_iret dX10_verse_176 rfl rfl ?_
                exact ⟨_, rfl, h⟩
            · have h := h.2 hc10
              refine j_bipush (v := (-3)) dX10_verse_85 rfl ?_
              refine j_iret dX10_verse_87 rfl rfl ?_
              exact ⟨_, rfl, h⟩
          · have h := h.2 hc9
            refine j_iload dX10_verse_61 rfl ?_
            refine j_i2l dX10_verse_63 ?_
            refine j_lconst (v := 1) dX10_verse_64 rfl ?_
            refine j_ldc2 (v := 9) dX10_verse_65 qX10_114 ?_
            obtain ⟨r21, hc, h⟩ := h
            refine j_csf (lc := 0) (as := [.long a4.toInt64, .long 1, .long 9]) dX10_verse_68 iX10_in sX10_in kX10_102 (by decide) rfl rfl (Nat.zero_le _) hc ?_
            refine j_if_ne (tgt := 76) dX10_verse_71 (by decide) (fun hc22 => ?_) (fun hc22 => ?_)
            · have h := h.1 hc22
              refine j_aload_n dX10_verse_76 rfl ?_
              refine j_getf dX10_verse_77 fX10_106 rfl rfl ?_
              refine j_bipush (v := 24) dX10_verse_80 rfl ?_
              refine j_ic_ne (tgt := 88) dX10_verse_82 (by decide) (fun hc23 => ?_) (fun hc23 => ?_)
              · have h := h.1 hc23
                refine j_aload_n dX10_verse_88 rfl ?_
                refine j_getr dX10_verse_89 fX10_16 rfl rfl ?_
                refine j_aload_n dX10_verse_92 rfl ?_
                refine j_getf dX10_verse_93 fX10_106 rfl rfl ?_
                refine j_iload_n dX10_verse_96 rfl ?_
                obtain ⟨j24, ej24, lj24, h⟩ := h
                refine j_iast dX10_verse_97 rfl (zin ej24 lj24 (by decide)) ?_
                rw [zcl ej24 lj24 (by decide)]
                refine j_aload_n dX10_verse_98 rfl ?_
                refine j_getr dX10_verse_99 fX10_19 rfl rfl ?_
                refine j_aload_n dX10_verse_102 rfl ?_
                refine j_getv (v := .int (X 0 3)) dX10_verse_103 fX10_106 rfl rfl (fun _ => rfl) ?_
                refine j_iload_n dX10_verse_106 rfl ?_
                obtain ⟨j25, ej25, lj25, h⟩ := h
                refine j_iast dX10_verse_107 rfl (zin ej25 lj25 (by decide)) ?_
                rw [zcl ej25 lj25 (by decide)]
                refine j_aload_n dX10_verse_108 rfl ?_
                refine j_getr dX10_verse_109 fX10_22 rfl rfl ?_
                refine j_aload_n dX10_verse_112 rfl ?_
                refine j_getv (v := .int (X 0 3)) dX10_verse_113 fX10_106 rfl rfl (fun _ => rfl) ?_
                refine j_iload_n dX10_verse_116 rfl ?_
                obtain ⟨j26, ej26, lj26, h⟩ := h
                refine j_iast dX10_verse_117 rfl (zin ej26 lj26 (by decide)) ?_
                rw [zcl ej26 lj26 (by decide)]
                refine j_aload_n dX10_verse_118 rfl ?_
                refine j_getr dX10_verse_119 fX10_25 rfl rfl ?_
                refine j_aload_n dX10_verse_122 rfl ?_
                refine j_getv (v := .int (X 0 3)) dX10_verse_123 fX10_106 rfl rfl (fun _ => rfl) ?_
                refine j_iload dX10_verse_126 rfl ?_
                refine j_if_ne (tgt := 135) dX10_verse_128 (by decide) (fun hc27 => ?_) (fun hc27 => ?_)
                · have h := h.1 hc27
                  refine j_iload dX10_verse_135 rfl ?_
                  obtain ⟨j28, ej28, lj28, h⟩ := h
                  refine j_iast dX10_verse_137 rfl (zin ej28 lj28 (by decide)) ?_
                  rw [zcl ej28 lj28 (by decide)]
                  refine j_aload_n dX10_verse_138 rfl ?_
                  refine j_getr dX10_verse_139 fX10_28 rfl rfl ?_
                  refine j_aload_n dX10_verse_142 rfl ?_
                  refine j_getv (v := .int (X 0 3)) dX10_verse_143 fX10_106 rfl rfl (fun _ => rfl) ?_
                  refine j_iload dX10_verse_146 rfl ?_
                  obtain ⟨j29, ej29, lj29, h⟩ := h
                  refine j_iast dX10_verse_148 rfl (zin ej29 lj29 (by decide)) ?_
                  rw [zcl ej29 lj29 (by decide)]
                  refine j_aload_n dX10_verse_149 rfl ?_
                  refine j_getr dX10_verse_150 fX10_31 rfl rfl ?_
                  refine j_aload_n dX10_verse_153 rfl ?_
                  refine j_getv (v := .int (X 0 3)) dX10_verse_154 fX10_106 rfl rfl (fun _ => rfl) ?_
                  refine j_iload dX10_verse_157 rfl ?_
                  obtain ⟨j30, ej30, lj30, h⟩ := h
                  refine j_iast dX10_verse_159 rfl (zin ej30 lj30 (by decide)) ?_
                  rw [zcl ej30 lj30 (by decide)]
                  refine j_aload_n dX10_verse_160 rfl ?_
                  refine j_dup dX10_verse_161 rfl ?_
                  refine j_getv (v := .int (X 0 3)) dX10_verse_162 fX10_106 rfl rfl (fun _ => rfl) ?_
                  refine j_iconst (v := 1) dX10_verse_165 rfl ?_
                  refine j_iadd dX10_verse_166 ?_
                  refine j_putf dX10_verse_167 fX10_106 pX10_3 rfl rfl ?_
                  refine j_aload_n dX10_verse_170 rfl ?_
                  refine j_getv (v := .int ((X 0 3) + 1)) dX10_verse_171 fX10_106 rfl rfl (fun _ => rfl) ?_
                  refine j_iconst (v := 1) dX10_verse_174 rfl ?_
                  refine j_isub dX10_verse_175 ?_
                  refine j_iret dX10_verse_176 rfl rfl ?_
                  exact ⟨_, rfl, h⟩
                · have h := h.2 hc27
                  refine j_iconst (v := 0) dX10_verse_131 rfl ?_
                  refine j_goto (tgt := 137) dX10_verse_132 (by decide) ?_
                  obtain ⟨j31, ej31, lj31, h⟩ := h
                  refine j_iast dX10_verse_137 rfl (zin ej31 lj31 (by decide)) ?_
                  rw [zcl ej31 lj31 (by decide)]
                  refine j_aload_n dX10_verse_138 rfl ?_
                  refine j_getr dX10_verse_139 fX10_28 rfl rfl ?_
                  refine j_aload_n dX10_verse_142 rfl ?_
                  refine j_getv (v := .int (X 0 3)) dX10_verse_143 fX10_106 rfl rfl (fun _ => rfl) ?_
                  refine j_iload dX10_verse_146 rfl ?_
                  obtain ⟨j32, ej32, lj32, h⟩ := h
                  refine j_iast dX10_verse_148 rfl (zin ej32 lj32 (by decide)) ?_
                  rw [zcl ej32 lj32 (by decide)]
                  refine j_aload_n dX10_verse_149 rfl ?_
                  refine j_getr dX10_verse_150 fX10_31 rfl rfl ?_
                  refine j_aload_n dX10_verse_153 rfl ?_
                  refine j_getv (v := .int (X 0 3)) dX10_verse_154 fX10_106 rfl rfl (fun _ => rfl) ?_
                  refine j_iload dX10_verse_157 rfl ?_
                  obtain ⟨j33, ej33, lj33, h⟩ := h
                  refine j_iast dX10_verse_159 rfl (zin ej33 lj33 (by decide)) ?_
                  rw [zcl ej33 lj33 (by decide)]
                  refine j_aload_n dX10_verse_160 rfl ?_
                  refine j_dup dX10_verse_161 rfl ?_
                  refine j_getv (v := .int (X 0 3)) dX10_verse_162 fX10_106 rfl rfl (fun _ => rfl) ?_
                  refine j_iconst (v := 1) dX10_verse_165 rfl ?_
                  refine j_iadd dX10_verse_166 ?_
                  refine j_putf dX10_verse_167 fX10_106 pX10_3 rfl rfl ?_
                  refine j_aload_n dX10_verse_170 rfl ?_
                  refine j_getv (v := .int ((X 0 3) + 1)) dX10_verse_171 fX10_106 rfl rfl (fun _ => rfl) ?_
                  refine j_iconst (v := 1) dX10_verse_174 rfl ?_
                  refine j_isub dX10_verse_175 ?_
                  refine j_iret dX10_verse_176 rfl rfl ?_
                  exact ⟨_, rfl, h⟩
              · have h := h.2 hc23
                refine j_bipush (v := (-3)) dX10_verse_85 rfl ?_
                refine j_iret dX10_verse_87 rfl rfl ?_
                exact ⟨_, rfl, h⟩
            · have h := h.2 hc22
              refine j_iconst (v := (-1)) dX10_verse_74 rfl ?_
              refine j_iret dX10_verse_75 rfl rfl ?_
              exact ⟨_, rfl, h⟩
        · have h := h.2 hc7
          refine j_iload dX10_verse_34 rfl ?_
          refine j_i2l dX10_verse_36 ?_
          refine j_lconst (v := 0) dX10_verse_37 rfl ?_
          refine j_ldc2 (v := 7) dX10_verse_38 qX10_127 ?_
          obtain ⟨r34, hc, h⟩ := h
          refine j_csf (lc := 0) (as := [.long a5.toInt64, .long 0, .long 7]) dX10_verse_41 iX10_in sX10_in kX10_102 (by decide) rfl rfl (Nat.zero_le _) hc ?_
          refine j_if_ne (tgt := 49) dX10_verse_44 (by decide) (fun hc35 => ?_) (fun hc35 => ?_)
          · have h := h.1 hc35
            refine j_aload_n dX10_verse_49 rfl ?_
            refine j_iload_n dX10_verse_50 rfl ?_
            obtain ⟨r36, hc, h⟩ := h
            refine j_cvf (lc := 0) (as := [.int a1]) dX10_verse_51 iX10_lengthOf vX10_lengthOf kX10_129 (by decide) rfl rfl rfl rfl (Nat.zero_le _) hc ?_
            refine j_istore (L2 := [some (.ref 0), some (.int a1), some (.int a2), some (.int a3), some (.int a4), some (.int a5), some (.int r36)]) dX10_verse_54 (by decide) (zno rfl) rfl ?_
            refine j_iload dX10_verse_56 rfl ?_
            refine j_if_le (tgt := 76) dX10_verse_58 (by decide) (fun hc37 => ?_) (fun hc37 => ?_)
            · have h := h.1 hc37
              refine j_aload_n dX10_verse_76 rfl ?_
              refine j_getf dX10_verse_77 fX10_106 rfl rfl ?_
              refine j_bipush (v := 24) dX10_verse_80 rfl ?_
              refine j_ic_ne (tgt := 88) dX10_verse_82 (by decide) (fun hc38 => ?_) (fun hc38 => ?_)
              · have h := h.1 hc38
                refine j_aload_n dX10_verse_88 rfl ?_
                refine j_getr dX10_verse_89 fX10_16 rfl rfl ?_
                refine j_aload_n dX10_verse_92 rfl ?_
                refine j_getf dX10_verse_93 fX10_106 rfl rfl ?_
                refine j_iload_n dX10_verse_96 rfl ?_
                obtain ⟨j39, ej39, lj39, h⟩ := h
                refine j_iast dX10_verse_97 rfl (zin ej39 lj39 (by decide)) ?_
                rw [zcl ej39 lj39 (by decide)]
                refine j_aload_n dX10_verse_98 rfl ?_
                refine j_getr dX10_verse_99 fX10_19 rfl rfl ?_
                refine j_aload_n dX10_verse_102 rfl ?_
                refine j_getv (v := .int (X 0 3)) dX10_verse_103 fX10_106 rfl rfl (fun _ => rfl) ?_
                refine j_iload_n dX10_verse_106 rfl ?_
                obtain ⟨j40, ej40, lj40, h⟩ := h
                refine j_iast dX10_verse_107 rfl (zin ej40 lj40 (by decide)) ?_
                rw [zcl ej40 lj40 (by decide)]
                refine j_aload_n dX10_verse_108 rfl ?_
                refine j_getr dX10_verse_109 fX10_22 rfl rfl ?_
                refine j_aload_n dX10_verse_112 rfl ?_
                refine j_getv (v := .int (X 0 3)) dX10_verse_113 fX10_106 rfl rfl (fun _ => rfl) ?_
                refine j_iload_n dX10_verse_116 rfl ?_
                obtain ⟨j41, ej41, lj41, h⟩ := h
                refine j_iast dX10_verse_117 rfl (zin ej41 lj41 (by decide)) ?_
                rw [zcl ej41 lj41 (by decide)]
                refine j_aload_n dX10_verse_118 rfl ?_
                refine j_getr dX10_verse_119 fX10_25 rfl rfl ?_
                refine j_aload_n dX10_verse_122 rfl ?_
                refine j_getv (v := .int (X 0 3)) dX10_verse_123 fX10_106 rfl rfl (fun _ => rfl) ?_
                refine j_iload dX10_verse_126 rfl ?_
                refine j_if_ne (tgt := 135) dX10_verse_128 (by decide) (fun hc42 => ?_) (fun hc42 => ?_)
                · have h := h.1 hc42
                  refine j_iload dX10_verse_135 rfl ?_
                  obtain ⟨j43, ej43, lj43, h⟩ := h
                  refine j_iast dX10_verse_137 rfl (zin ej43 lj43 (by decide)) ?_
                  rw [zcl ej43 lj43 (by decide)]
                  refine j_aload_n dX10_verse_138 rfl ?_
                  refine j_getr dX10_verse_139 fX10_28 rfl rfl ?_
                  refine j_aload_n dX10_verse_142 rfl ?_
                  refine j_getv (v := .int (X 0 3)) dX10_verse_143 fX10_106 rfl rfl (fun _ => rfl) ?_
                  refine j_iload dX10_verse_146 rfl ?_
                  obtain ⟨j44, ej44, lj44, h⟩ := h
                  refine j_iast dX10_verse_148 rfl (zin ej44 lj44 (by decide)) ?_
                  rw [zcl ej44 lj44 (by decide)]
                  refine j_aload_n dX10_verse_149 rfl ?_
                  refine j_getr dX10_verse_150 fX10_31 rfl rfl ?_
                  refine j_aload_n dX10_verse_153 rfl ?_
                  refine j_getv (v := .int (X 0 3)) dX10_verse_154 fX10_106 rfl rfl (fun _ => rfl) ?_
                  refine j_iload dX10_verse_157 rfl ?_
                  obtain ⟨j45, ej45, lj45, h⟩ := h
                  refine j_iast dX10_verse_159 rfl (zin ej45 lj45 (by decide)) ?_
                  rw [zcl ej45 lj45 (by decide)]
                  refine j_aload_n dX10_verse_160 rfl ?_
                  refine j_dup dX10_verse_161 rfl ?_
                  refine j_getv (v := .int (X 0 3)) dX10_verse_162 fX10_106 rfl rfl (fun _ => rfl) ?_
                  refine j_iconst (v := 1) dX10_verse_165 rfl ?_
                  refine j_iadd dX10_verse_166 ?_
                  refine j_putf dX10_verse_167 fX10_106 pX10_3 rfl rfl ?_
                  refine j_aload_n dX10_verse_170 rfl ?_
                  refine j_getv (v := .int ((X 0 3) + 1)) dX10_verse_171 fX10_106 rfl rfl (fun _ => rfl) ?_
                  refine j_iconst (v := 1) dX10_verse_174 rfl ?_
                  refine j_isub dX10_verse_175 ?_
                  refine j_iret dX10_verse_176 rfl rfl ?_
                  exact ⟨_, rfl, h⟩
                · have h := h.2 hc42
                  refine j_iconst (v := 0) dX10_verse_131 rfl ?_
                  refine j_goto (tgt := 137) dX10_verse_132 (by decide) ?_
                  obtain ⟨j46, ej46, lj46, h⟩ := h
                  refine j_iast dX10_verse_137 rfl (zin ej46 lj46 (by decide)) ?_
                  rw [zcl ej46 lj46 (by decide)]
                  refine j_aload_n dX10_verse_138 rfl ?_
                  refine j_getr dX10_verse_139 fX10_28 rfl rfl ?_
                  refine j_aload_n dX10_verse_142 rfl ?_
                  refine j_getv (v := .int (X 0 3)) dX10_verse_143 fX10_106 rfl rfl (fun _ => rfl) ?_
                  refine j_iload dX10_verse_146 rfl ?_
                  obtain ⟨j47, ej47, lj47, h⟩ := h
                  refine j_iast dX10_verse_148 rfl (zin ej47 lj47 (by decide)) ?_
                  rw [zcl ej47 lj47 (by decide)]
                  refine j_aload_n dX10_verse_149 rfl ?_
                  refine j_getr dX10_verse_150 fX10_31 rfl rfl ?_
                  refine j_aload_n dX10_verse_153 rfl ?_
                  refine j_getv (v := .int (X 0 3)) dX10_verse_154 fX10_106 rfl rfl (fun _ => rfl) ?_
                  refine j_iload dX10_verse_157 rfl ?_
                  obtain ⟨j48, ej48, lj48, h⟩ := h
                  refine j_iast dX10_verse_159 rfl (zin ej48 lj48 (by decide)) ?_
                  rw [zcl ej48 lj48 (by decide)]
                  refine j_aload_n dX10_verse_160 rfl ?_
                  refine j_dup dX10_verse_161 rfl ?_
                  refine j_getv (v := .int (X 0 3)) dX10_verse_162 fX10_106 rfl rfl (fun _ => rfl) ?_
                  refine j_iconst (v := 1) dX10_verse_165 rfl ?_
                  refine j_iadd dX10_verse_166 ?_
                  refine j_putf dX10_verse_167 fX10_106 pX10_3 rfl rfl ?_
                  refine j_aload_n dX10_verse_170 rfl ?_
                  refine j_getv (v := .int ((X 0 3) + 1)) dX10_verse_171 fX10_106 rfl rfl (fun _ => rfl) ?_
                  refine j_iconst (v := 1) dX10_verse_174 rfl ?_
                  refine j_isub dX10_verse_175 ?_
                  refine j_iret dX10_verse_176 rfl rfl ?_
                  exact ⟨_, rfl, h⟩
              · have h := h.2 hc38
                refine j_bipush (v := (-3)) dX10_verse_85 rfl ?_
                refine j_iret dX10_verse_87 rfl rfl ?_
                exact ⟨_, rfl, h⟩
            · have h := h.2 hc37
              refine j_iload dX10_verse_61 rfl ?_
              refine j_i2l dX10_verse_63 ?_
              refine j_lconst (v := 1) dX10_verse_64 rfl ?_
              refine j_ldc2 (v := 9) dX10_verse_65 qX10_114 ?_
              obtain ⟨r49, hc, h⟩ := h
              refine j_csf (lc := 0) (as := [.long a4.toInt64, .long 1, .long 9]) dX10_verse_68 iX10_in sX10_in kX10_102 (by decide) rfl rfl (Nat.zero_le _) hc ?_
              refine j_if_ne (tgt := 76) dX10_verse_71 (by decide) (fun hc50 => ?_) (fun hc50 => ?_)
              · have h := h.1 hc50
                refine j_aload_n dX10_verse_76 rfl ?_
                refine j_getf dX10_verse_77 fX10_106 rfl rfl ?_
                refine j_bipush (v := 24) dX10_verse_80 rfl ?_
                refine j_ic_ne (tgt := 88) dX10_verse_82 (by decide) (fun hc51 => ?_) (fun hc51 => ?_)
                · have h := h.1 hc51
                  refine j_aload_n dX10_verse_88 rfl ?_
                  refine j_getr dX10_verse_89 fX10_16 rfl rfl ?_
                  refine j_aload_n dX10_verse_92 rfl ?_
                  refine j_getf dX10_verse_93 fX10_106 rfl rfl ?_
                  refine j_iload_n dX10_verse_96 rfl ?_
                  obtain ⟨j52, ej52, lj52, h⟩ := h
                  refine j_iast dX10_verse_97 rfl (zin ej52 lj52 (by decide)) ?_
                  rw [zcl ej52 lj52 (by decide)]
                  refine j_aload_n dX10_verse_98 rfl ?_
                  refine j_getr dX10_verse_99 fX10_19 rfl rfl ?_
                  refine j_aload_n dX10_verse_102 rfl ?_
                  refine j_getv (v := .int (X 0 3)) dX10_verse_103 fX10_106 rfl rfl (fun _ => rfl) ?_
                  refine j_iload_n dX10_verse_106 rfl ?_
                  obtain ⟨j53, ej53, lj53, h⟩ := h
                  refine j_iast dX10_verse_107 rfl (zin ej53 lj53 (by decide)) ?_
                  rw [zcl ej53 lj53 (by decide)]
                  refine j_aload_n dX10_verse_108 rfl ?_
                  refine j_getr dX10_verse_109 fX10_22 rfl rfl ?_
                  refine j_aload_n dX10_verse_112 rfl ?_
                  refine j_getv (v := .int (X 0 3)) dX10_verse_113 fX10_106 rfl rfl (fun _ => rfl) ?_
                  refine j_iload_n dX10_verse_116 rfl ?_
                  obtain ⟨j54, ej54, lj54, h⟩ := h
                  refine j_iast dX10_verse_117 rfl (zin ej54 lj54 (by decide)) ?_
                  rw [zcl ej54 lj54 (by decide)]
                  refine j_aload_n dX10_verse_118 rfl ?_
                  refine j_getr dX10_verse_119 fX10_25 rfl rfl ?_
                  refine j_aload_n dX10_verse_122 rfl ?_
                  refine j_getv (v := .int (X 0 3)) dX10_verse_123 fX10_106 rfl rfl (fun _ => rfl) ?_
                  refine j_iload dX10_verse_126 rfl ?_
                  refine j_if_ne (tgt := 135) dX10_verse_128 (by decide) (fun hc55 => ?_) (fun hc55 => ?_)
                  · have h := h.1 hc55
                    refine j_iload dX10_verse_135 rfl ?_
                    obtain ⟨j56, ej56, lj56, h⟩ := h
                    refine j_iast dX10_verse_137 rfl (zin ej56 lj56 (by decide)) ?_
                    rw [zcl ej56 lj56 (by decide)]
                    refine j_aload_n dX10_verse_138 rfl ?_
                    refine j_getr dX10_verse_139 fX10_28 rfl rfl ?_
                    refine j_aload_n dX10_verse_142 rfl ?_
                    refine j_getv (v := .int (X 0 3)) dX10_verse_143 fX10_106 rfl rfl (fun _ => rfl) ?_
                    refine j_iload dX10_verse_146 rfl ?_
                    obtain ⟨j57, ej57, lj57, h⟩ := h
                    refine j_iast dX10_verse_148 rfl (zin ej57 lj57 (by decide)) ?_
                    rw [zcl ej57 lj57 (by decide)]
                    refine j_aload_n dX10_verse_149 rfl ?_
                    refine j_getr dX10_verse_150 fX10_31 rfl rfl ?_
                    refine j_aload_n dX10_verse_153 rfl ?_
                    refine j_getv (v := .int (X 0 3)) dX10_verse_154 fX10_106 rfl rfl (fun _ => rfl) ?_
                    refine j_iload dX10_verse_157 rfl ?_
                    obtain ⟨j58, ej58, lj58, h⟩ := h
                    refine j_iast dX10_verse_159 rfl (zin ej58 lj58 (by decide)) ?_
                    rw [zcl ej58 lj58 (by decide)]
                    refine j_aload_n dX10_verse_160 rfl ?_
                    refine j_dup dX10_verse_161 rfl ?_
                    refine j_getv (v := .int (X 0 3)) dX10_verse_162 fX10_106 rfl rfl (fun _ => rfl) ?_
                    refine j_iconst (v := 1) dX10_verse_165 rfl ?_
                    refine j_iadd dX10_verse_166 ?_
                    refine j_putf dX10_verse_167 fX10_106 pX10_3 rfl rfl ?_
                    refine j_aload_n dX10_verse_170 rfl ?_
                    refine j_getv (v := .int ((X 0 3) + 1)) dX10_verse_171 fX10_106 rfl rfl (fun _ => rfl) ?_
                    refine j_iconst (v := 1) dX10_verse_174 rfl ?_
                    refine j_isub dX10_verse_175 ?_
                    refine j_iret dX10_verse_176 rfl rfl ?_
                    exact ⟨_, rfl, h⟩
                  · have h := h.2 hc55
                    refine j_iconst (v := 0) dX10_verse_131 rfl ?_
                    refine j_goto (tgt := 137) dX10_verse_132 (by decide) ?_
                    obtain ⟨j59, ej59, lj59, h⟩ := h
                    refine j_iast dX10_verse_137 rfl (zin ej59 lj59 (by decide)) ?_
                    rw [zcl ej59 lj59 (by decide)]
                    refine j_aload_n dX10_verse_138 rfl ?_
                    refine j_getr dX10_verse_139 fX10_28 rfl rfl ?_
                    refine j_aload_n dX10_verse_142 rfl ?_
                    refine j_getv (v := .int (X 0 3)) dX10_verse_143 fX10_106 rfl rfl (fun _ => rfl) ?_
                    refine j_iload dX10_verse_146 rfl ?_
                    obtain ⟨j60, ej60, lj60, h⟩ := h
                    refine j_iast dX10_verse_148 rfl (zin ej60 lj60 (by decide)) ?_
                    rw [zcl ej60 lj60 (by decide)]
                    refine j_aload_n dX10_verse_149 rfl ?_
                    refine j_getr dX10_verse_150 fX10_31 rfl rfl ?_
                    refine j_aload_n dX10_verse_153 rfl ?_
                    refine j_getv (v := .int (X 0 3)) dX10_verse_154 fX10_106 rfl rfl (fun _ => rfl) ?_
                    refine j_iload dX10_verse_157 rfl ?_
                    obtain ⟨j61, ej61, lj61, h⟩ := h
                    refine j_iast dX10_verse_159 rfl (zin ej61 lj61 (by decide)) ?_
                    rw [zcl ej61 lj61 (by decide)]
                    refine j_aload_n dX10_verse_160 rfl ?_
                    refine j_dup dX10_verse_161 rfl ?_
                    refine j_getv (v := .int (X 0 3)) dX10_verse_162 fX10_106 rfl rfl (fun _ => rfl) ?_
                    refine j_iconst (v := 1) dX10_verse_165 rfl ?_
                    refine j_iadd dX10_verse_166 ?_
                    refine j_putf dX10_verse_167 fX10_106 pX10_3 rfl rfl ?_
                    refine j_aload_n dX10_verse_170 rfl ?_
                    refine j_getv (v := .int ((X 0 3) + 1)) dX10_verse_171 fX10_106 rfl rfl (fun _ => rfl) ?_
                    refine j_iconst (v := 1) dX10_verse_174 rfl ?_
                    refine j_isub dX10_verse_175 ?_
                    refine j_iret dX10_verse_176 rfl rfl ?_
                    exact ⟨_, rfl, h⟩
                · have h := h.2 hc51
                  refine j_bipush (v := (-3)) dX10_verse_85 rfl ?_
                  refine j_iret dX10_verse_87 rfl rfl ?_
                  exact ⟨_, rfl, h⟩
              · have h := h.2 hc50
                refine j_iconst (v := (-1)) dX10_verse_74 rfl ?_
                refine j_iret dX10_verse_75 rfl rfl ?_
                exact ⟨_, rfl, h⟩
          · have h := h.2 hc35
            refine j_iconst (v := (-1)) dX10_verse_47 rfl ?_
            refine j_iret dX10_verse_48 rfl rfl ?_
            exact ⟨_, rfl, h⟩
theorem eX10_one (P : Int32 → zX → Prop) (X : zX) (a1 : Int32) (a2 : Int32) (a3 : Int32) (h : ∃ r1 : Int32, zPf SY 0 mX10_in [.long a1.toInt64, .long 0, .long 7] X r1 ∧ (((r1 = 0) → (P (-1) X)) ∧ ((¬ (r1 = 0)) → (∃ r3 : Int32, zPf SY 0 mX10_in [.long a2.toInt64, .long 0, .long 99] X r3 ∧ (((r3 = 0) → (P (-1) X)) ∧ ((¬ (r3 = 0)) → (∃ r5 : Int32, zPf SY 0 mX10_in [.long a3.toInt64, .long 0, .long 511] X r5 ∧ (((¬ r5 = 0) → (((¬ (X 0 10) = 8) → (∃ j8 : Nat, (X 0 10) = nI j8 ∧ j8 < 8 ∧ (∃ j9 : Nat, (X 0 10) = nI j9 ∧ j9 < 8 ∧ (∃ j10 : Nat, (X 0 10) = nI j10 ∧ j10 < 8 ∧ (∃ j11 : Nat, (X 0 10) = nI j11 ∧ j11 < 8 ∧ (∃ j12 : Nat, (X 0 10) = nI j12 ∧ j12 < 8 ∧ (∃ j13 : Nat, (X 0 10) = nI j13 ∧ j13 < 8 ∧ (P (((X 0 10) + 1) - 1) (zs (zs (zs (zs (zs (zs (zs X 9 j8 a1) 10 j9 a2) 11 j10 (X 0 17)) 12 j11 a3) 13 j12 0) 14 j13 (vp_nar .boolean 0)) 0 10 ((X 0 10) + 1)))))))))) ∧ (((X 0 10) = 8) → (P (-3) X)))) ∧ ((r5 = 0) → (P (-1) X)))))))))) : zPi SY 1 mX10_one [.ref 0, .int a1, .int a2, .int a3] X P := by
  refine zP_in [some (.ref 0), some (.int a1), some (.int a2), some (.int a3)] ⟨rfl, rfl, rfl, rfl, trivial⟩ (by decide) (Nat.le_of_ble_eq_true rfl) ?_
  refine j_iload_n dX10_one_0 rfl ?_
  refine j_i2l dX10_one_1 ?_
  refine j_lconst (v := 0) dX10_one_2 rfl ?_
  refine j_ldc2 (v := 7) dX10_one_3 qX10_127 ?_
  obtain ⟨r1, hc, h⟩ := h
  refine j_csf (lc := 0) (as := [.long a1.toInt64, .long 0, .long 7]) dX10_one_6 iX10_in sX10_in kX10_102 (by decide) rfl rfl (Nat.zero_le _) hc ?_
  refine j_if_eq (tgt := 36) dX10_one_9 (by decide) (fun hc2 => ?_) (fun hc2 => ?_)
  · have h := h.1 hc2
    refine j_iconst (v := (-1)) dX10_one_36 rfl ?_
    refine j_iret dX10_one_37 rfl rfl ?_
    exact ⟨_, rfl, h⟩
  · have h := h.2 hc2
    refine j_iload_n dX10_one_12 rfl ?_
    refine j_i2l dX10_one_13 ?_
    refine j_lconst (v := 0) dX10_one_14 rfl ?_
    refine j_ldc2 (v := 99) dX10_one_15 qX10_133 ?_
    obtain ⟨r3, hc, h⟩ := h
    refine j_csf (lc := 0) (as := [.long a2.toInt64, .long 0, .long 99]) dX10_one_18 iX10_in sX10_in kX10_102 (by decide) rfl rfl (Nat.zero_le _) hc ?_
    refine j_if_eq (tgt := 36) dX10_one_21 (by decide) (fun hc4 => ?_) (fun hc4 => ?_)
    · have h := h.1 hc4
      refine j_iconst (v := (-1)) dX10_one_36 rfl ?_
      refine j_iret dX10_one_37 rfl rfl ?_
      exact ⟨_, rfl, h⟩
    · have h := h.2 hc4
      refine j_iload_n dX10_one_24 rfl ?_
      refine j_i2l dX10_one_25 ?_
      refine j_lconst (v := 0) dX10_one_26 rfl ?_
      refine j_ldc2 (v := 511) dX10_one_27 qX10_135 ?_
      obtain ⟨r5, hc, h⟩ := h
      refine j_csf (lc := 0) (as := [.long a3.toInt64, .long 0, .long 511]) dX10_one_30 iX10_in sX10_in kX10_102 (by decide) rfl rfl (Nat.zero_le _) hc ?_
      refine j_if_ne (tgt := 38) dX10_one_33 (by decide) (fun hc6 => ?_) (fun hc6 => ?_)
      · have h := h.1 hc6
        refine j_aload_n dX10_one_38 rfl ?_
        refine j_getf dX10_one_39 fX10_109 rfl rfl ?_
        refine j_bipush (v := 8) dX10_one_42 rfl ?_
        refine j_ic_ne (tgt := 50) dX10_one_44 (by decide) (fun hc7 => ?_) (fun hc7 => ?_)
        · have h := h.1 hc7
          refine j_aload_n dX10_one_50 rfl ?_
          refine j_getr dX10_one_51 fX10_34 rfl rfl ?_
          refine j_aload_n dX10_one_54 rfl ?_
          refine j_getf dX10_one_55 fX10_109 rfl rfl ?_
          refine j_iload_n dX10_one_58 rfl ?_
          obtain ⟨j8, ej8, lj8, h⟩ := h
          refine j_iast dX10_one_59 rfl (zin ej8 lj8 (by decide)) ?_
          rw [zcl ej8 lj8 (by decide)]
          refine j_aload_n dX10_one_60 rfl ?_
          refine j_getr dX10_one_61 fX10_37 rfl rfl ?_
          refine j_aload_n dX10_one_64 rfl ?_
          refine j_getv (v := .int (X 0 10)) dX10_one_65 fX10_109 rfl rfl (fun _ => rfl) ?_
          refine j_iload_n dX10_one_68 rfl ?_
          obtain ⟨j9, ej9, lj9, h⟩ := h
          refine j_iast dX10_one_69 rfl (zin ej9 lj9 (by decide)) ?_
          rw [zcl ej9 lj9 (by decide)]
          refine j_aload_n dX10_one_70 rfl ?_
          refine j_getr dX10_one_71 fX10_40 rfl rfl ?_
          refine j_aload_n dX10_one_74 rfl ?_
          refine j_getv (v := .int (X 0 10)) dX10_one_75 fX10_109 rfl rfl (fun _ => rfl) ?_
          refine j_aload_n dX10_one_78 rfl ?_
          refine j_getv (v := .int (X 0 17)) dX10_one_79 fX10_137 rfl rfl (fun _ => rfl) ?_
          obtain ⟨j10, ej10, lj10, h⟩ := h
          refine j_iast dX10_one_82 rfl (zin ej10 lj10 (by decide)) ?_
          rw [zcl ej10 lj10 (by decide)]
          refine j_aload_n dX10_one_83 rfl ?_
          refine j_getr dX10_one_84 fX10_43 rfl rfl ?_
          refine j_aload_n dX10_one_87 rfl ?_
          refine j_getv (v := .int (X 0 10)) dX10_one_88 fX10_109 rfl rfl (fun _ => rfl) ?_
          refine j_iload_n dX10_one_91 rfl ?_
          obtain ⟨j11, ej11, lj11, h⟩ := h
          refine j_iast dX10_one_92 rfl (zin ej11 lj11 (by decide)) ?_
          rw [zcl ej11 lj11 (by decide)]
          refine j_aload_n dX10_one_93 rfl ?_
          refine j_getr dX10_one_94 fX10_46 rfl rfl ?_
          refine j_aload_n dX10_one_97 rfl ?_
          refine j_getv (v := .int (X 0 10)) dX10_one_98 fX10_109 rfl rfl (fun _ => rfl) ?_
          refine j_iconst (v := 0) dX10_one_101 rfl ?_
          obtain ⟨j12, ej12, lj12, h⟩ := h
          refine j_iast dX10_one_102 rfl (zin ej12 lj12 (by decide)) ?_
          rw [zcl ej12 lj12 (by decide)]
          refine j_aload_n dX10_one_103 rfl ?_
          refine j_getr dX10_one_104 fX10_49 rfl rfl ?_
          refine j_aload_n dX10_one_107 rfl ?_
          refine j_getv (v := .int (X 0 10)) dX10_one_108 fX10_109 rfl rfl (fun _ => rfl) ?_
          refine j_iconst (v := 0) dX10_one_111 rfl ?_
          obtain ⟨j13, ej13, lj13, h⟩ := h
          refine j_zast dX10_one_112 rfl (zin ej13 lj13 (by decide)) ?_
          rw [zcl ej13 lj13 (by decide)]
          refine j_aload_n dX10_one_113 rfl ?_
          refine j_dup dX10_one_114 rfl ?_
          refine j_getv (v := .int (X 0 10)) dX10_one_115 fX10_109 rfl rfl (fun _ => rfl) ?_
          refine j_iconst (v := 1) dX10_one_118 rfl ?_
          refine j_iadd dX10_one_119 ?_
          refine j_putf dX10_one_120 fX10_109 pX10_10 rfl rfl ?_
          refine j_aload_n dX10_one_123 rfl ?_
          refine j_getv (v := .int ((X 0 10) + 1)) dX10_one_124 fX10_109 rfl rfl (fun _ => rfl) ?_
          refine j_iconst (v := 1) dX10_one_127 rfl ?_
          refine j_isub dX10_one_128 ?_
          refine j_iret dX10_one_129 rfl rfl ?_
          exact ⟨_, rfl, h⟩
        · have h := h.2 hc7
          refine j_bipush (v := (-3)) dX10_one_47 rfl ?_
          refine j_iret dX10_one_49 rfl rfl ?_
          exact ⟨_, rfl, h⟩
      · have h := h.2 hc6
        refine j_iconst (v := (-1)) dX10_one_36 rfl ?_
        refine j_iret dX10_one_37 rfl rfl ?_
        exact ⟨_, rfl, h⟩
theorem eX10_hasIt (v : Int32) (X : zX) (a1 : Int32) (a2 : Int32) (h : ∃ j1 : Nat, a1 = nI j1 ∧ j1 < 8 ∧ (((¬ ((zshr (X 13 j1) a2) &&& 1) = 1) → (0 = v)) ∧ ((((zshr (X 13 j1) a2) &&& 1) = 1) → (1 = v)))) : zPf SY 0 mX10_hasIt [.ref 0, .int a1, .int a2] X v := by
  refine zP_in [some (.ref 0), some (.int a1), some (.int a2)] ⟨rfl, rfl, rfl, trivial⟩ (by decide) (Nat.le_of_ble_eq_true rfl) ?_
  refine j_aload_n dX10_hasIt_0 rfl ?_
  refine j_getr dX10_hasIt_1 fX10_46 rfl rfl ?_
  refine j_iload_n dX10_hasIt_4 rfl ?_
  obtain ⟨j1, ej1, lj1, h⟩ := h
  refine j_iald dX10_hasIt_5 rfl (zin ej1 lj1 (by decide)) ?_
  rw [zcl ej1 lj1 (by decide)]
  refine j_iload_n dX10_hasIt_6 rfl ?_
  refine j_ishr dX10_hasIt_7 ?_
  refine j_iconst (v := 1) dX10_hasIt_8 rfl ?_
  refine j_iand dX10_hasIt_9 ?_
  refine j_iconst (v := 1) dX10_hasIt_10 rfl ?_
  refine j_ic_ne (tgt := 18) dX10_hasIt_11 (by decide) (fun hc2 => ?_) (fun hc2 => ?_)
  · have h := h.1 hc2
    refine j_iconst (v := 0) dX10_hasIt_18 rfl ?_
    refine j_iret dX10_hasIt_19 rfl (by decide) ?_
    exact ⟨by rw [h], rfl⟩
  · have h := h.2 hc2
    refine j_iconst (v := 1) dX10_hasIt_14 rfl ?_
    refine j_goto (tgt := 19) dX10_hasIt_15 (by decide) ?_
    refine j_iret dX10_hasIt_19 rfl (by decide) ?_
    exact ⟨by rw [h], rfl⟩
theorem eX10_ageOf (v : Int32) (X : zX) (a1 : Int32) (h : ∃ j1 : Nat, a1 = nI j1 ∧ j1 < 8 ∧ (∃ j2 : Nat, a1 = nI j2 ∧ j2 < 8 ∧ ((((X 10 j1) + (X 0 17)) - (X 11 j2)) = v))) : zPf SY 0 mX10_ageOf [.ref 0, .int a1] X v := by
  refine zP_in [some (.ref 0), some (.int a1)] ⟨rfl, rfl, trivial⟩ (by decide) (Nat.le_of_ble_eq_true rfl) ?_
  refine j_aload_n dX10_ageOf_0 rfl ?_
  refine j_getr dX10_ageOf_1 fX10_37 rfl rfl ?_
  refine j_iload_n dX10_ageOf_4 rfl ?_
  obtain ⟨j1, ej1, lj1, h⟩ := h
  refine j_iald dX10_ageOf_5 rfl (zin ej1 lj1 (by decide)) ?_
  rw [zcl ej1 lj1 (by decide)]
  refine j_aload_n dX10_ageOf_6 rfl ?_
  refine j_getf dX10_ageOf_7 fX10_137 rfl rfl ?_
  refine j_iadd dX10_ageOf_10 ?_
  refine j_aload_n dX10_ageOf_11 rfl ?_
  refine j_getr dX10_ageOf_12 fX10_40 rfl rfl ?_
  refine j_iload_n dX10_ageOf_15 rfl ?_
  obtain ⟨j2, ej2, lj2, h⟩ := h
  refine j_iald dX10_ageOf_16 rfl (zin ej2 lj2 (by decide)) ?_
  rw [zcl ej2 lj2 (by decide)]
  refine j_isub dX10_ageOf_17 ?_
  refine j_iret dX10_ageOf_18 rfl rfl ?_
  exact ⟨by rw [h], rfl⟩
abbrev LX10_headsOf_4 (v : Int32) (X : zX) (x1 : Int32) (x2 : Int32) (x3 : Int32) : Prop := zJ SY 1 mX10_headsOf (zRf v X) 4 [some (.ref 0), some (.int x1), some (.int x2), some (.int x3)] [] X
theorem eX10_headsOf (v : Int32) (X : zX) (a1 : Int32) (h : LX10_headsOf_4 v X a1 0 0) : zPf SY 1 mX10_headsOf [.ref 0, .int a1] X v := by
  refine zP_in [some (.ref 0), some (.int a1), none, none] ⟨rfl, rfl, trivial⟩ (by decide) (Nat.le_of_ble_eq_true rfl) ?_
  refine j_iconst (v := 0) dX10_headsOf_0 rfl ?_
  refine j_istore_n (L2 := [some (.ref 0), some (.int a1), some (.int 0), none]) dX10_headsOf_1 (by decide) (zno rfl) rfl ?_
  refine j_iconst (v := 0) dX10_headsOf_2 rfl ?_
  refine j_istore_n (L2 := [some (.ref 0), some (.int a1), some (.int 0), some (.int 0)]) dX10_headsOf_3 (by decide) (zno rfl) rfl ?_
  exact zJw h ⟨rfl, rfl, rfl, rfl, trivial⟩
theorem bX10_headsOf_4 (v : Int32) (X : zX) (x1 : Int32) (x2 : Int32) (x3 : Int32) (h : (((X 0 10) ≤ x3) → (x2 = v)) ∧ ((¬ ((X 0 10) ≤ x3)) → (∃ j2 : Nat, x3 = nI j2 ∧ j2 < 8 ∧ (((¬ (X 14 j2) = 0) → (LX10_headsOf_4 v X x1 (x2 + 0) (x3 + 1))) ∧ (((X 14 j2) = 0) → (∃ r4 : Int32, zPf SY 0 mX10_hasIt [.ref 0, .int x3, .int x1] X r4 ∧ (((r4 = 0) → (LX10_headsOf_4 v X x1 (x2 + 0) (x3 + 1))) ∧ ((¬ (r4 = 0)) → (LX10_headsOf_4 v X x1 (x2 + 1) (x3 + 1)))))))))) : LX10_headsOf_4 v X x1 x2 x3 := by
  refine j_iload_n dX10_headsOf_4 rfl ?_
  refine j_aload_n dX10_headsOf_5 rfl ?_
  refine j_getf dX10_headsOf_6 fX10_109 rfl rfl ?_
  refine j_ic_ge (tgt := 44) dX10_headsOf_9 (by decide) (fun hc1 => ?_) (fun hc1 => ?_)
  · have h := h.1 hc1
    refine j_iload_n dX10_headsOf_44 rfl ?_
    refine j_iret dX10_headsOf_45 rfl rfl ?_
    exact ⟨by rw [h], rfl⟩
  · have h := h.2 hc1
    refine j_iload_n dX10_headsOf_12 rfl ?_
    refine j_aload_n dX10_headsOf_13 rfl ?_
    refine j_getr dX10_headsOf_14 fX10_49 rfl rfl ?_
    refine j_iload_n dX10_headsOf_17 rfl ?_
    obtain ⟨j2, ej2, lj2, h⟩ := h
    refine j_zald dX10_headsOf_18 rfl (zin ej2 lj2 (by decide)) ?_
    rw [zcl ej2 lj2 (by decide)]
    refine j_if_ne (tgt := 35) dX10_headsOf_19 (by decide) (fun hc3 => ?_) (fun hc3 => ?_)
    · have h := h.1 hc3
      refine j_iconst (v := 0) dX10_headsOf_35 rfl ?_
      refine j_iadd dX10_headsOf_36 ?_
      refine j_istore_n (L2 := [some (.ref 0), some (.int x1), some (.int (x2 + 0)), some (.int x3)]) dX10_headsOf_37 (by decide) (zno rfl) rfl ?_
      refine j_iinc (v := (x3 + 1)) (L2 := [some (.ref 0), some (.int x1), some (.int (x2 + 0)), some (.int (x3 + 1))]) dX10_headsOf_38 rfl rfl (by decide) (zno rfl) rfl ?_
      refine j_goto (tgt := 4) dX10_headsOf_41 (by decide) ?_
      exact zJw h ⟨rfl, rfl, rfl, rfl, trivial⟩
    · have h := h.2 hc3
      refine j_aload_n dX10_headsOf_22 rfl ?_
      refine j_iload_n dX10_headsOf_23 rfl ?_
      refine j_iload_n dX10_headsOf_24 rfl ?_
      obtain ⟨r4, hc, h⟩ := h
      refine j_cvf (lc := 0) (as := [.int x3, .int x1]) dX10_headsOf_25 iX10_hasIt vX10_hasIt kX10_140 (by decide) rfl rfl rfl rfl (by simp [Value.category]) hc ?_
      refine j_if_eq (tgt := 35) dX10_headsOf_28 (by decide) (fun hc5 => ?_) (fun hc5 => ?_)
      · have h := h.1 hc5
        refine j_iconst (v := 0) dX10_headsOf_35 rfl ?_
        refine j_iadd dX10_headsOf_36 ?_
        refine j_istore_n (L2 := [some (.ref 0), some (.int x1), some (.int (x2 + 0)), some (.int x3)]) dX10_headsOf_37 (by decide) (zno rfl) rfl ?_
        refine j_iinc (v := (x3 + 1)) (L2 := [some (.ref 0), some (.int x1), some (.int (x2 + 0)), some (.int (x3 + 1))]) dX10_headsOf_38 rfl rfl (by decide) (zno rfl) rfl ?_
        refine j_goto (tgt := 4) dX10_headsOf_41 (by decide) ?_
        exact zJw h ⟨rfl, rfl, rfl, rfl, trivial⟩
      · have h := h.2 hc5
        refine j_iconst (v := 1) dX10_headsOf_31 rfl ?_
        refine j_goto (tgt := 36) dX10_headsOf_32 (by decide) ?_
        refine j_iadd dX10_headsOf_36 ?_
        refine j_istore_n (L2 := [some (.ref 0), some (.int x1), some (.int (x2 + 1)), some (.int x3)]) dX10_headsOf_37 (by decide) (zno rfl) rfl ?_
        refine j_iinc (v := (x3 + 1)) (L2 := [some (.ref 0), some (.int x1), some (.int (x2 + 1)), some (.int (x3 + 1))]) dX10_headsOf_38 rfl rfl (by decide) (zno rfl) rfl ?_
        refine j_goto (tgt := 4) dX10_headsOf_41 (by decide) ?_
        exact zJw h ⟨rfl, rfl, rfl, rfl, trivial⟩
theorem eX10_has (P : Int32 → zX → Prop) (X : zX) (a1 : Int32) (a2 : Int32) (a3 : Int32) (h : ∃ r1 : Int32, zPf SY 1 mX10_isOne [.ref 0, .int a1] X r1 ∧ (((r1 = 0) → (P (-1) X)) ∧ ((¬ (r1 = 0)) → (∃ r3 : Int32, zPf SY 1 mX10_isVerse [.ref 0, .int a2] X r3 ∧ (((¬ r3 = 0) → (∃ j5 : Nat, a1 = nI j5 ∧ j5 < 8 ∧ ((((X 14 j5) = 0) → (∃ j7 : Nat, a1 = nI j7 ∧ j7 < 8 ∧ (((a3 = 0) → (∃ j9 : Nat, a1 = nI j9 ∧ j9 < 8 ∧ (∃ j10 : Nat, a1 = nI j10 ∧ j10 < 8 ∧ (P ((zshr (X 13 j7) a2) &&& 1) (zs X 13 j10 ((X 13 j9) &&& ((zshl 1 a2) ^^^ (-1)))))))) ∧ ((¬ (a3 = 0)) → (∃ j11 : Nat, a1 = nI j11 ∧ j11 < 8 ∧ (∃ j12 : Nat, a1 = nI j12 ∧ j12 < 8 ∧ (P ((zshr (X 13 j7) a2) &&& 1) (zs X 13 j12 ((X 13 j11) ||| (zshl 1 a2)))))))))) ∧ ((¬ ((X 14 j5) = 0)) → (P (-2) X))))) ∧ ((r3 = 0) → (P (-1) X))))))) : zPi SY 2 mX10_has [.ref 0, .int a1, .int a2, .int a3] X P := by
  refine zP_in [some (.ref 0), some (.int a1), some (.int a2), some (.int a3), none] ⟨rfl, rfl, rfl, rfl, trivial⟩ (by decide) (Nat.le_of_ble_eq_true rfl) ?_
  refine j_aload_n dX10_has_0 rfl ?_
  refine j_iload_n dX10_has_1 rfl ?_
  obtain ⟨r1, hc, h⟩ := h
  refine j_cvf (lc := 1) (as := [.int a1]) dX10_has_2 iX10_isOne vX10_isOne kX10_144 (by decide) rfl rfl rfl rfl (Nat.zero_le _) hc ?_
  refine j_if_eq (tgt := 16) dX10_has_5 (by decide) (fun hc2 => ?_) (fun hc2 => ?_)
  · have h := h.1 hc2
    refine j_iconst (v := (-1)) dX10_has_16 rfl ?_
    refine j_iret dX10_has_17 rfl rfl ?_
    exact ⟨_, rfl, h⟩
  · have h := h.2 hc2
    refine j_aload_n dX10_has_8 rfl ?_
    refine j_iload_n dX10_has_9 rfl ?_
    obtain ⟨r3, hc, h⟩ := h
    refine j_cvf (lc := 1) (as := [.int a2]) dX10_has_10 iX10_isVerse vX10_isVerse kX10_147 (by decide) rfl rfl rfl rfl (Nat.zero_le _) hc ?_
    refine j_if_ne (tgt := 18) dX10_has_13 (by decide) (fun hc4 => ?_) (fun hc4 => ?_)
    · have h := h.1 hc4
      refine j_aload_n dX10_has_18 rfl ?_
      refine j_getr dX10_has_19 fX10_49 rfl rfl ?_
      refine j_iload_n dX10_has_22 rfl ?_
      obtain ⟨j5, ej5, lj5, h⟩ := h
      refine j_zald dX10_has_23 rfl (zin ej5 lj5 (by decide)) ?_
      rw [zcl ej5 lj5 (by decide)]
      refine j_if_eq (tgt := 30) dX10_has_24 (by decide) (fun hc6 => ?_) (fun hc6 => ?_)
      · have h := h.1 hc6
        refine j_aload_n dX10_has_30 rfl ?_
        refine j_getr dX10_has_31 fX10_46 rfl rfl ?_
        refine j_iload_n dX10_has_34 rfl ?_
        obtain ⟨j7, ej7, lj7, h⟩ := h
        refine j_iald dX10_has_35 rfl (zin ej7 lj7 (by decide)) ?_
        rw [zcl ej7 lj7 (by decide)]
        refine j_iload_n dX10_has_36 rfl ?_
        refine j_ishr dX10_has_37 ?_
        refine j_iconst (v := 1) dX10_has_38 rfl ?_
        refine j_iand dX10_has_39 ?_
        refine j_istore (L2 := [some (.ref 0), some (.int a1), some (.int a2), some (.int a3), some (.int ((zshr (X 13 j7) a2) &&& 1))]) dX10_has_40 (by decide) (zno rfl) rfl ?_
        refine j_aload_n dX10_has_42 rfl ?_
        refine j_getr dX10_has_43 fX10_46 rfl rfl ?_
        refine j_iload_n dX10_has_46 rfl ?_
        refine j_iload_n dX10_has_47 rfl ?_
        refine j_if_eq (tgt := 64) dX10_has_48 (by decide) (fun hc8 => ?_) (fun hc8 => ?_)
        · have h := h.1 hc8
          refine j_aload_n dX10_has_64 rfl ?_
          refine j_getr dX10_has_65 fX10_46 rfl rfl ?_
          refine j_iload_n dX10_has_68 rfl ?_
          obtain ⟨j9, ej9, lj9, h⟩ := h
          refine j_iald dX10_has_69 rfl (zin ej9 lj9 (by decide)) ?_
          rw [zcl ej9 lj9 (by decide)]
          refine j_iconst (v := 1) dX10_has_70 rfl ?_
          refine j_iload_n dX10_has_71 rfl ?_
          refine j_ishl dX10_has_72 ?_
          refine j_iconst (v := (-1)) dX10_has_73 rfl ?_
          refine j_ixor dX10_has_74 ?_
          refine j_iand dX10_has_75 ?_
          obtain ⟨j10, ej10, lj10, h⟩ := h
          refine j_iast dX10_has_76 rfl (zin ej10 lj10 (by decide)) ?_
          rw [zcl ej10 lj10 (by decide)]
          refine j_iload dX10_has_77 rfl ?_
          refine j_iret dX10_has_79 rfl rfl ?_
          exact ⟨_, rfl, h⟩
        · have h := h.2 hc8
          refine j_aload_n dX10_has_51 rfl ?_
          refine j_getr dX10_has_52 fX10_46 rfl rfl ?_
          refine j_iload_n dX10_has_55 rfl ?_
          obtain ⟨j11, ej11, lj11, h⟩ := h
          refine j_iald dX10_has_56 rfl (zin ej11 lj11 (by decide)) ?_
          rw [zcl ej11 lj11 (by decide)]
          refine j_iconst (v := 1) dX10_has_57 rfl ?_
          refine j_iload_n dX10_has_58 rfl ?_
          refine j_ishl dX10_has_59 ?_
          refine j_ior dX10_has_60 ?_
          refine j_goto (tgt := 76) dX10_has_61 (by decide) ?_
          obtain ⟨j12, ej12, lj12, h⟩ := h
          refine j_iast dX10_has_76 rfl (zin ej12 lj12 (by decide)) ?_
          rw [zcl ej12 lj12 (by decide)]
          refine j_iload dX10_has_77 rfl ?_
          refine j_iret dX10_has_79 rfl rfl ?_
          exact ⟨_, rfl, h⟩
      · have h := h.2 hc6
        refine j_bipush (v := (-2)) dX10_has_27 rfl ?_
        refine j_iret dX10_has_29 rfl rfl ?_
        exact ⟨_, rfl, h⟩
    · have h := h.2 hc4
      refine j_iconst (v := (-1)) dX10_has_16 rfl ?_
      refine j_iret dX10_has_17 rfl rfl ?_
      exact ⟨_, rfl, h⟩
abbrev LX10_dies_33 (P : Int32 → zX → Prop) (M : zX) (x1 : Int32) (x2 : Int32) (x3 : Int32) : Prop := zJ SY 2 mX10_dies (zRi P) 33 [some (.ref 0), some (.int x1), some (.int x2), some (.int x3)] [] M
theorem eX10_dies (P : Int32 → zX → Prop) (X : zX) (a1 : Int32) (h : ∃ r1 : Int32, zPf SY 1 mX10_isOne [.ref 0, .int a1] X r1 ∧ (((¬ r1 = 0) → (∃ j3 : Nat, a1 = nI j3 ∧ j3 < 8 ∧ ((((X 14 j3) = 0) → (∃ j5 : Nat, a1 = nI j5 ∧ j5 < 8 ∧ (LX10_dies_33 P (zs X 14 j5 (vp_nar .boolean 1)) a1 0 0))) ∧ ((¬ ((X 14 j3) = 0)) → (P (-2) X))))) ∧ ((r1 = 0) → (P (-1) X)))) : zPi SY 2 mX10_dies [.ref 0, .int a1] X P := by
  refine zP_in [some (.ref 0), some (.int a1), none, none] ⟨rfl, rfl, trivial⟩ (by decide) (Nat.le_of_ble_eq_true rfl) ?_
  refine j_aload_n dX10_dies_0 rfl ?_
  refine j_iload_n dX10_dies_1 rfl ?_
  obtain ⟨r1, hc, h⟩ := h
  refine j_cvf (lc := 1) (as := [.int a1]) dX10_dies_2 iX10_isOne vX10_isOne kX10_144 (by decide) rfl rfl rfl rfl (Nat.zero_le _) hc ?_
  refine j_if_ne (tgt := 10) dX10_dies_5 (by decide) (fun hc2 => ?_) (fun hc2 => ?_)
  · have h := h.1 hc2
    refine j_aload_n dX10_dies_10 rfl ?_
    refine j_getr dX10_dies_11 fX10_49 rfl rfl ?_
    refine j_iload_n dX10_dies_14 rfl ?_
    obtain ⟨j3, ej3, lj3, h⟩ := h
    refine j_zald dX10_dies_15 rfl (zin ej3 lj3 (by decide)) ?_
    rw [zcl ej3 lj3 (by decide)]
    refine j_if_eq (tgt := 22) dX10_dies_16 (by decide) (fun hc4 => ?_) (fun hc4 => ?_)
    · have h := h.1 hc4
      refine j_aload_n dX10_dies_22 rfl ?_
      refine j_getr dX10_dies_23 fX10_49 rfl rfl ?_
      refine j_iload_n dX10_dies_26 rfl ?_
      refine j_iconst (v := 1) dX10_dies_27 rfl ?_
      obtain ⟨j5, ej5, lj5, h⟩ := h
      refine j_zast dX10_dies_28 rfl (zin ej5 lj5 (by decide)) ?_
      rw [zcl ej5 lj5 (by decide)]
      refine j_iconst (v := 0) dX10_dies_29 rfl ?_
      refine j_istore_n (L2 := [some (.ref 0), some (.int a1), some (.int 0), none]) dX10_dies_30 (by decide) (zno rfl) rfl ?_
      refine j_iconst (v := 0) dX10_dies_31 rfl ?_
      refine j_istore_n (L2 := [some (.ref 0), some (.int a1), some (.int 0), some (.int 0)]) dX10_dies_32 (by decide) (zno rfl) rfl ?_
      exact zJw h ⟨rfl, rfl, rfl, rfl, trivial⟩
    · have h := h.2 hc4
      refine j_bipush (v := (-2)) dX10_dies_19 rfl ?_
      refine j_iret dX10_dies_21 rfl rfl ?_
      exact ⟨_, rfl, h⟩
  · have h := h.2 hc2
    refine j_iconst (v := (-1)) dX10_dies_8 rfl ?_
    refine j_iret dX10_dies_9 rfl rfl ?_
    exact ⟨_, rfl, h⟩
theorem bX10_dies_33 (P : Int32 → zX → Prop) (M : zX) (x1 : Int32) (x2 : Int32) (x3 : Int32) (h : (((M 0 3) ≤ x3) → (P x2 M)) ∧ ((¬ ((M 0 3) ≤ x3)) → (∃ r7 : Int32, zPf SY 0 mX10_hasIt [.ref 0, .int x1, .int x3] M r7 ∧ (((r7 = 0) → (LX10_dies_33 P M x1 (x2 + 0) (x3 + 1))) ∧ ((¬ (r7 = 0)) → (∃ r9 : Int32, zPf SY 1 mX10_headsOf [.ref 0, .int x3] M r9 ∧ (((¬ r9 = 0) → (LX10_dies_33 P M x1 (x2 + 0) (x3 + 1))) ∧ ((r9 = 0) → (LX10_dies_33 P M x1 (x2 + 1) (x3 + 1)))))))))) : LX10_dies_33 P M x1 x2 x3 := by
  refine j_iload_n dX10_dies_33 rfl ?_
  refine j_aload_n dX10_dies_34 rfl ?_
  refine j_getf dX10_dies_35 fX10_106 rfl rfl ?_
  refine j_ic_ge (tgt := 72) dX10_dies_38 (by decide) (fun hc6 => ?_) (fun hc6 => ?_)
  · have h := h.1 hc6
    refine j_iload_n dX10_dies_72 rfl ?_
    refine j_iret dX10_dies_73 rfl rfl ?_
    exact ⟨_, rfl, h⟩
  · have h := h.2 hc6
    refine j_iload_n dX10_dies_41 rfl ?_
    refine j_aload_n dX10_dies_42 rfl ?_
    refine j_iload_n dX10_dies_43 rfl ?_
    refine j_iload_n dX10_dies_44 rfl ?_
    obtain ⟨r7, hc, h⟩ := h
    refine j_cvf (lc := 0) (as := [.int x1, .int x3]) dX10_dies_45 iX10_hasIt vX10_hasIt kX10_140 (by decide) rfl rfl rfl rfl (by simp [Value.category]) hc ?_
    refine j_if_eq (tgt := 63) dX10_dies_48 (by decide) (fun hc8 => ?_) (fun hc8 => ?_)
    · have h := h.1 hc8
      refine j_iconst (v := 0) dX10_dies_63 rfl ?_
      refine j_iadd dX10_dies_64 ?_
      refine j_istore_n (L2 := [some (.ref 0), some (.int x1), some (.int (x2 + 0)), some (.int x3)]) dX10_dies_65 (by decide) (zno rfl) rfl ?_
      refine j_iinc (v := (x3 + 1)) (L2 := [some (.ref 0), some (.int x1), some (.int (x2 + 0)), some (.int (x3 + 1))]) dX10_dies_66 rfl rfl (by decide) (zno rfl) rfl ?_
      refine j_goto (tgt := 33) dX10_dies_69 (by decide) ?_
      exact zJw h ⟨rfl, rfl, rfl, rfl, trivial⟩
    · have h := h.2 hc8
      refine j_aload_n dX10_dies_51 rfl ?_
      refine j_iload_n dX10_dies_52 rfl ?_
      obtain ⟨r9, hc, h⟩ := h
      refine j_cvf (lc := 1) (as := [.int x3]) dX10_dies_53 iX10_headsOf vX10_headsOf kX10_150 (by decide) rfl rfl rfl rfl (by simp [Value.category]) hc ?_
      refine j_if_ne (tgt := 63) dX10_dies_56 (by decide) (fun hc10 => ?_) (fun hc10 => ?_)
      · have h := h.1 hc10
        refine j_iconst (v := 0) dX10_dies_63 rfl ?_
        refine j_iadd dX10_dies_64 ?_
        refine j_istore_n (L2 := [some (.ref 0), some (.int x1), some (.int (x2 + 0)), some (.int x3)]) dX10_dies_65 (by decide) (zno rfl) rfl ?_
        refine j_iinc (v := (x3 + 1)) (L2 := [some (.ref 0), some (.int x1), some (.int (x2 + 0)), some (.int (x3 + 1))]) dX10_dies_66 rfl rfl (by decide) (zno rfl) rfl ?_
        refine j_goto (tgt := 33) dX10_dies_69 (by decide) ?_
        exact zJw h ⟨rfl, rfl, rfl, rfl, trivial⟩
      · have h := h.2 hc10
        refine j_iconst (v := 1) dX10_dies_59 rfl ?_
        refine j_goto (tgt := 64) dX10_dies_60 (by decide) ?_
        refine j_iadd dX10_dies_64 ?_
        refine j_istore_n (L2 := [some (.ref 0), some (.int x1), some (.int (x2 + 1)), some (.int x3)]) dX10_dies_65 (by decide) (zno rfl) rfl ?_
        refine j_iinc (v := (x3 + 1)) (L2 := [some (.ref 0), some (.int x1), some (.int (x2 + 1)), some (.int (x3 + 1))]) dX10_dies_66 rfl rfl (by decide) (zno rfl) rfl ?_
        refine j_goto (tgt := 33) dX10_dies_69 (by decide) ?_
        exact zJw h ⟨rfl, rfl, rfl, rfl, trivial⟩
theorem eX10_now (P : Int32 → zX → Prop) (X : zX) (a1 : Int32) (a2 : Int32) (h : ∃ r1 : Int32, zPf SY 0 mX10_in [.long a1.toInt64, .long (X 0 17).toInt64, .long 99] X r1 ∧ (((r1 = 0) → (P (-1) X)) ∧ ((¬ (r1 = 0)) → (∃ r3 : Int32, zPf SY 0 mX10_in [.long a2.toInt64, .long 0, .long 3] X r3 ∧ (((¬ r3 = 0) → (P (X 0 17) (zs (zs X 0 17 a1) 0 18 a2))) ∧ ((r3 = 0) → (P (-1) X))))))) : zPi SY 1 mX10_now [.ref 0, .int a1, .int a2] X P := by
  refine zP_in [some (.ref 0), some (.int a1), some (.int a2), none] ⟨rfl, rfl, rfl, trivial⟩ (by decide) (Nat.le_of_ble_eq_true rfl) ?_
  refine j_iload_n dX10_now_0 rfl ?_
  refine j_i2l dX10_now_1 ?_
  refine j_aload_n dX10_now_2 rfl ?_
  refine j_getf dX10_now_3 fX10_137 rfl rfl ?_
  refine j_i2l dX10_now_6 ?_
  refine j_ldc2 (v := 99) dX10_now_7 qX10_133 ?_
  obtain ⟨r1, hc, h⟩ := h
  refine j_csf (lc := 0) (as := [.long a1.toInt64, .long (X 0 17).toInt64, .long 99]) dX10_now_10 iX10_in sX10_in kX10_102 (by decide) rfl rfl (Nat.zero_le _) hc ?_
  refine j_if_eq (tgt := 28) dX10_now_13 (by decide) (fun hc2 => ?_) (fun hc2 => ?_)
  · have h := h.1 hc2
    refine j_iconst (v := (-1)) dX10_now_28 rfl ?_
    refine j_iret dX10_now_29 rfl rfl ?_
    exact ⟨_, rfl, h⟩
  · have h := h.2 hc2
    refine j_iload_n dX10_now_16 rfl ?_
    refine j_i2l dX10_now_17 ?_
    refine j_lconst (v := 0) dX10_now_18 rfl ?_
    refine j_ldc2 (v := 3) dX10_now_19 qX10_112 ?_
    obtain ⟨r3, hc, h⟩ := h
    refine j_csf (lc := 0) (as := [.long a2.toInt64, .long 0, .long 3]) dX10_now_22 iX10_in sX10_in kX10_102 (by decide) rfl rfl (Nat.zero_le _) hc ?_
    refine j_if_ne (tgt := 30) dX10_now_25 (by decide) (fun hc4 => ?_) (fun hc4 => ?_)
    · have h := h.1 hc4
      refine j_aload_n dX10_now_30 rfl ?_
      refine j_getf dX10_now_31 fX10_137 rfl rfl ?_
      refine j_istore_n (L2 := [some (.ref 0), some (.int a1), some (.int a2), some (.int (X 0 17))]) dX10_now_34 (by decide) (zno rfl) rfl ?_
      refine j_aload_n dX10_now_35 rfl ?_
      refine j_iload_n dX10_now_36 rfl ?_
      refine j_putf dX10_now_37 fX10_137 pX10_17 rfl rfl ?_
      refine j_aload_n dX10_now_40 rfl ?_
      refine j_iload_n dX10_now_41 rfl ?_
      refine j_putf dX10_now_42 fX10_153 pX10_18 rfl rfl ?_
      refine j_iload_n dX10_now_45 rfl ?_
      refine j_iret dX10_now_46 rfl rfl ?_
      exact ⟨_, rfl, h⟩
    · have h := h.2 hc4
      refine j_iconst (v := (-1)) dX10_now_28 rfl ?_
      refine j_iret dX10_now_29 rfl rfl ?_
      exact ⟨_, rfl, h⟩
theorem eX10_hasWater (v : Int32) (X : zX) (a1 : Int32) (h : ∃ j1 : Nat, a1 = nI j1 ∧ j1 < 12 ∧ ((((X 16 j1) = (-4)) → (∃ j3 : Nat, a1 = nI j3 ∧ j3 < 12 ∧ (((¬ ((zshr (X 2 j3) (X 0 18)) &&& 1) = 1) → (0 = v)) ∧ ((((zshr (X 2 j3) (X 0 18)) &&& 1) = 1) → (1 = v))))) ∧ ((¬ ((X 16 j1) = (-4))) → (∃ j5 : Nat, a1 = nI j5 ∧ j5 < 12 ∧ ((((X 0 17) < (X 16 j5)) → (∃ j7 : Nat, a1 = nI j7 ∧ j7 < 12 ∧ (((¬ ((zshr (X 2 j7) (X 0 18)) &&& 1) = 1) → (0 = v)) ∧ ((((zshr (X 2 j7) (X 0 18)) &&& 1) = 1) → (1 = v))))) ∧ ((¬ ((X 0 17) < (X 16 j5))) → (∃ j9 : Nat, a1 = nI j9 ∧ j9 < 12 ∧ (((¬ ((zshr (X 2 j9) (X 0 18)) &&& 1) = 1) → (0 = v)) ∧ ((((zshr (X 2 j9) (X 0 18)) &&& 1) = 1) → (0 = v)))))))))) : zPf SY 0 mX10_hasWater [.ref 0, .int a1] X v := by
  refine zP_in [some (.ref 0), some (.int a1), none] ⟨rfl, rfl, trivial⟩ (by decide) (Nat.le_of_ble_eq_true rfl) ?_
  refine j_aload_n dX10_hasWater_0 rfl ?_
  refine j_getr dX10_hasWater_1 fX10_56 rfl rfl ?_
  refine j_iload_n dX10_hasWater_4 rfl ?_
  obtain ⟨j1, ej1, lj1, h⟩ := h
  refine j_iald dX10_hasWater_5 rfl (zin ej1 lj1 (by decide)) ?_
  rw [zcl ej1 lj1 (by decide)]
  refine j_bipush (v := (-4)) dX10_hasWater_6 rfl ?_
  refine j_ic_eq (tgt := 28) dX10_hasWater_8 (by decide) (fun hc2 => ?_) (fun hc2 => ?_)
  · have h := h.1 hc2
    refine j_iconst (v := 0) dX10_hasWater_28 rfl ?_
    refine j_istore_n (L2 := [some (.ref 0), some (.int a1), some (.int 0)]) dX10_hasWater_29 (by decide) (zno rfl) rfl ?_
    refine j_aload_n dX10_hasWater_30 rfl ?_
    refine j_getr dX10_hasWater_31 fX10_13 rfl rfl ?_
    refine j_iload_n dX10_hasWater_34 rfl ?_
    obtain ⟨j3, ej3, lj3, h⟩ := h
    refine j_iald dX10_hasWater_35 rfl (zin ej3 lj3 (by decide)) ?_
    rw [zcl ej3 lj3 (by decide)]
    refine j_aload_n dX10_hasWater_36 rfl ?_
    refine j_getf dX10_hasWater_37 fX10_153 rfl rfl ?_
    refine j_ishr dX10_hasWater_40 ?_
    refine j_iconst (v := 1) dX10_hasWater_41 rfl ?_
    refine j_iand dX10_hasWater_42 ?_
    refine j_iconst (v := 1) dX10_hasWater_43 rfl ?_
    refine j_ic_ne (tgt := 55) dX10_hasWater_44 (by decide) (fun hc4 => ?_) (fun hc4 => ?_)
    · have h := h.1 hc4
      refine j_iconst (v := 0) dX10_hasWater_55 rfl ?_
      refine j_iret dX10_hasWater_56 rfl (by decide) ?_
      exact ⟨by rw [h], rfl⟩
    · have h := h.2 hc4
      refine j_iload_n dX10_hasWater_47 rfl ?_
      refine j_if_ne (tgt := 55) dX10_hasWater_48 (by decide) (fun hc => absurd hc (by decide)) (fun _ => ?_)
      refine j_iconst (v := 1) dX10_hasWater_51 rfl ?_
      refine j_goto (tgt := 56) dX10_hasWater_52 (by decide) ?_
      refine j_iret dX10_hasWater_56 rfl (by decide) ?_
      exact ⟨by rw [h], rfl⟩
  · have h := h.2 hc2
    refine j_aload_n dX10_hasWater_11 rfl ?_
    refine j_getr dX10_hasWater_12 fX10_56 rfl rfl ?_
    refine j_iload_n dX10_hasWater_15 rfl ?_
    obtain ⟨j5, ej5, lj5, h⟩ := h
    refine j_iald dX10_hasWater_16 rfl (zin ej5 lj5 (by decide)) ?_
    rw [zcl ej5 lj5 (by decide)]
    refine j_aload_n dX10_hasWater_17 rfl ?_
    refine j_getf dX10_hasWater_18 fX10_137 rfl rfl ?_
    refine j_ic_gt (tgt := 28) dX10_hasWater_21 (by decide) (fun hc6 => ?_) (fun hc6 => ?_)
    · have h := h.1 hc6
      refine j_iconst (v := 0) dX10_hasWater_28 rfl ?_
      refine j_istore_n (L2 := [some (.ref 0), some (.int a1), some (.int 0)]) dX10_hasWater_29 (by decide) (zno rfl) rfl ?_
      refine j_aload_n dX10_hasWater_30 rfl ?_
      refine j_getr dX10_hasWater_31 fX10_13 rfl rfl ?_
      refine j_iload_n dX10_hasWater_34 rfl ?_
      obtain ⟨j7, ej7, lj7, h⟩ := h
      refine j_iald dX10_hasWater_35 rfl (zin ej7 lj7 (by decide)) ?_
      rw [zcl ej7 lj7 (by decide)]
      refine j_aload_n dX10_hasWater_36 rfl ?_
      refine j_getf dX10_hasWater_37 fX10_153 rfl rfl ?_
      refine j_ishr dX10_hasWater_40 ?_
      refine j_iconst (v := 1) dX10_hasWater_41 rfl ?_
      refine j_iand dX10_hasWater_42 ?_
      refine j_iconst (v := 1) dX10_hasWater_43 rfl ?_
      refine j_ic_ne (tgt := 55) dX10_hasWater_44 (by decide) (fun hc8 => ?_) (fun hc8 => ?_)
      · have h := h.1 hc8
        refine j_iconst (v := 0) dX10_hasWater_55 rfl ?_
        refine j_iret dX10_hasWater_56 rfl (by decide) ?_
        exact ⟨by rw [h], rfl⟩
      · have h := h.2 hc8
        refine j_iload_n dX10_hasWater_47 rfl ?_
        refine j_if_ne (tgt := 55) dX10_hasWater_48 (by decide) (fun hc => absurd hc (by decide)) (fun _ => ?_)
        refine j_iconst (v := 1) dX10_hasWater_51 rfl ?_
        refine j_goto (tgt := 56) dX10_hasWater_52 (by decide) ?_
        refine j_iret dX10_hasWater_56 rfl (by decide) ?_
        exact ⟨by rw [h], rfl⟩
    · have h := h.2 hc6
      refine j_iconst (v := 1) dX10_hasWater_24 rfl ?_
      refine j_goto (tgt := 29) dX10_hasWater_25 (by decide) ?_
      refine j_istore_n (L2 := [some (.ref 0), some (.int a1), some (.int 1)]) dX10_hasWater_29 (by decide) (zno rfl) rfl ?_
      refine j_aload_n dX10_hasWater_30 rfl ?_
      refine j_getr dX10_hasWater_31 fX10_13 rfl rfl ?_
      refine j_iload_n dX10_hasWater_34 rfl ?_
      obtain ⟨j9, ej9, lj9, h⟩ := h
      refine j_iald dX10_hasWater_35 rfl (zin ej9 lj9 (by decide)) ?_
      rw [zcl ej9 lj9 (by decide)]
      refine j_aload_n dX10_hasWater_36 rfl ?_
      refine j_getf dX10_hasWater_37 fX10_153 rfl rfl ?_
      refine j_ishr dX10_hasWater_40 ?_
      refine j_iconst (v := 1) dX10_hasWater_41 rfl ?_
      refine j_iand dX10_hasWater_42 ?_
      refine j_iconst (v := 1) dX10_hasWater_43 rfl ?_
      refine j_ic_ne (tgt := 55) dX10_hasWater_44 (by decide) (fun hc10 => ?_) (fun hc10 => ?_)
      · have h := h.1 hc10
        refine j_iconst (v := 0) dX10_hasWater_55 rfl ?_
        refine j_iret dX10_hasWater_56 rfl (by decide) ?_
        exact ⟨by rw [h], rfl⟩
      · have h := h.2 hc10
        refine j_iload_n dX10_hasWater_47 rfl ?_
        refine j_if_ne (tgt := 55) dX10_hasWater_48 (by decide) (fun _ => ?_) (fun hc => absurd hc (by decide))
        refine j_iconst (v := 0) dX10_hasWater_55 rfl ?_
        refine j_iret dX10_hasWater_56 rfl (by decide) ?_
        exact ⟨by rw [h], rfl⟩
abbrev LX10_placeOf_27 (v : Int32) (X : zX) (x1 : Int32) (x2 : Int32) (x3 : Int32) (x4 : Int32) : Prop := zJ SY 2 mX10_placeOf (zRf v X) 27 [some (.ref 0), some (.int x1), some (.int x2), some (.int x3), some (.int x4)] [] X
theorem eX10_placeOf (v : Int32) (X : zX) (a1 : Int32) (a2 : Int32) (h : ∃ r1 : Int32, zPf SY 1 mX10_isPlace [.ref 0, .int a1] X r1 ∧ (((r1 = 0) → ((-1) = v)) ∧ ((¬ (r1 = 0)) → (∃ r3 : Int32, zPf SY 0 mX10_in [.long a2.toInt64, .long 0, .long 4] X r3 ∧ (((¬ r3 = 0) → (LX10_placeOf_27 v X a1 a2 0 0)) ∧ ((r3 = 0) → ((-1) = v))))))) : zPf SY 2 mX10_placeOf [.ref 0, .int a1, .int a2] X v := by
  refine zP_in [some (.ref 0), some (.int a1), some (.int a2), none, none] ⟨rfl, rfl, rfl, trivial⟩ (by decide) (Nat.le_of_ble_eq_true rfl) ?_
  refine j_aload_n dX10_placeOf_0 rfl ?_
  refine j_iload_n dX10_placeOf_1 rfl ?_
  obtain ⟨r1, hc, h⟩ := h
  refine j_cvf (lc := 1) (as := [.int a1]) dX10_placeOf_2 iX10_isPlace vX10_isPlace kX10_122 (by decide) rfl rfl rfl rfl (Nat.zero_le _) hc ?_
  refine j_if_eq (tgt := 20) dX10_placeOf_5 (by decide) (fun hc2 => ?_) (fun hc2 => ?_)
  · have h := h.1 hc2
    refine j_iconst (v := (-1)) dX10_placeOf_20 rfl ?_
    refine j_iret dX10_placeOf_21 rfl rfl ?_
    exact ⟨by rw [h], rfl⟩
  · have h := h.2 hc2
    refine j_iload_n dX10_placeOf_8 rfl ?_
    refine j_i2l dX10_placeOf_9 ?_
    refine j_lconst (v := 0) dX10_placeOf_10 rfl ?_
    refine j_ldc2 (v := 4) dX10_placeOf_11 qX10_156 ?_
    obtain ⟨r3, hc, h⟩ := h
    refine j_csf (lc := 0) (as := [.long a2.toInt64, .long 0, .long 4]) dX10_placeOf_14 iX10_in sX10_in kX10_102 (by decide) rfl rfl (Nat.zero_le _) hc ?_
    refine j_if_ne (tgt := 22) dX10_placeOf_17 (by decide) (fun hc4 => ?_) (fun hc4 => ?_)
    · have h := h.1 hc4
      refine j_iconst (v := 0) dX10_placeOf_22 rfl ?_
      refine j_istore_n (L2 := [some (.ref 0), some (.int a1), some (.int a2), some (.int 0), none]) dX10_placeOf_23 (by decide) (zno rfl) rfl ?_
      refine j_iconst (v := 0) dX10_placeOf_24 rfl ?_
      refine j_istore (L2 := [some (.ref 0), some (.int a1), some (.int a2), some (.int 0), some (.int 0)]) dX10_placeOf_25 (by decide) (zno rfl) rfl ?_
      exact zJw h ⟨rfl, rfl, rfl, rfl, rfl, trivial⟩
    · have h := h.2 hc4
      refine j_iconst (v := (-1)) dX10_placeOf_20 rfl ?_
      refine j_iret dX10_placeOf_21 rfl rfl ?_
      exact ⟨by rw [h], rfl⟩
theorem bX10_placeOf_27 (v : Int32) (X : zX) (x1 : Int32) (x2 : Int32) (x3 : Int32) (x4 : Int32) (h : (((X 0 3) ≤ x4) → (((¬ x2 = 0) → (((¬ x2 = 1) → (((¬ x2 = 2) → (((¬ x2 = 3) → (x3 = v)) ∧ ((x2 = 3) → (∃ j10 : Nat, x1 = nI j10 ∧ j10 < 12 ∧ ((X 16 j10) = v))))) ∧ ((x2 = 2) → (∃ r11 : Int32, zPf SY 0 mX10_hasWater [.ref 0, .int x1] X r11 ∧ (∃ r12 : Int32, zPf SY 0 mX10_flag [.int r11] X r12 ∧ (r12 = v)))))) ∧ ((x2 = 1) → (∃ j13 : Nat, x1 = nI j13 ∧ j13 < 12 ∧ ((X 2 j13) = v))))) ∧ ((x2 = 0) → (∃ j14 : Nat, x1 = nI j14 ∧ j14 < 12 ∧ ((X 1 j14) = v))))) ∧ ((¬ ((X 0 3) ≤ x4)) → (∃ j15 : Nat, x4 = nI j15 ∧ j15 < 24 ∧ (((¬ (X 4 j15) = x1) → (LX10_placeOf_27 v X x1 x2 (x3 ||| 0) (x4 + 1))) ∧ (((X 4 j15) = x1) → (∃ j17 : Nat, x4 = nI j17 ∧ j17 < 24 ∧ (LX10_placeOf_27 v X x1 x2 (x3 ||| (zshl 1 (X 3 j17))) (x4 + 1)))))))) : LX10_placeOf_27 v X x1 x2 x3 x4 := by
  refine j_iload dX10_placeOf_27 rfl ?_
  refine j_aload_n dX10_placeOf_29 rfl ?_
  refine j_getf dX10_placeOf_30 fX10_106 rfl rfl ?_
  refine j_ic_ge (tgt := 69) dX10_placeOf_33 (by decide) (fun hc5 => ?_) (fun hc5 => ?_)
  · have h := h.1 hc5
    refine j_iload_n dX10_placeOf_69 rfl ?_
    refine j_if_ne (tgt := 82) dX10_placeOf_70 (by decide) (fun hc6 => ?_) (fun hc6 => ?_)
    · have h := h.1 hc6
      refine j_iload_n dX10_placeOf_82 rfl ?_
      refine j_iconst (v := 1) dX10_placeOf_83 rfl ?_
      refine j_ic_ne (tgt := 96) dX10_placeOf_84 (by decide) (fun hc7 => ?_) (fun hc7 => ?_)
      · have h := h.1 hc7
        refine j_iload_n dX10_placeOf_96 rfl ?_
        refine j_iconst (v := 2) dX10_placeOf_97 rfl ?_
        refine j_ic_ne (tgt := 112) dX10_placeOf_98 (by decide) (fun hc8 => ?_) (fun hc8 => ?_)
        · have h := h.1 hc8
          refine j_iload_n dX10_placeOf_112 rfl ?_
          refine j_iconst (v := 3) dX10_placeOf_113 rfl ?_
          refine j_ic_ne (tgt := 126) dX10_placeOf_114 (by decide) (fun hc9 => ?_) (fun hc9 => ?_)
          · have h := h.1 hc9
            refine j_iload_n dX10_placeOf_126 rfl ?_
            refine j_iret dX10_placeOf_127 rfl rfl ?_
            exact ⟨by rw [h], rfl⟩
          · have h := h.2 hc9
            refine j_aload_n dX10_placeOf_117 rfl ?_
            refine j_getr dX10_placeOf_118 fX10_56 rfl rfl ?_
            refine j_iload_n dX10_placeOf_121 rfl ?_
            obtain ⟨j10, ej10, lj10, h⟩ := h
            refine j_iald dX10_placeOf_122 rfl (zin ej10 lj10 (by decide)) ?_
            rw [zcl ej10 lj10 (by decide)]
            refine j_goto (tgt := 127) dX10_placeOf_123 (by decide) ?_
            refine j_iret dX10_placeOf_127 rfl rfl ?_
            exact ⟨by rw [h], rfl⟩
        · have h := h.2 hc8
          refine j_aload_n dX10_placeOf_101 rfl ?_
          refine j_iload_n dX10_placeOf_102 rfl ?_
          obtain ⟨r11, hc, h⟩ := h
          refine j_cvf (lc := 0) (as := [.int x1]) dX10_placeOf_103 iX10_hasWater vX10_hasWater kX10_158 (by decide) rfl rfl rfl rfl (Nat.zero_le _) hc ?_
          obtain ⟨r12, hc, h⟩ := h
          refine j_csf (lc := 0) (as := [.int r11]) dX10_placeOf_106 iX10_flag sX10_flag kX10_161 (by decide) rfl rfl (Nat.zero_le _) hc ?_
          refine j_goto (tgt := 127) dX10_placeOf_109 (by decide) ?_
          refine j_iret dX10_placeOf_127 rfl rfl ?_
          exact ⟨by rw [h], rfl⟩
      · have h := h.2 hc7
        refine j_aload_n dX10_placeOf_87 rfl ?_
        refine j_getr dX10_placeOf_88 fX10_13 rfl rfl ?_
        refine j_iload_n dX10_placeOf_91 rfl ?_
        obtain ⟨j13, ej13, lj13, h⟩ := h
        refine j_iald dX10_placeOf_92 rfl (zin ej13 lj13 (by decide)) ?_
        rw [zcl ej13 lj13 (by decide)]
        refine j_goto (tgt := 127) dX10_placeOf_93 (by decide) ?_
        refine j_iret dX10_placeOf_127 rfl rfl ?_
        exact ⟨by rw [h], rfl⟩
    · have h := h.2 hc6
      refine j_aload_n dX10_placeOf_73 rfl ?_
      refine j_getr dX10_placeOf_74 fX10_7 rfl rfl ?_
      refine j_iload_n dX10_placeOf_77 rfl ?_
      obtain ⟨j14, ej14, lj14, h⟩ := h
      refine j_iald dX10_placeOf_78 rfl (zin ej14 lj14 (by decide)) ?_
      rw [zcl ej14 lj14 (by decide)]
      refine j_goto (tgt := 127) dX10_placeOf_79 (by decide) ?_
      refine j_iret dX10_placeOf_127 rfl rfl ?_
      exact ⟨by rw [h], rfl⟩
  · have h := h.2 hc5
    refine j_iload_n dX10_placeOf_36 rfl ?_
    refine j_aload_n dX10_placeOf_37 rfl ?_
    refine j_getr dX10_placeOf_38 fX10_19 rfl rfl ?_
    refine j_iload dX10_placeOf_41 rfl ?_
    obtain ⟨j15, ej15, lj15, h⟩ := h
    refine j_iald dX10_placeOf_43 rfl (zin ej15 lj15 (by decide)) ?_
    rw [zcl ej15 lj15 (by decide)]
    refine j_iload_n dX10_placeOf_44 rfl ?_
    refine j_ic_ne (tgt := 60) dX10_placeOf_45 (by decide) (fun hc16 => ?_) (fun hc16 => ?_)
    · have h := h.1 hc16
      refine j_iconst (v := 0) dX10_placeOf_60 rfl ?_
      refine j_ior dX10_placeOf_61 ?_
      refine j_istore_n (L2 := [some (.ref 0), some (.int x1), some (.int x2), some (.int (x3 ||| 0)), some (.int x4)]) dX10_placeOf_62 (by decide) (zno rfl) rfl ?_
      refine j_iinc (v := (x4 + 1)) (L2 := [some (.ref 0), some (.int x1), some (.int x2), some (.int (x3 ||| 0)), some (.int (x4 + 1))]) dX10_placeOf_63 rfl rfl (by decide) (zno rfl) rfl ?_
      refine j_goto (tgt := 27) dX10_placeOf_66 (by decide) ?_
      exact zJw h ⟨rfl, rfl, rfl, rfl, rfl, trivial⟩
    · have h := h.2 hc16
      refine j_iconst (v := 1) dX10_placeOf_48 rfl ?_
      refine j_aload_n dX10_placeOf_49 rfl ?_
      refine j_getr dX10_placeOf_50 fX10_16 rfl rfl ?_
      refine j_iload dX10_placeOf_53 rfl ?_
      obtain ⟨j17, ej17, lj17, h⟩ := h
      refine j_iald dX10_placeOf_55 rfl (zin ej17 lj17 (by decide)) ?_
      rw [zcl ej17 lj17 (by decide)]
      refine j_ishl dX10_placeOf_56 ?_
      refine j_goto (tgt := 61) dX10_placeOf_57 (by decide) ?_
      refine j_ior dX10_placeOf_61 ?_
      refine j_istore_n (L2 := [some (.ref 0), some (.int x1), some (.int x2), some (.int (x3 ||| (zshl 1 (X 3 j17)))), some (.int x4)]) dX10_placeOf_62 (by decide) (zno rfl) rfl ?_
      refine j_iinc (v := (x4 + 1)) (L2 := [some (.ref 0), some (.int x1), some (.int x2), some (.int (x3 ||| (zshl 1 (X 3 j17)))), some (.int (x4 + 1))]) dX10_placeOf_63 rfl rfl (by decide) (zno rfl) rfl ?_
      refine j_goto (tgt := 27) dX10_placeOf_66 (by decide) ?_
      exact zJw h ⟨rfl, rfl, rfl, rfl, rfl, trivial⟩
theorem eX10_verseOf (v : Int32) (X : zX) (a1 : Int32) (a2 : Int32) (h : ∃ r1 : Int32, zPf SY 1 mX10_isVerse [.ref 0, .int a1] X r1 ∧ (((r1 = 0) → ((-1) = v)) ∧ ((¬ (r1 = 0)) → (∃ r3 : Int32, zPf SY 0 mX10_in [.long a2.toInt64, .long 0, .long 6] X r3 ∧ (((¬ r3 = 0) → ((a2 = 0 → (∃ j5 : Nat, a1 = nI j5 ∧ j5 < 24 ∧ ((X 3 j5) = v))) ∧ (a2 = 1 → (∃ j6 : Nat, a1 = nI j6 ∧ j6 < 24 ∧ ((X 4 j6) = v))) ∧ (a2 = 2 → (∃ j7 : Nat, a1 = nI j7 ∧ j7 < 24 ∧ ((X 5 j7) = v))) ∧ (a2 = 3 → (∃ j8 : Nat, a1 = nI j8 ∧ j8 < 24 ∧ ((X 6 j8) = v))) ∧ (a2 = 4 → (∃ j9 : Nat, a1 = nI j9 ∧ j9 < 24 ∧ ((X 7 j9) = v))) ∧ (a2 = 5 → (∃ j10 : Nat, a1 = nI j10 ∧ j10 < 24 ∧ ((X 8 j10) = v))) ∧ ((a2.toInt < 0 ∨ 5 < a2.toInt) → (∃ r11 : Int32, zPf SY 1 mX10_headsOf [.ref 0, .int a1] X r11 ∧ (r11 = v))))) ∧ ((r3 = 0) → ((-1) = v))))))) : zPf SY 2 mX10_verseOf [.ref 0, .int a1, .int a2] X v := by
  refine zP_in [some (.ref 0), some (.int a1), some (.int a2)] ⟨rfl, rfl, rfl, trivial⟩ (by decide) (Nat.le_of_ble_eq_true rfl) ?_
  refine j_aload_n dX10_verseOf_0 rfl ?_
  refine j_iload_n dX10_verseOf_1 rfl ?_
  obtain ⟨r1, hc, h⟩ := h
  refine j_cvf (lc := 1) (as := [.int a1]) dX10_verseOf_2 iX10_isVerse vX10_isVerse kX10_147 (by decide) rfl rfl rfl rfl (Nat.zero_le _) hc ?_
  refine j_if_eq (tgt := 20) dX10_verseOf_5 (by decide) (fun hc2 => ?_) (fun hc2 => ?_)
  · have h := h.1 hc2
    refine j_iconst (v := (-1)) dX10_verseOf_20 rfl ?_
    refine j_iret dX10_verseOf_21 rfl rfl ?_
    exact ⟨by rw [h], rfl⟩
  · have h := h.2 hc2
    refine j_iload_n dX10_verseOf_8 rfl ?_
    refine j_i2l dX10_verseOf_9 ?_
    refine j_lconst (v := 0) dX10_verseOf_10 rfl ?_
    refine j_ldc2 (v := 6) dX10_verseOf_11 qX10_165 ?_
    obtain ⟨r3, hc, h⟩ := h
    refine j_csf (lc := 0) (as := [.long a2.toInt64, .long 0, .long 6]) dX10_verseOf_14 iX10_in sX10_in kX10_102 (by decide) rfl rfl (Nat.zero_le _) hc ?_
    refine j_if_ne (tgt := 22) dX10_verseOf_17 (by decide) (fun hc4 => ?_) (fun hc4 => ?_)
    · have h := h.1 hc4
      refine j_iload_n dX10_verseOf_22 rfl ?_
      refine j_tsw (dt := 102) [60, 67, 74, 81, 88, 95] dX10_verseOf_23 (by decide) (by decide) (by decide) ?_ (fun hc => ?_)
      · refine ⟨fun hc => ?_, fun hc => ?_, fun hc => ?_, fun hc => ?_, fun hc => ?_, fun hc => ?_, trivial⟩
        · have h := h.1 (hc.trans (by decide))
          refine j_aload_n dX10_verseOf_60 rfl ?_
          refine j_getr dX10_verseOf_61 fX10_16 rfl rfl ?_
          refine j_iload_n dX10_verseOf_64 rfl ?_
          obtain ⟨j5, ej5, lj5, h⟩ := h
          refine j_iald dX10_verseOf_65 rfl (zin ej5 lj5 (by decide)) ?_
          rw [zcl ej5 lj5 (by decide)]
          refine j_iret dX10_verseOf_66 rfl rfl ?_
          exact ⟨by rw [h], rfl⟩
        · have h := h.2.1 (hc.trans (by decide))
          refine j_aload_n dX10_verseOf_67 rfl ?_
          refine j_getr dX10_verseOf_68 fX10_19 rfl rfl ?_
          refine j_iload_n dX10_verseOf_71 rfl ?_
          obtain ⟨j6, ej6, lj6, h⟩ := h
          refine j_iald dX10_verseOf_72 rfl (zin ej6 lj6 (by decide)) ?_
          rw [zcl ej6 lj6 (by decide)]
          refine j_iret dX10_verseOf_73 rfl rfl ?_
          exact ⟨by rw [h], rfl⟩
        · have h := h.2.2.1 (hc.trans (by decide))
          refine j_aload_n dX10_verseOf_74 rfl ?_
          refine j_getr dX10_verseOf_75 fX10_22 rfl rfl ?_
          refine j_iload_n dX10_verseOf_78 rfl ?_
          obtain ⟨j7, ej7, lj7, h⟩ := h
          refine j_iald dX10_verseOf_79 rfl (zin ej7 lj7 (by decide)) ?_
          rw [zcl ej7 lj7 (by decide)]
          refine j_iret dX10_verseOf_80 rfl rfl ?_
          exact ⟨by rw [h], rfl⟩
        · have h := h.2.2.2.1 (hc.trans (by decide))
          refine j_aload_n dX10_verseOf_81 rfl ?_
          refine j_getr dX10_verseOf_82 fX10_25 rfl rfl ?_
          refine j_iload_n dX10_verseOf_85 rfl ?_
          obtain ⟨j8, ej8, lj8, h⟩ := h
          refine j_iald dX10_verseOf_86 rfl (zin ej8 lj8 (by decide)) ?_
          rw [zcl ej8 lj8 (by decide)]
          refine j_iret dX10_verseOf_87 rfl rfl ?_
          exact ⟨by rw [h], rfl⟩
        · have h := h.2.2.2.2.1 (hc.trans (by decide))
          refine j_aload_n dX10_verseOf_88 rfl ?_
          refine j_getr dX10_verseOf_89 fX10_28 rfl rfl ?_
          refine j_iload_n dX10_verseOf_92 rfl ?_
          obtain ⟨j9, ej9, lj9, h⟩ := h
          refine j_iald dX10_verseOf_93 rfl (zin ej9 lj9 (by decide)) ?_
          rw [zcl ej9 lj9 (by decide)]
          refine j_iret dX10_verseOf_94 rfl rfl ?_
          exact ⟨by rw [h], rfl⟩
        · have h := h.2.2.2.2.2.1 (hc.trans (by decide))
          refine j_aload_n dX10_verseOf_95 rfl ?_
          refine j_getr dX10_verseOf_96 fX10_31 rfl rfl ?_
          refine j_iload_n dX10_verseOf_99 rfl ?_
          obtain ⟨j10, ej10, lj10, h⟩ := h
          refine j_iald dX10_verseOf_100 rfl (zin ej10 lj10 (by decide)) ?_
          rw [zcl ej10 lj10 (by decide)]
          refine j_iret dX10_verseOf_101 rfl rfl ?_
          exact ⟨by rw [h], rfl⟩
      · have h := h.2.2.2.2.2.2 hc
        refine j_aload_n dX10_verseOf_102 rfl ?_
        refine j_iload_n dX10_verseOf_103 rfl ?_
        obtain ⟨r11, hc, h⟩ := h
        refine j_cvf (lc := 1) (as := [.int a1]) dX10_verseOf_104 iX10_headsOf vX10_headsOf kX10_150 (by decide) rfl rfl rfl rfl (Nat.zero_le _) hc ?_
        refine j_iret dX10_verseOf_107 rfl rfl ?_
        exact ⟨by rw [h], rfl⟩
    · have h := h.2 hc4
      refine j_iconst (v := (-1)) dX10_verseOf_20 rfl ?_
      refine j_iret dX10_verseOf_21 rfl rfl ?_
      exact ⟨by rw [h], rfl⟩
theorem eX10_oneOf (v : Int32) (X : zX) (a1 : Int32) (a2 : Int32) (h : ∃ r1 : Int32, zPf SY 1 mX10_isOne [.ref 0, .int a1] X r1 ∧ (((r1 = 0) → ((-1) = v)) ∧ ((¬ (r1 = 0)) → (∃ r3 : Int32, zPf SY 0 mX10_in [.long a2.toInt64, .long 0, .long 3] X r3 ∧ (((¬ r3 = 0) → (((¬ a2 = 0) → (((¬ a2 = 1) → (((¬ a2 = 2) → (∃ j8 : Nat, a1 = nI j8 ∧ j8 < 8 ∧ ((X 13 j8) = v))) ∧ ((a2 = 2) → (∃ j9 : Nat, a1 = nI j9 ∧ j9 < 8 ∧ ((X 12 j9) = v))))) ∧ ((a2 = 1) → (∃ j10 : Nat, a1 = nI j10 ∧ j10 < 8 ∧ ((((X 14 j10) = 0) → (∃ r12 : Int32, zPf SY 0 mX10_ageOf [.ref 0, .int a1] X r12 ∧ (r12 = v))) ∧ ((¬ ((X 14 j10) = 0)) → ((-4) = v))))))) ∧ ((a2 = 0) → (∃ j13 : Nat, a1 = nI j13 ∧ j13 < 8 ∧ ((X 9 j13) = v))))) ∧ ((r3 = 0) → ((-1) = v))))))) : zPf SY 2 mX10_oneOf [.ref 0, .int a1, .int a2] X v := by
  refine zP_in [some (.ref 0), some (.int a1), some (.int a2)] ⟨rfl, rfl, rfl, trivial⟩ (by decide) (Nat.le_of_ble_eq_true rfl) ?_
  refine j_aload_n dX10_oneOf_0 rfl ?_
  refine j_iload_n dX10_oneOf_1 rfl ?_
  obtain ⟨r1, hc, h⟩ := h
  refine j_cvf (lc := 1) (as := [.int a1]) dX10_oneOf_2 iX10_isOne vX10_isOne kX10_144 (by decide) rfl rfl rfl rfl (Nat.zero_le _) hc ?_
  refine j_if_eq (tgt := 20) dX10_oneOf_5 (by decide) (fun hc2 => ?_) (fun hc2 => ?_)
  · have h := h.1 hc2
    refine j_iconst (v := (-1)) dX10_oneOf_20 rfl ?_
    refine j_iret dX10_oneOf_21 rfl rfl ?_
    exact ⟨by rw [h], rfl⟩
  · have h := h.2 hc2
    refine j_iload_n dX10_oneOf_8 rfl ?_
    refine j_i2l dX10_oneOf_9 ?_
    refine j_lconst (v := 0) dX10_oneOf_10 rfl ?_
    refine j_ldc2 (v := 3) dX10_oneOf_11 qX10_112 ?_
    obtain ⟨r3, hc, h⟩ := h
    refine j_csf (lc := 0) (as := [.long a2.toInt64, .long 0, .long 3]) dX10_oneOf_14 iX10_in sX10_in kX10_102 (by decide) rfl rfl (Nat.zero_le _) hc ?_
    refine j_if_ne (tgt := 22) dX10_oneOf_17 (by decide) (fun hc4 => ?_) (fun hc4 => ?_)
    · have h := h.1 hc4
      refine j_iload_n dX10_oneOf_22 rfl ?_
      refine j_if_ne (tgt := 35) dX10_oneOf_23 (by decide) (fun hc5 => ?_) (fun hc5 => ?_)
      · have h := h.1 hc5
        refine j_iload_n dX10_oneOf_35 rfl ?_
        refine j_iconst (v := 1) dX10_oneOf_36 rfl ?_
        refine j_ic_ne (tgt := 62) dX10_oneOf_37 (by decide) (fun hc6 => ?_) (fun hc6 => ?_)
        · have h := h.1 hc6
          refine j_iload_n dX10_oneOf_62 rfl ?_
          refine j_iconst (v := 2) dX10_oneOf_63 rfl ?_
          refine j_ic_ne (tgt := 76) dX10_oneOf_64 (by decide) (fun hc7 => ?_) (fun hc7 => ?_)
          · have h := h.1 hc7
            refine j_aload_n dX10_oneOf_76 rfl ?_
            refine j_getr dX10_oneOf_77 fX10_46 rfl rfl ?_
            refine j_iload_n dX10_oneOf_80 rfl ?_
            obtain ⟨j8, ej8, lj8, h⟩ := h
            refine j_iald dX10_oneOf_81 rfl (zin ej8 lj8 (by decide)) ?_
            rw [zcl ej8 lj8 (by decide)]
            refine j_iret dX10_oneOf_82 rfl rfl ?_
            exact ⟨by rw [h], rfl⟩
          · have h := h.2 hc7
            refine j_aload_n dX10_oneOf_67 rfl ?_
            refine j_getr dX10_oneOf_68 fX10_43 rfl rfl ?_
            refine j_iload_n dX10_oneOf_71 rfl ?_
            obtain ⟨j9, ej9, lj9, h⟩ := h
            refine j_iald dX10_oneOf_72 rfl (zin ej9 lj9 (by decide)) ?_
            rw [zcl ej9 lj9 (by decide)]
            refine j_goto (tgt := 82) dX10_oneOf_73 (by decide) ?_
            refine j_iret dX10_oneOf_82 rfl rfl ?_
            exact ⟨by rw [h], rfl⟩
        · have h := h.2 hc6
          refine j_aload_n dX10_oneOf_40 rfl ?_
          refine j_getr dX10_oneOf_41 fX10_49 rfl rfl ?_
          refine j_iload_n dX10_oneOf_44 rfl ?_
          obtain ⟨j10, ej10, lj10, h⟩ := h
          refine j_zald dX10_oneOf_45 rfl (zin ej10 lj10 (by decide)) ?_
          rw [zcl ej10 lj10 (by decide)]
          refine j_if_eq (tgt := 54) dX10_oneOf_46 (by decide) (fun hc11 => ?_) (fun hc11 => ?_)
          · have h := h.1 hc11
            refine j_aload_n dX10_oneOf_54 rfl ?_
            refine j_iload_n dX10_oneOf_55 rfl ?_
            obtain ⟨r12, hc, h⟩ := h
            refine j_cvf (lc := 0) (as := [.int a1]) dX10_oneOf_56 iX10_ageOf vX10_ageOf kX10_167 (by decide) rfl rfl rfl rfl (Nat.zero_le _) hc ?_
            refine j_goto (tgt := 82) dX10_oneOf_59 (by decide) ?_
            refine j_iret dX10_oneOf_82 rfl rfl ?_
            exact ⟨by rw [h], rfl⟩
          · have h := h.2 hc11
            refine j_bipush (v := (-4)) dX10_oneOf_49 rfl ?_
            refine j_goto (tgt := 82) dX10_oneOf_51 (by decide) ?_
            refine j_iret dX10_oneOf_82 rfl rfl ?_
            exact ⟨by rw [h], rfl⟩
      · have h := h.2 hc5
        refine j_aload_n dX10_oneOf_26 rfl ?_
        refine j_getr dX10_oneOf_27 fX10_34 rfl rfl ?_
        refine j_iload_n dX10_oneOf_30 rfl ?_
        obtain ⟨j13, ej13, lj13, h⟩ := h
        refine j_iald dX10_oneOf_31 rfl (zin ej13 lj13 (by decide)) ?_
        rw [zcl ej13 lj13 (by decide)]
        refine j_goto (tgt := 82) dX10_oneOf_32 (by decide) ?_
        refine j_iret dX10_oneOf_82 rfl rfl ?_
        exact ⟨by rw [h], rfl⟩
    · have h := h.2 hc4
      refine j_iconst (v := (-1)) dX10_oneOf_20 rfl ?_
      refine j_iret dX10_oneOf_21 rfl rfl ?_
      exact ⟨by rw [h], rfl⟩
abbrev LX10_firstDraft_19 (P : zX → Prop) (M : zX) (x1 : Int32) : Prop := zJ SY 0 mX10_firstDraft (zRw P) 19 [some (.ref 0), some (.int x1)] [] M
abbrev LX10_firstDraft_40 (P : zX → Prop) (M : zX) (x1 : Int32) : Prop := zJ SY 0 mX10_firstDraft (zRw P) 40 [some (.ref 0), some (.int x1)] [] M
abbrev LX10_firstDraft_62 (P : zX → Prop) (M : zX) (x1 : Int32) : Prop := zJ SY 0 mX10_firstDraft (zRw P) 62 [some (.ref 0), some (.int x1)] [] M
abbrev LX10_firstDraft_83 (P : zX → Prop) (M : zX) (x1 : Int32) : Prop := zJ SY 0 mX10_firstDraft (zRw P) 83 [some (.ref 0), some (.int x1)] [] M
theorem eX10_firstDraft (P : zX → Prop) (X : zX)  (h : LX10_firstDraft_19 P (zs (zs (zs X 0 25 12) 0 26 20) 0 27 3) 0) : zPw SY 0 mX10_firstDraft [.ref 0] X P := by
  refine zP_in [some (.ref 0), none] ⟨rfl, trivial⟩ (by decide) (Nat.le_of_ble_eq_true rfl) ?_
  refine j_aload_n dX10_firstDraft_0 rfl ?_
  refine j_bipush (v := 12) dX10_firstDraft_1 rfl ?_
  refine j_putf dX10_firstDraft_3 fX10_170 pX10_25 rfl rfl ?_
  refine j_aload_n dX10_firstDraft_6 rfl ?_
  refine j_bipush (v := 20) dX10_firstDraft_7 rfl ?_
  refine j_putf dX10_firstDraft_9 fX10_173 pX10_26 rfl rfl ?_
  refine j_aload_n dX10_firstDraft_12 rfl ?_
  refine j_iconst (v := 3) dX10_firstDraft_13 rfl ?_
  refine j_putf dX10_firstDraft_14 fX10_176 pX10_27 rfl rfl ?_
  refine j_iconst (v := 0) dX10_firstDraft_17 rfl ?_
  refine j_istore_n (L2 := [some (.ref 0), some (.int 0)]) dX10_firstDraft_18 (by decide) (zno rfl) rfl ?_
  exact zJw h ⟨rfl, rfl, trivial⟩
theorem bX10_firstDraft_19 (P : zX → Prop) (M : zX) (x1 : Int32) (h : ((8 ≤ x1) → (LX10_firstDraft_40 P M 0)) ∧ ((¬ (8 ≤ x1)) → (∃ j2 : Nat, x1 = nI j2 ∧ j2 < 8 ∧ (LX10_firstDraft_19 P (zs M 18 j2 0) (x1 + 1))))) : LX10_firstDraft_19 P M x1 := by
  refine j_iload_n dX10_firstDraft_19 rfl ?_
  refine j_bipush (v := 8) dX10_firstDraft_20 rfl ?_
  refine j_ic_ge (tgt := 38) dX10_firstDraft_22 (by decide) (fun hc1 => ?_) (fun hc1 => ?_)
  · have h := h.1 hc1
    refine j_iconst (v := 0) dX10_firstDraft_38 rfl ?_
    refine j_istore_n (L2 := [some (.ref 0), some (.int 0)]) dX10_firstDraft_39 (by decide) (zno rfl) rfl ?_
    exact zJw h ⟨rfl, rfl, trivial⟩
  · have h := h.2 hc1
    refine j_aload_n dX10_firstDraft_25 rfl ?_
    refine j_getr dX10_firstDraft_26 fX10_62 rfl rfl ?_
    refine j_iload_n dX10_firstDraft_29 rfl ?_
    refine j_iconst (v := 0) dX10_firstDraft_30 rfl ?_
    obtain ⟨j2, ej2, lj2, h⟩ := h
    refine j_iast dX10_firstDraft_31 rfl (zin ej2 lj2 (by decide)) ?_
    rw [zcl ej2 lj2 (by decide)]
    refine j_iinc (v := (x1 + 1)) (L2 := [some (.ref 0), some (.int (x1 + 1))]) dX10_firstDraft_32 rfl rfl (by decide) (zno rfl) rfl ?_
    refine j_goto (tgt := 19) dX10_firstDraft_35 (by decide) ?_
    exact zJw h ⟨rfl, rfl, trivial⟩
theorem bX10_firstDraft_40 (P : zX → Prop) (M : zX) (x1 : Int32) (h : ((12 ≤ x1) → (LX10_firstDraft_62 P M 0)) ∧ ((¬ (12 ≤ x1)) → (∃ j4 : Nat, x1 = nI j4 ∧ j4 < 12 ∧ (LX10_firstDraft_40 P (zs M 19 j4 (-4)) (x1 + 1))))) : LX10_firstDraft_40 P M x1 := by
  refine j_iload_n dX10_firstDraft_40 rfl ?_
  refine j_bipush (v := 12) dX10_firstDraft_41 rfl ?_
  refine j_ic_ge (tgt := 60) dX10_firstDraft_43 (by decide) (fun hc3 => ?_) (fun hc3 => ?_)
  · have h := h.1 hc3
    refine j_iconst (v := 0) dX10_firstDraft_60 rfl ?_
    refine j_istore_n (L2 := [some (.ref 0), some (.int 0)]) dX10_firstDraft_61 (by decide) (zno rfl) rfl ?_
    exact zJw h ⟨rfl, rfl, trivial⟩
  · have h := h.2 hc3
    refine j_aload_n dX10_firstDraft_46 rfl ?_
    refine j_getr dX10_firstDraft_47 fX10_65 rfl rfl ?_
    refine j_iload_n dX10_firstDraft_50 rfl ?_
    refine j_bipush (v := (-4)) dX10_firstDraft_51 rfl ?_
    obtain ⟨j4, ej4, lj4, h⟩ := h
    refine j_iast dX10_firstDraft_53 rfl (zin ej4 lj4 (by decide)) ?_
    rw [zcl ej4 lj4 (by decide)]
    refine j_iinc (v := (x1 + 1)) (L2 := [some (.ref 0), some (.int (x1 + 1))]) dX10_firstDraft_54 rfl rfl (by decide) (zno rfl) rfl ?_
    refine j_goto (tgt := 40) dX10_firstDraft_57 (by decide) ?_
    exact zJw h ⟨rfl, rfl, trivial⟩
theorem bX10_firstDraft_62 (P : zX → Prop) (M : zX) (x1 : Int32) (h : ((24 ≤ x1) → (LX10_firstDraft_83 P M 0)) ∧ ((¬ (24 ≤ x1)) → (∃ j6 : Nat, x1 = nI j6 ∧ j6 < 24 ∧ (LX10_firstDraft_62 P (zs M 20 j6 0) (x1 + 1))))) : LX10_firstDraft_62 P M x1 := by
  refine j_iload_n dX10_firstDraft_62 rfl ?_
  refine j_bipush (v := 24) dX10_firstDraft_63 rfl ?_
  refine j_ic_ge (tgt := 81) dX10_firstDraft_65 (by decide) (fun hc5 => ?_) (fun hc5 => ?_)
  · have h := h.1 hc5
    refine j_iconst (v := 0) dX10_firstDraft_81 rfl ?_
    refine j_istore_n (L2 := [some (.ref 0), some (.int 0)]) dX10_firstDraft_82 (by decide) (zno rfl) rfl ?_
    exact zJw h ⟨rfl, rfl, trivial⟩
  · have h := h.2 hc5
    refine j_aload_n dX10_firstDraft_68 rfl ?_
    refine j_getr dX10_firstDraft_69 fX10_68 rfl rfl ?_
    refine j_iload_n dX10_firstDraft_72 rfl ?_
    refine j_iconst (v := 0) dX10_firstDraft_73 rfl ?_
    obtain ⟨j6, ej6, lj6, h⟩ := h
    refine j_iast dX10_firstDraft_74 rfl (zin ej6 lj6 (by decide)) ?_
    rw [zcl ej6 lj6 (by decide)]
    refine j_iinc (v := (x1 + 1)) (L2 := [some (.ref 0), some (.int (x1 + 1))]) dX10_firstDraft_75 rfl rfl (by decide) (zno rfl) rfl ?_
    refine j_goto (tgt := 62) dX10_firstDraft_78 (by decide) ?_
    exact zJw h ⟨rfl, rfl, trivial⟩
theorem bX10_firstDraft_83 (P : zX → Prop) (M : zX) (x1 : Int32) (h : ((6 ≤ x1) → (P M)) ∧ ((¬ (6 ≤ x1)) → (∃ j8 : Nat, x1 = nI j8 ∧ j8 < 6 ∧ (LX10_firstDraft_83 P (zs M 21 j8 (vp_nar .boolean 0)) (x1 + 1))))) : LX10_firstDraft_83 P M x1 := by
  refine j_iload_n dX10_firstDraft_83 rfl ?_
  refine j_bipush (v := 6) dX10_firstDraft_84 rfl ?_
  refine j_ic_ge (tgt := 102) dX10_firstDraft_86 (by decide) (fun hc7 => ?_) (fun hc7 => ?_)
  · have h := h.1 hc7
    refine j_vret dX10_firstDraft_102 rfl ?_
    exact ⟨rfl, h⟩
  · have h := h.2 hc7
    refine j_aload_n dX10_firstDraft_89 rfl ?_
    refine j_getr dX10_firstDraft_90 fX10_71 rfl rfl ?_
    refine j_iload_n dX10_firstDraft_93 rfl ?_
    refine j_iconst (v := 0) dX10_firstDraft_94 rfl ?_
    obtain ⟨j8, ej8, lj8, h⟩ := h
    refine j_zast dX10_firstDraft_95 rfl (zin ej8 lj8 (by decide)) ?_
    rw [zcl ej8 lj8 (by decide)]
    refine j_iinc (v := (x1 + 1)) (L2 := [some (.ref 0), some (.int (x1 + 1))]) dX10_firstDraft_96 rfl rfl (by decide) (zno rfl) rfl ?_
    refine j_goto (tgt := 83) dX10_firstDraft_99 (by decide) ?_
    exact zJw h ⟨rfl, rfl, trivial⟩
abbrev LX10_keepDraft_26 (P : zX → Prop) (M : zX) (x1 : Int32) : Prop := zJ SY 0 mX10_keepDraft (zRw P) 26 [some (.ref 0), some (.int x1)] [] M
abbrev LX10_keepDraft_52 (P : zX → Prop) (M : zX) (x1 : Int32) : Prop := zJ SY 0 mX10_keepDraft (zRw P) 52 [some (.ref 0), some (.int x1)] [] M
abbrev LX10_keepDraft_78 (P : zX → Prop) (M : zX) (x1 : Int32) : Prop := zJ SY 0 mX10_keepDraft (zRw P) 78 [some (.ref 0), some (.int x1)] [] M
theorem eX10_keepDraft (P : zX → Prop) (X : zX)  (h : LX10_keepDraft_26 P (zs (zs (zs X 0 19 (X 0 25)) 0 20 (X 0 26)) 0 21 (X 0 27)) 0) : zPw SY 0 mX10_keepDraft [.ref 0] X P := by
  refine zP_in [some (.ref 0), none] ⟨rfl, trivial⟩ (by decide) (Nat.le_of_ble_eq_true rfl) ?_
  refine j_aload_n dX10_keepDraft_0 rfl ?_
  refine j_aload_n dX10_keepDraft_1 rfl ?_
  refine j_getf dX10_keepDraft_2 fX10_170 rfl rfl ?_
  refine j_putf dX10_keepDraft_5 fX10_179 pX10_19 rfl rfl ?_
  refine j_aload_n dX10_keepDraft_8 rfl ?_
  refine j_aload_n dX10_keepDraft_9 rfl ?_
  refine j_getv (v := .int (X 0 26)) dX10_keepDraft_10 fX10_173 rfl rfl (fun _ => rfl) ?_
  refine j_putf dX10_keepDraft_13 fX10_182 pX10_20 rfl rfl ?_
  refine j_aload_n dX10_keepDraft_16 rfl ?_
  refine j_aload_n dX10_keepDraft_17 rfl ?_
  refine j_getv (v := .int (X 0 27)) dX10_keepDraft_18 fX10_176 rfl rfl (fun _ => rfl) ?_
  refine j_putf dX10_keepDraft_21 fX10_185 pX10_21 rfl rfl ?_
  refine j_iconst (v := 0) dX10_keepDraft_24 rfl ?_
  refine j_istore_n (L2 := [some (.ref 0), some (.int 0)]) dX10_keepDraft_25 (by decide) (zno rfl) rfl ?_
  exact zJw h ⟨rfl, rfl, trivial⟩
theorem bX10_keepDraft_26 (P : zX → Prop) (M : zX) (x1 : Int32) (h : ((8 ≤ x1) → (LX10_keepDraft_52 P M 0)) ∧ ((¬ (8 ≤ x1)) → (∃ j2 : Nat, x1 = nI j2 ∧ j2 < 8 ∧ (∃ j3 : Nat, x1 = nI j3 ∧ j3 < 8 ∧ (LX10_keepDraft_26 P (zs M 15 j3 (M 18 j2)) (x1 + 1)))))) : LX10_keepDraft_26 P M x1 := by
  refine j_iload_n dX10_keepDraft_26 rfl ?_
  refine j_bipush (v := 8) dX10_keepDraft_27 rfl ?_
  refine j_ic_ge (tgt := 50) dX10_keepDraft_29 (by decide) (fun hc1 => ?_) (fun hc1 => ?_)
  · have h := h.1 hc1
    refine j_iconst (v := 0) dX10_keepDraft_50 rfl ?_
    refine j_istore_n (L2 := [some (.ref 0), some (.int 0)]) dX10_keepDraft_51 (by decide) (zno rfl) rfl ?_
    exact zJw h ⟨rfl, rfl, trivial⟩
  · have h := h.2 hc1
    refine j_aload_n dX10_keepDraft_32 rfl ?_
    refine j_getr dX10_keepDraft_33 fX10_53 rfl rfl ?_
    refine j_iload_n dX10_keepDraft_36 rfl ?_
    refine j_aload_n dX10_keepDraft_37 rfl ?_
    refine j_getr dX10_keepDraft_38 fX10_62 rfl rfl ?_
    refine j_iload_n dX10_keepDraft_41 rfl ?_
    obtain ⟨j2, ej2, lj2, h⟩ := h
    refine j_iald dX10_keepDraft_42 rfl (zin ej2 lj2 (by decide)) ?_
    rw [zcl ej2 lj2 (by decide)]
    obtain ⟨j3, ej3, lj3, h⟩ := h
    refine j_iast dX10_keepDraft_43 rfl (zin ej3 lj3 (by decide)) ?_
    rw [zcl ej3 lj3 (by decide)]
    refine j_iinc (v := (x1 + 1)) (L2 := [some (.ref 0), some (.int (x1 + 1))]) dX10_keepDraft_44 rfl rfl (by decide) (zno rfl) rfl ?_
    refine j_goto (tgt := 26) dX10_keepDraft_47 (by decide) ?_
    exact zJw h ⟨rfl, rfl, trivial⟩
theorem bX10_keepDraft_52 (P : zX → Prop) (M : zX) (x1 : Int32) (h : ((12 ≤ x1) → (LX10_keepDraft_78 P M 0)) ∧ ((¬ (12 ≤ x1)) → (∃ j5 : Nat, x1 = nI j5 ∧ j5 < 12 ∧ (∃ j6 : Nat, x1 = nI j6 ∧ j6 < 12 ∧ (LX10_keepDraft_52 P (zs M 16 j6 (M 19 j5)) (x1 + 1)))))) : LX10_keepDraft_52 P M x1 := by
  refine j_iload_n dX10_keepDraft_52 rfl ?_
  refine j_bipush (v := 12) dX10_keepDraft_53 rfl ?_
  refine j_ic_ge (tgt := 76) dX10_keepDraft_55 (by decide) (fun hc4 => ?_) (fun hc4 => ?_)
  · have h := h.1 hc4
    refine j_iconst (v := 0) dX10_keepDraft_76 rfl ?_
    refine j_istore_n (L2 := [some (.ref 0), some (.int 0)]) dX10_keepDraft_77 (by decide) (zno rfl) rfl ?_
    exact zJw h ⟨rfl, rfl, trivial⟩
  · have h := h.2 hc4
    refine j_aload_n dX10_keepDraft_58 rfl ?_
    refine j_getr dX10_keepDraft_59 fX10_56 rfl rfl ?_
    refine j_iload_n dX10_keepDraft_62 rfl ?_
    refine j_aload_n dX10_keepDraft_63 rfl ?_
    refine j_getr dX10_keepDraft_64 fX10_65 rfl rfl ?_
    refine j_iload_n dX10_keepDraft_67 rfl ?_
    obtain ⟨j5, ej5, lj5, h⟩ := h
    refine j_iald dX10_keepDraft_68 rfl (zin ej5 lj5 (by decide)) ?_
    rw [zcl ej5 lj5 (by decide)]
    obtain ⟨j6, ej6, lj6, h⟩ := h
    refine j_iast dX10_keepDraft_69 rfl (zin ej6 lj6 (by decide)) ?_
    rw [zcl ej6 lj6 (by decide)]
    refine j_iinc (v := (x1 + 1)) (L2 := [some (.ref 0), some (.int (x1 + 1))]) dX10_keepDraft_70 rfl rfl (by decide) (zno rfl) rfl ?_
    refine j_goto (tgt := 52) dX10_keepDraft_73 (by decide) ?_
    exact zJw h ⟨rfl, rfl, trivial⟩
theorem bX10_keepDraft_78 (P : zX → Prop) (M : zX) (x1 : Int32) (h : ((24 ≤ x1) → (P M)) ∧ ((¬ (24 ≤ x1)) → (∃ j8 : Nat, x1 = nI j8 ∧ j8 < 24 ∧ (∃ j9 : Nat, x1 = nI j9 ∧ j9 < 24 ∧ (LX10_keepDraft_78 P (zs M 17 j9 (M 20 j8)) (x1 + 1)))))) : LX10_keepDraft_78 P M x1 := by
  refine j_iload_n dX10_keepDraft_78 rfl ?_
  refine j_bipush (v := 24) dX10_keepDraft_79 rfl ?_
  refine j_ic_ge (tgt := 102) dX10_keepDraft_81 (by decide) (fun hc7 => ?_) (fun hc7 => ?_)
  · have h := h.1 hc7
    refine j_vret dX10_keepDraft_102 rfl ?_
    exact ⟨rfl, h⟩
  · have h := h.2 hc7
    refine j_aload_n dX10_keepDraft_84 rfl ?_
    refine j_getr dX10_keepDraft_85 fX10_59 rfl rfl ?_
    refine j_iload_n dX10_keepDraft_88 rfl ?_
    refine j_aload_n dX10_keepDraft_89 rfl ?_
    refine j_getr dX10_keepDraft_90 fX10_68 rfl rfl ?_
    refine j_iload_n dX10_keepDraft_93 rfl ?_
    obtain ⟨j8, ej8, lj8, h⟩ := h
    refine j_iald dX10_keepDraft_94 rfl (zin ej8 lj8 (by decide)) ?_
    rw [zcl ej8 lj8 (by decide)]
    obtain ⟨j9, ej9, lj9, h⟩ := h
    refine j_iast dX10_keepDraft_95 rfl (zin ej9 lj9 (by decide)) ?_
    rw [zcl ej9 lj9 (by decide)]
    refine j_iinc (v := (x1 + 1)) (L2 := [some (.ref 0), some (.int (x1 + 1))]) dX10_keepDraft_96 rfl rfl (by decide) (zno rfl) rfl ?_
    refine j_goto (tgt := 78) dX10_keepDraft_99 (by decide) ?_
    exact zJw h ⟨rfl, rfl, trivial⟩
abbrev LX10_feed_19 (P : Int32 → zX → Prop) (M : zX) (x1 : Int64) (x3 : Int32) : Prop := zJ SY 0 mX10_feed (zRi P) 19 [some (.ref 0), some (.long x1), none, some (.int x3)] [] M
theorem eX10_feed (P : Int32 → zX → Prop) (X : zX) (a1 : Int64) (h : ((((X 0 33) + 8) ≤ 200) → (LX10_feed_19 P X a1 56)) ∧ ((¬ (((X 0 33) + 8) ≤ 200)) → (P (-3) X))) : zPi SY 0 mX10_feed [.ref 0, .long a1] X P := by
  refine zP_in [some (.ref 0), some (.long a1), none, none] ⟨rfl, rfl, trivial⟩ (by decide) (Nat.le_of_ble_eq_true rfl) ?_
  refine j_aload_n dX10_feed_0 rfl ?_
  refine j_getf dX10_feed_1 fX10_188 rfl rfl ?_
  refine j_bipush (v := 8) dX10_feed_4 rfl ?_
  refine j_iadd dX10_feed_6 ?_
  refine j_sipush (v := 200) dX10_feed_7 rfl ?_
  refine j_ic_le (tgt := 16) dX10_feed_10 (by decide) (fun hc1 => ?_) (fun hc1 => ?_)
  · have h := h.1 hc1
    refine j_bipush (v := 56) dX10_feed_16 rfl ?_
    refine j_istore_n (L2 := [some (.ref 0), some (.long a1), none, some (.int 56)]) dX10_feed_18 (by decide) (zno rfl) rfl ?_
    exact zJw h ⟨rfl, rfl, rfl, trivial⟩
  · have h := h.2 hc1
    refine j_bipush (v := (-3)) dX10_feed_13 rfl ?_
    refine j_iret dX10_feed_15 rfl rfl ?_
    exact ⟨_, rfl, h⟩
theorem bX10_feed_19 (P : Int32 → zX → Prop) (M : zX) (x1 : Int64) (x3 : Int32) (h : ((x3 < 0) → (P (M 0 33) M)) ∧ ((¬ (x3 < 0)) → (∃ j3 : Nat, (M 0 33) = nI j3 ∧ j3 < 200 ∧ (LX10_feed_19 P (zs (zs M 22 j3 (((x1 >>> (x3.toInt64 &&& 63)) &&& 255).toInt32)) 0 33 ((M 0 33) + 1)) x1 (x3 + (-8)))))) : LX10_feed_19 P M x1 x3 := by
  refine j_iload_n dX10_feed_19 rfl ?_
  refine j_if_lt (tgt := 56) dX10_feed_20 (by decide) (fun hc2 => ?_) (fun hc2 => ?_)
  · have h := h.1 hc2
    refine j_aload_n dX10_feed_56 rfl ?_
    refine j_getf dX10_feed_57 fX10_188 rfl rfl ?_
    refine j_iret dX10_feed_60 rfl rfl ?_
    exact ⟨_, rfl, h⟩
  · have h := h.2 hc2
    refine j_aload_n dX10_feed_23 rfl ?_
    refine j_getr dX10_feed_24 fX10_74 rfl rfl ?_
    refine j_aload_n dX10_feed_27 rfl ?_
    refine j_getf dX10_feed_28 fX10_188 rfl rfl ?_
    refine j_lload_n dX10_feed_31 rfl ?_
    refine j_iload_n dX10_feed_32 rfl ?_
    refine j_lshr dX10_feed_33 ?_
    refine j_ldc2 (v := 255) dX10_feed_34 qX10_191 ?_
    refine j_land dX10_feed_37 ?_
    refine j_l2i dX10_feed_38 ?_
    obtain ⟨j3, ej3, lj3, h⟩ := h
    refine j_iast dX10_feed_39 rfl (zin ej3 lj3 (by decide)) ?_
    rw [zcl ej3 lj3 (by decide)]
    refine j_aload_n dX10_feed_40 rfl ?_
    refine j_dup dX10_feed_41 rfl ?_
    refine j_getv (v := .int (M 0 33)) dX10_feed_42 fX10_188 rfl rfl (fun _ => rfl) ?_
    refine j_iconst (v := 1) dX10_feed_45 rfl ?_
    refine j_iadd dX10_feed_46 ?_
    refine j_putf dX10_feed_47 fX10_188 pX10_33 rfl rfl ?_
    refine j_iinc (v := (x3 + (-8))) (L2 := [some (.ref 0), some (.long x1), none, some (.int (x3 + (-8)))]) dX10_feed_50 rfl rfl (by decide) (zno rfl) rfl ?_
    refine j_goto (tgt := 19) dX10_feed_53 (by decide) ?_
    exact zJw h ⟨rfl, rfl, rfl, trivial⟩
theorem eX10_end (P : Int32 → zX → Prop) (X : zX) (a1 : Int32) (h : ∃ r1 : Int32, zPf SY 0 mX10_in [.long a1.toInt64, .long 0, .long (X 0 33).toInt64] X r1 ∧ (((¬ r1 = 0) → (P (X 0 33) (zs X 0 33 a1))) ∧ ((r1 = 0) → (P (-1) X)))) : zPi SY 1 mX10_end [.ref 0, .int a1] X P := by
  refine zP_in [some (.ref 0), some (.int a1), none] ⟨rfl, rfl, trivial⟩ (by decide) (Nat.le_of_ble_eq_true rfl) ?_
  refine j_iload_n dX10_end_0 rfl ?_
  refine j_i2l dX10_end_1 ?_
  refine j_lconst (v := 0) dX10_end_2 rfl ?_
  refine j_aload_n dX10_end_3 rfl ?_
  refine j_getf dX10_end_4 fX10_188 rfl rfl ?_
  refine j_i2l dX10_end_7 ?_
  obtain ⟨r1, hc, h⟩ := h
  refine j_csf (lc := 0) (as := [.long a1.toInt64, .long 0, .long (X 0 33).toInt64]) dX10_end_8 iX10_in sX10_in kX10_102 (by decide) rfl rfl (Nat.zero_le _) hc ?_
  refine j_if_ne (tgt := 16) dX10_end_11 (by decide) (fun hc2 => ?_) (fun hc2 => ?_)
  · have h := h.1 hc2
    refine j_aload_n dX10_end_16 rfl ?_
    refine j_getf dX10_end_17 fX10_188 rfl rfl ?_
    refine j_istore_n (L2 := [some (.ref 0), some (.int a1), some (.int (X 0 33))]) dX10_end_20 (by decide) (zno rfl) rfl ?_
    refine j_aload_n dX10_end_21 rfl ?_
    refine j_iload_n dX10_end_22 rfl ?_
    refine j_putf dX10_end_23 fX10_188 pX10_33 rfl rfl ?_
    refine j_iload_n dX10_end_26 rfl ?_
    refine j_iret dX10_end_27 rfl rfl ?_
    exact ⟨_, rfl, h⟩
  · have h := h.2 hc2
    refine j_iconst (v := (-1)) dX10_end_14 rfl ?_
    refine j_iret dX10_end_15 rfl rfl ?_
    exact ⟨_, rfl, h⟩
theorem eX10_wants (P : zX → Prop) (X : zX) (a1 : Int32) (a2 : Int32) (h : ((¬ a1 = 0) → (P X)) ∧ ((a1 = 0) → (((¬ (X 0 38) = 0) → (P X)) ∧ (((X 0 38) = 0) → (P (zs (zs X 0 38 a2) 0 39 (X 0 35))))))) : zPw SY 0 mX10_wants [.ref 0, .int a1, .int a2] X P := by
  refine zP_in [some (.ref 0), some (.int a1), some (.int a2)] ⟨rfl, rfl, rfl, trivial⟩ (by decide) (Nat.le_of_ble_eq_true rfl) ?_
  refine j_iload_n dX10_wants_0 rfl ?_
  refine j_if_ne (tgt := 24) dX10_wants_1 (by decide) (fun hc1 => ?_) (fun hc1 => ?_)
  · have h := h.1 hc1
    refine j_vret dX10_wants_24 rfl ?_
    exact ⟨rfl, h⟩
  · have h := h.2 hc1
    refine j_aload_n dX10_wants_4 rfl ?_
    refine j_getf dX10_wants_5 fX10_193 rfl rfl ?_
    refine j_if_ne (tgt := 24) dX10_wants_8 (by decide) (fun hc2 => ?_) (fun hc2 => ?_)
    · have h := h.1 hc2
      refine j_vret dX10_wants_24 rfl ?_
      exact ⟨rfl, h⟩
    · have h := h.2 hc2
      refine j_aload_n dX10_wants_11 rfl ?_
      refine j_iload_n dX10_wants_12 rfl ?_
      refine j_putf dX10_wants_13 fX10_193 pX10_38 rfl rfl ?_
      refine j_aload_n dX10_wants_16 rfl ?_
      refine j_aload_n dX10_wants_17 rfl ?_
      refine j_getv (v := .int (X 0 35)) dX10_wants_18 fX10_196 rfl rfl (fun _ => rfl) ?_
      refine j_putf dX10_wants_21 fX10_199 pX10_39 rfl rfl ?_
      refine j_vret dX10_wants_24 rfl ?_
      exact ⟨rfl, h⟩
theorem eX10_look (v : Int32) (X : zX) (a1 : Int32) (h : (((X 0 33) ≤ a1) → ((-1) = v)) ∧ ((¬ ((X 0 33) ≤ a1)) → (∃ j2 : Nat, a1 = nI j2 ∧ j2 < 200 ∧ ((X 22 j2) = v)))) : zPf SY 0 mX10_look [.ref 0, .int a1] X v := by
  refine zP_in [some (.ref 0), some (.int a1)] ⟨rfl, rfl, trivial⟩ (by decide) (Nat.le_of_ble_eq_true rfl) ?_
  refine j_iload_n dX10_look_0 rfl ?_
  refine j_aload_n dX10_look_1 rfl ?_
  refine j_getf dX10_look_2 fX10_188 rfl rfl ?_
  refine j_ic_ge (tgt := 17) dX10_look_5 (by decide) (fun hc1 => ?_) (fun hc1 => ?_)
  · have h := h.1 hc1
    refine j_iconst (v := (-1)) dX10_look_17 rfl ?_
    refine j_iret dX10_look_18 rfl rfl ?_
    exact ⟨by rw [h], rfl⟩
  · have h := h.2 hc1
    refine j_aload_n dX10_look_8 rfl ?_
    refine j_getr dX10_look_9 fX10_74 rfl rfl ?_
    refine j_iload_n dX10_look_12 rfl ?_
    obtain ⟨j2, ej2, lj2, h⟩ := h
    refine j_iald dX10_look_13 rfl (zin ej2 lj2 (by decide)) ?_
    rw [zcl ej2 lj2 (by decide)]
    refine j_goto (tgt := 18) dX10_look_14 (by decide) ?_
    refine j_iret dX10_look_18 rfl rfl ?_
    exact ⟨by rw [h], rfl⟩
theorem eX10_is (v : Int32) (X : zX) (a1 : Int32) (a2 : Int32) (a3 : Int32) (a4 : Int32) (a5 : Int32) (h : ((¬ ((X 0 34) - (X 0 35)) = a1) → (0 = v)) ∧ ((((X 0 34) - (X 0 35)) = a1) → (∃ r2 : Int32, zPf SY 0 mX10_look [.ref 0, .int (X 0 35)] X r2 ∧ (((¬ r2 = a2) → (0 = v)) ∧ ((r2 = a2) → (∃ r4 : Int32, zPf SY 0 mX10_look [.ref 0, .int ((X 0 35) + 1)] X r4 ∧ (((¬ r4 = a3) → (0 = v)) ∧ ((r4 = a3) → (∃ r6 : Int32, zPf SY 0 mX10_look [.ref 0, .int ((X 0 35) + 2)] X r6 ∧ (((¬ r6 = a4) → (0 = v)) ∧ ((r6 = a4) → (((a1 < 4) → (1 = v)) ∧ ((¬ (a1 < 4)) → (∃ r9 : Int32, zPf SY 0 mX10_look [.ref 0, .int ((X 0 35) + 3)] X r9 ∧ (((¬ r9 = a5) → (0 = v)) ∧ ((r9 = a5) → (1 = v))))))))))))))))) : zPf SY 1 mX10_is [.ref 0, .int a1, .int a2, .int a3, .int a4, .int a5] X v := by
  refine zP_in [some (.ref 0), some (.int a1), some (.int a2), some (.int a3), some (.int a4), some (.int a5)] ⟨rfl, rfl, rfl, rfl, rfl, rfl, trivial⟩ (by decide) (Nat.le_of_ble_eq_true rfl) ?_
  refine j_aload_n dX10_is_0 rfl ?_
  refine j_getf dX10_is_1 fX10_202 rfl rfl ?_
  refine j_aload_n dX10_is_4 rfl ?_
  refine j_getf dX10_is_5 fX10_196 rfl rfl ?_
  refine j_isub dX10_is_8 ?_
  refine j_iload_n dX10_is_9 rfl ?_
  refine j_ic_ne (tgt := 78) dX10_is_10 (by decide) (fun hc1 => ?_) (fun hc1 => ?_)
  · have h := h.1 hc1
    refine j_iconst (v := 0) dX10_is_78 rfl ?_
    refine j_iret dX10_is_79 rfl (by decide) ?_
    exact ⟨by rw [h], rfl⟩
  · have h := h.2 hc1
    refine j_aload_n dX10_is_13 rfl ?_
    refine j_aload_n dX10_is_14 rfl ?_
    refine j_getf dX10_is_15 fX10_196 rfl rfl ?_
    obtain ⟨r2, hc, h⟩ := h
    refine j_cvf (lc := 0) (as := [.int (X 0 35)]) dX10_is_18 iX10_look vX10_look kX10_205 (by decide) rfl rfl rfl rfl (Nat.zero_le _) hc ?_
    refine j_iload_n dX10_is_21 rfl ?_
    refine j_ic_ne (tgt := 78) dX10_is_22 (by decide) (fun hc3 => ?_) (fun hc3 => ?_)
    · have h := h.1 hc3
      refine j_iconst (v := 0) dX10_is_78 rfl ?_
      refine j_iret dX10_is_79 rfl (by decide) ?_
      exact ⟨by rw [h], rfl⟩
    · have h := h.2 hc3
      refine j_aload_n dX10_is_25 rfl ?_
      refine j_aload_n dX10_is_26 rfl ?_
      refine j_getf dX10_is_27 fX10_196 rfl rfl ?_
      refine j_iconst (v := 1) dX10_is_30 rfl ?_
      refine j_iadd dX10_is_31 ?_
      obtain ⟨r4, hc, h⟩ := h
      refine j_cvf (lc := 0) (as := [.int ((X 0 35) + 1)]) dX10_is_32 iX10_look vX10_look kX10_205 (by decide) rfl rfl rfl rfl (Nat.zero_le _) hc ?_
      refine j_iload_n dX10_is_35 rfl ?_
      refine j_ic_ne (tgt := 78) dX10_is_36 (by decide) (fun hc5 => ?_) (fun hc5 => ?_)
      · have h := h.1 hc5
        refine j_iconst (v := 0) dX10_is_78 rfl ?_
        refine j_iret dX10_is_79 rfl (by decide) ?_
        exact ⟨by rw [h], rfl⟩
      · have h := h.2 hc5
        refine j_aload_n dX10_is_39 rfl ?_
        refine j_aload_n dX10_is_40 rfl ?_
        refine j_getf dX10_is_41 fX10_196 rfl rfl ?_
        refine j_iconst (v := 2) dX10_is_44 rfl ?_
        refine j_iadd dX10_is_45 ?_
        obtain ⟨r6, hc, h⟩ := h
        refine j_cvf (lc := 0) (as := [.int ((X 0 35) + 2)]) dX10_is_46 iX10_look vX10_look kX10_205 (by decide) rfl rfl rfl rfl (Nat.zero_le _) hc ?_
        refine j_iload dX10_is_49 rfl ?_
        refine j_ic_ne (tgt := 78) dX10_is_51 (by decide) (fun hc7 => ?_) (fun hc7 => ?_)
        · have h := h.1 hc7
          refine j_iconst (v := 0) dX10_is_78 rfl ?_
          refine j_iret dX10_is_79 rfl (by decide) ?_
          exact ⟨by rw [h], rfl⟩
        · have h := h.2 hc7
          refine j_iload_n dX10_is_54 rfl ?_
          refine j_iconst (v := 4) dX10_is_55 rfl ?_
          refine j_ic_lt (tgt := 74) dX10_is_56 (by decide) (fun hc8 => ?_) (fun hc8 => ?_)
          · have h := h.1 hc8
            refine j_iconst (v := 1) dX10_is_74 rfl ?_
            refine j_goto (tgt := 79) dX10_is_75 (by decide) ?_
            refine j_iret dX10_is_79 rfl (by decide) ?_
            exact ⟨by rw [h], rfl⟩
          · have h := h.2 hc8
            refine j_aload_n dX10_is_59 rfl ?_
            refine j_aload_n dX10_is_60 rfl ?_
            refine j_getf dX10_is_61 fX10_196 rfl rfl ?_
            refine j_iconst (v := 3) dX10_is_64 rfl ?_
            refine j_iadd dX10_is_65 ?_
            obtain ⟨r9, hc, h⟩ := h
            refine j_cvf (lc := 0) (as := [.int ((X 0 35) + 3)]) dX10_is_66 iX10_look vX10_look kX10_205 (by decide) rfl rfl rfl rfl (Nat.zero_le _) hc ?_
            refine j_iload dX10_is_69 rfl ?_
            refine j_ic_ne (tgt := 78) dX10_is_71 (by decide) (fun hc10 => ?_) (fun hc10 => ?_)
            · have h := h.1 hc10
              refine j_iconst (v := 0) dX10_is_78 rfl ?_
              refine j_iret dX10_is_79 rfl (by decide) ?_
              exact ⟨by rw [h], rfl⟩
            · have h := h.2 hc10
              refine j_iconst (v := 1) dX10_is_74 rfl ?_
              refine j_goto (tgt := 79) dX10_is_75 (by decide) ?_
              refine j_iret dX10_is_79 rfl (by decide) ?_
              exact ⟨by rw [h], rfl⟩
theorem eX10_nameNow (v : Int32) (X : zX)  (h : ∃ r1 : Int32, zPf SY 1 mX10_is [.ref 0, .int 4, .int 104, .int 101, .int 97, .int 114] X r1 ∧ (((r1 = 0) → (∃ r3 : Int32, zPf SY 1 mX10_is [.ref 0, .int 4, .int 115, .int 105, .int 110, .int 103] X r3 ∧ (((r3 = 0) → (∃ r5 : Int32, zPf SY 1 mX10_is [.ref 0, .int 4, .int 116, .int 101, .int 108, .int 108] X r5 ∧ (((r5 = 0) → (∃ r7 : Int32, zPf SY 1 mX10_is [.ref 0, .int 5, .int 99, .int 97, .int 114, .int 114] X r7 ∧ (((r7 = 0) → (∃ r9 : Int32, zPf SY 1 mX10_is [.ref 0, .int 3, .int 100, .int 114, .int 121, .int 0] X r9 ∧ (((r9 = 0) → (∃ r11 : Int32, zPf SY 1 mX10_is [.ref 0, .int 4, .int 112, .int 97, .int 105, .int 114] X r11 ∧ (((r11 = 0) → ((-4) = v)) ∧ ((¬ (r11 = 0)) → (5 = v))))) ∧ ((¬ (r9 = 0)) → (4 = v))))) ∧ ((¬ (r7 = 0)) → (∃ r13 : Int32, zPf SY 0 mX10_look [.ref 0, .int ((X 0 35) + 4)] X r13 ∧ (((¬ r13 = 121) → (∃ r15 : Int32, zPf SY 1 mX10_is [.ref 0, .int 3, .int 100, .int 114, .int 121, .int 0] X r15 ∧ (((r15 = 0) → (∃ r17 : Int32, zPf SY 1 mX10_is [.ref 0, .int 4, .int 112, .int 97, .int 105, .int 114] X r17 ∧ (((r17 = 0) → ((-4) = v)) ∧ ((¬ (r17 = 0)) → (5 = v))))) ∧ ((¬ (r15 = 0)) → (4 = v))))) ∧ ((r13 = 121) → (3 = v)))))))) ∧ ((¬ (r5 = 0)) → (2 = v))))) ∧ ((¬ (r3 = 0)) → (1 = v))))) ∧ ((¬ (r1 = 0)) → (0 = v)))) : zPf SY 2 mX10_nameNow [.ref 0] X v := by
  refine zP_in [some (.ref 0)] ⟨rfl, trivial⟩ (by decide) (Nat.le_of_ble_eq_true rfl) ?_
  refine j_aload_n dX10_nameNow_0 rfl ?_
  refine j_iconst (v := 4) dX10_nameNow_1 rfl ?_
  refine j_bipush (v := 104) dX10_nameNow_2 rfl ?_
  refine j_bipush (v := 101) dX10_nameNow_4 rfl ?_
  refine j_bipush (v := 97) dX10_nameNow_6 rfl ?_
  refine j_bipush (v := 114) dX10_nameNow_8 rfl ?_
  obtain ⟨r1, hc, h⟩ := h
  refine j_cvf (lc := 1) (as := [.int 4, .int 104, .int 101, .int 97, .int 114]) dX10_nameNow_10 iX10_is vX10_is kX10_208 (by decide) rfl rfl rfl rfl (Nat.zero_le _) hc ?_
  refine j_if_eq (tgt := 18) dX10_nameNow_13 (by decide) (fun hc2 => ?_) (fun hc2 => ?_)
  · have h := h.1 hc2
    refine j_aload_n dX10_nameNow_18 rfl ?_
    refine j_iconst (v := 4) dX10_nameNow_19 rfl ?_
    refine j_bipush (v := 115) dX10_nameNow_20 rfl ?_
    refine j_bipush (v := 105) dX10_nameNow_22 rfl ?_
    refine j_bipush (v := 110) dX10_nameNow_24 rfl ?_
    refine j_bipush (v := 103) dX10_nameNow_26 rfl ?_
    obtain ⟨r3, hc, h⟩ := h
    refine j_cvf (lc := 1) (as := [.int 4, .int 115, .int 105, .int 110, .int 103]) dX10_nameNow_28 iX10_is vX10_is kX10_208 (by decide) rfl rfl rfl rfl (Nat.zero_le _) hc ?_
    refine j_if_eq (tgt := 36) dX10_nameNow_31 (by decide) (fun hc4 => ?_) (fun hc4 => ?_)
    · have h := h.1 hc4
      refine j_aload_n dX10_nameNow_36 rfl ?_
      refine j_iconst (v := 4) dX10_nameNow_37 rfl ?_
      refine j_bipush (v := 116) dX10_nameNow_38 rfl ?_
      refine j_bipush (v := 101) dX10_nameNow_40 rfl ?_
      refine j_bipush (v := 108) dX10_nameNow_42 rfl ?_
      refine j_bipush (v := 108) dX10_nameNow_44 rfl ?_
      obtain ⟨r5, hc, h⟩ := h
      refine j_cvf (lc := 1) (as := [.int 4, .int 116, .int 101, .int 108, .int 108]) dX10_nameNow_46 iX10_is vX10_is kX10_208 (by decide) rfl rfl rfl rfl (Nat.zero_le _) hc ?_
      refine j_if_eq (tgt := 54) dX10_nameNow_49 (by decide) (fun hc6 => ?_) (fun hc6 => ?_)
      · have h := h.1 hc6
        refine j_aload_n dX10_nameNow_54 rfl ?_
        refine j_iconst (v := 5) dX10_nameNow_55 rfl ?_
        refine j_bipush (v := 99) dX10_nameNow_56 rfl ?_
        refine j_bipush (v := 97) dX10_nameNow_58 rfl ?_
        refine j_bipush (v := 114) dX10_nameNow_60 rfl ?_
        refine j_bipush (v := 114) dX10_nameNow_62 rfl ?_
        obtain ⟨r7, hc, h⟩ := h
        refine j_cvf (lc := 1) (as := [.int 5, .int 99, .int 97, .int 114, .int 114]) dX10_nameNow_64 iX10_is vX10_is kX10_208 (by decide) rfl rfl rfl rfl (Nat.zero_le _) hc ?_
        refine j_if_eq (tgt := 87) dX10_nameNow_67 (by decide) (fun hc8 => ?_) (fun hc8 => ?_)
        · have h := h.1 hc8
          refine j_aload_n dX10_nameNow_87 rfl ?_
          refine j_iconst (v := 3) dX10_nameNow_88 rfl ?_
          refine j_bipush (v := 100) dX10_nameNow_89 rfl ?_
          refine j_bipush (v := 114) dX10_nameNow_91 rfl ?_
          refine j_bipush (v := 121) dX10_nameNow_93 rfl ?_
          refine j_iconst (v := 0) dX10_nameNow_95 rfl ?_
          obtain ⟨r9, hc, h⟩ := h
          refine j_cvf (lc := 1) (as := [.int 3, .int 100, .int 114, .int 121, .int 0]) dX10_nameNow_96 iX10_is vX10_is kX10_208 (by decide) rfl rfl rfl rfl (Nat.zero_le _) hc ?_
          refine j_if_eq (tgt := 106) dX10_nameNow_99 (by decide) (fun hc10 => ?_) (fun hc10 => ?_)
          · have h := h.1 hc10
            refine j_aload_n dX10_nameNow_106 rfl ?_
            refine j_iconst (v := 4) dX10_nameNow_107 rfl ?_
            refine j_bipush (v := 112) dX10_nameNow_108 rfl ?_
            refine j_bipush (v := 97) dX10_nameNow_110 rfl ?_
            refine j_bipush (v := 105) dX10_nameNow_112 rfl ?_
            refine j_bipush (v := 114) dX10_nameNow_114 rfl ?_
            obtain ⟨r11, hc, h⟩ := h
            refine j_cvf (lc := 1) (as := [.int 4, .int 112, .int 97, .int 105, .int 114]) dX10_nameNow_116 iX10_is vX10_is kX10_208 (by decide) rfl rfl rfl rfl (Nat.zero_le _) hc ?_
            refine j_if_eq (tgt := 126) dX10_nameNow_119 (by decide) (fun hc12 => ?_) (fun hc12 => ?_)
            · have h := h.1 hc12
              refine j_bipush (v := (-4)) dX10_nameNow_126 rfl ?_
              refine j_iret dX10_nameNow_128 rfl rfl ?_
              exact ⟨by rw [h], rfl⟩
            · have h := h.2 hc12
              refine j_iconst (v := 5) dX10_nameNow_122 rfl ?_
              refine j_goto (tgt := 128) dX10_nameNow_123 (by decide) ?_
              refine j_iret dX10_nameNow_128 rfl rfl ?_
              exact ⟨by rw [h], rfl⟩
          · have h := h.2 hc10
            refine j_iconst (v := 4) dX10_nameNow_102 rfl ?_
            refine j_goto (tgt := 128) dX10_nameNow_103 (by decide) ?_
            refine j_iret dX10_nameNow_128 rfl rfl ?_
            exact ⟨by rw [h], rfl⟩
        · have h := h.2 hc8
          refine j_aload_n dX10_nameNow_70 rfl ?_
          refine j_aload_n dX10_nameNow_71 rfl ?_
          refine j_getf dX10_nameNow_72 fX10_196 rfl rfl ?_
          refine j_iconst (v := 4) dX10_nameNow_75 rfl ?_
          refine j_iadd dX10_nameNow_76 ?_
          obtain ⟨r13, hc, h⟩ := h
          refine j_cvf (lc := 0) (as := [.int ((X 0 35) + 4)]) dX10_nameNow_77 iX10_look vX10_look kX10_205 (by decide) rfl rfl rfl rfl (Nat.zero_le _) hc ?_
          refine j_bipush (v := 121) dX10_nameNow_80 rfl ?_
          refine j_ic_ne (tgt := 87) dX10_nameNow_82 (by decide) (fun hc14 => ?_) (fun hc14 => ?_)
          · have h := h.1 hc14
            refine j_aload_n dX10_nameNow_87 rfl ?_
            refine j_iconst (v := 3) dX10_nameNow_88 rfl ?_
            refine j_bipush (v := 100) dX10_nameNow_89 rfl ?_
            refine j_bipush (v := 114) dX10_nameNow_91 rfl ?_
            refine j_bipush (v := 121) dX10_nameNow_93 rfl ?_
            refine j_iconst (v := 0) dX10_nameNow_95 rfl ?_
            obtain ⟨r15, hc, h⟩ := h
            refine j_cvf (lc := 1) (as := [.int 3, .int 100, .int 114, .int 121, .int 0]) dX10_nameNow_96 iX10_is vX10_is kX10_208 (by decide) rfl rfl rfl rfl (Nat.zero_le _) hc ?_
            refine j_if_eq (tgt := 106) dX10_nameNow_99 (by decide) (fun hc16 => ?_) (fun hc16 => ?_)
            · have h := h.1 hc16
              refine j_aload_n dX10_nameNow_106 rfl ?_
              refine j_iconst (v := 4) dX10_nameNow_107 rfl ?_
              refine j_bipush (v := 112) dX10_nameNow_108 rfl ?_
              refine j_bipush (v := 97) dX10_nameNow_110 rfl ?_
              refine j_bipush (v := 105) dX10_nameNow_112 rfl ?_
              refine j_bipush (v := 114) dX10_nameNow_114 rfl ?_
              obtain ⟨r17, hc, h⟩ := h
              refine j_cvf (lc := 1) (as := [.int 4, .int 112, .int 97, .int 105, .int 114]) dX10_nameNow_116 iX10_is vX10_is kX10_208 (by decide) rfl rfl rfl rfl (Nat.zero_le _) hc ?_
              refine j_if_eq (tgt := 126) dX10_nameNow_119 (by decide) (fun hc18 => ?_) (fun hc18 => ?_)
              · have h := h.1 hc18
                refine j_bipush (v := (-4)) dX10_nameNow_126 rfl ?_
                refine j_iret dX10_nameNow_128 rfl rfl ?_
                exact ⟨by rw [h], rfl⟩
              · have h := h.2 hc18
                refine j_iconst (v := 5) dX10_nameNow_122 rfl ?_
                refine j_goto (tgt := 128) dX10_nameNow_123 (by decide) ?_
                refine j_iret dX10_nameNow_128 rfl rfl ?_
                exact ⟨by rw [h], rfl⟩
            · have h := h.2 hc16
              refine j_iconst (v := 4) dX10_nameNow_102 rfl ?_
              refine j_goto (tgt := 128) dX10_nameNow_103 (by decide) ?_
              refine j_iret dX10_nameNow_128 rfl rfl ?_
              exact ⟨by rw [h], rfl⟩
          · have h := h.2 hc14
            refine j_iconst (v := 3) dX10_nameNow_85 rfl ?_
            refine j_iret dX10_nameNow_86 rfl rfl ?_
            exact ⟨by rw [h], rfl⟩
      · have h := h.2 hc6
        refine j_iconst (v := 2) dX10_nameNow_52 rfl ?_
        refine j_iret dX10_nameNow_53 rfl rfl ?_
        exact ⟨by rw [h], rfl⟩
    · have h := h.2 hc4
      refine j_iconst (v := 1) dX10_nameNow_34 rfl ?_
      refine j_iret dX10_nameNow_35 rfl rfl ?_
      exact ⟨by rw [h], rfl⟩
  · have h := h.2 hc2
    refine j_iconst (v := 0) dX10_nameNow_16 rfl ?_
    refine j_iret dX10_nameNow_17 rfl rfl ?_
    exact ⟨by rw [h], rfl⟩
abbrev LX10_next_8 (P : zX → Prop) (M : zX)  : Prop := zJ SY 3 mX10_next (zRw P) 8 [some (.ref 0), none] [] M
abbrev LX10_next_170 (P : zX → Prop) (M : zX)  : Prop := zJ SY 3 mX10_next (zRw P) 170 [some (.ref 0), none] [] M
abbrev LX10_next_82 (P : zX → Prop) (M : zX)  : Prop := zJ SY 3 mX10_next (zRw P) 82 [some (.ref 0), none] [] M
theorem eX10_next (P : zX → Prop) (X : zX)  (h : (((X 0 38) ≤ 0) → (LX10_next_8 P X)) ∧ ((¬ ((X 0 38) ≤ 0)) → (P X))) : zPw SY 3 mX10_next [.ref 0] X P := by
  refine zP_in [some (.ref 0), none] ⟨rfl, trivial⟩ (by decide) (Nat.le_of_ble_eq_true rfl) ?_
  refine j_aload_n dX10_next_0 rfl ?_
  refine j_getf dX10_next_1 fX10_193 rfl rfl ?_
  refine j_if_le (tgt := 8) dX10_next_4 (by decide) (fun hc1 => ?_) (fun hc1 => ?_)
  · have h := h.1 hc1
    exact zJw h ⟨rfl, trivial⟩
  · have h := h.2 hc1
    refine j_vret dX10_next_7 rfl ?_
    exact ⟨rfl, h⟩
theorem bX10_next_8 (P : zX → Prop) (M : zX)  (h : ∃ r2 : Int32, zPf SY 0 mX10_look [.ref 0, .int (M 0 34)] M r2 ∧ (((¬ r2 = 32) → (∃ r4 : Int32, zPf SY 0 mX10_look [.ref 0, .int (M 0 34)] (zs M 0 35 (M 0 34)) r4 ∧ (((0 ≤ r4) → (∃ r6 : Int32, zPf SY 0 mX10_in [.long r4.toInt64, .long 97, .long 122] (zs M 0 35 (M 0 34)) r6 ∧ (((r6 = 0) → (∃ r8 : Int32, zPf SY 0 mX10_in [.long r4.toInt64, .long 48, .long 57] (zs M 0 35 (M 0 34)) r8 ∧ (((r8 = 0) → (((¬ r4 = 59) → (∃ Qr11 : zX → Prop, zPw SY 0 mX10_wants [.ref 0, .int 0, .int 1] (zs (zs M 0 35 (M 0 34)) 0 36 3) Qr11 ∧ ∀ M12 : zX, Qr11 M12 → (P (zs M12 0 34 ((M12 0 34) + 1))))) ∧ ((r4 = 59) → (∃ Qr13 : zX → Prop, zPw SY 0 mX10_wants [.ref 0, .int 1, .int 1] (zs (zs M 0 35 (M 0 34)) 0 36 3) Qr13 ∧ ∀ M14 : zX, Qr13 M14 → (P (zs M14 0 34 ((M14 0 34) + 1))))))) ∧ ((¬ (r8 = 0)) → (LX10_next_170 P (zs (zs (zs M 0 35 (M 0 34)) 0 36 2) 0 37 0)))))) ∧ ((¬ (r6 = 0)) → (LX10_next_82 P (zs (zs M 0 35 (M 0 34)) 0 36 1)))))) ∧ ((¬ (0 ≤ r4)) → (P (zs (zs M 0 35 (M 0 34)) 0 36 0)))))) ∧ ((r2 = 32) → (LX10_next_8 P (zs M 0 34 ((M 0 34) + 1)))))) : LX10_next_8 P M  := by
  refine j_aload_n dX10_next_8 rfl ?_
  refine j_aload_n dX10_next_9 rfl ?_
  refine j_getf dX10_next_10 fX10_202 rfl rfl ?_
  obtain ⟨r2, hc, h⟩ := h
  refine j_cvf (lc := 0) (as := [.int (M 0 34)]) dX10_next_13 iX10_look vX10_look kX10_205 (by decide) rfl rfl rfl rfl (Nat.zero_le _) hc ?_
  refine j_bipush (v := 32) dX10_next_16 rfl ?_
  refine j_ic_ne (tgt := 34) dX10_next_18 (by decide) (fun hc3 => ?_) (fun hc3 => ?_)
  · have h := h.1 hc3
    refine j_aload_n dX10_next_34 rfl ?_
    refine j_aload_n dX10_next_35 rfl ?_
    refine j_getf dX10_next_36 fX10_202 rfl rfl ?_
    refine j_putf dX10_next_39 fX10_196 pX10_35 rfl rfl ?_
    refine j_aload_n dX10_next_42 rfl ?_
    refine j_aload_n dX10_next_43 rfl ?_
    refine j_getv (v := .int (M 0 34)) dX10_next_44 fX10_202 rfl rfl (fun _ => rfl) ?_
    obtain ⟨r4, hc, h⟩ := h
    refine j_cvf (lc := 0) (as := [.int (M 0 34)]) dX10_next_47 iX10_look vX10_look kX10_205 (by decide) rfl rfl rfl rfl (Nat.zero_le _) hc ?_
    refine j_istore_n (L2 := [some (.ref 0), some (.int r4)]) dX10_next_50 (by decide) (zno rfl) rfl ?_
    refine j_iload_n dX10_next_51 rfl ?_
    refine j_if_ge (tgt := 63) dX10_next_52 (by decide) (fun hc5 => ?_) (fun hc5 => ?_)
    · have h := h.1 hc5
      refine j_iload_n dX10_next_63 rfl ?_
      refine j_i2l dX10_next_64 ?_
      refine j_ldc2 (v := 97) dX10_next_65 qX10_215 ?_
      refine j_ldc2 (v := 122) dX10_next_68 qX10_217 ?_
      obtain ⟨r6, hc, h⟩ := h
      refine j_csf (lc := 0) (as := [.long r4.toInt64, .long 97, .long 122]) dX10_next_71 iX10_in sX10_in kX10_102 (by decide) rfl rfl (Nat.zero_le _) hc ?_
      refine j_if_eq (tgt := 146) dX10_next_74 (by decide) (fun hc7 => ?_) (fun hc7 => ?_)
      · have h := h.1 hc7
        refine j_iload_n dX10_next_146 rfl ?_
        refine j_i2l dX10_next_147 ?_
        refine j_ldc2 (v := 48) dX10_next_148 qX10_230 ?_
        refine j_ldc2 (v := 57) dX10_next_151 qX10_232 ?_
        obtain ⟨r8, hc, h⟩ := h
        refine j_csf (lc := 0) (as := [.long r4.toInt64, .long 48, .long 57]) dX10_next_154 iX10_in sX10_in kX10_102 (by decide) rfl rfl (Nat.zero_le _) hc ?_
        refine j_if_eq (tgt := 273) dX10_next_157 (by decide) (fun hc9 => ?_) (fun hc9 => ?_)
        · have h := h.1 hc9
          refine j_aload_n dX10_next_273 rfl ?_
          refine j_iconst (v := 3) dX10_next_274 rfl ?_
          refine j_putf dX10_next_275 fX10_212 pX10_36 rfl rfl ?_
          refine j_aload_n dX10_next_278 rfl ?_
          refine j_iload_n dX10_next_279 rfl ?_
          refine j_bipush (v := 59) dX10_next_280 rfl ?_
          refine j_ic_ne (tgt := 289) dX10_next_282 (by decide) (fun hc10 => ?_) (fun hc10 => ?_)
          · have h := h.1 hc10
            refine j_iconst (v := 0) dX10_next_289 rfl ?_
            refine j_iconst (v := 1) dX10_next_290 rfl ?_
            obtain ⟨_, hc, h⟩ := h
            refine j_cvw (lc := 0) (as := [.int 0, .int 1]) dX10_next_291 iX10_wants vX10_wants kX10_226 (by decide) rfl rfl rfl rfl (Nat.zero_le _) hc (fun M12 hr => ?_)
            have h := h _ hr
            refine j_aload_n dX10_next_294 rfl ?_
            refine j_dup dX10_next_295 rfl ?_
            refine j_getf dX10_next_296 fX10_202 rfl rfl ?_
            refine j_iconst (v := 1) dX10_next_299 rfl ?_
            refine j_iadd dX10_next_300 ?_
            refine j_putf dX10_next_301 fX10_202 pX10_34 rfl rfl ?_
            refine j_vret dX10_next_304 rfl ?_
            exact ⟨rfl, h⟩
          · have h := h.2 hc10
            refine j_iconst (v := 1) dX10_next_285 rfl ?_
            refine j_goto (tgt := 290) dX10_next_286 (by decide) ?_
            refine j_iconst (v := 1) dX10_next_290 rfl ?_
            obtain ⟨_, hc, h⟩ := h
            refine j_cvw (lc := 0) (as := [.int 1, .int 1]) dX10_next_291 iX10_wants vX10_wants kX10_226 (by decide) rfl rfl rfl rfl (Nat.zero_le _) hc (fun M14 hr => ?_)
            have h := h _ hr
            refine j_aload_n dX10_next_294 rfl ?_
            refine j_dup dX10_next_295 rfl ?_
            refine j_getf dX10_next_296 fX10_202 rfl rfl ?_
            refine j_iconst (v := 1) dX10_next_299 rfl ?_
            refine j_iadd dX10_next_300 ?_
            refine j_putf dX10_next_301 fX10_202 pX10_34 rfl rfl ?_
            refine j_vret dX10_next_304 rfl ?_
            exact ⟨rfl, h⟩
        · have h := h.2 hc9
          refine j_aload_n dX10_next_160 rfl ?_
          refine j_iconst (v := 2) dX10_next_161 rfl ?_
          refine j_putf dX10_next_162 fX10_212 pX10_36 rfl rfl ?_
          refine j_aload_n dX10_next_165 rfl ?_
          refine j_iconst (v := 0) dX10_next_166 rfl ?_
          refine j_putf dX10_next_167 fX10_223 pX10_37 rfl rfl ?_
          exact zJw h ⟨rfl, trivial⟩
      · have h := h.2 hc7
        refine j_aload_n dX10_next_77 rfl ?_
        refine j_iconst (v := 1) dX10_next_78 rfl ?_
        refine j_putf dX10_next_79 fX10_212 pX10_36 rfl rfl ?_
        exact zJw h ⟨rfl, trivial⟩
    · have h := h.2 hc5
      refine j_aload_n dX10_next_55 rfl ?_
      refine j_iconst (v := 0) dX10_next_56 rfl ?_
      refine j_putf dX10_next_57 fX10_212 pX10_36 rfl rfl ?_
      refine j_goto (tgt := 304) dX10_next_60 (by decide) ?_
      refine j_vret dX10_next_304 rfl ?_
      exact ⟨rfl, h⟩
  · have h := h.2 hc3
    refine j_aload_n dX10_next_21 rfl ?_
    refine j_dup dX10_next_22 rfl ?_
    refine j_getf dX10_next_23 fX10_202 rfl rfl ?_
    refine j_iconst (v := 1) dX10_next_26 rfl ?_
    refine j_iadd dX10_next_27 ?_
    refine j_putf dX10_next_28 fX10_202 pX10_34 rfl rfl ?_
    refine j_goto (tgt := 8) dX10_next_31 (by decide) ?_
    exact zJw h ⟨rfl, trivial⟩
theorem bX10_next_170 (P : zX → Prop) (M : zX)  (h : ∃ r15 : Int32, zPf SY 0 mX10_look [.ref 0, .int (M 0 34)] M r15 ∧ (∃ r16 : Int32, zPf SY 0 mX10_in [.long r15.toInt64, .long 48, .long 57] M r16 ∧ (((r16 = 0) → (((2 < ((M 0 34) - (M 0 35))) → (∃ Qr19 : zX → Prop, zPw SY 0 mX10_wants [.ref 0, .int 0, .int 1] M Qr19 ∧ ∀ M20 : zX, Qr19 M20 → (P M20))) ∧ ((¬ (2 < ((M 0 34) - (M 0 35)))) → (∃ Qr21 : zX → Prop, zPw SY 0 mX10_wants [.ref 0, .int 1, .int 1] M Qr21 ∧ ∀ M22 : zX, Qr21 M22 → (P M22))))) ∧ ((¬ (r16 = 0)) → (((2 ≤ ((M 0 34) - (M 0 35))) → (LX10_next_170 P (zs (zs M 0 37 (M 0 37)) 0 34 ((M 0 34) + 1)))) ∧ ((¬ (2 ≤ ((M 0 34) - (M 0 35)))) → (∃ r24 : Int32, zPf SY 0 mX10_look [.ref 0, .int (M 0 34)] M r24 ∧ (LX10_next_170 P (zs (zs M 0 37 (((10 * (M 0 37)) + r24) - 48)) 0 34 ((M 0 34) + 1)))))))))) : LX10_next_170 P M  := by
  refine j_aload_n dX10_next_170 rfl ?_
  refine j_aload_n dX10_next_171 rfl ?_
  refine j_getf dX10_next_172 fX10_202 rfl rfl ?_
  obtain ⟨r15, hc, h⟩ := h
  refine j_cvf (lc := 0) (as := [.int (M 0 34)]) dX10_next_175 iX10_look vX10_look kX10_205 (by decide) rfl rfl rfl rfl (Nat.zero_le _) hc ?_
  refine j_i2l dX10_next_178 ?_
  refine j_ldc2 (v := 48) dX10_next_179 qX10_230 ?_
  refine j_ldc2 (v := 57) dX10_next_182 qX10_232 ?_
  obtain ⟨r16, hc, h⟩ := h
  refine j_csf (lc := 0) (as := [.long r15.toInt64, .long 48, .long 57]) dX10_next_185 iX10_in sX10_in kX10_102 (by decide) rfl rfl (Nat.zero_le _) hc ?_
  refine j_if_eq (tgt := 247) dX10_next_188 (by decide) (fun hc17 => ?_) (fun hc17 => ?_)
  · have h := h.1 hc17
    refine j_aload_n dX10_next_247 rfl ?_
    refine j_aload_n dX10_next_248 rfl ?_
    refine j_getf dX10_next_249 fX10_202 rfl rfl ?_
    refine j_aload_n dX10_next_252 rfl ?_
    refine j_getf dX10_next_253 fX10_196 rfl rfl ?_
    refine j_isub dX10_next_256 ?_
    refine j_iconst (v := 2) dX10_next_257 rfl ?_
    refine j_ic_gt (tgt := 265) dX10_next_258 (by decide) (fun hc18 => ?_) (fun hc18 => ?_)
    · have h := h.1 hc18
      refine j_iconst (v := 0) dX10_next_265 rfl ?_
      refine j_iconst (v := 1) dX10_next_266 rfl ?_
      obtain ⟨_, hc, h⟩ := h
      refine j_cvw (lc := 0) (as := [.int 0, .int 1]) dX10_next_267 iX10_wants vX10_wants kX10_226 (by decide) rfl rfl rfl rfl (Nat.zero_le _) hc (fun M20 hr => ?_)
      have h := h _ hr
      refine j_goto (tgt := 304) dX10_next_270 (by decide) ?_
      refine j_vret dX10_next_304 rfl ?_
      exact ⟨rfl, h⟩
    · have h := h.2 hc18
      refine j_iconst (v := 1) dX10_next_261 rfl ?_
      refine j_goto (tgt := 266) dX10_next_262 (by decide) ?_
      refine j_iconst (v := 1) dX10_next_266 rfl ?_
      obtain ⟨_, hc, h⟩ := h
      refine j_cvw (lc := 0) (as := [.int 1, .int 1]) dX10_next_267 iX10_wants vX10_wants kX10_226 (by decide) rfl rfl rfl rfl (Nat.zero_le _) hc (fun M22 hr => ?_)
      have h := h _ hr
      refine j_goto (tgt := 304) dX10_next_270 (by decide) ?_
      refine j_vret dX10_next_304 rfl ?_
      exact ⟨rfl, h⟩
  · have h := h.2 hc17
    refine j_aload_n dX10_next_191 rfl ?_
    refine j_aload_n dX10_next_192 rfl ?_
    refine j_getf dX10_next_193 fX10_202 rfl rfl ?_
    refine j_aload_n dX10_next_196 rfl ?_
    refine j_getf dX10_next_197 fX10_196 rfl rfl ?_
    refine j_isub dX10_next_200 ?_
    refine j_iconst (v := 2) dX10_next_201 rfl ?_
    refine j_ic_ge (tgt := 227) dX10_next_202 (by decide) (fun hc23 => ?_) (fun hc23 => ?_)
    · have h := h.1 hc23
      refine j_aload_n dX10_next_227 rfl ?_
      refine j_getf dX10_next_228 fX10_223 rfl rfl ?_
      refine j_putf dX10_next_231 fX10_223 pX10_37 rfl rfl ?_
      refine j_aload_n dX10_next_234 rfl ?_
      refine j_dup dX10_next_235 rfl ?_
      refine j_getv (v := .int (M 0 34)) dX10_next_236 fX10_202 rfl rfl (fun _ => rfl) ?_
      refine j_iconst (v := 1) dX10_next_239 rfl ?_
      refine j_iadd dX10_next_240 ?_
      refine j_putf dX10_next_241 fX10_202 pX10_34 rfl rfl ?_
      refine j_goto (tgt := 170) dX10_next_244 (by decide) ?_
      exact zJw h ⟨rfl, trivial⟩
    · have h := h.2 hc23
      refine j_bipush (v := 10) dX10_next_205 rfl ?_
      refine j_aload_n dX10_next_207 rfl ?_
      refine j_getf dX10_next_208 fX10_223 rfl rfl ?_
      refine j_imul dX10_next_211 ?_
      refine j_aload_n dX10_next_212 rfl ?_
      refine j_aload_n dX10_next_213 rfl ?_
      refine j_getf dX10_next_214 fX10_202 rfl rfl ?_
      obtain ⟨r24, hc, h⟩ := h
      refine j_cvf (lc := 0) (as := [.int (M 0 34)]) dX10_next_217 iX10_look vX10_look kX10_205 (by decide) rfl rfl rfl rfl (by simp [Value.category]) hc ?_
      refine j_iadd dX10_next_220 ?_
      refine j_bipush (v := 48) dX10_next_221 rfl ?_
      refine j_isub dX10_next_223 ?_
      refine j_goto (tgt := 231) dX10_next_224 (by decide) ?_
      refine j_putf dX10_next_231 fX10_223 pX10_37 rfl rfl ?_
      refine j_aload_n dX10_next_234 rfl ?_
      refine j_dup dX10_next_235 rfl ?_
      refine j_getv (v := .int (M 0 34)) dX10_next_236 fX10_202 rfl rfl (fun _ => rfl) ?_
      refine j_iconst (v := 1) dX10_next_239 rfl ?_
      refine j_iadd dX10_next_240 ?_
      refine j_putf dX10_next_241 fX10_202 pX10_34 rfl rfl ?_
      refine j_goto (tgt := 170) dX10_next_244 (by decide) ?_
      exact zJw h ⟨rfl, trivial⟩
theorem bX10_next_82 (P : zX → Prop) (M : zX)  (h : ∃ r25 : Int32, zPf SY 0 mX10_look [.ref 0, .int (M 0 34)] M r25 ∧ (∃ r26 : Int32, zPf SY 0 mX10_in [.long r25.toInt64, .long 97, .long 122] M r26 ∧ (((r26 = 0) → (∃ r28 : Int32, zPf SY 2 mX10_nameNow [.ref 0] M r28 ∧ (((r28 = (-4)) → (∃ Qr30 : zX → Prop, zPw SY 0 mX10_wants [.ref 0, .int 0, .int 1] (zs M 0 37 r28) Qr30 ∧ ∀ M31 : zX, Qr30 M31 → (P M31))) ∧ ((¬ (r28 = (-4))) → (∃ Qr32 : zX → Prop, zPw SY 0 mX10_wants [.ref 0, .int 1, .int 1] (zs M 0 37 r28) Qr32 ∧ ∀ M33 : zX, Qr32 M33 → (P M33)))))) ∧ ((¬ (r26 = 0)) → (LX10_next_82 P (zs M 0 34 ((M 0 34) + 1))))))) : LX10_next_82 P M  := by
  refine j_aload_n dX10_next_82 rfl ?_
  refine j_aload_n dX10_next_83 rfl ?_
  refine j_getf dX10_next_84 fX10_202 rfl rfl ?_
  obtain ⟨r25, hc, h⟩ := h
  refine j_cvf (lc := 0) (as := [.int (M 0 34)]) dX10_next_87 iX10_look vX10_look kX10_205 (by decide) rfl rfl rfl rfl (Nat.zero_le _) hc ?_
  refine j_i2l dX10_next_90 ?_
  refine j_ldc2 (v := 97) dX10_next_91 qX10_215 ?_
  refine j_ldc2 (v := 122) dX10_next_94 qX10_217 ?_
  obtain ⟨r26, hc, h⟩ := h
  refine j_csf (lc := 0) (as := [.long r25.toInt64, .long 97, .long 122]) dX10_next_97 iX10_in sX10_in kX10_102 (by decide) rfl rfl (Nat.zero_le _) hc ?_
  refine j_if_eq (tgt := 116) dX10_next_100 (by decide) (fun hc27 => ?_) (fun hc27 => ?_)
  · have h := h.1 hc27
    refine j_aload_n dX10_next_116 rfl ?_
    refine j_aload_n dX10_next_117 rfl ?_
    obtain ⟨r28, hc, h⟩ := h
    refine j_cvf (lc := 2) (as := []) dX10_next_118 iX10_nameNow vX10_nameNow kX10_219 (by decide) rfl rfl rfl rfl (by simp [Value.category]) hc ?_
    refine j_putf dX10_next_121 fX10_223 pX10_37 rfl rfl ?_
    refine j_aload_n dX10_next_124 rfl ?_
    refine j_aload_n dX10_next_125 rfl ?_
    refine j_getv (v := .int r28) dX10_next_126 fX10_223 rfl rfl (fun _ => rfl) ?_
    refine j_bipush (v := (-4)) dX10_next_129 rfl ?_
    refine j_ic_eq (tgt := 138) dX10_next_131 (by decide) (fun hc29 => ?_) (fun hc29 => ?_)
    · have h := h.1 hc29
      refine j_iconst (v := 0) dX10_next_138 rfl ?_
      refine j_iconst (v := 1) dX10_next_139 rfl ?_
      obtain ⟨_, hc, h⟩ := h
      refine j_cvw (lc := 0) (as := [.int 0, .int 1]) dX10_next_140 iX10_wants vX10_wants kX10_226 (by decide) rfl rfl rfl rfl (Nat.zero_le _) hc (fun M31 hr => ?_)
      have h := h _ hr
      refine j_goto (tgt := 304) dX10_next_143 (by decide) ?_
      refine j_vret dX10_next_304 rfl ?_
      exact ⟨rfl, h⟩
    · have h := h.2 hc29
      refine j_iconst (v := 1) dX10_next_134 rfl ?_
      refine j_goto (tgt := 139) dX10_next_135 (by decide) ?_
      refine j_iconst (v := 1) dX10_next_139 rfl ?_
      obtain ⟨_, hc, h⟩ := h
      refine j_cvw (lc := 0) (as := [.int 1, .int 1]) dX10_next_140 iX10_wants vX10_wants kX10_226 (by decide) rfl rfl rfl rfl (Nat.zero_le _) hc (fun M33 hr => ?_)
      have h := h _ hr
      refine j_goto (tgt := 304) dX10_next_143 (by decide) ?_
      refine j_vret dX10_next_304 rfl ?_
      exact ⟨rfl, h⟩
  · have h := h.2 hc27
    refine j_aload_n dX10_next_103 rfl ?_
    refine j_dup dX10_next_104 rfl ?_
    refine j_getf dX10_next_105 fX10_202 rfl rfl ?_
    refine j_iconst (v := 1) dX10_next_108 rfl ?_
    refine j_iadd dX10_next_109 ?_
    refine j_putf dX10_next_110 fX10_202 pX10_34 rfl rfl ?_
    refine j_goto (tgt := 82) dX10_next_113 (by decide) ?_
    exact zJw h ⟨rfl, trivial⟩
theorem eX10_isNumber (P : zX → Prop) (X : zX) (a1 : Int32) (a2 : Int32) (h : ((¬ (X 0 38) = 0) → (P X)) ∧ (((X 0 38) = 0) → (((¬ (X 0 36) = 2) → (∃ Qr3 : zX → Prop, zPw SY 0 mX10_wants [.ref 0, .int 0, .int 2] X Qr3 ∧ ∀ M4 : zX, Qr3 M4 → (((¬ (M4 0 38) = 0) → (P M4)) ∧ (((M4 0 38) = 0) → (∃ r6 : Int32, zPf SY 0 mX10_in [.long (M4 0 37).toInt64, .long a1.toInt64, .long a2.toInt64] M4 r6 ∧ (∃ Qr7 : zX → Prop, zPw SY 0 mX10_wants [.ref 0, .int r6, .int 3] M4 Qr7 ∧ ∀ M8 : zX, Qr7 M8 → (P M8))))))) ∧ (((X 0 36) = 2) → (∃ Qr9 : zX → Prop, zPw SY 0 mX10_wants [.ref 0, .int 1, .int 2] X Qr9 ∧ ∀ M10 : zX, Qr9 M10 → (((¬ (M10 0 38) = 0) → (P M10)) ∧ (((M10 0 38) = 0) → (∃ r12 : Int32, zPf SY 0 mX10_in [.long (M10 0 37).toInt64, .long a1.toInt64, .long a2.toInt64] M10 r12 ∧ (∃ Qr13 : zX → Prop, zPw SY 0 mX10_wants [.ref 0, .int r12, .int 3] M10 Qr13 ∧ ∀ M14 : zX, Qr13 M14 → (P M14)))))))))) : zPw SY 1 mX10_isNumber [.ref 0, .int a1, .int a2] X P := by
  refine zP_in [some (.ref 0), some (.int a1), some (.int a2)] ⟨rfl, rfl, rfl, trivial⟩ (by decide) (Nat.le_of_ble_eq_true rfl) ?_
  refine j_aload_n dX10_isNumber_0 rfl ?_
  refine j_getf dX10_isNumber_1 fX10_193 rfl rfl ?_
  refine j_if_ne (tgt := 25) dX10_isNumber_4 (by decide) (fun hc1 => ?_) (fun hc1 => ?_)
  · have h := h.1 hc1
    refine j_aload_n dX10_isNumber_25 rfl ?_
    refine j_getf dX10_isNumber_26 fX10_193 rfl rfl ?_
    refine j_if_ne (tgt := 49) dX10_isNumber_29 (by decide) (fun _ => ?_) (fun hc => absurd hc hc1)
    refine j_vret dX10_isNumber_49 rfl ?_
    exact ⟨rfl, h⟩
  · have h := h.2 hc1
    refine j_aload_n dX10_isNumber_7 rfl ?_
    refine j_aload_n dX10_isNumber_8 rfl ?_
    refine j_getf dX10_isNumber_9 fX10_212 rfl rfl ?_
    refine j_iconst (v := 2) dX10_isNumber_12 rfl ?_
    refine j_ic_ne (tgt := 20) dX10_isNumber_13 (by decide) (fun hc2 => ?_) (fun hc2 => ?_)
    · have h := h.1 hc2
      refine j_iconst (v := 0) dX10_isNumber_20 rfl ?_
      refine j_iconst (v := 2) dX10_isNumber_21 rfl ?_
      obtain ⟨_, hc, h⟩ := h
      refine j_cvw (lc := 0) (as := [.int 0, .int 2]) dX10_isNumber_22 iX10_wants vX10_wants kX10_226 (by decide) rfl rfl rfl rfl (Nat.zero_le _) hc (fun M4 hr => ?_)
      have h := h _ hr
      refine j_aload_n dX10_isNumber_25 rfl ?_
      refine j_getf dX10_isNumber_26 fX10_193 rfl rfl ?_
      refine j_if_ne (tgt := 49) dX10_isNumber_29 (by decide) (fun hc5 => ?_) (fun hc5 => ?_)
      · have h := h.1 hc5
        refine j_vret dX10_isNumber_49 rfl ?_
        exact ⟨rfl, h⟩
      · have h := h.2 hc5
        refine j_aload_n dX10_isNumber_32 rfl ?_
        refine j_aload_n dX10_isNumber_33 rfl ?_
        refine j_getf dX10_isNumber_34 fX10_223 rfl rfl ?_
        refine j_i2l dX10_isNumber_37 ?_
        refine j_iload_n dX10_isNumber_38 rfl ?_
        refine j_i2l dX10_isNumber_39 ?_
        refine j_iload_n dX10_isNumber_40 rfl ?_
        refine j_i2l dX10_isNumber_41 ?_
        obtain ⟨r6, hc, h⟩ := h
        refine j_csf (lc := 0) (as := [.long (M4 0 37).toInt64, .long a1.toInt64, .long a2.toInt64]) dX10_isNumber_42 iX10_in sX10_in kX10_102 (by decide) rfl rfl (by simp [Value.category]) hc ?_
        refine j_iconst (v := 3) dX10_isNumber_45 rfl ?_
        obtain ⟨_, hc, h⟩ := h
        refine j_cvw (lc := 0) (as := [.int r6, .int 3]) dX10_isNumber_46 iX10_wants vX10_wants kX10_226 (by decide) rfl rfl rfl rfl (Nat.zero_le _) hc (fun M8 hr => ?_)
        have h := h _ hr
        refine j_vret dX10_isNumber_49 rfl ?_
        exact ⟨rfl, h⟩
    · have h := h.2 hc2
      refine j_iconst (v := 1) dX10_isNumber_16 rfl ?_
      refine j_goto (tgt := 21) dX10_isNumber_17 (by decide) ?_
      refine j_iconst (v := 2) dX10_isNumber_21 rfl ?_
      obtain ⟨_, hc, h⟩ := h
      refine j_cvw (lc := 0) (as := [.int 1, .int 2]) dX10_isNumber_22 iX10_wants vX10_wants kX10_226 (by decide) rfl rfl rfl rfl (Nat.zero_le _) hc (fun M10 hr => ?_)
      have h := h _ hr
      refine j_aload_n dX10_isNumber_25 rfl ?_
      refine j_getf dX10_isNumber_26 fX10_193 rfl rfl ?_
      refine j_if_ne (tgt := 49) dX10_isNumber_29 (by decide) (fun hc11 => ?_) (fun hc11 => ?_)
      · have h := h.1 hc11
        refine j_vret dX10_isNumber_49 rfl ?_
        exact ⟨rfl, h⟩
      · have h := h.2 hc11
        refine j_aload_n dX10_isNumber_32 rfl ?_
        refine j_aload_n dX10_isNumber_33 rfl ?_
        refine j_getf dX10_isNumber_34 fX10_223 rfl rfl ?_
        refine j_i2l dX10_isNumber_37 ?_
        refine j_iload_n dX10_isNumber_38 rfl ?_
        refine j_i2l dX10_isNumber_39 ?_
        refine j_iload_n dX10_isNumber_40 rfl ?_
        refine j_i2l dX10_isNumber_41 ?_
        obtain ⟨r12, hc, h⟩ := h
        refine j_csf (lc := 0) (as := [.long (M10 0 37).toInt64, .long a1.toInt64, .long a2.toInt64]) dX10_isNumber_42 iX10_in sX10_in kX10_102 (by decide) rfl rfl (by simp [Value.category]) hc ?_
        refine j_iconst (v := 3) dX10_isNumber_45 rfl ?_
        obtain ⟨_, hc, h⟩ := h
        refine j_cvw (lc := 0) (as := [.int r12, .int 3]) dX10_isNumber_46 iX10_wants vX10_wants kX10_226 (by decide) rfl rfl rfl rfl (Nat.zero_le _) hc (fun M14 hr => ?_)
        have h := h _ hr
        refine j_vret dX10_isNumber_49 rfl ?_
        exact ⟨rfl, h⟩
theorem eX10_readNumber (P : Int32 → zX → Prop) (X : zX) (a1 : Int32) (a2 : Int32) (h : ∃ Qr1 : zX → Prop, zPw SY 1 mX10_isNumber [.ref 0, .int a1, .int a2] X Qr1 ∧ ∀ M2 : zX, Qr1 M2 → (∃ Qr3 : zX → Prop, zPw SY 3 mX10_next [.ref 0] M2 Qr3 ∧ ∀ M4 : zX, Qr3 M4 → (P (M2 0 37) M4))) : zPi SY 4 mX10_readNumber [.ref 0, .int a1, .int a2] X P := by
  refine zP_in [some (.ref 0), some (.int a1), some (.int a2), none] ⟨rfl, rfl, rfl, trivial⟩ (by decide) (Nat.le_of_ble_eq_true rfl) ?_
  refine j_aload_n dX10_readNumber_0 rfl ?_
  refine j_iload_n dX10_readNumber_1 rfl ?_
  refine j_iload_n dX10_readNumber_2 rfl ?_
  obtain ⟨_, hc, h⟩ := h
  refine j_cvw (lc := 1) (as := [.int a1, .int a2]) dX10_readNumber_3 iX10_isNumber vX10_isNumber kX10_234 (by decide) rfl rfl rfl rfl (Nat.zero_le _) hc (fun M2 hr => ?_)
  have h := h _ hr
  refine j_aload_n dX10_readNumber_6 rfl ?_
  refine j_getf dX10_readNumber_7 fX10_223 rfl rfl ?_
  refine j_istore_n (L2 := [some (.ref 0), some (.int a1), some (.int a2), some (.int (M2 0 37))]) dX10_readNumber_10 (by decide) (zno rfl) rfl ?_
  refine j_aload_n dX10_readNumber_11 rfl ?_
  obtain ⟨_, hc, h⟩ := h
  refine j_cvw (lc := 3) (as := []) dX10_readNumber_12 iX10_next vX10_next kX10_238 (by decide) rfl rfl rfl rfl (Nat.zero_le _) hc (fun M4 hr => ?_)
  have h := h _ hr
  refine j_iload_n dX10_readNumber_15 rfl ?_
  refine j_iret dX10_readNumber_16 rfl rfl ?_
  exact ⟨_, rfl, h⟩
theorem eX10_readHear (P : zX → Prop) (X : zX)  (h : ∃ Qr1 : Int32 → zX → Prop, zPi SY 4 mX10_readNumber [.ref 0, .int 0, .int 7] X Qr1 ∧ ∀ (r1 : Int32) (M2 : zX), Qr1 r1 M2 → (∃ Qr3 : zX → Prop, zPw SY 1 mX10_isNumber [.ref 0, .int 0, .int 7] M2 Qr3 ∧ ∀ M4 : zX, Qr3 M4 → (((¬ (M4 0 38) = 0) → (∃ Qr6 : zX → Prop, zPw SY 3 mX10_next [.ref 0] M4 Qr6 ∧ ∀ M7 : zX, Qr6 M7 → (P M7))) ∧ (((M4 0 38) = 0) → (∃ j8 : Nat, r1 = nI j8 ∧ j8 < 8 ∧ (((¬ ((zshr (M4 18 j8) (M4 0 37)) &&& 1) = 0) → (∃ Qr10 : zX → Prop, zPw SY 0 mX10_wants [.ref 0, .int 0, .int 4] M4 Qr10 ∧ ∀ M11 : zX, Qr10 M11 → (∃ j12 : Nat, r1 = nI j12 ∧ j12 < 8 ∧ (∃ j13 : Nat, r1 = nI j13 ∧ j13 < 8 ∧ (∃ Qr14 : zX → Prop, zPw SY 3 mX10_next [.ref 0] (zs M11 18 j13 ((M11 18 j12) ||| (zshl 1 (M11 0 37)))) Qr14 ∧ ∀ M15 : zX, Qr14 M15 → (P M15)))))) ∧ ((((zshr (M4 18 j8) (M4 0 37)) &&& 1) = 0) → (∃ Qr16 : zX → Prop, zPw SY 0 mX10_wants [.ref 0, .int 1, .int 4] M4 Qr16 ∧ ∀ M17 : zX, Qr16 M17 → (∃ j18 : Nat, r1 = nI j18 ∧ j18 < 8 ∧ (∃ j19 : Nat, r1 = nI j19 ∧ j19 < 8 ∧ (∃ Qr20 : zX → Prop, zPw SY 3 mX10_next [.ref 0] (zs M17 18 j19 ((M17 18 j18) ||| (zshl 1 (M17 0 37)))) Qr20 ∧ ∀ M21 : zX, Qr20 M21 → (P M21)))))))))))) : zPw SY 5 mX10_readHear [.ref 0] X P := by
  refine zP_in [some (.ref 0), none] ⟨rfl, trivial⟩ (by decide) (Nat.le_of_ble_eq_true rfl) ?_
  refine j_aload_n dX10_readHear_0 rfl ?_
  refine j_iconst (v := 0) dX10_readHear_1 rfl ?_
  refine j_bipush (v := 7) dX10_readHear_2 rfl ?_
  obtain ⟨_, hc, h⟩ := h
  refine j_cvi (lc := 4) (as := [.int 0, .int 7]) dX10_readHear_4 iX10_readNumber vX10_readNumber kX10_241 (by decide) rfl rfl rfl rfl (Nat.zero_le _) hc (fun r1 M2 hr => ?_)
  have h := h _ _ hr
  refine j_istore_n (L2 := [some (.ref 0), some (.int r1)]) dX10_readHear_7 (by decide) (zno rfl) rfl ?_
  refine j_aload_n dX10_readHear_8 rfl ?_
  refine j_iconst (v := 0) dX10_readHear_9 rfl ?_
  refine j_bipush (v := 7) dX10_readHear_10 rfl ?_
  obtain ⟨_, hc, h⟩ := h
  refine j_cvw (lc := 1) (as := [.int 0, .int 7]) dX10_readHear_12 iX10_isNumber vX10_isNumber kX10_234 (by decide) rfl rfl rfl rfl (Nat.zero_le _) hc (fun M4 hr => ?_)
  have h := h _ hr
  refine j_aload_n dX10_readHear_15 rfl ?_
  refine j_getf dX10_readHear_16 fX10_193 rfl rfl ?_
  refine j_if_ne (tgt := 63) dX10_readHear_19 (by decide) (fun hc5 => ?_) (fun hc5 => ?_)
  · have h := h.1 hc5
    refine j_aload_n dX10_readHear_63 rfl ?_
    obtain ⟨_, hc, h⟩ := h
    refine j_cvw (lc := 3) (as := []) dX10_readHear_64 iX10_next vX10_next kX10_238 (by decide) rfl rfl rfl rfl (Nat.zero_le _) hc (fun M7 hr => ?_)
    have h := h _ hr
    refine j_vret dX10_readHear_67 rfl ?_
    exact ⟨rfl, h⟩
  · have h := h.2 hc5
    refine j_aload_n dX10_readHear_22 rfl ?_
    refine j_aload_n dX10_readHear_23 rfl ?_
    refine j_getr dX10_readHear_24 fX10_62 rfl rfl ?_
    refine j_iload_n dX10_readHear_27 rfl ?_
    obtain ⟨j8, ej8, lj8, h⟩ := h
    refine j_iald dX10_readHear_28 rfl (zin ej8 lj8 (by decide)) ?_
    rw [zcl ej8 lj8 (by decide)]
    refine j_aload_n dX10_readHear_29 rfl ?_
    refine j_getf dX10_readHear_30 fX10_223 rfl rfl ?_
    refine j_ishr dX10_readHear_33 ?_
    refine j_iconst (v := 1) dX10_readHear_34 rfl ?_
    refine j_iand dX10_readHear_35 ?_
    refine j_if_ne (tgt := 43) dX10_readHear_36 (by decide) (fun hc9 => ?_) (fun hc9 => ?_)
    · have h := h.1 hc9
      refine j_iconst (v := 0) dX10_readHear_43 rfl ?_
      refine j_iconst (v := 4) dX10_readHear_44 rfl ?_
      obtain ⟨_, hc, h⟩ := h
      refine j_cvw (lc := 0) (as := [.int 0, .int 4]) dX10_readHear_45 iX10_wants vX10_wants kX10_226 (by decide) rfl rfl rfl rfl (Nat.zero_le _) hc (fun M11 hr => ?_)
      have h := h _ hr
      refine j_aload_n dX10_readHear_48 rfl ?_
      refine j_getr dX10_readHear_49 fX10_62 rfl rfl ?_
      refine j_iload_n dX10_readHear_52 rfl ?_
      refine j_dup2 dX10_readHear_53 rfl rfl ?_
      obtain ⟨j12, ej12, lj12, h⟩ := h
      refine j_iald dX10_readHear_54 rfl (zin ej12 lj12 (by decide)) ?_
      rw [zcl ej12 lj12 (by decide)]
      refine j_iconst (v := 1) dX10_readHear_55 rfl ?_
      refine j_aload_n dX10_readHear_56 rfl ?_
      refine j_getf dX10_readHear_57 fX10_223 rfl rfl ?_
      refine j_ishl dX10_readHear_60 ?_
      refine j_ior dX10_readHear_61 ?_
      obtain ⟨j13, ej13, lj13, h⟩ := h
      refine j_iast dX10_readHear_62 rfl (zin ej13 lj13 (by decide)) ?_
      rw [zcl ej13 lj13 (by decide)]
      refine j_aload_n dX10_readHear_63 rfl ?_
      obtain ⟨_, hc, h⟩ := h
      refine j_cvw (lc := 3) (as := []) dX10_readHear_64 iX10_next vX10_next kX10_238 (by decide) rfl rfl rfl rfl (Nat.zero_le _) hc (fun M15 hr => ?_)
      have h := h _ hr
      refine j_vret dX10_readHear_67 rfl ?_
      exact ⟨rfl, h⟩
    · have h := h.2 hc9
      refine j_iconst (v := 1) dX10_readHear_39 rfl ?_
      refine j_goto (tgt := 44) dX10_readHear_40 (by decide) ?_
      refine j_iconst (v := 4) dX10_readHear_44 rfl ?_
      obtain ⟨_, hc, h⟩ := h
      refine j_cvw (lc := 0) (as := [.int 1, .int 4]) dX10_readHear_45 iX10_wants vX10_wants kX10_226 (by decide) rfl rfl rfl rfl (Nat.zero_le _) hc (fun M17 hr => ?_)
      have h := h _ hr
      refine j_aload_n dX10_readHear_48 rfl ?_
      refine j_getr dX10_readHear_49 fX10_62 rfl rfl ?_
      refine j_iload_n dX10_readHear_52 rfl ?_
      refine j_dup2 dX10_readHear_53 rfl rfl ?_
      obtain ⟨j18, ej18, lj18, h⟩ := h
      refine j_iald dX10_readHear_54 rfl (zin ej18 lj18 (by decide)) ?_
      rw [zcl ej18 lj18 (by decide)]
      refine j_iconst (v := 1) dX10_readHear_55 rfl ?_
      refine j_aload_n dX10_readHear_56 rfl ?_
      refine j_getf dX10_readHear_57 fX10_223 rfl rfl ?_
      refine j_ishl dX10_readHear_60 ?_
      refine j_ior dX10_readHear_61 ?_
      obtain ⟨j19, ej19, lj19, h⟩ := h
      refine j_iast dX10_readHear_62 rfl (zin ej19 lj19 (by decide)) ?_
      rw [zcl ej19 lj19 (by decide)]
      refine j_aload_n dX10_readHear_63 rfl ?_
      obtain ⟨_, hc, h⟩ := h
      refine j_cvw (lc := 3) (as := []) dX10_readHear_64 iX10_next vX10_next kX10_238 (by decide) rfl rfl rfl rfl (Nat.zero_le _) hc (fun M21 hr => ?_)
      have h := h _ hr
      refine j_vret dX10_readHear_67 rfl ?_
      exact ⟨rfl, h⟩
theorem eX10_readDry (P : zX → Prop) (X : zX)  (h : ∃ Qr1 : zX → Prop, zPw SY 1 mX10_isNumber [.ref 0, .int 0, .int 11] X Qr1 ∧ ∀ M2 : zX, Qr1 M2 → (((¬ (M2 0 38) = 0) → (∃ Qr4 : zX → Prop, zPw SY 3 mX10_next [.ref 0] M2 Qr4 ∧ ∀ M5 : zX, Qr4 M5 → (∃ Qr6 : Int32 → zX → Prop, zPi SY 4 mX10_readNumber [.ref 0, .int 0, .int 99] M5 Qr6 ∧ ∀ (r6 : Int32) (M7 : zX), Qr6 r6 M7 → (((¬ (M7 0 38) = 0) → (P M7)) ∧ (((M7 0 38) = 0) → (∃ j9 : Nat, (M2 0 37) = nI j9 ∧ j9 < 12 ∧ (P (zs M7 19 j9 r6)))))))) ∧ (((M2 0 38) = 0) → (∃ j10 : Nat, (M2 0 37) = nI j10 ∧ j10 < 12 ∧ (((¬ (M2 19 j10) = (-4)) → (∃ Qr12 : zX → Prop, zPw SY 0 mX10_wants [.ref 0, .int 0, .int 4] M2 Qr12 ∧ ∀ M13 : zX, Qr12 M13 → (∃ Qr14 : zX → Prop, zPw SY 3 mX10_next [.ref 0] M13 Qr14 ∧ ∀ M15 : zX, Qr14 M15 → (∃ Qr16 : Int32 → zX → Prop, zPi SY 4 mX10_readNumber [.ref 0, .int 0, .int 99] M15 Qr16 ∧ ∀ (r16 : Int32) (M17 : zX), Qr16 r16 M17 → (((¬ (M17 0 38) = 0) → (P M17)) ∧ (((M17 0 38) = 0) → (∃ j19 : Nat, (M2 0 37) = nI j19 ∧ j19 < 12 ∧ (P (zs M17 19 j19 r16))))))))) ∧ (((M2 19 j10) = (-4)) → (∃ Qr20 : zX → Prop, zPw SY 0 mX10_wants [.ref 0, .int 1, .int 4] M2 Qr20 ∧ ∀ M21 : zX, Qr20 M21 → (∃ Qr22 : zX → Prop, zPw SY 3 mX10_next [.ref 0] M21 Qr22 ∧ ∀ M23 : zX, Qr22 M23 → (∃ Qr24 : Int32 → zX → Prop, zPi SY 4 mX10_readNumber [.ref 0, .int 0, .int 99] M23 Qr24 ∧ ∀ (r24 : Int32) (M25 : zX), Qr24 r24 M25 → (((¬ (M25 0 38) = 0) → (P M25)) ∧ (((M25 0 38) = 0) → (∃ j27 : Nat, (M2 0 37) = nI j27 ∧ j27 < 12 ∧ (P (zs M25 19 j27 r24)))))))))))))) : zPw SY 5 mX10_readDry [.ref 0] X P := by
  refine zP_in [some (.ref 0), none, none] ⟨rfl, trivial⟩ (by decide) (Nat.le_of_ble_eq_true rfl) ?_
  refine j_aload_n dX10_readDry_0 rfl ?_
  refine j_iconst (v := 0) dX10_readDry_1 rfl ?_
  refine j_bipush (v := 11) dX10_readDry_2 rfl ?_
  obtain ⟨_, hc, h⟩ := h
  refine j_cvw (lc := 1) (as := [.int 0, .int 11]) dX10_readDry_4 iX10_isNumber vX10_isNumber kX10_234 (by decide) rfl rfl rfl rfl (Nat.zero_le _) hc (fun M2 hr => ?_)
  have h := h _ hr
  refine j_aload_n dX10_readDry_7 rfl ?_
  refine j_getf dX10_readDry_8 fX10_223 rfl rfl ?_
  refine j_istore_n (L2 := [some (.ref 0), some (.int (M2 0 37)), none]) dX10_readDry_11 (by decide) (zno rfl) rfl ?_
  refine j_aload_n dX10_readDry_12 rfl ?_
  refine j_getf dX10_readDry_13 fX10_193 rfl rfl ?_
  refine j_if_ne (tgt := 40) dX10_readDry_16 (by decide) (fun hc3 => ?_) (fun hc3 => ?_)
  · have h := h.1 hc3
    refine j_aload_n dX10_readDry_40 rfl ?_
    obtain ⟨_, hc, h⟩ := h
    refine j_cvw (lc := 3) (as := []) dX10_readDry_41 iX10_next vX10_next kX10_238 (by decide) rfl rfl rfl rfl (Nat.zero_le _) hc (fun M5 hr => ?_)
    have h := h _ hr
    refine j_aload_n dX10_readDry_44 rfl ?_
    refine j_iconst (v := 0) dX10_readDry_45 rfl ?_
    refine j_bipush (v := 99) dX10_readDry_46 rfl ?_
    obtain ⟨_, hc, h⟩ := h
    refine j_cvi (lc := 4) (as := [.int 0, .int 99]) dX10_readDry_48 iX10_readNumber vX10_readNumber kX10_241 (by decide) rfl rfl rfl rfl (Nat.zero_le _) hc (fun r6 M7 hr => ?_)
    have h := h _ _ hr
    refine j_istore_n (L2 := [some (.ref 0), some (.int (M2 0 37)), some (.int r6)]) dX10_readDry_51 (by decide) (zno rfl) rfl ?_
    refine j_aload_n dX10_readDry_52 rfl ?_
    refine j_getf dX10_readDry_53 fX10_193 rfl rfl ?_
    refine j_if_ne (tgt := 66) dX10_readDry_56 (by decide) (fun hc8 => ?_) (fun hc8 => ?_)
    · have h := h.1 hc8
      refine j_vret dX10_readDry_66 rfl ?_
      exact ⟨rfl, h⟩
    · have h := h.2 hc8
      refine j_aload_n dX10_readDry_59 rfl ?_
      refine j_getr dX10_readDry_60 fX10_65 rfl rfl ?_
      refine j_iload_n dX10_readDry_63 rfl ?_
      refine j_iload_n dX10_readDry_64 rfl ?_
      obtain ⟨j9, ej9, lj9, h⟩ := h
      refine j_iast dX10_readDry_65 rfl (zin ej9 lj9 (by decide)) ?_
      rw [zcl ej9 lj9 (by decide)]
      refine j_vret dX10_readDry_66 rfl ?_
      exact ⟨rfl, h⟩
  · have h := h.2 hc3
    refine j_aload_n dX10_readDry_19 rfl ?_
    refine j_aload_n dX10_readDry_20 rfl ?_
    refine j_getr dX10_readDry_21 fX10_65 rfl rfl ?_
    refine j_iload_n dX10_readDry_24 rfl ?_
    obtain ⟨j10, ej10, lj10, h⟩ := h
    refine j_iald dX10_readDry_25 rfl (zin ej10 lj10 (by decide)) ?_
    rw [zcl ej10 lj10 (by decide)]
    refine j_bipush (v := (-4)) dX10_readDry_26 rfl ?_
    refine j_ic_ne (tgt := 35) dX10_readDry_28 (by decide) (fun hc11 => ?_) (fun hc11 => ?_)
    · have h := h.1 hc11
      refine j_iconst (v := 0) dX10_readDry_35 rfl ?_
      refine j_iconst (v := 4) dX10_readDry_36 rfl ?_
      obtain ⟨_, hc, h⟩ := h
      refine j_cvw (lc := 0) (as := [.int 0, .int 4]) dX10_readDry_37 iX10_wants vX10_wants kX10_226 (by decide) rfl rfl rfl rfl (Nat.zero_le _) hc (fun M13 hr => ?_)
      have h := h _ hr
      refine j_aload_n dX10_readDry_40 rfl ?_
      obtain ⟨_, hc, h⟩ := h
      refine j_cvw (lc := 3) (as := []) dX10_readDry_41 iX10_next vX10_next kX10_238 (by decide) rfl rfl rfl rfl (Nat.zero_le _) hc (fun M15 hr => ?_)
      have h := h _ hr
      refine j_aload_n dX10_readDry_44 rfl ?_
      refine j_iconst (v := 0) dX10_readDry_45 rfl ?_
      refine j_bipush (v := 99) dX10_readDry_46 rfl ?_
      obtain ⟨_, hc, h⟩ := h
      refine j_cvi (lc := 4) (as := [.int 0, .int 99]) dX10_readDry_48 iX10_readNumber vX10_readNumber kX10_241 (by decide) rfl rfl rfl rfl (Nat.zero_le _) hc (fun r16 M17 hr => ?_)
      have h := h _ _ hr
      refine j_istore_n (L2 := [some (.ref 0), some (.int (M2 0 37)), some (.int r16)]) dX10_readDry_51 (by decide) (zno rfl) rfl ?_
      refine j_aload_n dX10_readDry_52 rfl ?_
      refine j_getf dX10_readDry_53 fX10_193 rfl rfl ?_
      refine j_if_ne (tgt := 66) dX10_readDry_56 (by decide) (fun hc18 => ?_) (fun hc18 => ?_)
      · have h := h.1 hc18
        refine j_vret dX10_readDry_66 rfl ?_
        exact ⟨rfl, h⟩
      · have h := h.2 hc18
        refine j_aload_n dX10_readDry_59 rfl ?_
        refine j_getr dX10_readDry_60 fX10_65 rfl rfl ?_
        refine j_iload_n dX10_readDry_63 rfl ?_
        refine j_iload_n dX10_readDry_64 rfl ?_
        obtain ⟨j19, ej19, lj19, h⟩ := h
        refine j_iast dX10_readDry_65 rfl (zin ej19 lj19 (by decide)) ?_
        rw [zcl ej19 lj19 (by decide)]
        refine j_vret dX10_readDry_66 rfl ?_
        exact ⟨rfl, h⟩
    · have h := h.2 hc11
      refine j_iconst (v := 1) dX10_readDry_31 rfl ?_
      refine j_goto (tgt := 36) dX10_readDry_32 (by decide) ?_
      refine j_iconst (v := 4) dX10_readDry_36 rfl ?_
      obtain ⟨_, hc, h⟩ := h
      refine j_cvw (lc := 0) (as := [.int 1, .int 4]) dX10_readDry_37 iX10_wants vX10_wants kX10_226 (by decide) rfl rfl rfl rfl (Nat.zero_le _) hc (fun M21 hr => ?_)
      have h := h _ hr
      refine j_aload_n dX10_readDry_40 rfl ?_
      obtain ⟨_, hc, h⟩ := h
      refine j_cvw (lc := 3) (as := []) dX10_readDry_41 iX10_next vX10_next kX10_238 (by decide) rfl rfl rfl rfl (Nat.zero_le _) hc (fun M23 hr => ?_)
      have h := h _ hr
      refine j_aload_n dX10_readDry_44 rfl ?_
      refine j_iconst (v := 0) dX10_readDry_45 rfl ?_
      refine j_bipush (v := 99) dX10_readDry_46 rfl ?_
      obtain ⟨_, hc, h⟩ := h
      refine j_cvi (lc := 4) (as := [.int 0, .int 99]) dX10_readDry_48 iX10_readNumber vX10_readNumber kX10_241 (by decide) rfl rfl rfl rfl (Nat.zero_le _) hc (fun r24 M25 hr => ?_)
      have h := h _ _ hr
      refine j_istore_n (L2 := [some (.ref 0), some (.int (M2 0 37)), some (.int r24)]) dX10_readDry_51 (by decide) (zno rfl) rfl ?_
      refine j_aload_n dX10_readDry_52 rfl ?_
      refine j_getf dX10_readDry_53 fX10_193 rfl rfl ?_
      refine j_if_ne (tgt := 66) dX10_readDry_56 (by decide) (fun hc26 => ?_) (fun hc26 => ?_)
      · have h := h.1 hc26
        refine j_vret dX10_readDry_66 rfl ?_
        exact ⟨rfl, h⟩
      · have h := h.2 hc26
        refine j_aload_n dX10_readDry_59 rfl ?_
        refine j_getr dX10_readDry_60 fX10_65 rfl rfl ?_
        refine j_iload_n dX10_readDry_63 rfl ?_
        refine j_iload_n dX10_readDry_64 rfl ?_
        obtain ⟨j27, ej27, lj27, h⟩ := h
        refine j_iast dX10_readDry_65 rfl (zin ej27 lj27 (by decide)) ?_
        rw [zcl ej27 lj27 (by decide)]
        refine j_vret dX10_readDry_66 rfl ?_
        exact ⟨rfl, h⟩
theorem eX10_readPair (P : zX → Prop) (X : zX)  (h : ∃ Qr1 : Int32 → zX → Prop, zPi SY 4 mX10_readNumber [.ref 0, .int 0, .int 23] X Qr1 ∧ ∀ (r1 : Int32) (M2 : zX), Qr1 r1 M2 → (∃ Qr3 : zX → Prop, zPw SY 1 mX10_isNumber [.ref 0, .int 0, .int 23] M2 Qr3 ∧ ∀ M4 : zX, Qr3 M4 → (((¬ (M4 0 38) = 0) → (∃ Qr6 : zX → Prop, zPw SY 3 mX10_next [.ref 0] M4 Qr6 ∧ ∀ M7 : zX, Qr6 M7 → (P M7))) ∧ (((M4 0 38) = 0) → ((((M4 0 37) = r1) → (∃ Qr9 : zX → Prop, zPw SY 0 mX10_wants [.ref 0, .int 0, .int 3] M4 Qr9 ∧ ∀ M10 : zX, Qr9 M10 → (((¬ (M10 0 38) = 0) → (∃ Qr12 : zX → Prop, zPw SY 3 mX10_next [.ref 0] M10 Qr12 ∧ ∀ M13 : zX, Qr12 M13 → (P M13))) ∧ (((M10 0 38) = 0) → (∃ j14 : Nat, r1 = nI j14 ∧ j14 < 24 ∧ (((¬ ((zshr (M10 20 j14) (M10 0 37)) &&& 1) = 0) → (∃ Qr16 : zX → Prop, zPw SY 0 mX10_wants [.ref 0, .int 0, .int 4] M10 Qr16 ∧ ∀ M17 : zX, Qr16 M17 → (∃ j18 : Nat, r1 = nI j18 ∧ j18 < 24 ∧ (∃ j19 : Nat, r1 = nI j19 ∧ j19 < 24 ∧ (∃ j20 : Nat, (M17 0 37) = nI j20 ∧ j20 < 24 ∧ (∃ j21 : Nat, (M17 0 37) = nI j21 ∧ j21 < 24 ∧ (∃ Qr22 : zX → Prop, zPw SY 3 mX10_next [.ref 0] (zs (zs M17 20 j19 ((M17 20 j18) ||| (zshl 1 (M17 0 37)))) 20 j21 (((zs M17 20 j19 ((M17 20 j18) ||| (zshl 1 (M17 0 37)))) 20 j20) ||| (zshl 1 r1))) Qr22 ∧ ∀ M23 : zX, Qr22 M23 → (P M23)))))))) ∧ ((((zshr (M10 20 j14) (M10 0 37)) &&& 1) = 0) → (∃ Qr24 : zX → Prop, zPw SY 0 mX10_wants [.ref 0, .int 1, .int 4] M10 Qr24 ∧ ∀ M25 : zX, Qr24 M25 → (∃ j26 : Nat, r1 = nI j26 ∧ j26 < 24 ∧ (∃ j27 : Nat, r1 = nI j27 ∧ j27 < 24 ∧ (∃ j28 : Nat, (M25 0 37) = nI j28 ∧ j28 < 24 ∧ (∃ j29 : Nat, (M25 0 37) = nI j29 ∧ j29 < 24 ∧ (∃ Qr30 : zX → Prop, zPw SY 3 mX10_next [.ref 0] (zs (zs M25 20 j27 ((M25 20 j26) ||| (zshl 1 (M25 0 37)))) 20 j29 (((zs M25 20 j27 ((M25 20 j26) ||| (zshl 1 (M25 0 37)))) 20 j28) ||| (zshl 1 r1))) Qr30 ∧ ∀ M31 : zX, Qr30 M31 → (P M31)))))))))))))) ∧ ((¬ ((M4 0 37) = r1)) → (∃ Qr32 : zX → Prop, zPw SY 0 mX10_wants [.ref 0, .int 1, .int 3] M4 Qr32 ∧ ∀ M33 : zX, Qr32 M33 → (((¬ (M33 0 38) = 0) → (∃ Qr35 : zX → Prop, zPw SY 3 mX10_next [.ref 0] M33 Qr35 ∧ ∀ M36 : zX, Qr35 M36 → (P M36))) ∧ (((M33 0 38) = 0) → (∃ j37 : Nat, r1 = nI j37 ∧ j37 < 24 ∧ (((¬ ((zshr (M33 20 j37) (M33 0 37)) &&& 1) = 0) → (∃ Qr39 : zX → Prop, zPw SY 0 mX10_wants [.ref 0, .int 0, .int 4] M33 Qr39 ∧ ∀ M40 : zX, Qr39 M40 → (∃ j41 : Nat, r1 = nI j41 ∧ j41 < 24 ∧ (∃ j42 : Nat, r1 = nI j42 ∧ j42 < 24 ∧ (∃ j43 : Nat, (M40 0 37) = nI j43 ∧ j43 < 24 ∧ (∃ j44 : Nat, (M40 0 37) = nI j44 ∧ j44 < 24 ∧ (∃ Qr45 : zX → Prop, zPw SY 3 mX10_next [.ref 0] (zs (zs M40 20 j42 ((M40 20 j41) ||| (zshl 1 (M40 0 37)))) 20 j44 (((zs M40 20 j42 ((M40 20 j41) ||| (zshl 1 (M40 0 37)))) 20 j43) ||| (zshl 1 r1))) Qr45 ∧ ∀ M46 : zX, Qr45 M46 → (P M46)))))))) ∧ ((((zshr (M33 20 j37) (M33 0 37)) &&& 1) = 0) → (∃ Qr47 : zX → Prop, zPw SY 0 mX10_wants [.ref 0, .int 1, .int 4] M33 Qr47 ∧ ∀ M48 : zX, Qr47 M48 → (∃ j49 : Nat, r1 = nI j49 ∧ j49 < 24 ∧ (∃ j50 : Nat, r1 = nI j50 ∧ j50 < 24 ∧ (∃ j51 : Nat, (M48 0 37) = nI j51 ∧ j51 < 24 ∧ (∃ j52 : Nat, (M48 0 37) = nI j52 ∧ j52 < 24 ∧ (∃ Qr53 : zX → Prop, zPw SY 3 mX10_next [.ref 0] (zs (zs M48 20 j50 ((M48 20 j49) ||| (zshl 1 (M48 0 37)))) 20 j52 (((zs M48 20 j50 ((M48 20 j49) ||| (zshl 1 (M48 0 37)))) 20 j51) ||| (zshl 1 r1))) Qr53 ∧ ∀ M54 : zX, Qr53 M54 → (P M54))))))))))))))))))) : zPw SY 5 mX10_readPair [.ref 0] X P := by
  refine zP_in [some (.ref 0), none] ⟨rfl, trivial⟩ (by decide) (Nat.le_of_ble_eq_true rfl) ?_
  refine j_aload_n dX10_readPair_0 rfl ?_
  refine j_iconst (v := 0) dX10_readPair_1 rfl ?_
  refine j_bipush (v := 23) dX10_readPair_2 rfl ?_
  obtain ⟨_, hc, h⟩ := h
  refine j_cvi (lc := 4) (as := [.int 0, .int 23]) dX10_readPair_4 iX10_readNumber vX10_readNumber kX10_241 (by decide) rfl rfl rfl rfl (Nat.zero_le _) hc (fun r1 M2 hr => ?_)
  have h := h _ _ hr
  refine j_istore_n (L2 := [some (.ref 0), some (.int r1)]) dX10_readPair_7 (by decide) (zno rfl) rfl ?_
  refine j_aload_n dX10_readPair_8 rfl ?_
  refine j_iconst (v := 0) dX10_readPair_9 rfl ?_
  refine j_bipush (v := 23) dX10_readPair_10 rfl ?_
  obtain ⟨_, hc, h⟩ := h
  refine j_cvw (lc := 1) (as := [.int 0, .int 23]) dX10_readPair_12 iX10_isNumber vX10_isNumber kX10_234 (by decide) rfl rfl rfl rfl (Nat.zero_le _) hc (fun M4 hr => ?_)
  have h := h _ hr
  refine j_aload_n dX10_readPair_15 rfl ?_
  refine j_getf dX10_readPair_16 fX10_193 rfl rfl ?_
  refine j_if_ne (tgt := 40) dX10_readPair_19 (by decide) (fun hc5 => ?_) (fun hc5 => ?_)
  · have h := h.1 hc5
    refine j_aload_n dX10_readPair_40 rfl ?_
    refine j_getf dX10_readPair_41 fX10_193 rfl rfl ?_
    refine j_if_ne (tgt := 103) dX10_readPair_44 (by decide) (fun _ => ?_) (fun hc => absurd hc hc5)
    refine j_aload_n dX10_readPair_103 rfl ?_
    obtain ⟨_, hc, h⟩ := h
    refine j_cvw (lc := 3) (as := []) dX10_readPair_104 iX10_next vX10_next kX10_238 (by decide) rfl rfl rfl rfl (Nat.zero_le _) hc (fun M7 hr => ?_)
    have h := h _ hr
    refine j_vret dX10_readPair_107 rfl ?_
    exact ⟨rfl, h⟩
  · have h := h.2 hc5
    refine j_aload_n dX10_readPair_22 rfl ?_
    refine j_aload_n dX10_readPair_23 rfl ?_
    refine j_getf dX10_readPair_24 fX10_223 rfl rfl ?_
    refine j_iload_n dX10_readPair_27 rfl ?_
    refine j_ic_eq (tgt := 35) dX10_readPair_28 (by decide) (fun hc8 => ?_) (fun hc8 => ?_)
    · have h := h.1 hc8
      refine j_iconst (v := 0) dX10_readPair_35 rfl ?_
      refine j_iconst (v := 3) dX10_readPair_36 rfl ?_
      obtain ⟨_, hc, h⟩ := h
      refine j_cvw (lc := 0) (as := [.int 0, .int 3]) dX10_readPair_37 iX10_wants vX10_wants kX10_226 (by decide) rfl rfl rfl rfl (Nat.zero_le _) hc (fun M10 hr => ?_)
      have h := h _ hr
      refine j_aload_n dX10_readPair_40 rfl ?_
      refine j_getf dX10_readPair_41 fX10_193 rfl rfl ?_
      refine j_if_ne (tgt := 103) dX10_readPair_44 (by decide) (fun hc11 => ?_) (fun hc11 => ?_)
      · have h := h.1 hc11
        refine j_aload_n dX10_readPair_103 rfl ?_
        obtain ⟨_, hc, h⟩ := h
        refine j_cvw (lc := 3) (as := []) dX10_readPair_104 iX10_next vX10_next kX10_238 (by decide) rfl rfl rfl rfl (Nat.zero_le _) hc (fun M13 hr => ?_)
        have h := h _ hr
        refine j_vret dX10_readPair_107 rfl ?_
        exact ⟨rfl, h⟩
      · have h := h.2 hc11
        refine j_aload_n dX10_readPair_47 rfl ?_
        refine j_aload_n dX10_readPair_48 rfl ?_
        refine j_getr dX10_readPair_49 fX10_68 rfl rfl ?_
        refine j_iload_n dX10_readPair_52 rfl ?_
        obtain ⟨j14, ej14, lj14, h⟩ := h
        refine j_iald dX10_readPair_53 rfl (zin ej14 lj14 (by decide)) ?_
        rw [zcl ej14 lj14 (by decide)]
        refine j_aload_n dX10_readPair_54 rfl ?_
        refine j_getf dX10_readPair_55 fX10_223 rfl rfl ?_
        refine j_ishr dX10_readPair_58 ?_
        refine j_iconst (v := 1) dX10_readPair_59 rfl ?_
        refine j_iand dX10_readPair_60 ?_
        refine j_if_ne (tgt := 68) dX10_readPair_61 (by decide) (fun hc15 => ?_) (fun hc15 => ?_)
        · have h := h.1 hc15
          refine j_iconst (v := 0) dX10_readPair_68 rfl ?_
          refine j_iconst (v := 4) dX10_readPair_69 rfl ?_
          obtain ⟨_, hc, h⟩ := h
          refine j_cvw (lc := 0) (as := [.int 0, .int 4]) dX10_readPair_70 iX10_wants vX10_wants kX10_226 (by decide) rfl rfl rfl rfl (Nat.zero_le _) hc (fun M17 hr => ?_)
          have h := h _ hr
          refine j_aload_n dX10_readPair_73 rfl ?_
          refine j_getr dX10_readPair_74 fX10_68 rfl rfl ?_
          refine j_iload_n dX10_readPair_77 rfl ?_
          refine j_dup2 dX10_readPair_78 rfl rfl ?_
          obtain ⟨j18, ej18, lj18, h⟩ := h
          refine j_iald dX10_readPair_79 rfl (zin ej18 lj18 (by decide)) ?_
          rw [zcl ej18 lj18 (by decide)]
          refine j_iconst (v := 1) dX10_readPair_80 rfl ?_
          refine j_aload_n dX10_readPair_81 rfl ?_
          refine j_getf dX10_readPair_82 fX10_223 rfl rfl ?_
          refine j_ishl dX10_readPair_85 ?_
          refine j_ior dX10_readPair_86 ?_
          obtain ⟨j19, ej19, lj19, h⟩ := h
          refine j_iast dX10_readPair_87 rfl (zin ej19 lj19 (by decide)) ?_
          rw [zcl ej19 lj19 (by decide)]
          refine j_aload_n dX10_readPair_88 rfl ?_
          refine j_getr dX10_readPair_89 fX10_68 rfl rfl ?_
          refine j_aload_n dX10_readPair_92 rfl ?_
          refine j_getv (v := .int (M17 0 37)) dX10_readPair_93 fX10_223 rfl rfl (fun _ => rfl) ?_
          refine j_dup2 dX10_readPair_96 rfl rfl ?_
          obtain ⟨j20, ej20, lj20, h⟩ := h
          refine j_iald dX10_readPair_97 rfl (zin ej20 lj20 (by decide)) ?_
          rw [zcl ej20 lj20 (by decide)]
          refine j_iconst (v := 1) dX10_readPair_98 rfl ?_
          refine j_iload_n dX10_readPair_99 rfl ?_
          refine j_ishl dX10_readPair_100 ?_
          refine j_ior dX10_readPair_101 ?_
          obtain ⟨j21, ej21, lj21, h⟩ := h
          refine j_iast dX10_readPair_102 rfl (zin ej21 lj21 (by decide)) ?_
          rw [zcl ej21 lj21 (by decide)]
          refine j_aload_n dX10_readPair_103 rfl ?_
          obtain ⟨_, hc, h⟩ := h
          refine j_cvw (lc := 3) (as := []) dX10_readPair_104 iX10_next vX10_next kX10_238 (by decide) rfl rfl rfl rfl (Nat.zero_le _) hc (fun M23 hr => ?_)
          have h := h _ hr
          refine j_vret dX10_readPair_107 rfl ?_
          exact ⟨rfl, h⟩
        · have h := h.2 hc15
          refine j_iconst (v := 1) dX10_readPair_64 rfl ?_
          refine j_goto (tgt := 69) dX10_readPair_65 (by decide) ?_
          refine j_iconst (v := 4) dX10_readPair_69 rfl ?_
          obtain ⟨_, hc, h⟩ := h
          refine j_cvw (lc := 0) (as := [.int 1, .int 4]) dX10_readPair_70 iX10_wants vX10_wants kX10_226 (by decide) rfl rfl rfl rfl (Nat.zero_le _) hc (fun M25 hr => ?_)
          have h := h _ hr
          refine j_aload_n dX10_readPair_73 rfl ?_
          refine j_getr dX10_readPair_74 fX10_68 rfl rfl ?_
          refine j_iload_n dX10_readPair_77 rfl ?_
          refine j_dup2 dX10_readPair_78 rfl rfl ?_
          obtain ⟨j26, ej26, lj26, h⟩ := h
          refine j_iald dX10_readPair_79 rfl (zin ej26 lj26 (by decide)) ?_
          rw [zcl ej26 lj26 (by decide)]
          refine j_iconst (v := 1) dX10_readPair_80 rfl ?_
          refine j_aload_n dX10_readPair_81 rfl ?_
          refine j_getf dX10_readPair_82 fX10_223 rfl rfl ?_
          refine j_ishl dX10_readPair_85 ?_
          refine j_ior dX10_readPair_86 ?_
          obtain ⟨j27, ej27, lj27, h⟩ := h
          refine j_iast dX10_readPair_87 rfl (zin ej27 lj27 (by decide)) ?_
          rw [zcl ej27 lj27 (by decide)]
          refine j_aload_n dX10_readPair_88 rfl ?_
          refine j_getr dX10_readPair_89 fX10_68 rfl rfl ?_
          refine j_aload_n dX10_readPair_92 rfl ?_
          refine j_getv (v := .int (M25 0 37)) dX10_readPair_93 fX10_223 rfl rfl (fun _ => rfl) ?_
          refine j_dup2 dX10_readPair_96 rfl rfl ?_
          obtain ⟨j28, ej28, lj28, h⟩ := h
          refine j_iald dX10_readPair_97 rfl (zin ej28 lj28 (by decide)) ?_
          rw [zcl ej28 lj28 (by decide)]
          refine j_iconst (v := 1) dX10_readPair_98 rfl ?_
          refine j_iload_n dX10_readPair_99 rfl ?_
          refine j_ishl dX10_readPair_100 ?_
          refine j_ior dX10_readPair_101 ?_
          obtain ⟨j29, ej29, lj29, h⟩ := h
          refine j_iast dX10_readPair_102 rfl (zin ej29 lj29 (by decide)) ?_
          rw [zcl ej29 lj29 (by decide)]
          refine j_aload_n dX10_readPair_103 rfl ?_
          obtain ⟨_, hc, h⟩ := h
          refine j_cvw (lc := 3) (as := []) dX10_readPair_104 iX10_next vX10_next kX10_238 (by decide) rfl rfl rfl rfl (Nat.zero_le _) hc (fun M31 hr => ?_)
          have h := h _ hr
          refine j_vret dX10_readPair_107 rfl ?_
          exact ⟨rfl, h⟩
    · have h := h.2 hc8
      refine j_iconst (v := 1) dX10_readPair_31 rfl ?_
      refine j_goto (tgt := 36) dX10_readPair_32 (by decide) ?_
      refine j_iconst (v := 3) dX10_readPair_36 rfl ?_
      obtain ⟨_, hc, h⟩ := h
      refine j_cvw (lc := 0) (as := [.int 1, .int 3]) dX10_readPair_37 iX10_wants vX10_wants kX10_226 (by decide) rfl rfl rfl rfl (Nat.zero_le _) hc (fun M33 hr => ?_)
      have h := h _ hr
      refine j_aload_n dX10_readPair_40 rfl ?_
      refine j_getf dX10_readPair_41 fX10_193 rfl rfl ?_
      refine j_if_ne (tgt := 103) dX10_readPair_44 (by decide) (fun hc34 => ?_) (fun hc34 => ?_)
      · have h := h.1 hc34
        refine j_aload_n dX10_readPair_103 rfl ?_
        obtain ⟨_, hc, h⟩ := h
        refine j_cvw (lc := 3) (as := []) dX10_readPair_104 iX10_next vX10_next kX10_238 (by decide) rfl rfl rfl rfl (Nat.zero_le _) hc (fun M36 hr => ?_)
        have h := h _ hr
        refine j_vret dX10_readPair_107 rfl ?_
        exact ⟨rfl, h⟩
      · have h := h.2 hc34
        refine j_aload_n dX10_readPair_47 rfl ?_
        refine j_aload_n dX10_readPair_48 rfl ?_
        refine j_getr dX10_readPair_49 fX10_68 rfl rfl ?_
        refine j_iload_n dX10_readPair_52 rfl ?_
        obtain ⟨j37, ej37, lj37, h⟩ := h
        refine j_iald dX10_readPair_53 rfl (zin ej37 lj37 (by decide)) ?_
        rw [zcl ej37 lj37 (by decide)]
        refine j_aload_n dX10_readPair_54 rfl ?_
        refine j_getf dX10_readPair_55 fX10_223 rfl rfl ?_
        refine j_ishr dX10_readPair_58 ?_
        refine j_iconst (v := 1) dX10_readPair_59 rfl ?_
        refine j_iand dX10_readPair_60 ?_
        refine j_if_ne (tgt := 68) dX10_readPair_61 (by decide) (fun hc38 => ?_) (fun hc38 => ?_)
        · have h := h.1 hc38
          refine j_iconst (v := 0) dX10_readPair_68 rfl ?_
          refine j_iconst (v := 4) dX10_readPair_69 rfl ?_
          obtain ⟨_, hc, h⟩ := h
          refine j_cvw (lc := 0) (as := [.int 0, .int 4]) dX10_readPair_70 iX10_wants vX10_wants kX10_226 (by decide) rfl rfl rfl rfl (Nat.zero_le _) hc (fun M40 hr => ?_)
          have h := h _ hr
          refine j_aload_n dX10_readPair_73 rfl ?_
          refine j_getr dX10_readPair_74 fX10_68 rfl rfl ?_
          refine j_iload_n dX10_readPair_77 rfl ?_
          refine j_dup2 dX10_readPair_78 rfl rfl ?_
          obtain ⟨j41, ej41, lj41, h⟩ := h
          refine j_iald dX10_readPair_79 rfl (zin ej41 lj41 (by decide)) ?_
          rw [zcl ej41 lj41 (by decide)]
          refine j_iconst (v := 1) dX10_readPair_80 rfl ?_
          refine j_aload_n dX10_readPair_81 rfl ?_
          refine j_getf dX10_readPair_82 fX10_223 rfl rfl ?_
          refine j_ishl dX10_readPair_85 ?_
          refine j_ior dX10_readPair_86 ?_
          obtain ⟨j42, ej42, lj42, h⟩ := h
          refine j_iast dX10_readPair_87 rfl (zin ej42 lj42 (by decide)) ?_
          rw [zcl ej42 lj42 (by decide)]
          refine j_aload_n dX10_readPair_88 rfl ?_
          refine j_getr dX10_readPair_89 fX10_68 rfl rfl ?_
          refine j_aload_n dX10_readPair_92 rfl ?_
          refine j_getv (v := .int (M40 0 37)) dX10_readPair_93 fX10_223 rfl rfl (fun _ => rfl) ?_
          refine j_dup2 dX10_readPair_96 rfl rfl ?_
          obtain ⟨j43, ej43, lj43, h⟩ := h
          refine j_iald dX10_readPair_97 rfl (zin ej43 lj43 (by decide)) ?_
          rw [zcl ej43 lj43 (by decide)]
          refine j_iconst (v := 1) dX10_readPair_98 rfl ?_
          refine j_iload_n dX10_readPair_99 rfl ?_
          refine j_ishl dX10_readPair_100 ?_
          refine j_ior dX10_readPair_101 ?_
          obtain ⟨j44, ej44, lj44, h⟩ := h
          refine j_iast dX10_readPair_102 rfl (zin ej44 lj44 (by decide)) ?_
          rw [zcl ej44 lj44 (by decide)]
          refine j_aload_n dX10_readPair_103 rfl ?_
          obtain ⟨_, hc, h⟩ := h
          refine j_cvw (lc := 3) (as := []) dX10_readPair_104 iX10_next vX10_next kX10_238 (by decide) rfl rfl rfl rfl (Nat.zero_le _) hc (fun M46 hr => ?_)
          have h := h _ hr
          refine j_vret dX10_readPair_107 rfl ?_
          exact ⟨rfl, h⟩
        · have h := h.2 hc38
          refine j_iconst (v := 1) dX10_readPair_64 rfl ?_
          refine j_goto (tgt := 69) dX10_readPair_65 (by decide) ?_
          refine j_iconst (v := 4) dX10_readPair_69 rfl ?_
          obtain ⟨_, hc, h⟩ := h
          refine j_cvw (lc := 0) (as := [.int 1, .int 4]) dX10_readPair_70 iX10_wants vX10_wants kX10_226 (by decide) rfl rfl rfl rfl (Nat.zero_le _) hc (fun M48 hr => ?_)
          have h := h _ hr
          refine j_aload_n dX10_readPair_73 rfl ?_
          refine j_getr dX10_readPair_74 fX10_68 rfl rfl ?_
          refine j_iload_n dX10_readPair_77 rfl ?_
          refine j_dup2 dX10_readPair_78 rfl rfl ?_
          obtain ⟨j49, ej49, lj49, h⟩ := h
          refine j_iald dX10_readPair_79 rfl (zin ej49 lj49 (by decide)) ?_
          rw [zcl ej49 lj49 (by decide)]
          refine j_iconst (v := 1) dX10_readPair_80 rfl ?_
          refine j_aload_n dX10_readPair_81 rfl ?_
          refine j_getf dX10_readPair_82 fX10_223 rfl rfl ?_
          refine j_ishl dX10_readPair_85 ?_
          refine j_ior dX10_readPair_86 ?_
          obtain ⟨j50, ej50, lj50, h⟩ := h
          refine j_iast dX10_readPair_87 rfl (zin ej50 lj50 (by decide)) ?_
          rw [zcl ej50 lj50 (by decide)]
          refine j_aload_n dX10_readPair_88 rfl ?_
          refine j_getr dX10_readPair_89 fX10_68 rfl rfl ?_
          refine j_aload_n dX10_readPair_92 rfl ?_
          refine j_getv (v := .int (M48 0 37)) dX10_readPair_93 fX10_223 rfl rfl (fun _ => rfl) ?_
          refine j_dup2 dX10_readPair_96 rfl rfl ?_
          obtain ⟨j51, ej51, lj51, h⟩ := h
          refine j_iald dX10_readPair_97 rfl (zin ej51 lj51 (by decide)) ?_
          rw [zcl ej51 lj51 (by decide)]
          refine j_iconst (v := 1) dX10_readPair_98 rfl ?_
          refine j_iload_n dX10_readPair_99 rfl ?_
          refine j_ishl dX10_readPair_100 ?_
          refine j_ior dX10_readPair_101 ?_
          obtain ⟨j52, ej52, lj52, h⟩ := h
          refine j_iast dX10_readPair_102 rfl (zin ej52 lj52 (by decide)) ?_
          rw [zcl ej52 lj52 (by decide)]
          refine j_aload_n dX10_readPair_103 rfl ?_
          obtain ⟨_, hc, h⟩ := h
          refine j_cvw (lc := 3) (as := []) dX10_readPair_104 iX10_next vX10_next kX10_238 (by decide) rfl rfl rfl rfl (Nat.zero_le _) hc (fun M54 hr => ?_)
          have h := h _ hr
          refine j_vret dX10_readPair_107 rfl ?_
          exact ⟨rfl, h⟩
abbrev LX10_readLine_14 (P : zX → Prop) (M : zX) (s0 : Int32) : Prop := zJ SY 6 mX10_readLine (zRw P) 14 [some (.ref 0), none] [.int s0, .ref 0] M
abbrev LX10_readLine_58 (P : zX → Prop) (M : zX) (x1 : Int32) (s0 : Int32) : Prop := zJ SY 6 mX10_readLine (zRw P) 58 [some (.ref 0), some (.int x1)] [.int s0, .ref 0] M
abbrev LX10_readLine_157 (P : zX → Prop) (M : zX)  : Prop := zJ SY 6 mX10_readLine (zRw P) 157 [some (.ref 0), none] [] M
theorem eX10_readLine (P : zX → Prop) (X : zX)  (h : ((¬ (X 0 36) = 1) → (LX10_readLine_14 P X 0)) ∧ (((X 0 36) = 1) → (LX10_readLine_14 P X 1))) : zPw SY 6 mX10_readLine [.ref 0] X P := by
  refine zP_in [some (.ref 0), none] ⟨rfl, trivial⟩ (by decide) (Nat.le_of_ble_eq_true rfl) ?_
  refine j_aload_n dX10_readLine_0 rfl ?_
  refine j_aload_n dX10_readLine_1 rfl ?_
  refine j_getf dX10_readLine_2 fX10_212 rfl rfl ?_
  refine j_iconst (v := 1) dX10_readLine_5 rfl ?_
  refine j_ic_ne (tgt := 13) dX10_readLine_6 (by decide) (fun hc1 => ?_) (fun hc1 => ?_)
  · have h := h.1 hc1
    refine j_iconst (v := 0) dX10_readLine_13 rfl ?_
    exact zJw h ⟨rfl, trivial⟩
  · have h := h.2 hc1
    refine j_iconst (v := 1) dX10_readLine_9 rfl ?_
    refine j_goto (tgt := 14) dX10_readLine_10 (by decide) ?_
    exact zJw h ⟨rfl, trivial⟩
theorem bX10_readLine_14 (P : zX → Prop) (M : zX) (s0 : Int32) (h : ∃ Qr2 : zX → Prop, zPw SY 0 mX10_wants [.ref 0, .int s0, .int 2] M Qr2 ∧ ∀ M3 : zX, Qr2 M3 → ((((M3 0 38) ≤ 0) → (∃ r5 : Int32, zPf SY 0 mX10_in [.long (M3 0 37).toInt64, .long 1, .long 3] M3 r5 ∧ (((r5 = 0) → (LX10_readLine_58 P M3 (M3 0 37) 1)) ∧ ((¬ (r5 = 0)) → (∃ j7 : Nat, (M3 0 37) = nI j7 ∧ j7 < 6 ∧ (((¬ (M3 21 j7) = 0) → (LX10_readLine_58 P M3 (M3 0 37) 0)) ∧ (((M3 21 j7) = 0) → (LX10_readLine_58 P M3 (M3 0 37) 1)))))))) ∧ ((¬ ((M3 0 38) ≤ 0)) → (P M3)))) : LX10_readLine_14 P M s0 := by
  refine j_iconst (v := 2) dX10_readLine_14 rfl ?_
  obtain ⟨_, hc, h⟩ := h
  refine j_cvw (lc := 0) (as := [.int s0, .int 2]) dX10_readLine_15 iX10_wants vX10_wants kX10_226 (by decide) rfl rfl rfl rfl (Nat.zero_le _) hc (fun M3 hr => ?_)
  have h := h _ hr
  refine j_aload_n dX10_readLine_18 rfl ?_
  refine j_getf dX10_readLine_19 fX10_193 rfl rfl ?_
  refine j_if_le (tgt := 26) dX10_readLine_22 (by decide) (fun hc4 => ?_) (fun hc4 => ?_)
  · have h := h.1 hc4
    refine j_aload_n dX10_readLine_26 rfl ?_
    refine j_getf dX10_readLine_27 fX10_223 rfl rfl ?_
    refine j_istore_n (L2 := [some (.ref 0), some (.int (M3 0 37))]) dX10_readLine_30 (by decide) (zno rfl) rfl ?_
    refine j_aload_n dX10_readLine_31 rfl ?_
    refine j_iload_n dX10_readLine_32 rfl ?_
    refine j_i2l dX10_readLine_33 ?_
    refine j_lconst (v := 1) dX10_readLine_34 rfl ?_
    refine j_ldc2 (v := 3) dX10_readLine_35 qX10_112 ?_
    obtain ⟨r5, hc, h⟩ := h
    refine j_csf (lc := 0) (as := [.long (M3 0 37).toInt64, .long 1, .long 3]) dX10_readLine_38 iX10_in sX10_in kX10_102 (by decide) rfl rfl (by simp [Value.category]) hc ?_
    refine j_if_eq (tgt := 53) dX10_readLine_41 (by decide) (fun hc6 => ?_) (fun hc6 => ?_)
    · have h := h.1 hc6
      refine j_iconst (v := 1) dX10_readLine_53 rfl ?_
      refine j_goto (tgt := 58) dX10_readLine_54 (by decide) ?_
      exact zJw h ⟨rfl, rfl, trivial⟩
    · have h := h.2 hc6
      refine j_aload_n dX10_readLine_44 rfl ?_
      refine j_getr dX10_readLine_45 fX10_71 rfl rfl ?_
      refine j_iload_n dX10_readLine_48 rfl ?_
      obtain ⟨j7, ej7, lj7, h⟩ := h
      refine j_zald dX10_readLine_49 rfl (zin ej7 lj7 (by decide)) ?_
      rw [zcl ej7 lj7 (by decide)]
      refine j_if_ne (tgt := 57) dX10_readLine_50 (by decide) (fun hc8 => ?_) (fun hc8 => ?_)
      · have h := h.1 hc8
        refine j_iconst (v := 0) dX10_readLine_57 rfl ?_
        exact zJw h ⟨rfl, rfl, trivial⟩
      · have h := h.2 hc8
        refine j_iconst (v := 1) dX10_readLine_53 rfl ?_
        refine j_goto (tgt := 58) dX10_readLine_54 (by decide) ?_
        exact zJw h ⟨rfl, rfl, trivial⟩
  · have h := h.2 hc4
    refine j_vret dX10_readLine_25 rfl ?_
    exact ⟨rfl, h⟩
theorem bX10_readLine_58 (P : zX → Prop) (M : zX) (x1 : Int32) (s0 : Int32) (h : ∃ Qr9 : zX → Prop, zPw SY 0 mX10_wants [.ref 0, .int s0, .int 4] M Qr9 ∧ ∀ M10 : zX, Qr9 M10 → (∃ j11 : Nat, x1 = nI j11 ∧ j11 < 6 ∧ (∃ Qr12 : zX → Prop, zPw SY 3 mX10_next [.ref 0] (zs M10 21 j11 (vp_nar .boolean 1)) Qr12 ∧ ∀ M13 : zX, Qr12 M13 → (((¬ x1 = 0) → (((¬ x1 = 1) → (((¬ x1 = 2) → (((¬ x1 = 3) → (((¬ x1 = 4) → (∃ Qr19 : zX → Prop, zPw SY 5 mX10_readPair [.ref 0] M13 Qr19 ∧ ∀ M20 : zX, Qr19 M20 → (LX10_readLine_157 P M20))) ∧ ((x1 = 4) → (∃ Qr21 : zX → Prop, zPw SY 5 mX10_readDry [.ref 0] M13 Qr21 ∧ ∀ M22 : zX, Qr21 M22 → (LX10_readLine_157 P M22))))) ∧ ((x1 = 3) → (∃ Qr23 : Int32 → zX → Prop, zPi SY 4 mX10_readNumber [.ref 0, .int 1, .int 20] M13 Qr23 ∧ ∀ (r23 : Int32) (M24 : zX), Qr23 r23 M24 → (LX10_readLine_157 P (zs M24 0 27 r23)))))) ∧ ((x1 = 2) → (∃ Qr25 : Int32 → zX → Prop, zPi SY 4 mX10_readNumber [.ref 0, .int 0, .int 99] M13 Qr25 ∧ ∀ (r25 : Int32) (M26 : zX), Qr25 r25 M26 → (LX10_readLine_157 P (zs M26 0 26 r25)))))) ∧ ((x1 = 1) → (∃ Qr27 : Int32 → zX → Prop, zPi SY 4 mX10_readNumber [.ref 0, .int 0, .int 99] M13 Qr27 ∧ ∀ (r27 : Int32) (M28 : zX), Qr27 r27 M28 → (LX10_readLine_157 P (zs M28 0 25 r27)))))) ∧ ((x1 = 0) → (∃ Qr29 : zX → Prop, zPw SY 5 mX10_readHear [.ref 0] M13 Qr29 ∧ ∀ M30 : zX, Qr29 M30 → (LX10_readLine_157 P M30))))))) : LX10_readLine_58 P M x1 s0 := by
  refine j_iconst (v := 4) dX10_readLine_58 rfl ?_
  obtain ⟨_, hc, h⟩ := h
  refine j_cvw (lc := 0) (as := [.int s0, .int 4]) dX10_readLine_59 iX10_wants vX10_wants kX10_226 (by decide) rfl rfl rfl rfl (Nat.zero_le _) hc (fun M10 hr => ?_)
  have h := h _ hr
  refine j_aload_n dX10_readLine_62 rfl ?_
  refine j_getr dX10_readLine_63 fX10_71 rfl rfl ?_
  refine j_iload_n dX10_readLine_66 rfl ?_
  refine j_iconst (v := 1) dX10_readLine_67 rfl ?_
  obtain ⟨j11, ej11, lj11, h⟩ := h
  refine j_zast dX10_readLine_68 rfl (zin ej11 lj11 (by decide)) ?_
  rw [zcl ej11 lj11 (by decide)]
  refine j_aload_n dX10_readLine_69 rfl ?_
  obtain ⟨_, hc, h⟩ := h
  refine j_cvw (lc := 3) (as := []) dX10_readLine_70 iX10_next vX10_next kX10_238 (by decide) rfl rfl rfl rfl (Nat.zero_le _) hc (fun M13 hr => ?_)
  have h := h _ hr
  refine j_iload_n dX10_readLine_73 rfl ?_
  refine j_if_ne (tgt := 84) dX10_readLine_74 (by decide) (fun hc14 => ?_) (fun hc14 => ?_)
  · have h := h.1 hc14
    refine j_iload_n dX10_readLine_84 rfl ?_
    refine j_iconst (v := 1) dX10_readLine_85 rfl ?_
    refine j_ic_ne (tgt := 103) dX10_readLine_86 (by decide) (fun hc15 => ?_) (fun hc15 => ?_)
    · have h := h.1 hc15
      refine j_iload_n dX10_readLine_103 rfl ?_
      refine j_iconst (v := 2) dX10_readLine_104 rfl ?_
      refine j_ic_ne (tgt := 122) dX10_readLine_105 (by decide) (fun hc16 => ?_) (fun hc16 => ?_)
      · have h := h.1 hc16
        refine j_iload_n dX10_readLine_122 rfl ?_
        refine j_iconst (v := 3) dX10_readLine_123 rfl ?_
        refine j_ic_ne (tgt := 141) dX10_readLine_124 (by decide) (fun hc17 => ?_) (fun hc17 => ?_)
        · have h := h.1 hc17
          refine j_iload_n dX10_readLine_141 rfl ?_
          refine j_iconst (v := 4) dX10_readLine_142 rfl ?_
          refine j_ic_ne (tgt := 153) dX10_readLine_143 (by decide) (fun hc18 => ?_) (fun hc18 => ?_)
          · have h := h.1 hc18
            refine j_aload_n dX10_readLine_153 rfl ?_
            obtain ⟨_, hc, h⟩ := h
            refine j_cvw (lc := 5) (as := []) dX10_readLine_154 iX10_readPair vX10_readPair kX10_251 (by decide) rfl rfl rfl rfl (Nat.zero_le _) hc (fun M20 hr => ?_)
            have h := h _ hr
            exact zJw h ⟨rfl, trivial⟩
          · have h := h.2 hc18
            refine j_aload_n dX10_readLine_146 rfl ?_
            obtain ⟨_, hc, h⟩ := h
            refine j_cvw (lc := 5) (as := []) dX10_readLine_147 iX10_readDry vX10_readDry kX10_248 (by decide) rfl rfl rfl rfl (Nat.zero_le _) hc (fun M22 hr => ?_)
            have h := h _ hr
            refine j_goto (tgt := 157) dX10_readLine_150 (by decide) ?_
            exact zJw h ⟨rfl, trivial⟩
        · have h := h.2 hc17
          refine j_aload_n dX10_readLine_127 rfl ?_
          refine j_aload_n dX10_readLine_128 rfl ?_
          refine j_iconst (v := 1) dX10_readLine_129 rfl ?_
          refine j_bipush (v := 20) dX10_readLine_130 rfl ?_
          obtain ⟨_, hc, h⟩ := h
          refine j_cvi (lc := 4) (as := [.int 1, .int 20]) dX10_readLine_132 iX10_readNumber vX10_readNumber kX10_241 (by decide) rfl rfl rfl rfl (by simp [Value.category]) hc (fun r23 M24 hr => ?_)
          have h := h _ _ hr
          refine j_putf dX10_readLine_135 fX10_176 pX10_27 rfl rfl ?_
          refine j_goto (tgt := 157) dX10_readLine_138 (by decide) ?_
          exact zJw h ⟨rfl, trivial⟩
      · have h := h.2 hc16
        refine j_aload_n dX10_readLine_108 rfl ?_
        refine j_aload_n dX10_readLine_109 rfl ?_
        refine j_iconst (v := 0) dX10_readLine_110 rfl ?_
        refine j_bipush (v := 99) dX10_readLine_111 rfl ?_
        obtain ⟨_, hc, h⟩ := h
        refine j_cvi (lc := 4) (as := [.int 0, .int 99]) dX10_readLine_113 iX10_readNumber vX10_readNumber kX10_241 (by decide) rfl rfl rfl rfl (by simp [Value.category]) hc (fun r25 M26 hr => ?_)
        have h := h _ _ hr
        refine j_putf dX10_readLine_116 fX10_173 pX10_26 rfl rfl ?_
        refine j_goto (tgt := 157) dX10_readLine_119 (by decide) ?_
        exact zJw h ⟨rfl, trivial⟩
    · have h := h.2 hc15
      refine j_aload_n dX10_readLine_89 rfl ?_
      refine j_aload_n dX10_readLine_90 rfl ?_
      refine j_iconst (v := 0) dX10_readLine_91 rfl ?_
      refine j_bipush (v := 99) dX10_readLine_92 rfl ?_
      obtain ⟨_, hc, h⟩ := h
      refine j_cvi (lc := 4) (as := [.int 0, .int 99]) dX10_readLine_94 iX10_readNumber vX10_readNumber kX10_241 (by decide) rfl rfl rfl rfl (by simp [Value.category]) hc (fun r27 M28 hr => ?_)
      have h := h _ _ hr
      refine j_putf dX10_readLine_97 fX10_170 pX10_25 rfl rfl ?_
      refine j_goto (tgt := 157) dX10_readLine_100 (by decide) ?_
      exact zJw h ⟨rfl, trivial⟩
  · have h := h.2 hc14
    refine j_aload_n dX10_readLine_77 rfl ?_
    obtain ⟨_, hc, h⟩ := h
    refine j_cvw (lc := 5) (as := []) dX10_readLine_78 iX10_readHear vX10_readHear kX10_245 (by decide) rfl rfl rfl rfl (Nat.zero_le _) hc (fun M30 hr => ?_)
    have h := h _ hr
    refine j_goto (tgt := 157) dX10_readLine_81 (by decide) ?_
    exact zJw h ⟨rfl, trivial⟩
theorem bX10_readLine_157 (P : zX → Prop) (M : zX)  (h : ((¬ (M 0 38) = 0) → (∃ Qr32 : zX → Prop, zPw SY 3 mX10_next [.ref 0] M Qr32 ∧ ∀ M33 : zX, Qr32 M33 → (P M33))) ∧ (((M 0 38) = 0) → (((¬ (M 0 36) = 3) → (∃ Qr35 : zX → Prop, zPw SY 0 mX10_wants [.ref 0, .int 0, .int 2] M Qr35 ∧ ∀ M36 : zX, Qr35 M36 → (∃ Qr37 : zX → Prop, zPw SY 3 mX10_next [.ref 0] M36 Qr37 ∧ ∀ M38 : zX, Qr37 M38 → (P M38)))) ∧ (((M 0 36) = 3) → (∃ Qr39 : zX → Prop, zPw SY 0 mX10_wants [.ref 0, .int 1, .int 2] M Qr39 ∧ ∀ M40 : zX, Qr39 M40 → (∃ Qr41 : zX → Prop, zPw SY 3 mX10_next [.ref 0] M40 Qr41 ∧ ∀ M42 : zX, Qr41 M42 → (P M42))))))) : LX10_readLine_157 P M  := by
  refine j_aload_n dX10_readLine_157 rfl ?_
  refine j_getf dX10_readLine_158 fX10_193 rfl rfl ?_
  refine j_if_ne (tgt := 182) dX10_readLine_161 (by decide) (fun hc31 => ?_) (fun hc31 => ?_)
  · have h := h.1 hc31
    refine j_aload_n dX10_readLine_182 rfl ?_
    obtain ⟨_, hc, h⟩ := h
    refine j_cvw (lc := 3) (as := []) dX10_readLine_183 iX10_next vX10_next kX10_238 (by decide) rfl rfl rfl rfl (Nat.zero_le _) hc (fun M33 hr => ?_)
    have h := h _ hr
    refine j_vret dX10_readLine_186 rfl ?_
    exact ⟨rfl, h⟩
  · have h := h.2 hc31
    refine j_aload_n dX10_readLine_164 rfl ?_
    refine j_aload_n dX10_readLine_165 rfl ?_
    refine j_getf dX10_readLine_166 fX10_212 rfl rfl ?_
    refine j_iconst (v := 3) dX10_readLine_169 rfl ?_
    refine j_ic_ne (tgt := 177) dX10_readLine_170 (by decide) (fun hc34 => ?_) (fun hc34 => ?_)
    · have h := h.1 hc34
      refine j_iconst (v := 0) dX10_readLine_177 rfl ?_
      refine j_iconst (v := 2) dX10_readLine_178 rfl ?_
      obtain ⟨_, hc, h⟩ := h
      refine j_cvw (lc := 0) (as := [.int 0, .int 2]) dX10_readLine_179 iX10_wants vX10_wants kX10_226 (by decide) rfl rfl rfl rfl (Nat.zero_le _) hc (fun M36 hr => ?_)
      have h := h _ hr
      refine j_aload_n dX10_readLine_182 rfl ?_
      obtain ⟨_, hc, h⟩ := h
      refine j_cvw (lc := 3) (as := []) dX10_readLine_183 iX10_next vX10_next kX10_238 (by decide) rfl rfl rfl rfl (Nat.zero_le _) hc (fun M38 hr => ?_)
      have h := h _ hr
      refine j_vret dX10_readLine_186 rfl ?_
      exact ⟨rfl, h⟩
    · have h := h.2 hc34
      refine j_iconst (v := 1) dX10_readLine_173 rfl ?_
      refine j_goto (tgt := 178) dX10_readLine_174 (by decide) ?_
      refine j_iconst (v := 2) dX10_readLine_178 rfl ?_
      obtain ⟨_, hc, h⟩ := h
      refine j_cvw (lc := 0) (as := [.int 1, .int 2]) dX10_readLine_179 iX10_wants vX10_wants kX10_226 (by decide) rfl rfl rfl rfl (Nat.zero_le _) hc (fun M40 hr => ?_)
      have h := h _ hr
      refine j_aload_n dX10_readLine_182 rfl ?_
      obtain ⟨_, hc, h⟩ := h
      refine j_cvw (lc := 3) (as := []) dX10_readLine_183 iX10_next vX10_next kX10_238 (by decide) rfl rfl rfl rfl (Nat.zero_le _) hc (fun M42 hr => ?_)
      have h := h _ hr
      refine j_vret dX10_readLine_186 rfl ?_
      exact ⟨rfl, h⟩
abbrev LX10_rules_20 (P : Int32 → zX → Prop) (M : zX) (x1 : Int32) : Prop := zJ SY 7 mX10_rules (zRi P) 20 [some (.ref 0), some (.int x1)] [] M
theorem eX10_rules (P : Int32 → zX → Prop) (X : zX)  (h : ∃ Qr1 : zX → Prop, zPw SY 0 mX10_firstDraft [.ref 0] (zs (zs X 0 38 0) 0 34 0) Qr1 ∧ ∀ M2 : zX, Qr1 M2 → (∃ Qr3 : zX → Prop, zPw SY 3 mX10_next [.ref 0] M2 Qr3 ∧ ∀ M4 : zX, Qr3 M4 → (LX10_rules_20 P M4 0))) : zPi SY 7 mX10_rules [.ref 0] X P := by
  refine zP_in [some (.ref 0), none] ⟨rfl, trivial⟩ (by decide) (Nat.le_of_ble_eq_true rfl) ?_
  refine j_iconst (v := 0) dX10_rules_0 rfl ?_
  refine j_istore_n (L2 := [some (.ref 0), some (.int 0)]) dX10_rules_1 (by decide) (zno rfl) rfl ?_
  refine j_aload_n dX10_rules_2 rfl ?_
  refine j_iconst (v := 0) dX10_rules_3 rfl ?_
  refine j_putf dX10_rules_4 fX10_193 pX10_38 rfl rfl ?_
  refine j_aload_n dX10_rules_7 rfl ?_
  refine j_iconst (v := 0) dX10_rules_8 rfl ?_
  refine j_putf dX10_rules_9 fX10_202 pX10_34 rfl rfl ?_
  refine j_aload_n dX10_rules_12 rfl ?_
  obtain ⟨_, hc, h⟩ := h
  refine j_cvw (lc := 0) (as := []) dX10_rules_13 iX10_firstDraft vX10_firstDraft kX10_92 (by decide) rfl rfl rfl rfl (Nat.zero_le _) hc (fun M2 hr => ?_)
  have h := h _ hr
  refine j_aload_n dX10_rules_16 rfl ?_
  obtain ⟨_, hc, h⟩ := h
  refine j_cvw (lc := 3) (as := []) dX10_rules_17 iX10_next vX10_next kX10_238 (by decide) rfl rfl rfl rfl (Nat.zero_le _) hc (fun M4 hr => ?_)
  have h := h _ hr
  exact zJw h ⟨rfl, rfl, trivial⟩
theorem bX10_rules_20 (P : Int32 → zX → Prop) (M : zX) (x1 : Int32) (h : ((¬ (M 0 38) = 0) → ((((M 0 38) ≤ 0) → (∃ Qr7 : zX → Prop, zPw SY 0 mX10_keepDraft [.ref 0] (zs M 0 33 0) Qr7 ∧ ∀ M8 : zX, Qr7 M8 → (P x1 M8))) ∧ ((¬ ((M 0 38) ≤ 0)) → (P ((-10) - (M 0 39)) (zs M 0 33 0))))) ∧ (((M 0 38) = 0) → ((((M 0 36) = 0) → ((((M 0 38) ≤ 0) → (∃ Qr11 : zX → Prop, zPw SY 0 mX10_keepDraft [.ref 0] (zs M 0 33 0) Qr11 ∧ ∀ M12 : zX, Qr11 M12 → (P x1 M12))) ∧ ((¬ ((M 0 38) ≤ 0)) → (P ((-10) - (M 0 39)) (zs M 0 33 0))))) ∧ ((¬ ((M 0 36) = 0)) → (∃ Qr13 : zX → Prop, zPw SY 6 mX10_readLine [.ref 0] M Qr13 ∧ ∀ M14 : zX, Qr13 M14 → (LX10_rules_20 P M14 (x1 + 1))))))) : LX10_rules_20 P M x1 := by
  refine j_aload_n dX10_rules_20 rfl ?_
  refine j_getf dX10_rules_21 fX10_193 rfl rfl ?_
  refine j_if_ne (tgt := 44) dX10_rules_24 (by decide) (fun hc5 => ?_) (fun hc5 => ?_)
  · have h := h.1 hc5
    refine j_aload_n dX10_rules_44 rfl ?_
    refine j_iconst (v := 0) dX10_rules_45 rfl ?_
    refine j_putf dX10_rules_46 fX10_188 pX10_33 rfl rfl ?_
    refine j_aload_n dX10_rules_49 rfl ?_
    refine j_getv (v := .int (M 0 38)) dX10_rules_50 fX10_193 rfl rfl (fun _ => rfl) ?_
    refine j_if_le (tgt := 64) dX10_rules_53 (by decide) (fun hc6 => ?_) (fun hc6 => ?_)
    · have h := h.1 hc6
      refine j_aload_n dX10_rules_64 rfl ?_
      obtain ⟨_, hc, h⟩ := h
      refine j_cvw (lc := 0) (as := []) dX10_rules_65 iX10_keepDraft vX10_keepDraft kX10_95 (by decide) rfl rfl rfl rfl (Nat.zero_le _) hc (fun M8 hr => ?_)
      have h := h _ hr
      refine j_iload_n dX10_rules_68 rfl ?_
      refine j_iret dX10_rules_69 rfl rfl ?_
      exact ⟨_, rfl, h⟩
    · have h := h.2 hc6
      refine j_bipush (v := (-10)) dX10_rules_56 rfl ?_
      refine j_aload_n dX10_rules_58 rfl ?_
      refine j_getv (v := .int (M 0 39)) dX10_rules_59 fX10_199 rfl rfl (fun _ => rfl) ?_
      refine j_isub dX10_rules_62 ?_
      refine j_iret dX10_rules_63 rfl rfl ?_
      exact ⟨_, rfl, h⟩
  · have h := h.2 hc5
    refine j_aload_n dX10_rules_27 rfl ?_
    refine j_getf dX10_rules_28 fX10_212 rfl rfl ?_
    refine j_if_eq (tgt := 44) dX10_rules_31 (by decide) (fun hc9 => ?_) (fun hc9 => ?_)
    · have h := h.1 hc9
      refine j_aload_n dX10_rules_44 rfl ?_
      refine j_iconst (v := 0) dX10_rules_45 rfl ?_
      refine j_putf dX10_rules_46 fX10_188 pX10_33 rfl rfl ?_
      refine j_aload_n dX10_rules_49 rfl ?_
      refine j_getv (v := .int (M 0 38)) dX10_rules_50 fX10_193 rfl rfl (fun _ => rfl) ?_
      refine j_if_le (tgt := 64) dX10_rules_53 (by decide) (fun hc10 => ?_) (fun hc10 => ?_)
      · have h := h.1 hc10
        refine j_aload_n dX10_rules_64 rfl ?_
        obtain ⟨_, hc, h⟩ := h
        refine j_cvw (lc := 0) (as := []) dX10_rules_65 iX10_keepDraft vX10_keepDraft kX10_95 (by decide) rfl rfl rfl rfl (Nat.zero_le _) hc (fun M12 hr => ?_)
        have h := h _ hr
        refine j_iload_n dX10_rules_68 rfl ?_
        refine j_iret dX10_rules_69 rfl rfl ?_
        exact ⟨_, rfl, h⟩
      · have h := h.2 hc10
        refine j_bipush (v := (-10)) dX10_rules_56 rfl ?_
        refine j_aload_n dX10_rules_58 rfl ?_
        refine j_getv (v := .int (M 0 39)) dX10_rules_59 fX10_199 rfl rfl (fun _ => rfl) ?_
        refine j_isub dX10_rules_62 ?_
        refine j_iret dX10_rules_63 rfl rfl ?_
        exact ⟨_, rfl, h⟩
    · have h := h.2 hc9
      refine j_aload_n dX10_rules_34 rfl ?_
      obtain ⟨_, hc, h⟩ := h
      refine j_cvw (lc := 6) (as := []) dX10_rules_35 iX10_readLine vX10_readLine kX10_254 (by decide) rfl rfl rfl rfl (Nat.zero_le _) hc (fun M14 hr => ?_)
      have h := h _ hr
      refine j_iinc (v := (x1 + 1)) (L2 := [some (.ref 0), some (.int (x1 + 1))]) dX10_rules_38 rfl rfl (by decide) (zno rfl) rfl ?_
      refine j_goto (tgt := 20) dX10_rules_41 (by decide) ?_
      exact zJw h ⟨rfl, rfl, trivial⟩
theorem eX10_fault (v : Int32) (X : zX)  (h : (X 0 38) = v) : zPf SY 0 mX10_fault [.ref 0] X v := by
  refine zP_in [some (.ref 0)] ⟨rfl, trivial⟩ (by decide) (Nat.le_of_ble_eq_true rfl) ?_
  refine j_aload_n dX10_fault_0 rfl ?_
  refine j_getf dX10_fault_1 fX10_193 rfl rfl ?_
  refine j_iret dX10_fault_4 rfl rfl ?_
  exact ⟨by rw [h], rfl⟩
theorem eX10_rule (v : Int32) (X : zX) (a1 : Int32) (h : ∃ r1 : Int32, zPf SY 0 mX10_in [.long a1.toInt64, .long 0, .long 2] X r1 ∧ (((r1 = 0) → (∃ r3 : Int32, zPf SY 0 mX10_in [.long a1.toInt64, .long 10, .long 17] X r3 ∧ (((r3 = 0) → (∃ r5 : Int32, zPf SY 0 mX10_in [.long a1.toInt64, .long 30, .long 53] X r5 ∧ (((r5 = 0) → ((-1) = v)) ∧ ((¬ (r5 = 0)) → (∃ j7 : Nat, (a1 - 30) = nI j7 ∧ j7 < 24 ∧ ((X 17 j7) = v)))))) ∧ ((¬ (r3 = 0)) → (∃ j8 : Nat, (a1 - 10) = nI j8 ∧ j8 < 8 ∧ ((X 15 j8) = v)))))) ∧ ((¬ (r1 = 0)) → (((¬ a1 = 0) → (((¬ a1 = 1) → ((X 0 21) = v)) ∧ ((a1 = 1) → ((X 0 20) = v)))) ∧ ((a1 = 0) → ((X 0 19) = v)))))) : zPf SY 1 mX10_rule [.ref 0, .int a1] X v := by
  refine zP_in [some (.ref 0), some (.int a1)] ⟨rfl, rfl, trivial⟩ (by decide) (Nat.le_of_ble_eq_true rfl) ?_
  refine j_iload_n dX10_rule_0 rfl ?_
  refine j_i2l dX10_rule_1 ?_
  refine j_lconst (v := 0) dX10_rule_2 rfl ?_
  refine j_ldc2 (v := 2) dX10_rule_3 qX10_257 ?_
  obtain ⟨r1, hc, h⟩ := h
  refine j_csf (lc := 0) (as := [.long a1.toInt64, .long 0, .long 2]) dX10_rule_6 iX10_in sX10_in kX10_102 (by decide) rfl rfl (Nat.zero_le _) hc ?_
  refine j_if_eq (tgt := 40) dX10_rule_9 (by decide) (fun hc2 => ?_) (fun hc2 => ?_)
  · have h := h.1 hc2
    refine j_iload_n dX10_rule_40 rfl ?_
    refine j_i2l dX10_rule_41 ?_
    refine j_ldc2 (v := 10) dX10_rule_42 qX10_259 ?_
    refine j_ldc2 (v := 17) dX10_rule_45 qX10_261 ?_
    obtain ⟨r3, hc, h⟩ := h
    refine j_csf (lc := 0) (as := [.long a1.toInt64, .long 10, .long 17]) dX10_rule_48 iX10_in sX10_in kX10_102 (by decide) rfl rfl (Nat.zero_le _) hc ?_
    refine j_if_eq (tgt := 66) dX10_rule_51 (by decide) (fun hc4 => ?_) (fun hc4 => ?_)
    · have h := h.1 hc4
      refine j_iload_n dX10_rule_66 rfl ?_
      refine j_i2l dX10_rule_67 ?_
      refine j_ldc2 (v := 30) dX10_rule_68 qX10_263 ?_
      refine j_ldc2 (v := 53) dX10_rule_71 qX10_265 ?_
      obtain ⟨r5, hc, h⟩ := h
      refine j_csf (lc := 0) (as := [.long a1.toInt64, .long 30, .long 53]) dX10_rule_74 iX10_in sX10_in kX10_102 (by decide) rfl rfl (Nat.zero_le _) hc ?_
      refine j_if_eq (tgt := 92) dX10_rule_77 (by decide) (fun hc6 => ?_) (fun hc6 => ?_)
      · have h := h.1 hc6
        refine j_iconst (v := (-1)) dX10_rule_92 rfl ?_
        refine j_iret dX10_rule_93 rfl rfl ?_
        exact ⟨by rw [h], rfl⟩
      · have h := h.2 hc6
        refine j_aload_n dX10_rule_80 rfl ?_
        refine j_getr dX10_rule_81 fX10_59 rfl rfl ?_
        refine j_iload_n dX10_rule_84 rfl ?_
        refine j_bipush (v := 30) dX10_rule_85 rfl ?_
        refine j_isub dX10_rule_87 ?_
        obtain ⟨j7, ej7, lj7, h⟩ := h
        refine j_iald dX10_rule_88 rfl (zin ej7 lj7 (by decide)) ?_
        rw [zcl ej7 lj7 (by decide)]
        refine j_goto (tgt := 93) dX10_rule_89 (by decide) ?_
        refine j_iret dX10_rule_93 rfl rfl ?_
        exact ⟨by rw [h], rfl⟩
    · have h := h.2 hc4
      refine j_aload_n dX10_rule_54 rfl ?_
      refine j_getr dX10_rule_55 fX10_53 rfl rfl ?_
      refine j_iload_n dX10_rule_58 rfl ?_
      refine j_bipush (v := 10) dX10_rule_59 rfl ?_
      refine j_isub dX10_rule_61 ?_
      obtain ⟨j8, ej8, lj8, h⟩ := h
      refine j_iald dX10_rule_62 rfl (zin ej8 lj8 (by decide)) ?_
      rw [zcl ej8 lj8 (by decide)]
      refine j_goto (tgt := 93) dX10_rule_63 (by decide) ?_
      refine j_iret dX10_rule_93 rfl rfl ?_
      exact ⟨by rw [h], rfl⟩
  · have h := h.2 hc2
    refine j_iload_n dX10_rule_12 rfl ?_
    refine j_if_ne (tgt := 23) dX10_rule_13 (by decide) (fun hc9 => ?_) (fun hc9 => ?_)
    · have h := h.1 hc9
      refine j_iload_n dX10_rule_23 rfl ?_
      refine j_iconst (v := 1) dX10_rule_24 rfl ?_
      refine j_ic_ne (tgt := 35) dX10_rule_25 (by decide) (fun hc10 => ?_) (fun hc10 => ?_)
      · have h := h.1 hc10
        refine j_aload_n dX10_rule_35 rfl ?_
        refine j_getf dX10_rule_36 fX10_185 rfl rfl ?_
        refine j_iret dX10_rule_39 rfl rfl ?_
        exact ⟨by rw [h], rfl⟩
      · have h := h.2 hc10
        refine j_aload_n dX10_rule_28 rfl ?_
        refine j_getf dX10_rule_29 fX10_182 rfl rfl ?_
        refine j_goto (tgt := 39) dX10_rule_32 (by decide) ?_
        refine j_iret dX10_rule_39 rfl rfl ?_
        exact ⟨by rw [h], rfl⟩
    · have h := h.2 hc9
      refine j_aload_n dX10_rule_16 rfl ?_
      refine j_getf dX10_rule_17 fX10_179 rfl rfl ?_
      refine j_goto (tgt := 39) dX10_rule_20 (by decide) ?_
      refine j_iret dX10_rule_39 rfl rfl ?_
      exact ⟨by rw [h], rfl⟩
