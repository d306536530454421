abbrev LX0_fewestMarks_2 (P : Int32 → zX → Prop) (M : zX) (x1 : Int32) (x2 : Int32) (x3 : Int32) : Prop := zJ SX 2 mX0_fewestMarks (zRi P) 2 [some (.ref 42), some (.int x1), some (.int x2), some (.int x3), none] [] M
abbrev LX0_fewestMarks_42 (P : Int32 → zX → Prop) (M : zX) (x1 : Int32) (x2 : Int32) (x3 : Int32) (x4 : Int32) : Prop := zJ SX 2 mX0_fewestMarks (zRi P) 42 [some (.ref 42), some (.int x1), some (.int x2), some (.int x3), some (.int x4)] [] M
theorem eX0_fewestMarks (P : Int32 → zX → Prop) (X : zX) (a1 : Int32) (a2 : Int32) (h : LX0_fewestMarks_2 P X a1 a2 0) : zPi SX 2 mX0_fewestMarks [.ref 42, .int a1, .int a2] X P := by
  refine zP_in [some (.ref 42), some (.int a1), some (.int a2), none, none] ⟨rfl, rfl, rfl, trivial⟩ (by decide) (Nat.le_of_ble_eq_true rfl) ?_
  refine j_iconst (v := 0) dX0_fewestMarks_0 rfl ?_
  refine j_istore_n (L2 := [some (.ref 42), some (.int a1), some (.int a2), some (.int 0), none]) dX0_fewestMarks_1 (by decide) (zno rfl) rfl ?_
  exact zJw h ⟨rfl, rfl, rfl, rfl, trivial⟩
theorem bX0_fewestMarks_2 (P : Int32 → zX → Prop) (M : zX) (x1 : Int32) (x2 : Int32) (x3 : Int32) (h : ((16 ≤ x3) → (∃ j2 : Nat, 0 = nI j2 ∧ j2 < 16 ∧ (∃ r3 : Int32, zPf SX 0 mX6_openOrHeldBy [.ref 4, .int (-4)] (zs M 43 j2 0) r3 ∧ (LX0_fewestMarks_42 P (zs M 43 j2 0) x1 x2 r3 0)))) ∧ ((¬ (16 ≤ x3)) → (∃ j4 : Nat, x3 = nI j4 ∧ j4 < 16 ∧ (LX0_fewestMarks_2 P (zs M 43 j4 53248) x1 x2 (x3 + 1))))) : LX0_fewestMarks_2 P M x1 x2 x3 := by
  refine j_iload_n dX0_fewestMarks_2 rfl ?_
  refine j_bipush (v := 16) dX0_fewestMarks_3 rfl ?_
  refine j_ic_ge (tgt := 22) dX0_fewestMarks_5 (by decide) (fun hc1 => ?_) (fun hc1 => ?_)
  · have h := h.1 hc1
    refine j_aload_n dX0_fewestMarks_22 rfl ?_
    refine j_getr dX0_fewestMarks_23 fX0_11 rfl rfl ?_
    refine j_iconst (v := 0) dX0_fewestMarks_26 rfl ?_
    refine j_iconst (v := 0) dX0_fewestMarks_27 rfl ?_
    obtain ⟨j2, ej2, lj2, h⟩ := h
    refine j_iast dX0_fewestMarks_28 rfl (zin ej2 lj2 (by decide)) ?_
    rw [zcl ej2 lj2 (by decide)]
    refine j_aload_n dX0_fewestMarks_29 rfl ?_
    refine j_getr dX0_fewestMarks_30 fX0_15 rfl rfl ?_
    refine j_bipush (v := (-4)) dX0_fewestMarks_33 rfl ?_
    obtain ⟨r3, hc, h⟩ := h
    refine j_cvf (lc := 0) (as := [.int (-4)]) dX0_fewestMarks_35 iX6_openOrHeldBy vX6_openOrHeldBy kX0_20 (by decide) rfl rfl rfl rfl (Nat.zero_le _) hc ?_
    refine j_istore_n (L2 := [some (.ref 42), some (.int x1), some (.int x2), some (.int r3), none]) dX0_fewestMarks_38 (by decide) (zno rfl) rfl ?_
    refine j_iconst (v := 0) dX0_fewestMarks_39 rfl ?_
    refine j_istore (L2 := [some (.ref 42), some (.int x1), some (.int x2), some (.int r3), some (.int 0)]) dX0_fewestMarks_40 (by decide) (zno rfl) rfl ?_
    exact zJw h ⟨rfl, rfl, rfl, rfl, rfl, trivial⟩
  · have h := h.2 hc1
    refine j_aload_n dX0_fewestMarks_8 rfl ?_
    refine j_getr dX0_fewestMarks_9 fX0_11 rfl rfl ?_
    refine j_iload_n dX0_fewestMarks_12 rfl ?_
    refine j_ldc (v := 53248) dX0_fewestMarks_13 qX0_19 ?_
    obtain ⟨j4, ej4, lj4, h⟩ := h
    refine j_iast dX0_fewestMarks_15 rfl (zin ej4 lj4 (by decide)) ?_
    rw [zcl ej4 lj4 (by decide)]
    refine j_iinc (v := (x3 + 1)) (L2 := [some (.ref 42), some (.int x1), some (.int x2), some (.int (x3 + 1)), none]) dX0_fewestMarks_16 rfl rfl (by decide) (zno rfl) rfl ?_
    refine j_goto (tgt := 2) dX0_fewestMarks_19 (by decide) ?_
    exact zJw h ⟨rfl, rfl, rfl, rfl, trivial⟩
theorem bX0_fewestMarks_42 (P : Int32 → zX → Prop) (M : zX) (x1 : Int32) (x2 : Int32) (x3 : Int32) (x4 : Int32) (h : ((x2 ≤ x4) → (∃ j6 : Nat, x1 = nI j6 ∧ j6 < 16 ∧ ((((M 43 j6) < 53248) → (∃ j8 : Nat, x1 = nI j8 ∧ j8 < 16 ∧ (P ((M 43 j8) - (M 43 j8) / 4096 * 4096) M))) ∧ ((¬ ((M 43 j6) < 53248)) → (P (-4) M))))) ∧ ((¬ (x2 ≤ x4)) → (∃ j9 : Nat, x4 = nI j9 ∧ j9 < 12 ∧ (∃ r10 : Int32, zPf SX 0 mX6_songsOf [.ref 4, .int (x3 &&& (M 18 j9))] M r10 ∧ (∃ Qr11 : zX → Prop, zPw SX 1 mX0_mark [.ref 42, .int x4, .int (r10 &&& x1)] M Qr11 ∧ ∀ M12 : zX, Qr11 M12 → (LX0_fewestMarks_42 P M12 x1 x2 x3 (x4 + 1))))))) : LX0_fewestMarks_42 P M x1 x2 x3 x4 := by
  refine j_iload dX0_fewestMarks_42 rfl ?_
  refine j_iload_n dX0_fewestMarks_44 rfl ?_
  refine j_ic_ge (tgt := 81) dX0_fewestMarks_45 (by decide) (fun hc5 => ?_) (fun hc5 => ?_)
  · have h := h.1 hc5
    refine j_aload_n dX0_fewestMarks_81 rfl ?_
    refine j_getr dX0_fewestMarks_82 fX0_11 rfl rfl ?_
    refine j_iload_n dX0_fewestMarks_85 rfl ?_
    obtain ⟨j6, ej6, lj6, h⟩ := h
    refine j_iald dX0_fewestMarks_86 rfl (zin ej6 lj6 (by decide)) ?_
    rw [zcl ej6 lj6 (by decide)]
    refine j_ldc (v := 53248) dX0_fewestMarks_87 qX0_19 ?_
    refine j_ic_lt (tgt := 97) dX0_fewestMarks_89 (by decide) (fun hc7 => ?_) (fun hc7 => ?_)
    · have h := h.1 hc7
      refine j_aload_n dX0_fewestMarks_97 rfl ?_
      refine j_getr dX0_fewestMarks_98 fX0_11 rfl rfl ?_
      refine j_iload_n dX0_fewestMarks_101 rfl ?_
      obtain ⟨j8, ej8, lj8, h⟩ := h
      refine j_iald dX0_fewestMarks_102 rfl (zin ej8 lj8 (by decide)) ?_
      rw [zcl ej8 lj8 (by decide)]
      refine j_sipush (v := 4096) dX0_fewestMarks_103 rfl ?_
      refine j_irem dX0_fewestMarks_106 (by decide) ?_
      refine j_iret dX0_fewestMarks_107 rfl rfl ?_
      exact ⟨_, rfl, h⟩
    · have h := h.2 hc7
      refine j_bipush (v := (-4)) dX0_fewestMarks_92 rfl ?_
      refine j_goto (tgt := 107) dX0_fewestMarks_94 (by decide) ?_
      refine j_iret dX0_fewestMarks_107 rfl rfl ?_
      exact ⟨_, rfl, h⟩
  · have h := h.2 hc5
    refine j_aload_n dX0_fewestMarks_48 rfl ?_
    refine j_iload dX0_fewestMarks_49 rfl ?_
    refine j_aload_n dX0_fewestMarks_51 rfl ?_
    refine j_getr dX0_fewestMarks_52 fX0_15 rfl rfl ?_
    refine j_iload_n dX0_fewestMarks_55 rfl ?_
    refine j_aload_n dX0_fewestMarks_56 rfl ?_
    refine j_getr dX0_fewestMarks_57 fX0_15 rfl rfl ?_
    refine j_getr dX0_fewestMarks_60 fX0_26 rfl rfl ?_
    refine j_iload dX0_fewestMarks_63 rfl ?_
    obtain ⟨j9, ej9, lj9, h⟩ := h
    refine j_iald dX0_fewestMarks_65 rfl (zin ej9 lj9 (by decide)) ?_
    rw [zcl ej9 lj9 (by decide)]
    refine j_iand dX0_fewestMarks_66 ?_
    obtain ⟨r10, hc, h⟩ := h
    refine j_cvf (lc := 0) (as := [.int (x3 &&& (M 18 j9))]) dX0_fewestMarks_67 iX6_songsOf vX6_songsOf kX0_29 (by decide) rfl rfl rfl rfl (by simp [Value.category]) hc ?_
    refine j_iload_n dX0_fewestMarks_70 rfl ?_
    refine j_iand dX0_fewestMarks_71 ?_
    obtain ⟨_, hc, h⟩ := h
    refine j_cvw (lc := 1) (as := [.int x4, .int (r10 &&& x1)]) dX0_fewestMarks_72 iX0_mark vX0_mark kX0_32 (by decide) rfl rfl rfl rfl (Nat.zero_le _) hc (fun M12 hr => ?_)
    have h := h _ hr
    refine j_iinc (v := (x4 + 1)) (L2 := [some (.ref 42), some (.int x1), some (.int x2), some (.int x3), some (.int (x4 + 1))]) dX0_fewestMarks_75 rfl rfl (by decide) (zno rfl) rfl ?_
    refine j_goto (tgt := 42) dX0_fewestMarks_78 (by decide) ?_
    exact zJw h ⟨rfl, rfl, rfl, rfl, rfl, trivial⟩
abbrev LX0_mark_3 (P : zX → Prop) (M : zX) (x1 : Int32) (x2 : Int32) (x3 : Int32) : Prop := zJ SX 1 mX0_mark (zRw P) 3 [some (.ref 42), some (.int x1), some (.int x2), some (.int x3), none] [] M
theorem eX0_mark (P : zX → Prop) (X : zX) (a1 : Int32) (a2 : Int32) (h : LX0_mark_3 P X a1 a2 15) : zPw SX 1 mX0_mark [.ref 42, .int a1, .int a2] X P := by
  refine zP_in [some (.ref 42), some (.int a1), some (.int a2), none, none] ⟨rfl, rfl, rfl, trivial⟩ (by decide) (Nat.le_of_ble_eq_true rfl) ?_
  refine j_bipush (v := 15) dX0_mark_0 rfl ?_
  refine j_istore_n (L2 := [some (.ref 42), some (.int a1), some (.int a2), some (.int 15), none]) dX0_mark_2 (by decide) (zno rfl) rfl ?_
  exact zJw h ⟨rfl, rfl, rfl, rfl, trivial⟩
theorem bX0_mark_3 (P : zX → Prop) (M : zX) (x1 : Int32) (x2 : Int32) (x3 : Int32) (h : ((x3 < 0) → (P M)) ∧ ((¬ (x3 < 0)) → (∃ j2 : Nat, (x3 ||| x2) = nI j2 ∧ j2 < 16 ∧ (∃ j3 : Nat, x3 = nI j3 ∧ j3 < 16 ∧ (∃ j4 : Nat, (x3 ||| x2) = nI j4 ∧ j4 < 16 ∧ (LX0_mark_3 P (zs M 43 j4 (zmin (M 43 j2) (((M 43 j3) + 4096) + (zshl 1 x1)))) x1 x2 (x3 + (-1)))))))) : LX0_mark_3 P M x1 x2 x3 := by
  refine j_iload_n dX0_mark_3 rfl ?_
  refine j_if_lt (tgt := 49) dX0_mark_4 (by decide) (fun hc1 => ?_) (fun hc1 => ?_)
  · have h := h.1 hc1
    refine j_vret dX0_mark_49 rfl ?_
    exact ⟨rfl, h⟩
  · have h := h.2 hc1
    refine j_iload_n dX0_mark_7 rfl ?_
    refine j_iload_n dX0_mark_8 rfl ?_
    refine j_ior dX0_mark_9 ?_
    refine j_istore (L2 := [some (.ref 42), some (.int x1), some (.int x2), some (.int x3), some (.int (x3 ||| x2))]) dX0_mark_10 (by decide) (zno rfl) rfl ?_
    refine j_aload_n dX0_mark_12 rfl ?_
    refine j_getr dX0_mark_13 fX0_11 rfl rfl ?_
    refine j_iload dX0_mark_16 rfl ?_
    refine j_aload_n dX0_mark_18 rfl ?_
    refine j_getr dX0_mark_19 fX0_11 rfl rfl ?_
    refine j_iload dX0_mark_22 rfl ?_
    obtain ⟨j2, ej2, lj2, h⟩ := h
    refine j_iald dX0_mark_24 rfl (zin ej2 lj2 (by decide)) ?_
    rw [zcl ej2 lj2 (by decide)]
    refine j_aload_n dX0_mark_25 rfl ?_
    refine j_getr dX0_mark_26 fX0_11 rfl rfl ?_
    refine j_iload_n dX0_mark_29 rfl ?_
    obtain ⟨j3, ej3, lj3, h⟩ := h
    refine j_iald dX0_mark_30 rfl (zin ej3 lj3 (by decide)) ?_
    rw [zcl ej3 lj3 (by decide)]
    refine j_sipush (v := 4096) dX0_mark_31 rfl ?_
    refine j_iadd dX0_mark_34 ?_
    refine j_iconst (v := 1) dX0_mark_35 rfl ?_
    refine j_iload_n dX0_mark_36 rfl ?_
    refine j_ishl dX0_mark_37 ?_
    refine j_iadd dX0_mark_38 ?_
    refine j_min dX0_mark_39 zMX0_36 (by decide) (by simp [Value.category]) ?_
    obtain ⟨j4, ej4, lj4, h⟩ := h
    refine j_iast dX0_mark_42 rfl (zin ej4 lj4 (by decide)) ?_
    rw [zcl ej4 lj4 (by decide)]
    refine j_iinc (v := (x3 + (-1))) (L2 := [some (.ref 42), some (.int x1), some (.int x2), some (.int (x3 + (-1))), some (.int (x3 ||| x2))]) dX0_mark_43 rfl rfl (by decide) (zno rfl) rfl ?_
    refine j_goto (tgt := 3) dX0_mark_46 (by decide) ?_
    exact zJw h ⟨rfl, rfl, rfl, rfl, trivial⟩
theorem eX1_add (P : Int32 → zX → Prop) (X : zX) (a1 : Int32) (a2 : Int32) (h : (((X 1 2) < 12) → (∃ j2 : Nat, (X 1 2) = nI j2 ∧ j2 < 12 ∧ (∃ j3 : Nat, (X 1 2) = nI j3 ∧ j3 < 12 ∧ (P (((X 1 2) + 1) - 1) (zs (zs (zs X 2 j2 a1) 3 j3 a2) 1 2 ((X 1 2) + 1)))))) ∧ ((¬ ((X 1 2) < 12)) → (P (-3) X))) : zPi SX 0 mX1_add [.ref 1, .int a1, .int a2] X P := by
  refine zP_in [some (.ref 1), some (.int a1), some (.int a2)] ⟨rfl, rfl, rfl, trivial⟩ (by decide) (Nat.le_of_ble_eq_true rfl) ?_
  refine j_aload_n dX1_add_0 rfl ?_
  refine j_getf dX1_add_1 fX1_18 rfl rfl ?_
  refine j_bipush (v := 12) dX1_add_4 rfl ?_
  refine j_ic_lt (tgt := 12) dX1_add_6 (by decide) (fun hc1 => ?_) (fun hc1 => ?_)
  · have h := h.1 hc1
    refine j_aload_n dX1_add_12 rfl ?_
    refine j_getr dX1_add_13 fX1_9 rfl rfl ?_
    refine j_aload_n dX1_add_16 rfl ?_
    refine j_getf dX1_add_17 fX1_18 rfl rfl ?_
    refine j_iload_n dX1_add_20 rfl ?_
    obtain ⟨j2, ej2, lj2, h⟩ := h
    refine j_iast dX1_add_21 rfl (zin ej2 lj2 (by decide)) ?_
    rw [zcl ej2 lj2 (by decide)]
    refine j_aload_n dX1_add_22 rfl ?_
    refine j_getr dX1_add_23 fX1_15 rfl rfl ?_
    refine j_aload_n dX1_add_26 rfl ?_
    refine j_getv (v := .int (X 1 2)) dX1_add_27 fX1_18 rfl rfl (fun _ => rfl) ?_
    refine j_iload_n dX1_add_30 rfl ?_
    obtain ⟨j3, ej3, lj3, h⟩ := h
    refine j_iast dX1_add_31 rfl (zin ej3 lj3 (by decide)) ?_
    rw [zcl ej3 lj3 (by decide)]
    refine j_aload_n dX1_add_32 rfl ?_
    refine j_dup dX1_add_33 rfl ?_
    refine j_getv (v := .int (X 1 2)) dX1_add_34 fX1_18 rfl rfl (fun _ => rfl) ?_
    refine j_iconst (v := 1) dX1_add_37 rfl ?_
    refine j_iadd dX1_add_38 ?_
    refine j_putf dX1_add_39 fX1_18 pX1_2 rfl rfl ?_
    refine j_aload_n dX1_add_42 rfl ?_
    refine j_getv (v := .int ((X 1 2) + 1)) dX1_add_43 fX1_18 rfl rfl (fun _ => rfl) ?_
    refine j_iconst (v := 1) dX1_add_46 rfl ?_
    refine j_isub dX1_add_47 ?_
    refine j_iret dX1_add_48 rfl rfl ?_
    exact ⟨_, rfl, h⟩
  · have h := h.2 hc1
    refine j_bipush (v := (-3)) dX1_add_9 rfl ?_
    refine j_iret dX1_add_11 rfl rfl ?_
    exact ⟨_, rfl, h⟩
theorem eX1_isWet (v : Int32) (X : zX) (a1 : Int32) (h : ∃ j1 : Nat, a1 = nI j1 ∧ j1 < 12 ∧ ((((X 57 j1) = (-4)) → (∃ j3 : Nat, a1 = nI j3 ∧ j3 < 12 ∧ (((¬ ((zshr (X 3 j3) (X 1 4)) &&& 1) = 1) → (0 = v)) ∧ ((((zshr (X 3 j3) (X 1 4)) &&& 1) = 1) → (1 = v))))) ∧ ((¬ ((X 57 j1) = (-4))) → (∃ j5 : Nat, a1 = nI j5 ∧ j5 < 12 ∧ ((((X 1 3) < (X 57 j5)) → (∃ j7 : Nat, a1 = nI j7 ∧ j7 < 12 ∧ (((¬ ((zshr (X 3 j7) (X 1 4)) &&& 1) = 1) → (0 = v)) ∧ ((((zshr (X 3 j7) (X 1 4)) &&& 1) = 1) → (1 = v))))) ∧ ((¬ ((X 1 3) < (X 57 j5))) → (∃ j9 : Nat, a1 = nI j9 ∧ j9 < 12 ∧ (((¬ ((zshr (X 3 j9) (X 1 4)) &&& 1) = 1) → (0 = v)) ∧ ((((zshr (X 3 j9) (X 1 4)) &&& 1) = 1) → (0 = v)))))))))) : zPf SX 0 mX1_isWet [.ref 1, .int a1, .ref 54] X v := by
  refine zP_in [some (.ref 1), some (.int a1), some (.ref 54), none] ⟨rfl, rfl, rfl, trivial⟩ (by decide) (Nat.le_of_ble_eq_true rfl) ?_
  refine j_aload_n dX1_isWet_0 rfl ?_
  refine j_getr dX1_isWet_1 fX1_22 rfl rfl ?_
  refine j_iload_n dX1_isWet_4 rfl ?_
  obtain ⟨j1, ej1, lj1, h⟩ := h
  refine j_iald dX1_isWet_5 rfl (zin ej1 lj1 (by decide)) ?_
  rw [zcl ej1 lj1 (by decide)]
  refine j_bipush (v := (-4)) dX1_isWet_6 rfl ?_
  refine j_ic_eq (tgt := 28) dX1_isWet_8 (by decide) (fun hc2 => ?_) (fun hc2 => ?_)
  · have h := h.1 hc2
    refine j_iconst (v := 0) dX1_isWet_28 rfl ?_
    refine j_istore_n (L2 := [some (.ref 1), some (.int a1), some (.ref 54), some (.int 0)]) dX1_isWet_29 (by decide) (zno rfl) rfl ?_
    refine j_aload_n dX1_isWet_30 rfl ?_
    refine j_getr dX1_isWet_31 fX1_15 rfl rfl ?_
    refine j_iload_n dX1_isWet_34 rfl ?_
    obtain ⟨j3, ej3, lj3, h⟩ := h
    refine j_iald dX1_isWet_35 rfl (zin ej3 lj3 (by decide)) ?_
    rw [zcl ej3 lj3 (by decide)]
    refine j_aload_n dX1_isWet_36 rfl ?_
    refine j_getf dX1_isWet_37 fX1_30 rfl rfl ?_
    refine j_ishr dX1_isWet_40 ?_
    refine j_iconst (v := 1) dX1_isWet_41 rfl ?_
    refine j_iand dX1_isWet_42 ?_
    refine j_iconst (v := 1) dX1_isWet_43 rfl ?_
    refine j_ic_ne (tgt := 55) dX1_isWet_44 (by decide) (fun hc4 => ?_) (fun hc4 => ?_)
    · have h := h.1 hc4
      refine j_iconst (v := 0) dX1_isWet_55 rfl ?_
      refine j_iret dX1_isWet_56 rfl (by decide) ?_
      exact ⟨by rw [h], rfl⟩
    · have h := h.2 hc4
      refine j_iload_n dX1_isWet_47 rfl ?_
      refine j_if_ne (tgt := 55) dX1_isWet_48 (by decide) (fun hc => absurd hc (by decide)) (fun _ => ?_)
      refine j_iconst (v := 1) dX1_isWet_51 rfl ?_
      refine j_goto (tgt := 56) dX1_isWet_52 (by decide) ?_
      refine j_iret dX1_isWet_56 rfl (by decide) ?_
      exact ⟨by rw [h], rfl⟩
  · have h := h.2 hc2
    refine j_aload_n dX1_isWet_11 rfl ?_
    refine j_getr dX1_isWet_12 fX1_22 rfl rfl ?_
    refine j_iload_n dX1_isWet_15 rfl ?_
    obtain ⟨j5, ej5, lj5, h⟩ := h
    refine j_iald dX1_isWet_16 rfl (zin ej5 lj5 (by decide)) ?_
    rw [zcl ej5 lj5 (by decide)]
    refine j_aload_n dX1_isWet_17 rfl ?_
    refine j_getf dX1_isWet_18 fX1_27 rfl rfl ?_
    refine j_ic_gt (tgt := 28) dX1_isWet_21 (by decide) (fun hc6 => ?_) (fun hc6 => ?_)
    · have h := h.1 hc6
      refine j_iconst (v := 0) dX1_isWet_28 rfl ?_
      refine j_istore_n (L2 := [some (.ref 1), some (.int a1), some (.ref 54), some (.int 0)]) dX1_isWet_29 (by decide) (zno rfl) rfl ?_
      refine j_aload_n dX1_isWet_30 rfl ?_
      refine j_getr dX1_isWet_31 fX1_15 rfl rfl ?_
      refine j_iload_n dX1_isWet_34 rfl ?_
      obtain ⟨j7, ej7, lj7, h⟩ := h
      refine j_iald dX1_isWet_35 rfl (zin ej7 lj7 (by decide)) ?_
      rw [zcl ej7 lj7 (by decide)]
      refine j_aload_n dX1_isWet_36 rfl ?_
      refine j_getf dX1_isWet_37 fX1_30 rfl rfl ?_
      refine j_ishr dX1_isWet_40 ?_
      refine j_iconst (v := 1) dX1_isWet_41 rfl ?_
      refine j_iand dX1_isWet_42 ?_
      refine j_iconst (v := 1) dX1_isWet_43 rfl ?_
      refine j_ic_ne (tgt := 55) dX1_isWet_44 (by decide) (fun hc8 => ?_) (fun hc8 => ?_)
      · have h := h.1 hc8
        refine j_iconst (v := 0) dX1_isWet_55 rfl ?_
        refine j_iret dX1_isWet_56 rfl (by decide) ?_
        exact ⟨by rw [h], rfl⟩
      · have h := h.2 hc8
        refine j_iload_n dX1_isWet_47 rfl ?_
        refine j_if_ne (tgt := 55) dX1_isWet_48 (by decide) (fun hc => absurd hc (by decide)) (fun _ => ?_)
        refine j_iconst (v := 1) dX1_isWet_51 rfl ?_
        refine j_goto (tgt := 56) dX1_isWet_52 (by decide) ?_
        refine j_iret dX1_isWet_56 rfl (by decide) ?_
        exact ⟨by rw [h], rfl⟩
    · have h := h.2 hc6
      refine j_iconst (v := 1) dX1_isWet_24 rfl ?_
      refine j_goto (tgt := 29) dX1_isWet_25 (by decide) ?_
      refine j_istore_n (L2 := [some (.ref 1), some (.int a1), some (.ref 54), some (.int 1)]) dX1_isWet_29 (by decide) (zno rfl) rfl ?_
      refine j_aload_n dX1_isWet_30 rfl ?_
      refine j_getr dX1_isWet_31 fX1_15 rfl rfl ?_
      refine j_iload_n dX1_isWet_34 rfl ?_
      obtain ⟨j9, ej9, lj9, h⟩ := h
      refine j_iald dX1_isWet_35 rfl (zin ej9 lj9 (by decide)) ?_
      rw [zcl ej9 lj9 (by decide)]
      refine j_aload_n dX1_isWet_36 rfl ?_
      refine j_getf dX1_isWet_37 fX1_30 rfl rfl ?_
      refine j_ishr dX1_isWet_40 ?_
      refine j_iconst (v := 1) dX1_isWet_41 rfl ?_
      refine j_iand dX1_isWet_42 ?_
      refine j_iconst (v := 1) dX1_isWet_43 rfl ?_
      refine j_ic_ne (tgt := 55) dX1_isWet_44 (by decide) (fun hc10 => ?_) (fun hc10 => ?_)
      · have h := h.1 hc10
        refine j_iconst (v := 0) dX1_isWet_55 rfl ?_
        refine j_iret dX1_isWet_56 rfl (by decide) ?_
        exact ⟨by rw [h], rfl⟩
      · have h := h.2 hc10
        refine j_iload_n dX1_isWet_47 rfl ?_
        refine j_if_ne (tgt := 55) dX1_isWet_48 (by decide) (fun _ => ?_) (fun hc => absurd hc (by decide))
        refine j_iconst (v := 0) dX1_isWet_55 rfl ?_
        refine j_iret dX1_isWet_56 rfl (by decide) ?_
        exact ⟨by rw [h], rfl⟩
abbrev LX1_wetPlaces_4 (v : Int32) (X : zX) (x2 : Int32) (x3 : Int32) : Prop := zJ SX 1 mX1_wetPlaces (zRf v X) 4 [some (.ref 1), some (.ref 54), some (.int x2), some (.int x3)] [] X
theorem eX1_wetPlaces (v : Int32) (X : zX)  (h : LX1_wetPlaces_4 v X 0 0) : zPf SX 1 mX1_wetPlaces [.ref 1, .ref 54] X v := by
  refine zP_in [some (.ref 1), some (.ref 54), none, none] ⟨rfl, rfl, trivial⟩ (by decide) (Nat.le_of_ble_eq_true rfl) ?_
  refine j_iconst (v := 0) dX1_wetPlaces_0 rfl ?_
  refine j_istore_n (L2 := [some (.ref 1), some (.ref 54), some (.int 0), none]) dX1_wetPlaces_1 (by decide) (zno rfl) rfl ?_
  refine j_iconst (v := 0) dX1_wetPlaces_2 rfl ?_
  refine j_istore_n (L2 := [some (.ref 1), some (.ref 54), some (.int 0), some (.int 0)]) dX1_wetPlaces_3 (by decide) (zno rfl) rfl ?_
  exact zJw h ⟨rfl, rfl, rfl, rfl, trivial⟩
theorem bX1_wetPlaces_4 (v : Int32) (X : zX) (x2 : Int32) (x3 : Int32) (h : (((X 1 2) ≤ x3) → (x2 = v)) ∧ ((¬ ((X 1 2) ≤ x3)) → (∃ r2 : Int32, zPf SX 0 mX1_isWet [.ref 1, .int x3, .ref 54] X r2 ∧ (((r2 = 0) → (LX1_wetPlaces_4 v X x2 (x3 + 1))) ∧ ((¬ (r2 = 0)) → (LX1_wetPlaces_4 v X (x2 ||| (zshl 1 x3)) (x3 + 1))))))) : LX1_wetPlaces_4 v X x2 x3 := by
  refine j_iload_n dX1_wetPlaces_4 rfl ?_
  refine j_aload_n dX1_wetPlaces_5 rfl ?_
  refine j_getf dX1_wetPlaces_6 fX1_18 rfl rfl ?_
  refine j_ic_ge (tgt := 33) dX1_wetPlaces_9 (by decide) (fun hc1 => ?_) (fun hc1 => ?_)
  · have h := h.1 hc1
    refine j_iload_n dX1_wetPlaces_33 rfl ?_
    refine j_iret dX1_wetPlaces_34 rfl rfl ?_
    exact ⟨by rw [h], rfl⟩
  · have h := h.2 hc1
    refine j_aload_n dX1_wetPlaces_12 rfl ?_
    refine j_iload_n dX1_wetPlaces_13 rfl ?_
    refine j_aload_n dX1_wetPlaces_14 rfl ?_
    obtain ⟨r2, hc, h⟩ := h
    refine j_cvf (lc := 0) (as := [.int x3, .ref 54]) dX1_wetPlaces_15 iX1_isWet vX1_isWet kX1_33 (by decide) rfl rfl rfl rfl (Nat.zero_le _) hc ?_
    refine j_if_eq (tgt := 27) dX1_wetPlaces_18 (by decide) (fun hc3 => ?_) (fun hc3 => ?_)
    · have h := h.1 hc3
      refine j_iinc (v := (x3 + 1)) (L2 := [some (.ref 1), some (.ref 54), some (.int x2), some (.int (x3 + 1))]) dX1_wetPlaces_27 rfl rfl (by decide) (zno rfl) rfl ?_
      refine j_goto (tgt := 4) dX1_wetPlaces_30 (by decide) ?_
      exact zJw h ⟨rfl, rfl, rfl, rfl, trivial⟩
    · have h := h.2 hc3
      refine j_iload_n dX1_wetPlaces_21 rfl ?_
      refine j_iconst (v := 1) dX1_wetPlaces_22 rfl ?_
      refine j_iload_n dX1_wetPlaces_23 rfl ?_
      refine j_ishl dX1_wetPlaces_24 ?_
      refine j_ior dX1_wetPlaces_25 ?_
      refine j_istore_n (L2 := [some (.ref 1), some (.ref 54), some (.int (x2 ||| (zshl 1 x3))), some (.int x3)]) dX1_wetPlaces_26 (by decide) (zno rfl) rfl ?_
      refine j_iinc (v := (x3 + 1)) (L2 := [some (.ref 1), some (.ref 54), some (.int (x2 ||| (zshl 1 x3))), some (.int (x3 + 1))]) dX1_wetPlaces_27 rfl rfl (by decide) (zno rfl) rfl ?_
      refine j_goto (tgt := 4) dX1_wetPlaces_30 (by decide) ?_
      exact zJw h ⟨rfl, rfl, rfl, rfl, trivial⟩
theorem eX2_add (P : Int32 → zX → Prop) (X : zX) (a1 : Int32) (a2 : Int32) (a3 : Int32) (h : (((X 19 5) < 8) → (∃ j2 : Nat, (X 19 5) = nI j2 ∧ j2 < 8 ∧ (∃ j3 : Nat, (X 19 5) = nI j3 ∧ j3 < 8 ∧ (∃ j4 : Nat, (X 19 5) = nI j4 ∧ j4 < 8 ∧ (∃ j5 : Nat, (X 19 5) = nI j5 ∧ j5 < 8 ∧ (P (((X 19 5) + 1) - 1) (zs (zs (zs (zs (zs X 20 j2 a1) 21 j3 a2) 22 j4 a3) 24 j5 (vp_nar .boolean 1)) 19 5 ((X 19 5) + 1)))))))) ∧ ((¬ ((X 19 5) < 8)) → (P (-3) X))) : zPi SX 0 mX2_add [.ref 19, .int a1, .int a2, .int a3] X P := by
  refine zP_in [some (.ref 19), some (.int a1), some (.int a2), some (.int a3)] ⟨rfl, rfl, rfl, rfl, trivial⟩ (by decide) (Nat.le_of_ble_eq_true rfl) ?_
  refine j_aload_n dX2_add_0 rfl ?_
  refine j_getf dX2_add_1 fX2_28 rfl rfl ?_
  refine j_bipush (v := 8) dX2_add_4 rfl ?_
  refine j_ic_lt (tgt := 12) dX2_add_6 (by decide) (fun hc1 => ?_) (fun hc1 => ?_)
  · have h := h.1 hc1
    refine j_aload_n dX2_add_12 rfl ?_
    refine j_getr dX2_add_13 fX2_9 rfl rfl ?_
    refine j_aload_n dX2_add_16 rfl ?_
    refine j_getf dX2_add_17 fX2_28 rfl rfl ?_
    refine j_iload_n dX2_add_20 rfl ?_
    obtain ⟨j2, ej2, lj2, h⟩ := h
    refine j_iast dX2_add_21 rfl (zin ej2 lj2 (by decide)) ?_
    rw [zcl ej2 lj2 (by decide)]
    refine j_aload_n dX2_add_22 rfl ?_
    refine j_getr dX2_add_23 fX2_15 rfl rfl ?_
    refine j_aload_n dX2_add_26 rfl ?_
    refine j_getv (v := .int (X 19 5)) dX2_add_27 fX2_28 rfl rfl (fun _ => rfl) ?_
    refine j_iload_n dX2_add_30 rfl ?_
    obtain ⟨j3, ej3, lj3, h⟩ := h
    refine j_iast dX2_add_31 rfl (zin ej3 lj3 (by decide)) ?_
    rw [zcl ej3 lj3 (by decide)]
    refine j_aload_n dX2_add_32 rfl ?_
    refine j_getr dX2_add_33 fX2_18 rfl rfl ?_
    refine j_aload_n dX2_add_36 rfl ?_
    refine j_getv (v := .int (X 19 5)) dX2_add_37 fX2_28 rfl rfl (fun _ => rfl) ?_
    refine j_iload_n dX2_add_40 rfl ?_
    obtain ⟨j4, ej4, lj4, h⟩ := h
    refine j_iast dX2_add_41 rfl (zin ej4 lj4 (by decide)) ?_
    rw [zcl ej4 lj4 (by decide)]
    refine j_aload_n dX2_add_42 rfl ?_
    refine j_getr dX2_add_43 fX2_24 rfl rfl ?_
    refine j_aload_n dX2_add_46 rfl ?_
    refine j_getv (v := .int (X 19 5)) dX2_add_47 fX2_28 rfl rfl (fun _ => rfl) ?_
    refine j_iconst (v := 1) dX2_add_50 rfl ?_
    obtain ⟨j5, ej5, lj5, h⟩ := h
    refine j_zast dX2_add_51 rfl (zin ej5 lj5 (by decide)) ?_
    rw [zcl ej5 lj5 (by decide)]
    refine j_aload_n dX2_add_52 rfl ?_
    refine j_dup dX2_add_53 rfl ?_
    refine j_getv (v := .int (X 19 5)) dX2_add_54 fX2_28 rfl rfl (fun _ => rfl) ?_
    refine j_iconst (v := 1) dX2_add_57 rfl ?_
    refine j_iadd dX2_add_58 ?_
    refine j_putf dX2_add_59 fX2_28 pX2_5 rfl rfl ?_
    refine j_aload_n dX2_add_62 rfl ?_
    refine j_getv (v := .int ((X 19 5) + 1)) dX2_add_63 fX2_28 rfl rfl (fun _ => rfl) ?_
    refine j_iconst (v := 1) dX2_add_66 rfl ?_
    refine j_isub dX2_add_67 ?_
    refine j_iret dX2_add_68 rfl rfl ?_
    exact ⟨_, rfl, h⟩
  · have h := h.2 hc1
    refine j_bipush (v := (-3)) dX2_add_9 rfl ?_
    refine j_iret dX2_add_11 rfl rfl ?_
    exact ⟨_, rfl, h⟩
theorem eX2_speaks (v : Int32) (X : zX) (a1 : Int32) (a2 : Int32) (h : ∃ j1 : Nat, a1 = nI j1 ∧ j1 < 8 ∧ (((¬ ((zshr (X 22 j1) a2) &&& 1) = 1) → (0 = v)) ∧ ((((zshr (X 22 j1) a2) &&& 1) = 1) → (1 = v)))) : zPf SX 0 mX2_speaks [.ref 19, .int a1, .int a2] X v := by
  refine zP_in [some (.ref 19), some (.int a1), some (.int a2)] ⟨rfl, rfl, rfl, trivial⟩ (by decide) (Nat.le_of_ble_eq_true rfl) ?_
  refine j_aload_n dX2_speaks_0 rfl ?_
  refine j_getr dX2_speaks_1 fX2_18 rfl rfl ?_
  refine j_iload_n dX2_speaks_4 rfl ?_
  obtain ⟨j1, ej1, lj1, h⟩ := h
  refine j_iald dX2_speaks_5 rfl (zin ej1 lj1 (by decide)) ?_
  rw [zcl ej1 lj1 (by decide)]
  refine j_iload_n dX2_speaks_6 rfl ?_
  refine j_ishr dX2_speaks_7 ?_
  refine j_iconst (v := 1) dX2_speaks_8 rfl ?_
  refine j_iand dX2_speaks_9 ?_
  refine j_iconst (v := 1) dX2_speaks_10 rfl ?_
  refine j_ic_ne (tgt := 18) dX2_speaks_11 (by decide) (fun hc2 => ?_) (fun hc2 => ?_)
  · have h := h.1 hc2
    refine j_iconst (v := 0) dX2_speaks_18 rfl ?_
    refine j_iret dX2_speaks_19 rfl (by decide) ?_
    exact ⟨by rw [h], rfl⟩
  · have h := h.2 hc2
    refine j_iconst (v := 1) dX2_speaks_14 rfl ?_
    refine j_goto (tgt := 19) dX2_speaks_15 (by decide) ?_
    refine j_iret dX2_speaks_19 rfl (by decide) ?_
    exact ⟨by rw [h], rfl⟩
abbrev LX2_heads_4 (v : Int32) (X : zX) (x1 : Int32) (x2 : Int32) (x3 : Int32) : Prop := zJ SX 0 mX2_heads (zRf v X) 4 [some (.ref 19), some (.int x1), some (.int x2), some (.int x3)] [] X
theorem eX2_heads (v : Int32) (X : zX) (a1 : Int32) (h : LX2_heads_4 v X a1 0 0) : zPf SX 0 mX2_heads [.ref 19, .int a1] X v := by
  refine zP_in [some (.ref 19), some (.int a1), none, none] ⟨rfl, rfl, trivial⟩ (by decide) (Nat.le_of_ble_eq_true rfl) ?_
  refine j_iconst (v := 0) dX2_heads_0 rfl ?_
  refine j_istore_n (L2 := [some (.ref 19), some (.int a1), some (.int 0), none]) dX2_heads_1 (by decide) (zno rfl) rfl ?_
  refine j_iconst (v := 0) dX2_heads_2 rfl ?_
  refine j_istore_n (L2 := [some (.ref 19), some (.int a1), some (.int 0), some (.int 0)]) dX2_heads_3 (by decide) (zno rfl) rfl ?_
  exact zJw h ⟨rfl, rfl, rfl, rfl, trivial⟩
theorem bX2_heads_4 (v : Int32) (X : zX) (x1 : Int32) (x2 : Int32) (x3 : Int32) (h : (((X 19 5) ≤ x3) → (x2 = v)) ∧ ((¬ ((X 19 5) ≤ x3)) → (∃ j2 : Nat, x3 = nI j2 ∧ j2 < 8 ∧ ((((X 24 j2) = 0) → (LX2_heads_4 v X x1 x2 (x3 + 1))) ∧ ((¬ ((X 24 j2) = 0)) → (∃ j4 : Nat, x3 = nI j4 ∧ j4 < 8 ∧ (LX2_heads_4 v X x1 (x2 + ((zshr (X 23 j4) x1) &&& 1)) (x3 + 1)))))))) : LX2_heads_4 v X x1 x2 x3 := by
  refine j_iload_n dX2_heads_4 rfl ?_
  refine j_aload_n dX2_heads_5 rfl ?_
  refine j_getf dX2_heads_6 fX2_28 rfl rfl ?_
  refine j_ic_ge (tgt := 40) dX2_heads_9 (by decide) (fun hc1 => ?_) (fun hc1 => ?_)
  · have h := h.1 hc1
    refine j_iload_n dX2_heads_40 rfl ?_
    refine j_iret dX2_heads_41 rfl rfl ?_
    exact ⟨by rw [h], rfl⟩
  · have h := h.2 hc1
    refine j_aload_n dX2_heads_12 rfl ?_
    refine j_getr dX2_heads_13 fX2_24 rfl rfl ?_
    refine j_iload_n dX2_heads_16 rfl ?_
    obtain ⟨j2, ej2, lj2, h⟩ := h
    refine j_zald dX2_heads_17 rfl (zin ej2 lj2 (by decide)) ?_
    rw [zcl ej2 lj2 (by decide)]
    refine j_if_eq (tgt := 34) dX2_heads_18 (by decide) (fun hc3 => ?_) (fun hc3 => ?_)
    · have h := h.1 hc3
      refine j_iinc (v := (x3 + 1)) (L2 := [some (.ref 19), some (.int x1), some (.int x2), some (.int (x3 + 1))]) dX2_heads_34 rfl rfl (by decide) (zno rfl) rfl ?_
      refine j_goto (tgt := 4) dX2_heads_37 (by decide) ?_
      exact zJw h ⟨rfl, rfl, rfl, rfl, trivial⟩
    · have h := h.2 hc3
      refine j_iload_n dX2_heads_21 rfl ?_
      refine j_aload_n dX2_heads_22 rfl ?_
      refine j_getr dX2_heads_23 fX2_21 rfl rfl ?_
      refine j_iload_n dX2_heads_26 rfl ?_
      obtain ⟨j4, ej4, lj4, h⟩ := h
      refine j_iald dX2_heads_27 rfl (zin ej4 lj4 (by decide)) ?_
      rw [zcl ej4 lj4 (by decide)]
      refine j_iload_n dX2_heads_28 rfl ?_
      refine j_ishr dX2_heads_29 ?_
      refine j_iconst (v := 1) dX2_heads_30 rfl ?_
      refine j_iand dX2_heads_31 ?_
      refine j_iadd dX2_heads_32 ?_
      refine j_istore_n (L2 := [some (.ref 19), some (.int x1), some (.int (x2 + ((zshr (X 23 j4) x1) &&& 1))), some (.int x3)]) dX2_heads_33 (by decide) (zno rfl) rfl ?_
      refine j_iinc (v := (x3 + 1)) (L2 := [some (.ref 19), some (.int x1), some (.int (x2 + ((zshr (X 23 j4) x1) &&& 1))), some (.int (x3 + 1))]) dX2_heads_34 rfl rfl (by decide) (zno rfl) rfl ?_
      refine j_goto (tgt := 4) dX2_heads_37 (by decide) ?_
      exact zJw h ⟨rfl, rfl, rfl, rfl, trivial⟩
abbrev LX2_hadByLiving_4 (v : Int32) (X : zX) (x1 : Int32) (x2 : Int32) : Prop := zJ SX 0 mX2_hadByLiving (zRf v X) 4 [some (.ref 19), some (.int x1), some (.int x2)] [] X
theorem eX2_hadByLiving (v : Int32) (X : zX)  (h : LX2_hadByLiving_4 v X 0 0) : zPf SX 0 mX2_hadByLiving [.ref 19] X v := by
  refine zP_in [some (.ref 19), none, none] ⟨rfl, trivial⟩ (by decide) (Nat.le_of_ble_eq_true rfl) ?_
  refine j_iconst (v := 0) dX2_hadByLiving_0 rfl ?_
  refine j_istore_n (L2 := [some (.ref 19), some (.int 0), none]) dX2_hadByLiving_1 (by decide) (zno rfl) rfl ?_
  refine j_iconst (v := 0) dX2_hadByLiving_2 rfl ?_
  refine j_istore_n (L2 := [some (.ref 19), some (.int 0), some (.int 0)]) dX2_hadByLiving_3 (by decide) (zno rfl) rfl ?_
  exact zJw h ⟨rfl, rfl, rfl, trivial⟩
theorem bX2_hadByLiving_4 (v : Int32) (X : zX) (x1 : Int32) (x2 : Int32) (h : (((X 19 5) ≤ x2) → (x1 = v)) ∧ ((¬ ((X 19 5) ≤ x2)) → (∃ j2 : Nat, x2 = nI j2 ∧ j2 < 8 ∧ ((((X 24 j2) = 0) → (LX2_hadByLiving_4 v X x1 (x2 + 1))) ∧ ((¬ ((X 24 j2) = 0)) → (∃ j4 : Nat, x2 = nI j4 ∧ j4 < 8 ∧ (LX2_hadByLiving_4 v X (x1 ||| (X 23 j4)) (x2 + 1)))))))) : LX2_hadByLiving_4 v X x1 x2 := by
  refine j_iload_n dX2_hadByLiving_4 rfl ?_
  refine j_aload_n dX2_hadByLiving_5 rfl ?_
  refine j_getf dX2_hadByLiving_6 fX2_28 rfl rfl ?_
  refine j_ic_ge (tgt := 36) dX2_hadByLiving_9 (by decide) (fun hc1 => ?_) (fun hc1 => ?_)
  · have h := h.1 hc1
    refine j_iload_n dX2_hadByLiving_36 rfl ?_
    refine j_iret dX2_hadByLiving_37 rfl rfl ?_
    exact ⟨by rw [h], rfl⟩
  · have h := h.2 hc1
    refine j_aload_n dX2_hadByLiving_12 rfl ?_
    refine j_getr dX2_hadByLiving_13 fX2_24 rfl rfl ?_
    refine j_iload_n dX2_hadByLiving_16 rfl ?_
    obtain ⟨j2, ej2, lj2, h⟩ := h
    refine j_zald dX2_hadByLiving_17 rfl (zin ej2 lj2 (by decide)) ?_
    rw [zcl ej2 lj2 (by decide)]
    refine j_if_eq (tgt := 30) dX2_hadByLiving_18 (by decide) (fun hc3 => ?_) (fun hc3 => ?_)
    · have h := h.1 hc3
      refine j_iinc (v := (x2 + 1)) (L2 := [some (.ref 19), some (.int x1), some (.int (x2 + 1))]) dX2_hadByLiving_30 rfl rfl (by decide) (zno rfl) rfl ?_
      refine j_goto (tgt := 4) dX2_hadByLiving_33 (by decide) ?_
      exact zJw h ⟨rfl, rfl, rfl, trivial⟩
    · have h := h.2 hc3
      refine j_iload_n dX2_hadByLiving_21 rfl ?_
      refine j_aload_n dX2_hadByLiving_22 rfl ?_
      refine j_getr dX2_hadByLiving_23 fX2_21 rfl rfl ?_
      refine j_iload_n dX2_hadByLiving_26 rfl ?_
      obtain ⟨j4, ej4, lj4, h⟩ := h
      refine j_iald dX2_hadByLiving_27 rfl (zin ej4 lj4 (by decide)) ?_
      rw [zcl ej4 lj4 (by decide)]
      refine j_ior dX2_hadByLiving_28 ?_
      refine j_istore_n (L2 := [some (.ref 19), some (.int (x1 ||| (X 23 j4))), some (.int x2)]) dX2_hadByLiving_29 (by decide) (zno rfl) rfl ?_
      refine j_iinc (v := (x2 + 1)) (L2 := [some (.ref 19), some (.int (x1 ||| (X 23 j4))), some (.int (x2 + 1))]) dX2_hadByLiving_30 rfl rfl (by decide) (zno rfl) rfl ?_
      refine j_goto (tgt := 4) dX2_hadByLiving_33 (by decide) ?_
      exact zJw h ⟨rfl, rfl, rfl, trivial⟩
abbrev LX2_howManyLive_4 (v : Int32) (X : zX) (x1 : Int32) (x2 : Int32) : Prop := zJ SX 0 mX2_howManyLive (zRf v X) 4 [some (.ref 19), some (.int x1), some (.int x2)] [] X
theorem eX2_howManyLive (v : Int32) (X : zX)  (h : LX2_howManyLive_4 v X 0 0) : zPf SX 0 mX2_howManyLive [.ref 19] X v := by
  refine zP_in [some (.ref 19), none, none] ⟨rfl, trivial⟩ (by decide) (Nat.le_of_ble_eq_true rfl) ?_
  refine j_iconst (v := 0) dX2_howManyLive_0 rfl ?_
  refine j_istore_n (L2 := [some (.ref 19), some (.int 0), none]) dX2_howManyLive_1 (by decide) (zno rfl) rfl ?_
  refine j_iconst (v := 0) dX2_howManyLive_2 rfl ?_
  refine j_istore_n (L2 := [some (.ref 19), some (.int 0), some (.int 0)]) dX2_howManyLive_3 (by decide) (zno rfl) rfl ?_
  exact zJw h ⟨rfl, rfl, rfl, trivial⟩
theorem bX2_howManyLive_4 (v : Int32) (X : zX) (x1 : Int32) (x2 : Int32) (h : (((X 19 5) ≤ x2) → (x1 = v)) ∧ ((¬ ((X 19 5) ≤ x2)) → (∃ j2 : Nat, x2 = nI j2 ∧ j2 < 8 ∧ ((((X 24 j2) = 0) → (LX2_howManyLive_4 v X x1 (x2 + 1))) ∧ ((¬ ((X 24 j2) = 0)) → (LX2_howManyLive_4 v X (x1 + 1) (x2 + 1))))))) : LX2_howManyLive_4 v X x1 x2 := by
  refine j_iload_n dX2_howManyLive_4 rfl ?_
  refine j_aload_n dX2_howManyLive_5 rfl ?_
  refine j_getf dX2_howManyLive_6 fX2_28 rfl rfl ?_
  refine j_ic_ge (tgt := 30) dX2_howManyLive_9 (by decide) (fun hc1 => ?_) (fun hc1 => ?_)
  · have h := h.1 hc1
    refine j_iload_n dX2_howManyLive_30 rfl ?_
    refine j_iret dX2_howManyLive_31 rfl rfl ?_
    exact ⟨by rw [h], rfl⟩
  · have h := h.2 hc1
    refine j_aload_n dX2_howManyLive_12 rfl ?_
    refine j_getr dX2_howManyLive_13 fX2_24 rfl rfl ?_
    refine j_iload_n dX2_howManyLive_16 rfl ?_
    obtain ⟨j2, ej2, lj2, h⟩ := h
    refine j_zald dX2_howManyLive_17 rfl (zin ej2 lj2 (by decide)) ?_
    rw [zcl ej2 lj2 (by decide)]
    refine j_if_eq (tgt := 24) dX2_howManyLive_18 (by decide) (fun hc3 => ?_) (fun hc3 => ?_)
    · have h := h.1 hc3
      refine j_iinc (v := (x2 + 1)) (L2 := [some (.ref 19), some (.int x1), some (.int (x2 + 1))]) dX2_howManyLive_24 rfl rfl (by decide) (zno rfl) rfl ?_
      refine j_goto (tgt := 4) dX2_howManyLive_27 (by decide) ?_
      exact zJw h ⟨rfl, rfl, rfl, trivial⟩
    · have h := h.2 hc3
      refine j_iinc (v := (x1 + 1)) (L2 := [some (.ref 19), some (.int (x1 + 1)), some (.int x2)]) dX2_howManyLive_21 rfl rfl (by decide) (zno rfl) rfl ?_
      refine j_iinc (v := (x2 + 1)) (L2 := [some (.ref 19), some (.int (x1 + 1)), some (.int (x2 + 1))]) dX2_howManyLive_24 rfl rfl (by decide) (zno rfl) rfl ?_
      refine j_goto (tgt := 4) dX2_howManyLive_27 (by decide) ?_
      exact zJw h ⟨rfl, rfl, rfl, trivial⟩
abbrev LX3_text_39 (P : Int32 → zX → Prop) (M : zX) (x2 : Int32) (x3 : Int32) : Prop := zJ SX 9 mX3_text (zRi P) 39 [some (.ref 27), some (.ref 58), some (.int x2), some (.int x3)] [] M
theorem eX3_text (P : Int32 → zX → Prop) (X : zX)  (h : ∃ Qr1 : zX → Prop, zPw SX 0 mX4_reset [.ref 58] X Qr1 ∧ ∀ M2 : zX, Qr1 M2 → (LX3_text_39 P (zs (zs (zs (zs (zs (zs M2 27 4 0) 27 5 (-4)) 27 8 0) 27 9 0) 27 10 0) 27 11 0) 1 0)) : zPi SX 9 mX3_text [.ref 27, .ref 58] X P := by
  refine zP_in [some (.ref 27), some (.ref 58), none, none] ⟨rfl, rfl, trivial⟩ (by decide) (Nat.le_of_ble_eq_true rfl) ?_
  refine j_aload_n dX3_text_0 rfl ?_
  obtain ⟨_, hc, h⟩ := h
  refine j_cvw (lc := 0) (as := []) dX3_text_1 iX4_reset vX4_reset kX3_15 (by decide) rfl rfl rfl rfl (Nat.zero_le _) hc (fun M2 hr => ?_)
  have h := h _ hr
  refine j_aload_n dX3_text_4 rfl ?_
  refine j_iconst (v := 0) dX3_text_5 rfl ?_
  refine j_putf dX3_text_6 fX3_20 pX3_4 rfl rfl ?_
  refine j_aload_n dX3_text_9 rfl ?_
  refine j_bipush (v := (-4)) dX3_text_10 rfl ?_
  refine j_putf dX3_text_12 fX3_24 pX3_5 rfl rfl ?_
  refine j_aload_n dX3_text_15 rfl ?_
  refine j_iconst (v := 0) dX3_text_16 rfl ?_
  refine j_putf dX3_text_17 fX3_27 pX3_8 rfl rfl ?_
  refine j_aload_n dX3_text_20 rfl ?_
  refine j_iconst (v := 0) dX3_text_21 rfl ?_
  refine j_putf dX3_text_22 fX3_30 pX3_9 rfl rfl ?_
  refine j_aload_n dX3_text_25 rfl ?_
  refine j_iconst (v := 0) dX3_text_26 rfl ?_
  refine j_putf dX3_text_27 fX3_33 pX3_10 rfl rfl ?_
  refine j_aload_n dX3_text_30 rfl ?_
  refine j_iconst (v := 0) dX3_text_31 rfl ?_
  refine j_putf dX3_text_32 fX3_36 pX3_11 rfl rfl ?_
  refine j_iconst (v := 1) dX3_text_35 rfl ?_
  refine j_istore_n (L2 := [some (.ref 27), some (.ref 58), some (.int 1), none]) dX3_text_36 (by decide) (zno rfl) rfl ?_
  refine j_iconst (v := 0) dX3_text_37 rfl ?_
  refine j_istore_n (L2 := [some (.ref 27), some (.ref 58), some (.int 1), some (.int 0)]) dX3_text_38 (by decide) (zno rfl) rfl ?_
  exact zJw h ⟨rfl, rfl, rfl, rfl, trivial⟩
theorem bX3_text_39 (P : Int32 → zX → Prop) (M : zX) (x2 : Int32) (x3 : Int32) (h : ((200 < x3) → (P (M 27 8) M)) ∧ ((¬ (200 < x3)) → (((x2 = 0) → (P (M 27 8) M)) ∧ ((¬ (x2 = 0)) → (∃ Qr5 : Int32 → zX → Prop, zPi SX 8 mX3_token [.ref 27] M Qr5 ∧ ∀ (r5 : Int32) (M6 : zX), Qr5 r5 M6 → (((r5 = 0) → (LX3_text_39 P M6 0 (x3 + 1))) ∧ ((¬ (r5 = 0)) → (∃ Qr8 : Int32 → zX → Prop, zPi SX 4 mX3_take [.ref 27, .ref 58] M6 Qr8 ∧ ∀ (r8 : Int32) (M9 : zX), Qr8 r8 M9 → (((r8 = 0) → (LX3_text_39 P M9 0 (x3 + 1))) ∧ ((¬ (r8 = 0)) → (LX3_text_39 P M9 1 (x3 + 1)))))))))))) : LX3_text_39 P M x2 x3 := by
  refine j_iload_n dX3_text_39 rfl ?_
  refine j_sipush (v := 200) dX3_text_40 rfl ?_
  refine j_ic_gt (tgt := 77) dX3_text_43 (by decide) (fun hc3 => ?_) (fun hc3 => ?_)
  · have h := h.1 hc3
    refine j_aload_n dX3_text_77 rfl ?_
    refine j_getf dX3_text_78 fX3_27 rfl rfl ?_
    refine j_iret dX3_text_81 rfl rfl ?_
    exact ⟨_, rfl, h⟩
  · have h := h.2 hc3
    refine j_iload_n dX3_text_46 rfl ?_
    refine j_if_eq (tgt := 77) dX3_text_47 (by decide) (fun hc4 => ?_) (fun hc4 => ?_)
    · have h := h.1 hc4
      refine j_aload_n dX3_text_77 rfl ?_
      refine j_getf dX3_text_78 fX3_27 rfl rfl ?_
      refine j_iret dX3_text_81 rfl rfl ?_
      exact ⟨_, rfl, h⟩
    · have h := h.2 hc4
      refine j_aload_n dX3_text_50 rfl ?_
      obtain ⟨_, hc, h⟩ := h
      refine j_cvi (lc := 8) (as := []) dX3_text_51 iX3_token vX3_token kX3_41 (by decide) rfl rfl rfl rfl (Nat.zero_le _) hc (fun r5 M6 hr => ?_)
      have h := h _ _ hr
      refine j_if_eq (tgt := 69) dX3_text_54 (by decide) (fun hc7 => ?_) (fun hc7 => ?_)
      · have h := h.1 hc7
        refine j_iconst (v := 0) dX3_text_69 rfl ?_
        refine j_istore_n (L2 := [some (.ref 27), some (.ref 58), some (.int 0), some (.int x3)]) dX3_text_70 (by decide) (zno rfl) rfl ?_
        refine j_iinc (v := (x3 + 1)) (L2 := [some (.ref 27), some (.ref 58), some (.int 0), some (.int (x3 + 1))]) dX3_text_71 rfl rfl (by decide) (zno rfl) rfl ?_
        refine j_goto (tgt := 39) dX3_text_74 (by decide) ?_
        exact zJw h ⟨rfl, rfl, rfl, rfl, trivial⟩
      · have h := h.2 hc7
        refine j_aload_n dX3_text_57 rfl ?_
        refine j_aload_n dX3_text_58 rfl ?_
        obtain ⟨_, hc, h⟩ := h
        refine j_cvi (lc := 4) (as := [.ref 58]) dX3_text_59 iX3_take vX3_take kX3_45 (by decide) rfl rfl rfl rfl (Nat.zero_le _) hc (fun r8 M9 hr => ?_)
        have h := h _ _ hr
        refine j_if_eq (tgt := 69) dX3_text_62 (by decide) (fun hc10 => ?_) (fun hc10 => ?_)
        · have h := h.1 hc10
          refine j_iconst (v := 0) dX3_text_69 rfl ?_
          refine j_istore_n (L2 := [some (.ref 27), some (.ref 58), some (.int 0), some (.int x3)]) dX3_text_70 (by decide) (zno rfl) rfl ?_
          refine j_iinc (v := (x3 + 1)) (L2 := [some (.ref 27), some (.ref 58), some (.int 0), some (.int (x3 + 1))]) dX3_text_71 rfl rfl (by decide) (zno rfl) rfl ?_
          refine j_goto (tgt := 39) dX3_text_74 (by decide) ?_
          exact zJw h ⟨rfl, rfl, rfl, rfl, trivial⟩
        · have h := h.2 hc10
          refine j_iconst (v := 1) dX3_text_65 rfl ?_
          refine j_goto (tgt := 70) dX3_text_66 (by decide) ?_
          refine j_istore_n (L2 := [some (.ref 27), some (.ref 58), some (.int 1), some (.int x3)]) dX3_text_70 (by decide) (zno rfl) rfl ?_
          refine j_iinc (v := (x3 + 1)) (L2 := [some (.ref 27), some (.ref 58), some (.int 1), some (.int (x3 + 1))]) dX3_text_71 rfl rfl (by decide) (zno rfl) rfl ?_
          refine j_goto (tgt := 39) dX3_text_74 (by decide) ?_
          exact zJw h ⟨rfl, rfl, rfl, rfl, trivial⟩
theorem eX3_refuse (P : Int32 → zX → Prop) (X : zX) (a1 : Int32) (a2 : Int32) (h : P 0 (zs (zs X 27 10 a1) 27 11 a2)) : zPi SX 0 mX3_refuse [.ref 27, .int a1, .int a2] X P := by
  refine zP_in [some (.ref 27), some (.int a1), some (.int a2)] ⟨rfl, rfl, rfl, trivial⟩ (by decide) (Nat.le_of_ble_eq_true rfl) ?_
  refine j_aload_n dX3_refuse_0 rfl ?_
  refine j_iload_n dX3_refuse_1 rfl ?_
  refine j_putf dX3_refuse_2 fX3_33 pX3_10 rfl rfl ?_
  refine j_aload_n dX3_refuse_5 rfl ?_
  refine j_iload_n dX3_refuse_6 rfl ?_
  refine j_putf dX3_refuse_7 fX3_36 pX3_11 rfl rfl ?_
  refine j_iconst (v := 0) dX3_refuse_10 rfl ?_
  refine j_iret dX3_refuse_11 rfl (by decide) ?_
  exact ⟨_, rfl, h⟩
abbrev LX3_token_0 (P : Int32 → zX → Prop) (M : zX)  : Prop := zJ SX 8 mX3_token (zRi P) 0 [some (.ref 27)] [] M
theorem eX3_token (P : Int32 → zX → Prop) (X : zX)  (h : (((X 25 1) ≤ (X 27 4)) → ((((X 27 4) < (X 25 1)) → (∃ r3 : Int32, zPf SX 0 mX7_isLetter [.ref 25, .int (X 27 4)] (zs X 27 2 (X 27 4)) r3 ∧ (((r3 = 0) → (∃ r5 : Int32, zPf SX 0 mX7_isFigure [.ref 25, .int (X 27 4)] (zs X 27 2 (X 27 4)) r5 ∧ (((r5 = 0) → (∃ j7 : Nat, (X 27 4) = nI j7 ∧ j7 < 200 ∧ ((((X 26 j7) = 59) → (P 1 (zs (zs (zs X 27 2 (X 27 4)) 27 4 ((X 27 4) + 1)) 27 1 3))) ∧ ((¬ ((X 26 j7) = 59)) → (∃ Qr9 : Int32 → zX → Prop, zPi SX 0 mX3_refuse [.ref 27, .int 1, .int (X 27 4)] (zs X 27 2 (X 27 4)) Qr9 ∧ ∀ (r9 : Int32) (M10 : zX), Qr9 r9 M10 → (narrow .boolean (.int r9) = .int r9 ∧ P r9 M10)))))) ∧ ((¬ (r5 = 0)) → (∃ Qr11 : Int32 → zX → Prop, zPi SX 1 mX3_figures [.ref 27] (zs X 27 2 (X 27 4)) Qr11 ∧ ∀ (r11 : Int32) (M12 : zX), Qr11 r11 M12 → (narrow .boolean (.int r11) = .int r11 ∧ P r11 M12)))))) ∧ ((¬ (r3 = 0)) → (∃ Qr13 : Int32 → zX → Prop, zPi SX 7 mX3_name [.ref 27] (zs X 27 2 (X 27 4)) Qr13 ∧ ∀ (r13 : Int32) (M14 : zX), Qr13 r13 M14 → (narrow .boolean (.int r13) = .int r13 ∧ P r13 M14)))))) ∧ ((¬ ((X 27 4) < (X 25 1))) → (P 1 (zs (zs X 27 2 (X 27 4)) 27 1 0))))) ∧ ((¬ ((X 25 1) ≤ (X 27 4))) → (∃ j15 : Nat, (X 27 4) = nI j15 ∧ j15 < 200 ∧ (((¬ (X 26 j15) = 32) → ((((X 27 4) < (X 25 1)) → (∃ r18 : Int32, zPf SX 0 mX7_isLetter [.ref 25, .int (X 27 4)] (zs X 27 2 (X 27 4)) r18 ∧ (((r18 = 0) → (∃ r20 : Int32, zPf SX 0 mX7_isFigure [.ref 25, .int (X 27 4)] (zs X 27 2 (X 27 4)) r20 ∧ (((r20 = 0) → (∃ j22 : Nat, (X 27 4) = nI j22 ∧ j22 < 200 ∧ ((((X 26 j22) = 59) → (P 1 (zs (zs (zs X 27 2 (X 27 4)) 27 4 ((X 27 4) + 1)) 27 1 3))) ∧ ((¬ ((X 26 j22) = 59)) → (∃ Qr24 : Int32 → zX → Prop, zPi SX 0 mX3_refuse [.ref 27, .int 1, .int (X 27 4)] (zs X 27 2 (X 27 4)) Qr24 ∧ ∀ (r24 : Int32) (M25 : zX), Qr24 r24 M25 → (narrow .boolean (.int r24) = .int r24 ∧ P r24 M25)))))) ∧ ((¬ (r20 = 0)) → (∃ Qr26 : Int32 → zX → Prop, zPi SX 1 mX3_figures [.ref 27] (zs X 27 2 (X 27 4)) Qr26 ∧ ∀ (r26 : Int32) (M27 : zX), Qr26 r26 M27 → (narrow .boolean (.int r26) = .int r26 ∧ P r26 M27)))))) ∧ ((¬ (r18 = 0)) → (∃ Qr28 : Int32 → zX → Prop, zPi SX 7 mX3_name [.ref 27] (zs X 27 2 (X 27 4)) Qr28 ∧ ∀ (r28 : Int32) (M29 : zX), Qr28 r28 M29 → (narrow .boolean (.int r28) = .int r28 ∧ P r28 M29)))))) ∧ ((¬ ((X 27 4) < (X 25 1))) → (P 1 (zs (zs X 27 2 (X 27 4)) 27 1 0))))) ∧ (((X 26 j15) = 32) → (LX3_token_0 P (zs X 27 4 ((X 27 4) + 1)))))))) : zPi SX 8 mX3_token [.ref 27] X P := by
  refine zP_in [some (.ref 27)] ⟨rfl, trivial⟩ (by decide) (Nat.le_of_ble_eq_true rfl) ?_
  refine j_aload_n dX3_token_0 rfl ?_
  refine j_getf dX3_token_1 fX3_20 rfl rfl ?_
  refine j_aload_n dX3_token_4 rfl ?_
  refine j_getr dX3_token_5 fX3_9 rfl rfl ?_
  refine j_getf dX3_token_8 fX3_49 rfl rfl ?_
  refine j_ic_ge (tgt := 44) dX3_token_11 (by decide) (fun hc1 => ?_) (fun hc1 => ?_)
  · have h := h.1 hc1
    refine j_aload_n dX3_token_44 rfl ?_
    refine j_aload_n dX3_token_45 rfl ?_
    refine j_getf dX3_token_46 fX3_20 rfl rfl ?_
    refine j_putf dX3_token_49 fX3_56 pX3_2 rfl rfl ?_
    refine j_aload_n dX3_token_52 rfl ?_
    refine j_getv (v := .int (X 27 4)) dX3_token_53 fX3_20 rfl rfl (fun _ => rfl) ?_
    refine j_aload_n dX3_token_56 rfl ?_
    refine j_getr dX3_token_57 fX3_9 rfl rfl ?_
    refine j_getv (v := .int (X 25 1)) dX3_token_60 fX3_49 rfl rfl (fun _ => rfl) ?_
    refine j_ic_lt (tgt := 73) dX3_token_63 (by decide) (fun hc2 => ?_) (fun hc2 => ?_)
    · have h := h.1 hc2
      refine j_aload_n dX3_token_73 rfl ?_
      refine j_getr dX3_token_74 fX3_9 rfl rfl ?_
      refine j_aload_n dX3_token_77 rfl ?_
      refine j_getv (v := .int (X 27 4)) dX3_token_78 fX3_20 rfl rfl (fun _ => rfl) ?_
      obtain ⟨r3, hc, h⟩ := h
      refine j_cvf (lc := 0) (as := [.int (X 27 4)]) dX3_token_81 iX7_isLetter vX7_isLetter kX3_62 (by decide) rfl rfl rfl rfl (Nat.zero_le _) hc ?_
      refine j_if_eq (tgt := 92) dX3_token_84 (by decide) (fun hc4 => ?_) (fun hc4 => ?_)
      · have h := h.1 hc4
        refine j_aload_n dX3_token_92 rfl ?_
        refine j_getr dX3_token_93 fX3_9 rfl rfl ?_
        refine j_aload_n dX3_token_96 rfl ?_
        refine j_getv (v := .int (X 27 4)) dX3_token_97 fX3_20 rfl rfl (fun _ => rfl) ?_
        obtain ⟨r5, hc, h⟩ := h
        refine j_cvf (lc := 0) (as := [.int (X 27 4)]) dX3_token_100 iX7_isFigure vX7_isFigure kX3_69 (by decide) rfl rfl rfl rfl (Nat.zero_le _) hc ?_
        refine j_if_eq (tgt := 111) dX3_token_103 (by decide) (fun hc6 => ?_) (fun hc6 => ?_)
        · have h := h.1 hc6
          refine j_aload_n dX3_token_111 rfl ?_
          refine j_getr dX3_token_112 fX3_9 rfl rfl ?_
          refine j_getr dX3_token_115 fX3_52 rfl rfl ?_
          refine j_aload_n dX3_token_118 rfl ?_
          refine j_getv (v := .int (X 27 4)) dX3_token_119 fX3_20 rfl rfl (fun _ => rfl) ?_
          obtain ⟨j7, ej7, lj7, h⟩ := h
          refine j_bald dX3_token_122 rfl (zin ej7 lj7 (by decide)) ?_
          rw [zcl ej7 lj7 (by decide)]
          refine zJ_top (v := (X 26 j7)) rfl ?_
          refine j_bipush (v := 59) dX3_token_123 rfl ?_
          refine j_ic_eq (tgt := 138) dX3_token_125 (by decide) (fun hc8 => ?_) (fun hc8 => ?_)
          · have h := h.1 hc8
            refine j_aload_n dX3_token_138 rfl ?_
            refine j_dup dX3_token_139 rfl ?_
            refine j_getv (v := .int (X 27 4)) dX3_token_140 fX3_20 rfl rfl (fun _ => rfl) ?_
            refine j_iconst (v := 1) dX3_token_143 rfl ?_
            refine j_iadd dX3_token_144 ?_
            refine j_putf dX3_token_145 fX3_20 pX3_4 rfl rfl ?_
            refine j_aload_n dX3_token_148 rfl ?_
            refine j_iconst (v := 3) dX3_token_149 rfl ?_
            refine j_putf dX3_token_150 fX3_59 pX3_1 rfl rfl ?_
            refine j_iconst (v := 1) dX3_token_153 rfl ?_
            refine j_iret dX3_token_154 rfl (by decide) ?_
            exact ⟨_, rfl, h⟩
          · have h := h.2 hc8
            refine j_aload_n dX3_token_128 rfl ?_
            refine j_iconst (v := 1) dX3_token_129 rfl ?_
            refine j_aload_n dX3_token_130 rfl ?_
            refine j_getv (v := .int (X 27 4)) dX3_token_131 fX3_56 rfl rfl (fun _ => rfl) ?_
            obtain ⟨_, hc, h⟩ := h
            refine j_cvi (lc := 0) (as := [.int 1, .int (X 27 4)]) dX3_token_134 iX3_refuse vX3_refuse kX3_75 (by decide) rfl rfl rfl rfl (Nat.zero_le _) hc (fun r9 M10 hr => ?_)
            have h := h _ _ hr
            refine j_iret (ty := .boolean) dX3_token_137 rfl h.1 ?_
            have h := h.2
            exact ⟨_, rfl, h⟩
        · have h := h.2 hc6
          refine j_aload_n dX3_token_106 rfl ?_
          obtain ⟨_, hc, h⟩ := h
          refine j_cvi (lc := 1) (as := []) dX3_token_107 iX3_figures vX3_figures kX3_72 (by decide) rfl rfl rfl rfl (Nat.zero_le _) hc (fun r11 M12 hr => ?_)
          have h := h _ _ hr
          refine j_iret (ty := .boolean) dX3_token_110 rfl h.1 ?_
          have h := h.2
          exact ⟨_, rfl, h⟩
      · have h := h.2 hc4
        refine j_aload_n dX3_token_87 rfl ?_
        obtain ⟨_, hc, h⟩ := h
        refine j_cvi (lc := 7) (as := []) dX3_token_88 iX3_name vX3_name kX3_66 (by decide) rfl rfl rfl rfl (Nat.zero_le _) hc (fun r13 M14 hr => ?_)
        have h := h _ _ hr
        refine j_iret (ty := .boolean) dX3_token_91 rfl h.1 ?_
        have h := h.2
        exact ⟨_, rfl, h⟩
    · have h := h.2 hc2
      refine j_aload_n dX3_token_66 rfl ?_
      refine j_iconst (v := 0) dX3_token_67 rfl ?_
      refine j_putf dX3_token_68 fX3_59 pX3_1 rfl rfl ?_
      refine j_iconst (v := 1) dX3_token_71 rfl ?_
      refine j_iret dX3_token_72 rfl (by decide) ?_
      exact ⟨_, rfl, h⟩
  · have h := h.2 hc1
    refine j_aload_n dX3_token_14 rfl ?_
    refine j_getr dX3_token_15 fX3_9 rfl rfl ?_
    refine j_getr dX3_token_18 fX3_52 rfl rfl ?_
    refine j_aload_n dX3_token_21 rfl ?_
    refine j_getf dX3_token_22 fX3_20 rfl rfl ?_
    obtain ⟨j15, ej15, lj15, h⟩ := h
    refine j_bald dX3_token_25 rfl (zin ej15 lj15 (by decide)) ?_
    rw [zcl ej15 lj15 (by decide)]
    refine j_bipush (v := 32) dX3_token_26 rfl ?_
    refine j_ic_ne (tgt := 44) dX3_token_28 (by decide) (fun hc16 => ?_) (fun hc16 => ?_)
    · have h := h.1 hc16
      refine j_aload_n dX3_token_44 rfl ?_
      refine j_aload_n dX3_token_45 rfl ?_
      refine j_getf dX3_token_46 fX3_20 rfl rfl ?_
      refine j_putf dX3_token_49 fX3_56 pX3_2 rfl rfl ?_
      refine j_aload_n dX3_token_52 rfl ?_
      refine j_getv (v := .int (X 27 4)) dX3_token_53 fX3_20 rfl rfl (fun _ => rfl) ?_
      refine j_aload_n dX3_token_56 rfl ?_
      refine j_getr dX3_token_57 fX3_9 rfl rfl ?_
      refine j_getv (v := .int (X 25 1)) dX3_token_60 fX3_49 rfl rfl (fun _ => rfl) ?_
      refine j_ic_lt (tgt := 73) dX3_token_63 (by decide) (fun hc17 => ?_) (fun hc17 => ?_)
      · have h := h.1 hc17
        refine j_aload_n dX3_token_73 rfl ?_
        refine j_getr dX3_token_74 fX3_9 rfl rfl ?_
        refine j_aload_n dX3_token_77 rfl ?_
        refine j_getv (v := .int (X 27 4)) dX3_token_78 fX3_20 rfl rfl (fun _ => rfl) ?_
        obtain ⟨r18, hc, h⟩ := h
        refine j_cvf (lc := 0) (as := [.int (X 27 4)]) dX3_token_81 iX7_isLetter vX7_isLetter kX3_62 (by decide) rfl rfl rfl rfl (Nat.zero_le _) hc ?_
        refine j_if_eq (tgt := 92) dX3_token_84 (by decide) (fun hc19 => ?_) (fun hc19 => ?_)
        · have h := h.1 hc19
          refine j_aload_n dX3_token_92 rfl ?_
          refine j_getr dX3_token_93 fX3_9 rfl rfl ?_
          refine j_aload_n dX3_token_96 rfl ?_
          refine j_getv (v := .int (X 27 4)) dX3_token_97 fX3_20 rfl rfl (fun _ => rfl) ?_
          obtain ⟨r20, hc, h⟩ := h
          refine j_cvf (lc := 0) (as := [.int (X 27 4)]) dX3_token_100 iX7_isFigure vX7_isFigure kX3_69 (by decide) rfl rfl rfl rfl (Nat.zero_le _) hc ?_
          refine j_if_eq (tgt := 111) dX3_token_103 (by decide) (fun hc21 => ?_) (fun hc21 => ?_)
          · have h := h.1 hc21
            refine j_aload_n dX3_token_111 rfl ?_
            refine j_getr dX3_token_112 fX3_9 rfl rfl ?_
            refine j_getr dX3_token_115 fX3_52 rfl rfl ?_
            refine j_aload_n dX3_token_118 rfl ?_
            refine j_getv (v := .int (X 27 4)) dX3_token_119 fX3_20 rfl rfl (fun _ => rfl) ?_
            obtain ⟨j22, ej22, lj22, h⟩ := h
            refine j_bald dX3_token_122 rfl (zin ej22 lj22 (by decide)) ?_
            rw [zcl ej22 lj22 (by decide)]
            refine zJ_top (v := (X 26 j22)) rfl ?_
            refine j_bipush (v := 59) dX3_token_123 rfl ?_
            refine j_ic_eq (tgt := 138) dX3_token_125 (by decide) (fun hc23 => ?_) (fun hc23 => ?_)
            · have h := h.1 hc23
              refine j_aload_n dX3_token_138 rfl ?_
              refine j_dup dX3_token_139 rfl ?_
              refine j_getv (v := .int (X 27 4)) dX3_token_140 fX3_20 rfl rfl (fun _ => rfl) ?_
              refine j_iconst (v := 1) dX3_token_143 rfl ?_
              refine j_iadd dX3_token_144 ?_
              refine j_putf dX3_token_145 fX3_20 pX3_4 rfl rfl ?_
              refine j_aload_n dX3_token_148 rfl ?_
              refine j_iconst (v := 3) dX3_token_149 rfl ?_
              refine j_putf dX3_token_150 fX3_59 pX3_1 rfl rfl ?_
              refine j_iconst (v := 1) dX3_token_153 rfl ?_
              refine j_iret dX3_token_154 rfl (by decide) ?_
              exact ⟨_, rfl, h⟩
            · have h := h.2 hc23
              refine j_aload_n dX3_token_128 rfl ?_
              refine j_iconst (v := 1) dX3_token_129 rfl ?_
              refine j_aload_n dX3_token_130 rfl ?_
              refine j_getv (v := .int (X 27 4)) dX3_token_131 fX3_56 rfl rfl (fun _ => rfl) ?_
              obtain ⟨_, hc, h⟩ := h
              refine j_cvi (lc := 0) (as := [.int 1, .int (X 27 4)]) dX3_token_134 iX3_refuse vX3_refuse kX3_75 (by decide) rfl rfl rfl rfl (Nat.zero_le _) hc (fun r24 M25 hr => ?_)
              have h := h _ _ hr
              refine j_iret (ty := .boolean) dX3_token_137 rfl h.1 ?_
              have h := h.2
              exact ⟨_, rfl, h⟩
          · have h := h.2 hc21
            refine j_aload_n dX3_token_106 rfl ?_
            obtain ⟨_, hc, h⟩ := h
            refine j_cvi (lc := 1) (as := []) dX3_token_107 iX3_figures vX3_figures kX3_72 (by decide) rfl rfl rfl rfl (Nat.zero_le _) hc (fun r26 M27 hr => ?_)
            have h := h _ _ hr
            refine j_iret (ty := .boolean) dX3_token_110 rfl h.1 ?_
            have h := h.2
            exact ⟨_, rfl, h⟩
        · have h := h.2 hc19
          refine j_aload_n dX3_token_87 rfl ?_
          obtain ⟨_, hc, h⟩ := h
          refine j_cvi (lc := 7) (as := []) dX3_token_88 iX3_name vX3_name kX3_66 (by decide) rfl rfl rfl rfl (Nat.zero_le _) hc (fun r28 M29 hr => ?_)
          have h := h _ _ hr
          refine j_iret (ty := .boolean) dX3_token_91 rfl h.1 ?_
          have h := h.2
          exact ⟨_, rfl, h⟩
      · have h := h.2 hc17
        refine j_aload_n dX3_token_66 rfl ?_
        refine j_iconst (v := 0) dX3_token_67 rfl ?_
        refine j_putf dX3_token_68 fX3_59 pX3_1 rfl rfl ?_
        refine j_iconst (v := 1) dX3_token_71 rfl ?_
        refine j_iret dX3_token_72 rfl (by decide) ?_
        exact ⟨_, rfl, h⟩
    · have h := h.2 hc16
      refine j_aload_n dX3_token_31 rfl ?_
      refine j_dup dX3_token_32 rfl ?_
      refine j_getf dX3_token_33 fX3_20 rfl rfl ?_
      refine j_iconst (v := 1) dX3_token_36 rfl ?_
      refine j_iadd dX3_token_37 ?_
      refine j_putf dX3_token_38 fX3_20 pX3_4 rfl rfl ?_
      refine j_goto (tgt := 0) dX3_token_41 (by decide) ?_
      exact zJw h ⟨rfl, trivial⟩
theorem bX3_token_0 (P : Int32 → zX → Prop) (M : zX)  (h : (((M 25 1) ≤ (M 27 4)) → ((((M 27 4) < (M 25 1)) → (∃ r32 : Int32, zPf SX 0 mX7_isLetter [.ref 25, .int (M 27 4)] (zs M 27 2 (M 27 4)) r32 ∧ (((r32 = 0) → (∃ r34 : Int32, zPf SX 0 mX7_isFigure [.ref 25, .int (M 27 4)] (zs M 27 2 (M 27 4)) r34 ∧ (((r34 = 0) → (∃ j36 : Nat, (M 27 4) = nI j36 ∧ j36 < 200 ∧ ((((M 26 j36) = 59) → (P 1 (zs (zs (zs M 27 2 (M 27 4)) 27 4 ((M 27 4) + 1)) 27 1 3))) ∧ ((¬ ((M 26 j36) = 59)) → (∃ Qr38 : Int32 → zX → Prop, zPi SX 0 mX3_refuse [.ref 27, .int 1, .int (M 27 4)] (zs M 27 2 (M 27 4)) Qr38 ∧ ∀ (r38 : Int32) (M39 : zX), Qr38 r38 M39 → (narrow .boolean (.int r38) = .int r38 ∧ P r38 M39)))))) ∧ ((¬ (r34 = 0)) → (∃ Qr40 : Int32 → zX → Prop, zPi SX 1 mX3_figures [.ref 27] (zs M 27 2 (M 27 4)) Qr40 ∧ ∀ (r40 : Int32) (M41 : zX), Qr40 r40 M41 → (narrow .boolean (.int r40) = .int r40 ∧ P r40 M41)))))) ∧ ((¬ (r32 = 0)) → (∃ Qr42 : Int32 → zX → Prop, zPi SX 7 mX3_name [.ref 27] (zs M 27 2 (M 27 4)) Qr42 ∧ ∀ (r42 : Int32) (M43 : zX), Qr42 r42 M43 → (narrow .boolean (.int r42) = .int r42 ∧ P r42 M43)))))) ∧ ((¬ ((M 27 4) < (M 25 1))) → (P 1 (zs (zs M 27 2 (M 27 4)) 27 1 0))))) ∧ ((¬ ((M 25 1) ≤ (M 27 4))) → (∃ j44 : Nat, (M 27 4) = nI j44 ∧ j44 < 200 ∧ (((¬ (M 26 j44) = 32) → ((((M 27 4) < (M 25 1)) → (∃ r47 : Int32, zPf SX 0 mX7_isLetter [.ref 25, .int (M 27 4)] (zs M 27 2 (M 27 4)) r47 ∧ (((r47 = 0) → (∃ r49 : Int32, zPf SX 0 mX7_isFigure [.ref 25, .int (M 27 4)] (zs M 27 2 (M 27 4)) r49 ∧ (((r49 = 0) → (∃ j51 : Nat, (M 27 4) = nI j51 ∧ j51 < 200 ∧ ((((M 26 j51) = 59) → (P 1 (zs (zs (zs M 27 2 (M 27 4)) 27 4 ((M 27 4) + 1)) 27 1 3))) ∧ ((¬ ((M 26 j51) = 59)) → (∃ Qr53 : Int32 → zX → Prop, zPi SX 0 mX3_refuse [.ref 27, .int 1, .int (M 27 4)] (zs M 27 2 (M 27 4)) Qr53 ∧ ∀ (r53 : Int32) (M54 : zX), Qr53 r53 M54 → (narrow .boolean (.int r53) = .int r53 ∧ P r53 M54)))))) ∧ ((¬ (r49 = 0)) → (∃ Qr55 : Int32 → zX → Prop, zPi SX 1 mX3_figures [.ref 27] (zs M 27 2 (M 27 4)) Qr55 ∧ ∀ (r55 : Int32) (M56 : zX), Qr55 r55 M56 → (narrow .boolean (.int r55) = .int r55 ∧ P r55 M56)))))) ∧ ((¬ (r47 = 0)) → (∃ Qr57 : Int32 → zX → Prop, zPi SX 7 mX3_name [.ref 27] (zs M 27 2 (M 27 4)) Qr57 ∧ ∀ (r57 : Int32) (M58 : zX), Qr57 r57 M58 → (narrow .boolean (.int r57) = .int r57 ∧ P r57 M58)))))) ∧ ((¬ ((M 27 4) < (M 25 1))) → (P 1 (zs (zs M 27 2 (M 27 4)) 27 1 0))))) ∧ (((M 26 j44) = 32) → (LX3_token_0 P (zs M 27 4 ((M 27 4) + 1)))))))) : LX3_token_0 P M  := by
  refine j_aload_n dX3_token_0 rfl ?_
  refine j_getf dX3_token_1 fX3_20 rfl rfl ?_
  refine j_aload_n dX3_token_4 rfl ?_
  refine j_getr dX3_token_5 fX3_9 rfl rfl ?_
  refine j_getf dX3_token_8 fX3_49 rfl rfl ?_
  refine j_ic_ge (tgt := 44) dX3_token_11 (by decide) (fun hc30 => ?_) (fun hc30 => ?_)
  · have h := h.1 hc30
    refine j_aload_n dX3_token_44 rfl ?_
    refine j_aload_n dX3_token_45 rfl ?_
    refine j_getf dX3_token_46 fX3_20 rfl rfl ?_
    refine j_putf dX3_token_49 fX3_56 pX3_2 rfl rfl ?_
    refine j_aload_n dX3_token_52 rfl ?_
    refine j_getv (v := .int (M 27 4)) dX3_token_53 fX3_20 rfl rfl (fun _ => rfl) ?_
    refine j_aload_n dX3_token_56 rfl ?_
    refine j_getr dX3_token_57 fX3_9 rfl rfl ?_
    refine j_getv (v := .int (M 25 1)) dX3_token_60 fX3_49 rfl rfl (fun _ => rfl) ?_
    refine j_ic_lt (tgt := 73) dX3_token_63 (by decide) (fun hc31 => ?_) (fun hc31 => ?_)
    · have h := h.1 hc31
      refine j_aload_n dX3_token_73 rfl ?_
      refine j_getr dX3_token_74 fX3_9 rfl rfl ?_
      refine j_aload_n dX3_token_77 rfl ?_
      refine j_getv (v := .int (M 27 4)) dX3_token_78 fX3_20 rfl rfl (fun _ => rfl) ?_
      obtain ⟨r32, hc, h⟩ := h
      refine j_cvf (lc := 0) (as := [.int (M 27 4)]) dX3_token_81 iX7_isLetter vX7_isLetter kX3_62 (by decide) rfl rfl rfl rfl (Nat.zero_le _) hc ?_
      refine j_if_eq (tgt := 92) dX3_token_84 (by decide) (fun hc33 => ?_) (fun hc33 => ?_)
      · have h := h.1 hc33
        refine j_aload_n dX3_token_92 rfl ?_
        refine j_getr dX3_token_93 fX3_9 rfl rfl ?_
        refine j_aload_n dX3_token_96 rfl ?_
        refine j_getv (v := .int (M 27 4)) dX3_token_97 fX3_20 rfl rfl (fun _ => rfl) ?_
        obtain ⟨r34, hc, h⟩ := h
        refine j_cvf (lc := 0) (as := [.int (M 27 4)]) dX3_token_100 iX7_isFigure vX7_isFigure kX3_69 (by decide) rfl rfl rfl rfl (Nat.zero_le _) hc ?_
        refine j_if_eq (tgt := 111) dX3_token_103 (by decide) (fun hc35 => ?_) (fun hc35 => ?_)
        · have h := h.1 hc35
          refine j_aload_n dX3_token_111 rfl ?_
          refine j_getr dX3_token_112 fX3_9 rfl rfl ?_
          refine j_getr dX3_token_115 fX3_52 rfl rfl ?_
          refine j_aload_n dX3_token_118 rfl ?_
          refine j_getv (v := .int (M 27 4)) dX3_token_119 fX3_20 rfl rfl (fun _ => rfl) ?_
          obtain ⟨j36, ej36, lj36, h⟩ := h
          refine j_bald dX3_token_122 rfl (zin ej36 lj36 (by decide)) ?_
          rw [zcl ej36 lj36 (by decide)]
          refine zJ_top (v := (M 26 j36)) rfl ?_
          refine j_bipush (v := 59) dX3_token_123 rfl ?_
          refine j_ic_eq (tgt := 138) dX3_token_125 (by decide) (fun hc37 => ?_) (fun hc37 => ?_)
          · have h := h.1 hc37
            refine j_aload_n dX3_token_138 rfl ?_
            refine j_dup dX3_token_139 rfl ?_
            refine j_getv (v := .int (M 27 4)) dX3_token_140 fX3_20 rfl rfl (fun _ => rfl) ?_
            refine j_iconst (v := 1) dX3_token_143 rfl ?_
            refine j_iadd dX3_token_144 ?_
            refine j_putf dX3_token_145 fX3_20 pX3_4 rfl rfl ?_
            refine j_aload_n dX3_token_148 rfl ?_
            refine j_iconst (v := 3) dX3_token_149 rfl ?_
            refine j_putf dX3_token_150 fX3_59 pX3_1 rfl rfl ?_
            refine j_iconst (v := 1) dX3_token_153 rfl ?_
            refine j_iret dX3_token_154 rfl (by decide) ?_
            exact ⟨_, rfl, h⟩
          · have h := h.2 hc37
            refine j_aload_n dX3_token_128 rfl ?_
            refine j_iconst (v := 1) dX3_token_129 rfl ?_
            refine j_aload_n dX3_token_130 rfl ?_
            refine j_getv (v := .int (M 27 4)) dX3_token_131 fX3_56 rfl rfl (fun _ => rfl) ?_
            obtain ⟨_, hc, h⟩ := h
            refine j_cvi (lc := 0) (as := [.int 1, .int (M 27 4)]) dX3_token_134 iX3_refuse vX3_refuse kX3_75 (by decide) rfl rfl rfl rfl (Nat.zero_le _) hc (fun r38 M39 hr => ?_)
            have h := h _ _ hr
            refine j_iret (ty := .boolean) dX3_token_137 rfl h.1 ?_
            have h := h.2
            exact ⟨_, rfl, h⟩
        · have h := h.2 hc35
          refine j_aload_n dX3_token_106 rfl ?_
          obtain ⟨_, hc, h⟩ := h
          refine j_cvi (lc := 1) (as := []) dX3_token_107 iX3_figures vX3_figures kX3_72 (by decide) rfl rfl rfl rfl (Nat.zero_le _) hc (fun r40 M41 hr => ?_)
          have h := h _ _ hr
          refine j_iret (ty := .boolean) dX3_token_110 rfl h.1 ?_
          have h := h.2
          exact ⟨_, rfl, h⟩
      · have h := h.2 hc33
        refine j_aload_n dX3_token_87 rfl ?_
        obtain ⟨_, hc, h⟩ := h
        refine j_cvi (lc := 7) (as := []) dX3_token_88 iX3_name vX3_name kX3_66 (by decide) rfl rfl rfl rfl (Nat.zero_le _) hc (fun r42 M43 hr => ?_)
        have h := h _ _ hr
        refine j_iret (ty := .boolean) dX3_token_91 rfl h.1 ?_
        have h := h.2
        exact ⟨_, rfl, h⟩
    · have h := h.2 hc31
      refine j_aload_n dX3_token_66 rfl ?_
      refine j_iconst (v := 0) dX3_token_67 rfl ?_
      refine j_putf dX3_token_68 fX3_59 pX3_1 rfl rfl ?_
      refine j_iconst (v := 1) dX3_token_71 rfl ?_
      refine j_iret dX3_token_72 rfl (by decide) ?_
      exact ⟨_, rfl, h⟩
  · have h := h.2 hc30
    refine j_aload_n dX3_token_14 rfl ?_
    refine j_getr dX3_token_15 fX3_9 rfl rfl ?_
    refine j_getr dX3_token_18 fX3_52 rfl rfl ?_
    refine j_aload_n dX3_token_21 rfl ?_
    refine j_getf dX3_token_22 fX3_20 rfl rfl ?_
    obtain ⟨j44, ej44, lj44, h⟩ := h
    refine j_bald dX3_token_25 rfl (zin ej44 lj44 (by decide)) ?_
    rw [zcl ej44 lj44 (by decide)]
    refine j_bipush (v := 32) dX3_token_26 rfl ?_
    refine j_ic_ne (tgt := 44) dX3_token_28 (by decide) (fun hc45 => ?_) (fun hc45 => ?_)
    · have h := h.1 hc45
      refine j_aload_n dX3_token_44 rfl ?_
      refine j_aload_n dX3_token_45 rfl ?_
      refine j_getf dX3_token_46 fX3_20 rfl rfl ?_
      refine j_putf dX3_token_49 fX3_56 pX3_2 rfl rfl ?_
      refine j_aload_n dX3_token_52 rfl ?_
      refine j_getv (v := .int (M 27 4)) dX3_token_53 fX3_20 rfl rfl (fun _ => rfl) ?_
      refine j_aload_n dX3_token_56 rfl ?_
      refine j_getr dX3_token_57 fX3_9 rfl rfl ?_
      refine j_getv (v := .int (M 25 1)) dX3_token_60 fX3_49 rfl rfl (fun _ => rfl) ?_
      refine j_ic_lt (tgt := 73) dX3_token_63 (by decide) (fun hc46 => ?_) (fun hc46 => ?_)
      · have h := h.1 hc46
        refine j_aload_n dX3_token_73 rfl ?_
        refine j_getr dX3_token_74 fX3_9 rfl rfl ?_
        refine j_aload_n dX3_token_77 rfl ?_
        refine j_getv (v := .int (M 27 4)) dX3_token_78 fX3_20 rfl rfl (fun _ => rfl) ?_
        obtain ⟨r47, hc, h⟩ := h
        refine j_cvf (lc := 0) (as := [.int (M 27 4)]) dX3_token_81 iX7_isLetter vX7_isLetter kX3_62 (by decide) rfl rfl rfl rfl (Nat.zero_le _) hc ?_
        refine j_if_eq (tgt := 92) dX3_token_84 (by decide) (fun hc48 => ?_) (fun hc48 => ?_)
        · have h := h.1 hc48
          refine j_aload_n dX3_token_92 rfl ?_
          refine j_getr dX3_token_93 fX3_9 rfl rfl ?_
          refine j_aload_n dX3_token_96 rfl ?_
          refine j_getv (v := .int (M 27 4)) dX3_token_97 fX3_20 rfl rfl (fun _ => rfl) ?_
          obtain ⟨r49, hc, h⟩ := h
          refine j_cvf (lc := 0) (as := [.int (M 27 4)]) dX3_token_100 iX7_isFigure vX7_isFigure kX3_69 (by decide) rfl rfl rfl rfl (Nat.zero_le _) hc ?_
          refine j_if_eq (tgt := 111) dX3_token_103 (by decide) (fun hc50 => ?_) (fun hc50 => ?_)
          · have h := h.1 hc50
            refine j_aload_n dX3_token_111 rfl ?_
            refine j_getr dX3_token_112 fX3_9 rfl rfl ?_
            refine j_getr dX3_token_115 fX3_52 rfl rfl ?_
            refine j_aload_n dX3_token_118 rfl ?_
            refine j_getv (v := .int (M 27 4)) dX3_token_119 fX3_20 rfl rfl (fun _ => rfl) ?_
            obtain ⟨j51, ej51, lj51, h⟩ := h
            refine j_bald dX3_token_122 rfl (zin ej51 lj51 (by decide)) ?_
            rw [zcl ej51 lj51 (by decide)]
            refine zJ_top (v := (M 26 j51)) rfl ?_
            refine j_bipush (v := 59) dX3_token_123 rfl ?_
            refine j_ic_eq (tgt := 138) dX3_token_125 (by decide) (fun hc52 => ?_) (fun hc52 => ?_)
            · have h := h.1 hc52
              refine j_aload_n dX3_token_138 rfl ?_
              refine j_dup dX3_token_139 rfl ?_
              refine j_getv (v := .int (M 27 4)) dX3_token_140 fX3_20 rfl rfl (fun _ => rfl) ?_
              refine j_iconst (v := 1) dX3_token_143 rfl ?_
              refine j_iadd dX3_token_144 ?_
              refine j_putf dX3_token_145 fX3_20 pX3_4 rfl rfl ?_
              refine j_aload_n dX3_token_148 rfl ?_
              refine j_iconst (v := 3) dX3_token_149 rfl ?_
              refine j_putf dX3_token_150 fX3_59 pX3_1 rfl rfl ?_
              refine j_iconst (v := 1) dX3_token_153 rfl ?_
              refine j_iret dX3_token_154 rfl (by decide) ?_
              exact ⟨_, rfl, h⟩
            · have h := h.2 hc52
              refine j_aload_n dX3_token_128 rfl ?_
              refine j_iconst (v := 1) dX3_token_129 rfl ?_
              refine j_aload_n dX3_token_130 rfl ?_
              refine j_getv (v := .int (M 27 4)) dX3_token_131 fX3_56 rfl rfl (fun _ => rfl) ?_
              obtain ⟨_, hc, h⟩ := h
              refine j_cvi (lc := 0) (as := [.int 1, .int (M 27 4)]) dX3_token_134 iX3_refuse vX3_refuse kX3_75 (by decide) rfl rfl rfl rfl (Nat.zero_le _) hc (fun r53 M54 hr => ?_)
              have h := h _ _ hr
              refine j_iret (ty := .boolean) dX3_token_137 rfl h.1 ?_
              have h := h.2
              exact ⟨_, rfl, h⟩
          · have h := h.2 hc50
            refine j_aload_n dX3_token_106 rfl ?_
            obtain ⟨_, hc, h⟩ := h
            refine j_cvi (lc := 1) (as := []) dX3_token_107 iX3_figures vX3_figures kX3_72 (by decide) rfl rfl rfl rfl (Nat.zero_le _) hc (fun r55 M56 hr => ?_)
            have h := h _ _ hr
            refine j_iret (ty := .boolean) dX3_token_110 rfl h.1 ?_
            have h := h.2
            exact ⟨_, rfl, h⟩
        · have h := h.2 hc48
          refine j_aload_n dX3_token_87 rfl ?_
          obtain ⟨_, hc, h⟩ := h
          refine j_cvi (lc := 7) (as := []) dX3_token_88 iX3_name vX3_name kX3_66 (by decide) rfl rfl rfl rfl (Nat.zero_le _) hc (fun r57 M58 hr => ?_)
          have h := h _ _ hr
          refine j_iret (ty := .boolean) dX3_token_91 rfl h.1 ?_
          have h := h.2
          exact ⟨_, rfl, h⟩
      · have h := h.2 hc46
        refine j_aload_n dX3_token_66 rfl ?_
        refine j_iconst (v := 0) dX3_token_67 rfl ?_
        refine j_putf dX3_token_68 fX3_59 pX3_1 rfl rfl ?_
        refine j_iconst (v := 1) dX3_token_71 rfl ?_
        refine j_iret dX3_token_72 rfl (by decide) ?_
        exact ⟨_, rfl, h⟩
    · have h := h.2 hc45
      refine j_aload_n dX3_token_31 rfl ?_
      refine j_dup dX3_token_32 rfl ?_
      refine j_getf dX3_token_33 fX3_20 rfl rfl ?_
      refine j_iconst (v := 1) dX3_token_36 rfl ?_
      refine j_iadd dX3_token_37 ?_
      refine j_putf dX3_token_38 fX3_20 pX3_4 rfl rfl ?_
      refine j_goto (tgt := 0) dX3_token_41 (by decide) ?_
      exact zJw h ⟨rfl, trivial⟩
abbrev LX3_name_0 (P : Int32 → zX → Prop) (M : zX)  : Prop := zJ SX 7 mX3_name (zRi P) 0 [some (.ref 27)] [] M
theorem eX3_name (P : Int32 → zX → Prop) (X : zX)  (h : (((X 25 1) ≤ (X 27 4)) → (∃ r2 : Int32, zPf SX 6 mX3_meaning [.ref 27] (zs X 27 1 1) r2 ∧ (((¬ r2 = (-4)) → (P 1 (zs (zs X 27 1 1) 27 3 r2))) ∧ ((r2 = (-4)) → (∃ Qr4 : Int32 → zX → Prop, zPi SX 0 mX3_refuse [.ref 27, .int 1, .int (X 27 2)] (zs (zs X 27 1 1) 27 3 r2) Qr4 ∧ ∀ (r4 : Int32) (M5 : zX), Qr4 r4 M5 → (((r4 = 0) → (P 0 M5)) ∧ ((¬ (r4 = 0)) → (P 1 M5)))))))) ∧ ((¬ ((X 25 1) ≤ (X 27 4))) → (∃ r7 : Int32, zPf SX 0 mX7_isLetter [.ref 25, .int (X 27 4)] X r7 ∧ (((r7 = 0) → (∃ r9 : Int32, zPf SX 6 mX3_meaning [.ref 27] (zs X 27 1 1) r9 ∧ (((¬ r9 = (-4)) → (P 1 (zs (zs X 27 1 1) 27 3 r9))) ∧ ((r9 = (-4)) → (∃ Qr11 : Int32 → zX → Prop, zPi SX 0 mX3_refuse [.ref 27, .int 1, .int (X 27 2)] (zs (zs X 27 1 1) 27 3 r9) Qr11 ∧ ∀ (r11 : Int32) (M12 : zX), Qr11 r11 M12 → (((r11 = 0) → (P 0 M12)) ∧ ((¬ (r11 = 0)) → (P 1 M12)))))))) ∧ ((¬ (r7 = 0)) → (LX3_name_0 P (zs X 27 4 ((X 27 4) + 1)))))))) : zPi SX 7 mX3_name [.ref 27] X P := by
  refine zP_in [some (.ref 27)] ⟨rfl, trivial⟩ (by decide) (Nat.le_of_ble_eq_true rfl) ?_
  refine j_aload_n dX3_name_0 rfl ?_
  refine j_getf dX3_name_1 fX3_20 rfl rfl ?_
  refine j_aload_n dX3_name_4 rfl ?_
  refine j_getr dX3_name_5 fX3_9 rfl rfl ?_
  refine j_getf dX3_name_8 fX3_49 rfl rfl ?_
  refine j_ic_ge (tgt := 41) dX3_name_11 (by decide) (fun hc1 => ?_) (fun hc1 => ?_)
  · have h := h.1 hc1
    refine j_aload_n dX3_name_41 rfl ?_
    refine j_iconst (v := 1) dX3_name_42 rfl ?_
    refine j_putf dX3_name_43 fX3_59 pX3_1 rfl rfl ?_
    refine j_aload_n dX3_name_46 rfl ?_
    refine j_aload_n dX3_name_47 rfl ?_
    obtain ⟨r2, hc, h⟩ := h
    refine j_cvf (lc := 6) (as := []) dX3_name_48 iX3_meaning vX3_meaning kX3_79 (by decide) rfl rfl rfl rfl (by simp [Value.category]) hc ?_
    refine j_putf dX3_name_51 fX3_83 pX3_3 rfl rfl ?_
    refine j_aload_n dX3_name_54 rfl ?_
    refine j_getv (v := .int r2) dX3_name_55 fX3_83 rfl rfl (fun _ => rfl) ?_
    refine j_bipush (v := (-4)) dX3_name_58 rfl ?_
    refine j_ic_ne (tgt := 75) dX3_name_60 (by decide) (fun hc3 => ?_) (fun hc3 => ?_)
    · have h := h.1 hc3
      refine j_iconst (v := 1) dX3_name_75 rfl ?_
      refine j_goto (tgt := 80) dX3_name_76 (by decide) ?_
      refine j_iret dX3_name_80 rfl (by decide) ?_
      exact ⟨_, rfl, h⟩
    · have h := h.2 hc3
      refine j_aload_n dX3_name_63 rfl ?_
      refine j_iconst (v := 1) dX3_name_64 rfl ?_
      refine j_aload_n dX3_name_65 rfl ?_
      refine j_getv (v := .int (X 27 2)) dX3_name_66 fX3_56 rfl rfl (fun _ => rfl) ?_
      obtain ⟨_, hc, h⟩ := h
      refine j_cvi (lc := 0) (as := [.int 1, .int (X 27 2)]) dX3_name_69 iX3_refuse vX3_refuse kX3_75 (by decide) rfl rfl rfl rfl (Nat.zero_le _) hc (fun r4 M5 hr => ?_)
      have h := h _ _ hr
      refine j_if_eq (tgt := 79) dX3_name_72 (by decide) (fun hc6 => ?_) (fun hc6 => ?_)
      · have h := h.1 hc6
        refine j_iconst (v := 0) dX3_name_79 rfl ?_
        refine j_iret dX3_name_80 rfl (by decide) ?_
        exact ⟨_, rfl, h⟩
      · have h := h.2 hc6
        refine j_iconst (v := 1) dX3_name_75 rfl ?_
        refine j_goto (tgt := 80) dX3_name_76 (by decide) ?_
        refine j_iret dX3_name_80 rfl (by decide) ?_
        exact ⟨_, rfl, h⟩
  · have h := h.2 hc1
    refine j_aload_n dX3_name_14 rfl ?_
    refine j_getr dX3_name_15 fX3_9 rfl rfl ?_
    refine j_aload_n dX3_name_18 rfl ?_
    refine j_getf dX3_name_19 fX3_20 rfl rfl ?_
    obtain ⟨r7, hc, h⟩ := h
    refine j_cvf (lc := 0) (as := [.int (X 27 4)]) dX3_name_22 iX7_isLetter vX7_isLetter kX3_62 (by decide) rfl rfl rfl rfl (Nat.zero_le _) hc ?_
    refine j_if_eq (tgt := 41) dX3_name_25 (by decide) (fun hc8 => ?_) (fun hc8 => ?_)
    · have h := h.1 hc8
      refine j_aload_n dX3_name_41 rfl ?_
      refine j_iconst (v := 1) dX3_name_42 rfl ?_
      refine j_putf dX3_name_43 fX3_59 pX3_1 rfl rfl ?_
      refine j_aload_n dX3_name_46 rfl ?_
      refine j_aload_n dX3_name_47 rfl ?_
      obtain ⟨r9, hc, h⟩ := h
      refine j_cvf (lc := 6) (as := []) dX3_name_48 iX3_meaning vX3_meaning kX3_79 (by decide) rfl rfl rfl rfl (by simp [Value.category]) hc ?_
      refine j_putf dX3_name_51 fX3_83 pX3_3 rfl rfl ?_
      refine j_aload_n dX3_name_54 rfl ?_
      refine j_getv (v := .int r9) dX3_name_55 fX3_83 rfl rfl (fun _ => rfl) ?_
      refine j_bipush (v := (-4)) dX3_name_58 rfl ?_
      refine j_ic_ne (tgt := 75) dX3_name_60 (by decide) (fun hc10 => ?_) (fun hc10 => ?_)
      · have h := h.1 hc10
        refine j_iconst (v := 1) dX3_name_75 rfl ?_
        refine j_goto (tgt := 80) dX3_name_76 (by decide) ?_
        refine j_iret dX3_name_80 rfl (by decide) ?_
        exact ⟨_, rfl, h⟩
      · have h := h.2 hc10
        refine j_aload_n dX3_name_63 rfl ?_
        refine j_iconst (v := 1) dX3_name_64 rfl ?_
        refine j_aload_n dX3_name_65 rfl ?_
        refine j_getv (v := .int (X 27 2)) dX3_name_66 fX3_56 rfl rfl (fun _ => rfl) ?_
        obtain ⟨_, hc, h⟩ := h
        refine j_cvi (lc := 0) (as := [.int 1, .int (X 27 2)]) dX3_name_69 iX3_refuse vX3_refuse kX3_75 (by decide) rfl rfl rfl rfl (Nat.zero_le _) hc (fun r11 M12 hr => ?_)
        have h := h _ _ hr
        refine j_if_eq (tgt := 79) dX3_name_72 (by decide) (fun hc13 => ?_) (fun hc13 => ?_)
        · have h := h.1 hc13
          refine j_iconst (v := 0) dX3_name_79 rfl ?_
          refine j_iret dX3_name_80 rfl (by decide) ?_
          exact ⟨_, rfl, h⟩
        · have h := h.2 hc13
          refine j_iconst (v := 1) dX3_name_75 rfl ?_
          refine j_goto (tgt := 80) dX3_name_76 (by decide) ?_
          refine j_iret dX3_name_80 rfl (by decide) ?_
          exact ⟨_, rfl, h⟩
    · have h := h.2 hc8
      refine j_aload_n dX3_name_28 rfl ?_
      refine j_dup dX3_name_29 rfl ?_
      refine j_getf dX3_name_30 fX3_20 rfl rfl ?_
      refine j_iconst (v := 1) dX3_name_33 rfl ?_
      refine j_iadd dX3_name_34 ?_
      refine j_putf dX3_name_35 fX3_20 pX3_4 rfl rfl ?_
      refine j_goto (tgt := 0) dX3_name_38 (by decide) ?_
      exact zJw h ⟨rfl, trivial⟩
theorem bX3_name_0 (P : Int32 → zX → Prop) (M : zX)  (h : (((M 25 1) ≤ (M 27 4)) → (∃ r15 : Int32, zPf SX 6 mX3_meaning [.ref 27] (zs M 27 1 1) r15 ∧ (((¬ r15 = (-4)) → (P 1 (zs (zs M 27 1 1) 27 3 r15))) ∧ ((r15 = (-4)) → (∃ Qr17 : Int32 → zX → Prop, zPi SX 0 mX3_refuse [.ref 27, .int 1, .int (M 27 2)] (zs (zs M 27 1 1) 27 3 r15) Qr17 ∧ ∀ (r17 : Int32) (M18 : zX), Qr17 r17 M18 → (((r17 = 0) → (P 0 M18)) ∧ ((¬ (r17 = 0)) → (P 1 M18)))))))) ∧ ((¬ ((M 25 1) ≤ (M 27 4))) → (∃ r20 : Int32, zPf SX 0 mX7_isLetter [.ref 25, .int (M 27 4)] M r20 ∧ (((r20 = 0) → (∃ r22 : Int32, zPf SX 6 mX3_meaning [.ref 27] (zs M 27 1 1) r22 ∧ (((¬ r22 = (-4)) → (P 1 (zs (zs M 27 1 1) 27 3 r22))) ∧ ((r22 = (-4)) → (∃ Qr24 : Int32 → zX → Prop, zPi SX 0 mX3_refuse [.ref 27, .int 1, .int (M 27 2)] (zs (zs M 27 1 1) 27 3 r22) Qr24 ∧ ∀ (r24 : Int32) (M25 : zX), Qr24 r24 M25 → (((r24 = 0) → (P 0 M25)) ∧ ((¬ (r24 = 0)) → (P 1 M25)))))))) ∧ ((¬ (r20 = 0)) → (LX3_name_0 P (zs M 27 4 ((M 27 4) + 1)))))))) : LX3_name_0 P M  := by
  refine j_aload_n dX3_name_0 rfl ?_
  refine j_getf dX3_name_1 fX3_20 rfl rfl ?_
  refine j_aload_n dX3_name_4 rfl ?_
  refine j_getr dX3_name_5 fX3_9 rfl rfl ?_
  refine j_getf dX3_name_8 fX3_49 rfl rfl ?_
  refine j_ic_ge (tgt := 41) dX3_name_11 (by decide) (fun hc14 => ?_) (fun hc14 => ?_)
  · have h := h.1 hc14
    refine j_aload_n dX3_name_41 rfl ?_
    refine j_iconst (v := 1) dX3_name_42 rfl ?_
    refine j_putf dX3_name_43 fX3_59 pX3_1 rfl rfl ?_
    refine j_aload_n dX3_name_46 rfl ?_
    refine j_aload_n dX3_name_47 rfl ?_
    obtain ⟨r15, hc, h⟩ := h
    refine j_cvf (lc := 6) (as := []) dX3_name_48 iX3_meaning vX3_meaning kX3_79 (by decide) rfl rfl rfl rfl (by simp [Value.category]) hc ?_
    refine j_putf dX3_name_51 fX3_83 pX3_3 rfl rfl ?_
    refine j_aload_n dX3_name_54 rfl ?_
    refine j_getv (v := .int r15) dX3_name_55 fX3_83 rfl rfl (fun _ => rfl) ?_
    refine j_bipush (v := (-4)) dX3_name_58 rfl ?_
    refine j_ic_ne (tgt := 75) dX3_name_60 (by decide) (fun hc16 => ?_) (fun hc16 => ?_)
    · have h := h.1 hc16
      refine j_iconst (v := 1) dX3_name_75 rfl ?_
      refine j_goto (tgt := 80) dX3_name_76 (by decide) ?_
      refine j_iret dX3_name_80 rfl (by decide) ?_
      exact ⟨_, rfl, h⟩
    · have h := h.2 hc16
      refine j_aload_n dX3_name_63 rfl ?_
      refine j_iconst (v := 1) dX3_name_64 rfl ?_
      refine j_aload_n dX3_name_65 rfl ?_
      refine j_getv (v := .int (M 27 2)) dX3_name_66 fX3_56 rfl rfl (fun _ => rfl) ?_
      obtain ⟨_, hc, h⟩ := h
      refine j_cvi (lc := 0) (as := [.int 1, .int (M 27 2)]) dX3_name_69 iX3_refuse vX3_refuse kX3_75 (by decide) rfl rfl rfl rfl (Nat.zero_le _) hc (fun r17 M18 hr => ?_)
      have h := h _ _ hr
      refine j_if_eq (tgt := 79) dX3_name_72 (by decide) (fun hc19 => ?_) (fun hc19 => ?_)
      · have h := h.1 hc19
        refine j_iconst (v := 0) dX3_name_79 rfl ?_
        refine j_iret dX3_name_80 rfl (by decide) ?_
        exact ⟨_, rfl, h⟩
      · have h := h.2 hc19
        refine j_iconst (v := 1) dX3_name_75 rfl ?_
        refine j_goto (tgt := 80) dX3_name_76 (by decide) ?_
        refine j_iret dX3_name_80 rfl (by decide) ?_
        exact ⟨_, rfl, h⟩
  · have h := h.2 hc14
    refine j_aload_n dX3_name_14 rfl ?_
    refine j_getr dX3_name_15 fX3_9 rfl rfl ?_
    refine j_aload_n dX3_name_18 rfl ?_
    refine j_getf dX3_name_19 fX3_20 rfl rfl ?_
    obtain ⟨r20, hc, h⟩ := h
    refine j_cvf (lc := 0) (as := [.int (M 27 4)]) dX3_name_22 iX7_isLetter vX7_isLetter kX3_62 (by decide) rfl rfl rfl rfl (Nat.zero_le _) hc ?_
    refine j_if_eq (tgt := 41) dX3_name_25 (by decide) (fun hc21 => ?_) (fun hc21 => ?_)
    · have h := h.1 hc21
      refine j_aload_n dX3_name_41 rfl ?_
      refine j_iconst (v := 1) dX3_name_42 rfl ?_
      refine j_putf dX3_name_43 fX3_59 pX3_1 rfl rfl ?_
      refine j_aload_n dX3_name_46 rfl ?_
      refine j_aload_n dX3_name_47 rfl ?_
      obtain ⟨r22, hc, h⟩ := h
      refine j_cvf (lc := 6) (as := []) dX3_name_48 iX3_meaning vX3_meaning kX3_79 (by decide) rfl rfl rfl rfl (by simp [Value.category]) hc ?_
      refine j_putf dX3_name_51 fX3_83 pX3_3 rfl rfl ?_
      refine j_aload_n dX3_name_54 rfl ?_
      refine j_getv (v := .int r22) dX3_name_55 fX3_83 rfl rfl (fun _ => rfl) ?_
      refine j_bipush (v := (-4)) dX3_name_58 rfl ?_
      refine j_ic_ne (tgt := 75) dX3_name_60 (by decide) (fun hc23 => ?_) (fun hc23 => ?_)
      · have h := h.1 hc23
        refine j_iconst (v := 1) dX3_name_75 rfl ?_
        refine j_goto (tgt := 80) dX3_name_76 (by decide) ?_
        refine j_iret dX3_name_80 rfl (by decide) ?_
        exact ⟨_, rfl, h⟩
      · have h := h.2 hc23
        refine j_aload_n dX3_name_63 rfl ?_
        refine j_iconst (v := 1) dX3_name_64 rfl ?_
        refine j_aload_n dX3_name_65 rfl ?_
        refine j_getv (v := .int (M 27 2)) dX3_name_66 fX3_56 rfl rfl (fun _ => rfl) ?_
        obtain ⟨_, hc, h⟩ := h
        refine j_cvi (lc := 0) (as := [.int 1, .int (M 27 2)]) dX3_name_69 iX3_refuse vX3_refuse kX3_75 (by decide) rfl rfl rfl rfl (Nat.zero_le _) hc (fun r24 M25 hr => ?_)
        have h := h _ _ hr
        refine j_if_eq (tgt := 79) dX3_name_72 (by decide) (fun hc26 => ?_) (fun hc26 => ?_)
        · have h := h.1 hc26
          refine j_iconst (v := 0) dX3_name_79 rfl ?_
          refine j_iret dX3_name_80 rfl (by decide) ?_
          exact ⟨_, rfl, h⟩
        · have h := h.2 hc26
          refine j_iconst (v := 1) dX3_name_75 rfl ?_
          refine j_goto (tgt := 80) dX3_name_76 (by decide) ?_
          refine j_iret dX3_name_80 rfl (by decide) ?_
          exact ⟨_, rfl, h⟩
    · have h := h.2 hc21
      refine j_aload_n dX3_name_28 rfl ?_
      refine j_dup dX3_name_29 rfl ?_
      refine j_getf dX3_name_30 fX3_20 rfl rfl ?_
      refine j_iconst (v := 1) dX3_name_33 rfl ?_
      refine j_iadd dX3_name_34 ?_
      refine j_putf dX3_name_35 fX3_20 pX3_4 rfl rfl ?_
      refine j_goto (tgt := 0) dX3_name_38 (by decide) ?_
      exact zJw h ⟨rfl, trivial⟩
abbrev LX3_figures_10 (P : Int32 → zX → Prop) (M : zX)  : Prop := zJ SX 1 mX3_figures (zRi P) 10 [some (.ref 27)] [] M
theorem eX3_figures (P : Int32 → zX → Prop) (X : zX)  (h : LX3_figures_10 P (zs (zs X 27 1 2) 27 3 0)) : zPi SX 1 mX3_figures [.ref 27] X P := by
  refine zP_in [some (.ref 27)] ⟨rfl, trivial⟩ (by decide) (Nat.le_of_ble_eq_true rfl) ?_
  refine j_aload_n dX3_figures_0 rfl ?_
  refine j_iconst (v := 2) dX3_figures_1 rfl ?_
  refine j_putf dX3_figures_2 fX3_59 pX3_1 rfl rfl ?_
  refine j_aload_n dX3_figures_5 rfl ?_
  refine j_iconst (v := 0) dX3_figures_6 rfl ?_
  refine j_putf dX3_figures_7 fX3_83 pX3_3 rfl rfl ?_
  exact zJw h ⟨rfl, trivial⟩
theorem bX3_figures_10 (P : Int32 → zX → Prop) (M : zX)  (h : (((M 25 1) ≤ (M 27 4)) → (((((M 27 4) - (M 27 2)) ≤ 2) → (P 1 M)) ∧ ((¬ (((M 27 4) - (M 27 2)) ≤ 2)) → (∃ Qr3 : Int32 → zX → Prop, zPi SX 0 mX3_refuse [.ref 27, .int 1, .int (M 27 2)] M Qr3 ∧ ∀ (r3 : Int32) (M4 : zX), Qr3 r3 M4 → (((r3 = 0) → (P 0 M4)) ∧ ((¬ (r3 = 0)) → (P 1 M4))))))) ∧ ((¬ ((M 25 1) ≤ (M 27 4))) → (∃ r6 : Int32, zPf SX 0 mX7_isFigure [.ref 25, .int (M 27 4)] M r6 ∧ (((r6 = 0) → (((((M 27 4) - (M 27 2)) ≤ 2) → (P 1 M)) ∧ ((¬ (((M 27 4) - (M 27 2)) ≤ 2)) → (∃ Qr9 : Int32 → zX → Prop, zPi SX 0 mX3_refuse [.ref 27, .int 1, .int (M 27 2)] M Qr9 ∧ ∀ (r9 : Int32) (M10 : zX), Qr9 r9 M10 → (((r9 = 0) → (P 0 M10)) ∧ ((¬ (r9 = 0)) → (P 1 M10))))))) ∧ ((¬ (r6 = 0)) → (∃ j12 : Nat, (M 27 4) = nI j12 ∧ j12 < 200 ∧ (LX3_figures_10 P (zs (zs M 27 3 (((M 27 3) * 10) + ((M 26 j12) - 48))) 27 4 ((M 27 4) + 1))))))))) : LX3_figures_10 P M  := by
  refine j_aload_n dX3_figures_10 rfl ?_
  refine j_getf dX3_figures_11 fX3_20 rfl rfl ?_
  refine j_aload_n dX3_figures_14 rfl ?_
  refine j_getr dX3_figures_15 fX3_9 rfl rfl ?_
  refine j_getf dX3_figures_18 fX3_49 rfl rfl ?_
  refine j_ic_ge (tgt := 78) dX3_figures_21 (by decide) (fun hc1 => ?_) (fun hc1 => ?_)
  · have h := h.1 hc1
    refine j_aload_n dX3_figures_78 rfl ?_
    refine j_getf dX3_figures_79 fX3_20 rfl rfl ?_
    refine j_aload_n dX3_figures_82 rfl ?_
    refine j_getf dX3_figures_83 fX3_56 rfl rfl ?_
    refine j_isub dX3_figures_86 ?_
    refine j_iconst (v := 2) dX3_figures_87 rfl ?_
    refine j_ic_le (tgt := 103) dX3_figures_88 (by decide) (fun hc2 => ?_) (fun hc2 => ?_)
    · have h := h.1 hc2
      refine j_iconst (v := 1) dX3_figures_103 rfl ?_
      refine j_goto (tgt := 108) dX3_figures_104 (by decide) ?_
      refine j_iret dX3_figures_108 rfl (by decide) ?_
      exact ⟨_, rfl, h⟩
    · have h := h.2 hc2
      refine j_aload_n dX3_figures_91 rfl ?_
      refine j_iconst (v := 1) dX3_figures_92 rfl ?_
      refine j_aload_n dX3_figures_93 rfl ?_
      refine j_getf dX3_figures_94 fX3_56 rfl rfl ?_
      obtain ⟨_, hc, h⟩ := h
      refine j_cvi (lc := 0) (as := [.int 1, .int (M 27 2)]) dX3_figures_97 iX3_refuse vX3_refuse kX3_75 (by decide) rfl rfl rfl rfl (Nat.zero_le _) hc (fun r3 M4 hr => ?_)
      have h := h _ _ hr
      refine j_if_eq (tgt := 107) dX3_figures_100 (by decide) (fun hc5 => ?_) (fun hc5 => ?_)
      · have h := h.1 hc5
        refine j_iconst (v := 0) dX3_figures_107 rfl ?_
        refine j_iret dX3_figures_108 rfl (by decide) ?_
        exact ⟨_, rfl, h⟩
      · have h := h.2 hc5
        refine j_iconst (v := 1) dX3_figures_103 rfl ?_
        refine j_goto (tgt := 108) dX3_figures_104 (by decide) ?_
        refine j_iret dX3_figures_108 rfl (by decide) ?_
        exact ⟨_, rfl, h⟩
  · have h := h.2 hc1
    refine j_aload_n dX3_figures_24 rfl ?_
    refine j_getr dX3_figures_25 fX3_9 rfl rfl ?_
    refine j_aload_n dX3_figures_28 rfl ?_
    refine j_getf dX3_figures_29 fX3_20 rfl rfl ?_
    obtain ⟨r6, hc, h⟩ := h
    refine j_cvf (lc := 0) (as := [.int (M 27 4)]) dX3_figures_32 iX7_isFigure vX7_isFigure kX3_69 (by decide) rfl rfl rfl rfl (Nat.zero_le _) hc ?_
    refine j_if_eq (tgt := 78) dX3_figures_35 (by decide) (fun hc7 => ?_) (fun hc7 => ?_)
    · have h := h.1 hc7
      refine j_aload_n dX3_figures_78 rfl ?_
      refine j_getf dX3_figures_79 fX3_20 rfl rfl ?_
      refine j_aload_n dX3_figures_82 rfl ?_
      refine j_getf dX3_figures_83 fX3_56 rfl rfl ?_
      refine j_isub dX3_figures_86 ?_
      refine j_iconst (v := 2) dX3_figures_87 rfl ?_
      refine j_ic_le (tgt := 103) dX3_figures_88 (by decide) (fun hc8 => ?_) (fun hc8 => ?_)
      · have h := h.1 hc8
        refine j_iconst (v := 1) dX3_figures_103 rfl ?_
        refine j_goto (tgt := 108) dX3_figures_104 (by decide) ?_
        refine j_iret dX3_figures_108 rfl (by decide) ?_
        exact ⟨_, rfl, h⟩
      · have h := h.2 hc8
        refine j_aload_n dX3_figures_91 rfl ?_
        refine j_iconst (v := 1) dX3_figures_92 rfl ?_
        refine j_aload_n dX3_figures_93 rfl ?_
        refine j_getf dX3_figures_94 fX3_56 rfl rfl ?_
        obtain ⟨_, hc, h⟩ := h
        refine j_cvi (lc := 0) (as := [.int 1, .int (M 27 2)]) dX3_figures_97 iX3_refuse vX3_refuse kX3_75 (by decide) rfl rfl rfl rfl (Nat.zero_le _) hc (fun r9 M10 hr => ?_)
        have h := h _ _ hr
        refine j_if_eq (tgt := 107) dX3_figures_100 (by decide) (fun hc11 => ?_) (fun hc11 => ?_)
        · have h := h.1 hc11
          refine j_iconst (v := 0) dX3_figures_107 rfl ?_
          refine j_iret dX3_figures_108 rfl (by decide) ?_
          exact ⟨_, rfl, h⟩
        · have h := h.2 hc11
          refine j_iconst (v := 1) dX3_figures_103 rfl ?_
          refine j_goto (tgt := 108) dX3_figures_104 (by decide) ?_
          refine j_iret dX3_figures_108 rfl (by decide) ?_
          exact ⟨_, rfl, h⟩
    · have h := h.2 hc7
      refine j_aload_n dX3_figures_38 rfl ?_
      refine j_aload_n dX3_figures_39 rfl ?_
      refine j_getf dX3_figures_40 fX3_83 rfl rfl ?_
      refine j_bipush (v := 10) dX3_figures_43 rfl ?_
      refine j_imul dX3_figures_45 ?_
      refine j_aload_n dX3_figures_46 rfl ?_
      refine j_getr dX3_figures_47 fX3_9 rfl rfl ?_
      refine j_getr dX3_figures_50 fX3_52 rfl rfl ?_
      refine j_aload_n dX3_figures_53 rfl ?_
      refine j_getf dX3_figures_54 fX3_20 rfl rfl ?_
      obtain ⟨j12, ej12, lj12, h⟩ := h
      refine j_bald dX3_figures_57 rfl (zin ej12 lj12 (by decide)) ?_
      rw [zcl ej12 lj12 (by decide)]
      refine j_bipush (v := 48) dX3_figures_58 rfl ?_
      refine j_isub dX3_figures_60 ?_
      refine j_iadd dX3_figures_61 ?_
      refine j_putf dX3_figures_62 fX3_83 pX3_3 rfl rfl ?_
      refine j_aload_n dX3_figures_65 rfl ?_
      refine j_dup dX3_figures_66 rfl ?_
      refine j_getv (v := .int (M 27 4)) dX3_figures_67 fX3_20 rfl rfl (fun _ => rfl) ?_
      refine j_iconst (v := 1) dX3_figures_70 rfl ?_
      refine j_iadd dX3_figures_71 ?_
      refine j_putf dX3_figures_72 fX3_20 pX3_4 rfl rfl ?_
      refine j_goto (tgt := 10) dX3_figures_75 (by decide) ?_
      exact zJw h ⟨rfl, trivial⟩
theorem eX3_take (P : Int32 → zX → Prop) (X : zX)  (h : ((¬ (X 27 5) = (-4)) → ((((X 27 7) ≤ 0) → ((((X 27 1) = 3) → (P 1 (zs (zs X 27 5 (-4)) 27 8 ((X 27 8) + 1)))) ∧ ((¬ ((X 27 1) = 3)) → (∃ Qr4 : Int32 → zX → Prop, zPi SX 0 mX3_refuse [.ref 27, .int 2, .int (X 27 2)] X Qr4 ∧ ∀ (r4 : Int32) (M5 : zX), Qr4 r4 M5 → (narrow .boolean (.int r4) = .int r4 ∧ P r4 M5))))) ∧ ((¬ ((X 27 7) ≤ 0)) → (∃ Qr6 : Int32 → zX → Prop, zPi SX 3 mX3_number [.ref 27, .ref 58] X Qr6 ∧ ∀ (r6 : Int32) (M7 : zX), Qr6 r6 M7 → (narrow .boolean (.int r6) = .int r6 ∧ P r6 M7))))) ∧ (((X 27 5) = (-4)) → ((((X 27 1) = 0) → (P 0 X)) ∧ ((¬ ((X 27 1) = 0)) → (∃ Qr9 : Int32 → zX → Prop, zPi SX 1 mX3_begin [.ref 27] X Qr9 ∧ ∀ (r9 : Int32) (M10 : zX), Qr9 r9 M10 → (((r9 = 0) → (P 0 M10)) ∧ ((¬ (r9 = 0)) → (P 1 M10)))))))) : zPi SX 4 mX3_take [.ref 27, .ref 58] X P := by
  refine zP_in [some (.ref 27), some (.ref 58)] ⟨rfl, rfl, trivial⟩ (by decide) (Nat.le_of_ble_eq_true rfl) ?_
  refine j_aload_n dX3_take_0 rfl ?_
  refine j_getf dX3_take_1 fX3_24 rfl rfl ?_
  refine j_bipush (v := (-4)) dX3_take_4 rfl ?_
  refine j_ic_ne (tgt := 29) dX3_take_6 (by decide) (fun hc1 => ?_) (fun hc1 => ?_)
  · have h := h.1 hc1
    refine j_aload_n dX3_take_29 rfl ?_
    refine j_getf dX3_take_30 fX3_105 rfl rfl ?_
    refine j_if_le (tgt := 42) dX3_take_33 (by decide) (fun hc2 => ?_) (fun hc2 => ?_)
    · have h := h.1 hc2
      refine j_aload_n dX3_take_42 rfl ?_
      refine j_getf dX3_take_43 fX3_59 rfl rfl ?_
      refine j_iconst (v := 3) dX3_take_46 rfl ?_
      refine j_ic_eq (tgt := 60) dX3_take_47 (by decide) (fun hc3 => ?_) (fun hc3 => ?_)
      · have h := h.1 hc3
        refine j_aload_n dX3_take_60 rfl ?_
        refine j_bipush (v := (-4)) dX3_take_61 rfl ?_
        refine j_putf dX3_take_63 fX3_24 pX3_5 rfl rfl ?_
        refine j_aload_n dX3_take_66 rfl ?_
        refine j_dup dX3_take_67 rfl ?_
        refine j_getv (v := .int (X 27 8)) dX3_take_68 fX3_27 rfl rfl (fun _ => rfl) ?_
        refine j_iconst (v := 1) dX3_take_71 rfl ?_
        refine j_iadd dX3_take_72 ?_
        refine j_putf dX3_take_73 fX3_27 pX3_8 rfl rfl ?_
        refine j_iconst (v := 1) dX3_take_76 rfl ?_
        refine j_iret dX3_take_77 rfl (by decide) ?_
        exact ⟨_, rfl, h⟩
      · have h := h.2 hc3
        refine j_aload_n dX3_take_50 rfl ?_
        refine j_iconst (v := 2) dX3_take_51 rfl ?_
        refine j_aload_n dX3_take_52 rfl ?_
        refine j_getf dX3_take_53 fX3_56 rfl rfl ?_
        obtain ⟨_, hc, h⟩ := h
        refine j_cvi (lc := 0) (as := [.int 2, .int (X 27 2)]) dX3_take_56 iX3_refuse vX3_refuse kX3_75 (by decide) rfl rfl rfl rfl (Nat.zero_le _) hc (fun r4 M5 hr => ?_)
        have h := h _ _ hr
        refine j_iret (ty := .boolean) dX3_take_59 rfl h.1 ?_
        have h := h.2
        exact ⟨_, rfl, h⟩
    · have h := h.2 hc2
      refine j_aload_n dX3_take_36 rfl ?_
      refine j_aload_n dX3_take_37 rfl ?_
      obtain ⟨_, hc, h⟩ := h
      refine j_cvi (lc := 3) (as := [.ref 58]) dX3_take_38 iX3_number vX3_number kX3_108 (by decide) rfl rfl rfl rfl (Nat.zero_le _) hc (fun r6 M7 hr => ?_)
      have h := h _ _ hr
      refine j_iret (ty := .boolean) dX3_take_41 rfl h.1 ?_
      have h := h.2
      exact ⟨_, rfl, h⟩
  · have h := h.2 hc1
    refine j_aload_n dX3_take_9 rfl ?_
    refine j_getf dX3_take_10 fX3_59 rfl rfl ?_
    refine j_if_eq (tgt := 27) dX3_take_13 (by decide) (fun hc8 => ?_) (fun hc8 => ?_)
    · have h := h.1 hc8
      refine j_iconst (v := 0) dX3_take_27 rfl ?_
      refine j_iret dX3_take_28 rfl (by decide) ?_
      exact ⟨_, rfl, h⟩
    · have h := h.2 hc8
      refine j_aload_n dX3_take_16 rfl ?_
      obtain ⟨_, hc, h⟩ := h
      refine j_cvi (lc := 1) (as := []) dX3_take_17 iX3_begin vX3_begin kX3_102 (by decide) rfl rfl rfl rfl (Nat.zero_le _) hc (fun r9 M10 hr => ?_)
      have h := h _ _ hr
      refine j_if_eq (tgt := 27) dX3_take_20 (by decide) (fun hc11 => ?_) (fun hc11 => ?_)
      · have h := h.1 hc11
        refine j_iconst (v := 0) dX3_take_27 rfl ?_
        refine j_iret dX3_take_28 rfl (by decide) ?_
        exact ⟨_, rfl, h⟩
      · have h := h.2 hc11
        refine j_iconst (v := 1) dX3_take_23 rfl ?_
        refine j_goto (tgt := 28) dX3_take_24 (by decide) ?_
        refine j_iret dX3_take_28 rfl (by decide) ?_
        exact ⟨_, rfl, h⟩
theorem eX3_begin (P : Int32 → zX → Prop) (X : zX)  (h : (((X 27 1) = 1) → ((((X 27 3) = 1) → (((¬ ((zshr (X 27 9) (X 27 3)) &&& 1) = 1) → (P 1 (zs (zs (zs X 27 9 ((X 27 9) ||| (zshl 1 (X 27 3)))) 27 5 (X 27 3)) 27 7 1))) ∧ ((((zshr (X 27 9) (X 27 3)) &&& 1) = 1) → (∃ Qr4 : Int32 → zX → Prop, zPi SX 0 mX3_refuse [.ref 27, .int 4, .int (X 27 2)] X Qr4 ∧ ∀ (r4 : Int32) (M5 : zX), Qr4 r4 M5 → (narrow .boolean (.int r4) = .int r4 ∧ P r4 M5))))) ∧ ((¬ ((X 27 3) = 1)) → ((((X 27 3) = 2) → (((¬ ((zshr (X 27 9) (X 27 3)) &&& 1) = 1) → (P 1 (zs (zs (zs X 27 9 ((X 27 9) ||| (zshl 1 (X 27 3)))) 27 5 (X 27 3)) 27 7 1))) ∧ ((((zshr (X 27 9) (X 27 3)) &&& 1) = 1) → (∃ Qr8 : Int32 → zX → Prop, zPi SX 0 mX3_refuse [.ref 27, .int 4, .int (X 27 2)] X Qr8 ∧ ∀ (r8 : Int32) (M9 : zX), Qr8 r8 M9 → (narrow .boolean (.int r8) = .int r8 ∧ P r8 M9))))) ∧ ((¬ ((X 27 3) = 2)) → (((¬ (X 27 3) = 3) → (P 1 (zs (zs (zs X 27 9 ((X 27 9) ||| (zshl 1 (X 27 3)))) 27 5 (X 27 3)) 27 7 2))) ∧ (((X 27 3) = 3) → (((¬ ((zshr (X 27 9) (X 27 3)) &&& 1) = 1) → (P 1 (zs (zs (zs X 27 9 ((X 27 9) ||| (zshl 1 (X 27 3)))) 27 5 (X 27 3)) 27 7 1))) ∧ ((((zshr (X 27 9) (X 27 3)) &&& 1) = 1) → (∃ Qr12 : Int32 → zX → Prop, zPi SX 0 mX3_refuse [.ref 27, .int 4, .int (X 27 2)] X Qr12 ∧ ∀ (r12 : Int32) (M13 : zX), Qr12 r12 M13 → (narrow .boolean (.int r12) = .int r12 ∧ P r12 M13))))))))))) ∧ ((¬ ((X 27 1) = 1)) → (∃ Qr14 : Int32 → zX → Prop, zPi SX 0 mX3_refuse [.ref 27, .int 2, .int (X 27 2)] X Qr14 ∧ ∀ (r14 : Int32) (M15 : zX), Qr14 r14 M15 → (narrow .boolean (.int r14) = .int r14 ∧ P r14 M15)))) : zPi SX 1 mX3_begin [.ref 27] X P := by
  refine zP_in [some (.ref 27), none] ⟨rfl, trivial⟩ (by decide) (Nat.le_of_ble_eq_true rfl) ?_
  refine j_aload_n dX3_begin_0 rfl ?_
  refine j_getf dX3_begin_1 fX3_59 rfl rfl ?_
  refine j_iconst (v := 1) dX3_begin_4 rfl ?_
  refine j_ic_eq (tgt := 18) dX3_begin_5 (by decide) (fun hc1 => ?_) (fun hc1 => ?_)
  · have h := h.1 hc1
    refine j_aload_n dX3_begin_18 rfl ?_
    refine j_getf dX3_begin_19 fX3_83 rfl rfl ?_
    refine j_iconst (v := 1) dX3_begin_22 rfl ?_
    refine j_ic_eq (tgt := 42) dX3_begin_23 (by decide) (fun hc2 => ?_) (fun hc2 => ?_)
    · have h := h.1 hc2
      refine j_iconst (v := 1) dX3_begin_42 rfl ?_
      refine j_goto (tgt := 47) dX3_begin_43 (by decide) ?_
      refine j_istore_n (L2 := [some (.ref 27), some (.int 1)]) dX3_begin_47 (by decide) (zno rfl) rfl ?_
      refine j_iload_n dX3_begin_48 rfl ?_
      refine j_if_eq (tgt := 77) dX3_begin_49 (by decide) (fun hc => absurd hc (by decide)) (fun _ => ?_)
      refine j_aload_n dX3_begin_52 rfl ?_
      refine j_getf dX3_begin_53 fX3_30 rfl rfl ?_
      refine j_aload_n dX3_begin_56 rfl ?_
      refine j_getf dX3_begin_57 fX3_83 rfl rfl ?_
      refine j_ishr dX3_begin_60 ?_
      refine j_iconst (v := 1) dX3_begin_61 rfl ?_
      refine j_iand dX3_begin_62 ?_
      refine j_iconst (v := 1) dX3_begin_63 rfl ?_
      refine j_ic_ne (tgt := 77) dX3_begin_64 (by decide) (fun hc3 => ?_) (fun hc3 => ?_)
      · have h := h.1 hc3
        refine j_aload_n dX3_begin_77 rfl ?_
        refine j_dup dX3_begin_78 rfl ?_
        refine j_getf dX3_begin_79 fX3_30 rfl rfl ?_
        refine j_iconst (v := 1) dX3_begin_82 rfl ?_
        refine j_aload_n dX3_begin_83 rfl ?_
        refine j_getf dX3_begin_84 fX3_83 rfl rfl ?_
        refine j_ishl dX3_begin_87 ?_
        refine j_ior dX3_begin_88 ?_
        refine j_putf dX3_begin_89 fX3_30 pX3_9 rfl rfl ?_
        refine j_aload_n dX3_begin_92 rfl ?_
        refine j_aload_n dX3_begin_93 rfl ?_
        refine j_getv (v := .int (X 27 3)) dX3_begin_94 fX3_83 rfl rfl (fun _ => rfl) ?_
        refine j_putf dX3_begin_97 fX3_24 pX3_5 rfl rfl ?_
        refine j_aload_n dX3_begin_100 rfl ?_
        refine j_iload_n dX3_begin_101 rfl ?_
        refine j_if_eq (tgt := 109) dX3_begin_102 (by decide) (fun hc => absurd hc (by decide)) (fun _ => ?_)
        refine j_iconst (v := 1) dX3_begin_105 rfl ?_
        refine j_goto (tgt := 110) dX3_begin_106 (by decide) ?_
        refine j_putf dX3_begin_110 fX3_105 pX3_7 rfl rfl ?_
        refine j_iconst (v := 1) dX3_begin_113 rfl ?_
        refine j_iret dX3_begin_114 rfl (by decide) ?_
        exact ⟨_, rfl, h⟩
      · have h := h.2 hc3
        refine j_aload_n dX3_begin_67 rfl ?_
        refine j_iconst (v := 4) dX3_begin_68 rfl ?_
        refine j_aload_n dX3_begin_69 rfl ?_
        refine j_getf dX3_begin_70 fX3_56 rfl rfl ?_
        obtain ⟨_, hc, h⟩ := h
        refine j_cvi (lc := 0) (as := [.int 4, .int (X 27 2)]) dX3_begin_73 iX3_refuse vX3_refuse kX3_75 (by decide) rfl rfl rfl rfl (Nat.zero_le _) hc (fun r4 M5 hr => ?_)
        have h := h _ _ hr
        refine j_iret (ty := .boolean) dX3_begin_76 rfl h.1 ?_
        have h := h.2
        exact ⟨_, rfl, h⟩
    · have h := h.2 hc2
      refine j_aload_n dX3_begin_26 rfl ?_
      refine j_getf dX3_begin_27 fX3_83 rfl rfl ?_
      refine j_iconst (v := 2) dX3_begin_30 rfl ?_
      refine j_ic_eq (tgt := 42) dX3_begin_31 (by decide) (fun hc6 => ?_) (fun hc6 => ?_)
      · have h := h.1 hc6
        refine j_iconst (v := 1) dX3_begin_42 rfl ?_
        refine j_goto (tgt := 47) dX3_begin_43 (by decide) ?_
        refine j_istore_n (L2 := [some (.ref 27), some (.int 1)]) dX3_begin_47 (by decide) (zno rfl) rfl ?_
        refine j_iload_n dX3_begin_48 rfl ?_
        refine j_if_eq (tgt := 77) dX3_begin_49 (by decide) (fun hc => absurd hc (by decide)) (fun _ => ?_)
        refine j_aload_n dX3_begin_52 rfl ?_
        refine j_getf dX3_begin_53 fX3_30 rfl rfl ?_
        refine j_aload_n dX3_begin_56 rfl ?_
        refine j_getf dX3_begin_57 fX3_83 rfl rfl ?_
        refine j_ishr dX3_begin_60 ?_
        refine j_iconst (v := 1) dX3_begin_61 rfl ?_
        refine j_iand dX3_begin_62 ?_
        refine j_iconst (v := 1) dX3_begin_63 rfl ?_
        refine j_ic_ne (tgt := 77) dX3_begin_64 (by decide) (fun hc7 => ?_) (fun hc7 => ?_)
        · have h := h.1 hc7
          refine j_aload_n dX3_begin_77 rfl ?_
          refine j_dup dX3_begin_78 rfl ?_
          refine j_getf dX3_begin_79 fX3_30 rfl rfl ?_
          refine j_iconst (v := 1) dX3_begin_82 rfl ?_
          refine j_aload_n dX3_begin_83 rfl ?_
          refine j_getf dX3_begin_84 fX3_83 rfl rfl ?_
          refine j_ishl dX3_begin_87 ?_
          refine j_ior dX3_begin_88 ?_
          refine j_putf dX3_begin_89 fX3_30 pX3_9 rfl rfl ?_
          refine j_aload_n dX3_begin_92 rfl ?_
          refine j_aload_n dX3_begin_93 rfl ?_
          refine j_getv (v := .int (X 27 3)) dX3_begin_94 fX3_83 rfl rfl (fun _ => rfl) ?_
          refine j_putf dX3_begin_97 fX3_24 pX3_5 rfl rfl ?_
          refine j_aload_n dX3_begin_100 rfl ?_
          refine j_iload_n dX3_begin_101 rfl ?_
          refine j_if_eq (tgt := 109) dX3_begin_102 (by decide) (fun hc => absurd hc (by decide)) (fun _ => ?_)
          refine j_iconst (v := 1) dX3_begin_105 rfl ?_
          refine j_goto (tgt := 110) dX3_begin_106 (by decide) ?_
          refine j_putf dX3_begin_110 fX3_105 pX3_7 rfl rfl ?_
          refine j_iconst (v := 1) dX3_begin_113 rfl ?_
          refine j_iret dX3_begin_114 rfl (by decide) ?_
          exact ⟨_, rfl, h⟩
        · have h := h.2 hc7
          refine j_aload_n dX3_begin_67 rfl ?_
          refine j_iconst (v := 4) dX3_begin_68 rfl ?_
          refine j_aload_n dX3_begin_69 rfl ?_
          refine j_getf dX3_begin_70 fX3_56 rfl rfl ?_
          obtain ⟨_, hc, h⟩ := h
          refine j_cvi (lc := 0) (as := [.int 4, .int (X 27 2)]) dX3_begin_73 iX3_refuse vX3_refuse kX3_75 (by decide) rfl rfl rfl rfl (Nat.zero_le _) hc (fun r8 M9 hr => ?_)
          have h := h _ _ hr
          refine j_iret (ty := .boolean) dX3_begin_76 rfl h.1 ?_
          have h := h.2
          exact ⟨_, rfl, h⟩
      · have h := h.2 hc6
        refine j_aload_n dX3_begin_34 rfl ?_
        refine j_getf dX3_begin_35 fX3_83 rfl rfl ?_
        refine j_iconst (v := 3) dX3_begin_38 rfl ?_
        refine j_ic_ne (tgt := 46) dX3_begin_39 (by decide) (fun hc10 => ?_) (fun hc10 => ?_)
        · have h := h.1 hc10
          refine j_iconst (v := 0) dX3_begin_46 rfl ?_
          refine j_istore_n (L2 := [some (.ref 27), some (.int 0)]) dX3_begin_47 (by decide) (zno rfl) rfl ?_
          refine j_iload_n dX3_begin_48 rfl ?_
          refine j_if_eq (tgt := 77) dX3_begin_49 (by decide) (fun _ => ?_) (fun hc => absurd hc (by decide))
          refine j_aload_n dX3_begin_77 rfl ?_
          refine j_dup dX3_begin_78 rfl ?_
          refine j_getf dX3_begin_79 fX3_30 rfl rfl ?_
          refine j_iconst (v := 1) dX3_begin_82 rfl ?_
          refine j_aload_n dX3_begin_83 rfl ?_
          refine j_getf dX3_begin_84 fX3_83 rfl rfl ?_
          refine j_ishl dX3_begin_87 ?_
          refine j_ior dX3_begin_88 ?_
          refine j_putf dX3_begin_89 fX3_30 pX3_9 rfl rfl ?_
          refine j_aload_n dX3_begin_92 rfl ?_
          refine j_aload_n dX3_begin_93 rfl ?_
          refine j_getv (v := .int (X 27 3)) dX3_begin_94 fX3_83 rfl rfl (fun _ => rfl) ?_
          refine j_putf dX3_begin_97 fX3_24 pX3_5 rfl rfl ?_
          refine j_aload_n dX3_begin_100 rfl ?_
          refine j_iload_n dX3_begin_101 rfl ?_
          refine j_if_eq (tgt := 109) dX3_begin_102 (by decide) (fun _ => ?_) (fun hc => absurd hc (by decide))
          refine j_iconst (v := 2) dX3_begin_109 rfl ?_
          refine j_putf dX3_begin_110 fX3_105 pX3_7 rfl rfl ?_
          refine j_iconst (v := 1) dX3_begin_113 rfl ?_
          refine j_iret dX3_begin_114 rfl (by decide) ?_
          exact ⟨_, rfl, h⟩
        · have h := h.2 hc10
          refine j_iconst (v := 1) dX3_begin_42 rfl ?_
          refine j_goto (tgt := 47) dX3_begin_43 (by decide) ?_
          refine j_istore_n (L2 := [some (.ref 27), some (.int 1)]) dX3_begin_47 (by decide) (zno rfl) rfl ?_
          refine j_iload_n dX3_begin_48 rfl ?_
          refine j_if_eq (tgt := 77) dX3_begin_49 (by decide) (fun hc => absurd hc (by decide)) (fun _ => ?_)
          refine j_aload_n dX3_begin_52 rfl ?_
          refine j_getf dX3_begin_53 fX3_30 rfl rfl ?_
          refine j_aload_n dX3_begin_56 rfl ?_
          refine j_getf dX3_begin_57 fX3_83 rfl rfl ?_
          refine j_ishr dX3_begin_60 ?_
          refine j_iconst (v := 1) dX3_begin_61 rfl ?_
          refine j_iand dX3_begin_62 ?_
          refine j_iconst (v := 1) dX3_begin_63 rfl ?_
          refine j_ic_ne (tgt := 77) dX3_begin_64 (by decide) (fun hc11 => ?_) (fun hc11 => ?_)
          · have h := h.1 hc11
            refine j_aload_n dX3_begin_77 rfl ?_
            refine j_dup dX3_begin_78 rfl ?_
            refine j_getf dX3_begin_79 fX3_30 rfl rfl ?_
            refine j_iconst (v := 1) dX3_begin_82 rfl ?_
            refine j_aload_n dX3_begin_83 rfl ?_
            refine j_getf dX3_begin_84 fX3_83 rfl rfl ?_
            refine j_ishl dX3_begin_87 ?_
            refine j_ior dX3_begin_88 ?_
            refine j_putf dX3_begin_89 fX3_30 pX3_9 rfl rfl ?_
            refine j_aload_n dX3_begin_92 rfl ?_
            refine j_aload_n dX3_begin_93 rfl ?_
            refine j_getv (v := .int (X 27 3)) dX3_begin_94 fX3_83 rfl rfl (fun _ => rfl) ?_
            refine j_putf dX3_begin_97 fX3_24 pX3_5 rfl rfl ?_
            refine j_aload_n dX3_begin_100 rfl ?_
            refine j_iload_n dX3_begin_101 rfl ?_
            refine j_if_eq (tgt := 109) dX3_begin_102 (by decide) (fun hc => absurd hc (by decide)) (fun _ => ?_)
            refine j_iconst (v := 1) dX3_begin_105 rfl ?_
            refine j_goto (tgt := 110) dX3_begin_106 (by decide) ?_
            refine j_putf dX3_begin_110 fX3_105 pX3_7 rfl rfl ?_
            refine j_iconst (v := 1) dX3_begin_113 rfl ?_
            refine j_iret dX3_begin_114 rfl (by decide) ?_
            exact ⟨_, rfl, h⟩
          · have h := h.2 hc11
            refine j_aload_n dX3_begin_67 rfl ?_
            refine j_iconst (v := 4) dX3_begin_68 rfl ?_
            refine j_aload_n dX3_begin_69 rfl ?_
            refine j_getf dX3_begin_70 fX3_56 rfl rfl ?_
            obtain ⟨_, hc, h⟩ := h
            refine j_cvi (lc := 0) (as := [.int 4, .int (X 27 2)]) dX3_begin_73 iX3_refuse vX3_refuse kX3_75 (by decide) rfl rfl rfl rfl (Nat.zero_le _) hc (fun r12 M13 hr => ?_)
            have h := h _ _ hr
            refine j_iret (ty := .boolean) dX3_begin_76 rfl h.1 ?_
            have h := h.2
            exact ⟨_, rfl, h⟩
  · have h := h.2 hc1
    refine j_aload_n dX3_begin_8 rfl ?_
    refine j_iconst (v := 2) dX3_begin_9 rfl ?_
    refine j_aload_n dX3_begin_10 rfl ?_
    refine j_getf dX3_begin_11 fX3_56 rfl rfl ?_
    obtain ⟨_, hc, h⟩ := h
    refine j_cvi (lc := 0) (as := [.int 2, .int (X 27 2)]) dX3_begin_14 iX3_refuse vX3_refuse kX3_75 (by decide) rfl rfl rfl rfl (Nat.zero_le _) hc (fun r14 M15 hr => ?_)
    have h := h _ _ hr
    refine j_iret (ty := .boolean) dX3_begin_17 rfl h.1 ?_
    have h := h.2
    exact ⟨_, rfl, h⟩
theorem eX3_number (P : Int32 → zX → Prop) (X : zX)  (h : (((X 27 1) = 2) → (((¬ (X 27 5) = 3) → ((((X 27 3) < 0) → (∃ Qr4 : Int32 → zX → Prop, zPi SX 0 mX3_refuse [.ref 27, .int 3, .int (X 27 2)] X Qr4 ∧ ∀ (r4 : Int32) (M5 : zX), Qr4 r4 M5 → (narrow .boolean (.int r4) = .int r4 ∧ P r4 M5))) ∧ ((¬ ((X 27 3) < 0)) → (∃ r6 : Int32, zPf SX 0 mX3_most [.ref 27] X r6 ∧ ((((X 27 3) ≤ r6) → (((¬ ((X 27 7) - 1) = 0) → (((¬ (X 27 5) = 4) → (P 1 (zs (zs X 27 7 ((X 27 7) - 1)) 27 6 (X 27 3)))) ∧ (((X 27 5) = 4) → (∃ j10 : Nat, (X 27 3) = nI j10 ∧ j10 < 12 ∧ ((((X 61 j10) = (-4)) → (P 1 (zs (zs X 27 7 ((X 27 7) - 1)) 27 6 (X 27 3)))) ∧ ((¬ ((X 61 j10) = (-4))) → (∃ Qr12 : Int32 → zX → Prop, zPi SX 0 mX3_refuse [.ref 27, .int 4, .int (X 27 2)] (zs X 27 7 ((X 27 7) - 1)) Qr12 ∧ ∀ (r12 : Int32) (M13 : zX), Qr12 r12 M13 → (narrow .boolean (.int r12) = .int r12 ∧ P r12 M13)))))))) ∧ ((((X 27 7) - 1) = 0) → (∃ Qr14 : Int32 → zX → Prop, zPi SX 2 mX3_apply [.ref 27, .ref 58] (zs X 27 7 ((X 27 7) - 1)) Qr14 ∧ ∀ (r14 : Int32) (M15 : zX), Qr14 r14 M15 → (narrow .boolean (.int r14) = .int r14 ∧ P r14 M15))))) ∧ ((¬ ((X 27 3) ≤ r6)) → (∃ Qr16 : Int32 → zX → Prop, zPi SX 0 mX3_refuse [.ref 27, .int 3, .int (X 27 2)] X Qr16 ∧ ∀ (r16 : Int32) (M17 : zX), Qr16 r16 M17 → (narrow .boolean (.int r16) = .int r16 ∧ P r16 M17)))))))) ∧ (((X 27 5) = 3) → ((((X 27 3) < 1) → (∃ Qr19 : Int32 → zX → Prop, zPi SX 0 mX3_refuse [.ref 27, .int 3, .int (X 27 2)] X Qr19 ∧ ∀ (r19 : Int32) (M20 : zX), Qr19 r19 M20 → (narrow .boolean (.int r19) = .int r19 ∧ P r19 M20))) ∧ ((¬ ((X 27 3) < 1)) → (∃ r21 : Int32, zPf SX 0 mX3_most [.ref 27] X r21 ∧ ((((X 27 3) ≤ r21) → (((¬ ((X 27 7) - 1) = 0) → (((¬ (X 27 5) = 4) → (P 1 (zs (zs X 27 7 ((X 27 7) - 1)) 27 6 (X 27 3)))) ∧ (((X 27 5) = 4) → (∃ j25 : Nat, (X 27 3) = nI j25 ∧ j25 < 12 ∧ ((((X 61 j25) = (-4)) → (P 1 (zs (zs X 27 7 ((X 27 7) - 1)) 27 6 (X 27 3)))) ∧ ((¬ ((X 61 j25) = (-4))) → (∃ Qr27 : Int32 → zX → Prop, zPi SX 0 mX3_refuse [.ref 27, .int 4, .int (X 27 2)] (zs X 27 7 ((X 27 7) - 1)) Qr27 ∧ ∀ (r27 : Int32) (M28 : zX), Qr27 r27 M28 → (narrow .boolean (.int r27) = .int r27 ∧ P r27 M28)))))))) ∧ ((((X 27 7) - 1) = 0) → (∃ Qr29 : Int32 → zX → Prop, zPi SX 2 mX3_apply [.ref 27, .ref 58] (zs X 27 7 ((X 27 7) - 1)) Qr29 ∧ ∀ (r29 : Int32) (M30 : zX), Qr29 r29 M30 → (narrow .boolean (.int r29) = .int r29 ∧ P r29 M30))))) ∧ ((¬ ((X 27 3) ≤ r21)) → (∃ Qr31 : Int32 → zX → Prop, zPi SX 0 mX3_refuse [.ref 27, .int 3, .int (X 27 2)] X Qr31 ∧ ∀ (r31 : Int32) (M32 : zX), Qr31 r31 M32 → (narrow .boolean (.int r31) = .int r31 ∧ P r31 M32)))))))))) ∧ ((¬ ((X 27 1) = 2)) → (∃ Qr33 : Int32 → zX → Prop, zPi SX 0 mX3_refuse [.ref 27, .int 2, .int (X 27 2)] X Qr33 ∧ ∀ (r33 : Int32) (M34 : zX), Qr33 r33 M34 → (narrow .boolean (.int r33) = .int r33 ∧ P r33 M34)))) : zPi SX 3 mX3_number [.ref 27, .ref 58] X P := by
  refine zP_in [some (.ref 27), some (.ref 58)] ⟨rfl, rfl, trivial⟩ (by decide) (Nat.le_of_ble_eq_true rfl) ?_
  refine j_aload_n dX3_number_0 rfl ?_
  refine j_getf dX3_number_1 fX3_59 rfl rfl ?_
  refine j_iconst (v := 2) dX3_number_4 rfl ?_
  refine j_ic_eq (tgt := 18) dX3_number_5 (by decide) (fun hc1 => ?_) (fun hc1 => ?_)
  · have h := h.1 hc1
    refine j_aload_n dX3_number_18 rfl ?_
    refine j_getf dX3_number_19 fX3_83 rfl rfl ?_
    refine j_aload_n dX3_number_22 rfl ?_
    refine j_getf dX3_number_23 fX3_24 rfl rfl ?_
    refine j_iconst (v := 3) dX3_number_26 rfl ?_
    refine j_ic_ne (tgt := 34) dX3_number_27 (by decide) (fun hc2 => ?_) (fun hc2 => ?_)
    · have h := h.1 hc2
      refine j_iconst (v := 0) dX3_number_34 rfl ?_
      refine j_ic_lt (tgt := 49) dX3_number_35 (by decide) (fun hc3 => ?_) (fun hc3 => ?_)
      · have h := h.1 hc3
        refine j_aload_n dX3_number_49 rfl ?_
        refine j_iconst (v := 3) dX3_number_50 rfl ?_
        refine j_aload_n dX3_number_51 rfl ?_
        refine j_getf dX3_number_52 fX3_56 rfl rfl ?_
        obtain ⟨_, hc, h⟩ := h
        refine j_cvi (lc := 0) (as := [.int 3, .int (X 27 2)]) dX3_number_55 iX3_refuse vX3_refuse kX3_75 (by decide) rfl rfl rfl rfl (Nat.zero_le _) hc (fun r4 M5 hr => ?_)
        have h := h _ _ hr
        refine j_iret (ty := .boolean) dX3_number_58 rfl h.1 ?_
        have h := h.2
        exact ⟨_, rfl, h⟩
      · have h := h.2 hc3
        refine j_aload_n dX3_number_38 rfl ?_
        refine j_getf dX3_number_39 fX3_83 rfl rfl ?_
        refine j_aload_n dX3_number_42 rfl ?_
        obtain ⟨r6, hc, h⟩ := h
        refine j_cvf (lc := 0) (as := []) dX3_number_43 iX3_most vX3_most kX3_111 (by decide) rfl rfl rfl rfl (by simp [Value.category]) hc ?_
        refine j_ic_le (tgt := 59) dX3_number_46 (by decide) (fun hc7 => ?_) (fun hc7 => ?_)
        · have h := h.1 hc7
          refine j_aload_n dX3_number_59 rfl ?_
          refine j_dup dX3_number_60 rfl ?_
          refine j_getf dX3_number_61 fX3_105 rfl rfl ?_
          refine j_iconst (v := 1) dX3_number_64 rfl ?_
          refine j_isub dX3_number_65 ?_
          refine j_putf dX3_number_66 fX3_105 pX3_7 rfl rfl ?_
          refine j_aload_n dX3_number_69 rfl ?_
          refine j_getv (v := .int ((X 27 7) - 1)) dX3_number_70 fX3_105 rfl rfl (fun _ => rfl) ?_
          refine j_if_ne (tgt := 82) dX3_number_73 (by decide) (fun hc8 => ?_) (fun hc8 => ?_)
          · have h := h.1 hc8
            refine j_aload_n dX3_number_82 rfl ?_
            refine j_getv (v := .int (X 27 5)) dX3_number_83 fX3_24 rfl rfl (fun _ => rfl) ?_
            refine j_iconst (v := 4) dX3_number_86 rfl ?_
            refine j_ic_ne (tgt := 114) dX3_number_87 (by decide) (fun hc9 => ?_) (fun hc9 => ?_)
            · have h := h.1 hc9
              refine j_aload_n dX3_number_114 rfl ?_
              refine j_aload_n dX3_number_115 rfl ?_
              refine j_getv (v := .int (X 27 3)) dX3_number_116 fX3_83 rfl rfl (fun _ => rfl) ?_
              refine j_putf dX3_number_119 fX3_120 pX3_6 rfl rfl ?_
              refine j_iconst (v := 1) dX3_number_122 rfl ?_
              refine j_iret dX3_number_123 rfl (by decide) ?_
              exact ⟨_, rfl, h⟩
            · have h := h.2 hc9
              refine j_aload_n dX3_number_90 rfl ?_
              refine j_getr dX3_number_91 fX3_117 rfl rfl ?_
              refine j_aload_n dX3_number_94 rfl ?_
              refine j_getv (v := .int (X 27 3)) dX3_number_95 fX3_83 rfl rfl (fun _ => rfl) ?_
              obtain ⟨j10, ej10, lj10, h⟩ := h
              refine j_iald dX3_number_98 rfl (zin ej10 lj10 (by decide)) ?_
              rw [zcl ej10 lj10 (by decide)]
              refine zJ_top (v := (X 61 j10)) rfl ?_
              refine j_bipush (v := (-4)) dX3_number_99 rfl ?_
              refine j_ic_eq (tgt := 114) dX3_number_101 (by decide) (fun hc11 => ?_) (fun hc11 => ?_)
              · have h := h.1 hc11
                refine j_aload_n dX3_number_114 rfl ?_
                refine j_aload_n dX3_number_115 rfl ?_
                refine j_getv (v := .int (X 27 3)) dX3_number_116 fX3_83 rfl rfl (fun _ => rfl) ?_
                refine j_putf dX3_number_119 fX3_120 pX3_6 rfl rfl ?_
                refine j_iconst (v := 1) dX3_number_122 rfl ?_
                refine j_iret dX3_number_123 rfl (by decide) ?_
                exact ⟨_, rfl, h⟩
              · have h := h.2 hc11
                refine j_aload_n dX3_number_104 rfl ?_
                refine j_iconst (v := 4) dX3_number_105 rfl ?_
                refine j_aload_n dX3_number_106 rfl ?_
                refine j_getv (v := .int (X 27 2)) dX3_number_107 fX3_56 rfl rfl (fun _ => rfl) ?_
                obtain ⟨_, hc, h⟩ := h
                refine j_cvi (lc := 0) (as := [.int 4, .int (X 27 2)]) dX3_number_110 iX3_refuse vX3_refuse kX3_75 (by decide) rfl rfl rfl rfl (Nat.zero_le _) hc (fun r12 M13 hr => ?_)
                have h := h _ _ hr
                refine j_iret (ty := .boolean) dX3_number_113 rfl h.1 ?_
                have h := h.2
                exact ⟨_, rfl, h⟩
          · have h := h.2 hc8
            refine j_aload_n dX3_number_76 rfl ?_
            refine j_aload_n dX3_number_77 rfl ?_
            obtain ⟨_, hc, h⟩ := h
            refine j_cvi (lc := 2) (as := [.ref 58]) dX3_number_78 iX3_apply vX3_apply kX3_114 (by decide) rfl rfl rfl rfl (Nat.zero_le _) hc (fun r14 M15 hr => ?_)
            have h := h _ _ hr
            refine j_iret (ty := .boolean) dX3_number_81 rfl h.1 ?_
            have h := h.2
            exact ⟨_, rfl, h⟩
        · have h := h.2 hc7
          refine j_aload_n dX3_number_49 rfl ?_
          refine j_iconst (v := 3) dX3_number_50 rfl ?_
          refine j_aload_n dX3_number_51 rfl ?_
          refine j_getf dX3_number_52 fX3_56 rfl rfl ?_
          obtain ⟨_, hc, h⟩ := h
          refine j_cvi (lc := 0) (as := [.int 3, .int (X 27 2)]) dX3_number_55 iX3_refuse vX3_refuse kX3_75 (by decide) rfl rfl rfl rfl (Nat.zero_le _) hc (fun r16 M17 hr => ?_)
          have h := h _ _ hr
          refine j_iret (ty := .boolean) dX3_number_58 rfl h.1 ?_
          have h := h.2
          exact ⟨_, rfl, h⟩
    · have h := h.2 hc2
      refine j_iconst (v := 1) dX3_number_30 rfl ?_
      refine j_goto (tgt := 35) dX3_number_31 (by decide) ?_
      refine j_ic_lt (tgt := 49) dX3_number_35 (by decide) (fun hc18 => ?_) (fun hc18 => ?_)
      · have h := h.1 hc18
        refine j_aload_n dX3_number_49 rfl ?_
        refine j_iconst (v := 3) dX3_number_50 rfl ?_
        refine j_aload_n dX3_number_51 rfl ?_
        refine j_getf dX3_number_52 fX3_56 rfl rfl ?_
        obtain ⟨_, hc, h⟩ := h
        refine j_cvi (lc := 0) (as := [.int 3, .int (X 27 2)]) dX3_number_55 iX3_refuse vX3_refuse kX3_75 (by decide) rfl rfl rfl rfl (Nat.zero_le _) hc (fun r19 M20 hr => ?_)
        have h := h _ _ hr
        refine j_iret (ty := .boolean) dX3_number_58 rfl h.1 ?_
        have h := h.2
        exact ⟨_, rfl, h⟩
      · have h := h.2 hc18
        refine j_aload_n dX3_number_38 rfl ?_
        refine j_getf dX3_number_39 fX3_83 rfl rfl ?_
        refine j_aload_n dX3_number_42 rfl ?_
        obtain ⟨r21, hc, h⟩ := h
        refine j_cvf (lc := 0) (as := []) dX3_number_43 iX3_most vX3_most kX3_111 (by decide) rfl rfl rfl rfl (by simp [Value.category]) hc ?_
        refine j_ic_le (tgt := 59) dX3_number_46 (by decide) (fun hc22 => ?_) (fun hc22 => ?_)
        · have h := h.1 hc22
          refine j_aload_n dX3_number_59 rfl ?_
          refine j_dup dX3_number_60 rfl ?_
          refine j_getf dX3_number_61 fX3_105 rfl rfl ?_
          refine j_iconst (v := 1) dX3_number_64 rfl ?_
          refine j_isub dX3_number_65 ?_
          refine j_putf dX3_number_66 fX3_105 pX3_7 rfl rfl ?_
          refine j_aload_n dX3_number_69 rfl ?_
          refine j_getv (v := .int ((X 27 7) - 1)) dX3_number_70 fX3_105 rfl rfl (fun _ => rfl) ?_
          refine j_if_ne (tgt := 82) dX3_number_73 (by decide) (fun hc23 => ?_) (fun hc23 => ?_)
          · have h := h.1 hc23
            refine j_aload_n dX3_number_82 rfl ?_
            refine j_getv (v := .int (X 27 5)) dX3_number_83 fX3_24 rfl rfl (fun _ => rfl) ?_
            refine j_iconst (v := 4) dX3_number_86 rfl ?_
            refine j_ic_ne (tgt := 114) dX3_number_87 (by decide) (fun hc24 => ?_) (fun hc24 => ?_)
            · have h := h.1 hc24
              refine j_aload_n dX3_number_114 rfl ?_
              refine j_aload_n dX3_number_115 rfl ?_
              refine j_getv (v := .int (X 27 3)) dX3_number_116 fX3_83 rfl rfl (fun _ => rfl) ?_
              refine j_putf dX3_number_119 fX3_120 pX3_6 rfl rfl ?_
              refine j_iconst (v := 1) dX3_number_122 rfl ?_
              refine j_iret dX3_number_123 rfl (by decide) ?_
              exact ⟨_, rfl, h⟩
            · have h := h.2 hc24
              refine j_aload_n dX3_number_90 rfl ?_
              refine j_getr dX3_number_91 fX3_117 rfl rfl ?_
              refine j_aload_n dX3_number_94 rfl ?_
              refine j_getv (v := .int (X 27 3)) dX3_number_95 fX3_83 rfl rfl (fun _ => rfl) ?_
              obtain ⟨j25, ej25, lj25, h⟩ := h
              refine j_iald dX3_number_98 rfl (zin ej25 lj25 (by decide)) ?_
              rw [zcl ej25 lj25 (by decide)]
              refine zJ_top (v := (X 61 j25)) rfl ?_
              refine j_bipush (v := (-4)) dX3_number_99 rfl ?_
              refine j_ic_eq (tgt := 114) dX3_number_101 (by decide) (fun hc26 => ?_) (fun hc26 => ?_)
              · have h := h.1 hc26
                refine j_aload_n dX3_number_114 rfl ?_
                refine j_aload_n dX3_number_115 rfl ?_
                refine j_getv (v := .int (X 27 3)) dX3_number_116 fX3_83 rfl rfl (fun _ => rfl) ?_
                refine j_putf dX3_number_119 fX3_120 pX3_6 rfl rfl ?_
                refine j_iconst (v := 1) dX3_number_122 rfl ?_
                refine j_iret dX3_number_123 rfl (by decide) ?_
                exact ⟨_, rfl, h⟩
              · have h := h.2 hc26
                refine j_aload_n dX3_number_104 rfl ?_
                refine j_iconst (v := 4) dX3_number_105 rfl ?_
                refine j_aload_n dX3_number_106 rfl ?_
                refine j_getv (v := .int (X 27 2)) dX3_number_107 fX3_56 rfl rfl (fun _ => rfl) ?_
                obtain ⟨_, hc, h⟩ := h
                refine j_cvi (lc := 0) (as := [.int 4, .int (X 27 2)]) dX3_number_110 iX3_refuse vX3_refuse kX3_75 (by decide) rfl rfl rfl rfl (Nat.zero_le _) hc (fun r27 M28 hr => ?_)
                have h := h _ _ hr
                refine j_iret (ty := .boolean) dX3_number_113 rfl h.1 ?_
                have h := h.2
                exact ⟨_, rfl, h⟩
          · have h := h.2 hc23
            refine j_aload_n dX3_number_76 rfl ?_
            refine j_aload_n dX3_number_77 rfl ?_
            obtain ⟨_, hc, h⟩ := h
            refine j_cvi (lc := 2) (as := [.ref 58]) dX3_number_78 iX3_apply vX3_apply kX3_114 (by decide) rfl rfl rfl rfl (Nat.zero_le _) hc (fun r29 M30 hr => ?_)
            have h := h _ _ hr
            refine j_iret (ty := .boolean) dX3_number_81 rfl h.1 ?_
            have h := h.2
            exact ⟨_, rfl, h⟩
        · have h := h.2 hc22
          refine j_aload_n dX3_number_49 rfl ?_
          refine j_iconst (v := 3) dX3_number_50 rfl ?_
          refine j_aload_n dX3_number_51 rfl ?_
          refine j_getf dX3_number_52 fX3_56 rfl rfl ?_
          obtain ⟨_, hc, h⟩ := h
          refine j_cvi (lc := 0) (as := [.int 3, .int (X 27 2)]) dX3_number_55 iX3_refuse vX3_refuse kX3_75 (by decide) rfl rfl rfl rfl (Nat.zero_le _) hc (fun r31 M32 hr => ?_)
          have h := h _ _ hr
          refine j_iret (ty := .boolean) dX3_number_58 rfl h.1 ?_
          have h := h.2
          exact ⟨_, rfl, h⟩
  · have h := h.2 hc1
    refine j_aload_n dX3_number_8 rfl ?_
    refine j_iconst (v := 2) dX3_number_9 rfl ?_
    refine j_aload_n dX3_number_10 rfl ?_
    refine j_getf dX3_number_11 fX3_56 rfl rfl ?_
    obtain ⟨_, hc, h⟩ := h
    refine j_cvi (lc := 0) (as := [.int 2, .int (X 27 2)]) dX3_number_14 iX3_refuse vX3_refuse kX3_75 (by decide) rfl rfl rfl rfl (Nat.zero_le _) hc (fun r33 M34 hr => ?_)
    have h := h _ _ hr
    refine j_iret (ty := .boolean) dX3_number_17 rfl h.1 ?_
    have h := h.2
    exact ⟨_, rfl, h⟩
theorem eX3_most (v : Int32) (X : zX)  (h : ((X 27 5) = 0 → (7 = v)) ∧ ((X 27 5) = 1 → (99 = v)) ∧ ((X 27 5) = 2 → (99 = v)) ∧ ((X 27 5) = 3 → (20 = v)) ∧ ((X 27 5) = 4 → (((¬ (X 27 7) = 2) → (99 = v)) ∧ (((X 27 7) = 2) → (11 = v)))) ∧ ((X 27 5) = 5 → (23 = v)) ∧ (((X 27 5).toInt < 0 ∨ 5 < (X 27 5).toInt) → (99 = v))) : zPf SX 0 mX3_most [.ref 27] X v := by
  refine zP_in [some (.ref 27)] ⟨rfl, trivial⟩ (by decide) (Nat.le_of_ble_eq_true rfl) ?_
  refine j_aload_n dX3_most_0 rfl ?_
  refine j_getf dX3_most_1 fX3_24 rfl rfl ?_
  refine j_tsw (dt := 69) [44, 69, 69, 47, 50, 66] dX3_most_4 (by decide) (by decide) (by decide) ?_ (fun hc => ?_)
  · refine ⟨fun hc => ?_, fun hc => ?_, fun hc => ?_, fun hc => ?_, fun hc => ?_, fun hc => ?_, trivial⟩
    · have h := h.1 (hc.trans (by decide))
      refine j_bipush (v := 7) dX3_most_44 rfl ?_
      refine j_iret dX3_most_46 rfl rfl ?_
      exact ⟨by rw [h], rfl⟩
    · have h := h.2.1 (hc.trans (by decide))
      refine j_bipush (v := 99) dX3_most_69 rfl ?_
      refine j_iret dX3_most_71 rfl rfl ?_
      exact ⟨by rw [h], rfl⟩
    · have h := h.2.2.1 (hc.trans (by decide))
      refine j_bipush (v := 99) dX3_most_69 rfl ?_
      refine j_iret dX3_most_71 rfl rfl ?_
      exact ⟨by rw [h], rfl⟩
    · have h := h.2.2.2.1 (hc.trans (by decide))
      refine j_bipush (v := 20) dX3_most_47 rfl ?_
      refine j_iret dX3_most_49 rfl rfl ?_
      exact ⟨by rw [h], rfl⟩
    · have h := h.2.2.2.2.1 (hc.trans (by decide))
      refine j_aload_n dX3_most_50 rfl ?_
      refine j_getf dX3_most_51 fX3_105 rfl rfl ?_
      refine j_iconst (v := 2) dX3_most_54 rfl ?_
      refine j_ic_ne (tgt := 63) dX3_most_55 (by decide) (fun hc1 => ?_) (fun hc1 => ?_)
      · have h := h.1 hc1
        refine j_bipush (v := 99) dX3_most_63 rfl ?_
        refine j_iret dX3_most_65 rfl rfl ?_
        exact ⟨by rw [h], rfl⟩
      · have h := h.2 hc1
        refine j_bipush (v := 11) dX3_most_58 rfl ?_
        refine j_goto (tgt := 65) dX3_most_60 (by decide) ?_
        refine j_iret dX3_most_65 rfl rfl ?_
        exact ⟨by rw [h], rfl⟩
    · have h := h.2.2.2.2.2.1 (hc.trans (by decide))
      refine j_bipush (v := 23) dX3_most_66 rfl ?_
      refine j_iret dX3_most_68 rfl rfl ?_
      exact ⟨by rw [h], rfl⟩
  · have h := h.2.2.2.2.2.2 hc
    refine j_bipush (v := 99) dX3_most_69 rfl ?_
    refine j_iret dX3_most_71 rfl rfl ?_
    exact ⟨by rw [h], rfl⟩
theorem eX3_apply (P : Int32 → zX → Prop) (X : zX)  (h : ((X 27 5) = 0 → (∃ Qr1 : Int32 → zX → Prop, zPi SX 1 mX3_applyHear [.ref 27, .ref 58] X Qr1 ∧ ∀ (r1 : Int32) (M2 : zX), Qr1 r1 M2 → (narrow .boolean (.int r1) = .int r1 ∧ P r1 M2))) ∧ ((X 27 5) = 1 → (P 1 (zs X 58 3 (X 27 3)))) ∧ ((X 27 5) = 2 → (P 1 (zs X 58 4 (X 27 3)))) ∧ ((X 27 5) = 3 → (P 1 (zs X 58 5 (X 27 3)))) ∧ ((X 27 5) = 4 → (∃ j3 : Nat, (X 27 6) = nI j3 ∧ j3 < 12 ∧ (P 1 (zs X 61 j3 (X 27 3))))) ∧ (((X 27 5).toInt < 0 ∨ 4 < (X 27 5).toInt) → (∃ Qr4 : Int32 → zX → Prop, zPi SX 1 mX3_applyPair [.ref 27, .ref 58] X Qr4 ∧ ∀ (r4 : Int32) (M5 : zX), Qr4 r4 M5 → (narrow .boolean (.int r4) = .int r4 ∧ P r4 M5)))) : zPi SX 2 mX3_apply [.ref 27, .ref 58] X P := by
  refine zP_in [some (.ref 27), some (.ref 58)] ⟨rfl, rfl, trivial⟩ (by decide) (Nat.le_of_ble_eq_true rfl) ?_
  refine j_aload_n dX3_apply_0 rfl ?_
  refine j_getf dX3_apply_1 fX3_24 rfl rfl ?_
  refine j_tsw (dt := 91) [40, 46, 56, 66, 76] dX3_apply_4 (by decide) (by decide) (by decide) ?_ (fun hc => ?_)
  · refine ⟨fun hc => ?_, fun hc => ?_, fun hc => ?_, fun hc => ?_, fun hc => ?_, trivial⟩
    · have h := h.1 (hc.trans (by decide))
      refine j_aload_n dX3_apply_40 rfl ?_
      refine j_aload_n dX3_apply_41 rfl ?_
      obtain ⟨_, hc, h⟩ := h
      refine j_cvi (lc := 1) (as := [.ref 58]) dX3_apply_42 iX3_applyHear vX3_applyHear kX3_123 (by decide) rfl rfl rfl rfl (Nat.zero_le _) hc (fun r1 M2 hr => ?_)
      have h := h _ _ hr
      refine j_iret (ty := .boolean) dX3_apply_45 rfl h.1 ?_
      have h := h.2
      exact ⟨_, rfl, h⟩
    · have h := h.2.1 (hc.trans (by decide))
      refine j_aload_n dX3_apply_46 rfl ?_
      refine j_aload_n dX3_apply_47 rfl ?_
      refine j_getf dX3_apply_48 fX3_83 rfl rfl ?_
      refine j_putf dX3_apply_51 fX3_126 pX4_3 rfl rfl ?_
      refine j_iconst (v := 1) dX3_apply_54 rfl ?_
      refine j_iret dX3_apply_55 rfl (by decide) ?_
      exact ⟨_, rfl, h⟩
    · have h := h.2.2.1 (hc.trans (by decide))
      refine j_aload_n dX3_apply_56 rfl ?_
      refine j_aload_n dX3_apply_57 rfl ?_
      refine j_getf dX3_apply_58 fX3_83 rfl rfl ?_
      refine j_putf dX3_apply_61 fX3_128 pX4_4 rfl rfl ?_
      refine j_iconst (v := 1) dX3_apply_64 rfl ?_
      refine j_iret dX3_apply_65 rfl (by decide) ?_
      exact ⟨_, rfl, h⟩
    · have h := h.2.2.2.1 (hc.trans (by decide))
      refine j_aload_n dX3_apply_66 rfl ?_
      refine j_aload_n dX3_apply_67 rfl ?_
      refine j_getf dX3_apply_68 fX3_83 rfl rfl ?_
      refine j_putf dX3_apply_71 fX3_130 pX4_5 rfl rfl ?_
      refine j_iconst (v := 1) dX3_apply_74 rfl ?_
      refine j_iret dX3_apply_75 rfl (by decide) ?_
      exact ⟨_, rfl, h⟩
    · have h := h.2.2.2.2.1 (hc.trans (by decide))
      refine j_aload_n dX3_apply_76 rfl ?_
      refine j_getr dX3_apply_77 fX3_117 rfl rfl ?_
      refine j_aload_n dX3_apply_80 rfl ?_
      refine j_getf dX3_apply_81 fX3_120 rfl rfl ?_
      refine j_aload_n dX3_apply_84 rfl ?_
      refine j_getf dX3_apply_85 fX3_83 rfl rfl ?_
      obtain ⟨j3, ej3, lj3, h⟩ := h
      refine j_iast dX3_apply_88 rfl (zin ej3 lj3 (by decide)) ?_
      rw [zcl ej3 lj3 (by decide)]
      refine j_iconst (v := 1) dX3_apply_89 rfl ?_
      refine j_iret dX3_apply_90 rfl (by decide) ?_
      exact ⟨_, rfl, h⟩
  · have h := h.2.2.2.2.2 hc
    refine j_aload_n dX3_apply_91 rfl ?_
    refine j_aload_n dX3_apply_92 rfl ?_
    obtain ⟨_, hc, h⟩ := h
    refine j_cvi (lc := 1) (as := [.ref 58]) dX3_apply_93 iX3_applyPair vX3_applyPair kX3_132 (by decide) rfl rfl rfl rfl (Nat.zero_le _) hc (fun r4 M5 hr => ?_)
    have h := h _ _ hr
    refine j_iret (ty := .boolean) dX3_apply_96 rfl h.1 ?_
    have h := h.2
    exact ⟨_, rfl, h⟩
theorem eX3_applyHear (P : Int32 → zX → Prop) (X : zX)  (h : ∃ j1 : Nat, (X 27 6) = nI j1 ∧ j1 < 8 ∧ (((¬ ((zshr (X 59 j1) (X 27 3)) &&& 1) = 1) → (∃ j3 : Nat, (X 27 6) = nI j3 ∧ j3 < 8 ∧ (∃ j4 : Nat, (X 27 6) = nI j4 ∧ j4 < 8 ∧ (P 1 (zs X 59 j4 ((X 59 j3) ||| (zshl 1 (X 27 3)))))))) ∧ ((((zshr (X 59 j1) (X 27 3)) &&& 1) = 1) → (∃ Qr5 : Int32 → zX → Prop, zPi SX 0 mX3_refuse [.ref 27, .int 4, .int (X 27 2)] X Qr5 ∧ ∀ (r5 : Int32) (M6 : zX), Qr5 r5 M6 → (narrow .boolean (.int r5) = .int r5 ∧ P r5 M6))))) : zPi SX 1 mX3_applyHear [.ref 27, .ref 58] X P := by
  refine zP_in [some (.ref 27), some (.ref 58)] ⟨rfl, rfl, trivial⟩ (by decide) (Nat.le_of_ble_eq_true rfl) ?_
  refine j_aload_n dX3_applyHear_0 rfl ?_
  refine j_getr dX3_applyHear_1 fX3_135 rfl rfl ?_
  refine j_aload_n dX3_applyHear_4 rfl ?_
  refine j_getf dX3_applyHear_5 fX3_120 rfl rfl ?_
  obtain ⟨j1, ej1, lj1, h⟩ := h
  refine j_iald dX3_applyHear_8 rfl (zin ej1 lj1 (by decide)) ?_
  rw [zcl ej1 lj1 (by decide)]
  refine j_aload_n dX3_applyHear_9 rfl ?_
  refine j_getf dX3_applyHear_10 fX3_83 rfl rfl ?_
  refine j_ishr dX3_applyHear_13 ?_
  refine j_iconst (v := 1) dX3_applyHear_14 rfl ?_
  refine j_iand dX3_applyHear_15 ?_
  refine j_iconst (v := 1) dX3_applyHear_16 rfl ?_
  refine j_ic_ne (tgt := 30) dX3_applyHear_17 (by decide) (fun hc2 => ?_) (fun hc2 => ?_)
  · have h := h.1 hc2
    refine j_aload_n dX3_applyHear_30 rfl ?_
    refine j_getr dX3_applyHear_31 fX3_135 rfl rfl ?_
    refine j_aload_n dX3_applyHear_34 rfl ?_
    refine j_getf dX3_applyHear_35 fX3_120 rfl rfl ?_
    refine j_dup2 dX3_applyHear_38 rfl rfl ?_
    obtain ⟨j3, ej3, lj3, h⟩ := h
    refine j_iald dX3_applyHear_39 rfl (zin ej3 lj3 (by decide)) ?_
    rw [zcl ej3 lj3 (by decide)]
    refine j_iconst (v := 1) dX3_applyHear_40 rfl ?_
    refine j_aload_n dX3_applyHear_41 rfl ?_
    refine j_getf dX3_applyHear_42 fX3_83 rfl rfl ?_
    refine j_ishl dX3_applyHear_45 ?_
    refine j_ior dX3_applyHear_46 ?_
    obtain ⟨j4, ej4, lj4, h⟩ := h
    refine j_iast dX3_applyHear_47 rfl (zin ej4 lj4 (by decide)) ?_
    rw [zcl ej4 lj4 (by decide)]
    refine j_iconst (v := 1) dX3_applyHear_48 rfl ?_
    refine j_iret dX3_applyHear_49 rfl (by decide) ?_
    exact ⟨_, rfl, h⟩
  · have h := h.2 hc2
    refine j_aload_n dX3_applyHear_20 rfl ?_
    refine j_iconst (v := 4) dX3_applyHear_21 rfl ?_
    refine j_aload_n dX3_applyHear_22 rfl ?_
    refine j_getf dX3_applyHear_23 fX3_56 rfl rfl ?_
    obtain ⟨_, hc, h⟩ := h
    refine j_cvi (lc := 0) (as := [.int 4, .int (X 27 2)]) dX3_applyHear_26 iX3_refuse vX3_refuse kX3_75 (by decide) rfl rfl rfl rfl (Nat.zero_le _) hc (fun r5 M6 hr => ?_)
    have h := h _ _ hr
    refine j_iret (ty := .boolean) dX3_applyHear_29 rfl h.1 ?_
    have h := h.2
    exact ⟨_, rfl, h⟩
theorem eX3_applyPair (P : Int32 → zX → Prop) (X : zX)  (h : ((¬ (X 27 3) = (X 27 6)) → (∃ j2 : Nat, (X 27 6) = nI j2 ∧ j2 < 24 ∧ (((¬ ((zshr (X 60 j2) (X 27 3)) &&& 1) = 1) → (∃ j4 : Nat, (X 27 6) = nI j4 ∧ j4 < 24 ∧ (∃ j5 : Nat, (X 27 6) = nI j5 ∧ j5 < 24 ∧ (∃ j6 : Nat, (X 27 3) = nI j6 ∧ j6 < 24 ∧ (∃ j7 : Nat, (X 27 3) = nI j7 ∧ j7 < 24 ∧ (P 1 (zs (zs X 60 j5 ((X 60 j4) ||| (zshl 1 (X 27 3)))) 60 j7 (((zs X 60 j5 ((X 60 j4) ||| (zshl 1 (X 27 3)))) 60 j6) ||| (zshl 1 (X 27 6)))))))))) ∧ ((((zshr (X 60 j2) (X 27 3)) &&& 1) = 1) → (∃ Qr8 : Int32 → zX → Prop, zPi SX 0 mX3_refuse [.ref 27, .int 4, .int (X 27 2)] X Qr8 ∧ ∀ (r8 : Int32) (M9 : zX), Qr8 r8 M9 → (narrow .boolean (.int r8) = .int r8 ∧ P r8 M9)))))) ∧ (((X 27 3) = (X 27 6)) → (∃ Qr10 : Int32 → zX → Prop, zPi SX 0 mX3_refuse [.ref 27, .int 3, .int (X 27 2)] X Qr10 ∧ ∀ (r10 : Int32) (M11 : zX), Qr10 r10 M11 → (narrow .boolean (.int r10) = .int r10 ∧ P r10 M11)))) : zPi SX 1 mX3_applyPair [.ref 27, .ref 58] X P := by
  refine zP_in [some (.ref 27), some (.ref 58)] ⟨rfl, rfl, trivial⟩ (by decide) (Nat.le_of_ble_eq_true rfl) ?_
  refine j_aload_n dX3_applyPair_0 rfl ?_
  refine j_getf dX3_applyPair_1 fX3_83 rfl rfl ?_
  refine j_aload_n dX3_applyPair_4 rfl ?_
  refine j_getf dX3_applyPair_5 fX3_120 rfl rfl ?_
  refine j_ic_ne (tgt := 21) dX3_applyPair_8 (by decide) (fun hc1 => ?_) (fun hc1 => ?_)
  · have h := h.1 hc1
    refine j_aload_n dX3_applyPair_21 rfl ?_
    refine j_getr dX3_applyPair_22 fX3_137 rfl rfl ?_
    refine j_aload_n dX3_applyPair_25 rfl ?_
    refine j_getf dX3_applyPair_26 fX3_120 rfl rfl ?_
    obtain ⟨j2, ej2, lj2, h⟩ := h
    refine j_iald dX3_applyPair_29 rfl (zin ej2 lj2 (by decide)) ?_
    rw [zcl ej2 lj2 (by decide)]
    refine j_aload_n dX3_applyPair_30 rfl ?_
    refine j_getf dX3_applyPair_31 fX3_83 rfl rfl ?_
    refine j_ishr dX3_applyPair_34 ?_
    refine j_iconst (v := 1) dX3_applyPair_35 rfl ?_
    refine j_iand dX3_applyPair_36 ?_
    refine j_iconst (v := 1) dX3_applyPair_37 rfl ?_
    refine j_ic_ne (tgt := 51) dX3_applyPair_38 (by decide) (fun hc3 => ?_) (fun hc3 => ?_)
    · have h := h.1 hc3
      refine j_aload_n dX3_applyPair_51 rfl ?_
      refine j_getr dX3_applyPair_52 fX3_137 rfl rfl ?_
      refine j_aload_n dX3_applyPair_55 rfl ?_
      refine j_getf dX3_applyPair_56 fX3_120 rfl rfl ?_
      refine j_dup2 dX3_applyPair_59 rfl rfl ?_
      obtain ⟨j4, ej4, lj4, h⟩ := h
      refine j_iald dX3_applyPair_60 rfl (zin ej4 lj4 (by decide)) ?_
      rw [zcl ej4 lj4 (by decide)]
      refine j_iconst (v := 1) dX3_applyPair_61 rfl ?_
      refine j_aload_n dX3_applyPair_62 rfl ?_
      refine j_getf dX3_applyPair_63 fX3_83 rfl rfl ?_
      refine j_ishl dX3_applyPair_66 ?_
      refine j_ior dX3_applyPair_67 ?_
      obtain ⟨j5, ej5, lj5, h⟩ := h
      refine j_iast dX3_applyPair_68 rfl (zin ej5 lj5 (by decide)) ?_
      rw [zcl ej5 lj5 (by decide)]
      refine j_aload_n dX3_applyPair_69 rfl ?_
      refine j_getr dX3_applyPair_70 fX3_137 rfl rfl ?_
      refine j_aload_n dX3_applyPair_73 rfl ?_
      refine j_getv (v := .int (X 27 3)) dX3_applyPair_74 fX3_83 rfl rfl (fun _ => rfl) ?_
      refine j_dup2 dX3_applyPair_77 rfl rfl ?_
      obtain ⟨j6, ej6, lj6, h⟩ := h
      refine j_iald dX3_applyPair_78 rfl (zin ej6 lj6 (by decide)) ?_
      rw [zcl ej6 lj6 (by decide)]
      refine j_iconst (v := 1) dX3_applyPair_79 rfl ?_
      refine j_aload_n dX3_applyPair_80 rfl ?_
      refine j_getv (v := .int (X 27 6)) dX3_applyPair_81 fX3_120 rfl rfl (fun _ => rfl) ?_
      refine j_ishl dX3_applyPair_84 ?_
      refine j_ior dX3_applyPair_85 ?_
      obtain ⟨j7, ej7, lj7, h⟩ := h
      refine j_iast dX3_applyPair_86 rfl (zin ej7 lj7 (by decide)) ?_
      rw [zcl ej7 lj7 (by decide)]
      refine j_iconst (v := 1) dX3_applyPair_87 rfl ?_
      refine j_iret dX3_applyPair_88 rfl (by decide) ?_
      exact ⟨_, rfl, h⟩
    · have h := h.2 hc3
      refine j_aload_n dX3_applyPair_41 rfl ?_
      refine j_iconst (v := 4) dX3_applyPair_42 rfl ?_
      refine j_aload_n dX3_applyPair_43 rfl ?_
      refine j_getf dX3_applyPair_44 fX3_56 rfl rfl ?_
      obtain ⟨_, hc, h⟩ := h
      refine j_cvi (lc := 0) (as := [.int 4, .int (X 27 2)]) dX3_applyPair_47 iX3_refuse vX3_refuse kX3_75 (by decide) rfl rfl rfl rfl (Nat.zero_le _) hc (fun r8 M9 hr => ?_)
      have h := h _ _ hr
      refine j_iret (ty := .boolean) dX3_applyPair_50 rfl h.1 ?_
      have h := h.2
      exact ⟨_, rfl, h⟩
  · have h := h.2 hc1
    refine j_aload_n dX3_applyPair_11 rfl ?_
    refine j_iconst (v := 3) dX3_applyPair_12 rfl ?_
    refine j_aload_n dX3_applyPair_13 rfl ?_
    refine j_getf dX3_applyPair_14 fX3_56 rfl rfl ?_
    obtain ⟨_, hc, h⟩ := h
    refine j_cvi (lc := 0) (as := [.int 3, .int (X 27 2)]) dX3_applyPair_17 iX3_refuse vX3_refuse kX3_75 (by decide) rfl rfl rfl rfl (Nat.zero_le _) hc (fun r10 M11 hr => ?_)
    have h := h _ _ hr
    refine j_iret (ty := .boolean) dX3_applyPair_20 rfl h.1 ?_
    have h := h.2
    exact ⟨_, rfl, h⟩
abbrev LX4_reset_19 (P : zX → Prop) (M : zX) (x1 : Int32) : Prop := zJ SX 0 mX4_reset (zRw P) 19 [some (.ref 58), some (.int x1)] [] M
abbrev LX4_reset_40 (P : zX → Prop) (M : zX) (x1 : Int32) : Prop := zJ SX 0 mX4_reset (zRw P) 40 [some (.ref 58), some (.int x1)] [] M
abbrev LX4_reset_61 (P : zX → Prop) (M : zX) (x1 : Int32) : Prop := zJ SX 0 mX4_reset (zRw P) 61 [some (.ref 58), some (.int x1)] [] M
theorem eX4_reset (P : zX → Prop) (X : zX)  (h : LX4_reset_19 P (zs (zs (zs X 58 3 12) 58 4 20) 58 5 3) 0) : zPw SX 0 mX4_reset [.ref 58] X P := by
  refine zP_in [some (.ref 58), none] ⟨rfl, trivial⟩ (by decide) (Nat.le_of_ble_eq_true rfl) ?_
  refine j_aload_n dX4_reset_0 rfl ?_
  refine j_bipush (v := 12) dX4_reset_1 rfl ?_
  refine j_putf dX4_reset_3 fX4_24 pX4_3 rfl rfl ?_
  refine j_aload_n dX4_reset_6 rfl ?_
  refine j_bipush (v := 20) dX4_reset_7 rfl ?_
  refine j_putf dX4_reset_9 fX4_28 pX4_4 rfl rfl ?_
  refine j_aload_n dX4_reset_12 rfl ?_
  refine j_iconst (v := 3) dX4_reset_13 rfl ?_
  refine j_putf dX4_reset_14 fX4_31 pX4_5 rfl rfl ?_
  refine j_iconst (v := 0) dX4_reset_17 rfl ?_
  refine j_istore_n (L2 := [some (.ref 58), some (.int 0)]) dX4_reset_18 (by decide) (zno rfl) rfl ?_
  exact zJw h ⟨rfl, rfl, trivial⟩
theorem bX4_reset_19 (P : zX → Prop) (M : zX) (x1 : Int32) (h : ((8 ≤ x1) → (LX4_reset_40 P M 0)) ∧ ((¬ (8 ≤ x1)) → (∃ j2 : Nat, x1 = nI j2 ∧ j2 < 8 ∧ (LX4_reset_19 P (zs M 59 j2 0) (x1 + 1))))) : LX4_reset_19 P M x1 := by
  refine j_iload_n dX4_reset_19 rfl ?_
  refine j_bipush (v := 8) dX4_reset_20 rfl ?_
  refine j_ic_ge (tgt := 38) dX4_reset_22 (by decide) (fun hc1 => ?_) (fun hc1 => ?_)
  · have h := h.1 hc1
    refine j_iconst (v := 0) dX4_reset_38 rfl ?_
    refine j_istore_n (L2 := [some (.ref 58), some (.int 0)]) dX4_reset_39 (by decide) (zno rfl) rfl ?_
    exact zJw h ⟨rfl, rfl, trivial⟩
  · have h := h.2 hc1
    refine j_aload_n dX4_reset_25 rfl ?_
    refine j_getr dX4_reset_26 fX4_9 rfl rfl ?_
    refine j_iload_n dX4_reset_29 rfl ?_
    refine j_iconst (v := 0) dX4_reset_30 rfl ?_
    obtain ⟨j2, ej2, lj2, h⟩ := h
    refine j_iast dX4_reset_31 rfl (zin ej2 lj2 (by decide)) ?_
    rw [zcl ej2 lj2 (by decide)]
    refine j_iinc (v := (x1 + 1)) (L2 := [some (.ref 58), some (.int (x1 + 1))]) dX4_reset_32 rfl rfl (by decide) (zno rfl) rfl ?_
    refine j_goto (tgt := 19) dX4_reset_35 (by decide) ?_
    exact zJw h ⟨rfl, rfl, trivial⟩
theorem bX4_reset_40 (P : zX → Prop) (M : zX) (x1 : Int32) (h : ((24 ≤ x1) → (LX4_reset_61 P M 0)) ∧ ((¬ (24 ≤ x1)) → (∃ j4 : Nat, x1 = nI j4 ∧ j4 < 24 ∧ (LX4_reset_40 P (zs M 60 j4 0) (x1 + 1))))) : LX4_reset_40 P M x1 := by
  refine j_iload_n dX4_reset_40 rfl ?_
  refine j_bipush (v := 24) dX4_reset_41 rfl ?_
  refine j_ic_ge (tgt := 59) dX4_reset_43 (by decide) (fun hc3 => ?_) (fun hc3 => ?_)
  · have h := h.1 hc3
    refine j_iconst (v := 0) dX4_reset_59 rfl ?_
    refine j_istore_n (L2 := [some (.ref 58), some (.int 0)]) dX4_reset_60 (by decide) (zno rfl) rfl ?_
    exact zJw h ⟨rfl, rfl, trivial⟩
  · have h := h.2 hc3
    refine j_aload_n dX4_reset_46 rfl ?_
    refine j_getr dX4_reset_47 fX4_15 rfl rfl ?_
    refine j_iload_n dX4_reset_50 rfl ?_
    refine j_iconst (v := 0) dX4_reset_51 rfl ?_
    obtain ⟨j4, ej4, lj4, h⟩ := h
    refine j_iast dX4_reset_52 rfl (zin ej4 lj4 (by decide)) ?_
    rw [zcl ej4 lj4 (by decide)]
    refine j_iinc (v := (x1 + 1)) (L2 := [some (.ref 58), some (.int (x1 + 1))]) dX4_reset_53 rfl rfl (by decide) (zno rfl) rfl ?_
    refine j_goto (tgt := 40) dX4_reset_56 (by decide) ?_
    exact zJw h ⟨rfl, rfl, trivial⟩
theorem bX4_reset_61 (P : zX → Prop) (M : zX) (x1 : Int32) (h : ((12 ≤ x1) → (P M)) ∧ ((¬ (12 ≤ x1)) → (∃ j6 : Nat, x1 = nI j6 ∧ j6 < 12 ∧ (LX4_reset_61 P (zs M 61 j6 (-4)) (x1 + 1))))) : LX4_reset_61 P M x1 := by
  refine j_iload_n dX4_reset_61 rfl ?_
  refine j_bipush (v := 12) dX4_reset_62 rfl ?_
  refine j_ic_ge (tgt := 81) dX4_reset_64 (by decide) (fun hc5 => ?_) (fun hc5 => ?_)
  · have h := h.1 hc5
    refine j_vret dX4_reset_81 rfl ?_
    exact ⟨rfl, h⟩
  · have h := h.2 hc5
    refine j_aload_n dX4_reset_67 rfl ?_
    refine j_getr dX4_reset_68 fX4_18 rfl rfl ?_
    refine j_iload_n dX4_reset_71 rfl ?_
    refine j_bipush (v := (-4)) dX4_reset_72 rfl ?_
    obtain ⟨j6, ej6, lj6, h⟩ := h
    refine j_iast dX4_reset_74 rfl (zin ej6 lj6 (by decide)) ?_
    rw [zcl ej6 lj6 (by decide)]
    refine j_iinc (v := (x1 + 1)) (L2 := [some (.ref 58), some (.int (x1 + 1))]) dX4_reset_75 rfl rfl (by decide) (zno rfl) rfl ?_
    refine j_goto (tgt := 61) dX4_reset_78 (by decide) ?_
    exact zJw h ⟨rfl, rfl, trivial⟩
abbrev LX4_pairedWith_4 (v : Int32) (X : zX) (x1 : Int32) (x2 : Int32) (x3 : Int32) : Prop := zJ SX 0 mX4_pairedWith (zRf v X) 4 [some (.ref 54), some (.int x1), some (.int x2), some (.int x3)] [] X
theorem eX4_pairedWith (v : Int32) (X : zX) (a1 : Int32) (h : LX4_pairedWith_4 v X a1 0 0) : zPf SX 0 mX4_pairedWith [.ref 54, .int a1] X v := by
  refine zP_in [some (.ref 54), some (.int a1), none, none] ⟨rfl, rfl, trivial⟩ (by decide) (Nat.le_of_ble_eq_true rfl) ?_
  refine j_iconst (v := 0) dX4_pairedWith_0 rfl ?_
  refine j_istore_n (L2 := [some (.ref 54), some (.int a1), some (.int 0), none]) dX4_pairedWith_1 (by decide) (zno rfl) rfl ?_
  refine j_iconst (v := 0) dX4_pairedWith_2 rfl ?_
  refine j_istore_n (L2 := [some (.ref 54), some (.int a1), some (.int 0), some (.int 0)]) dX4_pairedWith_3 (by decide) (zno rfl) rfl ?_
  exact zJw h ⟨rfl, rfl, rfl, rfl, trivial⟩
theorem bX4_pairedWith_4 (v : Int32) (X : zX) (x1 : Int32) (x2 : Int32) (x3 : Int32) (h : ((24 ≤ x3) → (x2 = v)) ∧ ((¬ (24 ≤ x3)) → (((¬ ((zshr x1 x3) &&& 1) = 1) → (LX4_pairedWith_4 v X x1 x2 (x3 + 1))) ∧ ((((zshr x1 x3) &&& 1) = 1) → (∃ j3 : Nat, x3 = nI j3 ∧ j3 < 24 ∧ (LX4_pairedWith_4 v X x1 (x2 ||| (X 56 j3)) (x3 + 1))))))) : LX4_pairedWith_4 v X x1 x2 x3 := by
  refine j_iload_n dX4_pairedWith_4 rfl ?_
  refine j_bipush (v := 24) dX4_pairedWith_5 rfl ?_
  refine j_ic_ge (tgt := 34) dX4_pairedWith_7 (by decide) (fun hc1 => ?_) (fun hc1 => ?_)
  · have h := h.1 hc1
    refine j_iload_n dX4_pairedWith_34 rfl ?_
    refine j_iret dX4_pairedWith_35 rfl rfl ?_
    exact ⟨by rw [h], rfl⟩
  · have h := h.2 hc1
    refine j_iload_n dX4_pairedWith_10 rfl ?_
    refine j_iload_n dX4_pairedWith_11 rfl ?_
    refine j_ishr dX4_pairedWith_12 ?_
    refine j_iconst (v := 1) dX4_pairedWith_13 rfl ?_
    refine j_iand dX4_pairedWith_14 ?_
    refine j_iconst (v := 1) dX4_pairedWith_15 rfl ?_
    refine j_ic_ne (tgt := 28) dX4_pairedWith_16 (by decide) (fun hc2 => ?_) (fun hc2 => ?_)
    · have h := h.1 hc2
      refine j_iinc (v := (x3 + 1)) (L2 := [some (.ref 54), some (.int x1), some (.int x2), some (.int (x3 + 1))]) dX4_pairedWith_28 rfl rfl (by decide) (zno rfl) rfl ?_
      refine j_goto (tgt := 4) dX4_pairedWith_31 (by decide) ?_
      exact zJw h ⟨rfl, rfl, rfl, rfl, trivial⟩
    · have h := h.2 hc2
      refine j_iload_n dX4_pairedWith_19 rfl ?_
      refine j_aload_n dX4_pairedWith_20 rfl ?_
      refine j_getr dX4_pairedWith_21 fX4_15 rfl rfl ?_
      refine j_iload_n dX4_pairedWith_24 rfl ?_
      obtain ⟨j3, ej3, lj3, h⟩ := h
      refine j_iald dX4_pairedWith_25 rfl (zin ej3 lj3 (by decide)) ?_
      rw [zcl ej3 lj3 (by decide)]
      refine j_ior dX4_pairedWith_26 ?_
      refine j_istore_n (L2 := [some (.ref 54), some (.int x1), some (.int (x2 ||| (X 56 j3))), some (.int x3)]) dX4_pairedWith_27 (by decide) (zno rfl) rfl ?_
      refine j_iinc (v := (x3 + 1)) (L2 := [some (.ref 54), some (.int x1), some (.int (x2 ||| (X 56 j3))), some (.int (x3 + 1))]) dX4_pairedWith_28 rfl rfl (by decide) (zno rfl) rfl ?_
      refine j_goto (tgt := 4) dX4_pairedWith_31 (by decide) ?_
      exact zJw h ⟨rfl, rfl, rfl, rfl, trivial⟩
abbrev LX5_renew_12 (P : zX → Prop) (M : zX) (q : Nat) (x2 : Int32) (x3 : Int32) : Prop := zJ SX 0 mX5_renew (zRw P) 12 [some (.ref (45 + 2 * q)), none, some (.int x2), some (.int x3)] [] M
theorem eX5_renew (P : zX → Prop) (X : zX) (q : Nat) (hq : q < 4) (a1 : Int32) (a2 : Int32) (h : LX5_renew_12 P (zs (zs X (45 + 2 * q) 1 a1) (45 + 2 * q) 2 a2) q a2 0) : zPw SX 0 mX5_renew [.ref (45 + 2 * q), .int a1, .int a2] X P := by
  refine zP_in [some (.ref (45 + 2 * q)), some (.int a1), some (.int a2), none] ⟨rfl, rfl, rfl, trivial⟩ (by decide) (Nat.le_of_ble_eq_true rfl) ?_
  refine j_aload_n dX5_renew_0 rfl ?_
  refine j_iload_n dX5_renew_1 rfl ?_
  refine j_putf dX5_renew_2 fX5_19 pX5_1 (sx_sheet hq) rfl ?_
  refine j_aload_n dX5_renew_5 rfl ?_
  refine j_iload_n dX5_renew_6 rfl ?_
  refine j_putf dX5_renew_7 fX5_15 pX5_2 (sx_sheet hq) rfl ?_
  refine j_iconst (v := 0) dX5_renew_10 rfl ?_
  refine j_istore_n (L2 := [some (.ref (45 + 2 * q)), some (.int a1), some (.int a2), some (.int 0)]) dX5_renew_11 (by decide) (zno rfl) rfl ?_
  exact zJw h ⟨rfl, rfl, rfl, trivial⟩
theorem bX5_renew_12 (P : zX → Prop) (M : zX) (q : Nat) (hq : q < 4) (x2 : Int32) (x3 : Int32) (h : ((x2 ≤ x3) → (P M)) ∧ ((¬ (x2 ≤ x3)) → (∃ j2 : Nat, x3 = nI j2 ∧ j2 < 40 ∧ (LX5_renew_12 P (zs M (46 + 2 * q) j2 0) q x2 (x3 + 1))))) : LX5_renew_12 P M q x2 x3 := by
  refine j_iload_n dX5_renew_12 rfl ?_
  refine j_iload_n dX5_renew_13 rfl ?_
  refine j_ic_ge (tgt := 30) dX5_renew_14 (by decide) (fun hc1 => ?_) (fun hc1 => ?_)
  · have h := h.1 hc1
    refine j_vret dX5_renew_30 rfl ?_
    exact ⟨rfl, h⟩
  · have h := h.2 hc1
    refine j_aload_n dX5_renew_17 rfl ?_
    refine j_getr dX5_renew_18 fX5_9 (sx_sheet hq) rfl ?_
    refine j_iload_n dX5_renew_21 rfl ?_
    refine j_iconst (v := 0) dX5_renew_22 rfl ?_
    obtain ⟨j2, ej2, lj2, h⟩ := h
    refine j_iast dX5_renew_23 (sx_cells hq) (zin ej2 lj2 (by decide)) ?_
    rw [zcl ej2 lj2 (by decide)]
    refine j_iinc (v := (x3 + 1)) (L2 := [some (.ref (45 + 2 * q)), none, some (.int x2), some (.int (x3 + 1))]) dX5_renew_24 rfl rfl (by decide) (zno rfl) rfl ?_
    refine j_goto (tgt := 12) dX5_renew_27 (by decide) ?_
    exact zJw h ⟨rfl, rfl, rfl, trivial⟩
theorem eX5_faultAt (v : Int32) (X : zX) (q : Nat) (hq : q < 4) (a1 : Int32) (a2 : Int32) (h : ((¬ (X (45 + 2 * q) 2) = (-4)) → (((a1 = (X (45 + 2 * q) 1)) → (((a2 < 0) → (2 = v)) ∧ ((¬ (a2 < 0)) → (((a2 < (X (45 + 2 * q) 2)) → (0 = v)) ∧ ((¬ (a2 < (X (45 + 2 * q) 2))) → (2 = v)))))) ∧ ((¬ (a1 = (X (45 + 2 * q) 1))) → (3 = v)))) ∧ (((X (45 + 2 * q) 2) = (-4)) → (1 = v))) : zPf SX 0 mX5_faultAt [.ref (45 + 2 * q), .int a1, .int a2] X v := by
  refine zP_in [some (.ref (45 + 2 * q)), some (.int a1), some (.int a2)] ⟨rfl, rfl, rfl, trivial⟩ (by decide) (Nat.le_of_ble_eq_true rfl) ?_
  refine j_aload_n dX5_faultAt_0 rfl ?_
  refine j_getf dX5_faultAt_1 fX5_15 (sx_sheet hq) rfl ?_
  refine j_bipush (v := (-4)) dX5_faultAt_4 rfl ?_
  refine j_ic_ne (tgt := 11) dX5_faultAt_6 (by decide) (fun hc1 => ?_) (fun hc1 => ?_)
  · have h := h.1 hc1
    refine j_iload_n dX5_faultAt_11 rfl ?_
    refine j_aload_n dX5_faultAt_12 rfl ?_
    refine j_getf dX5_faultAt_13 fX5_19 (sx_sheet hq) rfl ?_
    refine j_ic_eq (tgt := 21) dX5_faultAt_16 (by decide) (fun hc2 => ?_) (fun hc2 => ?_)
    · have h := h.1 hc2
      refine j_iload_n dX5_faultAt_21 rfl ?_
      refine j_if_lt (tgt := 33) dX5_faultAt_22 (by decide) (fun hc3 => ?_) (fun hc3 => ?_)
      · have h := h.1 hc3
        refine j_iconst (v := 2) dX5_faultAt_33 rfl ?_
        refine j_goto (tgt := 38) dX5_faultAt_34 (by decide) ?_
        refine j_iret dX5_faultAt_38 rfl rfl ?_
        exact ⟨by rw [h], rfl⟩
      · have h := h.2 hc3
        refine j_iload_n dX5_faultAt_25 rfl ?_
        refine j_aload_n dX5_faultAt_26 rfl ?_
        refine j_getf dX5_faultAt_27 fX5_15 (sx_sheet hq) rfl ?_
        refine j_ic_lt (tgt := 37) dX5_faultAt_30 (by decide) (fun hc4 => ?_) (fun hc4 => ?_)
        · have h := h.1 hc4
          refine j_iconst (v := 0) dX5_faultAt_37 rfl ?_
          refine j_iret dX5_faultAt_38 rfl rfl ?_
          exact ⟨by rw [h], rfl⟩
        · have h := h.2 hc4
          refine j_iconst (v := 2) dX5_faultAt_33 rfl ?_
          refine j_goto (tgt := 38) dX5_faultAt_34 (by decide) ?_
          refine j_iret dX5_faultAt_38 rfl rfl ?_
          exact ⟨by rw [h], rfl⟩
    · have h := h.2 hc2
      refine j_iconst (v := 3) dX5_faultAt_19 rfl ?_
      refine j_iret dX5_faultAt_20 rfl rfl ?_
      exact ⟨by rw [h], rfl⟩
  · have h := h.2 hc1
    refine j_iconst (v := 1) dX5_faultAt_9 rfl ?_
    refine j_iret dX5_faultAt_10 rfl rfl ?_
    exact ⟨by rw [h], rfl⟩
theorem eX5_write (P : zX → Prop) (X : zX) (q : Nat) (hq : q < 4) (a1 : Int32) (a2 : Int32) (h : ((¬ (X (45 + 2 * q) 1) = 0) → (((¬ (X (45 + 2 * q) 1) = 1) → (∃ j3 : Nat, a1 = nI j3 ∧ j3 < 40 ∧ (P (zs X (46 + 2 * q) j3 a2)))) ∧ (((X (45 + 2 * q) 1) = 1) → (∃ j4 : Nat, a1 = nI j4 ∧ j4 < 40 ∧ (P (zs X (46 + 2 * q) j4 a2.toInt16.toInt32)))))) ∧ (((X (45 + 2 * q) 1) = 0) → (∃ j5 : Nat, a1 = nI j5 ∧ j5 < 40 ∧ (P (zs X (46 + 2 * q) j5 a2.toInt8.toInt32))))) : zPw SX 0 mX5_write [.ref (45 + 2 * q), .int a1, .int a2] X P := by
  refine zP_in [some (.ref (45 + 2 * q)), some (.int a1), some (.int a2)] ⟨rfl, rfl, rfl, trivial⟩ (by decide) (Nat.le_of_ble_eq_true rfl) ?_
  refine j_aload_n dX5_write_0 rfl ?_
  refine j_getf dX5_write_1 fX5_19 (sx_sheet hq) rfl ?_
  refine j_if_ne (tgt := 18) dX5_write_4 (by decide) (fun hc1 => ?_) (fun hc1 => ?_)
  · have h := h.1 hc1
    refine j_aload_n dX5_write_18 rfl ?_
    refine j_getf dX5_write_19 fX5_19 (sx_sheet hq) rfl ?_
    refine j_iconst (v := 1) dX5_write_22 rfl ?_
    refine j_ic_ne (tgt := 37) dX5_write_23 (by decide) (fun hc2 => ?_) (fun hc2 => ?_)
    · have h := h.1 hc2
      refine j_aload_n dX5_write_37 rfl ?_
      refine j_getr dX5_write_38 fX5_9 (sx_sheet hq) rfl ?_
      refine j_iload_n dX5_write_41 rfl ?_
      refine j_iload_n dX5_write_42 rfl ?_
      obtain ⟨j3, ej3, lj3, h⟩ := h
      refine j_iast dX5_write_43 (sx_cells hq) (zin ej3 lj3 (by decide)) ?_
      rw [zcl ej3 lj3 (by decide)]
      refine j_vret dX5_write_44 rfl ?_
      exact ⟨rfl, h⟩
    · have h := h.2 hc2
      refine j_aload_n dX5_write_26 rfl ?_
      refine j_getr dX5_write_27 fX5_9 (sx_sheet hq) rfl ?_
      refine j_iload_n dX5_write_30 rfl ?_
      refine j_iload_n dX5_write_31 rfl ?_
      refine j_i2s dX5_write_32 ?_
      obtain ⟨j4, ej4, lj4, h⟩ := h
      refine j_iast dX5_write_33 (sx_cells hq) (zin ej4 lj4 (by decide)) ?_
      rw [zcl ej4 lj4 (by decide)]
      refine j_goto (tgt := 44) dX5_write_34 (by decide) ?_
      refine j_vret dX5_write_44 rfl ?_
      exact ⟨rfl, h⟩
  · have h := h.2 hc1
    refine j_aload_n dX5_write_7 rfl ?_
    refine j_getr dX5_write_8 fX5_9 (sx_sheet hq) rfl ?_
    refine j_iload_n dX5_write_11 rfl ?_
    refine j_iload_n dX5_write_12 rfl ?_
    refine j_i2b dX5_write_13 ?_
    obtain ⟨j5, ej5, lj5, h⟩ := h
    refine j_iast dX5_write_14 (sx_cells hq) (zin ej5 lj5 (by decide)) ?_
    rw [zcl ej5 lj5 (by decide)]
    refine j_goto (tgt := 44) dX5_write_15 (by decide) ?_
    refine j_vret dX5_write_44 rfl ?_
    exact ⟨rfl, h⟩
theorem eX6_add (P : Int32 → zX → Prop) (X : zX) (a1 : Int32) (a2 : Int32) (a3 : Int32) (a4 : Int32) (a5 : Int32) (h : (((X 4 10) < 24) → (∃ j2 : Nat, (X 4 10) = nI j2 ∧ j2 < 24 ∧ (∃ j3 : Nat, (X 4 10) = nI j3 ∧ j3 < 24 ∧ (∃ j4 : Nat, (X 4 10) = nI j4 ∧ j4 < 24 ∧ (∃ j5 : Nat, (X 4 10) = nI j5 ∧ j5 < 24 ∧ (∃ j6 : Nat, (X 4 10) = nI j6 ∧ j6 < 24 ∧ (∃ j7 : Nat, a1 = nI j7 ∧ j7 < 4 ∧ (∃ j8 : Nat, (X 4 10) = nI j8 ∧ j8 < 24 ∧ (∃ j9 : Nat, a1 = nI j9 ∧ j9 < 4 ∧ (∃ j10 : Nat, a1 = nI j10 ∧ j10 < 4 ∧ (∃ j11 : Nat, (X 16 j10) = nI j11 ∧ j11 < 24 ∧ (∃ j12 : Nat, a1 = nI j12 ∧ j12 < 4 ∧ (∃ j13 : Nat, a1 = nI j13 ∧ j13 < 4 ∧ (∃ j14 : Nat, a1 = nI j14 ∧ j14 < 4 ∧ (∃ j15 : Nat, a1 = nI j15 ∧ j15 < 4 ∧ (∃ j16 : Nat, a2 = nI j16 ∧ j16 < 12 ∧ (∃ j17 : Nat, a2 = nI j17 ∧ j17 < 12 ∧ (P (X 4 10) (zs (zs (zs (zs (zs (zs (zs (zs (zs (zs (zs X 5 j2 a1) 6 j3 a2) 7 j4 a3) 8 j5 a4) 9 j6 a5) 10 j8 (X 16 j7)) (12 + j9) j11 (X 4 10)) 16 j13 (((zs (zs (zs (zs (zs (zs (zs X 5 j2 a1) 6 j3 a2) 7 j4 a3) 8 j5 a4) 9 j6 a5) 10 j8 (X 16 j7)) (12 + j9) j11 (X 4 10)) 16 j12) + 1)) 17 j15 (((zs (zs (zs (zs (zs (zs (zs X 5 j2 a1) 6 j3 a2) 7 j4 a3) 8 j5 a4) 9 j6 a5) 10 j8 (X 16 j7)) (12 + j9) j11 (X 4 10)) 17 j14) ||| (zshl 1 (X 4 10)))) 18 j17 (((zs (zs (zs (zs (zs (zs (zs X 5 j2 a1) 6 j3 a2) 7 j4 a3) 8 j5 a4) 9 j6 a5) 10 j8 (X 16 j7)) (12 + j9) j11 (X 4 10)) 18 j16) ||| (zshl 1 (X 4 10)))) 4 10 (((zs (zs (zs (zs (zs (zs (zs X 5 j2 a1) 6 j3 a2) 7 j4 a3) 8 j5 a4) 9 j6 a5) 10 j8 (X 16 j7)) (12 + j9) j11 (X 4 10)) 4 10) + 1)))))))))))))))))))) ∧ ((¬ ((X 4 10) < 24)) → (P (-3) X))) : zPi SX 0 mX6_add [.ref 4, .int a1, .int a2, .int a3, .int a4, .int a5] X P := by
  refine zP_in [some (.ref 4), some (.int a1), some (.int a2), some (.int a3), some (.int a4), some (.int a5), none] ⟨rfl, rfl, rfl, rfl, rfl, rfl, trivial⟩ (by decide) (Nat.le_of_ble_eq_true rfl) ?_
  refine j_aload_n dX6_add_0 rfl ?_
  refine j_getf dX6_add_1 fX6_44 rfl rfl ?_
  refine j_bipush (v := 24) dX6_add_4 rfl ?_
  refine j_ic_lt (tgt := 12) dX6_add_6 (by decide) (fun hc1 => ?_) (fun hc1 => ?_)
  · have h := h.1 hc1
    refine j_aload_n dX6_add_12 rfl ?_
    refine j_getf dX6_add_13 fX6_44 rfl rfl ?_
    refine j_istore (L2 := [some (.ref 4), some (.int a1), some (.int a2), some (.int a3), some (.int a4), some (.int a5), some (.int (X 4 10))]) dX6_add_16 (by decide) (zno rfl) rfl ?_
    refine j_aload_n dX6_add_18 rfl ?_
    refine j_getr dX6_add_19 fX6_9 rfl rfl ?_
    refine j_iload dX6_add_22 rfl ?_
    refine j_iload_n dX6_add_24 rfl ?_
    obtain ⟨j2, ej2, lj2, h⟩ := h
    refine j_iast dX6_add_25 rfl (zin ej2 lj2 (by decide)) ?_
    rw [zcl ej2 lj2 (by decide)]
    refine j_aload_n dX6_add_26 rfl ?_
    refine j_getr dX6_add_27 fX6_15 rfl rfl ?_
    refine j_iload dX6_add_30 rfl ?_
    refine j_iload_n dX6_add_32 rfl ?_
    obtain ⟨j3, ej3, lj3, h⟩ := h
    refine j_iast dX6_add_33 rfl (zin ej3 lj3 (by decide)) ?_
    rw [zcl ej3 lj3 (by decide)]
    refine j_aload_n dX6_add_34 rfl ?_
    refine j_getr dX6_add_35 fX6_18 rfl rfl ?_
    refine j_iload dX6_add_38 rfl ?_
    refine j_iload_n dX6_add_40 rfl ?_
    obtain ⟨j4, ej4, lj4, h⟩ := h
    refine j_iast dX6_add_41 rfl (zin ej4 lj4 (by decide)) ?_
    rw [zcl ej4 lj4 (by decide)]
    refine j_aload_n dX6_add_42 rfl ?_
    refine j_getr dX6_add_43 fX6_21 rfl rfl ?_
    refine j_iload dX6_add_46 rfl ?_
    refine j_iload dX6_add_48 rfl ?_
    obtain ⟨j5, ej5, lj5, h⟩ := h
    refine j_iast dX6_add_50 rfl (zin ej5 lj5 (by decide)) ?_
    rw [zcl ej5 lj5 (by decide)]
    refine j_aload_n dX6_add_51 rfl ?_
    refine j_getr dX6_add_52 fX6_24 rfl rfl ?_
    refine j_iload dX6_add_55 rfl ?_
    refine j_iload dX6_add_57 rfl ?_
    obtain ⟨j6, ej6, lj6, h⟩ := h
    refine j_iast dX6_add_59 rfl (zin ej6 lj6 (by decide)) ?_
    rw [zcl ej6 lj6 (by decide)]
    refine j_aload_n dX6_add_60 rfl ?_
    refine j_getr dX6_add_61 fX6_27 rfl rfl ?_
    refine j_iload dX6_add_64 rfl ?_
    refine j_aload_n dX6_add_66 rfl ?_
    refine j_getr dX6_add_67 fX6_35 rfl rfl ?_
    refine j_iload_n dX6_add_70 rfl ?_
    obtain ⟨j7, ej7, lj7, h⟩ := h
    refine j_iald dX6_add_71 rfl (zin ej7 lj7 (by decide)) ?_
    rw [zcl ej7 lj7 (by decide)]
    refine zJ_top (v := (X 16 j7)) rfl ?_
    obtain ⟨j8, ej8, lj8, h⟩ := h
    refine j_iast dX6_add_72 rfl (zin ej8 lj8 (by decide)) ?_
    rw [zcl ej8 lj8 (by decide)]
    refine j_aload_n dX6_add_73 rfl ?_
    refine j_getr dX6_add_74 fX6_32 rfl rfl ?_
    refine j_iload_n dX6_add_77 rfl ?_
    obtain ⟨j9, ej9, lj9, h⟩ := h
    refine j_aald (r := (12 + j9)) 4 (by decide) dX6_add_78 rfl (zin ej9 lj9 (by decide)) (by rw [zcl ej9 lj9 (by decide)]; exact if_pos lj9) ?_
    refine j_aload_n dX6_add_79 rfl ?_
    refine j_getr dX6_add_80 fX6_35 rfl rfl ?_
    refine j_iload_n dX6_add_83 rfl ?_
    obtain ⟨j10, ej10, lj10, h⟩ := h
    refine j_iald dX6_add_84 rfl (zin ej10 lj10 (by decide)) ?_
    rw [zcl ej10 lj10 (by decide)]
    refine zJ_top (v := (X 16 j10)) rfl ?_
    refine j_iload dX6_add_85 rfl ?_
    obtain ⟨j11, ej11, lj11, h⟩ := h
    refine j_iast dX6_add_87 (sx_order lj9) (zin ej11 lj11 (by decide)) ?_
    rw [zcl ej11 lj11 (by decide)]
    refine j_aload_n dX6_add_88 rfl ?_
    refine j_getr dX6_add_89 fX6_35 rfl rfl ?_
    refine j_iload_n dX6_add_92 rfl ?_
    refine j_dup2 dX6_add_93 rfl rfl ?_
    obtain ⟨j12, ej12, lj12, h⟩ := h
    refine j_iald dX6_add_94 rfl (zin ej12 lj12 (by decide)) ?_
    rw [zcl ej12 lj12 (by decide)]
    refine j_iconst (v := 1) dX6_add_95 rfl ?_
    refine j_iadd dX6_add_96 ?_
    obtain ⟨j13, ej13, lj13, h⟩ := h
    refine j_iast dX6_add_97 rfl (zin ej13 lj13 (by decide)) ?_
    rw [zcl ej13 lj13 (by decide)]
    refine j_aload_n dX6_add_98 rfl ?_
    refine j_getr dX6_add_99 fX6_38 rfl rfl ?_
    refine j_iload_n dX6_add_102 rfl ?_
    refine j_dup2 dX6_add_103 rfl rfl ?_
    obtain ⟨j14, ej14, lj14, h⟩ := h
    refine j_iald dX6_add_104 rfl (zin ej14 lj14 (by decide)) ?_
    rw [zcl ej14 lj14 (by decide)]
    refine zJ_top (v := ((zs (zs (zs (zs (zs (zs (zs X 5 j2 a1) 6 j3 a2) 7 j4 a3) 8 j5 a4) 9 j6 a5) 10 j8 (X 16 j7)) (12 + j9) j11 (X 4 10)) 17 j14)) rfl ?_
    refine j_iconst (v := 1) dX6_add_105 rfl ?_
    refine j_iload dX6_add_106 rfl ?_
    refine j_ishl dX6_add_108 ?_
    refine j_ior dX6_add_109 ?_
    obtain ⟨j15, ej15, lj15, h⟩ := h
    refine j_iast dX6_add_110 rfl (zin ej15 lj15 (by decide)) ?_
    rw [zcl ej15 lj15 (by decide)]
    refine j_aload_n dX6_add_111 rfl ?_
    refine j_getr dX6_add_112 fX6_41 rfl rfl ?_
    refine j_iload_n dX6_add_115 rfl ?_
    refine j_dup2 dX6_add_116 rfl rfl ?_
    obtain ⟨j16, ej16, lj16, h⟩ := h
    refine j_iald dX6_add_117 rfl (zin ej16 lj16 (by decide)) ?_
    rw [zcl ej16 lj16 (by decide)]
    refine zJ_top (v := ((zs (zs (zs (zs (zs (zs (zs X 5 j2 a1) 6 j3 a2) 7 j4 a3) 8 j5 a4) 9 j6 a5) 10 j8 (X 16 j7)) (12 + j9) j11 (X 4 10)) 18 j16)) rfl ?_
    refine j_iconst (v := 1) dX6_add_118 rfl ?_
    refine j_iload dX6_add_119 rfl ?_
    refine j_ishl dX6_add_121 ?_
    refine j_ior dX6_add_122 ?_
    obtain ⟨j17, ej17, lj17, h⟩ := h
    refine j_iast dX6_add_123 rfl (zin ej17 lj17 (by decide)) ?_
    rw [zcl ej17 lj17 (by decide)]
    refine j_aload_n dX6_add_124 rfl ?_
    refine j_dup dX6_add_125 rfl ?_
    refine j_getv (v := .int ((zs (zs (zs (zs (zs (zs (zs X 5 j2 a1) 6 j3 a2) 7 j4 a3) 8 j5 a4) 9 j6 a5) 10 j8 (X 16 j7)) (12 + j9) j11 (X 4 10)) 4 10)) dX6_add_126 fX6_44 rfl rfl (fun _ => rfl) ?_
    refine j_iconst (v := 1) dX6_add_129 rfl ?_
    refine j_iadd dX6_add_130 ?_
    refine j_putf dX6_add_131 fX6_44 pX6_10 rfl rfl ?_
    refine j_iload dX6_add_134 rfl ?_
    refine j_iret dX6_add_136 rfl rfl ?_
    exact ⟨_, rfl, h⟩
  · have h := h.2 hc1
    refine j_bipush (v := (-3)) dX6_add_9 rfl ?_
    refine j_iret dX6_add_11 rfl rfl ?_
    exact ⟨_, rfl, h⟩
abbrev LX6_versesAt_4 (v : Int32) (X : zX) (x1 : Int32) (x2 : Int32) (x3 : Int32) : Prop := zJ SX 0 mX6_versesAt (zRf v X) 4 [some (.ref 4), some (.int x1), some (.int x2), some (.int x3)] [] X
theorem eX6_versesAt (v : Int32) (X : zX) (a1 : Int32) (h : LX6_versesAt_4 v X a1 0 0) : zPf SX 0 mX6_versesAt [.ref 4, .int a1] X v := by
  refine zP_in [some (.ref 4), some (.int a1), none, none] ⟨rfl, rfl, trivial⟩ (by decide) (Nat.le_of_ble_eq_true rfl) ?_
  refine j_iconst (v := 0) dX6_versesAt_0 rfl ?_
  refine j_istore_n (L2 := [some (.ref 4), some (.int a1), some (.int 0), none]) dX6_versesAt_1 (by decide) (zno rfl) rfl ?_
  refine j_iconst (v := 0) dX6_versesAt_2 rfl ?_
  refine j_istore_n (L2 := [some (.ref 4), some (.int a1), some (.int 0), some (.int 0)]) dX6_versesAt_3 (by decide) (zno rfl) rfl ?_
  exact zJw h ⟨rfl, rfl, rfl, rfl, trivial⟩
theorem bX6_versesAt_4 (v : Int32) (X : zX) (x1 : Int32) (x2 : Int32) (x3 : Int32) (h : ((12 ≤ x3) → (x2 = v)) ∧ ((¬ (12 ≤ x3)) → (((¬ ((zshr x1 x3) &&& 1) = 1) → (LX6_versesAt_4 v X x1 x2 (x3 + 1))) ∧ ((((zshr x1 x3) &&& 1) = 1) → (∃ j3 : Nat, x3 = nI j3 ∧ j3 < 12 ∧ (LX6_versesAt_4 v X x1 (x2 ||| (X 18 j3)) (x3 + 1))))))) : LX6_versesAt_4 v X x1 x2 x3 := by
  refine j_iload_n dX6_versesAt_4 rfl ?_
  refine j_bipush (v := 12) dX6_versesAt_5 rfl ?_
  refine j_ic_ge (tgt := 34) dX6_versesAt_7 (by decide) (fun hc1 => ?_) (fun hc1 => ?_)
  · have h := h.1 hc1
    refine j_iload_n dX6_versesAt_34 rfl ?_
    refine j_iret dX6_versesAt_35 rfl rfl ?_
    exact ⟨by rw [h], rfl⟩
  · have h := h.2 hc1
    refine j_iload_n dX6_versesAt_10 rfl ?_
    refine j_iload_n dX6_versesAt_11 rfl ?_
    refine j_ishr dX6_versesAt_12 ?_
    refine j_iconst (v := 1) dX6_versesAt_13 rfl ?_
    refine j_iand dX6_versesAt_14 ?_
    refine j_iconst (v := 1) dX6_versesAt_15 rfl ?_
    refine j_ic_ne (tgt := 28) dX6_versesAt_16 (by decide) (fun hc2 => ?_) (fun hc2 => ?_)
    · have h := h.1 hc2
      refine j_iinc (v := (x3 + 1)) (L2 := [some (.ref 4), some (.int x1), some (.int x2), some (.int (x3 + 1))]) dX6_versesAt_28 rfl rfl (by decide) (zno rfl) rfl ?_
      refine j_goto (tgt := 4) dX6_versesAt_31 (by decide) ?_
      exact zJw h ⟨rfl, rfl, rfl, rfl, trivial⟩
    · have h := h.2 hc2
      refine j_iload_n dX6_versesAt_19 rfl ?_
      refine j_aload_n dX6_versesAt_20 rfl ?_
      refine j_getr dX6_versesAt_21 fX6_41 rfl rfl ?_
      refine j_iload_n dX6_versesAt_24 rfl ?_
      obtain ⟨j3, ej3, lj3, h⟩ := h
      refine j_iald dX6_versesAt_25 rfl (zin ej3 lj3 (by decide)) ?_
      rw [zcl ej3 lj3 (by decide)]
      refine j_ior dX6_versesAt_26 ?_
      refine j_istore_n (L2 := [some (.ref 4), some (.int x1), some (.int (x2 ||| (X 18 j3))), some (.int x3)]) dX6_versesAt_27 (by decide) (zno rfl) rfl ?_
      refine j_iinc (v := (x3 + 1)) (L2 := [some (.ref 4), some (.int x1), some (.int (x2 ||| (X 18 j3))), some (.int (x3 + 1))]) dX6_versesAt_28 rfl rfl (by decide) (zno rfl) rfl ?_
      refine j_goto (tgt := 4) dX6_versesAt_31 (by decide) ?_
      exact zJw h ⟨rfl, rfl, rfl, rfl, trivial⟩
abbrev LX6_openOrHeldBy_4 (v : Int32) (X : zX) (x1 : Int32) (x2 : Int32) (x3 : Int32) : Prop := zJ SX 0 mX6_openOrHeldBy (zRf v X) 4 [some (.ref 4), some (.int x1), some (.int x2), some (.int x3)] [] X
theorem eX6_openOrHeldBy (v : Int32) (X : zX) (a1 : Int32) (h : LX6_openOrHeldBy_4 v X a1 0 0) : zPf SX 0 mX6_openOrHeldBy [.ref 4, .int a1] X v := by
  refine zP_in [some (.ref 4), some (.int a1), none, none] ⟨rfl, rfl, trivial⟩ (by decide) (Nat.le_of_ble_eq_true rfl) ?_
  refine j_iconst (v := 0) dX6_openOrHeldBy_0 rfl ?_
  refine j_istore_n (L2 := [some (.ref 4), some (.int a1), some (.int 0), none]) dX6_openOrHeldBy_1 (by decide) (zno rfl) rfl ?_
  refine j_iconst (v := 0) dX6_openOrHeldBy_2 rfl ?_
  refine j_istore_n (L2 := [some (.ref 4), some (.int a1), some (.int 0), some (.int 0)]) dX6_openOrHeldBy_3 (by decide) (zno rfl) rfl ?_
  exact zJw h ⟨rfl, rfl, rfl, rfl, trivial⟩
theorem bX6_openOrHeldBy_4 (v : Int32) (X : zX) (x1 : Int32) (x2 : Int32) (x3 : Int32) (h : (((X 4 10) ≤ x3) → (x2 = v)) ∧ ((¬ ((X 4 10) ≤ x3)) → (∃ j2 : Nat, x3 = nI j2 ∧ j2 < 24 ∧ ((((X 9 j2) = (-4)) → (LX6_openOrHeldBy_4 v X x1 (x2 ||| (zshl 1 x3)) (x3 + 1))) ∧ ((¬ ((X 9 j2) = (-4))) → (∃ j4 : Nat, x3 = nI j4 ∧ j4 < 24 ∧ (((¬ (X 9 j4) = x1) → (LX6_openOrHeldBy_4 v X x1 x2 (x3 + 1))) ∧ (((X 9 j4) = x1) → (LX6_openOrHeldBy_4 v X x1 (x2 ||| (zshl 1 x3)) (x3 + 1)))))))))) : LX6_openOrHeldBy_4 v X x1 x2 x3 := by
  refine j_iload_n dX6_openOrHeldBy_4 rfl ?_
  refine j_aload_n dX6_openOrHeldBy_5 rfl ?_
  refine j_getf dX6_openOrHeldBy_6 fX6_44 rfl rfl ?_
  refine j_ic_ge (tgt := 45) dX6_openOrHeldBy_9 (by decide) (fun hc1 => ?_) (fun hc1 => ?_)
  · have h := h.1 hc1
    refine j_iload_n dX6_openOrHeldBy_45 rfl ?_
    refine j_iret dX6_openOrHeldBy_46 rfl rfl ?_
    exact ⟨by rw [h], rfl⟩
  · have h := h.2 hc1
    refine j_aload_n dX6_openOrHeldBy_12 rfl ?_
    refine j_getr dX6_openOrHeldBy_13 fX6_24 rfl rfl ?_
    refine j_iload_n dX6_openOrHeldBy_16 rfl ?_
    obtain ⟨j2, ej2, lj2, h⟩ := h
    refine j_iald dX6_openOrHeldBy_17 rfl (zin ej2 lj2 (by decide)) ?_
    rw [zcl ej2 lj2 (by decide)]
    refine j_bipush (v := (-4)) dX6_openOrHeldBy_18 rfl ?_
    refine j_ic_eq (tgt := 33) dX6_openOrHeldBy_20 (by decide) (fun hc3 => ?_) (fun hc3 => ?_)
    · have h := h.1 hc3
      refine j_iload_n dX6_openOrHeldBy_33 rfl ?_
      refine j_iconst (v := 1) dX6_openOrHeldBy_34 rfl ?_
      refine j_iload_n dX6_openOrHeldBy_35 rfl ?_
      refine j_ishl dX6_openOrHeldBy_36 ?_
      refine j_ior dX6_openOrHeldBy_37 ?_
      refine j_istore_n (L2 := [some (.ref 4), some (.int x1), some (.int (x2 ||| (zshl 1 x3))), some (.int x3)]) dX6_openOrHeldBy_38 (by decide) (zno rfl) rfl ?_
      refine j_iinc (v := (x3 + 1)) (L2 := [some (.ref 4), some (.int x1), some (.int (x2 ||| (zshl 1 x3))), some (.int (x3 + 1))]) dX6_openOrHeldBy_39 rfl rfl (by decide) (zno rfl) rfl ?_
      refine j_goto (tgt := 4) dX6_openOrHeldBy_42 (by decide) ?_
      exact zJw h ⟨rfl, rfl, rfl, rfl, trivial⟩
    · have h := h.2 hc3
      refine j_aload_n dX6_openOrHeldBy_23 rfl ?_
      refine j_getr dX6_openOrHeldBy_24 fX6_24 rfl rfl ?_
      refine j_iload_n dX6_openOrHeldBy_27 rfl ?_
      obtain ⟨j4, ej4, lj4, h⟩ := h
      refine j_iald dX6_openOrHeldBy_28 rfl (zin ej4 lj4 (by decide)) ?_
      rw [zcl ej4 lj4 (by decide)]
      refine j_iload_n dX6_openOrHeldBy_29 rfl ?_
      refine j_ic_ne (tgt := 39) dX6_openOrHeldBy_30 (by decide) (fun hc5 => ?_) (fun hc5 => ?_)
      · have h := h.1 hc5
        refine j_iinc (v := (x3 + 1)) (L2 := [some (.ref 4), some (.int x1), some (.int x2), some (.int (x3 + 1))]) dX6_openOrHeldBy_39 rfl rfl (by decide) (zno rfl) rfl ?_
        refine j_goto (tgt := 4) dX6_openOrHeldBy_42 (by decide) ?_
        exact zJw h ⟨rfl, rfl, rfl, rfl, trivial⟩
      · have h := h.2 hc5
        refine j_iload_n dX6_openOrHeldBy_33 rfl ?_
        refine j_iconst (v := 1) dX6_openOrHeldBy_34 rfl ?_
        refine j_iload_n dX6_openOrHeldBy_35 rfl ?_
        refine j_ishl dX6_openOrHeldBy_36 ?_
        refine j_ior dX6_openOrHeldBy_37 ?_
        refine j_istore_n (L2 := [some (.ref 4), some (.int x1), some (.int (x2 ||| (zshl 1 x3))), some (.int x3)]) dX6_openOrHeldBy_38 (by decide) (zno rfl) rfl ?_
        refine j_iinc (v := (x3 + 1)) (L2 := [some (.ref 4), some (.int x1), some (.int (x2 ||| (zshl 1 x3))), some (.int (x3 + 1))]) dX6_openOrHeldBy_39 rfl rfl (by decide) (zno rfl) rfl ?_
        refine j_goto (tgt := 4) dX6_openOrHeldBy_42 (by decide) ?_
        exact zJw h ⟨rfl, rfl, rfl, rfl, trivial⟩
abbrev LX6_placesOf_4 (v : Int32) (X : zX) (x1 : Int32) (x2 : Int32) (x3 : Int32) : Prop := zJ SX 0 mX6_placesOf (zRf v X) 4 [some (.ref 4), some (.int x1), some (.int x2), some (.int x3)] [] X
theorem eX6_placesOf (v : Int32) (X : zX) (a1 : Int32) (h : LX6_placesOf_4 v X a1 0 0) : zPf SX 0 mX6_placesOf [.ref 4, .int a1] X v := by
  refine zP_in [some (.ref 4), some (.int a1), none, none] ⟨rfl, rfl, trivial⟩ (by decide) (Nat.le_of_ble_eq_true rfl) ?_
  refine j_iconst (v := 0) dX6_placesOf_0 rfl ?_
  refine j_istore_n (L2 := [some (.ref 4), some (.int a1), some (.int 0), none]) dX6_placesOf_1 (by decide) (zno rfl) rfl ?_
  refine j_iconst (v := 0) dX6_placesOf_2 rfl ?_
  refine j_istore_n (L2 := [some (.ref 4), some (.int a1), some (.int 0), some (.int 0)]) dX6_placesOf_3 (by decide) (zno rfl) rfl ?_
  exact zJw h ⟨rfl, rfl, rfl, rfl, trivial⟩
theorem bX6_placesOf_4 (v : Int32) (X : zX) (x1 : Int32) (x2 : Int32) (x3 : Int32) (h : (((X 4 10) ≤ x3) → (x2 = v)) ∧ ((¬ ((X 4 10) ≤ x3)) → (((¬ ((zshr x1 x3) &&& 1) = 1) → (LX6_placesOf_4 v X x1 x2 (x3 + 1))) ∧ ((((zshr x1 x3) &&& 1) = 1) → (∃ j3 : Nat, x3 = nI j3 ∧ j3 < 24 ∧ (LX6_placesOf_4 v X x1 (x2 ||| (zshl 1 (X 6 j3))) (x3 + 1))))))) : LX6_placesOf_4 v X x1 x2 x3 := by
  refine j_iload_n dX6_placesOf_4 rfl ?_
  refine j_aload_n dX6_placesOf_5 rfl ?_
  refine j_getf dX6_placesOf_6 fX6_44 rfl rfl ?_
  refine j_ic_ge (tgt := 38) dX6_placesOf_9 (by decide) (fun hc1 => ?_) (fun hc1 => ?_)
  · have h := h.1 hc1
    refine j_iload_n dX6_placesOf_38 rfl ?_
    refine j_iret dX6_placesOf_39 rfl rfl ?_
    exact ⟨by rw [h], rfl⟩
  · have h := h.2 hc1
    refine j_iload_n dX6_placesOf_12 rfl ?_
    refine j_iload_n dX6_placesOf_13 rfl ?_
    refine j_ishr dX6_placesOf_14 ?_
    refine j_iconst (v := 1) dX6_placesOf_15 rfl ?_
    refine j_iand dX6_placesOf_16 ?_
    refine j_iconst (v := 1) dX6_placesOf_17 rfl ?_
    refine j_ic_ne (tgt := 32) dX6_placesOf_18 (by decide) (fun hc2 => ?_) (fun hc2 => ?_)
    · have h := h.1 hc2
      refine j_iinc (v := (x3 + 1)) (L2 := [some (.ref 4), some (.int x1), some (.int x2), some (.int (x3 + 1))]) dX6_placesOf_32 rfl rfl (by decide) (zno rfl) rfl ?_
      refine j_goto (tgt := 4) dX6_placesOf_35 (by decide) ?_
      exact zJw h ⟨rfl, rfl, rfl, rfl, trivial⟩
    · have h := h.2 hc2
      refine j_iload_n dX6_placesOf_21 rfl ?_
      refine j_iconst (v := 1) dX6_placesOf_22 rfl ?_
      refine j_aload_n dX6_placesOf_23 rfl ?_
      refine j_getr dX6_placesOf_24 fX6_15 rfl rfl ?_
      refine j_iload_n dX6_placesOf_27 rfl ?_
      obtain ⟨j3, ej3, lj3, h⟩ := h
      refine j_iald dX6_placesOf_28 rfl (zin ej3 lj3 (by decide)) ?_
      rw [zcl ej3 lj3 (by decide)]
      refine j_ishl dX6_placesOf_29 ?_
      refine j_ior dX6_placesOf_30 ?_
      refine j_istore_n (L2 := [some (.ref 4), some (.int x1), some (.int (x2 ||| (zshl 1 (X 6 j3)))), some (.int x3)]) dX6_placesOf_31 (by decide) (zno rfl) rfl ?_
      refine j_iinc (v := (x3 + 1)) (L2 := [some (.ref 4), some (.int x1), some (.int (x2 ||| (zshl 1 (X 6 j3)))), some (.int (x3 + 1))]) dX6_placesOf_32 rfl rfl (by decide) (zno rfl) rfl ?_
      refine j_goto (tgt := 4) dX6_placesOf_35 (by decide) ?_
      exact zJw h ⟨rfl, rfl, rfl, rfl, trivial⟩
abbrev LX6_songsOf_4 (v : Int32) (X : zX) (x1 : Int32) (x2 : Int32) (x3 : Int32) : Prop := zJ SX 0 mX6_songsOf (zRf v X) 4 [some (.ref 4), some (.int x1), some (.int x2), some (.int x3)] [] X
theorem eX6_songsOf (v : Int32) (X : zX) (a1 : Int32) (h : LX6_songsOf_4 v X a1 0 0) : zPf SX 0 mX6_songsOf [.ref 4, .int a1] X v := by
  refine zP_in [some (.ref 4), some (.int a1), none, none] ⟨rfl, rfl, trivial⟩ (by decide) (Nat.le_of_ble_eq_true rfl) ?_
  refine j_iconst (v := 0) dX6_songsOf_0 rfl ?_
  refine j_istore_n (L2 := [some (.ref 4), some (.int a1), some (.int 0), none]) dX6_songsOf_1 (by decide) (zno rfl) rfl ?_
  refine j_iconst (v := 0) dX6_songsOf_2 rfl ?_
  refine j_istore_n (L2 := [some (.ref 4), some (.int a1), some (.int 0), some (.int 0)]) dX6_songsOf_3 (by decide) (zno rfl) rfl ?_
  exact zJw h ⟨rfl, rfl, rfl, rfl, trivial⟩
theorem bX6_songsOf_4 (v : Int32) (X : zX) (x1 : Int32) (x2 : Int32) (x3 : Int32) (h : (((X 4 10) ≤ x3) → (x2 = v)) ∧ ((¬ ((X 4 10) ≤ x3)) → (((¬ ((zshr x1 x3) &&& 1) = 1) → (LX6_songsOf_4 v X x1 x2 (x3 + 1))) ∧ ((((zshr x1 x3) &&& 1) = 1) → (∃ j3 : Nat, x3 = nI j3 ∧ j3 < 24 ∧ (LX6_songsOf_4 v X x1 (x2 ||| (zshl 1 (X 5 j3))) (x3 + 1))))))) : LX6_songsOf_4 v X x1 x2 x3 := by
  refine j_iload_n dX6_songsOf_4 rfl ?_
  refine j_aload_n dX6_songsOf_5 rfl ?_
  refine j_getf dX6_songsOf_6 fX6_44 rfl rfl ?_
  refine j_ic_ge (tgt := 38) dX6_songsOf_9 (by decide) (fun hc1 => ?_) (fun hc1 => ?_)
  · have h := h.1 hc1
    refine j_iload_n dX6_songsOf_38 rfl ?_
    refine j_iret dX6_songsOf_39 rfl rfl ?_
    exact ⟨by rw [h], rfl⟩
  · have h := h.2 hc1
    refine j_iload_n dX6_songsOf_12 rfl ?_
    refine j_iload_n dX6_songsOf_13 rfl ?_
    refine j_ishr dX6_songsOf_14 ?_
    refine j_iconst (v := 1) dX6_songsOf_15 rfl ?_
    refine j_iand dX6_songsOf_16 ?_
    refine j_iconst (v := 1) dX6_songsOf_17 rfl ?_
    refine j_ic_ne (tgt := 32) dX6_songsOf_18 (by decide) (fun hc2 => ?_) (fun hc2 => ?_)
    · have h := h.1 hc2
      refine j_iinc (v := (x3 + 1)) (L2 := [some (.ref 4), some (.int x1), some (.int x2), some (.int (x3 + 1))]) dX6_songsOf_32 rfl rfl (by decide) (zno rfl) rfl ?_
      refine j_goto (tgt := 4) dX6_songsOf_35 (by decide) ?_
      exact zJw h ⟨rfl, rfl, rfl, rfl, trivial⟩
    · have h := h.2 hc2
      refine j_iload_n dX6_songsOf_21 rfl ?_
      refine j_iconst (v := 1) dX6_songsOf_22 rfl ?_
      refine j_aload_n dX6_songsOf_23 rfl ?_
      refine j_getr dX6_songsOf_24 fX6_9 rfl rfl ?_
      refine j_iload_n dX6_songsOf_27 rfl ?_
      obtain ⟨j3, ej3, lj3, h⟩ := h
      refine j_iald dX6_songsOf_28 rfl (zin ej3 lj3 (by decide)) ?_
      rw [zcl ej3 lj3 (by decide)]
      refine j_ishl dX6_songsOf_29 ?_
      refine j_ior dX6_songsOf_30 ?_
      refine j_istore_n (L2 := [some (.ref 4), some (.int x1), some (.int (x2 ||| (zshl 1 (X 5 j3)))), some (.int x3)]) dX6_songsOf_31 (by decide) (zno rfl) rfl ?_
      refine j_iinc (v := (x3 + 1)) (L2 := [some (.ref 4), some (.int x1), some (.int (x2 ||| (zshl 1 (X 5 j3)))), some (.int (x3 + 1))]) dX6_songsOf_32 rfl rfl (by decide) (zno rfl) rfl ?_
      refine j_goto (tgt := 4) dX6_songsOf_35 (by decide) ?_
      exact zJw h ⟨rfl, rfl, rfl, rfl, trivial⟩
abbrev LX6_kinsOf_4 (v : Int32) (X : zX) (x1 : Int32) (x2 : Int32) (x3 : Int32) : Prop := zJ SX 0 mX6_kinsOf (zRf v X) 4 [some (.ref 4), some (.int x1), some (.int x2), some (.int x3)] [] X
theorem eX6_kinsOf (v : Int32) (X : zX) (a1 : Int32) (h : LX6_kinsOf_4 v X a1 0 0) : zPf SX 0 mX6_kinsOf [.ref 4, .int a1] X v := by
  refine zP_in [some (.ref 4), some (.int a1), none, none] ⟨rfl, rfl, trivial⟩ (by decide) (Nat.le_of_ble_eq_true rfl) ?_
  refine j_iconst (v := 0) dX6_kinsOf_0 rfl ?_
  refine j_istore_n (L2 := [some (.ref 4), some (.int a1), some (.int 0), none]) dX6_kinsOf_1 (by decide) (zno rfl) rfl ?_
  refine j_iconst (v := 0) dX6_kinsOf_2 rfl ?_
  refine j_istore_n (L2 := [some (.ref 4), some (.int a1), some (.int 0), some (.int 0)]) dX6_kinsOf_3 (by decide) (zno rfl) rfl ?_
  exact zJw h ⟨rfl, rfl, rfl, rfl, trivial⟩
theorem bX6_kinsOf_4 (v : Int32) (X : zX) (x1 : Int32) (x2 : Int32) (x3 : Int32) (h : (((X 4 10) ≤ x3) → (x2 = v)) ∧ ((¬ ((X 4 10) ≤ x3)) → (((¬ ((zshr x1 x3) &&& 1) = 1) → (LX6_kinsOf_4 v X x1 x2 (x3 + 1))) ∧ ((((zshr x1 x3) &&& 1) = 1) → (∃ j3 : Nat, x3 = nI j3 ∧ j3 < 24 ∧ ((((X 9 j3) = (-4)) → (LX6_kinsOf_4 v X x1 x2 (x3 + 1))) ∧ ((¬ ((X 9 j3) = (-4))) → (∃ j5 : Nat, x3 = nI j5 ∧ j5 < 24 ∧ (LX6_kinsOf_4 v X x1 (x2 ||| (zshl 1 (X 9 j5))) (x3 + 1)))))))))) : LX6_kinsOf_4 v X x1 x2 x3 := by
  refine j_iload_n dX6_kinsOf_4 rfl ?_
  refine j_aload_n dX6_kinsOf_5 rfl ?_
  refine j_getf dX6_kinsOf_6 fX6_44 rfl rfl ?_
  refine j_ic_ge (tgt := 49) dX6_kinsOf_9 (by decide) (fun hc1 => ?_) (fun hc1 => ?_)
  · have h := h.1 hc1
    refine j_iload_n dX6_kinsOf_49 rfl ?_
    refine j_iret dX6_kinsOf_50 rfl rfl ?_
    exact ⟨by rw [h], rfl⟩
  · have h := h.2 hc1
    refine j_iload_n dX6_kinsOf_12 rfl ?_
    refine j_iload_n dX6_kinsOf_13 rfl ?_
    refine j_ishr dX6_kinsOf_14 ?_
    refine j_iconst (v := 1) dX6_kinsOf_15 rfl ?_
    refine j_iand dX6_kinsOf_16 ?_
    refine j_iconst (v := 1) dX6_kinsOf_17 rfl ?_
    refine j_ic_ne (tgt := 43) dX6_kinsOf_18 (by decide) (fun hc2 => ?_) (fun hc2 => ?_)
    · have h := h.1 hc2
      refine j_iinc (v := (x3 + 1)) (L2 := [some (.ref 4), some (.int x1), some (.int x2), some (.int (x3 + 1))]) dX6_kinsOf_43 rfl rfl (by decide) (zno rfl) rfl ?_
      refine j_goto (tgt := 4) dX6_kinsOf_46 (by decide) ?_
      exact zJw h ⟨rfl, rfl, rfl, rfl, trivial⟩
    · have h := h.2 hc2
      refine j_aload_n dX6_kinsOf_21 rfl ?_
      refine j_getr dX6_kinsOf_22 fX6_24 rfl rfl ?_
      refine j_iload_n dX6_kinsOf_25 rfl ?_
      obtain ⟨j3, ej3, lj3, h⟩ := h
      refine j_iald dX6_kinsOf_26 rfl (zin ej3 lj3 (by decide)) ?_
      rw [zcl ej3 lj3 (by decide)]
      refine j_bipush (v := (-4)) dX6_kinsOf_27 rfl ?_
      refine j_ic_eq (tgt := 43) dX6_kinsOf_29 (by decide) (fun hc4 => ?_) (fun hc4 => ?_)
      · have h := h.1 hc4
        refine j_iinc (v := (x3 + 1)) (L2 := [some (.ref 4), some (.int x1), some (.int x2), some (.int (x3 + 1))]) dX6_kinsOf_43 rfl rfl (by decide) (zno rfl) rfl ?_
        refine j_goto (tgt := 4) dX6_kinsOf_46 (by decide) ?_
        exact zJw h ⟨rfl, rfl, rfl, rfl, trivial⟩
      · have h := h.2 hc4
        refine j_iload_n dX6_kinsOf_32 rfl ?_
        refine j_iconst (v := 1) dX6_kinsOf_33 rfl ?_
        refine j_aload_n dX6_kinsOf_34 rfl ?_
        refine j_getr dX6_kinsOf_35 fX6_24 rfl rfl ?_
        refine j_iload_n dX6_kinsOf_38 rfl ?_
        obtain ⟨j5, ej5, lj5, h⟩ := h
        refine j_iald dX6_kinsOf_39 rfl (zin ej5 lj5 (by decide)) ?_
        rw [zcl ej5 lj5 (by decide)]
        refine j_ishl dX6_kinsOf_40 ?_
        refine j_ior dX6_kinsOf_41 ?_
        refine j_istore_n (L2 := [some (.ref 4), some (.int x1), some (.int (x2 ||| (zshl 1 (X 9 j5)))), some (.int x3)]) dX6_kinsOf_42 (by decide) (zno rfl) rfl ?_
        refine j_iinc (v := (x3 + 1)) (L2 := [some (.ref 4), some (.int x1), some (.int (x2 ||| (zshl 1 (X 9 j5)))), some (.int (x3 + 1))]) dX6_kinsOf_43 rfl rfl (by decide) (zno rfl) rfl ?_
        refine j_goto (tgt := 4) dX6_kinsOf_46 (by decide) ?_
        exact zJw h ⟨rfl, rfl, rfl, rfl, trivial⟩
abbrev LX6_firstForeign_2 (v : Int32) (X : zX) (x1 : Int32) (x2 : Int32) (x3 : Int32) : Prop := zJ SX 0 mX6_firstForeign (zRf v X) 2 [some (.ref 4), some (.int x1), some (.int x2), some (.int x3)] [] X
theorem eX6_firstForeign (v : Int32) (X : zX) (a1 : Int32) (a2 : Int32) (h : LX6_firstForeign_2 v X a1 a2 0) : zPf SX 0 mX6_firstForeign [.ref 4, .int a1, .int a2] X v := by
  refine zP_in [some (.ref 4), some (.int a1), some (.int a2), none] ⟨rfl, rfl, rfl, trivial⟩ (by decide) (Nat.le_of_ble_eq_true rfl) ?_
  refine j_iconst (v := 0) dX6_firstForeign_0 rfl ?_
  refine j_istore_n (L2 := [some (.ref 4), some (.int a1), some (.int a2), some (.int 0)]) dX6_firstForeign_1 (by decide) (zno rfl) rfl ?_
  exact zJw h ⟨rfl, rfl, rfl, rfl, trivial⟩
theorem bX6_firstForeign_2 (v : Int32) (X : zX) (x1 : Int32) (x2 : Int32) (x3 : Int32) (h : (((X 4 10) ≤ x3) → ((-4) = v)) ∧ ((¬ ((X 4 10) ≤ x3)) → (((¬ ((zshr x1 x3) &&& 1) = 1) → (LX6_firstForeign_2 v X x1 x2 (x3 + 1))) ∧ ((((zshr x1 x3) &&& 1) = 1) → (∃ j3 : Nat, x3 = nI j3 ∧ j3 < 24 ∧ (((¬ ((zshr x2 (X 7 j3)) &&& 1) = 0) → (LX6_firstForeign_2 v X x1 x2 (x3 + 1))) ∧ ((((zshr x2 (X 7 j3)) &&& 1) = 0) → (x3 = v)))))))) : LX6_firstForeign_2 v X x1 x2 x3 := by
  refine j_iload_n dX6_firstForeign_2 rfl ?_
  refine j_aload_n dX6_firstForeign_3 rfl ?_
  refine j_getf dX6_firstForeign_4 fX6_44 rfl rfl ?_
  refine j_ic_ge (tgt := 40) dX6_firstForeign_7 (by decide) (fun hc1 => ?_) (fun hc1 => ?_)
  · have h := h.1 hc1
    refine j_bipush (v := (-4)) dX6_firstForeign_40 rfl ?_
    refine j_iret dX6_firstForeign_42 rfl rfl ?_
    exact ⟨by rw [h], rfl⟩
  · have h := h.2 hc1
    refine j_iload_n dX6_firstForeign_10 rfl ?_
    refine j_iload_n dX6_firstForeign_11 rfl ?_
    refine j_ishr dX6_firstForeign_12 ?_
    refine j_iconst (v := 1) dX6_firstForeign_13 rfl ?_
    refine j_iand dX6_firstForeign_14 ?_
    refine j_iconst (v := 1) dX6_firstForeign_15 rfl ?_
    refine j_ic_ne (tgt := 34) dX6_firstForeign_16 (by decide) (fun hc2 => ?_) (fun hc2 => ?_)
    · have h := h.1 hc2
      refine j_iinc (v := (x3 + 1)) (L2 := [some (.ref 4), some (.int x1), some (.int x2), some (.int (x3 + 1))]) dX6_firstForeign_34 rfl rfl (by decide) (zno rfl) rfl ?_
      refine j_goto (tgt := 2) dX6_firstForeign_37 (by decide) ?_
      exact zJw h ⟨rfl, rfl, rfl, rfl, trivial⟩
    · have h := h.2 hc2
      refine j_iload_n dX6_firstForeign_19 rfl ?_
      refine j_aload_n dX6_firstForeign_20 rfl ?_
      refine j_getr dX6_firstForeign_21 fX6_18 rfl rfl ?_
      refine j_iload_n dX6_firstForeign_24 rfl ?_
      obtain ⟨j3, ej3, lj3, h⟩ := h
      refine j_iald dX6_firstForeign_25 rfl (zin ej3 lj3 (by decide)) ?_
      rw [zcl ej3 lj3 (by decide)]
      refine j_ishr dX6_firstForeign_26 ?_
      refine j_iconst (v := 1) dX6_firstForeign_27 rfl ?_
      refine j_iand dX6_firstForeign_28 ?_
      refine j_if_ne (tgt := 34) dX6_firstForeign_29 (by decide) (fun hc4 => ?_) (fun hc4 => ?_)
      · have h := h.1 hc4
        refine j_iinc (v := (x3 + 1)) (L2 := [some (.ref 4), some (.int x1), some (.int x2), some (.int (x3 + 1))]) dX6_firstForeign_34 rfl rfl (by decide) (zno rfl) rfl ?_
        refine j_goto (tgt := 2) dX6_firstForeign_37 (by decide) ?_
        exact zJw h ⟨rfl, rfl, rfl, rfl, trivial⟩
      · have h := h.2 hc4
        refine j_iload_n dX6_firstForeign_32 rfl ?_
        refine j_iret dX6_firstForeign_33 rfl rfl ?_
        exact ⟨by rw [h], rfl⟩
abbrev LX6_brokenBy_4 (v : Int32) (X : zX) (x1 : Int32) (x2 : Int32) (x3 : Int32) : Prop := zJ SX 0 mX6_brokenBy (zRf v X) 4 [some (.ref 4), some (.int x1), some (.int x2), some (.int x3), none] [] X
theorem eX6_brokenBy (v : Int32) (X : zX) (a1 : Int32) (h : LX6_brokenBy_4 v X a1 0 0) : zPf SX 0 mX6_brokenBy [.ref 4, .int a1] X v := by
  refine zP_in [some (.ref 4), some (.int a1), none, none, none] ⟨rfl, rfl, trivial⟩ (by decide) (Nat.le_of_ble_eq_true rfl) ?_
  refine j_iconst (v := 0) dX6_brokenBy_0 rfl ?_
  refine j_istore_n (L2 := [some (.ref 4), some (.int a1), some (.int 0), none, none]) dX6_brokenBy_1 (by decide) (zno rfl) rfl ?_
  refine j_iconst (v := 0) dX6_brokenBy_2 rfl ?_
  refine j_istore_n (L2 := [some (.ref 4), some (.int a1), some (.int 0), some (.int 0), none]) dX6_brokenBy_3 (by decide) (zno rfl) rfl ?_
  exact zJw h ⟨rfl, rfl, rfl, rfl, trivial⟩
theorem bX6_brokenBy_4 (v : Int32) (X : zX) (x1 : Int32) (x2 : Int32) (x3 : Int32) (h : (((X 4 10) ≤ x3) → (x2 = v)) ∧ ((¬ ((X 4 10) ≤ x3)) → (∃ j2 : Nat, x3 = nI j2 ∧ j2 < 24 ∧ ((((X 10 j2) ≤ 0) → (((¬ ((zshr x1 x3) &&& 1) = 1) → (LX6_brokenBy_4 v X x1 x2 (x3 + 1))) ∧ ((((zshr x1 x3) &&& 1) = 1) → (LX6_brokenBy_4 v X x1 x2 (x3 + 1))))) ∧ ((¬ ((X 10 j2) ≤ 0)) → (∃ j5 : Nat, x3 = nI j5 ∧ j5 < 24 ∧ (∃ j6 : Nat, x3 = nI j6 ∧ j6 < 24 ∧ (∃ j7 : Nat, (X 5 j6) = nI j7 ∧ j7 < 4 ∧ ((((X 16 j7) ≤ ((X 10 j5) + 1)) → (((¬ ((zshr x1 x3) &&& 1) = 1) → (LX6_brokenBy_4 v X x1 x2 (x3 + 1))) ∧ ((((zshr x1 x3) &&& 1) = 1) → (LX6_brokenBy_4 v X x1 x2 (x3 + 1))))) ∧ ((¬ ((X 16 j7) ≤ ((X 10 j5) + 1))) → (((¬ ((zshr x1 x3) &&& 1) = 1) → (LX6_brokenBy_4 v X x1 x2 (x3 + 1))) ∧ ((((zshr x1 x3) &&& 1) = 1) → (∃ j11 : Nat, x3 = nI j11 ∧ j11 < 24 ∧ (LX6_brokenBy_4 v X x1 (x2 ||| (zshl 1 (X 5 j11))) (x3 + 1))))))))))))))) : LX6_brokenBy_4 v X x1 x2 x3 := by
  refine j_iload_n dX6_brokenBy_4 rfl ?_
  refine j_aload_n dX6_brokenBy_5 rfl ?_
  refine j_getf dX6_brokenBy_6 fX6_44 rfl rfl ?_
  refine j_ic_ge (tgt := 81) dX6_brokenBy_9 (by decide) (fun hc1 => ?_) (fun hc1 => ?_)
  · have h := h.1 hc1
    refine j_iload_n dX6_brokenBy_81 rfl ?_
    refine j_iret dX6_brokenBy_82 rfl rfl ?_
    exact ⟨by rw [h], rfl⟩
  · have h := h.2 hc1
    refine j_aload_n dX6_brokenBy_12 rfl ?_
    refine j_getr dX6_brokenBy_13 fX6_27 rfl rfl ?_
    refine j_iload_n dX6_brokenBy_16 rfl ?_
    obtain ⟨j2, ej2, lj2, h⟩ := h
    refine j_iald dX6_brokenBy_17 rfl (zin ej2 lj2 (by decide)) ?_
    rw [zcl ej2 lj2 (by decide)]
    refine j_if_le (tgt := 47) dX6_brokenBy_18 (by decide) (fun hc3 => ?_) (fun hc3 => ?_)
    · have h := h.1 hc3
      refine j_iconst (v := 0) dX6_brokenBy_47 rfl ?_
      refine j_istore (L2 := [some (.ref 4), some (.int x1), some (.int x2), some (.int x3), some (.int 0)]) dX6_brokenBy_48 (by decide) (zno rfl) rfl ?_
      refine j_iload_n dX6_brokenBy_50 rfl ?_
      refine j_iload_n dX6_brokenBy_51 rfl ?_
      refine j_ishr dX6_brokenBy_52 ?_
      refine j_iconst (v := 1) dX6_brokenBy_53 rfl ?_
      refine j_iand dX6_brokenBy_54 ?_
      refine j_iconst (v := 1) dX6_brokenBy_55 rfl ?_
      refine j_ic_ne (tgt := 75) dX6_brokenBy_56 (by decide) (fun hc4 => ?_) (fun hc4 => ?_)
      · have h := h.1 hc4
        refine j_iinc (v := (x3 + 1)) (L2 := [some (.ref 4), some (.int x1), some (.int x2), some (.int (x3 + 1)), some (.int 0)]) dX6_brokenBy_75 rfl rfl (by decide) (zno rfl) rfl ?_
        refine j_goto (tgt := 4) dX6_brokenBy_78 (by decide) ?_
        exact zJw h ⟨rfl, rfl, rfl, rfl, trivial⟩
      · have h := h.2 hc4
        refine j_iload dX6_brokenBy_59 rfl ?_
        refine j_if_eq (tgt := 75) dX6_brokenBy_61 (by decide) (fun _ => ?_) (fun hc => absurd hc (by decide))
        refine j_iinc (v := (x3 + 1)) (L2 := [some (.ref 4), some (.int x1), some (.int x2), some (.int (x3 + 1)), some (.int 0)]) dX6_brokenBy_75 rfl rfl (by decide) (zno rfl) rfl ?_
        refine j_goto (tgt := 4) dX6_brokenBy_78 (by decide) ?_
        exact zJw h ⟨rfl, rfl, rfl, rfl, trivial⟩
    · have h := h.2 hc3
      refine j_aload_n dX6_brokenBy_21 rfl ?_
      refine j_getr dX6_brokenBy_22 fX6_27 rfl rfl ?_
      refine j_iload_n dX6_brokenBy_25 rfl ?_
      obtain ⟨j5, ej5, lj5, h⟩ := h
      refine j_iald dX6_brokenBy_26 rfl (zin ej5 lj5 (by decide)) ?_
      rw [zcl ej5 lj5 (by decide)]
      refine j_iconst (v := 1) dX6_brokenBy_27 rfl ?_
      refine j_iadd dX6_brokenBy_28 ?_
      refine j_aload_n dX6_brokenBy_29 rfl ?_
      refine j_getr dX6_brokenBy_30 fX6_35 rfl rfl ?_
      refine j_aload_n dX6_brokenBy_33 rfl ?_
      refine j_getr dX6_brokenBy_34 fX6_9 rfl rfl ?_
      refine j_iload_n dX6_brokenBy_37 rfl ?_
      obtain ⟨j6, ej6, lj6, h⟩ := h
      refine j_iald dX6_brokenBy_38 rfl (zin ej6 lj6 (by decide)) ?_
      rw [zcl ej6 lj6 (by decide)]
      obtain ⟨j7, ej7, lj7, h⟩ := h
      refine j_iald dX6_brokenBy_39 rfl (zin ej7 lj7 (by decide)) ?_
      rw [zcl ej7 lj7 (by decide)]
      refine j_ic_ge (tgt := 47) dX6_brokenBy_40 (by decide) (fun hc8 => ?_) (fun hc8 => ?_)
      · have h := h.1 hc8
        refine j_iconst (v := 0) dX6_brokenBy_47 rfl ?_
        refine j_istore (L2 := [some (.ref 4), some (.int x1), some (.int x2), some (.int x3), some (.int 0)]) dX6_brokenBy_48 (by decide) (zno rfl) rfl ?_
        refine j_iload_n dX6_brokenBy_50 rfl ?_
        refine j_iload_n dX6_brokenBy_51 rfl ?_
        refine j_ishr dX6_brokenBy_52 ?_
        refine j_iconst (v := 1) dX6_brokenBy_53 rfl ?_
        refine j_iand dX6_brokenBy_54 ?_
        refine j_iconst (v := 1) dX6_brokenBy_55 rfl ?_
        refine j_ic_ne (tgt := 75) dX6_brokenBy_56 (by decide) (fun hc9 => ?_) (fun hc9 => ?_)
        · have h := h.1 hc9
          refine j_iinc (v := (x3 + 1)) (L2 := [some (.ref 4), some (.int x1), some (.int x2), some (.int (x3 + 1)), some (.int 0)]) dX6_brokenBy_75 rfl rfl (by decide) (zno rfl) rfl ?_
          refine j_goto (tgt := 4) dX6_brokenBy_78 (by decide) ?_
          exact zJw h ⟨rfl, rfl, rfl, rfl, trivial⟩
        · have h := h.2 hc9
          refine j_iload dX6_brokenBy_59 rfl ?_
          refine j_if_eq (tgt := 75) dX6_brokenBy_61 (by decide) (fun _ => ?_) (fun hc => absurd hc (by decide))
          refine j_iinc (v := (x3 + 1)) (L2 := [some (.ref 4), some (.int x1), some (.int x2), some (.int (x3 + 1)), some (.int 0)]) dX6_brokenBy_75 rfl rfl (by decide) (zno rfl) rfl ?_
          refine j_goto (tgt := 4) dX6_brokenBy_78 (by decide) ?_
          exact zJw h ⟨rfl, rfl, rfl, rfl, trivial⟩
      · have h := h.2 hc8
        refine j_iconst (v := 1) dX6_brokenBy_43 rfl ?_
        refine j_goto (tgt := 48) dX6_brokenBy_44 (by decide) ?_
        refine j_istore (L2 := [some (.ref 4), some (.int x1), some (.int x2), some (.int x3), some (.int 1)]) dX6_brokenBy_48 (by decide) (zno rfl) rfl ?_
        refine j_iload_n dX6_brokenBy_50 rfl ?_
        refine j_iload_n dX6_brokenBy_51 rfl ?_
        refine j_ishr dX6_brokenBy_52 ?_
        refine j_iconst (v := 1) dX6_brokenBy_53 rfl ?_
        refine j_iand dX6_brokenBy_54 ?_
        refine j_iconst (v := 1) dX6_brokenBy_55 rfl ?_
        refine j_ic_ne (tgt := 75) dX6_brokenBy_56 (by decide) (fun hc10 => ?_) (fun hc10 => ?_)
        · have h := h.1 hc10
          refine j_iinc (v := (x3 + 1)) (L2 := [some (.ref 4), some (.int x1), some (.int x2), some (.int (x3 + 1)), some (.int 1)]) dX6_brokenBy_75 rfl rfl (by decide) (zno rfl) rfl ?_
          refine j_goto (tgt := 4) dX6_brokenBy_78 (by decide) ?_
          exact zJw h ⟨rfl, rfl, rfl, rfl, trivial⟩
        · have h := h.2 hc10
          refine j_iload dX6_brokenBy_59 rfl ?_
          refine j_if_eq (tgt := 75) dX6_brokenBy_61 (by decide) (fun hc => absurd hc (by decide)) (fun _ => ?_)
          refine j_iload_n dX6_brokenBy_64 rfl ?_
          refine j_iconst (v := 1) dX6_brokenBy_65 rfl ?_
          refine j_aload_n dX6_brokenBy_66 rfl ?_
          refine j_getr dX6_brokenBy_67 fX6_9 rfl rfl ?_
          refine j_iload_n dX6_brokenBy_70 rfl ?_
          obtain ⟨j11, ej11, lj11, h⟩ := h
          refine j_iald dX6_brokenBy_71 rfl (zin ej11 lj11 (by decide)) ?_
          rw [zcl ej11 lj11 (by decide)]
          refine j_ishl dX6_brokenBy_72 ?_
          refine j_ior dX6_brokenBy_73 ?_
          refine j_istore_n (L2 := [some (.ref 4), some (.int x1), some (.int (x2 ||| (zshl 1 (X 5 j11)))), some (.int x3), some (.int 1)]) dX6_brokenBy_74 (by decide) (zno rfl) rfl ?_
          refine j_iinc (v := (x3 + 1)) (L2 := [some (.ref 4), some (.int x1), some (.int (x2 ||| (zshl 1 (X 5 j11)))), some (.int (x3 + 1)), some (.int 1)]) dX6_brokenBy_75 rfl rfl (by decide) (zno rfl) rfl ?_
          refine j_goto (tgt := 4) dX6_brokenBy_78 (by decide) ?_
          exact zJw h ⟨rfl, rfl, rfl, rfl, trivial⟩
theorem eX6_following (v : Int32) (X : zX) (a1 : Int32) (h : ∃ j1 : Nat, a1 = nI j1 ∧ j1 < 24 ∧ (∃ j2 : Nat, a1 = nI j2 ∧ j2 < 24 ∧ (∃ j3 : Nat, (X 5 j2) = nI j3 ∧ j3 < 4 ∧ ((((X 16 j3) ≤ ((X 10 j1) + 1)) → ((-4) = v)) ∧ ((¬ ((X 16 j3) ≤ ((X 10 j1) + 1))) → (∃ j5 : Nat, a1 = nI j5 ∧ j5 < 24 ∧ (∃ j6 : Nat, (X 5 j5) = nI j6 ∧ j6 < 4 ∧ (∃ j7 : Nat, ((X 10 j1) + 1) = nI j7 ∧ j7 < 24 ∧ ((X (12 + j6) j7) = v))))))))) : zPf SX 0 mX6_following [.ref 4, .int a1] X v := by
  refine zP_in [some (.ref 4), some (.int a1), none] ⟨rfl, rfl, trivial⟩ (by decide) (Nat.le_of_ble_eq_true rfl) ?_
  refine j_aload_n dX6_following_0 rfl ?_
  refine j_getr dX6_following_1 fX6_27 rfl rfl ?_
  refine j_iload_n dX6_following_4 rfl ?_
  obtain ⟨j1, ej1, lj1, h⟩ := h
  refine j_iald dX6_following_5 rfl (zin ej1 lj1 (by decide)) ?_
  rw [zcl ej1 lj1 (by decide)]
  refine j_iconst (v := 1) dX6_following_6 rfl ?_
  refine j_iadd dX6_following_7 ?_
  refine j_istore_n (L2 := [some (.ref 4), some (.int a1), some (.int ((X 10 j1) + 1))]) dX6_following_8 (by decide) (zno rfl) rfl ?_
  refine j_iload_n dX6_following_9 rfl ?_
  refine j_aload_n dX6_following_10 rfl ?_
  refine j_getr dX6_following_11 fX6_35 rfl rfl ?_
  refine j_aload_n dX6_following_14 rfl ?_
  refine j_getr dX6_following_15 fX6_9 rfl rfl ?_
  refine j_iload_n dX6_following_18 rfl ?_
  obtain ⟨j2, ej2, lj2, h⟩ := h
  refine j_iald dX6_following_19 rfl (zin ej2 lj2 (by decide)) ?_
  rw [zcl ej2 lj2 (by decide)]
  obtain ⟨j3, ej3, lj3, h⟩ := h
  refine j_iald dX6_following_20 rfl (zin ej3 lj3 (by decide)) ?_
  rw [zcl ej3 lj3 (by decide)]
  refine j_ic_ge (tgt := 40) dX6_following_21 (by decide) (fun hc4 => ?_) (fun hc4 => ?_)
  · have h := h.1 hc4
    refine j_bipush (v := (-4)) dX6_following_40 rfl ?_
    refine j_iret dX6_following_42 rfl rfl ?_
    exact ⟨by rw [h], rfl⟩
  · have h := h.2 hc4
    refine j_aload_n dX6_following_24 rfl ?_
    refine j_getr dX6_following_25 fX6_32 rfl rfl ?_
    refine j_aload_n dX6_following_28 rfl ?_
    refine j_getr dX6_following_29 fX6_9 rfl rfl ?_
    refine j_iload_n dX6_following_32 rfl ?_
    obtain ⟨j5, ej5, lj5, h⟩ := h
    refine j_iald dX6_following_33 rfl (zin ej5 lj5 (by decide)) ?_
    rw [zcl ej5 lj5 (by decide)]
    obtain ⟨j6, ej6, lj6, h⟩ := h
    refine j_aald (r := (12 + j6)) 4 (by decide) dX6_following_34 rfl (zin ej6 lj6 (by decide)) (by rw [zcl ej6 lj6 (by decide)]; exact if_pos lj6) ?_
    refine j_iload_n dX6_following_35 rfl ?_
    obtain ⟨j7, ej7, lj7, h⟩ := h
    refine j_iald dX6_following_36 (sx_order lj6) (zin ej7 lj7 (by decide)) ?_
    rw [zcl ej7 lj7 (by decide)]
    refine j_goto (tgt := 42) dX6_following_37 (by decide) ?_
    refine j_iret dX6_following_42 rfl rfl ?_
    exact ⟨by rw [h], rfl⟩
theorem eX6_preceding (v : Int32) (X : zX) (a1 : Int32) (h : ∃ j1 : Nat, a1 = nI j1 ∧ j1 < 24 ∧ (((((X 10 j1) - 1) < 0) → ((-4) = v)) ∧ ((¬ (((X 10 j1) - 1) < 0)) → (∃ j3 : Nat, a1 = nI j3 ∧ j3 < 24 ∧ (∃ j4 : Nat, (X 5 j3) = nI j4 ∧ j4 < 4 ∧ (∃ j5 : Nat, ((X 10 j1) - 1) = nI j5 ∧ j5 < 24 ∧ ((X (12 + j4) j5) = v))))))) : zPf SX 0 mX6_preceding [.ref 4, .int a1] X v := by
  refine zP_in [some (.ref 4), some (.int a1), none] ⟨rfl, rfl, trivial⟩ (by decide) (Nat.le_of_ble_eq_true rfl) ?_
  refine j_aload_n dX6_preceding_0 rfl ?_
  refine j_getr dX6_preceding_1 fX6_27 rfl rfl ?_
  refine j_iload_n dX6_preceding_4 rfl ?_
  obtain ⟨j1, ej1, lj1, h⟩ := h
  refine j_iald dX6_preceding_5 rfl (zin ej1 lj1 (by decide)) ?_
  rw [zcl ej1 lj1 (by decide)]
  refine j_iconst (v := 1) dX6_preceding_6 rfl ?_
  refine j_isub dX6_preceding_7 ?_
  refine j_istore_n (L2 := [some (.ref 4), some (.int a1), some (.int ((X 10 j1) - 1))]) dX6_preceding_8 (by decide) (zno rfl) rfl ?_
  refine j_iload_n dX6_preceding_9 rfl ?_
  refine j_if_lt (tgt := 29) dX6_preceding_10 (by decide) (fun hc2 => ?_) (fun hc2 => ?_)
  · have h := h.1 hc2
    refine j_bipush (v := (-4)) dX6_preceding_29 rfl ?_
    refine j_iret dX6_preceding_31 rfl rfl ?_
    exact ⟨by rw [h], rfl⟩
  · have h := h.2 hc2
    refine j_aload_n dX6_preceding_13 rfl ?_
    refine j_getr dX6_preceding_14 fX6_32 rfl rfl ?_
    refine j_aload_n dX6_preceding_17 rfl ?_
    refine j_getr dX6_preceding_18 fX6_9 rfl rfl ?_
    refine j_iload_n dX6_preceding_21 rfl ?_
    obtain ⟨j3, ej3, lj3, h⟩ := h
    refine j_iald dX6_preceding_22 rfl (zin ej3 lj3 (by decide)) ?_
    rw [zcl ej3 lj3 (by decide)]
    obtain ⟨j4, ej4, lj4, h⟩ := h
    refine j_aald (r := (12 + j4)) 4 (by decide) dX6_preceding_23 rfl (zin ej4 lj4 (by decide)) (by rw [zcl ej4 lj4 (by decide)]; exact if_pos lj4) ?_
    refine j_iload_n dX6_preceding_24 rfl ?_
    obtain ⟨j5, ej5, lj5, h⟩ := h
    refine j_iald dX6_preceding_25 (sx_order lj4) (zin ej5 lj5 (by decide)) ?_
    rw [zcl ej5 lj5 (by decide)]
    refine j_goto (tgt := 31) dX6_preceding_26 (by decide) ?_
    refine j_iret dX6_preceding_31 rfl rfl ?_
    exact ⟨by rw [h], rfl⟩
abbrev LX7_append_19 (P : Int32 → zX → Prop) (M : zX) (x1 : Int64) (x3 : Int32) : Prop := zJ SX 0 mX7_append (zRi P) 19 [some (.ref 25), some (.long x1), none, some (.int x3)] [] M
theorem eX7_append (P : Int32 → zX → Prop) (X : zX) (a1 : Int64) (h : ((((X 25 1) + 8) ≤ 200) → (LX7_append_19 P X a1 56)) ∧ ((¬ (((X 25 1) + 8) ≤ 200)) → (P (-3) X))) : zPi SX 0 mX7_append [.ref 25, .long a1] X P := by
  refine zP_in [some (.ref 25), some (.long a1), none, none] ⟨rfl, rfl, trivial⟩ (by decide) (Nat.le_of_ble_eq_true rfl) ?_
  refine j_aload_n dX7_append_0 rfl ?_
  refine j_getf dX7_append_1 fX7_15 rfl rfl ?_
  refine j_bipush (v := 8) dX7_append_4 rfl ?_
  refine j_iadd dX7_append_6 ?_
  refine j_sipush (v := 200) dX7_append_7 rfl ?_
  refine j_ic_le (tgt := 16) dX7_append_10 (by decide) (fun hc1 => ?_) (fun hc1 => ?_)
  · have h := h.1 hc1
    refine j_bipush (v := 56) dX7_append_16 rfl ?_
    refine j_istore_n (L2 := [some (.ref 25), some (.long a1), none, some (.int 56)]) dX7_append_18 (by decide) (zno rfl) rfl ?_
    exact zJw h ⟨rfl, rfl, rfl, trivial⟩
  · have h := h.2 hc1
    refine j_bipush (v := (-3)) dX7_append_13 rfl ?_
    refine j_iret dX7_append_15 rfl rfl ?_
    exact ⟨_, rfl, h⟩
theorem bX7_append_19 (P : Int32 → zX → Prop) (M : zX) (x1 : Int64) (x3 : Int32) (h : ((x3 < 0) → (P (M 25 1) M)) ∧ ((¬ (x3 < 0)) → (∃ j3 : Nat, (M 25 1) = nI j3 ∧ j3 < 200 ∧ (LX7_append_19 P (zs (zs M 26 j3 (vp_nar .byte (((x1 >>> (x3.toInt64 &&& 63)).toInt32).toInt8.toInt32))) 25 1 ((M 25 1) + 1)) x1 (x3 + (-8)))))) : LX7_append_19 P M x1 x3 := by
  refine j_iload_n dX7_append_19 rfl ?_
  refine j_if_lt (tgt := 53) dX7_append_20 (by decide) (fun hc2 => ?_) (fun hc2 => ?_)
  · have h := h.1 hc2
    refine j_aload_n dX7_append_53 rfl ?_
    refine j_getf dX7_append_54 fX7_15 rfl rfl ?_
    refine j_iret dX7_append_57 rfl rfl ?_
    exact ⟨_, rfl, h⟩
  · have h := h.2 hc2
    refine j_aload_n dX7_append_23 rfl ?_
    refine j_getr dX7_append_24 fX7_11 rfl rfl ?_
    refine j_aload_n dX7_append_27 rfl ?_
    refine j_getf dX7_append_28 fX7_15 rfl rfl ?_
    refine j_lload_n dX7_append_31 rfl ?_
    refine j_iload_n dX7_append_32 rfl ?_
    refine j_lshr dX7_append_33 ?_
    refine j_l2i dX7_append_34 ?_
    refine j_i2b dX7_append_35 ?_
    obtain ⟨j3, ej3, lj3, h⟩ := h
    refine j_bast dX7_append_36 rfl (zin ej3 lj3 (by decide)) ?_
    rw [zcl ej3 lj3 (by decide)]
    refine j_aload_n dX7_append_37 rfl ?_
    refine j_dup dX7_append_38 rfl ?_
    refine j_getv (v := .int (M 25 1)) dX7_append_39 fX7_15 rfl rfl (fun _ => rfl) ?_
    refine j_iconst (v := 1) dX7_append_42 rfl ?_
    refine j_iadd dX7_append_43 ?_
    refine j_putf dX7_append_44 fX7_15 pX7_1 rfl rfl ?_
    refine j_iinc (v := (x3 + (-8))) (L2 := [some (.ref 25), some (.long x1), none, some (.int (x3 + (-8)))]) dX7_append_47 rfl rfl (by decide) (zno rfl) rfl ?_
    refine j_goto (tgt := 19) dX7_append_50 (by decide) ?_
    exact zJw h ⟨rfl, rfl, rfl, trivial⟩
theorem eX7_shorten (P : Int32 → zX → Prop) (X : zX) (a1 : Int32) (h : ((a1 < 0) → (P (-1) X)) ∧ ((¬ (a1 < 0)) → (((a1 ≤ (X 25 1)) → (P (X 25 1) (zs X 25 1 a1))) ∧ ((¬ (a1 ≤ (X 25 1))) → (P (-1) X))))) : zPi SX 0 mX7_shorten [.ref 25, .int a1] X P := by
  refine zP_in [some (.ref 25), some (.int a1), none] ⟨rfl, rfl, trivial⟩ (by decide) (Nat.le_of_ble_eq_true rfl) ?_
  refine j_iload_n dX7_shorten_0 rfl ?_
  refine j_if_lt (tgt := 12) dX7_shorten_1 (by decide) (fun hc1 => ?_) (fun hc1 => ?_)
  · have h := h.1 hc1
    refine j_iconst (v := (-1)) dX7_shorten_12 rfl ?_
    refine j_iret dX7_shorten_13 rfl rfl ?_
    exact ⟨_, rfl, h⟩
  · have h := h.2 hc1
    refine j_iload_n dX7_shorten_4 rfl ?_
    refine j_aload_n dX7_shorten_5 rfl ?_
    refine j_getf dX7_shorten_6 fX7_15 rfl rfl ?_
    refine j_ic_le (tgt := 14) dX7_shorten_9 (by decide) (fun hc2 => ?_) (fun hc2 => ?_)
    · have h := h.1 hc2
      refine j_aload_n dX7_shorten_14 rfl ?_
      refine j_getf dX7_shorten_15 fX7_15 rfl rfl ?_
      refine j_istore_n (L2 := [some (.ref 25), some (.int a1), some (.int (X 25 1))]) dX7_shorten_18 (by decide) (zno rfl) rfl ?_
      refine j_aload_n dX7_shorten_19 rfl ?_
      refine j_iload_n dX7_shorten_20 rfl ?_
      refine j_putf dX7_shorten_21 fX7_15 pX7_1 rfl rfl ?_
      refine j_iload_n dX7_shorten_24 rfl ?_
      refine j_iret dX7_shorten_25 rfl rfl ?_
      exact ⟨_, rfl, h⟩
    · have h := h.2 hc2
      refine j_iconst (v := (-1)) dX7_shorten_12 rfl ?_
      refine j_iret dX7_shorten_13 rfl rfl ?_
      exact ⟨_, rfl, h⟩
theorem eX7_isLetter (v : Int32) (X : zX) (a1 : Int32) (h : ∃ j1 : Nat, a1 = nI j1 ∧ j1 < 200 ∧ ((((X 26 j1) < 97) → (0 = v)) ∧ ((¬ ((X 26 j1) < 97)) → (∃ j3 : Nat, a1 = nI j3 ∧ j3 < 200 ∧ (((122 < (X 26 j3)) → (0 = v)) ∧ ((¬ (122 < (X 26 j3))) → (1 = v))))))) : zPf SX 0 mX7_isLetter [.ref 25, .int a1] X v := by
  refine zP_in [some (.ref 25), some (.int a1)] ⟨rfl, rfl, trivial⟩ (by decide) (Nat.le_of_ble_eq_true rfl) ?_
  refine j_aload_n dX7_isLetter_0 rfl ?_
  refine j_getr dX7_isLetter_1 fX7_11 rfl rfl ?_
  refine j_iload_n dX7_isLetter_4 rfl ?_
  obtain ⟨j1, ej1, lj1, h⟩ := h
  refine j_bald dX7_isLetter_5 rfl (zin ej1 lj1 (by decide)) ?_
  rw [zcl ej1 lj1 (by decide)]
  refine j_bipush (v := 97) dX7_isLetter_6 rfl ?_
  refine j_ic_lt (tgt := 26) dX7_isLetter_8 (by decide) (fun hc2 => ?_) (fun hc2 => ?_)
  · have h := h.1 hc2
    refine j_iconst (v := 0) dX7_isLetter_26 rfl ?_
    refine j_iret dX7_isLetter_27 rfl (by decide) ?_
    exact ⟨by rw [h], rfl⟩
  · have h := h.2 hc2
    refine j_aload_n dX7_isLetter_11 rfl ?_
    refine j_getr dX7_isLetter_12 fX7_11 rfl rfl ?_
    refine j_iload_n dX7_isLetter_15 rfl ?_
    obtain ⟨j3, ej3, lj3, h⟩ := h
    refine j_bald dX7_isLetter_16 rfl (zin ej3 lj3 (by decide)) ?_
    rw [zcl ej3 lj3 (by decide)]
    refine j_bipush (v := 122) dX7_isLetter_17 rfl ?_
    refine j_ic_gt (tgt := 26) dX7_isLetter_19 (by decide) (fun hc4 => ?_) (fun hc4 => ?_)
    · have h := h.1 hc4
      refine j_iconst (v := 0) dX7_isLetter_26 rfl ?_
      refine j_iret dX7_isLetter_27 rfl (by decide) ?_
      exact ⟨by rw [h], rfl⟩
    · have h := h.2 hc4
      refine j_iconst (v := 1) dX7_isLetter_22 rfl ?_
      refine j_goto (tgt := 27) dX7_isLetter_23 (by decide) ?_
      refine j_iret dX7_isLetter_27 rfl (by decide) ?_
      exact ⟨by rw [h], rfl⟩
theorem eX7_isFigure (v : Int32) (X : zX) (a1 : Int32) (h : ∃ j1 : Nat, a1 = nI j1 ∧ j1 < 200 ∧ ((((X 26 j1) < 48) → (0 = v)) ∧ ((¬ ((X 26 j1) < 48)) → (∃ j3 : Nat, a1 = nI j3 ∧ j3 < 200 ∧ (((57 < (X 26 j3)) → (0 = v)) ∧ ((¬ (57 < (X 26 j3))) → (1 = v))))))) : zPf SX 0 mX7_isFigure [.ref 25, .int a1] X v := by
  refine zP_in [some (.ref 25), some (.int a1)] ⟨rfl, rfl, trivial⟩ (by decide) (Nat.le_of_ble_eq_true rfl) ?_
  refine j_aload_n dX7_isFigure_0 rfl ?_
  refine j_getr dX7_isFigure_1 fX7_11 rfl rfl ?_
  refine j_iload_n dX7_isFigure_4 rfl ?_
  obtain ⟨j1, ej1, lj1, h⟩ := h
  refine j_bald dX7_isFigure_5 rfl (zin ej1 lj1 (by decide)) ?_
  rw [zcl ej1 lj1 (by decide)]
  refine j_bipush (v := 48) dX7_isFigure_6 rfl ?_
  refine j_ic_lt (tgt := 26) dX7_isFigure_8 (by decide) (fun hc2 => ?_) (fun hc2 => ?_)
  · have h := h.1 hc2
    refine j_iconst (v := 0) dX7_isFigure_26 rfl ?_
    refine j_iret dX7_isFigure_27 rfl (by decide) ?_
    exact ⟨by rw [h], rfl⟩
  · have h := h.2 hc2
    refine j_aload_n dX7_isFigure_11 rfl ?_
    refine j_getr dX7_isFigure_12 fX7_11 rfl rfl ?_
    refine j_iload_n dX7_isFigure_15 rfl ?_
    obtain ⟨j3, ej3, lj3, h⟩ := h
    refine j_bald dX7_isFigure_16 rfl (zin ej3 lj3 (by decide)) ?_
    rw [zcl ej3 lj3 (by decide)]
    refine j_bipush (v := 57) dX7_isFigure_17 rfl ?_
    refine j_ic_gt (tgt := 26) dX7_isFigure_19 (by decide) (fun hc4 => ?_) (fun hc4 => ?_)
    · have h := h.1 hc4
      refine j_iconst (v := 0) dX7_isFigure_26 rfl ?_
      refine j_iret dX7_isFigure_27 rfl (by decide) ?_
      exact ⟨by rw [h], rfl⟩
    · have h := h.2 hc4
      refine j_iconst (v := 1) dX7_isFigure_22 rfl ?_
      refine j_goto (tgt := 27) dX7_isFigure_23 (by decide) ?_
      refine j_iret dX7_isFigure_27 rfl (by decide) ?_
      exact ⟨by rw [h], rfl⟩
abbrev LX8_sweep_35 (P : zX → Prop) (M : zX) (x5 : Int32) (x6 : Int32) : Prop := zJ SX 3 mX8_sweep (zRw P) 35 [some (.ref 28), none, none, none, none, some (.int x5), some (.int x6)] [] M
theorem eX8_sweep (P : zX → Prop) (X : zX) (a1 : Int32) (a2 : Int32) (a3 : Int32) (a4 : Int32) (h : ∃ Qr1 : zX → Prop, zPw SX 0 mX8_clear [.ref 28] (zs (zs (zs X 28 4 a2) 28 5 a3) 28 6 a4) Qr1 ∧ ∀ M2 : zX, Qr1 M2 → (∃ j3 : Nat, 0 = nI j3 ∧ j3 < 10 ∧ (∃ j4 : Nat, a1 = nI j4 ∧ j4 < 12 ∧ (LX8_sweep_35 P (zs M2 (30 + j3) j4 0) 0 0)))) : zPw SX 3 mX8_sweep [.ref 28, .int a1, .int a2, .int a3, .int a4] X P := by
  refine zP_in [some (.ref 28), some (.int a1), some (.int a2), some (.int a3), some (.int a4), none, none] ⟨rfl, rfl, rfl, rfl, rfl, trivial⟩ (by decide) (Nat.le_of_ble_eq_true rfl) ?_
  refine j_aload_n dX8_sweep_0 rfl ?_
  refine j_iload_n dX8_sweep_1 rfl ?_
  refine j_putf dX8_sweep_2 fX8_27 pX8_4 rfl rfl ?_
  refine j_aload_n dX8_sweep_5 rfl ?_
  refine j_iload_n dX8_sweep_6 rfl ?_
  refine j_putf dX8_sweep_7 fX8_31 pX8_5 rfl rfl ?_
  refine j_aload_n dX8_sweep_10 rfl ?_
  refine j_iload dX8_sweep_11 rfl ?_
  refine j_putf dX8_sweep_13 fX8_34 pX8_6 rfl rfl ?_
  refine j_aload_n dX8_sweep_16 rfl ?_
  obtain ⟨_, hc, h⟩ := h
  refine j_cvw (lc := 0) (as := []) dX8_sweep_17 iX8_clear vX8_clear kX8_37 (by decide) rfl rfl rfl rfl (Nat.zero_le _) hc (fun M2 hr => ?_)
  have h := h _ hr
  refine j_aload_n dX8_sweep_20 rfl ?_
  refine j_getr dX8_sweep_21 fX8_13 rfl rfl ?_
  refine j_iconst (v := 0) dX8_sweep_24 rfl ?_
  obtain ⟨j3, ej3, lj3, h⟩ := h
  refine j_aald (r := (30 + j3)) 4 (by decide) dX8_sweep_25 rfl (zin ej3 lj3 (by decide)) (by rw [zcl ej3 lj3 (by decide)]; exact if_pos lj3) ?_
  refine j_iload_n dX8_sweep_26 rfl ?_
  refine j_iconst (v := 0) dX8_sweep_27 rfl ?_
  obtain ⟨j4, ej4, lj4, h⟩ := h
  refine j_iast dX8_sweep_28 (sx_coming lj3) (zin ej4 lj4 (by decide)) ?_
  rw [zcl ej4 lj4 (by decide)]
  refine j_iconst (v := 0) dX8_sweep_29 rfl ?_
  refine j_istore (L2 := [some (.ref 28), some (.int a1), some (.int a2), some (.int a3), some (.int a4), some (.int 0), none]) dX8_sweep_30 (by decide) (zno rfl) rfl ?_
  refine j_iconst (v := 0) dX8_sweep_32 rfl ?_
  refine j_istore (L2 := [some (.ref 28), some (.int a1), some (.int a2), some (.int a3), some (.int a4), some (.int 0), some (.int 0)]) dX8_sweep_33 (by decide) (zno rfl) rfl ?_
  exact zJw h ⟨rfl, rfl, rfl, trivial⟩
theorem bX8_sweep_35 (P : zX → Prop) (M : zX) (x5 : Int32) (x6 : Int32) (h : ((2520 ≤ x6) → (P M)) ∧ ((¬ (2520 ≤ x6)) → (((10 ≤ x5) → (P M)) ∧ ((¬ (10 ≤ x5)) → (∃ Qr7 : Int32 → zX → Prop, zPi SX 2 mX8_arrive [.ref 28, .int x6] M Qr7 ∧ ∀ (r7 : Int32) (M8 : zX), Qr7 r7 M8 → (((r7 = 0) → (LX8_sweep_35 P M8 (x5 + 1) (x6 + 1))) ∧ ((¬ (r7 = 0)) → (LX8_sweep_35 P M8 0 (x6 + 1))))))))) : LX8_sweep_35 P M x5 x6 := by
  refine j_iload dX8_sweep_35 rfl ?_
  refine j_sipush (v := 2520) dX8_sweep_37 rfl ?_
  refine j_ic_ge (tgt := 75) dX8_sweep_40 (by decide) (fun hc5 => ?_) (fun hc5 => ?_)
  · have h := h.1 hc5
    refine j_vret dX8_sweep_75 rfl ?_
    exact ⟨rfl, h⟩
  · have h := h.2 hc5
    refine j_iload dX8_sweep_43 rfl ?_
    refine j_bipush (v := 10) dX8_sweep_45 rfl ?_
    refine j_ic_ge (tgt := 75) dX8_sweep_47 (by decide) (fun hc6 => ?_) (fun hc6 => ?_)
    · have h := h.1 hc6
      refine j_vret dX8_sweep_75 rfl ?_
      exact ⟨rfl, h⟩
    · have h := h.2 hc6
      refine j_aload_n dX8_sweep_50 rfl ?_
      refine j_iload dX8_sweep_51 rfl ?_
      obtain ⟨_, hc, h⟩ := h
      refine j_cvi (lc := 2) (as := [.int x6]) dX8_sweep_53 iX8_arrive vX8_arrive kX8_40 (by decide) rfl rfl rfl rfl (Nat.zero_le _) hc (fun r7 M8 hr => ?_)
      have h := h _ _ hr
      refine j_if_eq (tgt := 63) dX8_sweep_56 (by decide) (fun hc9 => ?_) (fun hc9 => ?_)
      · have h := h.1 hc9
        refine j_iload dX8_sweep_63 rfl ?_
        refine j_iconst (v := 1) dX8_sweep_65 rfl ?_
        refine j_iadd dX8_sweep_66 ?_
        refine j_istore (L2 := [some (.ref 28), none, none, none, none, some (.int (x5 + 1)), some (.int x6)]) dX8_sweep_67 (by decide) (zno rfl) rfl ?_
        refine j_iinc (v := (x6 + 1)) (L2 := [some (.ref 28), none, none, none, none, some (.int (x5 + 1)), some (.int (x6 + 1))]) dX8_sweep_69 rfl rfl (by decide) (zno rfl) rfl ?_
        refine j_goto (tgt := 35) dX8_sweep_72 (by decide) ?_
        exact zJw h ⟨rfl, rfl, rfl, trivial⟩
      · have h := h.2 hc9
        refine j_iconst (v := 0) dX8_sweep_59 rfl ?_
        refine j_goto (tgt := 67) dX8_sweep_60 (by decide) ?_
        refine j_istore (L2 := [some (.ref 28), none, none, none, none, some (.int 0), some (.int x6)]) dX8_sweep_67 (by decide) (zno rfl) rfl ?_
        refine j_iinc (v := (x6 + 1)) (L2 := [some (.ref 28), none, none, none, none, some (.int 0), some (.int (x6 + 1))]) dX8_sweep_69 rfl rfl (by decide) (zno rfl) rfl ?_
        refine j_goto (tgt := 35) dX8_sweep_72 (by decide) ?_
        exact zJw h ⟨rfl, rfl, rfl, trivial⟩
abbrev LX8_clear_2 (P : zX → Prop) (M : zX) (x1 : Int32) : Prop := zJ SX 0 mX8_clear (zRw P) 2 [some (.ref 28), some (.int x1), none] [] M
abbrev LX8_clear_26 (P : zX → Prop) (M : zX) (x1 : Int32) (x2 : Int32) : Prop := zJ SX 0 mX8_clear (zRw P) 26 [some (.ref 28), some (.int x1), some (.int x2)] [] M
theorem eX8_clear (P : zX → Prop) (X : zX)  (h : LX8_clear_2 P X 0) : zPw SX 0 mX8_clear [.ref 28] X P := by
  refine zP_in [some (.ref 28), none, none] ⟨rfl, trivial⟩ (by decide) (Nat.le_of_ble_eq_true rfl) ?_
  refine j_iconst (v := 0) dX8_clear_0 rfl ?_
  refine j_istore_n (L2 := [some (.ref 28), some (.int 0), none]) dX8_clear_1 (by decide) (zno rfl) rfl ?_
  exact zJw h ⟨rfl, rfl, trivial⟩
theorem bX8_clear_2 (P : zX → Prop) (M : zX) (x1 : Int32) (h : ((12 ≤ x1) → (P M)) ∧ ((¬ (12 ≤ x1)) → (∃ j2 : Nat, x1 = nI j2 ∧ j2 < 12 ∧ (∃ j3 : Nat, x1 = nI j3 ∧ j3 < 12 ∧ (LX8_clear_26 P (zs (zs M 40 j2 21) 41 j3 (-4)) x1 0))))) : LX8_clear_2 P M x1 := by
  refine j_iload_n dX8_clear_2 rfl ?_
  refine j_bipush (v := 12) dX8_clear_3 rfl ?_
  refine j_ic_ge (tgt := 54) dX8_clear_5 (by decide) (fun hc1 => ?_) (fun hc1 => ?_)
  · have h := h.1 hc1
    refine j_vret dX8_clear_54 rfl ?_
    exact ⟨rfl, h⟩
  · have h := h.2 hc1
    refine j_aload_n dX8_clear_8 rfl ?_
    refine j_getr dX8_clear_9 fX8_16 rfl rfl ?_
    refine j_iload_n dX8_clear_12 rfl ?_
    refine j_bipush (v := 21) dX8_clear_13 rfl ?_
    obtain ⟨j2, ej2, lj2, h⟩ := h
    refine j_iast dX8_clear_15 rfl (zin ej2 lj2 (by decide)) ?_
    rw [zcl ej2 lj2 (by decide)]
    refine j_aload_n dX8_clear_16 rfl ?_
    refine j_getr dX8_clear_17 fX8_20 rfl rfl ?_
    refine j_iload_n dX8_clear_20 rfl ?_
    refine j_bipush (v := (-4)) dX8_clear_21 rfl ?_
    obtain ⟨j3, ej3, lj3, h⟩ := h
    refine j_iast dX8_clear_23 rfl (zin ej3 lj3 (by decide)) ?_
    rw [zcl ej3 lj3 (by decide)]
    refine j_iconst (v := 0) dX8_clear_24 rfl ?_
    refine j_istore_n (L2 := [some (.ref 28), some (.int x1), some (.int 0)]) dX8_clear_25 (by decide) (zno rfl) rfl ?_
    exact zJw h ⟨rfl, rfl, rfl, trivial⟩
theorem bX8_clear_26 (P : zX → Prop) (M : zX) (x1 : Int32) (x2 : Int32) (h : ((10 ≤ x2) → (LX8_clear_2 P M (x1 + 1))) ∧ ((¬ (10 ≤ x2)) → (∃ j5 : Nat, x2 = nI j5 ∧ j5 < 10 ∧ (∃ j6 : Nat, x1 = nI j6 ∧ j6 < 12 ∧ (LX8_clear_26 P (zs M (30 + j5) j6 21) x1 (x2 + 1)))))) : LX8_clear_26 P M x1 x2 := by
  refine j_iload_n dX8_clear_26 rfl ?_
  refine j_bipush (v := 10) dX8_clear_27 rfl ?_
  refine j_ic_ge (tgt := 48) dX8_clear_29 (by decide) (fun hc4 => ?_) (fun hc4 => ?_)
  · have h := h.1 hc4
    refine j_iinc (v := (x1 + 1)) (L2 := [some (.ref 28), some (.int (x1 + 1)), some (.int x2)]) dX8_clear_48 rfl rfl (by decide) (zno rfl) rfl ?_
    refine j_goto (tgt := 2) dX8_clear_51 (by decide) ?_
    exact zJw h ⟨rfl, rfl, trivial⟩
  · have h := h.2 hc4
    refine j_aload_n dX8_clear_32 rfl ?_
    refine j_getr dX8_clear_33 fX8_13 rfl rfl ?_
    refine j_iload_n dX8_clear_36 rfl ?_
    obtain ⟨j5, ej5, lj5, h⟩ := h
    refine j_aald (r := (30 + j5)) 4 (by decide) dX8_clear_37 rfl (zin ej5 lj5 (by decide)) (by rw [zcl ej5 lj5 (by decide)]; exact if_pos lj5) ?_
    refine j_iload_n dX8_clear_38 rfl ?_
    refine j_bipush (v := 21) dX8_clear_39 rfl ?_
    obtain ⟨j6, ej6, lj6, h⟩ := h
    refine j_iast dX8_clear_41 (sx_coming lj5) (zin ej6 lj6 (by decide)) ?_
    rw [zcl ej6 lj6 (by decide)]
    refine j_iinc (v := (x2 + 1)) (L2 := [some (.ref 28), some (.int x1), some (.int (x2 + 1))]) dX8_clear_42 rfl rfl (by decide) (zno rfl) rfl ?_
    refine j_goto (tgt := 26) dX8_clear_45 (by decide) ?_
    exact zJw h ⟨rfl, rfl, rfl, trivial⟩
abbrev LX8_arrive_15 (P : Int32 → zX → Prop) (M : zX) (x1 : Int32) (x2 : Int32) (n3 : Nat) (x4 : Int32) : Prop := zJ SX 2 mX8_arrive (zRi P) 15 [some (.ref 28), some (.int x1), some (.int x2), some (.ref (30 + n3)), some (.int x4), none] [] M
theorem eX8_arrive (P : Int32 → zX → Prop) (X : zX) (a1 : Int32) (h : ∃ j1 : Nat, (a1 - a1 / 10 * 10) = nI j1 ∧ j1 < 10 ∧ (LX8_arrive_15 P X a1 0 j1 0)) : zPi SX 2 mX8_arrive [.ref 28, .int a1] X P := by
  refine zP_in [some (.ref 28), some (.int a1), none, none, none, none] ⟨rfl, rfl, trivial⟩ (by decide) (Nat.le_of_ble_eq_true rfl) ?_
  refine j_iconst (v := 0) dX8_arrive_0 rfl ?_
  refine j_istore_n (L2 := [some (.ref 28), some (.int a1), some (.int 0), none, none, none]) dX8_arrive_1 (by decide) (zno rfl) rfl ?_
  refine j_aload_n dX8_arrive_2 rfl ?_
  refine j_getr dX8_arrive_3 fX8_13 rfl rfl ?_
  refine j_iload_n dX8_arrive_6 rfl ?_
  refine j_bipush (v := 10) dX8_arrive_7 rfl ?_
  refine j_irem dX8_arrive_9 (by decide) ?_
  obtain ⟨j1, ej1, lj1, h⟩ := h
  refine j_aald (r := (30 + j1)) 4 (by decide) dX8_arrive_10 rfl (zin ej1 lj1 (by decide)) (by rw [zcl ej1 lj1 (by decide)]; exact if_pos lj1) ?_
  refine j_astore_n (L2 := [some (.ref 28), some (.int a1), some (.int 0), some (.ref (30 + j1)), none, none]) dX8_arrive_11 (by decide) (zno rfl) rfl ?_
  refine j_iconst (v := 0) dX8_arrive_12 rfl ?_
  refine j_istore (L2 := [some (.ref 28), some (.int a1), some (.int 0), some (.ref (30 + j1)), some (.int 0), none]) dX8_arrive_13 (by decide) (zno rfl) rfl ?_
  exact zJw h ⟨rfl, rfl, rfl, rfl, rfl, trivial⟩
theorem bX8_arrive_15 (P : Int32 → zX → Prop) (M : zX) (x1 : Int32) (x2 : Int32) (n3 : Nat) (x4 : Int32) (hn3 : n3 < 10) (h : ((12 ≤ x4) → (narrow .boolean (.int x2) = .int x2 ∧ P x2 M)) ∧ ((¬ (12 ≤ x4)) → (∃ j3 : Nat, x4 = nI j3 ∧ j3 < 12 ∧ (∃ j4 : Nat, x4 = nI j4 ∧ j4 < 12 ∧ (∃ j5 : Nat, x4 = nI j5 ∧ j5 < 12 ∧ ((((M (30 + n3) j3) < ((zs M (30 + n3) j4 21) 40 j5)) → (∃ j7 : Nat, x4 = nI j7 ∧ j7 < 12 ∧ (∃ j8 : Nat, x4 = nI j8 ∧ j8 < 12 ∧ (((¬ ((zs M (30 + n3) j4 21) 41 j8) = (-4)) → (∃ Qr10 : zX → Prop, zPw SX 1 mX8_setOut [.ref 28, .int x4, .int x1, .int (M (30 + n3) j3)] (zs (zs M (30 + n3) j4 21) 40 j7 (M (30 + n3) j3)) Qr10 ∧ ∀ M11 : zX, Qr10 M11 → (LX8_arrive_15 P M11 x1 1 n3 (x4 + 1)))) ∧ ((((zs M (30 + n3) j4 21) 41 j8) = (-4)) → (∃ j12 : Nat, x4 = nI j12 ∧ j12 < 12 ∧ (∃ Qr13 : zX → Prop, zPw SX 1 mX8_setOut [.ref 28, .int x4, .int x1, .int (M (30 + n3) j3)] (zs (zs (zs M (30 + n3) j4 21) 40 j7 (M (30 + n3) j3)) 41 j12 x1) Qr13 ∧ ∀ M14 : zX, Qr13 M14 → (LX8_arrive_15 P M14 x1 1 n3 (x4 + 1))))))))) ∧ ((¬ ((M (30 + n3) j3) < ((zs M (30 + n3) j4 21) 40 j5))) → (LX8_arrive_15 P (zs M (30 + n3) j4 21) x1 x2 n3 (x4 + 1))))))))) : LX8_arrive_15 P M x1 x2 n3 x4 := by
  refine j_iload dX8_arrive_15 rfl ?_
  refine j_bipush (v := 12) dX8_arrive_17 rfl ?_
  refine j_ic_ge (tgt := 95) dX8_arrive_19 (by decide) (fun hc2 => ?_) (fun hc2 => ?_)
  · have h := h.1 hc2
    refine j_iload_n dX8_arrive_95 rfl ?_
    refine j_iret (ty := .boolean) dX8_arrive_96 rfl h.1 ?_
    have h := h.2
    exact ⟨_, rfl, h⟩
  · have h := h.2 hc2
    refine j_aload_n dX8_arrive_22 rfl ?_
    refine j_iload dX8_arrive_23 rfl ?_
    obtain ⟨j3, ej3, lj3, h⟩ := h
    refine j_iald dX8_arrive_25 (sx_coming hn3) (zin ej3 lj3 (by decide)) ?_
    rw [zcl ej3 lj3 (by decide)]
    refine j_istore (L2 := [some (.ref 28), some (.int x1), some (.int x2), some (.ref (30 + n3)), some (.int x4), some (.int (M (30 + n3) j3))]) dX8_arrive_26 (by decide) (zno rfl) rfl ?_
    refine j_aload_n dX8_arrive_28 rfl ?_
    refine j_iload dX8_arrive_29 rfl ?_
    refine j_bipush (v := 21) dX8_arrive_31 rfl ?_
    obtain ⟨j4, ej4, lj4, h⟩ := h
    refine j_iast dX8_arrive_33 (sx_coming hn3) (zin ej4 lj4 (by decide)) ?_
    rw [zcl ej4 lj4 (by decide)]
    refine j_iload dX8_arrive_34 rfl ?_
    refine j_aload_n dX8_arrive_36 rfl ?_
    refine j_getr dX8_arrive_37 fX8_16 rfl rfl ?_
    refine j_iload dX8_arrive_40 rfl ?_
    obtain ⟨j5, ej5, lj5, h⟩ := h
    refine j_iald dX8_arrive_42 rfl (zin ej5 lj5 (by decide)) ?_
    rw [zcl ej5 lj5 (by decide)]
    refine j_ic_lt (tgt := 49) dX8_arrive_43 (by decide) (fun hc6 => ?_) (fun hc6 => ?_)
    · have h := h.1 hc6
      refine j_iconst (v := 1) dX8_arrive_49 rfl ?_
      refine j_istore_n (L2 := [some (.ref 28), some (.int x1), some (.int 1), some (.ref (30 + n3)), some (.int x4), some (.int (M (30 + n3) j3))]) dX8_arrive_50 (by decide) (zno rfl) rfl ?_
      refine j_aload_n dX8_arrive_51 rfl ?_
      refine j_getr dX8_arrive_52 fX8_16 rfl rfl ?_
      refine j_iload dX8_arrive_55 rfl ?_
      refine j_iload dX8_arrive_57 rfl ?_
      obtain ⟨j7, ej7, lj7, h⟩ := h
      refine j_iast dX8_arrive_59 rfl (zin ej7 lj7 (by decide)) ?_
      rw [zcl ej7 lj7 (by decide)]
      refine j_aload_n dX8_arrive_60 rfl ?_
      refine j_getr dX8_arrive_61 fX8_20 rfl rfl ?_
      refine j_iload dX8_arrive_64 rfl ?_
      obtain ⟨j8, ej8, lj8, h⟩ := h
      refine j_iald dX8_arrive_66 rfl (zin ej8 lj8 (by decide)) ?_
      rw [zcl ej8 lj8 (by decide)]
      refine zJ_top (v := ((zs M (30 + n3) j4 21) 41 j8)) rfl ?_
      refine j_bipush (v := (-4)) dX8_arrive_67 rfl ?_
      refine j_ic_ne (tgt := 80) dX8_arrive_69 (by decide) (fun hc9 => ?_) (fun hc9 => ?_)
      · have h := h.1 hc9
        refine j_aload_n dX8_arrive_80 rfl ?_
        refine j_iload dX8_arrive_81 rfl ?_
        refine j_iload_n dX8_arrive_83 rfl ?_
        refine j_iload dX8_arrive_84 rfl ?_
        obtain ⟨_, hc, h⟩ := h
        refine j_cvw (lc := 1) (as := [.int x4, .int x1, .int (M (30 + n3) j3)]) dX8_arrive_86 iX8_setOut vX8_setOut kX8_44 (by decide) rfl rfl rfl rfl (Nat.zero_le _) hc (fun M11 hr => ?_)
        have h := h _ hr
        refine j_iinc (v := (x4 + 1)) (L2 := [some (.ref 28), some (.int x1), some (.int 1), some (.ref (30 + n3)), some (.int (x4 + 1)), some (.int (M (30 + n3) j3))]) dX8_arrive_89 rfl rfl (by decide) (zno rfl) rfl ?_
        refine j_goto (tgt := 15) dX8_arrive_92 (by decide) ?_
        exact zJw h ⟨rfl, rfl, rfl, rfl, rfl, trivial⟩
      · have h := h.2 hc9
        refine j_aload_n dX8_arrive_72 rfl ?_
        refine j_getr dX8_arrive_73 fX8_20 rfl rfl ?_
        refine j_iload dX8_arrive_76 rfl ?_
        refine j_iload_n dX8_arrive_78 rfl ?_
        obtain ⟨j12, ej12, lj12, h⟩ := h
        refine j_iast dX8_arrive_79 rfl (zin ej12 lj12 (by decide)) ?_
        rw [zcl ej12 lj12 (by decide)]
        refine j_aload_n dX8_arrive_80 rfl ?_
        refine j_iload dX8_arrive_81 rfl ?_
        refine j_iload_n dX8_arrive_83 rfl ?_
        refine j_iload dX8_arrive_84 rfl ?_
        obtain ⟨_, hc, h⟩ := h
        refine j_cvw (lc := 1) (as := [.int x4, .int x1, .int (M (30 + n3) j3)]) dX8_arrive_86 iX8_setOut vX8_setOut kX8_44 (by decide) rfl rfl rfl rfl (Nat.zero_le _) hc (fun M14 hr => ?_)
        have h := h _ hr
        refine j_iinc (v := (x4 + 1)) (L2 := [some (.ref 28), some (.int x1), some (.int 1), some (.ref (30 + n3)), some (.int (x4 + 1)), some (.int (M (30 + n3) j3))]) dX8_arrive_89 rfl rfl (by decide) (zno rfl) rfl ?_
        refine j_goto (tgt := 15) dX8_arrive_92 (by decide) ?_
        exact zJw h ⟨rfl, rfl, rfl, rfl, rfl, trivial⟩
    · have h := h.2 hc6
      refine j_goto (tgt := 89) dX8_arrive_46 (by decide) ?_
      refine j_iinc (v := (x4 + 1)) (L2 := [some (.ref 28), some (.int x1), some (.int x2), some (.ref (30 + n3)), some (.int (x4 + 1)), some (.int (M (30 + n3) j3))]) dX8_arrive_89 rfl rfl (by decide) (zno rfl) rfl ?_
      refine j_goto (tgt := 15) dX8_arrive_92 (by decide) ?_
      exact zJw h ⟨rfl, rfl, rfl, rfl, rfl, trivial⟩
abbrev LX8_setOut_19 (P : zX → Prop) (M : zX) (x2 : Int32) (x3 : Int32) (x4 : Int32) (x5 : Int32) : Prop := zJ SX 1 mX8_setOut (zRw P) 19 [some (.ref 28), none, some (.int x2), some (.int x3), some (.int x4), some (.int x5), none, none] [] M
theorem eX8_setOut (P : zX → Prop) (X : zX) (a1 : Int32) (a2 : Int32) (a3 : Int32) (h : ∃ j1 : Nat, a1 = nI j1 ∧ j1 < 12 ∧ (LX8_setOut_19 P X a2 a3 ((X 18 j1) &&& (X 28 4)) 0)) : zPw SX 1 mX8_setOut [.ref 28, .int a1, .int a2, .int a3] X P := by
  refine zP_in [some (.ref 28), some (.int a1), some (.int a2), some (.int a3), none, none, none, none] ⟨rfl, rfl, rfl, rfl, trivial⟩ (by decide) (Nat.le_of_ble_eq_true rfl) ?_
  refine j_aload_n dX8_setOut_0 rfl ?_
  refine j_getr dX8_setOut_1 fX8_23 rfl rfl ?_
  refine j_getr dX8_setOut_4 fX8_48 rfl rfl ?_
  refine j_iload_n dX8_setOut_7 rfl ?_
  obtain ⟨j1, ej1, lj1, h⟩ := h
  refine j_iald dX8_setOut_8 rfl (zin ej1 lj1 (by decide)) ?_
  rw [zcl ej1 lj1 (by decide)]
  refine j_aload_n dX8_setOut_9 rfl ?_
  refine j_getf dX8_setOut_10 fX8_27 rfl rfl ?_
  refine j_iand dX8_setOut_13 ?_
  refine j_istore (L2 := [some (.ref 28), some (.int a1), some (.int a2), some (.int a3), some (.int ((X 18 j1) &&& (X 28 4))), none, none, none]) dX8_setOut_14 (by decide) (zno rfl) rfl ?_
  refine j_iconst (v := 0) dX8_setOut_16 rfl ?_
  refine j_istore (L2 := [some (.ref 28), some (.int a1), some (.int a2), some (.int a3), some (.int ((X 18 j1) &&& (X 28 4))), some (.int 0), none, none]) dX8_setOut_17 (by decide) (zno rfl) rfl ?_
  exact zJw h ⟨rfl, rfl, rfl, rfl, rfl, trivial⟩
theorem bX8_setOut_19 (P : zX → Prop) (M : zX) (x2 : Int32) (x3 : Int32) (x4 : Int32) (x5 : Int32) (h : (((M 4 10) ≤ x5) → (P M)) ∧ ((¬ ((M 4 10) ≤ x5)) → (((¬ ((zshr x4 x5) &&& 1) = 0) → (∃ r4 : Int32, zPf SX 0 mX6_following [.ref 4, .int x5] M r4 ∧ (((r4 = (-4)) → (∃ r6 : Int32, zPf SX 0 mX6_preceding [.ref 4, .int x5] M r6 ∧ (((r6 = (-4)) → (LX8_setOut_19 P M x2 x3 x4 (x5 + 1))) ∧ ((¬ (r6 = (-4))) → (∃ j8 : Nat, x5 = nI j8 ∧ j8 < 24 ∧ (∃ Qr9 : zX → Prop, zPw SX 0 mX8_step [.ref 28, .int r6, .int (M 8 j8), .int x2, .int x3] M Qr9 ∧ ∀ M10 : zX, Qr9 M10 → (LX8_setOut_19 P M10 x2 x3 x4 (x5 + 1)))))))) ∧ ((¬ (r4 = (-4))) → (∃ j11 : Nat, r4 = nI j11 ∧ j11 < 24 ∧ (∃ Qr12 : zX → Prop, zPw SX 0 mX8_step [.ref 28, .int r4, .int (M 8 j11), .int x2, .int x3] M Qr12 ∧ ∀ M13 : zX, Qr12 M13 → (∃ r14 : Int32, zPf SX 0 mX6_preceding [.ref 4, .int x5] M13 r14 ∧ (((r14 = (-4)) → (LX8_setOut_19 P M13 x2 x3 x4 (x5 + 1))) ∧ ((¬ (r14 = (-4))) → (∃ j16 : Nat, x5 = nI j16 ∧ j16 < 24 ∧ (∃ Qr17 : zX → Prop, zPw SX 0 mX8_step [.ref 28, .int r14, .int (M13 8 j16), .int x2, .int x3] M13 Qr17 ∧ ∀ M18 : zX, Qr17 M18 → (LX8_setOut_19 P M18 x2 x3 x4 (x5 + 1))))))))))))) ∧ ((((zshr x4 x5) &&& 1) = 0) → (LX8_setOut_19 P M x2 x3 x4 (x5 + 1)))))) : LX8_setOut_19 P M x2 x3 x4 x5 := by
  refine j_iload dX8_setOut_19 rfl ?_
  refine j_aload_n dX8_setOut_21 rfl ?_
  refine j_getr dX8_setOut_22 fX8_23 rfl rfl ?_
  refine j_getf dX8_setOut_25 fX8_53 rfl rfl ?_
  refine j_ic_ge (tgt := 122) dX8_setOut_28 (by decide) (fun hc2 => ?_) (fun hc2 => ?_)
  · have h := h.1 hc2
    refine j_vret dX8_setOut_122 rfl ?_
    exact ⟨rfl, h⟩
  · have h := h.2 hc2
    refine j_iload dX8_setOut_31 rfl ?_
    refine j_iload dX8_setOut_33 rfl ?_
    refine j_ishr dX8_setOut_35 ?_
    refine j_iconst (v := 1) dX8_setOut_36 rfl ?_
    refine j_iand dX8_setOut_37 ?_
    refine j_if_ne (tgt := 44) dX8_setOut_38 (by decide) (fun hc3 => ?_) (fun hc3 => ?_)
    · have h := h.1 hc3
      refine j_aload_n dX8_setOut_44 rfl ?_
      refine j_getr dX8_setOut_45 fX8_23 rfl rfl ?_
      refine j_iload dX8_setOut_48 rfl ?_
      obtain ⟨r4, hc, h⟩ := h
      refine j_cvf (lc := 0) (as := [.int x5]) dX8_setOut_50 iX6_following vX6_following kX8_56 (by decide) rfl rfl rfl rfl (Nat.zero_le _) hc ?_
      refine j_istore (L2 := [some (.ref 28), none, some (.int x2), some (.int x3), some (.int x4), some (.int x5), some (.int r4), none]) dX8_setOut_53 (by decide) (zno rfl) rfl ?_
      refine j_iload dX8_setOut_55 rfl ?_
      refine j_bipush (v := (-4)) dX8_setOut_57 rfl ?_
      refine j_ic_eq (tgt := 80) dX8_setOut_59 (by decide) (fun hc5 => ?_) (fun hc5 => ?_)
      · have h := h.1 hc5
        refine j_aload_n dX8_setOut_80 rfl ?_
        refine j_getr dX8_setOut_81 fX8_23 rfl rfl ?_
        refine j_iload dX8_setOut_84 rfl ?_
        obtain ⟨r6, hc, h⟩ := h
        refine j_cvf (lc := 0) (as := [.int x5]) dX8_setOut_86 iX6_preceding vX6_preceding kX8_67 (by decide) rfl rfl rfl rfl (Nat.zero_le _) hc ?_
        refine j_istore (L2 := [some (.ref 28), none, some (.int x2), some (.int x3), some (.int x4), some (.int x5), some (.int r4), some (.int r6)]) dX8_setOut_89 (by decide) (zno rfl) rfl ?_
        refine j_iload dX8_setOut_91 rfl ?_
        refine j_bipush (v := (-4)) dX8_setOut_93 rfl ?_
        refine j_ic_eq (tgt := 116) dX8_setOut_95 (by decide) (fun hc7 => ?_) (fun hc7 => ?_)
        · have h := h.1 hc7
          refine j_iinc (v := (x5 + 1)) (L2 := [some (.ref 28), none, some (.int x2), some (.int x3), some (.int x4), some (.int (x5 + 1)), some (.int r4), some (.int r6)]) dX8_setOut_116 rfl rfl (by decide) (zno rfl) rfl ?_
          refine j_goto (tgt := 19) dX8_setOut_119 (by decide) ?_
          exact zJw h ⟨rfl, rfl, rfl, rfl, rfl, trivial⟩
        · have h := h.2 hc7
          refine j_aload_n dX8_setOut_98 rfl ?_
          refine j_iload dX8_setOut_99 rfl ?_
          refine j_aload_n dX8_setOut_101 rfl ?_
          refine j_getr dX8_setOut_102 fX8_23 rfl rfl ?_
          refine j_getr dX8_setOut_105 fX8_60 rfl rfl ?_
          refine j_iload dX8_setOut_108 rfl ?_
          obtain ⟨j8, ej8, lj8, h⟩ := h
          refine j_iald dX8_setOut_110 rfl (zin ej8 lj8 (by decide)) ?_
          rw [zcl ej8 lj8 (by decide)]
          refine j_iload_n dX8_setOut_111 rfl ?_
          refine j_iload_n dX8_setOut_112 rfl ?_
          obtain ⟨_, hc, h⟩ := h
          refine j_cvw (lc := 0) (as := [.int r6, .int (M 8 j8), .int x2, .int x3]) dX8_setOut_113 iX8_step vX8_step kX8_63 (by decide) rfl rfl rfl rfl (Nat.zero_le _) hc (fun M10 hr => ?_)
          have h := h _ hr
          refine j_iinc (v := (x5 + 1)) (L2 := [some (.ref 28), none, some (.int x2), some (.int x3), some (.int x4), some (.int (x5 + 1)), some (.int r4), some (.int r6)]) dX8_setOut_116 rfl rfl (by decide) (zno rfl) rfl ?_
          refine j_goto (tgt := 19) dX8_setOut_119 (by decide) ?_
          exact zJw h ⟨rfl, rfl, rfl, rfl, rfl, trivial⟩
      · have h := h.2 hc5
        refine j_aload_n dX8_setOut_62 rfl ?_
        refine j_iload dX8_setOut_63 rfl ?_
        refine j_aload_n dX8_setOut_65 rfl ?_
        refine j_getr dX8_setOut_66 fX8_23 rfl rfl ?_
        refine j_getr dX8_setOut_69 fX8_60 rfl rfl ?_
        refine j_iload dX8_setOut_72 rfl ?_
        obtain ⟨j11, ej11, lj11, h⟩ := h
        refine j_iald dX8_setOut_74 rfl (zin ej11 lj11 (by decide)) ?_
        rw [zcl ej11 lj11 (by decide)]
        refine j_iload_n dX8_setOut_75 rfl ?_
        refine j_iload_n dX8_setOut_76 rfl ?_
        obtain ⟨_, hc, h⟩ := h
        refine j_cvw (lc := 0) (as := [.int r4, .int (M 8 j11), .int x2, .int x3]) dX8_setOut_77 iX8_step vX8_step kX8_63 (by decide) rfl rfl rfl rfl (Nat.zero_le _) hc (fun M13 hr => ?_)
        have h := h _ hr
        refine j_aload_n dX8_setOut_80 rfl ?_
        refine j_getr dX8_setOut_81 fX8_23 rfl rfl ?_
        refine j_iload dX8_setOut_84 rfl ?_
        obtain ⟨r14, hc, h⟩ := h
        refine j_cvf (lc := 0) (as := [.int x5]) dX8_setOut_86 iX6_preceding vX6_preceding kX8_67 (by decide) rfl rfl rfl rfl (Nat.zero_le _) hc ?_
        refine j_istore (L2 := [some (.ref 28), none, some (.int x2), some (.int x3), some (.int x4), some (.int x5), some (.int r4), some (.int r14)]) dX8_setOut_89 (by decide) (zno rfl) rfl ?_
        refine j_iload dX8_setOut_91 rfl ?_
        refine j_bipush (v := (-4)) dX8_setOut_93 rfl ?_
        refine j_ic_eq (tgt := 116) dX8_setOut_95 (by decide) (fun hc15 => ?_) (fun hc15 => ?_)
        · have h := h.1 hc15
          refine j_iinc (v := (x5 + 1)) (L2 := [some (.ref 28), none, some (.int x2), some (.int x3), some (.int x4), some (.int (x5 + 1)), some (.int r4), some (.int r14)]) dX8_setOut_116 rfl rfl (by decide) (zno rfl) rfl ?_
          refine j_goto (tgt := 19) dX8_setOut_119 (by decide) ?_
          exact zJw h ⟨rfl, rfl, rfl, rfl, rfl, trivial⟩
        · have h := h.2 hc15
          refine j_aload_n dX8_setOut_98 rfl ?_
          refine j_iload dX8_setOut_99 rfl ?_
          refine j_aload_n dX8_setOut_101 rfl ?_
          refine j_getr dX8_setOut_102 fX8_23 rfl rfl ?_
          refine j_getr dX8_setOut_105 fX8_60 rfl rfl ?_
          refine j_iload dX8_setOut_108 rfl ?_
          obtain ⟨j16, ej16, lj16, h⟩ := h
          refine j_iald dX8_setOut_110 rfl (zin ej16 lj16 (by decide)) ?_
          rw [zcl ej16 lj16 (by decide)]
          refine j_iload_n dX8_setOut_111 rfl ?_
          refine j_iload_n dX8_setOut_112 rfl ?_
          obtain ⟨_, hc, h⟩ := h
          refine j_cvw (lc := 0) (as := [.int r14, .int (M13 8 j16), .int x2, .int x3]) dX8_setOut_113 iX8_step vX8_step kX8_63 (by decide) rfl rfl rfl rfl (Nat.zero_le _) hc (fun M18 hr => ?_)
          have h := h _ hr
          refine j_iinc (v := (x5 + 1)) (L2 := [some (.ref 28), none, some (.int x2), some (.int x3), some (.int x4), some (.int (x5 + 1)), some (.int r4), some (.int r14)]) dX8_setOut_116 rfl rfl (by decide) (zno rfl) rfl ?_
          refine j_goto (tgt := 19) dX8_setOut_119 (by decide) ?_
          exact zJw h ⟨rfl, rfl, rfl, rfl, rfl, trivial⟩
    · have h := h.2 hc3
      refine j_goto (tgt := 116) dX8_setOut_41 (by decide) ?_
      refine j_iinc (v := (x5 + 1)) (L2 := [some (.ref 28), none, some (.int x2), some (.int x3), some (.int x4), some (.int (x5 + 1)), none, none]) dX8_setOut_116 rfl rfl (by decide) (zno rfl) rfl ?_
      refine j_goto (tgt := 19) dX8_setOut_119 (by decide) ?_
      exact zJw h ⟨rfl, rfl, rfl, rfl, rfl, trivial⟩
