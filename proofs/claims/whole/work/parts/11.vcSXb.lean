theorem eX8_step (P : zX → Prop) (X : zX) (a1 : Int32) (a2 : Int32) (a3 : Int32) (a4 : Int32) (h : ((((zshr (X 28 4) a1) &&& 1) = 0) → (P X)) ∧ ((¬ (((zshr (X 28 4) a1) &&& 1) = 0)) → ((((a4 + a2) ≤ (X 28 6)) → (∃ j3 : Nat, a1 = nI j3 ∧ j3 < 24 ∧ (((¬ ((zshr (X 28 5) (X 6 j3)) &&& 1) = 1) → (∃ j5 : Nat, ((a3 + a2) - (a3 + a2) / 10 * 10) = nI j5 ∧ j5 < 10 ∧ (∃ j6 : Nat, (X 6 j3) = nI j6 ∧ j6 < 12 ∧ ((((X (30 + j5) j6) ≤ (a4 + a2)) → (P X)) ∧ ((¬ ((X (30 + j5) j6) ≤ (a4 + a2))) → (∃ j8 : Nat, (X 6 j3) = nI j8 ∧ j8 < 12 ∧ (P (zs X (30 + j5) j8 (a4 + a2))))))))) ∧ ((((zshr (X 28 5) (X 6 j3)) &&& 1) = 1) → (∃ j9 : Nat, ((a3 + a2) - (a3 + a2) / 10 * 10) = nI j9 ∧ j9 < 10 ∧ (∃ j10 : Nat, (X 6 j3) = nI j10 ∧ j10 < 12 ∧ ((((X (30 + j9) j10) ≤ 0) → (P X)) ∧ ((¬ ((X (30 + j9) j10) ≤ 0)) → (∃ j12 : Nat, (X 6 j3) = nI j12 ∧ j12 < 12 ∧ (P (zs X (30 + j9) j12 0))))))))))) ∧ ((¬ ((a4 + a2) ≤ (X 28 6))) → (P X))))) : zPw SX 0 mX8_step [.ref 28, .int a1, .int a2, .int a3, .int a4] X P := by
  refine zP_in [some (.ref 28), some (.int a1), some (.int a2), some (.int a3), some (.int a4), none, none, none] ⟨rfl, rfl, rfl, rfl, rfl, trivial⟩ (by decide) (Nat.le_of_ble_eq_true rfl) ?_
  refine j_iload dX8_step_0 rfl ?_
  refine j_iload_n dX8_step_2 rfl ?_
  refine j_iadd dX8_step_3 ?_
  refine j_istore (L2 := [some (.ref 28), some (.int a1), some (.int a2), some (.int a3), some (.int a4), some (.int (a4 + a2)), none, none]) dX8_step_4 (by decide) (zno rfl) rfl ?_
  refine j_aload_n dX8_step_6 rfl ?_
  refine j_getf dX8_step_7 fX8_27 rfl rfl ?_
  refine j_iload_n dX8_step_10 rfl ?_
  refine j_ishr dX8_step_11 ?_
  refine j_iconst (v := 1) dX8_step_12 rfl ?_
  refine j_iand dX8_step_13 ?_
  refine j_if_eq (tgt := 26) dX8_step_14 (by decide) (fun hc1 => ?_) (fun hc1 => ?_)
  · have h := h.1 hc1
    refine j_vret dX8_step_26 rfl ?_
    exact ⟨rfl, h⟩
  · have h := h.2 hc1
    refine j_iload dX8_step_17 rfl ?_
    refine j_aload_n dX8_step_19 rfl ?_
    refine j_getf dX8_step_20 fX8_34 rfl rfl ?_
    refine j_ic_le (tgt := 27) dX8_step_23 (by decide) (fun hc2 => ?_) (fun hc2 => ?_)
    · have h := h.1 hc2
      refine j_aload_n dX8_step_27 rfl ?_
      refine j_getr dX8_step_28 fX8_23 rfl rfl ?_
      refine j_getr dX8_step_31 fX8_70 rfl rfl ?_
      refine j_iload_n dX8_step_34 rfl ?_
      obtain ⟨j3, ej3, lj3, h⟩ := h
      refine j_iald dX8_step_35 rfl (zin ej3 lj3 (by decide)) ?_
      rw [zcl ej3 lj3 (by decide)]
      refine j_istore (L2 := [some (.ref 28), some (.int a1), some (.int a2), some (.int a3), some (.int a4), some (.int (a4 + a2)), some (.int (X 6 j3)), none]) dX8_step_36 (by decide) (zno rfl) rfl ?_
      refine j_aload_n dX8_step_38 rfl ?_
      refine j_getf dX8_step_39 fX8_31 rfl rfl ?_
      refine j_iload dX8_step_42 rfl ?_
      refine j_ishr dX8_step_44 ?_
      refine j_iconst (v := 1) dX8_step_45 rfl ?_
      refine j_iand dX8_step_46 ?_
      refine j_iconst (v := 1) dX8_step_47 rfl ?_
      refine j_ic_ne (tgt := 54) dX8_step_48 (by decide) (fun hc4 => ?_) (fun hc4 => ?_)
      · have h := h.1 hc4
        refine j_aload_n dX8_step_54 rfl ?_
        refine j_getr dX8_step_55 fX8_13 rfl rfl ?_
        refine j_iload_n dX8_step_58 rfl ?_
        refine j_iload_n dX8_step_59 rfl ?_
        refine j_iadd dX8_step_60 ?_
        refine j_bipush (v := 10) dX8_step_61 rfl ?_
        refine j_irem dX8_step_63 (by decide) ?_
        obtain ⟨j5, ej5, lj5, h⟩ := h
        refine j_aald (r := (30 + j5)) 4 (by decide) dX8_step_64 rfl (zin ej5 lj5 (by decide)) (by rw [zcl ej5 lj5 (by decide)]; exact if_pos lj5) ?_
        refine j_astore (L2 := [some (.ref 28), some (.int a1), some (.int a2), some (.int a3), some (.int a4), some (.int (a4 + a2)), some (.int (X 6 j3)), some (.ref (30 + j5))]) dX8_step_65 (by decide) (zno rfl) rfl ?_
        refine j_iload dX8_step_67 rfl ?_
        refine j_aload dX8_step_69 rfl ?_
        refine j_iload dX8_step_71 rfl ?_
        obtain ⟨j6, ej6, lj6, h⟩ := h
        refine j_iald dX8_step_73 (sx_coming lj5) (zin ej6 lj6 (by decide)) ?_
        rw [zcl ej6 lj6 (by decide)]
        refine j_ic_ge (tgt := 84) dX8_step_74 (by decide) (fun hc7 => ?_) (fun hc7 => ?_)
        · have h := h.1 hc7
          refine j_vret dX8_step_84 rfl ?_
          exact ⟨rfl, h⟩
        · have h := h.2 hc7
          refine j_aload dX8_step_77 rfl ?_
          refine j_iload dX8_step_79 rfl ?_
          refine j_iload dX8_step_81 rfl ?_
          obtain ⟨j8, ej8, lj8, h⟩ := h
          refine j_iast dX8_step_83 (sx_coming lj5) (zin ej8 lj8 (by decide)) ?_
          rw [zcl ej8 lj8 (by decide)]
          refine j_vret dX8_step_84 rfl ?_
          exact ⟨rfl, h⟩
      · have h := h.2 hc4
        refine j_iconst (v := 0) dX8_step_51 rfl ?_
        refine j_istore (L2 := [some (.ref 28), some (.int a1), some (.int a2), some (.int a3), some (.int a4), some (.int 0), some (.int (X 6 j3)), none]) dX8_step_52 (by decide) (zno rfl) rfl ?_
        refine j_aload_n dX8_step_54 rfl ?_
        refine j_getr dX8_step_55 fX8_13 rfl rfl ?_
        refine j_iload_n dX8_step_58 rfl ?_
        refine j_iload_n dX8_step_59 rfl ?_
        refine j_iadd dX8_step_60 ?_
        refine j_bipush (v := 10) dX8_step_61 rfl ?_
        refine j_irem dX8_step_63 (by decide) ?_
        obtain ⟨j9, ej9, lj9, h⟩ := h
        refine j_aald (r := (30 + j9)) 4 (by decide) dX8_step_64 rfl (zin ej9 lj9 (by decide)) (by rw [zcl ej9 lj9 (by decide)]; exact if_pos lj9) ?_
        refine j_astore (L2 := [some (.ref 28), some (.int a1), some (.int a2), some (.int a3), some (.int a4), some (.int 0), some (.int (X 6 j3)), some (.ref (30 + j9))]) dX8_step_65 (by decide) (zno rfl) rfl ?_
        refine j_iload dX8_step_67 rfl ?_
        refine j_aload dX8_step_69 rfl ?_
        refine j_iload dX8_step_71 rfl ?_
        obtain ⟨j10, ej10, lj10, h⟩ := h
        refine j_iald dX8_step_73 (sx_coming lj9) (zin ej10 lj10 (by decide)) ?_
        rw [zcl ej10 lj10 (by decide)]
        refine j_ic_ge (tgt := 84) dX8_step_74 (by decide) (fun hc11 => ?_) (fun hc11 => ?_)
        · have h := h.1 hc11
          refine j_vret dX8_step_84 rfl ?_
          exact ⟨rfl, h⟩
        · have h := h.2 hc11
          refine j_aload dX8_step_77 rfl ?_
          refine j_iload dX8_step_79 rfl ?_
          refine j_iload dX8_step_81 rfl ?_
          obtain ⟨j12, ej12, lj12, h⟩ := h
          refine j_iast dX8_step_83 (sx_coming lj9) (zin ej12 lj12 (by decide)) ?_
          rw [zcl ej12 lj12 (by decide)]
          refine j_vret dX8_step_84 rfl ?_
          exact ⟨rfl, h⟩
    · have h := h.2 hc2
      refine j_vret dX8_step_26 rfl ?_
      exact ⟨rfl, h⟩
theorem eX9_place (P : Int32 → zX → Prop) (X : zX) (a1 : Int32) (a2 : Int32) (h : ∃ r1 : Int32, zPf SX 0 mX9_outside [.int a1, .int 10] X r1 ∧ (((¬ r1 = 0) → (P (-1) X)) ∧ ((r1 = 0) → (∃ r3 : Int32, zPf SX 0 mX9_outside [.int a2, .int 16] X r3 ∧ (((r3 = 0) → (∃ Qr5 : Int32 → zX → Prop, zPi SX 0 mX1_add [.ref 1, .int a1, .int a2] X Qr5 ∧ ∀ (r5 : Int32) (M6 : zX), Qr5 r5 M6 → (P r5 M6))) ∧ ((¬ (r3 = 0)) → (P (-1) X))))))) : zPi SX 1 mX9_place [.ref 0, .int a1, .int a2] X P := by
  refine zP_in [some (.ref 0), some (.int a1), some (.int a2)] ⟨rfl, rfl, rfl, trivial⟩ (by decide) (Nat.le_of_ble_eq_true rfl) ?_
  refine j_iload_n dX9_place_0 rfl ?_
  refine j_bipush (v := 10) dX9_place_1 rfl ?_
  obtain ⟨r1, hc, h⟩ := h
  refine j_csf (lc := 0) (as := [.int a1, .int 10]) dX9_place_3 iX9_outside sX9_outside kX9_83 (by decide) rfl rfl (Nat.zero_le _) hc ?_
  refine j_if_ne (tgt := 18) dX9_place_6 (by decide) (fun hc2 => ?_) (fun hc2 => ?_)
  · have h := h.1 hc2
    refine j_iconst (v := (-1)) dX9_place_18 rfl ?_
    refine j_iret dX9_place_19 rfl rfl ?_
    exact ⟨_, rfl, h⟩
  · have h := h.2 hc2
    refine j_iload_n dX9_place_9 rfl ?_
    refine j_bipush (v := 16) dX9_place_10 rfl ?_
    obtain ⟨r3, hc, h⟩ := h
    refine j_csf (lc := 0) (as := [.int a2, .int 16]) dX9_place_12 iX9_outside sX9_outside kX9_83 (by decide) rfl rfl (Nat.zero_le _) hc ?_
    refine j_if_eq (tgt := 20) dX9_place_15 (by decide) (fun hc4 => ?_) (fun hc4 => ?_)
    · have h := h.1 hc4
      refine j_aload_n dX9_place_20 rfl ?_
      refine j_getr dX9_place_21 fX9_10 rfl rfl ?_
      refine j_iload_n dX9_place_24 rfl ?_
      refine j_iload_n dX9_place_25 rfl ?_
      obtain ⟨_, hc, h⟩ := h
      refine j_cvi (lc := 0) (as := [.int a1, .int a2]) dX9_place_26 iX1_add vX1_add kX9_87 (by decide) rfl rfl rfl rfl (Nat.zero_le _) hc (fun r5 M6 hr => ?_)
      have h := h _ _ hr
      refine j_iret dX9_place_29 rfl rfl ?_
      exact ⟨_, rfl, h⟩
    · have h := h.2 hc4
      refine j_iconst (v := (-1)) dX9_place_18 rfl ?_
      refine j_iret dX9_place_19 rfl rfl ?_
      exact ⟨_, rfl, h⟩
theorem eX9_verse (P : Int32 → zX → Prop) (X : zX) (a1 : Int32) (a2 : Int32) (a3 : Int32) (a4 : Int32) (a5 : Int32) (h : ∃ r1 : Int32, zPf SX 0 mX9_outside [.int a1, .int 4] X r1 ∧ (((¬ r1 = 0) → (P (-1) X)) ∧ ((r1 = 0) → (∃ r3 : Int32, zPf SX 0 mX9_outside [.int a2, .int (X 1 2)] X r3 ∧ (((¬ r3 = 0) → (P (-1) X)) ∧ ((r3 = 0) → (∃ r5 : Int32, zPf SX 0 mX9_outside [.int a3, .int 9] X r5 ∧ (((r5 = 0) → (∃ j7 : Nat, a1 = nI j7 ∧ j7 < 4 ∧ (((¬ (X 16 j7) = 0) → (((a4 < 1) → (P (-1) X)) ∧ ((¬ (a4 < 1)) → (((a4 ≤ 9) → (((a5 = (-4)) → (∃ Qr12 : Int32 → zX → Prop, zPi SX 0 mX6_add [.ref 4, .int a1, .int a2, .int a3, .int a4, .int a5] X Qr12 ∧ ∀ (r12 : Int32) (M13 : zX), Qr12 r12 M13 → (P r12 M13))) ∧ ((¬ (a5 = (-4))) → (∃ r14 : Int32, zPf SX 0 mX9_outside [.int a5, .int 8] X r14 ∧ (((r14 = 0) → (∃ Qr16 : Int32 → zX → Prop, zPi SX 0 mX6_add [.ref 4, .int a1, .int a2, .int a3, .int a4, .int a5] X Qr16 ∧ ∀ (r16 : Int32) (M17 : zX), Qr16 r16 M17 → (P r16 M17))) ∧ ((¬ (r14 = 0)) → (P (-1) X))))))) ∧ ((¬ (a4 ≤ 9)) → (P (-1) X)))))) ∧ (((X 16 j7) = 0) → (((a5 = (-4)) → (∃ Qr19 : Int32 → zX → Prop, zPi SX 0 mX6_add [.ref 4, .int a1, .int a2, .int a3, .int 0, .int a5] X Qr19 ∧ ∀ (r19 : Int32) (M20 : zX), Qr19 r19 M20 → (P r19 M20))) ∧ ((¬ (a5 = (-4))) → (∃ r21 : Int32, zPf SX 0 mX9_outside [.int a5, .int 8] X r21 ∧ (((r21 = 0) → (∃ Qr23 : Int32 → zX → Prop, zPi SX 0 mX6_add [.ref 4, .int a1, .int a2, .int a3, .int 0, .int a5] X Qr23 ∧ ∀ (r23 : Int32) (M24 : zX), Qr23 r23 M24 → (P r23 M24))) ∧ ((¬ (r21 = 0)) → (P (-1) X)))))))))) ∧ ((¬ (r5 = 0)) → (P (-1) X)))))))))) : zPi SX 1 mX9_verse [.ref 0, .int a1, .int a2, .int a3, .int a4, .int a5] X P := by
  refine zP_in [some (.ref 0), some (.int a1), some (.int a2), some (.int a3), some (.int a4), some (.int a5), none] ⟨rfl, rfl, rfl, rfl, rfl, rfl, trivial⟩ (by decide) (Nat.le_of_ble_eq_true rfl) ?_
  refine j_iload_n dX9_verse_0 rfl ?_
  refine j_iconst (v := 4) dX9_verse_1 rfl ?_
  obtain ⟨r1, hc, h⟩ := h
  refine j_csf (lc := 0) (as := [.int a1, .int 4]) dX9_verse_2 iX9_outside sX9_outside kX9_83 (by decide) rfl rfl (Nat.zero_le _) hc ?_
  refine j_if_ne (tgt := 31) dX9_verse_5 (by decide) (fun hc2 => ?_) (fun hc2 => ?_)
  · have h := h.1 hc2
    refine j_iconst (v := (-1)) dX9_verse_31 rfl ?_
    refine j_iret dX9_verse_32 rfl rfl ?_
    exact ⟨_, rfl, h⟩
  · have h := h.2 hc2
    refine j_iload_n dX9_verse_8 rfl ?_
    refine j_aload_n dX9_verse_9 rfl ?_
    refine j_getr dX9_verse_10 fX9_10 rfl rfl ?_
    refine j_getf dX9_verse_13 fX9_91 rfl rfl ?_
    obtain ⟨r3, hc, h⟩ := h
    refine j_csf (lc := 0) (as := [.int a2, .int (X 1 2)]) dX9_verse_16 iX9_outside sX9_outside kX9_83 (by decide) rfl rfl (Nat.zero_le _) hc ?_
    refine j_if_ne (tgt := 31) dX9_verse_19 (by decide) (fun hc4 => ?_) (fun hc4 => ?_)
    · have h := h.1 hc4
      refine j_iconst (v := (-1)) dX9_verse_31 rfl ?_
      refine j_iret dX9_verse_32 rfl rfl ?_
      exact ⟨_, rfl, h⟩
    · have h := h.2 hc4
      refine j_iload_n dX9_verse_22 rfl ?_
      refine j_bipush (v := 9) dX9_verse_23 rfl ?_
      obtain ⟨r5, hc, h⟩ := h
      refine j_csf (lc := 0) (as := [.int a3, .int 9]) dX9_verse_25 iX9_outside sX9_outside kX9_83 (by decide) rfl rfl (Nat.zero_le _) hc ?_
      refine j_if_eq (tgt := 33) dX9_verse_28 (by decide) (fun hc6 => ?_) (fun hc6 => ?_)
      · have h := h.1 hc6
        refine j_aload_n dX9_verse_33 rfl ?_
        refine j_getr dX9_verse_34 fX9_19 rfl rfl ?_
        refine j_getr dX9_verse_37 fX9_95 rfl rfl ?_
        refine j_iload_n dX9_verse_40 rfl ?_
        obtain ⟨j7, ej7, lj7, h⟩ := h
        refine j_iald dX9_verse_41 rfl (zin ej7 lj7 (by decide)) ?_
        rw [zcl ej7 lj7 (by decide)]
        refine j_if_ne (tgt := 49) dX9_verse_42 (by decide) (fun hc8 => ?_) (fun hc8 => ?_)
        · have h := h.1 hc8
          refine j_iconst (v := 0) dX9_verse_49 rfl ?_
          refine j_istore (L2 := [some (.ref 0), some (.int a1), some (.int a2), some (.int a3), some (.int a4), some (.int a5), some (.int 0)]) dX9_verse_50 (by decide) (zno rfl) rfl ?_
          refine j_iload dX9_verse_52 rfl ?_
          refine j_if_ne (tgt := 72) dX9_verse_54 (by decide) (fun hc => absurd hc (by decide)) (fun _ => ?_)
          refine j_iload dX9_verse_57 rfl ?_
          refine j_iconst (v := 1) dX9_verse_59 rfl ?_
          refine j_ic_lt (tgt := 70) dX9_verse_60 (by decide) (fun hc9 => ?_) (fun hc9 => ?_)
          · have h := h.1 hc9
            refine j_iconst (v := (-1)) dX9_verse_70 rfl ?_
            refine j_iret dX9_verse_71 rfl rfl ?_
            exact ⟨_, rfl, h⟩
          · have h := h.2 hc9
            refine j_iload dX9_verse_63 rfl ?_
            refine j_bipush (v := 9) dX9_verse_65 rfl ?_
            refine j_ic_le (tgt := 72) dX9_verse_67 (by decide) (fun hc10 => ?_) (fun hc10 => ?_)
            · have h := h.1 hc10
              refine j_iload dX9_verse_72 rfl ?_
              refine j_bipush (v := (-4)) dX9_verse_74 rfl ?_
              refine j_ic_eq (tgt := 91) dX9_verse_76 (by decide) (fun hc11 => ?_) (fun hc11 => ?_)
              · have h := h.1 hc11
                refine j_aload_n dX9_verse_91 rfl ?_
                refine j_getr dX9_verse_92 fX9_19 rfl rfl ?_
                refine j_iload_n dX9_verse_95 rfl ?_
                refine j_iload_n dX9_verse_96 rfl ?_
                refine j_iload_n dX9_verse_97 rfl ?_
                refine j_iload dX9_verse_98 rfl ?_
                refine j_if_eq (tgt := 107) dX9_verse_100 (by decide) (fun _ => ?_) (fun hc => absurd hc (by decide))
                refine j_iload dX9_verse_107 rfl ?_
                refine j_iload dX9_verse_109 rfl ?_
                obtain ⟨_, hc, h⟩ := h
                refine j_cvi (lc := 0) (as := [.int a1, .int a2, .int a3, .int a4, .int a5]) dX9_verse_111 iX6_add vX6_add kX9_98 (by decide) rfl rfl rfl rfl (Nat.zero_le _) hc (fun r12 M13 hr => ?_)
                have h := h _ _ hr
                refine j_iret dX9_verse_114 rfl rfl ?_
                exact ⟨_, rfl, h⟩
              · have h := h.2 hc11
                refine j_iload dX9_verse_79 rfl ?_
                refine j_bipush (v := 8) dX9_verse_81 rfl ?_
                obtain ⟨r14, hc, h⟩ := h
                refine j_csf (lc := 0) (as := [.int a5, .int 8]) dX9_verse_83 iX9_outside sX9_outside kX9_83 (by decide) rfl rfl (Nat.zero_le _) hc ?_
                refine j_if_eq (tgt := 91) dX9_verse_86 (by decide) (fun hc15 => ?_) (fun hc15 => ?_)
                · have h := h.1 hc15
                  refine j_aload_n dX9_verse_91 rfl ?_
                  refine j_getr dX9_verse_92 fX9_19 rfl rfl ?_
                  refine j_iload_n dX9_verse_95 rfl ?_
                  refine j_iload_n dX9_verse_96 rfl ?_
                  refine j_iload_n dX9_verse_97 rfl ?_
                  refine j_iload dX9_verse_98 rfl ?_
                  refine j_if_eq (tgt := 107) dX9_verse_100 (by decide) (fun _ => ?_) (fun hc => absurd hc (by decide))
                  refine j_iload dX9_verse_107 rfl ?_
                  refine j_iload dX9_verse_109 rfl ?_
                  obtain ⟨_, hc, h⟩ := h
                  refine j_cvi (lc := 0) (as := [.int a1, .int a2, .int a3, .int a4, .int a5]) dX9_verse_111 iX6_add vX6_add kX9_98 (by decide) rfl rfl rfl rfl (Nat.zero_le _) hc (fun r16 M17 hr => ?_)
                  have h := h _ _ hr
                  refine j_iret dX9_verse_114 rfl rfl ?_
                  exact ⟨_, rfl, h⟩
                · have h := h.2 hc15
                  refine j_iconst (v := (-1)) dX9_verse_89 rfl ?_
                  refine j_iret dX9_verse_90 rfl rfl ?_
                  exact ⟨_, rfl, h⟩
            · have h := h.2 hc10
              refine j_iconst (v := (-1)) dX9_verse_70 rfl ?_
              refine j_iret dX9_verse_71 rfl rfl ?_
              exact ⟨_, rfl, h⟩
        · have h := h.2 hc8
          refine j_iconst (v := 1) dX9_verse_45 rfl ?_
          refine j_goto (tgt := 50) dX9_verse_46 (by decide) ?_
          refine j_istore (L2 := [some (.ref 0), some (.int a1), some (.int a2), some (.int a3), some (.int a4), some (.int a5), some (.int 1)]) dX9_verse_50 (by decide) (zno rfl) rfl ?_
          refine j_iload dX9_verse_52 rfl ?_
          refine j_if_ne (tgt := 72) dX9_verse_54 (by decide) (fun _ => ?_) (fun hc => absurd hc (by decide))
          refine j_iload dX9_verse_72 rfl ?_
          refine j_bipush (v := (-4)) dX9_verse_74 rfl ?_
          refine j_ic_eq (tgt := 91) dX9_verse_76 (by decide) (fun hc18 => ?_) (fun hc18 => ?_)
          · have h := h.1 hc18
            refine j_aload_n dX9_verse_91 rfl ?_
            refine j_getr dX9_verse_92 fX9_19 rfl rfl ?_
            refine j_iload_n dX9_verse_95 rfl ?_
            refine j_iload_n dX9_verse_96 rfl ?_
            refine j_iload_n dX9_verse_97 rfl ?_
            refine j_iload dX9_verse_98 rfl ?_
            refine j_if_eq (tgt := 107) dX9_verse_100 (by decide) (fun hc => absurd hc (by decide)) (fun _ => ?_)
            refine j_iconst (v := 0) dX9_verse_103 rfl ?_
            refine j_goto (tgt := 109) dX9_verse_104 (by decide) ?_
            refine j_iload dX9_verse_109 rfl ?_
            obtain ⟨_, hc, h⟩ := h
            refine j_cvi (lc := 0) (as := [.int a1, .int a2, .int a3, .int 0, .int a5]) dX9_verse_111 iX6_add vX6_add kX9_98 (by decide) rfl rfl rfl rfl (Nat.zero_le _) hc (fun r19 M20 hr => ?_)
            have h := h _ _ hr
            refine j_iret dX9_verse_114 rfl rfl ?_
            exact ⟨_, rfl, h⟩
          · have h := h.2 hc18
            refine j_iload dX9_verse_79 rfl ?_
            refine j_bipush (v := 8) dX9_verse_81 rfl ?_
            obtain ⟨r21, hc, h⟩ := h
            refine j_csf (lc := 0) (as := [.int a5, .int 8]) dX9_verse_83 iX9_outside sX9_outside kX9_83 (by decide) rfl rfl (Nat.zero_le _) hc ?_
            refine j_if_eq (tgt := 91) dX9_verse_86 (by decide) (fun hc22 => ?_) (fun hc22 => ?_)
            · have h := h.1 hc22
              refine j_aload_n dX9_verse_91 rfl ?_
              refine j_getr dX9_verse_92 fX9_19 rfl rfl ?_
              refine j_iload_n dX9_verse_95 rfl ?_
              refine j_iload_n dX9_verse_96 rfl ?_
              refine j_iload_n dX9_verse_97 rfl ?_
              refine j_iload dX9_verse_98 rfl ?_
              refine j_if_eq (tgt := 107) dX9_verse_100 (by decide) (fun hc => absurd hc (by decide)) (fun _ => ?_)
              refine j_iconst (v := 0) dX9_verse_103 rfl ?_
              refine j_goto (tgt := 109) dX9_verse_104 (by decide) ?_
              refine j_iload dX9_verse_109 rfl ?_
              obtain ⟨_, hc, h⟩ := h
              refine j_cvi (lc := 0) (as := [.int a1, .int a2, .int a3, .int 0, .int a5]) dX9_verse_111 iX6_add vX6_add kX9_98 (by decide) rfl rfl rfl rfl (Nat.zero_le _) hc (fun r23 M24 hr => ?_)
              have h := h _ _ hr
              refine j_iret dX9_verse_114 rfl rfl ?_
              exact ⟨_, rfl, h⟩
            · have h := h.2 hc22
              refine j_iconst (v := (-1)) dX9_verse_89 rfl ?_
              refine j_iret dX9_verse_90 rfl rfl ?_
              exact ⟨_, rfl, h⟩
      · have h := h.2 hc6
        refine j_iconst (v := (-1)) dX9_verse_31 rfl ?_
        refine j_iret dX9_verse_32 rfl rfl ?_
        exact ⟨_, rfl, h⟩
theorem eX9_one (P : Int32 → zX → Prop) (X : zX) (a1 : Int32) (a2 : Int32) (a3 : Int32) (h : ∃ r1 : Int32, zPf SX 0 mX9_outside [.int a1, .int 8] X r1 ∧ (((¬ r1 = 0) → (P (-1) X)) ∧ ((r1 = 0) → (∃ r3 : Int32, zPf SX 0 mX9_outside [.int a2, .int 100] X r3 ∧ (((¬ r3 = 0) → (P (-1) X)) ∧ ((r3 = 0) → (∃ r5 : Int32, zPf SX 0 mX9_outside [.int a3, .int 512] X r5 ∧ (((r5 = 0) → (∃ Qr7 : Int32 → zX → Prop, zPi SX 0 mX2_add [.ref 19, .int a1, .int (a2 - (X 1 3)), .int a3] X Qr7 ∧ ∀ (r7 : Int32) (M8 : zX), Qr7 r7 M8 → (P r7 M8))) ∧ ((¬ (r5 = 0)) → (P (-1) X)))))))))) : zPi SX 1 mX9_one [.ref 0, .int a1, .int a2, .int a3] X P := by
  refine zP_in [some (.ref 0), some (.int a1), some (.int a2), some (.int a3)] ⟨rfl, rfl, rfl, rfl, trivial⟩ (by decide) (Nat.le_of_ble_eq_true rfl) ?_
  refine j_iload_n dX9_one_0 rfl ?_
  refine j_bipush (v := 8) dX9_one_1 rfl ?_
  obtain ⟨r1, hc, h⟩ := h
  refine j_csf (lc := 0) (as := [.int a1, .int 8]) dX9_one_3 iX9_outside sX9_outside kX9_83 (by decide) rfl rfl (Nat.zero_le _) hc ?_
  refine j_if_ne (tgt := 28) dX9_one_6 (by decide) (fun hc2 => ?_) (fun hc2 => ?_)
  · have h := h.1 hc2
    refine j_iconst (v := (-1)) dX9_one_28 rfl ?_
    refine j_iret dX9_one_29 rfl rfl ?_
    exact ⟨_, rfl, h⟩
  · have h := h.2 hc2
    refine j_iload_n dX9_one_9 rfl ?_
    refine j_bipush (v := 100) dX9_one_10 rfl ?_
    obtain ⟨r3, hc, h⟩ := h
    refine j_csf (lc := 0) (as := [.int a2, .int 100]) dX9_one_12 iX9_outside sX9_outside kX9_83 (by decide) rfl rfl (Nat.zero_le _) hc ?_
    refine j_if_ne (tgt := 28) dX9_one_15 (by decide) (fun hc4 => ?_) (fun hc4 => ?_)
    · have h := h.1 hc4
      refine j_iconst (v := (-1)) dX9_one_28 rfl ?_
      refine j_iret dX9_one_29 rfl rfl ?_
      exact ⟨_, rfl, h⟩
    · have h := h.2 hc4
      refine j_iload_n dX9_one_18 rfl ?_
      refine j_sipush (v := 512) dX9_one_19 rfl ?_
      obtain ⟨r5, hc, h⟩ := h
      refine j_csf (lc := 0) (as := [.int a3, .int 512]) dX9_one_22 iX9_outside sX9_outside kX9_83 (by decide) rfl rfl (Nat.zero_le _) hc ?_
      refine j_if_eq (tgt := 30) dX9_one_25 (by decide) (fun hc6 => ?_) (fun hc6 => ?_)
      · have h := h.1 hc6
        refine j_aload_n dX9_one_30 rfl ?_
        refine j_getr dX9_one_31 fX9_26 rfl rfl ?_
        refine j_iload_n dX9_one_34 rfl ?_
        refine j_iload_n dX9_one_35 rfl ?_
        refine j_aload_n dX9_one_36 rfl ?_
        refine j_getr dX9_one_37 fX9_10 rfl rfl ?_
        refine j_getf dX9_one_40 fX9_101 rfl rfl ?_
        refine j_isub dX9_one_43 ?_
        refine j_iload_n dX9_one_44 rfl ?_
        obtain ⟨_, hc, h⟩ := h
        refine j_cvi (lc := 0) (as := [.int a1, .int (a2 - (X 1 3)), .int a3]) dX9_one_45 iX2_add vX2_add kX9_104 (by decide) rfl rfl rfl rfl (Nat.zero_le _) hc (fun r7 M8 hr => ?_)
        have h := h _ _ hr
        refine j_iret dX9_one_48 rfl rfl ?_
        exact ⟨_, rfl, h⟩
      · have h := h.2 hc6
        refine j_iconst (v := (-1)) dX9_one_28 rfl ?_
        refine j_iret dX9_one_29 rfl rfl ?_
        exact ⟨_, rfl, h⟩
theorem eX9_has (P : Int32 → zX → Prop) (X : zX) (a1 : Int32) (a2 : Int32) (a3 : Int32) (h : ∃ r1 : Int32, zPf SX 0 mX9_outside [.int a1, .int (X 19 5)] X r1 ∧ (((¬ r1 = 0) → (P (-1) X)) ∧ ((r1 = 0) → (∃ r3 : Int32, zPf SX 0 mX9_outside [.int a2, .int (X 4 10)] X r3 ∧ (((r3 = 0) → (∃ j5 : Nat, a1 = nI j5 ∧ j5 < 8 ∧ (((¬ (X 24 j5) = 0) → (∃ j7 : Nat, a1 = nI j7 ∧ j7 < 8 ∧ (((a3 = 0) → (∃ j9 : Nat, a1 = nI j9 ∧ j9 < 8 ∧ (∃ j10 : Nat, a1 = nI j10 ∧ j10 < 8 ∧ (P ((zshr (X 23 j7) a2) &&& 1) (zs X 23 j10 ((X 23 j9) &&& ((zshl 1 a2) ^^^ (-1)))))))) ∧ ((¬ (a3 = 0)) → (∃ j11 : Nat, a1 = nI j11 ∧ j11 < 8 ∧ (∃ j12 : Nat, a1 = nI j12 ∧ j12 < 8 ∧ (P ((zshr (X 23 j7) a2) &&& 1) (zs X 23 j12 ((X 23 j11) ||| (zshl 1 a2)))))))))) ∧ (((X 24 j5) = 0) → (P (-2) X))))) ∧ ((¬ (r3 = 0)) → (P (-1) X))))))) : zPi SX 1 mX9_has [.ref 0, .int a1, .int a2, .int a3] X P := by
  refine zP_in [some (.ref 0), some (.int a1), some (.int a2), some (.int a3), none] ⟨rfl, rfl, rfl, rfl, trivial⟩ (by decide) (Nat.le_of_ble_eq_true rfl) ?_
  refine j_iload_n dX9_has_0 rfl ?_
  refine j_aload_n dX9_has_1 rfl ?_
  refine j_getr dX9_has_2 fX9_26 rfl rfl ?_
  refine j_getf dX9_has_5 fX9_107 rfl rfl ?_
  obtain ⟨r1, hc, h⟩ := h
  refine j_csf (lc := 0) (as := [.int a1, .int (X 19 5)]) dX9_has_8 iX9_outside sX9_outside kX9_83 (by decide) rfl rfl (Nat.zero_le _) hc ?_
  refine j_if_ne (tgt := 28) dX9_has_11 (by decide) (fun hc2 => ?_) (fun hc2 => ?_)
  · have h := h.1 hc2
    refine j_iconst (v := (-1)) dX9_has_28 rfl ?_
    refine j_iret dX9_has_29 rfl rfl ?_
    exact ⟨_, rfl, h⟩
  · have h := h.2 hc2
    refine j_iload_n dX9_has_14 rfl ?_
    refine j_aload_n dX9_has_15 rfl ?_
    refine j_getr dX9_has_16 fX9_19 rfl rfl ?_
    refine j_getf dX9_has_19 fX9_108 rfl rfl ?_
    obtain ⟨r3, hc, h⟩ := h
    refine j_csf (lc := 0) (as := [.int a2, .int (X 4 10)]) dX9_has_22 iX9_outside sX9_outside kX9_83 (by decide) rfl rfl (Nat.zero_le _) hc ?_
    refine j_if_eq (tgt := 30) dX9_has_25 (by decide) (fun hc4 => ?_) (fun hc4 => ?_)
    · have h := h.1 hc4
      refine j_aload_n dX9_has_30 rfl ?_
      refine j_getr dX9_has_31 fX9_26 rfl rfl ?_
      refine j_getr dX9_has_34 fX9_109 rfl rfl ?_
      refine j_iload_n dX9_has_37 rfl ?_
      obtain ⟨j5, ej5, lj5, h⟩ := h
      refine j_zald dX9_has_38 rfl (zin ej5 lj5 (by decide)) ?_
      rw [zcl ej5 lj5 (by decide)]
      refine j_if_ne (tgt := 45) dX9_has_39 (by decide) (fun hc6 => ?_) (fun hc6 => ?_)
      · have h := h.1 hc6
        refine j_aload_n dX9_has_45 rfl ?_
        refine j_getr dX9_has_46 fX9_26 rfl rfl ?_
        refine j_getr dX9_has_49 fX9_113 rfl rfl ?_
        refine j_iload_n dX9_has_52 rfl ?_
        obtain ⟨j7, ej7, lj7, h⟩ := h
        refine j_iald dX9_has_53 rfl (zin ej7 lj7 (by decide)) ?_
        rw [zcl ej7 lj7 (by decide)]
        refine j_iload_n dX9_has_54 rfl ?_
        refine j_ishr dX9_has_55 ?_
        refine j_iconst (v := 1) dX9_has_56 rfl ?_
        refine j_iand dX9_has_57 ?_
        refine j_istore (L2 := [some (.ref 0), some (.int a1), some (.int a2), some (.int a3), some (.int ((zshr (X 23 j7) a2) &&& 1))]) dX9_has_58 (by decide) (zno rfl) rfl ?_
        refine j_iload_n dX9_has_60 rfl ?_
        refine j_if_eq (tgt := 82) dX9_has_61 (by decide) (fun hc8 => ?_) (fun hc8 => ?_)
        · have h := h.1 hc8
          refine j_aload_n dX9_has_82 rfl ?_
          refine j_getr dX9_has_83 fX9_26 rfl rfl ?_
          refine j_getr dX9_has_86 fX9_113 rfl rfl ?_
          refine j_iload_n dX9_has_89 rfl ?_
          refine j_dup2 dX9_has_90 rfl rfl ?_
          obtain ⟨j9, ej9, lj9, h⟩ := h
          refine j_iald dX9_has_91 rfl (zin ej9 lj9 (by decide)) ?_
          rw [zcl ej9 lj9 (by decide)]
          refine j_iconst (v := 1) dX9_has_92 rfl ?_
          refine j_iload_n dX9_has_93 rfl ?_
          refine j_ishl dX9_has_94 ?_
          refine j_iconst (v := (-1)) dX9_has_95 rfl ?_
          refine j_ixor dX9_has_96 ?_
          refine j_iand dX9_has_97 ?_
          obtain ⟨j10, ej10, lj10, h⟩ := h
          refine j_iast dX9_has_98 rfl (zin ej10 lj10 (by decide)) ?_
          rw [zcl ej10 lj10 (by decide)]
          refine j_iload dX9_has_99 rfl ?_
          refine j_iret dX9_has_101 rfl rfl ?_
          exact ⟨_, rfl, h⟩
        · have h := h.2 hc8
          refine j_aload_n dX9_has_64 rfl ?_
          refine j_getr dX9_has_65 fX9_26 rfl rfl ?_
          refine j_getr dX9_has_68 fX9_113 rfl rfl ?_
          refine j_iload_n dX9_has_71 rfl ?_
          refine j_dup2 dX9_has_72 rfl rfl ?_
          obtain ⟨j11, ej11, lj11, h⟩ := h
          refine j_iald dX9_has_73 rfl (zin ej11 lj11 (by decide)) ?_
          rw [zcl ej11 lj11 (by decide)]
          refine j_iconst (v := 1) dX9_has_74 rfl ?_
          refine j_iload_n dX9_has_75 rfl ?_
          refine j_ishl dX9_has_76 ?_
          refine j_ior dX9_has_77 ?_
          obtain ⟨j12, ej12, lj12, h⟩ := h
          refine j_iast dX9_has_78 rfl (zin ej12 lj12 (by decide)) ?_
          rw [zcl ej12 lj12 (by decide)]
          refine j_goto (tgt := 99) dX9_has_79 (by decide) ?_
          refine j_iload dX9_has_99 rfl ?_
          refine j_iret dX9_has_101 rfl rfl ?_
          exact ⟨_, rfl, h⟩
      · have h := h.2 hc6
        refine j_bipush (v := (-2)) dX9_has_42 rfl ?_
        refine j_iret dX9_has_44 rfl rfl ?_
        exact ⟨_, rfl, h⟩
    · have h := h.2 hc4
      refine j_iconst (v := (-1)) dX9_has_28 rfl ?_
      refine j_iret dX9_has_29 rfl rfl ?_
      exact ⟨_, rfl, h⟩
theorem eX9_dies (P : Int32 → zX → Prop) (X : zX) (a1 : Int32) (h : ∃ r1 : Int32, zPf SX 0 mX9_outside [.int a1, .int (X 19 5)] X r1 ∧ (((r1 = 0) → (∃ j3 : Nat, a1 = nI j3 ∧ j3 < 8 ∧ (((¬ (X 24 j3) = 0) → (∃ j5 : Nat, a1 = nI j5 ∧ j5 < 8 ∧ (∃ j6 : Nat, a1 = nI j6 ∧ j6 < 8 ∧ (∃ r7 : Int32, zPf SX 0 mX2_hadByLiving [.ref 19] (zs X 24 j5 (vp_nar .boolean 0)) r7 ∧ (∃ r8 : Int32, zPf SX 0 mJ6_bitCount_0f7a4 [.int ((X 23 j6) &&& (r7 ^^^ (-1)))] (zs X 24 j5 (vp_nar .boolean 0)) r8 ∧ (P r8 (zs X 24 j5 (vp_nar .boolean 0)))))))) ∧ (((X 24 j3) = 0) → (P (-2) X))))) ∧ ((¬ (r1 = 0)) → (P (-1) X)))) : zPi SX 1 mX9_dies [.ref 0, .int a1] X P := by
  refine zP_in [some (.ref 0), some (.int a1)] ⟨rfl, rfl, trivial⟩ (by decide) (Nat.le_of_ble_eq_true rfl) ?_
  refine j_iload_n dX9_dies_0 rfl ?_
  refine j_aload_n dX9_dies_1 rfl ?_
  refine j_getr dX9_dies_2 fX9_26 rfl rfl ?_
  refine j_getf dX9_dies_5 fX9_107 rfl rfl ?_
  obtain ⟨r1, hc, h⟩ := h
  refine j_csf (lc := 0) (as := [.int a1, .int (X 19 5)]) dX9_dies_8 iX9_outside sX9_outside kX9_83 (by decide) rfl rfl (Nat.zero_le _) hc ?_
  refine j_if_eq (tgt := 16) dX9_dies_11 (by decide) (fun hc2 => ?_) (fun hc2 => ?_)
  · have h := h.1 hc2
    refine j_aload_n dX9_dies_16 rfl ?_
    refine j_getr dX9_dies_17 fX9_26 rfl rfl ?_
    refine j_getr dX9_dies_20 fX9_109 rfl rfl ?_
    refine j_iload_n dX9_dies_23 rfl ?_
    obtain ⟨j3, ej3, lj3, h⟩ := h
    refine j_zald dX9_dies_24 rfl (zin ej3 lj3 (by decide)) ?_
    rw [zcl ej3 lj3 (by decide)]
    refine j_if_ne (tgt := 31) dX9_dies_25 (by decide) (fun hc4 => ?_) (fun hc4 => ?_)
    · have h := h.1 hc4
      refine j_aload_n dX9_dies_31 rfl ?_
      refine j_getr dX9_dies_32 fX9_26 rfl rfl ?_
      refine j_getr dX9_dies_35 fX9_109 rfl rfl ?_
      refine j_iload_n dX9_dies_38 rfl ?_
      refine j_iconst (v := 0) dX9_dies_39 rfl ?_
      obtain ⟨j5, ej5, lj5, h⟩ := h
      refine j_zast dX9_dies_40 rfl (zin ej5 lj5 (by decide)) ?_
      rw [zcl ej5 lj5 (by decide)]
      refine j_aload_n dX9_dies_41 rfl ?_
      refine j_getr dX9_dies_42 fX9_26 rfl rfl ?_
      refine j_getr dX9_dies_45 fX9_113 rfl rfl ?_
      refine j_iload_n dX9_dies_48 rfl ?_
      obtain ⟨j6, ej6, lj6, h⟩ := h
      refine j_iald dX9_dies_49 rfl (zin ej6 lj6 (by decide)) ?_
      rw [zcl ej6 lj6 (by decide)]
      refine zJ_top (v := (X 23 j6)) rfl ?_
      refine j_aload_n dX9_dies_50 rfl ?_
      refine j_getr dX9_dies_51 fX9_26 rfl rfl ?_
      obtain ⟨r7, hc, h⟩ := h
      refine j_cvf (lc := 0) (as := []) dX9_dies_54 iX2_hadByLiving vX2_hadByLiving kX9_116 (by decide) rfl rfl rfl rfl (by simp [Value.category]) hc ?_
      refine j_iconst (v := (-1)) dX9_dies_57 rfl ?_
      refine j_ixor dX9_dies_58 ?_
      refine j_iand dX9_dies_59 ?_
      obtain ⟨r8, hc, h⟩ := h
      refine j_csf (lc := 0) (as := [.int ((X 23 j6) &&& (r7 ^^^ (-1)))]) dX9_dies_60 iJ6_bitCount_0f7a4 sJ6_bitCount_0f7a4 kX9_120 (by decide) rfl rfl (Nat.zero_le _) hc ?_
      refine j_iret dX9_dies_63 rfl rfl ?_
      exact ⟨_, rfl, h⟩
    · have h := h.2 hc4
      refine j_bipush (v := (-2)) dX9_dies_28 rfl ?_
      refine j_iret dX9_dies_30 rfl rfl ?_
      exact ⟨_, rfl, h⟩
  · have h := h.2 hc2
    refine j_iconst (v := (-1)) dX9_dies_14 rfl ?_
    refine j_iret dX9_dies_15 rfl rfl ?_
    exact ⟨_, rfl, h⟩
theorem eX9_now (P : Int32 → zX → Prop) (X : zX) (a1 : Int32) (a2 : Int32) (h : ∃ r1 : Int32, zPf SX 0 mX9_outside [.int a1, .int 100] X r1 ∧ (((¬ r1 = 0) → (P (-1) X)) ∧ ((r1 = 0) → (((a1 < (X 1 3)) → (P (-1) X)) ∧ ((¬ (a1 < (X 1 3))) → (∃ r4 : Int32, zPf SX 0 mX9_outside [.int a2, .int 4] X r4 ∧ (((r4 = 0) → (P (X 1 3) (zs (zs X 1 3 a1) 1 4 a2))) ∧ ((¬ (r4 = 0)) → (P (-1) X))))))))) : zPi SX 1 mX9_now [.ref 0, .int a1, .int a2] X P := by
  refine zP_in [some (.ref 0), some (.int a1), some (.int a2), none] ⟨rfl, rfl, rfl, trivial⟩ (by decide) (Nat.le_of_ble_eq_true rfl) ?_
  refine j_iload_n dX9_now_0 rfl ?_
  refine j_bipush (v := 100) dX9_now_1 rfl ?_
  obtain ⟨r1, hc, h⟩ := h
  refine j_csf (lc := 0) (as := [.int a1, .int 100]) dX9_now_3 iX9_outside sX9_outside kX9_83 (by decide) rfl rfl (Nat.zero_le _) hc ?_
  refine j_if_ne (tgt := 28) dX9_now_6 (by decide) (fun hc2 => ?_) (fun hc2 => ?_)
  · have h := h.1 hc2
    refine j_iconst (v := (-1)) dX9_now_28 rfl ?_
    refine j_iret dX9_now_29 rfl rfl ?_
    exact ⟨_, rfl, h⟩
  · have h := h.2 hc2
    refine j_iload_n dX9_now_9 rfl ?_
    refine j_aload_n dX9_now_10 rfl ?_
    refine j_getr dX9_now_11 fX9_10 rfl rfl ?_
    refine j_getf dX9_now_14 fX9_101 rfl rfl ?_
    refine j_ic_lt (tgt := 28) dX9_now_17 (by decide) (fun hc3 => ?_) (fun hc3 => ?_)
    · have h := h.1 hc3
      refine j_iconst (v := (-1)) dX9_now_28 rfl ?_
      refine j_iret dX9_now_29 rfl rfl ?_
      exact ⟨_, rfl, h⟩
    · have h := h.2 hc3
      refine j_iload_n dX9_now_20 rfl ?_
      refine j_iconst (v := 4) dX9_now_21 rfl ?_
      obtain ⟨r4, hc, h⟩ := h
      refine j_csf (lc := 0) (as := [.int a2, .int 4]) dX9_now_22 iX9_outside sX9_outside kX9_83 (by decide) rfl rfl (Nat.zero_le _) hc ?_
      refine j_if_eq (tgt := 30) dX9_now_25 (by decide) (fun hc5 => ?_) (fun hc5 => ?_)
      · have h := h.1 hc5
        refine j_aload_n dX9_now_30 rfl ?_
        refine j_getr dX9_now_31 fX9_10 rfl rfl ?_
        refine j_getf dX9_now_34 fX9_101 rfl rfl ?_
        refine j_istore_n (L2 := [some (.ref 0), some (.int a1), some (.int a2), some (.int (X 1 3))]) dX9_now_37 (by decide) (zno rfl) rfl ?_
        refine j_aload_n dX9_now_38 rfl ?_
        refine j_getr dX9_now_39 fX9_10 rfl rfl ?_
        refine j_iload_n dX9_now_42 rfl ?_
        refine j_putf dX9_now_43 fX9_101 pX1_3 rfl rfl ?_
        refine j_aload_n dX9_now_46 rfl ?_
        refine j_getr dX9_now_47 fX9_10 rfl rfl ?_
        refine j_iload_n dX9_now_50 rfl ?_
        refine j_putf dX9_now_51 fX9_126 pX1_4 rfl rfl ?_
        refine j_iload_n dX9_now_54 rfl ?_
        refine j_iret dX9_now_55 rfl rfl ?_
        exact ⟨_, rfl, h⟩
      · have h := h.2 hc5
        refine j_iconst (v := (-1)) dX9_now_28 rfl ?_
        refine j_iret dX9_now_29 rfl rfl ?_
        exact ⟨_, rfl, h⟩
theorem eX9_placeOf (v : Int32) (X : zX) (a1 : Int32) (a2 : Int32) (h : ∃ r1 : Int32, zPf SX 0 mX9_outside [.int a1, .int (X 1 2)] X r1 ∧ (((r1 = 0) → ((a2 = 0 → (∃ j3 : Nat, a1 = nI j3 ∧ j3 < 12 ∧ ((X 2 j3) = v))) ∧ (a2 = 1 → (∃ j4 : Nat, a1 = nI j4 ∧ j4 < 12 ∧ ((X 3 j4) = v))) ∧ (a2 = 2 → (∃ r5 : Int32, zPf SX 0 mX1_isWet [.ref 1, .int a1, .ref 54] X r5 ∧ (((r5 = 0) → (0 = v)) ∧ ((¬ (r5 = 0)) → (1 = v))))) ∧ (a2 = 3 → (∃ j7 : Nat, a1 = nI j7 ∧ j7 < 12 ∧ ((X 57 j7) = v))) ∧ (a2 = 4 → (∃ j8 : Nat, a1 = nI j8 ∧ j8 < 12 ∧ (∃ r9 : Int32, zPf SX 0 mX6_songsOf [.ref 4, .int (X 18 j8)] X r9 ∧ (r9 = v)))) ∧ ((a2.toInt < 0 ∨ 4 < a2.toInt) → ((-1) = v)))) ∧ ((¬ (r1 = 0)) → ((-1) = v)))) : zPf SX 1 mX9_placeOf [.ref 0, .int a1, .int a2] X v := by
  refine zP_in [some (.ref 0), some (.int a1), some (.int a2)] ⟨rfl, rfl, rfl, trivial⟩ (by decide) (Nat.le_of_ble_eq_true rfl) ?_
  refine j_iload_n dX9_placeOf_0 rfl ?_
  refine j_aload_n dX9_placeOf_1 rfl ?_
  refine j_getr dX9_placeOf_2 fX9_10 rfl rfl ?_
  refine j_getf dX9_placeOf_5 fX9_91 rfl rfl ?_
  obtain ⟨r1, hc, h⟩ := h
  refine j_csf (lc := 0) (as := [.int a1, .int (X 1 2)]) dX9_placeOf_8 iX9_outside sX9_outside kX9_83 (by decide) rfl rfl (Nat.zero_le _) hc ?_
  refine j_if_eq (tgt := 16) dX9_placeOf_11 (by decide) (fun hc2 => ?_) (fun hc2 => ?_)
  · have h := h.1 hc2
    refine j_iload_n dX9_placeOf_16 rfl ?_
    refine j_tsw (dt := 120) [52, 62, 72, 93, 103] dX9_placeOf_17 (by decide) (by decide) (by decide) ?_ (fun hc => ?_)
    · refine ⟨fun hc => ?_, fun hc => ?_, fun hc => ?_, fun hc => ?_, fun hc => ?_, trivial⟩
      · have h := h.1 (hc.trans (by decide))
        refine j_aload_n dX9_placeOf_52 rfl ?_
        refine j_getr dX9_placeOf_53 fX9_10 rfl rfl ?_
        refine j_getr dX9_placeOf_56 fX9_129 rfl rfl ?_
        refine j_iload_n dX9_placeOf_59 rfl ?_
        obtain ⟨j3, ej3, lj3, h⟩ := h
        refine j_iald dX9_placeOf_60 rfl (zin ej3 lj3 (by decide)) ?_
        rw [zcl ej3 lj3 (by decide)]
        refine j_iret dX9_placeOf_61 rfl rfl ?_
        exact ⟨by rw [h], rfl⟩
      · have h := h.2.1 (hc.trans (by decide))
        refine j_aload_n dX9_placeOf_62 rfl ?_
        refine j_getr dX9_placeOf_63 fX9_10 rfl rfl ?_
        refine j_getr dX9_placeOf_66 fX9_132 rfl rfl ?_
        refine j_iload_n dX9_placeOf_69 rfl ?_
        obtain ⟨j4, ej4, lj4, h⟩ := h
        refine j_iald dX9_placeOf_70 rfl (zin ej4 lj4 (by decide)) ?_
        rw [zcl ej4 lj4 (by decide)]
        refine j_iret dX9_placeOf_71 rfl rfl ?_
        exact ⟨by rw [h], rfl⟩
      · have h := h.2.2.1 (hc.trans (by decide))
        refine j_aload_n dX9_placeOf_72 rfl ?_
        refine j_getr dX9_placeOf_73 fX9_10 rfl rfl ?_
        refine j_iload_n dX9_placeOf_76 rfl ?_
        refine j_aload_n dX9_placeOf_77 rfl ?_
        refine j_getr dX9_placeOf_78 fX9_75 rfl rfl ?_
        obtain ⟨r5, hc, h⟩ := h
        refine j_cvf (lc := 0) (as := [.int a1, .ref 54]) dX9_placeOf_81 iX1_isWet vX1_isWet kX9_135 (by decide) rfl rfl rfl rfl (Nat.zero_le _) hc ?_
        refine j_if_eq (tgt := 91) dX9_placeOf_84 (by decide) (fun hc6 => ?_) (fun hc6 => ?_)
        · have h := h.1 hc6
          refine j_iconst (v := 0) dX9_placeOf_91 rfl ?_
          refine j_iret dX9_placeOf_92 rfl rfl ?_
          exact ⟨by rw [h], rfl⟩
        · have h := h.2 hc6
          refine j_iconst (v := 1) dX9_placeOf_87 rfl ?_
          refine j_goto (tgt := 92) dX9_placeOf_88 (by decide) ?_
          refine j_iret dX9_placeOf_92 rfl rfl ?_
          exact ⟨by rw [h], rfl⟩
      · have h := h.2.2.2.1 (hc.trans (by decide))
        refine j_aload_n dX9_placeOf_93 rfl ?_
        refine j_getr dX9_placeOf_94 fX9_75 rfl rfl ?_
        refine j_getr dX9_placeOf_97 fX9_139 rfl rfl ?_
        refine j_iload_n dX9_placeOf_100 rfl ?_
        obtain ⟨j7, ej7, lj7, h⟩ := h
        refine j_iald dX9_placeOf_101 rfl (zin ej7 lj7 (by decide)) ?_
        rw [zcl ej7 lj7 (by decide)]
        refine j_iret dX9_placeOf_102 rfl rfl ?_
        exact ⟨by rw [h], rfl⟩
      · have h := h.2.2.2.2.1 (hc.trans (by decide))
        refine j_aload_n dX9_placeOf_103 rfl ?_
        refine j_getr dX9_placeOf_104 fX9_19 rfl rfl ?_
        refine j_aload_n dX9_placeOf_107 rfl ?_
        refine j_getr dX9_placeOf_108 fX9_19 rfl rfl ?_
        refine j_getr dX9_placeOf_111 fX9_142 rfl rfl ?_
        refine j_iload_n dX9_placeOf_114 rfl ?_
        obtain ⟨j8, ej8, lj8, h⟩ := h
        refine j_iald dX9_placeOf_115 rfl (zin ej8 lj8 (by decide)) ?_
        rw [zcl ej8 lj8 (by decide)]
        obtain ⟨r9, hc, h⟩ := h
        refine j_cvf (lc := 0) (as := [.int (X 18 j8)]) dX9_placeOf_116 iX6_songsOf vX6_songsOf kX9_145 (by decide) rfl rfl rfl rfl (Nat.zero_le _) hc ?_
        refine j_iret dX9_placeOf_119 rfl rfl ?_
        exact ⟨by rw [h], rfl⟩
    · have h := h.2.2.2.2.2 hc
      refine j_iconst (v := (-1)) dX9_placeOf_120 rfl ?_
      refine j_iret dX9_placeOf_121 rfl rfl ?_
      exact ⟨by rw [h], rfl⟩
  · have h := h.2 hc2
    refine j_iconst (v := (-1)) dX9_placeOf_14 rfl ?_
    refine j_iret dX9_placeOf_15 rfl rfl ?_
    exact ⟨by rw [h], rfl⟩
theorem eX9_verseOf (v : Int32) (X : zX) (a1 : Int32) (a2 : Int32) (h : ∃ r1 : Int32, zPf SX 0 mX9_outside [.int a1, .int (X 4 10)] X r1 ∧ (((r1 = 0) → ((a2 = 0 → (∃ j3 : Nat, a1 = nI j3 ∧ j3 < 24 ∧ ((X 5 j3) = v))) ∧ (a2 = 1 → (∃ j4 : Nat, a1 = nI j4 ∧ j4 < 24 ∧ ((X 6 j4) = v))) ∧ (a2 = 2 → (∃ j5 : Nat, a1 = nI j5 ∧ j5 < 24 ∧ ((X 7 j5) = v))) ∧ (a2 = 3 → (∃ j6 : Nat, a1 = nI j6 ∧ j6 < 24 ∧ ((X 8 j6) = v))) ∧ (a2 = 4 → (∃ j7 : Nat, a1 = nI j7 ∧ j7 < 24 ∧ ((X 9 j7) = v))) ∧ (a2 = 5 → (∃ j8 : Nat, a1 = nI j8 ∧ j8 < 24 ∧ ((X 10 j8) = v))) ∧ (a2 = 6 → (∃ r9 : Int32, zPf SX 0 mX2_heads [.ref 19, .int a1] X r9 ∧ (r9 = v))) ∧ ((a2.toInt < 0 ∨ 6 < a2.toInt) → ((-1) = v)))) ∧ ((¬ (r1 = 0)) → ((-1) = v)))) : zPf SX 1 mX9_verseOf [.ref 0, .int a1, .int a2] X v := by
  refine zP_in [some (.ref 0), some (.int a1), some (.int a2)] ⟨rfl, rfl, rfl, trivial⟩ (by decide) (Nat.le_of_ble_eq_true rfl) ?_
  refine j_iload_n dX9_verseOf_0 rfl ?_
  refine j_aload_n dX9_verseOf_1 rfl ?_
  refine j_getr dX9_verseOf_2 fX9_19 rfl rfl ?_
  refine j_getf dX9_verseOf_5 fX9_108 rfl rfl ?_
  obtain ⟨r1, hc, h⟩ := h
  refine j_csf (lc := 0) (as := [.int a1, .int (X 4 10)]) dX9_verseOf_8 iX9_outside sX9_outside kX9_83 (by decide) rfl rfl (Nat.zero_le _) hc ?_
  refine j_if_eq (tgt := 16) dX9_verseOf_11 (by decide) (fun hc2 => ?_) (fun hc2 => ?_)
  · have h := h.1 hc2
    refine j_iload_n dX9_verseOf_16 rfl ?_
    refine j_tsw (dt := 129) [60, 70, 80, 90, 100, 110, 120] dX9_verseOf_17 (by decide) (by decide) (by decide) ?_ (fun hc => ?_)
    · refine ⟨fun hc => ?_, fun hc => ?_, fun hc => ?_, fun hc => ?_, fun hc => ?_, fun hc => ?_, fun hc => ?_, trivial⟩
      · have h := h.1 (hc.trans (by decide))
        refine j_aload_n dX9_verseOf_60 rfl ?_
        refine j_getr dX9_verseOf_61 fX9_19 rfl rfl ?_
        refine j_getr dX9_verseOf_64 fX9_148 rfl rfl ?_
        refine j_iload_n dX9_verseOf_67 rfl ?_
        obtain ⟨j3, ej3, lj3, h⟩ := h
        refine j_iald dX9_verseOf_68 rfl (zin ej3 lj3 (by decide)) ?_
        rw [zcl ej3 lj3 (by decide)]
        refine j_iret dX9_verseOf_69 rfl rfl ?_
        exact ⟨by rw [h], rfl⟩
      · have h := h.2.1 (hc.trans (by decide))
        refine j_aload_n dX9_verseOf_70 rfl ?_
        refine j_getr dX9_verseOf_71 fX9_19 rfl rfl ?_
        refine j_getr dX9_verseOf_74 fX9_151 rfl rfl ?_
        refine j_iload_n dX9_verseOf_77 rfl ?_
        obtain ⟨j4, ej4, lj4, h⟩ := h
        refine j_iald dX9_verseOf_78 rfl (zin ej4 lj4 (by decide)) ?_
        rw [zcl ej4 lj4 (by decide)]
        refine j_iret dX9_verseOf_79 rfl rfl ?_
        exact ⟨by rw [h], rfl⟩
      · have h := h.2.2.1 (hc.trans (by decide))
        refine j_aload_n dX9_verseOf_80 rfl ?_
        refine j_getr dX9_verseOf_81 fX9_19 rfl rfl ?_
        refine j_getr dX9_verseOf_84 fX9_154 rfl rfl ?_
        refine j_iload_n dX9_verseOf_87 rfl ?_
        obtain ⟨j5, ej5, lj5, h⟩ := h
        refine j_iald dX9_verseOf_88 rfl (zin ej5 lj5 (by decide)) ?_
        rw [zcl ej5 lj5 (by decide)]
        refine j_iret dX9_verseOf_89 rfl rfl ?_
        exact ⟨by rw [h], rfl⟩
      · have h := h.2.2.2.1 (hc.trans (by decide))
        refine j_aload_n dX9_verseOf_90 rfl ?_
        refine j_getr dX9_verseOf_91 fX9_19 rfl rfl ?_
        refine j_getr dX9_verseOf_94 fX9_157 rfl rfl ?_
        refine j_iload_n dX9_verseOf_97 rfl ?_
        obtain ⟨j6, ej6, lj6, h⟩ := h
        refine j_iald dX9_verseOf_98 rfl (zin ej6 lj6 (by decide)) ?_
        rw [zcl ej6 lj6 (by decide)]
        refine j_iret dX9_verseOf_99 rfl rfl ?_
        exact ⟨by rw [h], rfl⟩
      · have h := h.2.2.2.2.1 (hc.trans (by decide))
        refine j_aload_n dX9_verseOf_100 rfl ?_
        refine j_getr dX9_verseOf_101 fX9_19 rfl rfl ?_
        refine j_getr dX9_verseOf_104 fX9_160 rfl rfl ?_
        refine j_iload_n dX9_verseOf_107 rfl ?_
        obtain ⟨j7, ej7, lj7, h⟩ := h
        refine j_iald dX9_verseOf_108 rfl (zin ej7 lj7 (by decide)) ?_
        rw [zcl ej7 lj7 (by decide)]
        refine j_iret dX9_verseOf_109 rfl rfl ?_
        exact ⟨by rw [h], rfl⟩
      · have h := h.2.2.2.2.2.1 (hc.trans (by decide))
        refine j_aload_n dX9_verseOf_110 rfl ?_
        refine j_getr dX9_verseOf_111 fX9_19 rfl rfl ?_
        refine j_getr dX9_verseOf_114 fX9_163 rfl rfl ?_
        refine j_iload_n dX9_verseOf_117 rfl ?_
        obtain ⟨j8, ej8, lj8, h⟩ := h
        refine j_iald dX9_verseOf_118 rfl (zin ej8 lj8 (by decide)) ?_
        rw [zcl ej8 lj8 (by decide)]
        refine j_iret dX9_verseOf_119 rfl rfl ?_
        exact ⟨by rw [h], rfl⟩
      · have h := h.2.2.2.2.2.2.1 (hc.trans (by decide))
        refine j_aload_n dX9_verseOf_120 rfl ?_
        refine j_getr dX9_verseOf_121 fX9_26 rfl rfl ?_
        refine j_iload_n dX9_verseOf_124 rfl ?_
        obtain ⟨r9, hc, h⟩ := h
        refine j_cvf (lc := 0) (as := [.int a1]) dX9_verseOf_125 iX2_heads vX2_heads kX9_166 (by decide) rfl rfl rfl rfl (Nat.zero_le _) hc ?_
        refine j_iret dX9_verseOf_128 rfl rfl ?_
        exact ⟨by rw [h], rfl⟩
    · have h := h.2.2.2.2.2.2.2 hc
      refine j_iconst (v := (-1)) dX9_verseOf_129 rfl ?_
      refine j_iret dX9_verseOf_130 rfl rfl ?_
      exact ⟨by rw [h], rfl⟩
  · have h := h.2 hc2
    refine j_iconst (v := (-1)) dX9_verseOf_14 rfl ?_
    refine j_iret dX9_verseOf_15 rfl rfl ?_
    exact ⟨by rw [h], rfl⟩
theorem eX9_oneOf (v : Int32) (X : zX) (a1 : Int32) (a2 : Int32) (h : ∃ r1 : Int32, zPf SX 0 mX9_outside [.int a1, .int (X 19 5)] X r1 ∧ (((r1 = 0) → ((a2 = 0 → (∃ j3 : Nat, a1 = nI j3 ∧ j3 < 8 ∧ ((X 20 j3) = v))) ∧ (a2 = 1 → (∃ j4 : Nat, a1 = nI j4 ∧ j4 < 8 ∧ ((((X 24 j4) = 0) → ((-4) = v)) ∧ ((¬ ((X 24 j4) = 0)) → (∃ r6 : Int32, zPf SX 0 mX9_ageNow [.ref 0, .int a1] X r6 ∧ (r6 = v)))))) ∧ (a2 = 2 → (∃ j7 : Nat, a1 = nI j7 ∧ j7 < 8 ∧ ((X 22 j7) = v))) ∧ (a2 = 3 → (∃ j8 : Nat, a1 = nI j8 ∧ j8 < 8 ∧ ((X 23 j8) = v))) ∧ ((a2.toInt < 0 ∨ 3 < a2.toInt) → ((-1) = v)))) ∧ ((¬ (r1 = 0)) → ((-1) = v)))) : zPf SX 1 mX9_oneOf [.ref 0, .int a1, .int a2] X v := by
  refine zP_in [some (.ref 0), some (.int a1), some (.int a2)] ⟨rfl, rfl, rfl, trivial⟩ (by decide) (Nat.le_of_ble_eq_true rfl) ?_
  refine j_iload_n dX9_oneOf_0 rfl ?_
  refine j_aload_n dX9_oneOf_1 rfl ?_
  refine j_getr dX9_oneOf_2 fX9_26 rfl rfl ?_
  refine j_getf dX9_oneOf_5 fX9_107 rfl rfl ?_
  obtain ⟨r1, hc, h⟩ := h
  refine j_csf (lc := 0) (as := [.int a1, .int (X 19 5)]) dX9_oneOf_8 iX9_outside sX9_outside kX9_83 (by decide) rfl rfl (Nat.zero_le _) hc ?_
  refine j_if_eq (tgt := 16) dX9_oneOf_11 (by decide) (fun hc2 => ?_) (fun hc2 => ?_)
  · have h := h.1 hc2
    refine j_iload_n dX9_oneOf_16 rfl ?_
    refine j_tsw (dt := 101) [48, 58, 81, 91] dX9_oneOf_17 (by decide) (by decide) (by decide) ?_ (fun hc => ?_)
    · refine ⟨fun hc => ?_, fun hc => ?_, fun hc => ?_, fun hc => ?_, trivial⟩
      · have h := h.1 (hc.trans (by decide))
        refine j_aload_n dX9_oneOf_48 rfl ?_
        refine j_getr dX9_oneOf_49 fX9_26 rfl rfl ?_
        refine j_getr dX9_oneOf_52 fX9_169 rfl rfl ?_
        refine j_iload_n dX9_oneOf_55 rfl ?_
        obtain ⟨j3, ej3, lj3, h⟩ := h
        refine j_iald dX9_oneOf_56 rfl (zin ej3 lj3 (by decide)) ?_
        rw [zcl ej3 lj3 (by decide)]
        refine j_iret dX9_oneOf_57 rfl rfl ?_
        exact ⟨by rw [h], rfl⟩
      · have h := h.2.1 (hc.trans (by decide))
        refine j_aload_n dX9_oneOf_58 rfl ?_
        refine j_getr dX9_oneOf_59 fX9_26 rfl rfl ?_
        refine j_getr dX9_oneOf_62 fX9_109 rfl rfl ?_
        refine j_iload_n dX9_oneOf_65 rfl ?_
        obtain ⟨j4, ej4, lj4, h⟩ := h
        refine j_zald dX9_oneOf_66 rfl (zin ej4 lj4 (by decide)) ?_
        rw [zcl ej4 lj4 (by decide)]
        refine j_if_eq (tgt := 78) dX9_oneOf_67 (by decide) (fun hc5 => ?_) (fun hc5 => ?_)
        · have h := h.1 hc5
          refine j_bipush (v := (-4)) dX9_oneOf_78 rfl ?_
          refine j_iret dX9_oneOf_80 rfl rfl ?_
          exact ⟨by rw [h], rfl⟩
        · have h := h.2 hc5
          refine j_aload_n dX9_oneOf_70 rfl ?_
          refine j_iload_n dX9_oneOf_71 rfl ?_
          obtain ⟨r6, hc, h⟩ := h
          refine j_cvf (lc := 0) (as := [.int a1]) dX9_oneOf_72 iX9_ageNow vX9_ageNow kX9_172 (by decide) rfl rfl rfl rfl (Nat.zero_le _) hc ?_
          refine j_goto (tgt := 80) dX9_oneOf_75 (by decide) ?_
          refine j_iret dX9_oneOf_80 rfl rfl ?_
          exact ⟨by rw [h], rfl⟩
      · have h := h.2.2.1 (hc.trans (by decide))
        refine j_aload_n dX9_oneOf_81 rfl ?_
        refine j_getr dX9_oneOf_82 fX9_26 rfl rfl ?_
        refine j_getr dX9_oneOf_85 fX9_175 rfl rfl ?_
        refine j_iload_n dX9_oneOf_88 rfl ?_
        obtain ⟨j7, ej7, lj7, h⟩ := h
        refine j_iald dX9_oneOf_89 rfl (zin ej7 lj7 (by decide)) ?_
        rw [zcl ej7 lj7 (by decide)]
        refine j_iret dX9_oneOf_90 rfl rfl ?_
        exact ⟨by rw [h], rfl⟩
      · have h := h.2.2.2.1 (hc.trans (by decide))
        refine j_aload_n dX9_oneOf_91 rfl ?_
        refine j_getr dX9_oneOf_92 fX9_26 rfl rfl ?_
        refine j_getr dX9_oneOf_95 fX9_113 rfl rfl ?_
        refine j_iload_n dX9_oneOf_98 rfl ?_
        obtain ⟨j8, ej8, lj8, h⟩ := h
        refine j_iald dX9_oneOf_99 rfl (zin ej8 lj8 (by decide)) ?_
        rw [zcl ej8 lj8 (by decide)]
        refine j_iret dX9_oneOf_100 rfl rfl ?_
        exact ⟨by rw [h], rfl⟩
    · have h := h.2.2.2.2 hc
      refine j_iconst (v := (-1)) dX9_oneOf_101 rfl ?_
      refine j_iret dX9_oneOf_102 rfl rfl ?_
      exact ⟨by rw [h], rfl⟩
  · have h := h.2 hc2
    refine j_iconst (v := (-1)) dX9_oneOf_14 rfl ?_
    refine j_iret dX9_oneOf_15 rfl rfl ?_
    exact ⟨by rw [h], rfl⟩
theorem eX9_feed (P : Int32 → zX → Prop) (X : zX) (a1 : Int64) (h : ∃ Qr1 : Int32 → zX → Prop, zPi SX 0 mX7_append [.ref 25, .long a1] X Qr1 ∧ ∀ (r1 : Int32) (M2 : zX), Qr1 r1 M2 → (P r1 M2)) : zPi SX 1 mX9_feed [.ref 0, .long a1] X P := by
  refine zP_in [some (.ref 0), some (.long a1), none] ⟨rfl, rfl, trivial⟩ (by decide) (Nat.le_of_ble_eq_true rfl) ?_
  refine j_aload_n dX9_feed_0 rfl ?_
  refine j_getr dX9_feed_1 fX9_33 rfl rfl ?_
  refine j_lload_n dX9_feed_4 rfl ?_
  obtain ⟨_, hc, h⟩ := h
  refine j_cvi (lc := 0) (as := [.long a1]) dX9_feed_5 iX7_append vX7_append kX9_178 (by decide) rfl rfl rfl rfl (Nat.zero_le _) hc (fun r1 M2 hr => ?_)
  have h := h _ _ hr
  refine j_iret dX9_feed_8 rfl rfl ?_
  exact ⟨_, rfl, h⟩
theorem eX9_end (P : Int32 → zX → Prop) (X : zX) (a1 : Int32) (h : ∃ Qr1 : Int32 → zX → Prop, zPi SX 0 mX7_shorten [.ref 25, .int a1] X Qr1 ∧ ∀ (r1 : Int32) (M2 : zX), Qr1 r1 M2 → (P r1 M2)) : zPi SX 1 mX9_end [.ref 0, .int a1] X P := by
  refine zP_in [some (.ref 0), some (.int a1)] ⟨rfl, rfl, trivial⟩ (by decide) (Nat.le_of_ble_eq_true rfl) ?_
  refine j_aload_n dX9_end_0 rfl ?_
  refine j_getr dX9_end_1 fX9_33 rfl rfl ?_
  refine j_iload_n dX9_end_4 rfl ?_
  obtain ⟨_, hc, h⟩ := h
  refine j_cvi (lc := 0) (as := [.int a1]) dX9_end_5 iX7_shorten vX7_shorten kX9_182 (by decide) rfl rfl rfl rfl (Nat.zero_le _) hc (fun r1 M2 hr => ?_)
  have h := h _ _ hr
  refine j_iret dX9_end_8 rfl rfl ?_
  exact ⟨_, rfl, h⟩
theorem eX9_fault (v : Int32) (X : zX)  (h : (X 0 11) = v) : zPf SX 0 mX9_fault [.ref 0] X v := by
  refine zP_in [some (.ref 0)] ⟨rfl, trivial⟩ (by decide) (Nat.le_of_ble_eq_true rfl) ?_
  refine j_aload_n dX9_fault_0 rfl ?_
  refine j_getf dX9_fault_1 fX9_192 rfl rfl ?_
  refine j_iret dX9_fault_4 rfl rfl ?_
  exact ⟨by rw [h], rfl⟩
theorem eX9_rule (v : Int32) (X : zX) (a1 : Int32) (h : ((¬ a1 = 0) → (((¬ a1 = 1) → (((¬ a1 = 2) → (((a1 < 10) → (((a1 < 30) → ((-1) = v)) ∧ ((¬ (a1 < 30)) → (((54 ≤ a1) → ((-1) = v)) ∧ ((¬ (54 ≤ a1)) → (∃ j7 : Nat, (a1 - 30) = nI j7 ∧ j7 < 24 ∧ ((X 56 j7) = v))))))) ∧ ((¬ (a1 < 10)) → (((18 ≤ a1) → (((a1 < 30) → ((-1) = v)) ∧ ((¬ (a1 < 30)) → (((54 ≤ a1) → ((-1) = v)) ∧ ((¬ (54 ≤ a1)) → (∃ j11 : Nat, (a1 - 30) = nI j11 ∧ j11 < 24 ∧ ((X 56 j11) = v))))))) ∧ ((¬ (18 ≤ a1)) → (∃ j12 : Nat, (a1 - 10) = nI j12 ∧ j12 < 8 ∧ ((X 55 j12) = v))))))) ∧ ((a1 = 2) → ((X 54 5) = v)))) ∧ ((a1 = 1) → ((X 54 4) = v)))) ∧ ((a1 = 0) → ((X 54 3) = v))) : zPf SX 0 mX9_rule [.ref 0, .int a1] X v := by
  refine zP_in [some (.ref 0), some (.int a1)] ⟨rfl, rfl, trivial⟩ (by decide) (Nat.le_of_ble_eq_true rfl) ?_
  refine j_iload_n dX9_rule_0 rfl ?_
  refine j_if_ne (tgt := 12) dX9_rule_1 (by decide) (fun hc1 => ?_) (fun hc1 => ?_)
  · have h := h.1 hc1
    refine j_iload_n dX9_rule_12 rfl ?_
    refine j_iconst (v := 1) dX9_rule_13 rfl ?_
    refine j_ic_ne (tgt := 25) dX9_rule_14 (by decide) (fun hc2 => ?_) (fun hc2 => ?_)
    · have h := h.1 hc2
      refine j_iload_n dX9_rule_25 rfl ?_
      refine j_iconst (v := 2) dX9_rule_26 rfl ?_
      refine j_ic_ne (tgt := 38) dX9_rule_27 (by decide) (fun hc3 => ?_) (fun hc3 => ?_)
      · have h := h.1 hc3
        refine j_iload_n dX9_rule_38 rfl ?_
        refine j_bipush (v := 10) dX9_rule_39 rfl ?_
        refine j_ic_lt (tgt := 63) dX9_rule_41 (by decide) (fun hc4 => ?_) (fun hc4 => ?_)
        · have h := h.1 hc4
          refine j_iload_n dX9_rule_63 rfl ?_
          refine j_bipush (v := 30) dX9_rule_64 rfl ?_
          refine j_ic_lt (tgt := 88) dX9_rule_66 (by decide) (fun hc5 => ?_) (fun hc5 => ?_)
          · have h := h.1 hc5
            refine j_iconst (v := (-1)) dX9_rule_88 rfl ?_
            refine j_iret dX9_rule_89 rfl rfl ?_
            exact ⟨by rw [h], rfl⟩
          · have h := h.2 hc5
            refine j_iload_n dX9_rule_69 rfl ?_
            refine j_bipush (v := 54) dX9_rule_70 rfl ?_
            refine j_ic_ge (tgt := 88) dX9_rule_72 (by decide) (fun hc6 => ?_) (fun hc6 => ?_)
            · have h := h.1 hc6
              refine j_iconst (v := (-1)) dX9_rule_88 rfl ?_
              refine j_iret dX9_rule_89 rfl rfl ?_
              exact ⟨by rw [h], rfl⟩
            · have h := h.2 hc6
              refine j_aload_n dX9_rule_75 rfl ?_
              refine j_getr dX9_rule_76 fX9_75 rfl rfl ?_
              refine j_getr dX9_rule_79 fX9_212 rfl rfl ?_
              refine j_iload_n dX9_rule_82 rfl ?_
              refine j_bipush (v := 30) dX9_rule_83 rfl ?_
              refine j_isub dX9_rule_85 ?_
              obtain ⟨j7, ej7, lj7, h⟩ := h
              refine j_iald dX9_rule_86 rfl (zin ej7 lj7 (by decide)) ?_
              rw [zcl ej7 lj7 (by decide)]
              refine j_iret dX9_rule_87 rfl rfl ?_
              exact ⟨by rw [h], rfl⟩
        · have h := h.2 hc4
          refine j_iload_n dX9_rule_44 rfl ?_
          refine j_bipush (v := 18) dX9_rule_45 rfl ?_
          refine j_ic_ge (tgt := 63) dX9_rule_47 (by decide) (fun hc8 => ?_) (fun hc8 => ?_)
          · have h := h.1 hc8
            refine j_iload_n dX9_rule_63 rfl ?_
            refine j_bipush (v := 30) dX9_rule_64 rfl ?_
            refine j_ic_lt (tgt := 88) dX9_rule_66 (by decide) (fun hc9 => ?_) (fun hc9 => ?_)
            · have h := h.1 hc9
              refine j_iconst (v := (-1)) dX9_rule_88 rfl ?_
              refine j_iret dX9_rule_89 rfl rfl ?_
              exact ⟨by rw [h], rfl⟩
            · have h := h.2 hc9
              refine j_iload_n dX9_rule_69 rfl ?_
              refine j_bipush (v := 54) dX9_rule_70 rfl ?_
              refine j_ic_ge (tgt := 88) dX9_rule_72 (by decide) (fun hc10 => ?_) (fun hc10 => ?_)
              · have h := h.1 hc10
                refine j_iconst (v := (-1)) dX9_rule_88 rfl ?_
                refine j_iret dX9_rule_89 rfl rfl ?_
                exact ⟨by rw [h], rfl⟩
              · have h := h.2 hc10
                refine j_aload_n dX9_rule_75 rfl ?_
                refine j_getr dX9_rule_76 fX9_75 rfl rfl ?_
                refine j_getr dX9_rule_79 fX9_212 rfl rfl ?_
                refine j_iload_n dX9_rule_82 rfl ?_
                refine j_bipush (v := 30) dX9_rule_83 rfl ?_
                refine j_isub dX9_rule_85 ?_
                obtain ⟨j11, ej11, lj11, h⟩ := h
                refine j_iald dX9_rule_86 rfl (zin ej11 lj11 (by decide)) ?_
                rw [zcl ej11 lj11 (by decide)]
                refine j_iret dX9_rule_87 rfl rfl ?_
                exact ⟨by rw [h], rfl⟩
          · have h := h.2 hc8
            refine j_aload_n dX9_rule_50 rfl ?_
            refine j_getr dX9_rule_51 fX9_75 rfl rfl ?_
            refine j_getr dX9_rule_54 fX9_209 rfl rfl ?_
            refine j_iload_n dX9_rule_57 rfl ?_
            refine j_bipush (v := 10) dX9_rule_58 rfl ?_
            refine j_isub dX9_rule_60 ?_
            obtain ⟨j12, ej12, lj12, h⟩ := h
            refine j_iald dX9_rule_61 rfl (zin ej12 lj12 (by decide)) ?_
            rw [zcl ej12 lj12 (by decide)]
            refine j_iret dX9_rule_62 rfl rfl ?_
            exact ⟨by rw [h], rfl⟩
      · have h := h.2 hc3
        refine j_aload_n dX9_rule_30 rfl ?_
        refine j_getr dX9_rule_31 fX9_75 rfl rfl ?_
        refine j_getf dX9_rule_34 fX9_206 rfl rfl ?_
        refine j_iret dX9_rule_37 rfl rfl ?_
        exact ⟨by rw [h], rfl⟩
    · have h := h.2 hc2
      refine j_aload_n dX9_rule_17 rfl ?_
      refine j_getr dX9_rule_18 fX9_75 rfl rfl ?_
      refine j_getf dX9_rule_21 fX9_203 rfl rfl ?_
      refine j_iret dX9_rule_24 rfl rfl ?_
      exact ⟨by rw [h], rfl⟩
  · have h := h.2 hc1
    refine j_aload_n dX9_rule_4 rfl ?_
    refine j_getr dX9_rule_5 fX9_75 rfl rfl ?_
    refine j_getf dX9_rule_8 fX9_200 rfl rfl ?_
    refine j_iret dX9_rule_11 rfl rfl ?_
    exact ⟨by rw [h], rfl⟩
theorem eX9_may (v : Int32) (X : zX) (a1 : Int32) (a2 : Int32) (h : ∃ r1 : Int32, zPf SX 0 mX9_outside [.int a1, .int (X 19 5)] X r1 ∧ (((¬ r1 = 0) → ((-1) = v)) ∧ ((r1 = 0) → (∃ r3 : Int32, zPf SX 0 mX9_outside [.int a2, .int 2] X r3 ∧ (((r3 = 0) → (((¬ a2 = 0) → (∃ r6 : Int32, zPf SX 1 mX9_singable [.ref 0, .int a1] X r6 ∧ (r6 = v))) ∧ ((a2 = 0) → (∃ r7 : Int32, zPf SX 0 mX9_hearable [.ref 0, .int a1] X r7 ∧ (r7 = v))))) ∧ ((¬ (r3 = 0)) → ((-1) = v))))))) : zPf SX 2 mX9_may [.ref 0, .int a1, .int a2] X v := by
  refine zP_in [some (.ref 0), some (.int a1), some (.int a2)] ⟨rfl, rfl, rfl, trivial⟩ (by decide) (Nat.le_of_ble_eq_true rfl) ?_
  refine j_iload_n dX9_may_0 rfl ?_
  refine j_aload_n dX9_may_1 rfl ?_
  refine j_getr dX9_may_2 fX9_26 rfl rfl ?_
  refine j_getf dX9_may_5 fX9_107 rfl rfl ?_
  obtain ⟨r1, hc, h⟩ := h
  refine j_csf (lc := 0) (as := [.int a1, .int (X 19 5)]) dX9_may_8 iX9_outside sX9_outside kX9_83 (by decide) rfl rfl (Nat.zero_le _) hc ?_
  refine j_if_ne (tgt := 22) dX9_may_11 (by decide) (fun hc2 => ?_) (fun hc2 => ?_)
  · have h := h.1 hc2
    refine j_iconst (v := (-1)) dX9_may_22 rfl ?_
    refine j_iret dX9_may_23 rfl rfl ?_
    exact ⟨by rw [h], rfl⟩
  · have h := h.2 hc2
    refine j_iload_n dX9_may_14 rfl ?_
    refine j_iconst (v := 2) dX9_may_15 rfl ?_
    obtain ⟨r3, hc, h⟩ := h
    refine j_csf (lc := 0) (as := [.int a2, .int 2]) dX9_may_16 iX9_outside sX9_outside kX9_83 (by decide) rfl rfl (Nat.zero_le _) hc ?_
    refine j_if_eq (tgt := 24) dX9_may_19 (by decide) (fun hc4 => ?_) (fun hc4 => ?_)
    · have h := h.1 hc4
      refine j_iload_n dX9_may_24 rfl ?_
      refine j_if_ne (tgt := 36) dX9_may_25 (by decide) (fun hc5 => ?_) (fun hc5 => ?_)
      · have h := h.1 hc5
        refine j_aload_n dX9_may_36 rfl ?_
        refine j_iload_n dX9_may_37 rfl ?_
        obtain ⟨r6, hc, h⟩ := h
        refine j_cvf (lc := 1) (as := [.int a1]) dX9_may_38 iX9_singable vX9_singable kX9_218 (by decide) rfl rfl rfl rfl (Nat.zero_le _) hc ?_
        refine j_iret dX9_may_41 rfl rfl ?_
        exact ⟨by rw [h], rfl⟩
      · have h := h.2 hc5
        refine j_aload_n dX9_may_28 rfl ?_
        refine j_iload_n dX9_may_29 rfl ?_
        obtain ⟨r7, hc, h⟩ := h
        refine j_cvf (lc := 0) (as := [.int a1]) dX9_may_30 iX9_hearable vX9_hearable kX9_215 (by decide) rfl rfl rfl rfl (Nat.zero_le _) hc ?_
        refine j_goto (tgt := 41) dX9_may_33 (by decide) ?_
        refine j_iret dX9_may_41 rfl rfl ?_
        exact ⟨by rw [h], rfl⟩
    · have h := h.2 hc4
      refine j_iconst (v := (-1)) dX9_may_22 rfl ?_
      refine j_iret dX9_may_23 rfl rfl ?_
      exact ⟨by rw [h], rfl⟩
theorem eX9_asks (v : Int32) (X : zX) (a1 : Int32) (a2 : Int32) (a3 : Int32) (h : ∃ r1 : Int32, zPf SX 0 mX9_outside [.int a1, .int (X 19 5)] X r1 ∧ (((¬ r1 = 0) → ((-1) = v)) ∧ ((r1 = 0) → (∃ r3 : Int32, zPf SX 0 mX9_outside [.int a2, .int 4] X r3 ∧ (((r3 = 0) → (∃ j5 : Nat, a2 = nI j5 ∧ j5 < 4 ∧ (∃ r6 : Int32, zPf SX 0 mX9_hearable [.ref 0, .int a1] X r6 ∧ ((a3 = 0 → (((X 17 j5) &&& r6) = v)) ∧ (a3 = 1 → (∃ r7 : Int32, zPf SX 0 mJ6_bitCount_0f7a4 [.int ((X 17 j5) &&& (((X 17 j5) &&& r6) ^^^ (-1)))] X r7 ∧ (r7 = v))) ∧ (a3 = 2 → (∃ r8 : Int32, zPf SX 0 mX6_placesOf [.ref 4, .int ((X 17 j5) &&& r6)] X r8 ∧ (r8 = v))) ∧ (a3 = 3 → (∃ j9 : Nat, a1 = nI j9 ∧ j9 < 8 ∧ (∃ r10 : Int32, zPf SX 0 mX6_firstForeign [.ref 4, .int ((X 17 j5) &&& r6), .int (X 22 j9)] X r10 ∧ (r10 = v)))) ∧ ((a3.toInt < 0 ∨ 3 < a3.toInt) → ((-1) = v)))))) ∧ ((¬ (r3 = 0)) → ((-1) = v))))))) : zPf SX 1 mX9_asks [.ref 0, .int a1, .int a2, .int a3] X v := by
  refine zP_in [some (.ref 0), some (.int a1), some (.int a2), some (.int a3), none, none] ⟨rfl, rfl, rfl, rfl, trivial⟩ (by decide) (Nat.le_of_ble_eq_true rfl) ?_
  refine j_iload_n dX9_asks_0 rfl ?_
  refine j_aload_n dX9_asks_1 rfl ?_
  refine j_getr dX9_asks_2 fX9_26 rfl rfl ?_
  refine j_getf dX9_asks_5 fX9_107 rfl rfl ?_
  obtain ⟨r1, hc, h⟩ := h
  refine j_csf (lc := 0) (as := [.int a1, .int (X 19 5)]) dX9_asks_8 iX9_outside sX9_outside kX9_83 (by decide) rfl rfl (Nat.zero_le _) hc ?_
  refine j_if_ne (tgt := 22) dX9_asks_11 (by decide) (fun hc2 => ?_) (fun hc2 => ?_)
  · have h := h.1 hc2
    refine j_iconst (v := (-1)) dX9_asks_22 rfl ?_
    refine j_iret dX9_asks_23 rfl rfl ?_
    exact ⟨by rw [h], rfl⟩
  · have h := h.2 hc2
    refine j_iload_n dX9_asks_14 rfl ?_
    refine j_iconst (v := 4) dX9_asks_15 rfl ?_
    obtain ⟨r3, hc, h⟩ := h
    refine j_csf (lc := 0) (as := [.int a2, .int 4]) dX9_asks_16 iX9_outside sX9_outside kX9_83 (by decide) rfl rfl (Nat.zero_le _) hc ?_
    refine j_if_eq (tgt := 24) dX9_asks_19 (by decide) (fun hc4 => ?_) (fun hc4 => ?_)
    · have h := h.1 hc4
      refine j_aload_n dX9_asks_24 rfl ?_
      refine j_getr dX9_asks_25 fX9_19 rfl rfl ?_
      refine j_getr dX9_asks_28 fX9_221 rfl rfl ?_
      refine j_iload_n dX9_asks_31 rfl ?_
      obtain ⟨j5, ej5, lj5, h⟩ := h
      refine j_iald dX9_asks_32 rfl (zin ej5 lj5 (by decide)) ?_
      rw [zcl ej5 lj5 (by decide)]
      refine j_istore (L2 := [some (.ref 0), some (.int a1), some (.int a2), some (.int a3), some (.int (X 17 j5)), none]) dX9_asks_33 (by decide) (zno rfl) rfl ?_
      refine j_iload dX9_asks_35 rfl ?_
      refine j_aload_n dX9_asks_37 rfl ?_
      refine j_iload_n dX9_asks_38 rfl ?_
      obtain ⟨r6, hc, h⟩ := h
      refine j_cvf (lc := 0) (as := [.int a1]) dX9_asks_39 iX9_hearable vX9_hearable kX9_215 (by decide) rfl rfl rfl rfl (by simp [Value.category]) hc ?_
      refine j_iand dX9_asks_42 ?_
      refine j_istore (L2 := [some (.ref 0), some (.int a1), some (.int a2), some (.int a3), some (.int (X 17 j5)), some (.int ((X 17 j5) &&& r6))]) dX9_asks_43 (by decide) (zno rfl) rfl ?_
      refine j_iload_n dX9_asks_45 rfl ?_
      refine j_tsw (dt := 119) [76, 79, 90, 100] dX9_asks_46 (by decide) (by decide) (by decide) ?_ (fun hc => ?_)
      · refine ⟨fun hc => ?_, fun hc => ?_, fun hc => ?_, fun hc => ?_, trivial⟩
        · have h := h.1 (hc.trans (by decide))
          refine j_iload dX9_asks_76 rfl ?_
          refine j_iret dX9_asks_78 rfl rfl ?_
          exact ⟨by rw [h], rfl⟩
        · have h := h.2.1 (hc.trans (by decide))
          refine j_iload dX9_asks_79 rfl ?_
          refine j_iload dX9_asks_81 rfl ?_
          refine j_iconst (v := (-1)) dX9_asks_83 rfl ?_
          refine j_ixor dX9_asks_84 ?_
          refine j_iand dX9_asks_85 ?_
          obtain ⟨r7, hc, h⟩ := h
          refine j_csf (lc := 0) (as := [.int ((X 17 j5) &&& (((X 17 j5) &&& r6) ^^^ (-1)))]) dX9_asks_86 iJ6_bitCount_0f7a4 sJ6_bitCount_0f7a4 kX9_120 (by decide) rfl rfl (Nat.zero_le _) hc ?_
          refine j_iret dX9_asks_89 rfl rfl ?_
          exact ⟨by rw [h], rfl⟩
        · have h := h.2.2.1 (hc.trans (by decide))
          refine j_aload_n dX9_asks_90 rfl ?_
          refine j_getr dX9_asks_91 fX9_19 rfl rfl ?_
          refine j_iload dX9_asks_94 rfl ?_
          obtain ⟨r8, hc, h⟩ := h
          refine j_cvf (lc := 0) (as := [.int ((X 17 j5) &&& r6)]) dX9_asks_96 iX6_placesOf vX6_placesOf kX9_224 (by decide) rfl rfl rfl rfl (Nat.zero_le _) hc ?_
          refine j_iret dX9_asks_99 rfl rfl ?_
          exact ⟨by rw [h], rfl⟩
        · have h := h.2.2.2.1 (hc.trans (by decide))
          refine j_aload_n dX9_asks_100 rfl ?_
          refine j_getr dX9_asks_101 fX9_19 rfl rfl ?_
          refine j_iload dX9_asks_104 rfl ?_
          refine j_aload_n dX9_asks_106 rfl ?_
          refine j_getr dX9_asks_107 fX9_26 rfl rfl ?_
          refine j_getr dX9_asks_110 fX9_175 rfl rfl ?_
          refine j_iload_n dX9_asks_113 rfl ?_
          obtain ⟨j9, ej9, lj9, h⟩ := h
          refine j_iald dX9_asks_114 rfl (zin ej9 lj9 (by decide)) ?_
          rw [zcl ej9 lj9 (by decide)]
          obtain ⟨r10, hc, h⟩ := h
          refine j_cvf (lc := 0) (as := [.int ((X 17 j5) &&& r6), .int (X 22 j9)]) dX9_asks_115 iX6_firstForeign vX6_firstForeign kX9_227 (by decide) rfl rfl rfl rfl (Nat.zero_le _) hc ?_
          refine j_iret dX9_asks_118 rfl rfl ?_
          exact ⟨by rw [h], rfl⟩
      · have h := h.2.2.2.2 hc
        refine j_iconst (v := (-1)) dX9_asks_119 rfl ?_
        refine j_iret dX9_asks_120 rfl rfl ?_
        exact ⟨by rw [h], rfl⟩
    · have h := h.2 hc4
      refine j_iconst (v := (-1)) dX9_asks_22 rfl ?_
      refine j_iret dX9_asks_23 rfl rfl ?_
      exact ⟨by rw [h], rfl⟩
theorem eX9_led (P : Int32 → zX → Prop) (X : zX) (a1 : Int32) (h : ∃ r1 : Int32, zPf SX 1 mX9_noSuchPeople [.ref 0, .int a1] X r1 ∧ (((r1 = 0) → (∃ Qr3 : Int32 → zX → Prop, zPi SX 3 mX9_ledBy [.ref 0, .int a1] X Qr3 ∧ ∀ (r3 : Int32) (M4 : zX), Qr3 r3 M4 → (P r3 M4))) ∧ ((¬ (r1 = 0)) → (P (-1) X)))) : zPi SX 4 mX9_led [.ref 0, .int a1] X P := by
  refine zP_in [some (.ref 0), some (.int a1)] ⟨rfl, rfl, trivial⟩ (by decide) (Nat.le_of_ble_eq_true rfl) ?_
  refine j_aload_n dX9_led_0 rfl ?_
  refine j_iload_n dX9_led_1 rfl ?_
  obtain ⟨r1, hc, h⟩ := h
  refine j_cvf (lc := 1) (as := [.int a1]) dX9_led_2 iX9_noSuchPeople vX9_noSuchPeople kX9_230 (by decide) rfl rfl rfl rfl (Nat.zero_le _) hc ?_
  refine j_if_eq (tgt := 12) dX9_led_5 (by decide) (fun hc2 => ?_) (fun hc2 => ?_)
  · have h := h.1 hc2
    refine j_aload_n dX9_led_12 rfl ?_
    refine j_iload_n dX9_led_13 rfl ?_
    obtain ⟨_, hc, h⟩ := h
    refine j_cvi (lc := 3) (as := [.int a1]) dX9_led_14 iX9_ledBy vX9_ledBy kX9_234 (by decide) rfl rfl rfl rfl (Nat.zero_le _) hc (fun r3 M4 hr => ?_)
    have h := h _ _ hr
    refine j_iret dX9_led_17 rfl rfl ?_
    exact ⟨_, rfl, h⟩
  · have h := h.2 hc2
    refine j_iconst (v := (-1)) dX9_led_8 rfl ?_
    refine j_goto (tgt := 17) dX9_led_9 (by decide) ?_
    refine j_iret dX9_led_17 rfl rfl ?_
    exact ⟨_, rfl, h⟩
theorem eX9_need (v : Int32) (X : zX) (a1 : Int32) (h : ∃ r1 : Int32, zPf SX 0 mX9_outside [.int a1, .int 4] X r1 ∧ (((r1 = 0) → (∃ j3 : Nat, a1 = nI j3 ∧ j3 < 4 ∧ (∃ r4 : Int32, zPf SX 0 mX4_pairedWith [.ref 54, .int (X 17 j3)] X r4 ∧ (∃ r5 : Int32, zPf SX 0 mX6_kinsOf [.ref 4, .int ((X 17 j3) ||| r4)] X r5 ∧ (r5 = v))))) ∧ ((¬ (r1 = 0)) → ((-1) = v)))) : zPf SX 1 mX9_need [.ref 0, .int a1] X v := by
  refine zP_in [some (.ref 0), some (.int a1), none] ⟨rfl, rfl, trivial⟩ (by decide) (Nat.le_of_ble_eq_true rfl) ?_
  refine j_iload_n dX9_need_0 rfl ?_
  refine j_iconst (v := 4) dX9_need_1 rfl ?_
  obtain ⟨r1, hc, h⟩ := h
  refine j_csf (lc := 0) (as := [.int a1, .int 4]) dX9_need_2 iX9_outside sX9_outside kX9_83 (by decide) rfl rfl (Nat.zero_le _) hc ?_
  refine j_if_eq (tgt := 10) dX9_need_5 (by decide) (fun hc2 => ?_) (fun hc2 => ?_)
  · have h := h.1 hc2
    refine j_aload_n dX9_need_10 rfl ?_
    refine j_getr dX9_need_11 fX9_19 rfl rfl ?_
    refine j_getr dX9_need_14 fX9_221 rfl rfl ?_
    refine j_iload_n dX9_need_17 rfl ?_
    obtain ⟨j3, ej3, lj3, h⟩ := h
    refine j_iald dX9_need_18 rfl (zin ej3 lj3 (by decide)) ?_
    rw [zcl ej3 lj3 (by decide)]
    refine j_istore_n (L2 := [some (.ref 0), some (.int a1), some (.int (X 17 j3))]) dX9_need_19 (by decide) (zno rfl) rfl ?_
    refine j_aload_n dX9_need_20 rfl ?_
    refine j_getr dX9_need_21 fX9_19 rfl rfl ?_
    refine j_iload_n dX9_need_24 rfl ?_
    refine j_aload_n dX9_need_25 rfl ?_
    refine j_getr dX9_need_26 fX9_75 rfl rfl ?_
    refine j_iload_n dX9_need_29 rfl ?_
    obtain ⟨r4, hc, h⟩ := h
    refine j_cvf (lc := 0) (as := [.int (X 17 j3)]) dX9_need_30 iX4_pairedWith vX4_pairedWith kX9_237 (by decide) rfl rfl rfl rfl (by simp [Value.category]) hc ?_
    refine j_ior dX9_need_33 ?_
    obtain ⟨r5, hc, h⟩ := h
    refine j_cvf (lc := 0) (as := [.int ((X 17 j3) ||| r4)]) dX9_need_34 iX6_kinsOf vX6_kinsOf kX9_240 (by decide) rfl rfl rfl rfl (Nat.zero_le _) hc ?_
    refine j_iret dX9_need_37 rfl rfl ?_
    exact ⟨by rw [h], rfl⟩
  · have h := h.2 hc2
    refine j_iconst (v := (-1)) dX9_need_8 rfl ?_
    refine j_iret dX9_need_9 rfl rfl ?_
    exact ⟨by rw [h], rfl⟩
theorem eX9_way (P : Int32 → zX → Prop) (X : zX) (a1 : Int32) (a2 : Int32) (a3 : Int32) (h : ∃ r1 : Int32, zPf SX 1 mX9_noSuchPeople [.ref 0, .int a1] X r1 ∧ (((¬ r1 = 0) → (P (-1) X)) ∧ ((r1 = 0) → (∃ r3 : Int32, zPf SX 0 mX9_outside [.int a2, .int (X 1 2)] X r3 ∧ (((¬ r3 = 0) → (P (-1) X)) ∧ ((r3 = 0) → (∃ r5 : Int32, zPf SX 0 mX9_outside [.int a3, .int (X 1 2)] X r5 ∧ (((r5 = 0) → (∃ Qr7 : Int32 → zX → Prop, zPi SX 3 mX9_ledBy [.ref 0, .int a1] X Qr7 ∧ ∀ (r7 : Int32) (M8 : zX), Qr7 r7 M8 → (∃ Qr9 : Int32 → zX → Prop, zPi SX 5 mX9_daysBetween [.ref 0, .int a2, .int a3, .int r7] M8 Qr9 ∧ ∀ (r9 : Int32) (M10 : zX), Qr9 r9 M10 → (P r9 M10)))) ∧ ((¬ (r5 = 0)) → (P (-1) X)))))))))) : zPi SX 6 mX9_way [.ref 0, .int a1, .int a2, .int a3] X P := by
  refine zP_in [some (.ref 0), some (.int a1), some (.int a2), some (.int a3)] ⟨rfl, rfl, rfl, rfl, trivial⟩ (by decide) (Nat.le_of_ble_eq_true rfl) ?_
  refine j_aload_n dX9_way_0 rfl ?_
  refine j_iload_n dX9_way_1 rfl ?_
  obtain ⟨r1, hc, h⟩ := h
  refine j_cvf (lc := 1) (as := [.int a1]) dX9_way_2 iX9_noSuchPeople vX9_noSuchPeople kX9_230 (by decide) rfl rfl rfl rfl (Nat.zero_le _) hc ?_
  refine j_if_ne (tgt := 36) dX9_way_5 (by decide) (fun hc2 => ?_) (fun hc2 => ?_)
  · have h := h.1 hc2
    refine j_iconst (v := (-1)) dX9_way_36 rfl ?_
    refine j_iret dX9_way_37 rfl rfl ?_
    exact ⟨_, rfl, h⟩
  · have h := h.2 hc2
    refine j_iload_n dX9_way_8 rfl ?_
    refine j_aload_n dX9_way_9 rfl ?_
    refine j_getr dX9_way_10 fX9_10 rfl rfl ?_
    refine j_getf dX9_way_13 fX9_91 rfl rfl ?_
    obtain ⟨r3, hc, h⟩ := h
    refine j_csf (lc := 0) (as := [.int a2, .int (X 1 2)]) dX9_way_16 iX9_outside sX9_outside kX9_83 (by decide) rfl rfl (Nat.zero_le _) hc ?_
    refine j_if_ne (tgt := 36) dX9_way_19 (by decide) (fun hc4 => ?_) (fun hc4 => ?_)
    · have h := h.1 hc4
      refine j_iconst (v := (-1)) dX9_way_36 rfl ?_
      refine j_iret dX9_way_37 rfl rfl ?_
      exact ⟨_, rfl, h⟩
    · have h := h.2 hc4
      refine j_iload_n dX9_way_22 rfl ?_
      refine j_aload_n dX9_way_23 rfl ?_
      refine j_getr dX9_way_24 fX9_10 rfl rfl ?_
      refine j_getf dX9_way_27 fX9_91 rfl rfl ?_
      obtain ⟨r5, hc, h⟩ := h
      refine j_csf (lc := 0) (as := [.int a3, .int (X 1 2)]) dX9_way_30 iX9_outside sX9_outside kX9_83 (by decide) rfl rfl (Nat.zero_le _) hc ?_
      refine j_if_eq (tgt := 38) dX9_way_33 (by decide) (fun hc6 => ?_) (fun hc6 => ?_)
      · have h := h.1 hc6
        refine j_aload_n dX9_way_38 rfl ?_
        refine j_iload_n dX9_way_39 rfl ?_
        refine j_iload_n dX9_way_40 rfl ?_
        refine j_aload_n dX9_way_41 rfl ?_
        refine j_iload_n dX9_way_42 rfl ?_
        obtain ⟨_, hc, h⟩ := h
        refine j_cvi (lc := 3) (as := [.int a1]) dX9_way_43 iX9_ledBy vX9_ledBy kX9_234 (by decide) rfl rfl rfl rfl (by simp [Value.category]) hc (fun r7 M8 hr => ?_)
        have h := h _ _ hr
        obtain ⟨_, hc, h⟩ := h
        refine j_cvi (lc := 5) (as := [.int a2, .int a3, .int r7]) dX9_way_46 iX9_daysBetween vX9_daysBetween kX9_243 (by decide) rfl rfl rfl rfl (Nat.zero_le _) hc (fun r9 M10 hr => ?_)
        have h := h _ _ hr
        refine j_iret dX9_way_49 rfl rfl ?_
        exact ⟨_, rfl, h⟩
      · have h := h.2 hc6
        refine j_iconst (v := (-1)) dX9_way_36 rfl ?_
        refine j_iret dX9_way_37 rfl rfl ?_
        exact ⟨_, rfl, h⟩
abbrev LX9_wanting_64 (P : Int32 → zX → Prop) (M : zX) (x2 : Int32) (x3 : Int32) (x4 : Int32) (x5 : Int32) : Prop := zJ SX 6 mX9_wanting (zRi P) 64 [some (.ref 0), none, some (.int x2), some (.int x3), some (.int x4), some (.int x5), none] [] M
theorem eX9_wanting (P : Int32 → zX → Prop) (X : zX) (a1 : Int32) (a2 : Int32) (a3 : Int32) (h : ∃ r1 : Int32, zPf SX 1 mX9_noSuchPeople [.ref 0, .int a1] X r1 ∧ (((¬ r1 = 0) → (P (-1) X)) ∧ ((r1 = 0) → (∃ r3 : Int32, zPf SX 0 mX9_outside [.int a2, .int (X 1 2)] X r3 ∧ (((¬ r3 = 0) → (P (-1) X)) ∧ ((r3 = 0) → (∃ r5 : Int32, zPf SX 0 mX9_outside [.int a3, .int (X 1 2)] X r5 ∧ (((r5 = 0) → (∃ Qr7 : Int32 → zX → Prop, zPi SX 3 mX9_ledBy [.ref 0, .int a1] X Qr7 ∧ ∀ (r7 : Int32) (M8 : zX), Qr7 r7 M8 → (∃ Qr9 : Int32 → zX → Prop, zPi SX 5 mX9_daysBetween [.ref 0, .int a2, .int a3, .int r7] M8 Qr9 ∧ ∀ (r9 : Int32) (M10 : zX), Qr9 r9 M10 → (((r9 = (-4)) → (LX9_wanting_64 P M10 a2 a3 r7 0)) ∧ ((¬ (r9 = (-4))) → (P (-2) M10)))))) ∧ ((¬ (r5 = 0)) → (P (-1) X)))))))))) : zPi SX 6 mX9_wanting [.ref 0, .int a1, .int a2, .int a3] X P := by
  refine zP_in [some (.ref 0), some (.int a1), some (.int a2), some (.int a3), none, none, none] ⟨rfl, rfl, rfl, rfl, trivial⟩ (by decide) (Nat.le_of_ble_eq_true rfl) ?_
  refine j_aload_n dX9_wanting_0 rfl ?_
  refine j_iload_n dX9_wanting_1 rfl ?_
  obtain ⟨r1, hc, h⟩ := h
  refine j_cvf (lc := 1) (as := [.int a1]) dX9_wanting_2 iX9_noSuchPeople vX9_noSuchPeople kX9_230 (by decide) rfl rfl rfl rfl (Nat.zero_le _) hc ?_
  refine j_if_ne (tgt := 36) dX9_wanting_5 (by decide) (fun hc2 => ?_) (fun hc2 => ?_)
  · have h := h.1 hc2
    refine j_iconst (v := (-1)) dX9_wanting_36 rfl ?_
    refine j_iret dX9_wanting_37 rfl rfl ?_
    exact ⟨_, rfl, h⟩
  · have h := h.2 hc2
    refine j_iload_n dX9_wanting_8 rfl ?_
    refine j_aload_n dX9_wanting_9 rfl ?_
    refine j_getr dX9_wanting_10 fX9_10 rfl rfl ?_
    refine j_getf dX9_wanting_13 fX9_91 rfl rfl ?_
    obtain ⟨r3, hc, h⟩ := h
    refine j_csf (lc := 0) (as := [.int a2, .int (X 1 2)]) dX9_wanting_16 iX9_outside sX9_outside kX9_83 (by decide) rfl rfl (Nat.zero_le _) hc ?_
    refine j_if_ne (tgt := 36) dX9_wanting_19 (by decide) (fun hc4 => ?_) (fun hc4 => ?_)
    · have h := h.1 hc4
      refine j_iconst (v := (-1)) dX9_wanting_36 rfl ?_
      refine j_iret dX9_wanting_37 rfl rfl ?_
      exact ⟨_, rfl, h⟩
    · have h := h.2 hc4
      refine j_iload_n dX9_wanting_22 rfl ?_
      refine j_aload_n dX9_wanting_23 rfl ?_
      refine j_getr dX9_wanting_24 fX9_10 rfl rfl ?_
      refine j_getf dX9_wanting_27 fX9_91 rfl rfl ?_
      obtain ⟨r5, hc, h⟩ := h
      refine j_csf (lc := 0) (as := [.int a3, .int (X 1 2)]) dX9_wanting_30 iX9_outside sX9_outside kX9_83 (by decide) rfl rfl (Nat.zero_le _) hc ?_
      refine j_if_eq (tgt := 38) dX9_wanting_33 (by decide) (fun hc6 => ?_) (fun hc6 => ?_)
      · have h := h.1 hc6
        refine j_aload_n dX9_wanting_38 rfl ?_
        refine j_iload_n dX9_wanting_39 rfl ?_
        obtain ⟨_, hc, h⟩ := h
        refine j_cvi (lc := 3) (as := [.int a1]) dX9_wanting_40 iX9_ledBy vX9_ledBy kX9_234 (by decide) rfl rfl rfl rfl (Nat.zero_le _) hc (fun r7 M8 hr => ?_)
        have h := h _ _ hr
        refine j_istore (L2 := [some (.ref 0), some (.int a1), some (.int a2), some (.int a3), some (.int r7), none, none]) dX9_wanting_43 (by decide) (zno rfl) rfl ?_
        refine j_aload_n dX9_wanting_45 rfl ?_
        refine j_iload_n dX9_wanting_46 rfl ?_
        refine j_iload_n dX9_wanting_47 rfl ?_
        refine j_iload dX9_wanting_48 rfl ?_
        obtain ⟨_, hc, h⟩ := h
        refine j_cvi (lc := 5) (as := [.int a2, .int a3, .int r7]) dX9_wanting_50 iX9_daysBetween vX9_daysBetween kX9_243 (by decide) rfl rfl rfl rfl (Nat.zero_le _) hc (fun r9 M10 hr => ?_)
        have h := h _ _ hr
        refine j_bipush (v := (-4)) dX9_wanting_53 rfl ?_
        refine j_ic_eq (tgt := 61) dX9_wanting_55 (by decide) (fun hc11 => ?_) (fun hc11 => ?_)
        · have h := h.1 hc11
          refine j_iconst (v := 0) dX9_wanting_61 rfl ?_
          refine j_istore (L2 := [some (.ref 0), some (.int a1), some (.int a2), some (.int a3), some (.int r7), some (.int 0), none]) dX9_wanting_62 (by decide) (zno rfl) rfl ?_
          exact zJw h ⟨rfl, rfl, rfl, rfl, rfl, trivial⟩
        · have h := h.2 hc11
          refine j_bipush (v := (-2)) dX9_wanting_58 rfl ?_
          refine j_iret dX9_wanting_60 rfl rfl ?_
          exact ⟨_, rfl, h⟩
      · have h := h.2 hc6
        refine j_iconst (v := (-1)) dX9_wanting_36 rfl ?_
        refine j_iret dX9_wanting_37 rfl rfl ?_
        exact ⟨_, rfl, h⟩
theorem bX9_wanting_64 (P : Int32 → zX → Prop) (M : zX) (x2 : Int32) (x3 : Int32) (x4 : Int32) (x5 : Int32) (h : (((M 4 10) ≤ x5) → (P (-4) M)) ∧ ((¬ ((M 4 10) ≤ x5)) → (((¬ ((zshr x4 x5) &&& 1) = 1) → (∃ Qr14 : Int32 → zX → Prop, zPi SX 5 mX9_daysBetween [.ref 0, .int x2, .int x3, .int (x4 ||| (zshl 1 x5))] M Qr14 ∧ ∀ (r14 : Int32) (M15 : zX), Qr14 r14 M15 → (((r14 = (-4)) → (LX9_wanting_64 P M15 x2 x3 x4 (x5 + 1))) ∧ ((¬ (r14 = (-4))) → (P x5 M15))))) ∧ ((((zshr x4 x5) &&& 1) = 1) → (LX9_wanting_64 P M x2 x3 x4 (x5 + 1)))))) : LX9_wanting_64 P M x2 x3 x4 x5 := by
  refine j_iload dX9_wanting_64 rfl ?_
  refine j_aload_n dX9_wanting_66 rfl ?_
  refine j_getr dX9_wanting_67 fX9_19 rfl rfl ?_
  refine j_getf dX9_wanting_70 fX9_108 rfl rfl ?_
  refine j_ic_ge (tgt := 126) dX9_wanting_73 (by decide) (fun hc12 => ?_) (fun hc12 => ?_)
  · have h := h.1 hc12
    refine j_bipush (v := (-4)) dX9_wanting_126 rfl ?_
    refine j_iret dX9_wanting_128 rfl rfl ?_
    exact ⟨_, rfl, h⟩
  · have h := h.2 hc12
    refine j_iload dX9_wanting_76 rfl ?_
    refine j_iload dX9_wanting_78 rfl ?_
    refine j_ishr dX9_wanting_80 ?_
    refine j_iconst (v := 1) dX9_wanting_81 rfl ?_
    refine j_iand dX9_wanting_82 ?_
    refine j_iconst (v := 1) dX9_wanting_83 rfl ?_
    refine j_ic_ne (tgt := 91) dX9_wanting_84 (by decide) (fun hc13 => ?_) (fun hc13 => ?_)
    · have h := h.1 hc13
      refine j_iconst (v := 0) dX9_wanting_91 rfl ?_
      refine j_istore (L2 := [some (.ref 0), none, some (.int x2), some (.int x3), some (.int x4), some (.int x5), some (.int 0)]) dX9_wanting_92 (by decide) (zno rfl) rfl ?_
      refine j_iload dX9_wanting_94 rfl ?_
      refine j_if_ne (tgt := 120) dX9_wanting_96 (by decide) (fun hc => absurd hc (by decide)) (fun _ => ?_)
      refine j_aload_n dX9_wanting_99 rfl ?_
      refine j_iload_n dX9_wanting_100 rfl ?_
      refine j_iload_n dX9_wanting_101 rfl ?_
      refine j_iload dX9_wanting_102 rfl ?_
      refine j_iconst (v := 1) dX9_wanting_104 rfl ?_
      refine j_iload dX9_wanting_105 rfl ?_
      refine j_ishl dX9_wanting_107 ?_
      refine j_ior dX9_wanting_108 ?_
      obtain ⟨_, hc, h⟩ := h
      refine j_cvi (lc := 5) (as := [.int x2, .int x3, .int (x4 ||| (zshl 1 x5))]) dX9_wanting_109 iX9_daysBetween vX9_daysBetween kX9_243 (by decide) rfl rfl rfl rfl (Nat.zero_le _) hc (fun r14 M15 hr => ?_)
      have h := h _ _ hr
      refine j_bipush (v := (-4)) dX9_wanting_112 rfl ?_
      refine j_ic_eq (tgt := 120) dX9_wanting_114 (by decide) (fun hc16 => ?_) (fun hc16 => ?_)
      · have h := h.1 hc16
        refine j_iinc (v := (x5 + 1)) (L2 := [some (.ref 0), none, some (.int x2), some (.int x3), some (.int x4), some (.int (x5 + 1)), some (.int 0)]) dX9_wanting_120 rfl rfl (by decide) (zno rfl) rfl ?_
        refine j_goto (tgt := 64) dX9_wanting_123 (by decide) ?_
        exact zJw h ⟨rfl, rfl, rfl, rfl, rfl, trivial⟩
      · have h := h.2 hc16
        refine j_iload dX9_wanting_117 rfl ?_
        refine j_iret dX9_wanting_119 rfl rfl ?_
        exact ⟨_, rfl, h⟩
    · have h := h.2 hc13
      refine j_iconst (v := 1) dX9_wanting_87 rfl ?_
      refine j_goto (tgt := 92) dX9_wanting_88 (by decide) ?_
      refine j_istore (L2 := [some (.ref 0), none, some (.int x2), some (.int x3), some (.int x4), some (.int x5), some (.int 1)]) dX9_wanting_92 (by decide) (zno rfl) rfl ?_
      refine j_iload dX9_wanting_94 rfl ?_
      refine j_if_ne (tgt := 120) dX9_wanting_96 (by decide) (fun _ => ?_) (fun hc => absurd hc (by decide))
      refine j_iinc (v := (x5 + 1)) (L2 := [some (.ref 0), none, some (.int x2), some (.int x3), some (.int x4), some (.int (x5 + 1)), some (.int 1)]) dX9_wanting_120 rfl rfl (by decide) (zno rfl) rfl ?_
      refine j_goto (tgt := 64) dX9_wanting_123 (by decide) ?_
      exact zJw h ⟨rfl, rfl, rfl, rfl, rfl, trivial⟩
abbrev LX9_reach_39 (P : Int32 → zX → Prop) (M : zX) (x3 : Int32) (x4 : Int32) : Prop := zJ SX 5 mX9_reach (zRi P) 39 [some (.ref 0), none, none, some (.int x3), some (.int x4)] [] M
theorem eX9_reach (P : Int32 → zX → Prop) (X : zX) (a1 : Int32) (a2 : Int32) (h : ∃ r1 : Int32, zPf SX 1 mX9_noSuchPeople [.ref 0, .int a1] X r1 ∧ (((¬ r1 = 0) → (P (-1) X)) ∧ ((r1 = 0) → (∃ r3 : Int32, zPf SX 0 mX9_outside [.int a2, .int (X 1 2)] X r3 ∧ (((r3 = 0) → (∃ Qr5 : Int32 → zX → Prop, zPi SX 3 mX9_ledBy [.ref 0, .int a1] X Qr5 ∧ ∀ (r5 : Int32) (M6 : zX), Qr5 r5 M6 → (∃ Qr7 : zX → Prop, zPw SX 4 mX9_sweepFrom [.ref 0, .int a2, .int r5] M6 Qr7 ∧ ∀ M8 : zX, Qr7 M8 → (LX9_reach_39 P M8 0 0)))) ∧ ((¬ (r3 = 0)) → (P (-1) X))))))) : zPi SX 5 mX9_reach [.ref 0, .int a1, .int a2] X P := by
  refine zP_in [some (.ref 0), some (.int a1), some (.int a2), none, none] ⟨rfl, rfl, rfl, trivial⟩ (by decide) (Nat.le_of_ble_eq_true rfl) ?_
  refine j_aload_n dX9_reach_0 rfl ?_
  refine j_iload_n dX9_reach_1 rfl ?_
  obtain ⟨r1, hc, h⟩ := h
  refine j_cvf (lc := 1) (as := [.int a1]) dX9_reach_2 iX9_noSuchPeople vX9_noSuchPeople kX9_230 (by decide) rfl rfl rfl rfl (Nat.zero_le _) hc ?_
  refine j_if_ne (tgt := 22) dX9_reach_5 (by decide) (fun hc2 => ?_) (fun hc2 => ?_)
  · have h := h.1 hc2
    refine j_iconst (v := (-1)) dX9_reach_22 rfl ?_
    refine j_iret dX9_reach_23 rfl rfl ?_
    exact ⟨_, rfl, h⟩
  · have h := h.2 hc2
    refine j_iload_n dX9_reach_8 rfl ?_
    refine j_aload_n dX9_reach_9 rfl ?_
    refine j_getr dX9_reach_10 fX9_10 rfl rfl ?_
    refine j_getf dX9_reach_13 fX9_91 rfl rfl ?_
    obtain ⟨r3, hc, h⟩ := h
    refine j_csf (lc := 0) (as := [.int a2, .int (X 1 2)]) dX9_reach_16 iX9_outside sX9_outside kX9_83 (by decide) rfl rfl (Nat.zero_le _) hc ?_
    refine j_if_eq (tgt := 24) dX9_reach_19 (by decide) (fun hc4 => ?_) (fun hc4 => ?_)
    · have h := h.1 hc4
      refine j_aload_n dX9_reach_24 rfl ?_
      refine j_iload_n dX9_reach_25 rfl ?_
      refine j_aload_n dX9_reach_26 rfl ?_
      refine j_iload_n dX9_reach_27 rfl ?_
      obtain ⟨_, hc, h⟩ := h
      refine j_cvi (lc := 3) (as := [.int a1]) dX9_reach_28 iX9_ledBy vX9_ledBy kX9_234 (by decide) rfl rfl rfl rfl (by simp [Value.category]) hc (fun r5 M6 hr => ?_)
      have h := h _ _ hr
      obtain ⟨_, hc, h⟩ := h
      refine j_cvw (lc := 4) (as := [.int a2, .int r5]) dX9_reach_31 iX9_sweepFrom vX9_sweepFrom kX9_246 (by decide) rfl rfl rfl rfl (Nat.zero_le _) hc (fun M8 hr => ?_)
      have h := h _ hr
      refine j_iconst (v := 0) dX9_reach_34 rfl ?_
      refine j_istore_n (L2 := [some (.ref 0), some (.int a1), some (.int a2), some (.int 0), none]) dX9_reach_35 (by decide) (zno rfl) rfl ?_
      refine j_iconst (v := 0) dX9_reach_36 rfl ?_
      refine j_istore (L2 := [some (.ref 0), some (.int a1), some (.int a2), some (.int 0), some (.int 0)]) dX9_reach_37 (by decide) (zno rfl) rfl ?_
      exact zJw h ⟨rfl, rfl, rfl, trivial⟩
    · have h := h.2 hc4
      refine j_iconst (v := (-1)) dX9_reach_22 rfl ?_
      refine j_iret dX9_reach_23 rfl rfl ?_
      exact ⟨_, rfl, h⟩
theorem bX9_reach_39 (P : Int32 → zX → Prop) (M : zX) (x3 : Int32) (x4 : Int32) (h : (((M 1 2) ≤ x4) → (P x3 M)) ∧ ((¬ ((M 1 2) ≤ x4)) → (∃ j10 : Nat, x4 = nI j10 ∧ j10 < 12 ∧ ((((M 41 j10) = (-4)) → (LX9_reach_39 P M x3 (x4 + 1))) ∧ ((¬ ((M 41 j10) = (-4))) → (LX9_reach_39 P M (x3 ||| (zshl 1 x4)) (x4 + 1))))))) : LX9_reach_39 P M x3 x4 := by
  refine j_iload dX9_reach_39 rfl ?_
  refine j_aload_n dX9_reach_41 rfl ?_
  refine j_getr dX9_reach_42 fX9_10 rfl rfl ?_
  refine j_getf dX9_reach_45 fX9_91 rfl rfl ?_
  refine j_ic_ge (tgt := 79) dX9_reach_48 (by decide) (fun hc9 => ?_) (fun hc9 => ?_)
  · have h := h.1 hc9
    refine j_iload_n dX9_reach_79 rfl ?_
    refine j_iret dX9_reach_80 rfl rfl ?_
    exact ⟨_, rfl, h⟩
  · have h := h.2 hc9
    refine j_aload_n dX9_reach_51 rfl ?_
    refine j_getr dX9_reach_52 fX9_51 rfl rfl ?_
    refine j_getr dX9_reach_55 fX9_250 rfl rfl ?_
    refine j_iload dX9_reach_58 rfl ?_
    obtain ⟨j10, ej10, lj10, h⟩ := h
    refine j_iald dX9_reach_60 rfl (zin ej10 lj10 (by decide)) ?_
    rw [zcl ej10 lj10 (by decide)]
    refine j_bipush (v := (-4)) dX9_reach_61 rfl ?_
    refine j_ic_eq (tgt := 73) dX9_reach_63 (by decide) (fun hc11 => ?_) (fun hc11 => ?_)
    · have h := h.1 hc11
      refine j_iinc (v := (x4 + 1)) (L2 := [some (.ref 0), none, none, some (.int x3), some (.int (x4 + 1))]) dX9_reach_73 rfl rfl (by decide) (zno rfl) rfl ?_
      refine j_goto (tgt := 39) dX9_reach_76 (by decide) ?_
      exact zJw h ⟨rfl, rfl, rfl, trivial⟩
    · have h := h.2 hc11
      refine j_iload_n dX9_reach_66 rfl ?_
      refine j_iconst (v := 1) dX9_reach_67 rfl ?_
      refine j_iload dX9_reach_68 rfl ?_
      refine j_ishl dX9_reach_70 ?_
      refine j_ior dX9_reach_71 ?_
      refine j_istore_n (L2 := [some (.ref 0), none, none, some (.int (x3 ||| (zshl 1 x4))), some (.int x4)]) dX9_reach_72 (by decide) (zno rfl) rfl ?_
      refine j_iinc (v := (x4 + 1)) (L2 := [some (.ref 0), none, none, some (.int (x3 ||| (zshl 1 x4))), some (.int (x4 + 1))]) dX9_reach_73 rfl rfl (by decide) (zno rfl) rfl ?_
      refine j_goto (tgt := 39) dX9_reach_76 (by decide) ?_
      exact zJw h ⟨rfl, rfl, rfl, trivial⟩
abbrev LX9_party_75 (P : Int32 → zX → Prop) (M : zX) (x1 : Int32) (x2 : Int32) (x3 : Int32) (x4 : Int32) (x5 : Int32) : Prop := zJ SX 6 mX9_party (zRi P) 75 [some (.ref 0), some (.int x1), some (.int x2), some (.int x3), some (.int x4), some (.int x5), none, none] [] M
abbrev LX9_party_90 (P : Int32 → zX → Prop) (M : zX) (x1 : Int32) (x2 : Int32) (x3 : Int32) (x4 : Int32) (x5 : Int32) (x6 : Int32) : Prop := zJ SX 6 mX9_party (zRi P) 90 [some (.ref 0), some (.int x1), some (.int x2), some (.int x3), some (.int x4), some (.int x5), some (.int x6), none] [] M
theorem eX9_party (P : Int32 → zX → Prop) (X : zX) (a1 : Int32) (a2 : Int32) (a3 : Int32) (h : ∃ r1 : Int32, zPf SX 0 mX9_outside [.int a1, .int (X 1 2)] X r1 ∧ (((¬ r1 = 0) → (P (-1) X)) ∧ ((r1 = 0) → (∃ r3 : Int32, zPf SX 0 mX9_outside [.int a2, .int (X 1 2)] X r3 ∧ (((¬ r3 = 0) → (P (-1) X)) ∧ ((r3 = 0) → (∃ r5 : Int32, zPf SX 0 mX9_outside [.int a3, .int 2] X r5 ∧ (((r5 = 0) → (∃ Qr7 : zX → Prop, zPw SX 2 mX9_hearVoices [.ref 0] X Qr7 ∧ ∀ M8 : zX, Qr7 M8 → (∃ r9 : Int32, zPf SX 0 mX9_singersOfAny [.ref 0] M8 r9 ∧ (∃ r10 : Int32, zPf SX 0 mX9_sungBy [.ref 0, .int r9] M8 r10 ∧ (∃ r11 : Int32, zPf SX 0 mX9_ledWhere [.ref 0, .int r10] M8 r11 ∧ (∃ Qr12 : Int32 → zX → Prop, zPi SX 5 mX9_daysBetween [.ref 0, .int a1, .int a2, .int r11] M8 Qr12 ∧ ∀ (r12 : Int32) (M13 : zX), Qr12 r12 M13 → (((¬ r12 = (-4)) → (LX9_party_75 P M13 a1 a2 a3 r9 0)) ∧ ((r12 = (-4)) → (P (-4) M13))))))))) ∧ ((¬ (r5 = 0)) → (P (-1) X)))))))))) : zPi SX 6 mX9_party [.ref 0, .int a1, .int a2, .int a3] X P := by
  refine zP_in [some (.ref 0), some (.int a1), some (.int a2), some (.int a3), none, none, none, none] ⟨rfl, rfl, rfl, rfl, trivial⟩ (by decide) (Nat.le_of_ble_eq_true rfl) ?_
  refine j_iload_n dX9_party_0 rfl ?_
  refine j_aload_n dX9_party_1 rfl ?_
  refine j_getr dX9_party_2 fX9_10 rfl rfl ?_
  refine j_getf dX9_party_5 fX9_91 rfl rfl ?_
  obtain ⟨r1, hc, h⟩ := h
  refine j_csf (lc := 0) (as := [.int a1, .int (X 1 2)]) dX9_party_8 iX9_outside sX9_outside kX9_83 (by decide) rfl rfl (Nat.zero_le _) hc ?_
  refine j_if_ne (tgt := 36) dX9_party_11 (by decide) (fun hc2 => ?_) (fun hc2 => ?_)
  · have h := h.1 hc2
    refine j_iconst (v := (-1)) dX9_party_36 rfl ?_
    refine j_iret dX9_party_37 rfl rfl ?_
    exact ⟨_, rfl, h⟩
  · have h := h.2 hc2
    refine j_iload_n dX9_party_14 rfl ?_
    refine j_aload_n dX9_party_15 rfl ?_
    refine j_getr dX9_party_16 fX9_10 rfl rfl ?_
    refine j_getf dX9_party_19 fX9_91 rfl rfl ?_
    obtain ⟨r3, hc, h⟩ := h
    refine j_csf (lc := 0) (as := [.int a2, .int (X 1 2)]) dX9_party_22 iX9_outside sX9_outside kX9_83 (by decide) rfl rfl (Nat.zero_le _) hc ?_
    refine j_if_ne (tgt := 36) dX9_party_25 (by decide) (fun hc4 => ?_) (fun hc4 => ?_)
    · have h := h.1 hc4
      refine j_iconst (v := (-1)) dX9_party_36 rfl ?_
      refine j_iret dX9_party_37 rfl rfl ?_
      exact ⟨_, rfl, h⟩
    · have h := h.2 hc4
      refine j_iload_n dX9_party_28 rfl ?_
      refine j_iconst (v := 2) dX9_party_29 rfl ?_
      obtain ⟨r5, hc, h⟩ := h
      refine j_csf (lc := 0) (as := [.int a3, .int 2]) dX9_party_30 iX9_outside sX9_outside kX9_83 (by decide) rfl rfl (Nat.zero_le _) hc ?_
      refine j_if_eq (tgt := 38) dX9_party_33 (by decide) (fun hc6 => ?_) (fun hc6 => ?_)
      · have h := h.1 hc6
        refine j_aload_n dX9_party_38 rfl ?_
        obtain ⟨_, hc, h⟩ := h
        refine j_cvw (lc := 2) (as := []) dX9_party_39 iX9_hearVoices vX9_hearVoices kX9_253 (by decide) rfl rfl rfl rfl (Nat.zero_le _) hc (fun M8 hr => ?_)
        have h := h _ hr
        refine j_aload_n dX9_party_42 rfl ?_
        obtain ⟨r9, hc, h⟩ := h
        refine j_cvf (lc := 0) (as := []) dX9_party_43 iX9_singersOfAny vX9_singersOfAny kX9_256 (by decide) rfl rfl rfl rfl (Nat.zero_le _) hc ?_
        refine j_istore (L2 := [some (.ref 0), some (.int a1), some (.int a2), some (.int a3), some (.int r9), none, none, none]) dX9_party_46 (by decide) (zno rfl) rfl ?_
        refine j_aload_n dX9_party_48 rfl ?_
        refine j_iload_n dX9_party_49 rfl ?_
        refine j_iload_n dX9_party_50 rfl ?_
        refine j_aload_n dX9_party_51 rfl ?_
        refine j_aload_n dX9_party_52 rfl ?_
        refine j_iload dX9_party_53 rfl ?_
        obtain ⟨r10, hc, h⟩ := h
        refine j_cvf (lc := 0) (as := [.int r9]) dX9_party_55 iX9_sungBy vX9_sungBy kX9_259 (by decide) rfl rfl rfl rfl (by simp [Value.category]) hc ?_
        obtain ⟨r11, hc, h⟩ := h
        refine j_cvf (lc := 0) (as := [.int r10]) dX9_party_58 iX9_ledWhere vX9_ledWhere kX9_262 (by decide) rfl rfl rfl rfl (by simp [Value.category]) hc ?_
        obtain ⟨_, hc, h⟩ := h
        refine j_cvi (lc := 5) (as := [.int a1, .int a2, .int r11]) dX9_party_61 iX9_daysBetween vX9_daysBetween kX9_243 (by decide) rfl rfl rfl rfl (Nat.zero_le _) hc (fun r12 M13 hr => ?_)
        have h := h _ _ hr
        refine j_bipush (v := (-4)) dX9_party_64 rfl ?_
        refine j_ic_ne (tgt := 72) dX9_party_66 (by decide) (fun hc14 => ?_) (fun hc14 => ?_)
        · have h := h.1 hc14
          refine j_iconst (v := 0) dX9_party_72 rfl ?_
          refine j_istore (L2 := [some (.ref 0), some (.int a1), some (.int a2), some (.int a3), some (.int r9), some (.int 0), none, none]) dX9_party_73 (by decide) (zno rfl) rfl ?_
          exact zJw h ⟨rfl, rfl, rfl, rfl, rfl, rfl, trivial⟩
        · have h := h.2 hc14
          refine j_bipush (v := (-4)) dX9_party_69 rfl ?_
          refine j_iret dX9_party_71 rfl rfl ?_
          exact ⟨_, rfl, h⟩
      · have h := h.2 hc6
        refine j_iconst (v := (-1)) dX9_party_36 rfl ?_
        refine j_iret dX9_party_37 rfl rfl ?_
        exact ⟨_, rfl, h⟩
theorem bX9_party_75 (P : Int32 → zX → Prop) (M : zX) (x1 : Int32) (x2 : Int32) (x3 : Int32) (x4 : Int32) (x5 : Int32) (h : (((M 19 5) < x5) → (P (-4) M)) ∧ ((¬ ((M 19 5) < x5)) → (LX9_party_90 P M x1 x2 x3 x4 x5 0))) : LX9_party_75 P M x1 x2 x3 x4 x5 := by
  refine j_iload dX9_party_75 rfl ?_
  refine j_aload_n dX9_party_77 rfl ?_
  refine j_getr dX9_party_78 fX9_26 rfl rfl ?_
  refine j_getf dX9_party_81 fX9_107 rfl rfl ?_
  refine j_ic_gt (tgt := 176) dX9_party_84 (by decide) (fun hc15 => ?_) (fun hc15 => ?_)
  · have h := h.1 hc15
    refine j_bipush (v := (-4)) dX9_party_176 rfl ?_
    refine j_iret dX9_party_178 rfl rfl ?_
    exact ⟨_, rfl, h⟩
  · have h := h.2 hc15
    refine j_iconst (v := 0) dX9_party_87 rfl ?_
    refine j_istore (L2 := [some (.ref 0), some (.int x1), some (.int x2), some (.int x3), some (.int x4), some (.int x5), some (.int 0), none]) dX9_party_88 (by decide) (zno rfl) rfl ?_
    exact zJw h ⟨rfl, rfl, rfl, rfl, rfl, rfl, rfl, trivial⟩
theorem bX9_party_90 (P : Int32 → zX → Prop) (M : zX) (x1 : Int32) (x2 : Int32) (x3 : Int32) (x4 : Int32) (x5 : Int32) (x6 : Int32) (h : (((zshl 1 (M 19 5)) ≤ x6) → (LX9_party_75 P M x1 x2 x3 x4 (x5 + 1))) ∧ ((¬ ((zshl 1 (M 19 5)) ≤ x6)) → (∃ r17 : Int32, zPf SX 0 mJ6_bitCount_0f7a4 [.int x6] M r17 ∧ (((¬ r17 = x5) → (LX9_party_90 P M x1 x2 x3 x4 x5 (x6 + 1))) ∧ ((r17 = x5) → ((((x6 &&& (x4 ^^^ (-1))) = 0) → (∃ r20 : Int32, zPf SX 0 mX9_sungBy [.ref 0, .int x6] M r20 ∧ (∃ r21 : Int32, zPf SX 0 mX9_ledWhere [.ref 0, .int r20] M r21 ∧ (∃ Qr22 : Int32 → zX → Prop, zPi SX 5 mX9_daysBetween [.ref 0, .int x1, .int x2, .int r21] M Qr22 ∧ ∀ (r22 : Int32) (M23 : zX), Qr22 r22 M23 → (((r22 = (-4)) → (LX9_party_90 P M23 x1 x2 x3 x4 x5 (x6 + 1))) ∧ ((¬ (r22 = (-4))) → (((¬ x3 = 0) → (P r22 M23)) ∧ ((x3 = 0) → (P x6 M23))))))))) ∧ ((¬ ((x6 &&& (x4 ^^^ (-1))) = 0)) → (LX9_party_90 P M x1 x2 x3 x4 x5 (x6 + 1))))))))) : LX9_party_90 P M x1 x2 x3 x4 x5 x6 := by
  refine j_iload dX9_party_90 rfl ?_
  refine j_iconst (v := 1) dX9_party_92 rfl ?_
  refine j_aload_n dX9_party_93 rfl ?_
  refine j_getr dX9_party_94 fX9_26 rfl rfl ?_
  refine j_getf dX9_party_97 fX9_107 rfl rfl ?_
  refine j_ishl dX9_party_100 ?_
  refine j_ic_ge (tgt := 170) dX9_party_101 (by decide) (fun hc16 => ?_) (fun hc16 => ?_)
  · have h := h.1 hc16
    refine j_iinc (v := (x5 + 1)) (L2 := [some (.ref 0), some (.int x1), some (.int x2), some (.int x3), some (.int x4), some (.int (x5 + 1)), some (.int x6), none]) dX9_party_170 rfl rfl (by decide) (zno rfl) rfl ?_
    refine j_goto (tgt := 75) dX9_party_173 (by decide) ?_
    exact zJw h ⟨rfl, rfl, rfl, rfl, rfl, rfl, trivial⟩
  · have h := h.2 hc16
    refine j_iload dX9_party_104 rfl ?_
    obtain ⟨r17, hc, h⟩ := h
    refine j_csf (lc := 0) (as := [.int x6]) dX9_party_106 iJ6_bitCount_0f7a4 sJ6_bitCount_0f7a4 kX9_120 (by decide) rfl rfl (Nat.zero_le _) hc ?_
    refine j_iload dX9_party_109 rfl ?_
    refine j_ic_ne (tgt := 164) dX9_party_111 (by decide) (fun hc18 => ?_) (fun hc18 => ?_)
    · have h := h.1 hc18
      refine j_iinc (v := (x6 + 1)) (L2 := [some (.ref 0), some (.int x1), some (.int x2), some (.int x3), some (.int x4), some (.int x5), some (.int (x6 + 1)), none]) dX9_party_164 rfl rfl (by decide) (zno rfl) rfl ?_
      refine j_goto (tgt := 90) dX9_party_167 (by decide) ?_
      exact zJw h ⟨rfl, rfl, rfl, rfl, rfl, rfl, rfl, trivial⟩
    · have h := h.2 hc18
      refine j_iload dX9_party_114 rfl ?_
      refine j_iload dX9_party_116 rfl ?_
      refine j_iconst (v := (-1)) dX9_party_118 rfl ?_
      refine j_ixor dX9_party_119 ?_
      refine j_iand dX9_party_120 ?_
      refine j_if_eq (tgt := 127) dX9_party_121 (by decide) (fun hc19 => ?_) (fun hc19 => ?_)
      · have h := h.1 hc19
        refine j_aload_n dX9_party_127 rfl ?_
        refine j_iload_n dX9_party_128 rfl ?_
        refine j_iload_n dX9_party_129 rfl ?_
        refine j_aload_n dX9_party_130 rfl ?_
        refine j_aload_n dX9_party_131 rfl ?_
        refine j_iload dX9_party_132 rfl ?_
        obtain ⟨r20, hc, h⟩ := h
        refine j_cvf (lc := 0) (as := [.int x6]) dX9_party_134 iX9_sungBy vX9_sungBy kX9_259 (by decide) rfl rfl rfl rfl (by simp [Value.category]) hc ?_
        obtain ⟨r21, hc, h⟩ := h
        refine j_cvf (lc := 0) (as := [.int r20]) dX9_party_137 iX9_ledWhere vX9_ledWhere kX9_262 (by decide) rfl rfl rfl rfl (by simp [Value.category]) hc ?_
        obtain ⟨_, hc, h⟩ := h
        refine j_cvi (lc := 5) (as := [.int x1, .int x2, .int r21]) dX9_party_140 iX9_daysBetween vX9_daysBetween kX9_243 (by decide) rfl rfl rfl rfl (Nat.zero_le _) hc (fun r22 M23 hr => ?_)
        have h := h _ _ hr
        refine j_istore (L2 := [some (.ref 0), some (.int x1), some (.int x2), some (.int x3), some (.int x4), some (.int x5), some (.int x6), some (.int r22)]) dX9_party_143 (by decide) (zno rfl) rfl ?_
        refine j_iload dX9_party_145 rfl ?_
        refine j_bipush (v := (-4)) dX9_party_147 rfl ?_
        refine j_ic_eq (tgt := 164) dX9_party_149 (by decide) (fun hc24 => ?_) (fun hc24 => ?_)
        · have h := h.1 hc24
          refine j_iinc (v := (x6 + 1)) (L2 := [some (.ref 0), some (.int x1), some (.int x2), some (.int x3), some (.int x4), some (.int x5), some (.int (x6 + 1)), some (.int r22)]) dX9_party_164 rfl rfl (by decide) (zno rfl) rfl ?_
          refine j_goto (tgt := 90) dX9_party_167 (by decide) ?_
          exact zJw h ⟨rfl, rfl, rfl, rfl, rfl, rfl, rfl, trivial⟩
        · have h := h.2 hc24
          refine j_iload_n dX9_party_152 rfl ?_
          refine j_if_ne (tgt := 161) dX9_party_153 (by decide) (fun hc25 => ?_) (fun hc25 => ?_)
          · have h := h.1 hc25
            refine j_iload dX9_party_161 rfl ?_
            refine j_iret dX9_party_163 rfl rfl ?_
            exact ⟨_, rfl, h⟩
          · have h := h.2 hc25
            refine j_iload dX9_party_156 rfl ?_
            refine j_goto (tgt := 163) dX9_party_158 (by decide) ?_
            refine j_iret dX9_party_163 rfl rfl ?_
            exact ⟨_, rfl, h⟩
      · have h := h.2 hc19
        refine j_goto (tgt := 164) dX9_party_124 (by decide) ?_
        refine j_iinc (v := (x6 + 1)) (L2 := [some (.ref 0), some (.int x1), some (.int x2), some (.int x3), some (.int x4), some (.int x5), some (.int (x6 + 1)), none]) dX9_party_164 rfl rfl (by decide) (zno rfl) rfl ?_
        refine j_goto (tgt := 90) dX9_party_167 (by decide) ?_
        exact zJw h ⟨rfl, rfl, rfl, rfl, rfl, rfl, rfl, trivial⟩
theorem eX9_cut (v : Int32) (X : zX) (a1 : Int32) (a2 : Int32) (h : ∃ r1 : Int32, zPf SX 0 mX9_outside [.int a1, .int (zshl 1 (X 1 2))] X r1 ∧ (((¬ r1 = 0) → ((-1) = v)) ∧ ((r1 = 0) → (∃ r3 : Int32, zPf SX 0 mX9_outside [.int a2, .int 2] X r3 ∧ (((r3 = 0) → (∃ r5 : Int32, zPf SX 0 mX6_versesAt [.ref 4, .int a1] X r5 ∧ (((¬ a2 = 0) → (∃ r7 : Int32, zPf SX 0 mX6_brokenBy [.ref 4, .int r5] X r7 ∧ (r7 = v))) ∧ ((a2 = 0) → (r5 = v))))) ∧ ((¬ (r3 = 0)) → ((-1) = v))))))) : zPf SX 1 mX9_cut [.ref 0, .int a1, .int a2] X v := by
  refine zP_in [some (.ref 0), some (.int a1), some (.int a2), none] ⟨rfl, rfl, rfl, trivial⟩ (by decide) (Nat.le_of_ble_eq_true rfl) ?_
  refine j_iload_n dX9_cut_0 rfl ?_
  refine j_iconst (v := 1) dX9_cut_1 rfl ?_
  refine j_aload_n dX9_cut_2 rfl ?_
  refine j_getr dX9_cut_3 fX9_10 rfl rfl ?_
  refine j_getf dX9_cut_6 fX9_91 rfl rfl ?_
  refine j_ishl dX9_cut_9 ?_
  obtain ⟨r1, hc, h⟩ := h
  refine j_csf (lc := 0) (as := [.int a1, .int (zshl 1 (X 1 2))]) dX9_cut_10 iX9_outside sX9_outside kX9_83 (by decide) rfl rfl (Nat.zero_le _) hc ?_
  refine j_if_ne (tgt := 24) dX9_cut_13 (by decide) (fun hc2 => ?_) (fun hc2 => ?_)
  · have h := h.1 hc2
    refine j_iconst (v := (-1)) dX9_cut_24 rfl ?_
    refine j_iret dX9_cut_25 rfl rfl ?_
    exact ⟨by rw [h], rfl⟩
  · have h := h.2 hc2
    refine j_iload_n dX9_cut_16 rfl ?_
    refine j_iconst (v := 2) dX9_cut_17 rfl ?_
    obtain ⟨r3, hc, h⟩ := h
    refine j_csf (lc := 0) (as := [.int a2, .int 2]) dX9_cut_18 iX9_outside sX9_outside kX9_83 (by decide) rfl rfl (Nat.zero_le _) hc ?_
    refine j_if_eq (tgt := 26) dX9_cut_21 (by decide) (fun hc4 => ?_) (fun hc4 => ?_)
    · have h := h.1 hc4
      refine j_aload_n dX9_cut_26 rfl ?_
      refine j_getr dX9_cut_27 fX9_19 rfl rfl ?_
      refine j_iload_n dX9_cut_30 rfl ?_
      obtain ⟨r5, hc, h⟩ := h
      refine j_cvf (lc := 0) (as := [.int a1]) dX9_cut_31 iX6_versesAt vX6_versesAt kX9_265 (by decide) rfl rfl rfl rfl (Nat.zero_le _) hc ?_
      refine j_istore_n (L2 := [some (.ref 0), some (.int a1), some (.int a2), some (.int r5)]) dX9_cut_34 (by decide) (zno rfl) rfl ?_
      refine j_iload_n dX9_cut_35 rfl ?_
      refine j_if_ne (tgt := 43) dX9_cut_36 (by decide) (fun hc6 => ?_) (fun hc6 => ?_)
      · have h := h.1 hc6
        refine j_aload_n dX9_cut_43 rfl ?_
        refine j_getr dX9_cut_44 fX9_19 rfl rfl ?_
        refine j_iload_n dX9_cut_47 rfl ?_
        obtain ⟨r7, hc, h⟩ := h
        refine j_cvf (lc := 0) (as := [.int r5]) dX9_cut_48 iX6_brokenBy vX6_brokenBy kX9_268 (by decide) rfl rfl rfl rfl (Nat.zero_le _) hc ?_
        refine j_iret dX9_cut_51 rfl rfl ?_
        exact ⟨by rw [h], rfl⟩
      · have h := h.2 hc6
        refine j_iload_n dX9_cut_39 rfl ?_
        refine j_goto (tgt := 51) dX9_cut_40 (by decide) ?_
        refine j_iret dX9_cut_51 rfl rfl ?_
        exact ⟨by rw [h], rfl⟩
    · have h := h.2 hc4
      refine j_iconst (v := (-1)) dX9_cut_24 rfl ?_
      refine j_iret dX9_cut_25 rfl rfl ?_
      exact ⟨by rw [h], rfl⟩
theorem eX9_cutTold (v : Int32) (X : zX) (a1 : Int32) (a2 : Int32) (a3 : Int32) (h : ∃ r1 : Int32, zPf SX 0 mX9_outside [.int a1, .int (X 19 5)] X r1 ∧ (((¬ r1 = 0) → ((-1) = v)) ∧ ((r1 = 0) → (∃ r3 : Int32, zPf SX 0 mX9_outside [.int a2, .int (zshl 1 (X 1 2))] X r3 ∧ (((¬ r3 = 0) → ((-1) = v)) ∧ ((r3 = 0) → (∃ r5 : Int32, zPf SX 0 mX9_outside [.int a3, .int 2] X r5 ∧ (((r5 = 0) → (∃ r7 : Int32, zPf SX 0 mX6_versesAt [.ref 4, .int a2] X r7 ∧ (∃ r8 : Int32, zPf SX 0 mX9_hearable [.ref 0, .int a1] X r8 ∧ (((¬ a3 = 0) → (∃ r10 : Int32, zPf SX 0 mJ6_bitCount_0f7a4 [.int (r7 &&& ((r7 &&& r8) ^^^ (-1)))] X r10 ∧ (r10 = v))) ∧ ((a3 = 0) → ((r7 &&& r8) = v)))))) ∧ ((¬ (r5 = 0)) → ((-1) = v)))))))))) : zPf SX 1 mX9_cutTold [.ref 0, .int a1, .int a2, .int a3] X v := by
  refine zP_in [some (.ref 0), some (.int a1), some (.int a2), some (.int a3), none, none] ⟨rfl, rfl, rfl, rfl, trivial⟩ (by decide) (Nat.le_of_ble_eq_true rfl) ?_
  refine j_iload_n dX9_cutTold_0 rfl ?_
  refine j_aload_n dX9_cutTold_1 rfl ?_
  refine j_getr dX9_cutTold_2 fX9_26 rfl rfl ?_
  refine j_getf dX9_cutTold_5 fX9_107 rfl rfl ?_
  obtain ⟨r1, hc, h⟩ := h
  refine j_csf (lc := 0) (as := [.int a1, .int (X 19 5)]) dX9_cutTold_8 iX9_outside sX9_outside kX9_83 (by decide) rfl rfl (Nat.zero_le _) hc ?_
  refine j_if_ne (tgt := 38) dX9_cutTold_11 (by decide) (fun hc2 => ?_) (fun hc2 => ?_)
  · have h := h.1 hc2
    refine j_iconst (v := (-1)) dX9_cutTold_38 rfl ?_
    refine j_iret dX9_cutTold_39 rfl rfl ?_
    exact ⟨by rw [h], rfl⟩
  · have h := h.2 hc2
    refine j_iload_n dX9_cutTold_14 rfl ?_
    refine j_iconst (v := 1) dX9_cutTold_15 rfl ?_
    refine j_aload_n dX9_cutTold_16 rfl ?_
    refine j_getr dX9_cutTold_17 fX9_10 rfl rfl ?_
    refine j_getf dX9_cutTold_20 fX9_91 rfl rfl ?_
    refine j_ishl dX9_cutTold_23 ?_
    obtain ⟨r3, hc, h⟩ := h
    refine j_csf (lc := 0) (as := [.int a2, .int (zshl 1 (X 1 2))]) dX9_cutTold_24 iX9_outside sX9_outside kX9_83 (by decide) rfl rfl (Nat.zero_le _) hc ?_
    refine j_if_ne (tgt := 38) dX9_cutTold_27 (by decide) (fun hc4 => ?_) (fun hc4 => ?_)
    · have h := h.1 hc4
      refine j_iconst (v := (-1)) dX9_cutTold_38 rfl ?_
      refine j_iret dX9_cutTold_39 rfl rfl ?_
      exact ⟨by rw [h], rfl⟩
    · have h := h.2 hc4
      refine j_iload_n dX9_cutTold_30 rfl ?_
      refine j_iconst (v := 2) dX9_cutTold_31 rfl ?_
      obtain ⟨r5, hc, h⟩ := h
      refine j_csf (lc := 0) (as := [.int a3, .int 2]) dX9_cutTold_32 iX9_outside sX9_outside kX9_83 (by decide) rfl rfl (Nat.zero_le _) hc ?_
      refine j_if_eq (tgt := 40) dX9_cutTold_35 (by decide) (fun hc6 => ?_) (fun hc6 => ?_)
      · have h := h.1 hc6
        refine j_aload_n dX9_cutTold_40 rfl ?_
        refine j_getr dX9_cutTold_41 fX9_19 rfl rfl ?_
        refine j_iload_n dX9_cutTold_44 rfl ?_
        obtain ⟨r7, hc, h⟩ := h
        refine j_cvf (lc := 0) (as := [.int a2]) dX9_cutTold_45 iX6_versesAt vX6_versesAt kX9_265 (by decide) rfl rfl rfl rfl (Nat.zero_le _) hc ?_
        refine j_istore (L2 := [some (.ref 0), some (.int a1), some (.int a2), some (.int a3), some (.int r7), none]) dX9_cutTold_48 (by decide) (zno rfl) rfl ?_
        refine j_iload dX9_cutTold_50 rfl ?_
        refine j_aload_n dX9_cutTold_52 rfl ?_
        refine j_iload_n dX9_cutTold_53 rfl ?_
        obtain ⟨r8, hc, h⟩ := h
        refine j_cvf (lc := 0) (as := [.int a1]) dX9_cutTold_54 iX9_hearable vX9_hearable kX9_215 (by decide) rfl rfl rfl rfl (by simp [Value.category]) hc ?_
        refine j_iand dX9_cutTold_57 ?_
        refine j_istore (L2 := [some (.ref 0), some (.int a1), some (.int a2), some (.int a3), some (.int r7), some (.int (r7 &&& r8))]) dX9_cutTold_58 (by decide) (zno rfl) rfl ?_
        refine j_iload_n dX9_cutTold_60 rfl ?_
        refine j_if_ne (tgt := 69) dX9_cutTold_61 (by decide) (fun hc9 => ?_) (fun hc9 => ?_)
        · have h := h.1 hc9
          refine j_iload dX9_cutTold_69 rfl ?_
          refine j_iload dX9_cutTold_71 rfl ?_
          refine j_iconst (v := (-1)) dX9_cutTold_73 rfl ?_
          refine j_ixor dX9_cutTold_74 ?_
          refine j_iand dX9_cutTold_75 ?_
          obtain ⟨r10, hc, h⟩ := h
          refine j_csf (lc := 0) (as := [.int (r7 &&& ((r7 &&& r8) ^^^ (-1)))]) dX9_cutTold_76 iJ6_bitCount_0f7a4 sJ6_bitCount_0f7a4 kX9_120 (by decide) rfl rfl (Nat.zero_le _) hc ?_
          refine j_iret dX9_cutTold_79 rfl rfl ?_
          exact ⟨by rw [h], rfl⟩
        · have h := h.2 hc9
          refine j_iload dX9_cutTold_64 rfl ?_
          refine j_goto (tgt := 79) dX9_cutTold_66 (by decide) ?_
          refine j_iret dX9_cutTold_79 rfl rfl ?_
          exact ⟨by rw [h], rfl⟩
      · have h := h.2 hc6
        refine j_iconst (v := (-1)) dX9_cutTold_38 rfl ?_
        refine j_iret dX9_cutTold_39 rfl rfl ?_
        exact ⟨by rw [h], rfl⟩
abbrev LX9_tune_31 (v : Int32) (X : zX) (x1 : Int32) (x2 : Int32) (x3 : Int32) : Prop := zJ SX 1 mX9_tune (zRf v X) 31 [some (.ref 0), some (.int x1), some (.int x2), some (.int x3)] [] X
theorem eX9_tune (v : Int32) (X : zX) (a1 : Int32) (h : ∃ r1 : Int32, zPf SX 0 mX9_outside [.int a1, .int 4] X r1 ∧ (((r1 = 0) → (∃ j3 : Nat, a1 = nI j3 ∧ j3 < 4 ∧ ((((X 16 j3) ≤ 17) → (LX9_tune_31 v X a1 1 0)) ∧ ((¬ ((X 16 j3) ≤ 17)) → ((-2) = v))))) ∧ ((¬ (r1 = 0)) → ((-1) = v)))) : zPf SX 1 mX9_tune [.ref 0, .int a1] X v := by
  refine zP_in [some (.ref 0), some (.int a1), none, none] ⟨rfl, rfl, trivial⟩ (by decide) (Nat.le_of_ble_eq_true rfl) ?_
  refine j_iload_n dX9_tune_0 rfl ?_
  refine j_iconst (v := 4) dX9_tune_1 rfl ?_
  obtain ⟨r1, hc, h⟩ := h
  refine j_csf (lc := 0) (as := [.int a1, .int 4]) dX9_tune_2 iX9_outside sX9_outside kX9_83 (by decide) rfl rfl (Nat.zero_le _) hc ?_
  refine j_if_eq (tgt := 10) dX9_tune_5 (by decide) (fun hc2 => ?_) (fun hc2 => ?_)
  · have h := h.1 hc2
    refine j_aload_n dX9_tune_10 rfl ?_
    refine j_getr dX9_tune_11 fX9_19 rfl rfl ?_
    refine j_getr dX9_tune_14 fX9_95 rfl rfl ?_
    refine j_iload_n dX9_tune_17 rfl ?_
    obtain ⟨j3, ej3, lj3, h⟩ := h
    refine j_iald dX9_tune_18 rfl (zin ej3 lj3 (by decide)) ?_
    rw [zcl ej3 lj3 (by decide)]
    refine j_bipush (v := 17) dX9_tune_19 rfl ?_
    refine j_ic_le (tgt := 27) dX9_tune_21 (by decide) (fun hc4 => ?_) (fun hc4 => ?_)
    · have h := h.1 hc4
      refine j_iconst (v := 1) dX9_tune_27 rfl ?_
      refine j_istore_n (L2 := [some (.ref 0), some (.int a1), some (.int 1), none]) dX9_tune_28 (by decide) (zno rfl) rfl ?_
      refine j_iconst (v := 0) dX9_tune_29 rfl ?_
      refine j_istore_n (L2 := [some (.ref 0), some (.int a1), some (.int 1), some (.int 0)]) dX9_tune_30 (by decide) (zno rfl) rfl ?_
      exact zJw h ⟨rfl, rfl, rfl, rfl, trivial⟩
    · have h := h.2 hc4
      refine j_bipush (v := (-2)) dX9_tune_24 rfl ?_
      refine j_iret dX9_tune_26 rfl rfl ?_
      exact ⟨by rw [h], rfl⟩
  · have h := h.2 hc2
    refine j_iconst (v := (-1)) dX9_tune_8 rfl ?_
    refine j_iret dX9_tune_9 rfl rfl ?_
    exact ⟨by rw [h], rfl⟩
theorem bX9_tune_31 (v : Int32) (X : zX) (x1 : Int32) (x2 : Int32) (x3 : Int32) (h : ∃ j5 : Nat, x1 = nI j5 ∧ j5 < 4 ∧ ((((X 16 j5) ≤ (x3 + 1)) → (x2 = v)) ∧ ((¬ ((X 16 j5) ≤ (x3 + 1))) → (∃ r7 : Int32, zPf SX 0 mX9_stepFrom [.ref 0, .int x1, .int x3, .int 1] X r7 ∧ (LX9_tune_31 v X x1 ((x2 * 3) + r7) (x3 + 1)))))) : LX9_tune_31 v X x1 x2 x3 := by
  refine j_iload_n dX9_tune_31 rfl ?_
  refine j_iconst (v := 1) dX9_tune_32 rfl ?_
  refine j_iadd dX9_tune_33 ?_
  refine j_aload_n dX9_tune_34 rfl ?_
  refine j_getr dX9_tune_35 fX9_19 rfl rfl ?_
  refine j_getr dX9_tune_38 fX9_95 rfl rfl ?_
  refine j_iload_n dX9_tune_41 rfl ?_
  obtain ⟨j5, ej5, lj5, h⟩ := h
  refine j_iald dX9_tune_42 rfl (zin ej5 lj5 (by decide)) ?_
  rw [zcl ej5 lj5 (by decide)]
  refine j_ic_ge (tgt := 64) dX9_tune_43 (by decide) (fun hc6 => ?_) (fun hc6 => ?_)
  · have h := h.1 hc6
    refine j_iload_n dX9_tune_64 rfl ?_
    refine j_iret dX9_tune_65 rfl rfl ?_
    exact ⟨by rw [h], rfl⟩
  · have h := h.2 hc6
    refine j_iload_n dX9_tune_46 rfl ?_
    refine j_iconst (v := 3) dX9_tune_47 rfl ?_
    refine j_imul dX9_tune_48 ?_
    refine j_aload_n dX9_tune_49 rfl ?_
    refine j_iload_n dX9_tune_50 rfl ?_
    refine j_iload_n dX9_tune_51 rfl ?_
    refine j_iconst (v := 1) dX9_tune_52 rfl ?_
    obtain ⟨r7, hc, h⟩ := h
    refine j_cvf (lc := 0) (as := [.int x1, .int x3, .int 1]) dX9_tune_53 iX9_stepFrom vX9_stepFrom kX9_271 (by decide) rfl rfl rfl rfl (by simp [Value.category]) hc ?_
    refine j_iadd dX9_tune_56 ?_
    refine j_istore_n (L2 := [some (.ref 0), some (.int x1), some (.int ((x2 * 3) + r7)), some (.int x3)]) dX9_tune_57 (by decide) (zno rfl) rfl ?_
    refine j_iinc (v := (x3 + 1)) (L2 := [some (.ref 0), some (.int x1), some (.int ((x2 * 3) + r7)), some (.int (x3 + 1))]) dX9_tune_58 rfl rfl (by decide) (zno rfl) rfl ?_
    refine j_goto (tgt := 31) dX9_tune_61 (by decide) ?_
    exact zJw h ⟨rfl, rfl, rfl, rfl, trivial⟩
theorem eX9_where (v : Int32) (X : zX) (a1 : Int32) (a2 : Int32) (a3 : Int32) (h : ((a1 < 1) → ((-1) = v)) ∧ ((¬ (a1 < 1)) → (((8 < a1) → ((-1) = v)) ∧ ((¬ (8 < a1)) → (∃ r3 : Int32, zPf SX 0 mX9_powerOfThree [.int a1] X r3 ∧ (∃ r4 : Int32, zPf SX 0 mX9_outside [.int a2, .int r3] X r4 ∧ (((¬ r4 = 0) → ((-1) = v)) ∧ ((r4 = 0) → (∃ r6 : Int32, zPf SX 0 mX9_outside [.int a3, .int 3] X r6 ∧ (((r6 = 0) → (∃ r8 : Int32, zPf SX 2 mX9_fitting [.ref 0, .int a1, .int a2] X r8 ∧ (((¬ a3 = 0) → (((¬ a3 = 1) → (r8 = v)) ∧ ((a3 = 1) → (((¬ r8 = 0) → (∃ r12 : Int32, zPf SX 0 mJ6_numberOfTrailingZeros_0f7a4 [.int r8] X r12 ∧ (r12 = v))) ∧ ((r8 = 0) → ((-4) = v)))))) ∧ ((a3 = 0) → (∃ r13 : Int32, zPf SX 0 mJ6_bitCount_0f7a4 [.int r8] X r13 ∧ (r13 = v)))))) ∧ ((¬ (r6 = 0)) → ((-1) = v)))))))))))) : zPf SX 3 mX9_where [.ref 0, .int a1, .int a2, .int a3] X v := by
  refine zP_in [some (.ref 0), some (.int a1), some (.int a2), some (.int a3), none] ⟨rfl, rfl, rfl, rfl, trivial⟩ (by decide) (Nat.le_of_ble_eq_true rfl) ?_
  refine j_iload_n dX9_where_0 rfl ?_
  refine j_iconst (v := 1) dX9_where_1 rfl ?_
  refine j_ic_lt (tgt := 30) dX9_where_2 (by decide) (fun hc1 => ?_) (fun hc1 => ?_)
  · have h := h.1 hc1
    refine j_iconst (v := (-1)) dX9_where_30 rfl ?_
    refine j_iret dX9_where_31 rfl rfl ?_
    exact ⟨by rw [h], rfl⟩
  · have h := h.2 hc1
    refine j_iload_n dX9_where_5 rfl ?_
    refine j_bipush (v := 8) dX9_where_6 rfl ?_
    refine j_ic_gt (tgt := 30) dX9_where_8 (by decide) (fun hc2 => ?_) (fun hc2 => ?_)
    · have h := h.1 hc2
      refine j_iconst (v := (-1)) dX9_where_30 rfl ?_
      refine j_iret dX9_where_31 rfl rfl ?_
      exact ⟨by rw [h], rfl⟩
    · have h := h.2 hc2
      refine j_iload_n dX9_where_11 rfl ?_
      refine j_iload_n dX9_where_12 rfl ?_
      obtain ⟨r3, hc, h⟩ := h
      refine j_csf (lc := 0) (as := [.int a1]) dX9_where_13 iX9_powerOfThree sX9_powerOfThree kX9_274 (by decide) rfl rfl (by simp [Value.category]) hc ?_
      obtain ⟨r4, hc, h⟩ := h
      refine j_csf (lc := 0) (as := [.int a2, .int r3]) dX9_where_16 iX9_outside sX9_outside kX9_83 (by decide) rfl rfl (Nat.zero_le _) hc ?_
      refine j_if_ne (tgt := 30) dX9_where_19 (by decide) (fun hc5 => ?_) (fun hc5 => ?_)
      · have h := h.1 hc5
        refine j_iconst (v := (-1)) dX9_where_30 rfl ?_
        refine j_iret dX9_where_31 rfl rfl ?_
        exact ⟨by rw [h], rfl⟩
      · have h := h.2 hc5
        refine j_iload_n dX9_where_22 rfl ?_
        refine j_iconst (v := 3) dX9_where_23 rfl ?_
        obtain ⟨r6, hc, h⟩ := h
        refine j_csf (lc := 0) (as := [.int a3, .int 3]) dX9_where_24 iX9_outside sX9_outside kX9_83 (by decide) rfl rfl (Nat.zero_le _) hc ?_
        refine j_if_eq (tgt := 32) dX9_where_27 (by decide) (fun hc7 => ?_) (fun hc7 => ?_)
        · have h := h.1 hc7
          refine j_aload_n dX9_where_32 rfl ?_
          refine j_iload_n dX9_where_33 rfl ?_
          refine j_iload_n dX9_where_34 rfl ?_
          obtain ⟨r8, hc, h⟩ := h
          refine j_cvf (lc := 2) (as := [.int a1, .int a2]) dX9_where_35 iX9_fitting vX9_fitting kX9_277 (by decide) rfl rfl rfl rfl (Nat.zero_le _) hc ?_
          refine j_istore (L2 := [some (.ref 0), some (.int a1), some (.int a2), some (.int a3), some (.int r8)]) dX9_where_38 (by decide) (zno rfl) rfl ?_
          refine j_iload_n dX9_where_40 rfl ?_
          refine j_if_ne (tgt := 50) dX9_where_41 (by decide) (fun hc9 => ?_) (fun hc9 => ?_)
          · have h := h.1 hc9
            refine j_iload_n dX9_where_50 rfl ?_
            refine j_iconst (v := 1) dX9_where_51 rfl ?_
            refine j_ic_ne (tgt := 71) dX9_where_52 (by decide) (fun hc10 => ?_) (fun hc10 => ?_)
            · have h := h.1 hc10
              refine j_iload dX9_where_71 rfl ?_
              refine j_iret dX9_where_73 rfl rfl ?_
              exact ⟨by rw [h], rfl⟩
            · have h := h.2 hc10
              refine j_iload dX9_where_55 rfl ?_
              refine j_if_ne (tgt := 65) dX9_where_57 (by decide) (fun hc11 => ?_) (fun hc11 => ?_)
              · have h := h.1 hc11
                refine j_iload dX9_where_65 rfl ?_
                obtain ⟨r12, hc, h⟩ := h
                refine j_csf (lc := 0) (as := [.int r8]) dX9_where_67 iJ6_numberOfTrailingZeros_0f7a4 sJ6_numberOfTrailingZeros_0f7a4 kX9_280 (by decide) rfl rfl (Nat.zero_le _) hc ?_
                refine j_iret dX9_where_70 rfl rfl ?_
                exact ⟨by rw [h], rfl⟩
              · have h := h.2 hc11
                refine j_bipush (v := (-4)) dX9_where_60 rfl ?_
                refine j_goto (tgt := 70) dX9_where_62 (by decide) ?_
                refine j_iret dX9_where_70 rfl rfl ?_
                exact ⟨by rw [h], rfl⟩
          · have h := h.2 hc9
            refine j_iload dX9_where_44 rfl ?_
            obtain ⟨r13, hc, h⟩ := h
            refine j_csf (lc := 0) (as := [.int r8]) dX9_where_46 iJ6_bitCount_0f7a4 sJ6_bitCount_0f7a4 kX9_120 (by decide) rfl rfl (Nat.zero_le _) hc ?_
            refine j_iret dX9_where_49 rfl rfl ?_
            exact ⟨by rw [h], rfl⟩
        · have h := h.2 hc7
          refine j_iconst (v := (-1)) dX9_where_30 rfl ?_
          refine j_iret dX9_where_31 rfl rfl ?_
          exact ⟨by rw [h], rfl⟩
abbrev LX9_sure_18 (v : Int32) (X : zX) (x1 : Int32) (x2 : Int32) : Prop := zJ SX 3 mX9_sure (zRf v X) 18 [some (.ref 0), some (.int x1), some (.int x2), none] [] X
theorem eX9_sure (v : Int32) (X : zX) (a1 : Int32) (h : ∃ r1 : Int32, zPf SX 0 mX9_outside [.int a1, .int (X 4 10)] X r1 ∧ (((r1 = 0) → (LX9_sure_18 v X a1 1)) ∧ ((¬ (r1 = 0)) → ((-1) = v)))) : zPf SX 3 mX9_sure [.ref 0, .int a1] X v := by
  refine zP_in [some (.ref 0), some (.int a1), none, none] ⟨rfl, rfl, trivial⟩ (by decide) (Nat.le_of_ble_eq_true rfl) ?_
  refine j_iload_n dX9_sure_0 rfl ?_
  refine j_aload_n dX9_sure_1 rfl ?_
  refine j_getr dX9_sure_2 fX9_19 rfl rfl ?_
  refine j_getf dX9_sure_5 fX9_108 rfl rfl ?_
  obtain ⟨r1, hc, h⟩ := h
  refine j_csf (lc := 0) (as := [.int a1, .int (X 4 10)]) dX9_sure_8 iX9_outside sX9_outside kX9_83 (by decide) rfl rfl (Nat.zero_le _) hc ?_
  refine j_if_eq (tgt := 16) dX9_sure_11 (by decide) (fun hc2 => ?_) (fun hc2 => ?_)
  · have h := h.1 hc2
    refine j_iconst (v := 1) dX9_sure_16 rfl ?_
    refine j_istore_n (L2 := [some (.ref 0), some (.int a1), some (.int 1), none]) dX9_sure_17 (by decide) (zno rfl) rfl ?_
    exact zJw h ⟨rfl, rfl, rfl, trivial⟩
  · have h := h.2 hc2
    refine j_iconst (v := (-1)) dX9_sure_14 rfl ?_
    refine j_iret dX9_sure_15 rfl rfl ?_
    exact ⟨by rw [h], rfl⟩
theorem bX9_sure_18 (v : Int32) (X : zX) (x1 : Int32) (x2 : Int32) (h : ((8 < x2) → ((-4) = v)) ∧ ((¬ (8 < x2)) → (∃ r4 : Int32, zPf SX 1 mX9_pieceFrom [.ref 0, .int x1, .int x2] X r4 ∧ (((¬ r4 = (-4)) → (∃ r6 : Int32, zPf SX 2 mX9_fitting [.ref 0, .int x2, .int r4] X r6 ∧ (((¬ r6 = (zshl 1 x1)) → (LX9_sure_18 v X x1 (x2 + 1))) ∧ ((r6 = (zshl 1 x1)) → (x2 = v))))) ∧ ((r4 = (-4)) → ((-4) = v)))))) : LX9_sure_18 v X x1 x2 := by
  refine j_iload_n dX9_sure_18 rfl ?_
  refine j_bipush (v := 8) dX9_sure_19 rfl ?_
  refine j_ic_gt (tgt := 60) dX9_sure_21 (by decide) (fun hc3 => ?_) (fun hc3 => ?_)
  · have h := h.1 hc3
    refine j_bipush (v := (-4)) dX9_sure_60 rfl ?_
    refine j_iret dX9_sure_62 rfl rfl ?_
    exact ⟨by rw [h], rfl⟩
  · have h := h.2 hc3
    refine j_aload_n dX9_sure_24 rfl ?_
    refine j_iload_n dX9_sure_25 rfl ?_
    refine j_iload_n dX9_sure_26 rfl ?_
    obtain ⟨r4, hc, h⟩ := h
    refine j_cvf (lc := 1) (as := [.int x1, .int x2]) dX9_sure_27 iX9_pieceFrom vX9_pieceFrom kX9_283 (by decide) rfl rfl rfl rfl (Nat.zero_le _) hc ?_
    refine j_istore_n (L2 := [some (.ref 0), some (.int x1), some (.int x2), some (.int r4)]) dX9_sure_30 (by decide) (zno rfl) rfl ?_
    refine j_iload_n dX9_sure_31 rfl ?_
    refine j_bipush (v := (-4)) dX9_sure_32 rfl ?_
    refine j_ic_ne (tgt := 40) dX9_sure_34 (by decide) (fun hc5 => ?_) (fun hc5 => ?_)
    · have h := h.1 hc5
      refine j_aload_n dX9_sure_40 rfl ?_
      refine j_iload_n dX9_sure_41 rfl ?_
      refine j_iload_n dX9_sure_42 rfl ?_
      obtain ⟨r6, hc, h⟩ := h
      refine j_cvf (lc := 2) (as := [.int x2, .int r4]) dX9_sure_43 iX9_fitting vX9_fitting kX9_277 (by decide) rfl rfl rfl rfl (Nat.zero_le _) hc ?_
      refine j_iconst (v := 1) dX9_sure_46 rfl ?_
      refine j_iload_n dX9_sure_47 rfl ?_
      refine j_ishl dX9_sure_48 ?_
      refine j_ic_ne (tgt := 54) dX9_sure_49 (by decide) (fun hc7 => ?_) (fun hc7 => ?_)
      · have h := h.1 hc7
        refine j_iinc (v := (x2 + 1)) (L2 := [some (.ref 0), some (.int x1), some (.int (x2 + 1)), some (.int r4)]) dX9_sure_54 rfl rfl (by decide) (zno rfl) rfl ?_
        refine j_goto (tgt := 18) dX9_sure_57 (by decide) ?_
        exact zJw h ⟨rfl, rfl, rfl, trivial⟩
      · have h := h.2 hc7
        refine j_iload_n dX9_sure_52 rfl ?_
        refine j_iret dX9_sure_53 rfl rfl ?_
        exact ⟨by rw [h], rfl⟩
    · have h := h.2 hc5
      refine j_bipush (v := (-4)) dX9_sure_37 rfl ?_
      refine j_iret dX9_sure_39 rfl rfl ?_
      exact ⟨by rw [h], rfl⟩
abbrev LX9_faster_37 (v : Int32) (X : zX) (x1 : Int32) (x2 : Int32) (x3 : Int32) (x4 : Int32) (x5 : Int32) (x6 : Int32) : Prop := zJ SX 1 mX9_faster (zRf v X) 37 [some (.ref 0), some (.int x1), some (.int x2), some (.int x3), some (.int x4), some (.int x5), some (.int x6)] [] X
theorem eX9_faster (v : Int32) (X : zX) (a1 : Int32) (a2 : Int32) (a3 : Int32) (h : ∃ r1 : Int32, zPf SX 0 mX9_outside [.int a1, .int 4] X r1 ∧ (((¬ r1 = 0) → ((-1) = v)) ∧ ((r1 = 0) → (((a2 < 2) → ((-1) = v)) ∧ ((¬ (a2 < 2)) → (((4 < a2) → ((-1) = v)) ∧ ((¬ (4 < a2)) → (∃ r5 : Int32, zPf SX 0 mX9_outside [.int a3, .int 2] X r5 ∧ (((r5 = 0) → (LX9_faster_37 v X a1 a2 a3 0 0 0)) ∧ ((¬ (r5 = 0)) → ((-1) = v))))))))))) : zPf SX 1 mX9_faster [.ref 0, .int a1, .int a2, .int a3] X v := by
  refine zP_in [some (.ref 0), some (.int a1), some (.int a2), some (.int a3), none, none, none] ⟨rfl, rfl, rfl, rfl, trivial⟩ (by decide) (Nat.le_of_ble_eq_true rfl) ?_
  refine j_iload_n dX9_faster_0 rfl ?_
  refine j_iconst (v := 4) dX9_faster_1 rfl ?_
  obtain ⟨r1, hc, h⟩ := h
  refine j_csf (lc := 0) (as := [.int a1, .int 4]) dX9_faster_2 iX9_outside sX9_outside kX9_83 (by decide) rfl rfl (Nat.zero_le _) hc ?_
  refine j_if_ne (tgt := 26) dX9_faster_5 (by decide) (fun hc2 => ?_) (fun hc2 => ?_)
  · have h := h.1 hc2
    refine j_iconst (v := (-1)) dX9_faster_26 rfl ?_
    refine j_iret dX9_faster_27 rfl rfl ?_
    exact ⟨by rw [h], rfl⟩
  · have h := h.2 hc2
    refine j_iload_n dX9_faster_8 rfl ?_
    refine j_iconst (v := 2) dX9_faster_9 rfl ?_
    refine j_ic_lt (tgt := 26) dX9_faster_10 (by decide) (fun hc3 => ?_) (fun hc3 => ?_)
    · have h := h.1 hc3
      refine j_iconst (v := (-1)) dX9_faster_26 rfl ?_
      refine j_iret dX9_faster_27 rfl rfl ?_
      exact ⟨by rw [h], rfl⟩
    · have h := h.2 hc3
      refine j_iload_n dX9_faster_13 rfl ?_
      refine j_iconst (v := 4) dX9_faster_14 rfl ?_
      refine j_ic_gt (tgt := 26) dX9_faster_15 (by decide) (fun hc4 => ?_) (fun hc4 => ?_)
      · have h := h.1 hc4
        refine j_iconst (v := (-1)) dX9_faster_26 rfl ?_
        refine j_iret dX9_faster_27 rfl rfl ?_
        exact ⟨by rw [h], rfl⟩
      · have h := h.2 hc4
        refine j_iload_n dX9_faster_18 rfl ?_
        refine j_iconst (v := 2) dX9_faster_19 rfl ?_
        obtain ⟨r5, hc, h⟩ := h
        refine j_csf (lc := 0) (as := [.int a3, .int 2]) dX9_faster_20 iX9_outside sX9_outside kX9_83 (by decide) rfl rfl (Nat.zero_le _) hc ?_
        refine j_if_eq (tgt := 28) dX9_faster_23 (by decide) (fun hc6 => ?_) (fun hc6 => ?_)
        · have h := h.1 hc6
          refine j_iconst (v := 0) dX9_faster_28 rfl ?_
          refine j_istore (L2 := [some (.ref 0), some (.int a1), some (.int a2), some (.int a3), some (.int 0), none, none]) dX9_faster_29 (by decide) (zno rfl) rfl ?_
          refine j_iconst (v := 0) dX9_faster_31 rfl ?_
          refine j_istore (L2 := [some (.ref 0), some (.int a1), some (.int a2), some (.int a3), some (.int 0), some (.int 0), none]) dX9_faster_32 (by decide) (zno rfl) rfl ?_
          refine j_iconst (v := 0) dX9_faster_34 rfl ?_
          refine j_istore (L2 := [some (.ref 0), some (.int a1), some (.int a2), some (.int a3), some (.int 0), some (.int 0), some (.int 0)]) dX9_faster_35 (by decide) (zno rfl) rfl ?_
          exact zJw h ⟨rfl, rfl, rfl, rfl, rfl, rfl, rfl, trivial⟩
        · have h := h.2 hc6
          refine j_iconst (v := (-1)) dX9_faster_26 rfl ?_
          refine j_iret dX9_faster_27 rfl rfl ?_
          exact ⟨by rw [h], rfl⟩
theorem bX9_faster_37 (v : Int32) (X : zX) (x1 : Int32) (x2 : Int32) (x3 : Int32) (x4 : Int32) (x5 : Int32) (x6 : Int32) (h : ∃ j7 : Nat, x1 = nI j7 ∧ j7 < 4 ∧ ((((X 16 j7) ≤ (x6 + x2)) → (((¬ x3 = 0) → (x5 = v)) ∧ ((x3 = 0) → (x4 = v)))) ∧ ((¬ ((X 16 j7) ≤ (x6 + x2))) → (∃ r10 : Int32, zPf SX 0 mX9_stepFrom [.ref 0, .int x1, .int x6, .int x2] X r10 ∧ (∃ r11 : Int32, zPf SX 0 mX9_stepFrom [.ref 0, .int x1, .int x6, .int 1] X r11 ∧ (((¬ r10 = r11) → (LX9_faster_37 v X x1 x2 x3 (x4 + 1) x5 (x6 + x2))) ∧ ((r10 = r11) → (LX9_faster_37 v X x1 x2 x3 (x4 + 1) (x5 + 1) (x6 + x2))))))))) : LX9_faster_37 v X x1 x2 x3 x4 x5 x6 := by
  refine j_iload dX9_faster_37 rfl ?_
  refine j_iload_n dX9_faster_39 rfl ?_
  refine j_iadd dX9_faster_40 ?_
  refine j_aload_n dX9_faster_41 rfl ?_
  refine j_getr dX9_faster_42 fX9_19 rfl rfl ?_
  refine j_getr dX9_faster_45 fX9_95 rfl rfl ?_
  refine j_iload_n dX9_faster_48 rfl ?_
  obtain ⟨j7, ej7, lj7, h⟩ := h
  refine j_iald dX9_faster_49 rfl (zin ej7 lj7 (by decide)) ?_
  rw [zcl ej7 lj7 (by decide)]
  refine j_ic_ge (tgt := 87) dX9_faster_50 (by decide) (fun hc8 => ?_) (fun hc8 => ?_)
  · have h := h.1 hc8
    refine j_iload_n dX9_faster_87 rfl ?_
    refine j_if_ne (tgt := 96) dX9_faster_88 (by decide) (fun hc9 => ?_) (fun hc9 => ?_)
    · have h := h.1 hc9
      refine j_iload dX9_faster_96 rfl ?_
      refine j_iret dX9_faster_98 rfl rfl ?_
      exact ⟨by rw [h], rfl⟩
    · have h := h.2 hc9
      refine j_iload dX9_faster_91 rfl ?_
      refine j_goto (tgt := 98) dX9_faster_93 (by decide) ?_
      refine j_iret dX9_faster_98 rfl rfl ?_
      exact ⟨by rw [h], rfl⟩
  · have h := h.2 hc8
    refine j_iinc (v := (x4 + 1)) (L2 := [some (.ref 0), some (.int x1), some (.int x2), some (.int x3), some (.int (x4 + 1)), some (.int x5), some (.int x6)]) dX9_faster_53 rfl rfl (by decide) (zno rfl) rfl ?_
    refine j_aload_n dX9_faster_56 rfl ?_
    refine j_iload_n dX9_faster_57 rfl ?_
    refine j_iload dX9_faster_58 rfl ?_
    refine j_iload_n dX9_faster_60 rfl ?_
    obtain ⟨r10, hc, h⟩ := h
    refine j_cvf (lc := 0) (as := [.int x1, .int x6, .int x2]) dX9_faster_61 iX9_stepFrom vX9_stepFrom kX9_271 (by decide) rfl rfl rfl rfl (Nat.zero_le _) hc ?_
    refine j_aload_n dX9_faster_64 rfl ?_
    refine j_iload_n dX9_faster_65 rfl ?_
    refine j_iload dX9_faster_66 rfl ?_
    refine j_iconst (v := 1) dX9_faster_68 rfl ?_
    obtain ⟨r11, hc, h⟩ := h
    refine j_cvf (lc := 0) (as := [.int x1, .int x6, .int 1]) dX9_faster_69 iX9_stepFrom vX9_stepFrom kX9_271 (by decide) rfl rfl rfl rfl (by simp [Value.category]) hc ?_
    refine j_ic_ne (tgt := 78) dX9_faster_72 (by decide) (fun hc12 => ?_) (fun hc12 => ?_)
    · have h := h.1 hc12
      refine j_iload dX9_faster_78 rfl ?_
      refine j_iload_n dX9_faster_80 rfl ?_
      refine j_iadd dX9_faster_81 ?_
      refine j_istore (L2 := [some (.ref 0), some (.int x1), some (.int x2), some (.int x3), some (.int (x4 + 1)), some (.int x5), some (.int (x6 + x2))]) dX9_faster_82 (by decide) (zno rfl) rfl ?_
      refine j_goto (tgt := 37) dX9_faster_84 (by decide) ?_
      exact zJw h ⟨rfl, rfl, rfl, rfl, rfl, rfl, rfl, trivial⟩
    · have h := h.2 hc12
      refine j_iinc (v := (x5 + 1)) (L2 := [some (.ref 0), some (.int x1), some (.int x2), some (.int x3), some (.int (x4 + 1)), some (.int (x5 + 1)), some (.int x6)]) dX9_faster_75 rfl rfl (by decide) (zno rfl) rfl ?_
      refine j_iload dX9_faster_78 rfl ?_
      refine j_iload_n dX9_faster_80 rfl ?_
      refine j_iadd dX9_faster_81 ?_
      refine j_istore (L2 := [some (.ref 0), some (.int x1), some (.int x2), some (.int x3), some (.int (x4 + 1)), some (.int (x5 + 1)), some (.int (x6 + x2))]) dX9_faster_82 (by decide) (zno rfl) rfl ?_
      refine j_goto (tgt := 37) dX9_faster_84 (by decide) ?_
      exact zJw h ⟨rfl, rfl, rfl, rfl, rfl, rfl, rfl, trivial⟩
abbrev LX9_cross_104 (v : Int32) (X : zX) (x7 : Int32) (x8 : Int32) (x9 : Int32) : Prop := zJ SX 2 mX9_cross (zRf v X) 104 [some (.ref 0), none, none, none, none, none, none, some (.int x7), some (.int x8), some (.int x9)] [] X
theorem eX9_cross (v : Int32) (X : zX) (a1 : Int32) (a2 : Int32) (a3 : Int32) (h : ∃ r1 : Int32, zPf SX 0 mX9_outside [.int a1, .int 4] X r1 ∧ (((¬ r1 = 0) → ((-1) = v)) ∧ ((r1 = 0) → (∃ r3 : Int32, zPf SX 0 mX9_outside [.int a2, .int 4] X r3 ∧ (((¬ r3 = 0) → ((-1) = v)) ∧ ((r3 = 0) → (((a1 = a2) → ((-1) = v)) ∧ ((¬ (a1 = a2)) → (∃ r6 : Int32, zPf SX 0 mX9_outside [.int a3, .int 2] X r6 ∧ (((r6 = 0) → (∃ j8 : Nat, a1 = nI j8 ∧ j8 < 4 ∧ (∃ j9 : Nat, a2 = nI j9 ∧ j9 < 4 ∧ (∃ r10 : Int32, zPf SX 0 mX6_placesOf [.ref 4, .int (X 17 j8)] X r10 ∧ (∃ r11 : Int32, zPf SX 0 mX6_placesOf [.ref 4, .int (X 17 j9)] X r11 ∧ (((¬ a3 = 0) → (∃ r13 : Int32, zPf SX 0 mX6_versesAt [.ref 4, .int (r10 &&& r11)] X r13 ∧ (LX9_cross_104 v X (r13 &&& ((X 17 j8) ||| (X 17 j9))) 0 0))) ∧ ((a3 = 0) → ((r10 &&& r11) = v)))))))) ∧ ((¬ (r6 = 0)) → ((-1) = v)))))))))))) : zPf SX 2 mX9_cross [.ref 0, .int a1, .int a2, .int a3] X v := by
  refine zP_in [some (.ref 0), some (.int a1), some (.int a2), some (.int a3), none, none, none, none, none, none] ⟨rfl, rfl, rfl, rfl, trivial⟩ (by decide) (Nat.le_of_ble_eq_true rfl) ?_
  refine j_iload_n dX9_cross_0 rfl ?_
  refine j_iconst (v := 4) dX9_cross_1 rfl ?_
  obtain ⟨r1, hc, h⟩ := h
  refine j_csf (lc := 0) (as := [.int a1, .int 4]) dX9_cross_2 iX9_outside sX9_outside kX9_83 (by decide) rfl rfl (Nat.zero_le _) hc ?_
  refine j_if_ne (tgt := 29) dX9_cross_5 (by decide) (fun hc2 => ?_) (fun hc2 => ?_)
  · have h := h.1 hc2
    refine j_iconst (v := (-1)) dX9_cross_29 rfl ?_
    refine j_iret dX9_cross_30 rfl rfl ?_
    exact ⟨by rw [h], rfl⟩
  · have h := h.2 hc2
    refine j_iload_n dX9_cross_8 rfl ?_
    refine j_iconst (v := 4) dX9_cross_9 rfl ?_
    obtain ⟨r3, hc, h⟩ := h
    refine j_csf (lc := 0) (as := [.int a2, .int 4]) dX9_cross_10 iX9_outside sX9_outside kX9_83 (by decide) rfl rfl (Nat.zero_le _) hc ?_
    refine j_if_ne (tgt := 29) dX9_cross_13 (by decide) (fun hc4 => ?_) (fun hc4 => ?_)
    · have h := h.1 hc4
      refine j_iconst (v := (-1)) dX9_cross_29 rfl ?_
      refine j_iret dX9_cross_30 rfl rfl ?_
      exact ⟨by rw [h], rfl⟩
    · have h := h.2 hc4
      refine j_iload_n dX9_cross_16 rfl ?_
      refine j_iload_n dX9_cross_17 rfl ?_
      refine j_ic_eq (tgt := 29) dX9_cross_18 (by decide) (fun hc5 => ?_) (fun hc5 => ?_)
      · have h := h.1 hc5
        refine j_iconst (v := (-1)) dX9_cross_29 rfl ?_
        refine j_iret dX9_cross_30 rfl rfl ?_
        exact ⟨by rw [h], rfl⟩
      · have h := h.2 hc5
        refine j_iload_n dX9_cross_21 rfl ?_
        refine j_iconst (v := 2) dX9_cross_22 rfl ?_
        obtain ⟨r6, hc, h⟩ := h
        refine j_csf (lc := 0) (as := [.int a3, .int 2]) dX9_cross_23 iX9_outside sX9_outside kX9_83 (by decide) rfl rfl (Nat.zero_le _) hc ?_
        refine j_if_eq (tgt := 31) dX9_cross_26 (by decide) (fun hc7 => ?_) (fun hc7 => ?_)
        · have h := h.1 hc7
          refine j_aload_n dX9_cross_31 rfl ?_
          refine j_getr dX9_cross_32 fX9_19 rfl rfl ?_
          refine j_getr dX9_cross_35 fX9_221 rfl rfl ?_
          refine j_iload_n dX9_cross_38 rfl ?_
          obtain ⟨j8, ej8, lj8, h⟩ := h
          refine j_iald dX9_cross_39 rfl (zin ej8 lj8 (by decide)) ?_
          rw [zcl ej8 lj8 (by decide)]
          refine j_istore (L2 := [some (.ref 0), some (.int a1), some (.int a2), some (.int a3), some (.int (X 17 j8)), none, none, none, none, none]) dX9_cross_40 (by decide) (zno rfl) rfl ?_
          refine j_aload_n dX9_cross_42 rfl ?_
          refine j_getr dX9_cross_43 fX9_19 rfl rfl ?_
          refine j_getr dX9_cross_46 fX9_221 rfl rfl ?_
          refine j_iload_n dX9_cross_49 rfl ?_
          obtain ⟨j9, ej9, lj9, h⟩ := h
          refine j_iald dX9_cross_50 rfl (zin ej9 lj9 (by decide)) ?_
          rw [zcl ej9 lj9 (by decide)]
          refine j_istore (L2 := [some (.ref 0), some (.int a1), some (.int a2), some (.int a3), some (.int (X 17 j8)), some (.int (X 17 j9)), none, none, none, none]) dX9_cross_51 (by decide) (zno rfl) rfl ?_
          refine j_aload_n dX9_cross_53 rfl ?_
          refine j_getr dX9_cross_54 fX9_19 rfl rfl ?_
          refine j_iload dX9_cross_57 rfl ?_
          obtain ⟨r10, hc, h⟩ := h
          refine j_cvf (lc := 0) (as := [.int (X 17 j8)]) dX9_cross_59 iX6_placesOf vX6_placesOf kX9_224 (by decide) rfl rfl rfl rfl (Nat.zero_le _) hc ?_
          refine j_aload_n dX9_cross_62 rfl ?_
          refine j_getr dX9_cross_63 fX9_19 rfl rfl ?_
          refine j_iload dX9_cross_66 rfl ?_
          obtain ⟨r11, hc, h⟩ := h
          refine j_cvf (lc := 0) (as := [.int (X 17 j9)]) dX9_cross_68 iX6_placesOf vX6_placesOf kX9_224 (by decide) rfl rfl rfl rfl (by simp [Value.category]) hc ?_
          refine j_iand dX9_cross_71 ?_
          refine j_istore (L2 := [some (.ref 0), some (.int a1), some (.int a2), some (.int a3), some (.int (X 17 j8)), some (.int (X 17 j9)), some (.int (r10 &&& r11)), none, none, none]) dX9_cross_72 (by decide) (zno rfl) rfl ?_
          refine j_iload_n dX9_cross_74 rfl ?_
          refine j_if_ne (tgt := 81) dX9_cross_75 (by decide) (fun hc12 => ?_) (fun hc12 => ?_)
          · have h := h.1 hc12
            refine j_aload_n dX9_cross_81 rfl ?_
            refine j_getr dX9_cross_82 fX9_19 rfl rfl ?_
            refine j_iload dX9_cross_85 rfl ?_
            obtain ⟨r13, hc, h⟩ := h
            refine j_cvf (lc := 0) (as := [.int (r10 &&& r11)]) dX9_cross_87 iX6_versesAt vX6_versesAt kX9_265 (by decide) rfl rfl rfl rfl (Nat.zero_le _) hc ?_
            refine j_iload dX9_cross_90 rfl ?_
            refine j_iload dX9_cross_92 rfl ?_
            refine j_ior dX9_cross_94 ?_
            refine j_iand dX9_cross_95 ?_
            refine j_istore (L2 := [some (.ref 0), some (.int a1), some (.int a2), some (.int a3), some (.int (X 17 j8)), some (.int (X 17 j9)), some (.int (r10 &&& r11)), some (.int (r13 &&& ((X 17 j8) ||| (X 17 j9)))), none, none]) dX9_cross_96 (by decide) (zno rfl) rfl ?_
            refine j_iconst (v := 0) dX9_cross_98 rfl ?_
            refine j_istore (L2 := [some (.ref 0), some (.int a1), some (.int a2), some (.int a3), some (.int (X 17 j8)), some (.int (X 17 j9)), some (.int (r10 &&& r11)), some (.int (r13 &&& ((X 17 j8) ||| (X 17 j9)))), some (.int 0), none]) dX9_cross_99 (by decide) (zno rfl) rfl ?_
            refine j_iconst (v := 0) dX9_cross_101 rfl ?_
            refine j_istore (L2 := [some (.ref 0), some (.int a1), some (.int a2), some (.int a3), some (.int (X 17 j8)), some (.int (X 17 j9)), some (.int (r10 &&& r11)), some (.int (r13 &&& ((X 17 j8) ||| (X 17 j9)))), some (.int 0), some (.int 0)]) dX9_cross_102 (by decide) (zno rfl) rfl ?_
            exact zJw h ⟨rfl, rfl, rfl, rfl, trivial⟩
          · have h := h.2 hc12
            refine j_iload dX9_cross_78 rfl ?_
            refine j_iret dX9_cross_80 rfl rfl ?_
            exact ⟨by rw [h], rfl⟩
        · have h := h.2 hc7
          refine j_iconst (v := (-1)) dX9_cross_29 rfl ?_
          refine j_iret dX9_cross_30 rfl rfl ?_
          exact ⟨by rw [h], rfl⟩
theorem bX9_cross_104 (v : Int32) (X : zX) (x7 : Int32) (x8 : Int32) (x9 : Int32) (h : (((X 19 5) ≤ x9) → (x8 = v)) ∧ ((¬ ((X 19 5) ≤ x9)) → (∃ r15 : Int32, zPf SX 1 mX9_singable [.ref 0, .int x9] X r15 ∧ ((((r15 &&& x7) = 0) → (LX9_cross_104 v X x7 x8 (x9 + 1))) ∧ ((¬ ((r15 &&& x7) = 0)) → (LX9_cross_104 v X x7 (x8 ||| (zshl 1 x9)) (x9 + 1))))))) : LX9_cross_104 v X x7 x8 x9 := by
  refine j_iload dX9_cross_104 rfl ?_
  refine j_aload_n dX9_cross_106 rfl ?_
  refine j_getr dX9_cross_107 fX9_26 rfl rfl ?_
  refine j_getf dX9_cross_110 fX9_107 rfl rfl ?_
  refine j_ic_ge (tgt := 143) dX9_cross_113 (by decide) (fun hc14 => ?_) (fun hc14 => ?_)
  · have h := h.1 hc14
    refine j_iload dX9_cross_143 rfl ?_
    refine j_iret dX9_cross_145 rfl rfl ?_
    exact ⟨by rw [h], rfl⟩
  · have h := h.2 hc14
    refine j_aload_n dX9_cross_116 rfl ?_
    refine j_iload dX9_cross_117 rfl ?_
    obtain ⟨r15, hc, h⟩ := h
    refine j_cvf (lc := 1) (as := [.int x9]) dX9_cross_119 iX9_singable vX9_singable kX9_218 (by decide) rfl rfl rfl rfl (Nat.zero_le _) hc ?_
    refine j_iload dX9_cross_122 rfl ?_
    refine j_iand dX9_cross_124 ?_
    refine j_if_eq (tgt := 137) dX9_cross_125 (by decide) (fun hc16 => ?_) (fun hc16 => ?_)
    · have h := h.1 hc16
      refine j_iinc (v := (x9 + 1)) (L2 := [some (.ref 0), none, none, none, none, none, none, some (.int x7), some (.int x8), some (.int (x9 + 1))]) dX9_cross_137 rfl rfl (by decide) (zno rfl) rfl ?_
      refine j_goto (tgt := 104) dX9_cross_140 (by decide) ?_
      exact zJw h ⟨rfl, rfl, rfl, rfl, trivial⟩
    · have h := h.2 hc16
      refine j_iload dX9_cross_128 rfl ?_
      refine j_iconst (v := 1) dX9_cross_130 rfl ?_
      refine j_iload dX9_cross_131 rfl ?_
      refine j_ishl dX9_cross_133 ?_
      refine j_ior dX9_cross_134 ?_
      refine j_istore (L2 := [some (.ref 0), none, none, none, none, none, none, some (.int x7), some (.int (x8 ||| (zshl 1 x9))), some (.int x9)]) dX9_cross_135 (by decide) (zno rfl) rfl ?_
      refine j_iinc (v := (x9 + 1)) (L2 := [some (.ref 0), none, none, none, none, none, none, some (.int x7), some (.int (x8 ||| (zshl 1 x9))), some (.int (x9 + 1))]) dX9_cross_137 rfl rfl (by decide) (zno rfl) rfl ?_
      refine j_goto (tgt := 104) dX9_cross_140 (by decide) ?_
      exact zJw h ⟨rfl, rfl, rfl, rfl, trivial⟩
abbrev LX9_soon_43 (v : Int32) (X : zX) (x1 : Int32) (x2 : Int32) (x3 : Int32) (x4 : Int32) : Prop := zJ SX 1 mX9_soon (zRf v X) 43 [some (.ref 0), some (.int x1), some (.int x2), some (.int x3), some (.int x4), none] [] X
theorem eX9_soon (v : Int32) (X : zX) (a1 : Int32) (h : ∃ r1 : Int32, zPf SX 0 mX9_outside [.int a1, .int 3] X r1 ∧ (((r1 = 0) → (((¬ a1 = 2) → (LX9_soon_43 v X a1 (-4) (-4) 0)) ∧ ((a1 = 2) → (∃ r4 : Int32, zPf SX 0 mX2_hadByLiving [.ref 19] X r4 ∧ (∃ r5 : Int32, zPf SX 0 mJ6_bitCount_0f7a4 [.int r4] X r5 ∧ (((X 4 10) - r5) = v)))))) ∧ ((¬ (r1 = 0)) → ((-1) = v)))) : zPf SX 1 mX9_soon [.ref 0, .int a1] X v := by
  refine zP_in [some (.ref 0), some (.int a1), none, none, none, none] ⟨rfl, rfl, trivial⟩ (by decide) (Nat.le_of_ble_eq_true rfl) ?_
  refine j_iload_n dX9_soon_0 rfl ?_
  refine j_iconst (v := 3) dX9_soon_1 rfl ?_
  obtain ⟨r1, hc, h⟩ := h
  refine j_csf (lc := 0) (as := [.int a1, .int 3]) dX9_soon_2 iX9_outside sX9_outside kX9_83 (by decide) rfl rfl (Nat.zero_le _) hc ?_
  refine j_if_eq (tgt := 10) dX9_soon_5 (by decide) (fun hc2 => ?_) (fun hc2 => ?_)
  · have h := h.1 hc2
    refine j_iload_n dX9_soon_10 rfl ?_
    refine j_iconst (v := 2) dX9_soon_11 rfl ?_
    refine j_ic_ne (tgt := 34) dX9_soon_12 (by decide) (fun hc3 => ?_) (fun hc3 => ?_)
    · have h := h.1 hc3
      refine j_bipush (v := (-4)) dX9_soon_34 rfl ?_
      refine j_istore_n (L2 := [some (.ref 0), some (.int a1), some (.int (-4)), none, none, none]) dX9_soon_36 (by decide) (zno rfl) rfl ?_
      refine j_bipush (v := (-4)) dX9_soon_37 rfl ?_
      refine j_istore_n (L2 := [some (.ref 0), some (.int a1), some (.int (-4)), some (.int (-4)), none, none]) dX9_soon_39 (by decide) (zno rfl) rfl ?_
      refine j_iconst (v := 0) dX9_soon_40 rfl ?_
      refine j_istore (L2 := [some (.ref 0), some (.int a1), some (.int (-4)), some (.int (-4)), some (.int 0), none]) dX9_soon_41 (by decide) (zno rfl) rfl ?_
      exact zJw h ⟨rfl, rfl, rfl, rfl, rfl, trivial⟩
    · have h := h.2 hc3
      refine j_aload_n dX9_soon_15 rfl ?_
      refine j_getr dX9_soon_16 fX9_19 rfl rfl ?_
      refine j_getf dX9_soon_19 fX9_108 rfl rfl ?_
      refine j_aload_n dX9_soon_22 rfl ?_
      refine j_getr dX9_soon_23 fX9_26 rfl rfl ?_
      obtain ⟨r4, hc, h⟩ := h
      refine j_cvf (lc := 0) (as := []) dX9_soon_26 iX2_hadByLiving vX2_hadByLiving kX9_116 (by decide) rfl rfl rfl rfl (by simp [Value.category]) hc ?_
      obtain ⟨r5, hc, h⟩ := h
      refine j_csf (lc := 0) (as := [.int r4]) dX9_soon_29 iJ6_bitCount_0f7a4 sJ6_bitCount_0f7a4 kX9_120 (by decide) rfl rfl (by simp [Value.category]) hc ?_
      refine j_isub dX9_soon_32 ?_
      refine j_iret dX9_soon_33 rfl rfl ?_
      exact ⟨by rw [h], rfl⟩
  · have h := h.2 hc2
    refine j_iconst (v := (-1)) dX9_soon_8 rfl ?_
    refine j_iret dX9_soon_9 rfl rfl ?_
    exact ⟨by rw [h], rfl⟩
theorem bX9_soon_43 (v : Int32) (X : zX) (x1 : Int32) (x2 : Int32) (x3 : Int32) (x4 : Int32) (h : (((X 4 10) ≤ x4) → (((¬ x1 = 0) → (x3 = v)) ∧ ((x1 = 0) → (x2 = v)))) ∧ ((¬ ((X 4 10) ≤ x4)) → (∃ r8 : Int32, zPf SX 0 mX2_heads [.ref 19, .int x4] X r8 ∧ (((x2 = (-4)) → (LX9_soon_43 v X x1 x4 r8 (x4 + 1))) ∧ ((¬ (x2 = (-4))) → (((x3 ≤ r8) → (LX9_soon_43 v X x1 x2 x3 (x4 + 1))) ∧ ((¬ (x3 ≤ r8)) → (LX9_soon_43 v X x1 x4 r8 (x4 + 1))))))))) : LX9_soon_43 v X x1 x2 x3 x4 := by
  refine j_iload dX9_soon_43 rfl ?_
  refine j_aload_n dX9_soon_45 rfl ?_
  refine j_getr dX9_soon_46 fX9_19 rfl rfl ?_
  refine j_getf dX9_soon_49 fX9_108 rfl rfl ?_
  refine j_ic_ge (tgt := 90) dX9_soon_52 (by decide) (fun hc6 => ?_) (fun hc6 => ?_)
  · have h := h.1 hc6
    refine j_iload_n dX9_soon_90 rfl ?_
    refine j_if_ne (tgt := 98) dX9_soon_91 (by decide) (fun hc7 => ?_) (fun hc7 => ?_)
    · have h := h.1 hc7
      refine j_iload_n dX9_soon_98 rfl ?_
      refine j_iret dX9_soon_99 rfl rfl ?_
      exact ⟨by rw [h], rfl⟩
    · have h := h.2 hc7
      refine j_iload_n dX9_soon_94 rfl ?_
      refine j_goto (tgt := 99) dX9_soon_95 (by decide) ?_
      refine j_iret dX9_soon_99 rfl rfl ?_
      exact ⟨by rw [h], rfl⟩
  · have h := h.2 hc6
    refine j_aload_n dX9_soon_55 rfl ?_
    refine j_getr dX9_soon_56 fX9_26 rfl rfl ?_
    refine j_iload dX9_soon_59 rfl ?_
    obtain ⟨r8, hc, h⟩ := h
    refine j_cvf (lc := 0) (as := [.int x4]) dX9_soon_61 iX2_heads vX2_heads kX9_166 (by decide) rfl rfl rfl rfl (Nat.zero_le _) hc ?_
    refine j_istore (L2 := [some (.ref 0), some (.int x1), some (.int x2), some (.int x3), some (.int x4), some (.int r8)]) dX9_soon_64 (by decide) (zno rfl) rfl ?_
    refine j_iload_n dX9_soon_66 rfl ?_
    refine j_bipush (v := (-4)) dX9_soon_67 rfl ?_
    refine j_ic_eq (tgt := 78) dX9_soon_69 (by decide) (fun hc9 => ?_) (fun hc9 => ?_)
    · have h := h.1 hc9
      refine j_iload dX9_soon_78 rfl ?_
      refine j_istore_n (L2 := [some (.ref 0), some (.int x1), some (.int x4), some (.int x3), some (.int x4), some (.int r8)]) dX9_soon_80 (by decide) (zno rfl) rfl ?_
      refine j_iload dX9_soon_81 rfl ?_
      refine j_istore_n (L2 := [some (.ref 0), some (.int x1), some (.int x4), some (.int r8), some (.int x4), some (.int r8)]) dX9_soon_83 (by decide) (zno rfl) rfl ?_
      refine j_iinc (v := (x4 + 1)) (L2 := [some (.ref 0), some (.int x1), some (.int x4), some (.int r8), some (.int (x4 + 1)), some (.int r8)]) dX9_soon_84 rfl rfl (by decide) (zno rfl) rfl ?_
      refine j_goto (tgt := 43) dX9_soon_87 (by decide) ?_
      exact zJw h ⟨rfl, rfl, rfl, rfl, rfl, trivial⟩
    · have h := h.2 hc9
      refine j_iload dX9_soon_72 rfl ?_
      refine j_iload_n dX9_soon_74 rfl ?_
      refine j_ic_ge (tgt := 84) dX9_soon_75 (by decide) (fun hc10 => ?_) (fun hc10 => ?_)
      · have h := h.1 hc10
        refine j_iinc (v := (x4 + 1)) (L2 := [some (.ref 0), some (.int x1), some (.int x2), some (.int x3), some (.int (x4 + 1)), some (.int r8)]) dX9_soon_84 rfl rfl (by decide) (zno rfl) rfl ?_
        refine j_goto (tgt := 43) dX9_soon_87 (by decide) ?_
        exact zJw h ⟨rfl, rfl, rfl, rfl, rfl, trivial⟩
      · have h := h.2 hc10
        refine j_iload dX9_soon_78 rfl ?_
        refine j_istore_n (L2 := [some (.ref 0), some (.int x1), some (.int x4), some (.int x3), some (.int x4), some (.int r8)]) dX9_soon_80 (by decide) (zno rfl) rfl ?_
        refine j_iload dX9_soon_81 rfl ?_
        refine j_istore_n (L2 := [some (.ref 0), some (.int x1), some (.int x4), some (.int r8), some (.int x4), some (.int r8)]) dX9_soon_83 (by decide) (zno rfl) rfl ?_
        refine j_iinc (v := (x4 + 1)) (L2 := [some (.ref 0), some (.int x1), some (.int x4), some (.int r8), some (.int (x4 + 1)), some (.int r8)]) dX9_soon_84 rfl rfl (by decide) (zno rfl) rfl ?_
        refine j_goto (tgt := 43) dX9_soon_87 (by decide) ?_
        exact zJw h ⟨rfl, rfl, rfl, rfl, rfl, trivial⟩
theorem eX9_can (v : Int32) (X : zX) (a1 : Int32) (a2 : Int32) (a3 : Int32) (h : ∃ r1 : Int32, zPf SX 1 mX9_noSuchLesson [.ref 0, .int a1, .int a2, .int a3] X r1 ∧ (((r1 = 0) → (∃ r3 : Int32, zPf SX 2 mX9_canTell [.ref 0, .int a1, .int a3] X r3 ∧ (((r3 = 0) → (0 = v)) ∧ ((¬ (r3 = 0)) → (∃ r5 : Int32, zPf SX 1 mX9_canLearn [.ref 0, .int a2, .int a3] X r5 ∧ (((r5 = 0) → (0 = v)) ∧ ((¬ (r5 = 0)) → (1 = v)))))))) ∧ ((¬ (r1 = 0)) → ((-1) = v)))) : zPf SX 3 mX9_can [.ref 0, .int a1, .int a2, .int a3] X v := by
  refine zP_in [some (.ref 0), some (.int a1), some (.int a2), some (.int a3)] ⟨rfl, rfl, rfl, rfl, trivial⟩ (by decide) (Nat.le_of_ble_eq_true rfl) ?_
  refine j_aload_n dX9_can_0 rfl ?_
  refine j_iload_n dX9_can_1 rfl ?_
  refine j_iload_n dX9_can_2 rfl ?_
  refine j_iload_n dX9_can_3 rfl ?_
  obtain ⟨r1, hc, h⟩ := h
  refine j_cvf (lc := 1) (as := [.int a1, .int a2, .int a3]) dX9_can_4 iX9_noSuchLesson vX9_noSuchLesson kX9_286 (by decide) rfl rfl rfl rfl (Nat.zero_le _) hc ?_
  refine j_if_eq (tgt := 12) dX9_can_7 (by decide) (fun hc2 => ?_) (fun hc2 => ?_)
  · have h := h.1 hc2
    refine j_aload_n dX9_can_12 rfl ?_
    refine j_iload_n dX9_can_13 rfl ?_
    refine j_iload_n dX9_can_14 rfl ?_
    obtain ⟨r3, hc, h⟩ := h
    refine j_cvf (lc := 2) (as := [.int a1, .int a3]) dX9_can_15 iX9_canTell vX9_canTell kX9_290 (by decide) rfl rfl rfl rfl (Nat.zero_le _) hc ?_
    refine j_if_eq (tgt := 34) dX9_can_18 (by decide) (fun hc4 => ?_) (fun hc4 => ?_)
    · have h := h.1 hc4
      refine j_iconst (v := 0) dX9_can_34 rfl ?_
      refine j_iret dX9_can_35 rfl rfl ?_
      exact ⟨by rw [h], rfl⟩
    · have h := h.2 hc4
      refine j_aload_n dX9_can_21 rfl ?_
      refine j_iload_n dX9_can_22 rfl ?_
      refine j_iload_n dX9_can_23 rfl ?_
      obtain ⟨r5, hc, h⟩ := h
      refine j_cvf (lc := 1) (as := [.int a2, .int a3]) dX9_can_24 iX9_canLearn vX9_canLearn kX9_293 (by decide) rfl rfl rfl rfl (Nat.zero_le _) hc ?_
      refine j_if_eq (tgt := 34) dX9_can_27 (by decide) (fun hc6 => ?_) (fun hc6 => ?_)
      · have h := h.1 hc6
        refine j_iconst (v := 0) dX9_can_34 rfl ?_
        refine j_iret dX9_can_35 rfl rfl ?_
        exact ⟨by rw [h], rfl⟩
      · have h := h.2 hc6
        refine j_iconst (v := 1) dX9_can_30 rfl ?_
        refine j_goto (tgt := 35) dX9_can_31 (by decide) ?_
        refine j_iret dX9_can_35 rfl rfl ?_
        exact ⟨by rw [h], rfl⟩
  · have h := h.2 hc2
    refine j_iconst (v := (-1)) dX9_can_10 rfl ?_
    refine j_iret dX9_can_11 rfl rfl ?_
    exact ⟨by rw [h], rfl⟩
theorem eX9_teach (P : Int32 → zX → Prop) (X : zX) (a1 : Int32) (a2 : Int32) (a3 : Int32) (h : ∃ r1 : Int32, zPf SX 1 mX9_noSuchLesson [.ref 0, .int a1, .int a2, .int a3] X r1 ∧ (((r1 = 0) → (∃ r3 : Int32, zPf SX 2 mX9_canTell [.ref 0, .int a1, .int a3] X r3 ∧ (((r3 = 0) → (P (-2) X)) ∧ ((¬ (r3 = 0)) → (∃ r5 : Int32, zPf SX 1 mX9_canLearn [.ref 0, .int a2, .int a3] X r5 ∧ (((¬ r5 = 0) → (∃ j7 : Nat, a2 = nI j7 ∧ j7 < 8 ∧ (∃ j8 : Nat, a2 = nI j8 ∧ j8 < 8 ∧ (∃ r9 : Int32, zPf SX 0 mX2_heads [.ref 19, .int a3] (zs X 23 j8 ((X 23 j7) ||| (zshl 1 a3))) r9 ∧ (P r9 (zs X 23 j8 ((X 23 j7) ||| (zshl 1 a3)))))))) ∧ ((r5 = 0) → (P (-2) X)))))))) ∧ ((¬ (r1 = 0)) → (P (-1) X)))) : zPi SX 3 mX9_teach [.ref 0, .int a1, .int a2, .int a3] X P := by
  refine zP_in [some (.ref 0), some (.int a1), some (.int a2), some (.int a3)] ⟨rfl, rfl, rfl, rfl, trivial⟩ (by decide) (Nat.le_of_ble_eq_true rfl) ?_
  refine j_aload_n dX9_teach_0 rfl ?_
  refine j_iload_n dX9_teach_1 rfl ?_
  refine j_iload_n dX9_teach_2 rfl ?_
  refine j_iload_n dX9_teach_3 rfl ?_
  obtain ⟨r1, hc, h⟩ := h
  refine j_cvf (lc := 1) (as := [.int a1, .int a2, .int a3]) dX9_teach_4 iX9_noSuchLesson vX9_noSuchLesson kX9_286 (by decide) rfl rfl rfl rfl (Nat.zero_le _) hc ?_
  refine j_if_eq (tgt := 12) dX9_teach_7 (by decide) (fun hc2 => ?_) (fun hc2 => ?_)
  · have h := h.1 hc2
    refine j_aload_n dX9_teach_12 rfl ?_
    refine j_iload_n dX9_teach_13 rfl ?_
    refine j_iload_n dX9_teach_14 rfl ?_
    obtain ⟨r3, hc, h⟩ := h
    refine j_cvf (lc := 2) (as := [.int a1, .int a3]) dX9_teach_15 iX9_canTell vX9_canTell kX9_290 (by decide) rfl rfl rfl rfl (Nat.zero_le _) hc ?_
    refine j_if_eq (tgt := 30) dX9_teach_18 (by decide) (fun hc4 => ?_) (fun hc4 => ?_)
    · have h := h.1 hc4
      refine j_bipush (v := (-2)) dX9_teach_30 rfl ?_
      refine j_iret dX9_teach_32 rfl rfl ?_
      exact ⟨_, rfl, h⟩
    · have h := h.2 hc4
      refine j_aload_n dX9_teach_21 rfl ?_
      refine j_iload_n dX9_teach_22 rfl ?_
      refine j_iload_n dX9_teach_23 rfl ?_
      obtain ⟨r5, hc, h⟩ := h
      refine j_cvf (lc := 1) (as := [.int a2, .int a3]) dX9_teach_24 iX9_canLearn vX9_canLearn kX9_293 (by decide) rfl rfl rfl rfl (Nat.zero_le _) hc ?_
      refine j_if_ne (tgt := 33) dX9_teach_27 (by decide) (fun hc6 => ?_) (fun hc6 => ?_)
      · have h := h.1 hc6
        refine j_aload_n dX9_teach_33 rfl ?_
        refine j_getr dX9_teach_34 fX9_26 rfl rfl ?_
        refine j_getr dX9_teach_37 fX9_113 rfl rfl ?_
        refine j_iload_n dX9_teach_40 rfl ?_
        refine j_dup2 dX9_teach_41 rfl rfl ?_
        obtain ⟨j7, ej7, lj7, h⟩ := h
        refine j_iald dX9_teach_42 rfl (zin ej7 lj7 (by decide)) ?_
        rw [zcl ej7 lj7 (by decide)]
        refine j_iconst (v := 1) dX9_teach_43 rfl ?_
        refine j_iload_n dX9_teach_44 rfl ?_
        refine j_ishl dX9_teach_45 ?_
        refine j_ior dX9_teach_46 ?_
        obtain ⟨j8, ej8, lj8, h⟩ := h
        refine j_iast dX9_teach_47 rfl (zin ej8 lj8 (by decide)) ?_
        rw [zcl ej8 lj8 (by decide)]
        refine j_aload_n dX9_teach_48 rfl ?_
        refine j_getr dX9_teach_49 fX9_26 rfl rfl ?_
        refine j_iload_n dX9_teach_52 rfl ?_
        obtain ⟨r9, hc, h⟩ := h
        refine j_cvf (lc := 0) (as := [.int a3]) dX9_teach_53 iX2_heads vX2_heads kX9_166 (by decide) rfl rfl rfl rfl (Nat.zero_le _) hc ?_
        refine j_iret dX9_teach_56 rfl rfl ?_
        exact ⟨_, rfl, h⟩
      · have h := h.2 hc6
        refine j_bipush (v := (-2)) dX9_teach_30 rfl ?_
        refine j_iret dX9_teach_32 rfl rfl ?_
        exact ⟨_, rfl, h⟩
  · have h := h.2 hc2
    refine j_iconst (v := (-1)) dX9_teach_10 rfl ?_
    refine j_iret dX9_teach_11 rfl rfl ?_
    exact ⟨_, rfl, h⟩
abbrev LX9_keep_17 (v : Int32) (X : zX) (x1 : Int32) (x2 : Int32) (x3 : Int32) : Prop := zJ SX 4 mX9_keep (zRf v X) 17 [some (.ref 0), some (.int x1), some (.int x2), some (.int x3)] [] X
theorem eX9_keep (v : Int32) (X : zX) (a1 : Int32) (h : ((a1 < 1) → ((-1) = v)) ∧ ((¬ (a1 < 1)) → (((a1 ≤ 9) → (LX9_keep_17 v X a1 0 0)) ∧ ((¬ (a1 ≤ 9)) → ((-1) = v))))) : zPf SX 4 mX9_keep [.ref 0, .int a1] X v := by
  refine zP_in [some (.ref 0), some (.int a1), none, none] ⟨rfl, rfl, trivial⟩ (by decide) (Nat.le_of_ble_eq_true rfl) ?_
  refine j_iload_n dX9_keep_0 rfl ?_
  refine j_iconst (v := 1) dX9_keep_1 rfl ?_
  refine j_ic_lt (tgt := 11) dX9_keep_2 (by decide) (fun hc1 => ?_) (fun hc1 => ?_)
  · have h := h.1 hc1
    refine j_iconst (v := (-1)) dX9_keep_11 rfl ?_
    refine j_iret dX9_keep_12 rfl rfl ?_
    exact ⟨by rw [h], rfl⟩
  · have h := h.2 hc1
    refine j_iload_n dX9_keep_5 rfl ?_
    refine j_bipush (v := 9) dX9_keep_6 rfl ?_
    refine j_ic_le (tgt := 13) dX9_keep_8 (by decide) (fun hc2 => ?_) (fun hc2 => ?_)
    · have h := h.1 hc2
      refine j_iconst (v := 0) dX9_keep_13 rfl ?_
      refine j_istore_n (L2 := [some (.ref 0), some (.int a1), some (.int 0), none]) dX9_keep_14 (by decide) (zno rfl) rfl ?_
      refine j_iconst (v := 0) dX9_keep_15 rfl ?_
      refine j_istore_n (L2 := [some (.ref 0), some (.int a1), some (.int 0), some (.int 0)]) dX9_keep_16 (by decide) (zno rfl) rfl ?_
      exact zJw h ⟨rfl, rfl, rfl, rfl, trivial⟩
    · have h := h.2 hc2
      refine j_iconst (v := (-1)) dX9_keep_11 rfl ?_
      refine j_iret dX9_keep_12 rfl rfl ?_
      exact ⟨by rw [h], rfl⟩
theorem bX9_keep_17 (v : Int32) (X : zX) (x1 : Int32) (x2 : Int32) (x3 : Int32) (h : (((X 19 5) ≤ x3) → (x2 = v)) ∧ ((¬ ((X 19 5) ≤ x3)) → (∃ r4 : Int32, zPf SX 3 mX9_loneAndTeachable [.ref 0, .int x3] X r4 ∧ (LX9_keep_17 v X x1 (x2 + (zmin x1 r4)) (x3 + 1))))) : LX9_keep_17 v X x1 x2 x3 := by
  refine j_iload_n dX9_keep_17 rfl ?_
  refine j_aload_n dX9_keep_18 rfl ?_
  refine j_getr dX9_keep_19 fX9_26 rfl rfl ?_
  refine j_getf dX9_keep_22 fX9_107 rfl rfl ?_
  refine j_ic_ge (tgt := 46) dX9_keep_25 (by decide) (fun hc3 => ?_) (fun hc3 => ?_)
  · have h := h.1 hc3
    refine j_iload_n dX9_keep_46 rfl ?_
    refine j_iret dX9_keep_47 rfl rfl ?_
    exact ⟨by rw [h], rfl⟩
  · have h := h.2 hc3
    refine j_iload_n dX9_keep_28 rfl ?_
    refine j_iload_n dX9_keep_29 rfl ?_
    refine j_aload_n dX9_keep_30 rfl ?_
    refine j_iload_n dX9_keep_31 rfl ?_
    obtain ⟨r4, hc, h⟩ := h
    refine j_cvf (lc := 3) (as := [.int x3]) dX9_keep_32 iX9_loneAndTeachable vX9_loneAndTeachable kX9_296 (by decide) rfl rfl rfl rfl (by simp [Value.category]) hc ?_
    refine j_min dX9_keep_35 zMX9_299 (by decide) (by simp [Value.category]) ?_
    refine j_iadd dX9_keep_38 ?_
    refine j_istore_n (L2 := [some (.ref 0), some (.int x1), some (.int (x2 + (zmin x1 r4))), some (.int x3)]) dX9_keep_39 (by decide) (zno rfl) rfl ?_
    refine j_iinc (v := (x3 + 1)) (L2 := [some (.ref 0), some (.int x1), some (.int (x2 + (zmin x1 r4))), some (.int (x3 + 1))]) dX9_keep_40 rfl rfl (by decide) (zno rfl) rfl ?_
    refine j_goto (tgt := 17) dX9_keep_43 (by decide) ?_
    exact zJw h ⟨rfl, rfl, rfl, rfl, trivial⟩
theorem eX9_map (P : Int32 → zX → Prop) (X : zX) (a1 : Int32) (a2 : Int32) (h : ((a1 < 1) → (P (-1) X)) ∧ ((¬ (a1 < 1)) → (((16 ≤ a1) → (P (-1) X)) ∧ ((¬ (16 ≤ a1)) → (∃ r3 : Int32, zPf SX 0 mX9_outside [.int a2, .int 2] X r3 ∧ (((r3 = 0) → (∃ Qr5 : Int32 → zX → Prop, zPi SX 2 mX0_fewestMarks [.ref 42, .int a1, .int (X 1 2)] X Qr5 ∧ ∀ (r5 : Int32) (M6 : zX), Qr5 r5 M6 → (((¬ r5 = (-4)) → (((¬ a2 = 0) → (P r5 M6)) ∧ ((a2 = 0) → (∃ r9 : Int32, zPf SX 0 mJ6_bitCount_0f7a4 [.int r5] M6 r9 ∧ (P r9 M6))))) ∧ ((r5 = (-4)) → (P (-4) M6))))) ∧ ((¬ (r3 = 0)) → (P (-1) X)))))))) : zPi SX 3 mX9_map [.ref 0, .int a1, .int a2] X P := by
  refine zP_in [some (.ref 0), some (.int a1), some (.int a2), none] ⟨rfl, rfl, rfl, trivial⟩ (by decide) (Nat.le_of_ble_eq_true rfl) ?_
  refine j_iload_n dX9_map_0 rfl ?_
  refine j_iconst (v := 1) dX9_map_1 rfl ?_
  refine j_ic_lt (tgt := 19) dX9_map_2 (by decide) (fun hc1 => ?_) (fun hc1 => ?_)
  · have h := h.1 hc1
    refine j_iconst (v := (-1)) dX9_map_19 rfl ?_
    refine j_iret dX9_map_20 rfl rfl ?_
    exact ⟨_, rfl, h⟩
  · have h := h.2 hc1
    refine j_iload_n dX9_map_5 rfl ?_
    refine j_bipush (v := 16) dX9_map_6 rfl ?_
    refine j_ic_ge (tgt := 19) dX9_map_8 (by decide) (fun hc2 => ?_) (fun hc2 => ?_)
    · have h := h.1 hc2
      refine j_iconst (v := (-1)) dX9_map_19 rfl ?_
      refine j_iret dX9_map_20 rfl rfl ?_
      exact ⟨_, rfl, h⟩
    · have h := h.2 hc2
      refine j_iload_n dX9_map_11 rfl ?_
      refine j_iconst (v := 2) dX9_map_12 rfl ?_
      obtain ⟨r3, hc, h⟩ := h
      refine j_csf (lc := 0) (as := [.int a2, .int 2]) dX9_map_13 iX9_outside sX9_outside kX9_83 (by decide) rfl rfl (Nat.zero_le _) hc ?_
      refine j_if_eq (tgt := 21) dX9_map_16 (by decide) (fun hc4 => ?_) (fun hc4 => ?_)
      · have h := h.1 hc4
        refine j_aload_n dX9_map_21 rfl ?_
        refine j_getr dX9_map_22 fX9_58 rfl rfl ?_
        refine j_iload_n dX9_map_25 rfl ?_
        refine j_aload_n dX9_map_26 rfl ?_
        refine j_getr dX9_map_27 fX9_10 rfl rfl ?_
        refine j_getf dX9_map_30 fX9_91 rfl rfl ?_
        obtain ⟨_, hc, h⟩ := h
        refine j_cvi (lc := 2) (as := [.int a1, .int (X 1 2)]) dX9_map_33 iX0_fewestMarks vX0_fewestMarks kX9_304 (by decide) rfl rfl rfl rfl (Nat.zero_le _) hc (fun r5 M6 hr => ?_)
        have h := h _ _ hr
        refine j_istore_n (L2 := [some (.ref 0), some (.int a1), some (.int a2), some (.int r5)]) dX9_map_36 (by decide) (zno rfl) rfl ?_
        refine j_iload_n dX9_map_37 rfl ?_
        refine j_bipush (v := (-4)) dX9_map_38 rfl ?_
        refine j_ic_ne (tgt := 46) dX9_map_40 (by decide) (fun hc7 => ?_) (fun hc7 => ?_)
        · have h := h.1 hc7
          refine j_iload_n dX9_map_46 rfl ?_
          refine j_if_ne (tgt := 57) dX9_map_47 (by decide) (fun hc8 => ?_) (fun hc8 => ?_)
          · have h := h.1 hc8
            refine j_iload_n dX9_map_57 rfl ?_
            refine j_iret dX9_map_58 rfl rfl ?_
            exact ⟨_, rfl, h⟩
          · have h := h.2 hc8
            refine j_iload_n dX9_map_50 rfl ?_
            obtain ⟨r9, hc, h⟩ := h
            refine j_csf (lc := 0) (as := [.int r5]) dX9_map_51 iJ6_bitCount_0f7a4 sJ6_bitCount_0f7a4 kX9_120 (by decide) rfl rfl (Nat.zero_le _) hc ?_
            refine j_goto (tgt := 58) dX9_map_54 (by decide) ?_
            refine j_iret dX9_map_58 rfl rfl ?_
            exact ⟨_, rfl, h⟩
        · have h := h.2 hc7
          refine j_bipush (v := (-4)) dX9_map_43 rfl ?_
          refine j_iret dX9_map_45 rfl rfl ?_
          exact ⟨_, rfl, h⟩
      · have h := h.2 hc4
        refine j_iconst (v := (-1)) dX9_map_19 rfl ?_
        refine j_iret dX9_map_20 rfl rfl ?_
        exact ⟨_, rfl, h⟩
theorem eX9_sheet (P : Int32 → zX → Prop) (X : zX) (a1 : Int32) (a2 : Int32) (a3 : Int32) (h : ∃ r1 : Int32, zPf SX 0 mX9_outside [.int a1, .int 4] X r1 ∧ (((¬ r1 = 0) → (P (-1) X)) ∧ ((r1 = 0) → (∃ r3 : Int32, zPf SX 0 mX9_outside [.int a2, .int 3] X r3 ∧ (((¬ r3 = 0) → (P (-1) X)) ∧ ((r3 = 0) → (((a3 ≤ 40) → (((0 ≤ a3) → (∃ j7 : Nat, a1 = nI j7 ∧ j7 < 4 ∧ (∃ Qr8 : zX → Prop, zPw SX 0 mX5_renew [.ref (45 + 2 * j7), .int a2, .int a3] X Qr8 ∧ ∀ M9 : zX, Qr8 M9 → (P 1 M9)))) ∧ ((¬ (0 ≤ a3)) → (P (-14) X)))) ∧ ((¬ (a3 ≤ 40)) → (P (-1) X))))))))) : zPi SX 1 mX9_sheet [.ref 0, .int a1, .int a2, .int a3] X P := by
  refine zP_in [some (.ref 0), some (.int a1), some (.int a2), some (.int a3)] ⟨rfl, rfl, rfl, rfl, trivial⟩ (by decide) (Nat.le_of_ble_eq_true rfl) ?_
  refine j_iload_n dX9_sheet_0 rfl ?_
  refine j_iconst (v := 4) dX9_sheet_1 rfl ?_
  obtain ⟨r1, hc, h⟩ := h
  refine j_csf (lc := 0) (as := [.int a1, .int 4]) dX9_sheet_2 iX9_outside sX9_outside kX9_83 (by decide) rfl rfl (Nat.zero_le _) hc ?_
  refine j_if_ne (tgt := 22) dX9_sheet_5 (by decide) (fun hc2 => ?_) (fun hc2 => ?_)
  · have h := h.1 hc2
    refine j_iconst (v := (-1)) dX9_sheet_22 rfl ?_
    refine j_iret dX9_sheet_23 rfl rfl ?_
    exact ⟨_, rfl, h⟩
  · have h := h.2 hc2
    refine j_iload_n dX9_sheet_8 rfl ?_
    refine j_iconst (v := 3) dX9_sheet_9 rfl ?_
    obtain ⟨r3, hc, h⟩ := h
    refine j_csf (lc := 0) (as := [.int a2, .int 3]) dX9_sheet_10 iX9_outside sX9_outside kX9_83 (by decide) rfl rfl (Nat.zero_le _) hc ?_
    refine j_if_ne (tgt := 22) dX9_sheet_13 (by decide) (fun hc4 => ?_) (fun hc4 => ?_)
    · have h := h.1 hc4
      refine j_iconst (v := (-1)) dX9_sheet_22 rfl ?_
      refine j_iret dX9_sheet_23 rfl rfl ?_
      exact ⟨_, rfl, h⟩
    · have h := h.2 hc4
      refine j_iload_n dX9_sheet_16 rfl ?_
      refine j_bipush (v := 40) dX9_sheet_17 rfl ?_
      refine j_ic_le (tgt := 24) dX9_sheet_19 (by decide) (fun hc5 => ?_) (fun hc5 => ?_)
      · have h := h.1 hc5
        refine j_iload_n dX9_sheet_24 rfl ?_
        refine j_if_ge (tgt := 31) dX9_sheet_25 (by decide) (fun hc6 => ?_) (fun hc6 => ?_)
        · have h := h.1 hc6
          refine j_aload_n dX9_sheet_31 rfl ?_
          refine j_getr dX9_sheet_32 fX9_64 rfl rfl ?_
          refine j_iload_n dX9_sheet_35 rfl ?_
          obtain ⟨j7, ej7, lj7, h⟩ := h
          refine j_aald (r := (45 + 2 * j7)) 3 (by decide) dX9_sheet_36 rfl (zin ej7 lj7 (by decide)) (by rw [zcl ej7 lj7 (by decide)]; exact if_pos lj7) ?_
          refine j_iload_n dX9_sheet_37 rfl ?_
          refine j_iload_n dX9_sheet_38 rfl ?_
          obtain ⟨_, hc, h⟩ := h
          refine j_cvw (lc := 0) (as := [.int a2, .int a3]) dX9_sheet_39 iX5_renew vX5_renew kX9_307 (by decide) (sx_sheet lj7) rfl rfl rfl (Nat.zero_le _) hc (fun M9 hr => ?_)
          have h := h _ hr
          refine j_iconst (v := 1) dX9_sheet_42 rfl ?_
          refine j_iret dX9_sheet_43 rfl rfl ?_
          exact ⟨_, rfl, h⟩
        · have h := h.2 hc6
          refine j_bipush (v := (-14)) dX9_sheet_28 rfl ?_
          refine j_iret dX9_sheet_30 rfl rfl ?_
          exact ⟨_, rfl, h⟩
      · have h := h.2 hc5
        refine j_iconst (v := (-1)) dX9_sheet_22 rfl ?_
        refine j_iret dX9_sheet_23 rfl rfl ?_
        exact ⟨_, rfl, h⟩
theorem eX9_lay (P : Int32 → zX → Prop) (X : zX) (a1 : Int32) (a2 : Int32) (a3 : Int32) (h : ∃ r1 : Int32, zPf SX 0 mX9_outside [.int a1, .int 4] X r1 ∧ (((r1 = 0) → (∃ j3 : Nat, a1 = nI j3 ∧ j3 < 4 ∧ (∃ r4 : Int32, zPf SX 0 mX5_faultAt [.ref (45 + 2 * j3), .int (X (45 + 2 * j3) 1), .int a2] X r4 ∧ (((r4 = 0) → (∃ Qr6 : zX → Prop, zPw SX 0 mX5_write [.ref (45 + 2 * j3), .int a2, .int a3] X Qr6 ∧ ∀ M7 : zX, Qr6 M7 → (P 1 M7))) ∧ ((¬ (r4 = 0)) → (P ((-10) - r4) X)))))) ∧ ((¬ (r1 = 0)) → (P (-1) X)))) : zPi SX 1 mX9_lay [.ref 0, .int a1, .int a2, .int a3] X P := by
  refine zP_in [some (.ref 0), some (.int a1), some (.int a2), some (.int a3), none, none] ⟨rfl, rfl, rfl, rfl, trivial⟩ (by decide) (Nat.le_of_ble_eq_true rfl) ?_
  refine j_iload_n dX9_lay_0 rfl ?_
  refine j_iconst (v := 4) dX9_lay_1 rfl ?_
  obtain ⟨r1, hc, h⟩ := h
  refine j_csf (lc := 0) (as := [.int a1, .int 4]) dX9_lay_2 iX9_outside sX9_outside kX9_83 (by decide) rfl rfl (Nat.zero_le _) hc ?_
  refine j_if_eq (tgt := 10) dX9_lay_5 (by decide) (fun hc2 => ?_) (fun hc2 => ?_)
  · have h := h.1 hc2
    refine j_aload_n dX9_lay_10 rfl ?_
    refine j_getr dX9_lay_11 fX9_64 rfl rfl ?_
    refine j_iload_n dX9_lay_14 rfl ?_
    obtain ⟨j3, ej3, lj3, h⟩ := h
    refine j_aald (r := (45 + 2 * j3)) 3 (by decide) dX9_lay_15 rfl (zin ej3 lj3 (by decide)) (by rw [zcl ej3 lj3 (by decide)]; exact if_pos lj3) ?_
    refine j_astore (L2 := [some (.ref 0), some (.int a1), some (.int a2), some (.int a3), some (.ref (45 + 2 * j3)), none]) dX9_lay_16 (by decide) (zno rfl) rfl ?_
    refine j_aload dX9_lay_18 rfl ?_
    refine j_aload dX9_lay_20 rfl ?_
    refine j_getf dX9_lay_22 fX9_310 (sx_sheet lj3) rfl ?_
    refine j_iload_n dX9_lay_25 rfl ?_
    obtain ⟨r4, hc, h⟩ := h
    refine j_cvf (lc := 0) (as := [.int (X (45 + 2 * j3) 1), .int a2]) dX9_lay_26 iX5_faultAt vX5_faultAt kX9_313 (by decide) (sx_sheet lj3) rfl rfl rfl (Nat.zero_le _) hc ?_
    refine j_istore (L2 := [some (.ref 0), some (.int a1), some (.int a2), some (.int a3), some (.ref (45 + 2 * j3)), some (.int r4)]) dX9_lay_29 (by decide) (zno rfl) rfl ?_
    refine j_iload dX9_lay_31 rfl ?_
    refine j_if_eq (tgt := 42) dX9_lay_33 (by decide) (fun hc5 => ?_) (fun hc5 => ?_)
    · have h := h.1 hc5
      refine j_aload dX9_lay_42 rfl ?_
      refine j_iload_n dX9_lay_44 rfl ?_
      refine j_iload_n dX9_lay_45 rfl ?_
      obtain ⟨_, hc, h⟩ := h
      refine j_cvw (lc := 0) (as := [.int a2, .int a3]) dX9_lay_46 iX5_write vX5_write kX9_316 (by decide) (sx_sheet lj3) rfl rfl rfl (Nat.zero_le _) hc (fun M7 hr => ?_)
      have h := h _ hr
      refine j_iconst (v := 1) dX9_lay_49 rfl ?_
      refine j_iret dX9_lay_50 rfl rfl ?_
      exact ⟨_, rfl, h⟩
    · have h := h.2 hc5
      refine j_bipush (v := (-10)) dX9_lay_36 rfl ?_
      refine j_iload dX9_lay_38 rfl ?_
      refine j_isub dX9_lay_40 ?_
      refine j_iret dX9_lay_41 rfl rfl ?_
      exact ⟨_, rfl, h⟩
  · have h := h.2 hc2
    refine j_iconst (v := (-1)) dX9_lay_8 rfl ?_
    refine j_iret dX9_lay_9 rfl rfl ?_
    exact ⟨_, rfl, h⟩
abbrev LX9_read_74 (P : Int32 → zX → Prop) (M : zX) (x1 : Int32) (x3 : Int32) (x4 : Int32) (x5 : Int32) (n6 : Nat) (x7 : Int32) (x8 : Int32) (x9 : Int32) : Prop := zJ SX 1 mX9_read (zRi P) 74 [some (.ref 0), some (.int x1), none, some (.int x3), some (.int x4), some (.int x5), some (.ref (45 + 2 * n6)), some (.int x7), some (.int x8), some (.int x9), none] [] M
theorem eX9_read (P : Int32 → zX → Prop) (X : zX) (a1 : Int32) (a2 : Int32) (a3 : Int32) (a4 : Int32) (a5 : Int32) (h : ∃ r1 : Int32, zPf SX 0 mX9_outside [.int a1, .int (X 19 5)] X r1 ∧ (((¬ r1 = 0) → (P (-1) X)) ∧ ((r1 = 0) → (∃ r3 : Int32, zPf SX 0 mX9_outside [.int a2, .int 4] X r3 ∧ (((¬ r3 = 0) → (P (-1) X)) ∧ ((r3 = 0) → (∃ r5 : Int32, zPf SX 0 mX9_outside [.int a3, .int 3] X r5 ∧ (((¬ r5 = 0) → (P (-1) X)) ∧ ((r5 = 0) → (∃ r7 : Int32, zPf SX 0 mX9_outside [.int a5, .int 25] X r7 ∧ (((r7 = 0) → (∃ j9 : Nat, a1 = nI j9 ∧ j9 < 8 ∧ (((¬ (X 24 j9) = 0) → (∃ j11 : Nat, a2 = nI j11 ∧ j11 < 4 ∧ (LX9_read_74 P X a1 a3 a4 a5 j11 0 0 0))) ∧ (((X 24 j9) = 0) → (P (-2) X))))) ∧ ((¬ (r7 = 0)) → (P (-1) X))))))))))))) : zPi SX 1 mX9_read [.ref 0, .int a1, .int a2, .int a3, .int a4, .int a5] X P := by
  refine zP_in [some (.ref 0), some (.int a1), some (.int a2), some (.int a3), some (.int a4), some (.int a5), none, none, none, none, none] ⟨rfl, rfl, rfl, rfl, rfl, rfl, trivial⟩ (by decide) (Nat.le_of_ble_eq_true rfl) ?_
  refine j_iload_n dX9_read_0 rfl ?_
  refine j_aload_n dX9_read_1 rfl ?_
  refine j_getr dX9_read_2 fX9_26 rfl rfl ?_
  refine j_getf dX9_read_5 fX9_107 rfl rfl ?_
  obtain ⟨r1, hc, h⟩ := h
  refine j_csf (lc := 0) (as := [.int a1, .int (X 19 5)]) dX9_read_8 iX9_outside sX9_outside kX9_83 (by decide) rfl rfl (Nat.zero_le _) hc ?_
  refine j_if_ne (tgt := 40) dX9_read_11 (by decide) (fun hc2 => ?_) (fun hc2 => ?_)
  · have h := h.1 hc2
    refine j_iconst (v := (-1)) dX9_read_40 rfl ?_
    refine j_iret dX9_read_41 rfl rfl ?_
    exact ⟨_, rfl, h⟩
  · have h := h.2 hc2
    refine j_iload_n dX9_read_14 rfl ?_
    refine j_iconst (v := 4) dX9_read_15 rfl ?_
    obtain ⟨r3, hc, h⟩ := h
    refine j_csf (lc := 0) (as := [.int a2, .int 4]) dX9_read_16 iX9_outside sX9_outside kX9_83 (by decide) rfl rfl (Nat.zero_le _) hc ?_
    refine j_if_ne (tgt := 40) dX9_read_19 (by decide) (fun hc4 => ?_) (fun hc4 => ?_)
    · have h := h.1 hc4
      refine j_iconst (v := (-1)) dX9_read_40 rfl ?_
      refine j_iret dX9_read_41 rfl rfl ?_
      exact ⟨_, rfl, h⟩
    · have h := h.2 hc4
      refine j_iload_n dX9_read_22 rfl ?_
      refine j_iconst (v := 3) dX9_read_23 rfl ?_
      obtain ⟨r5, hc, h⟩ := h
      refine j_csf (lc := 0) (as := [.int a3, .int 3]) dX9_read_24 iX9_outside sX9_outside kX9_83 (by decide) rfl rfl (Nat.zero_le _) hc ?_
      refine j_if_ne (tgt := 40) dX9_read_27 (by decide) (fun hc6 => ?_) (fun hc6 => ?_)
      · have h := h.1 hc6
        refine j_iconst (v := (-1)) dX9_read_40 rfl ?_
        refine j_iret dX9_read_41 rfl rfl ?_
        exact ⟨_, rfl, h⟩
      · have h := h.2 hc6
        refine j_iload dX9_read_30 rfl ?_
        refine j_bipush (v := 25) dX9_read_32 rfl ?_
        obtain ⟨r7, hc, h⟩ := h
        refine j_csf (lc := 0) (as := [.int a5, .int 25]) dX9_read_34 iX9_outside sX9_outside kX9_83 (by decide) rfl rfl (Nat.zero_le _) hc ?_
        refine j_if_eq (tgt := 42) dX9_read_37 (by decide) (fun hc8 => ?_) (fun hc8 => ?_)
        · have h := h.1 hc8
          refine j_aload_n dX9_read_42 rfl ?_
          refine j_getr dX9_read_43 fX9_26 rfl rfl ?_
          refine j_getr dX9_read_46 fX9_109 rfl rfl ?_
          refine j_iload_n dX9_read_49 rfl ?_
          obtain ⟨j9, ej9, lj9, h⟩ := h
          refine j_zald dX9_read_50 rfl (zin ej9 lj9 (by decide)) ?_
          rw [zcl ej9 lj9 (by decide)]
          refine j_if_ne (tgt := 57) dX9_read_51 (by decide) (fun hc10 => ?_) (fun hc10 => ?_)
          · have h := h.1 hc10
            refine j_aload_n dX9_read_57 rfl ?_
            refine j_getr dX9_read_58 fX9_64 rfl rfl ?_
            refine j_iload_n dX9_read_61 rfl ?_
            obtain ⟨j11, ej11, lj11, h⟩ := h
            refine j_aald (r := (45 + 2 * j11)) 3 (by decide) dX9_read_62 rfl (zin ej11 lj11 (by decide)) (by rw [zcl ej11 lj11 (by decide)]; exact if_pos lj11) ?_
            refine j_astore (L2 := [some (.ref 0), some (.int a1), some (.int a2), some (.int a3), some (.int a4), some (.int a5), some (.ref (45 + 2 * j11)), none, none, none, none]) dX9_read_63 (by decide) (zno rfl) rfl ?_
            refine j_iconst (v := 0) dX9_read_65 rfl ?_
            refine j_istore (L2 := [some (.ref 0), some (.int a1), some (.int a2), some (.int a3), some (.int a4), some (.int a5), some (.ref (45 + 2 * j11)), some (.int 0), none, none, none]) dX9_read_66 (by decide) (zno rfl) rfl ?_
            refine j_iconst (v := 0) dX9_read_68 rfl ?_
            refine j_istore (L2 := [some (.ref 0), some (.int a1), some (.int a2), some (.int a3), some (.int a4), some (.int a5), some (.ref (45 + 2 * j11)), some (.int 0), some (.int 0), none, none]) dX9_read_69 (by decide) (zno rfl) rfl ?_
            refine j_iconst (v := 0) dX9_read_71 rfl ?_
            refine j_istore (L2 := [some (.ref 0), some (.int a1), some (.int a2), some (.int a3), some (.int a4), some (.int a5), some (.ref (45 + 2 * j11)), some (.int 0), some (.int 0), some (.int 0), none]) dX9_read_72 (by decide) (zno rfl) rfl ?_
            exact zJw h ⟨rfl, rfl, rfl, rfl, rfl, rfl, rfl, rfl, rfl, trivial⟩
          · have h := h.2 hc10
            refine j_bipush (v := (-2)) dX9_read_54 rfl ?_
            refine j_iret dX9_read_56 rfl rfl ?_
            exact ⟨_, rfl, h⟩
        · have h := h.2 hc8
          refine j_iconst (v := (-1)) dX9_read_40 rfl ?_
          refine j_iret dX9_read_41 rfl rfl ?_
          exact ⟨_, rfl, h⟩
theorem bX9_read_74 (P : Int32 → zX → Prop) (M : zX) (x1 : Int32) (x3 : Int32) (x4 : Int32) (x5 : Int32) (n6 : Nat) (x7 : Int32) (x8 : Int32) (x9 : Int32) (hn6 : n6 < 4) (h : ((x5 ≤ x9) → (∃ j13 : Nat, x1 = nI j13 ∧ j13 < 8 ∧ (∃ j14 : Nat, x1 = nI j14 ∧ j14 < 8 ∧ (∃ j15 : Nat, x1 = nI j15 ∧ j15 < 8 ∧ (∃ r16 : Int32, zPf SX 0 mJ6_bitCount_0f7a4 [.int (x7 &&& ((M 23 j13) ^^^ (-1)))] (zs (zs M 0 12 x8) 23 j15 ((M 23 j14) ||| (x7 &&& ((M 23 j13) ^^^ (-1))))) r16 ∧ (P r16 (zs (zs M 0 12 x8) 23 j15 ((M 23 j14) ||| (x7 &&& ((M 23 j13) ^^^ (-1))))))))))) ∧ ((¬ (x5 ≤ x9)) → (∃ r17 : Int32, zPf SX 0 mX5_faultAt [.ref (45 + 2 * n6), .int x3, .int (x4 + x9)] M r17 ∧ (((r17 = 0) → (∃ j19 : Nat, (x4 + x9) = nI j19 ∧ j19 < 40 ∧ (∃ r20 : Int32, zPf SX 0 mX9_outside [.int (M (46 + 2 * n6) j19), .int (M 4 10)] M r20 ∧ (((r20 = 0) → (LX9_read_74 P M x1 x3 x4 x5 n6 (x7 ||| (zshl 1 (M (46 + 2 * n6) j19))) r17 (x9 + 1))) ∧ ((¬ (r20 = 0)) → (P ((-20) - x9) M)))))) ∧ ((¬ (r17 = 0)) → (∃ j22 : Nat, x1 = nI j22 ∧ j22 < 8 ∧ (∃ j23 : Nat, x1 = nI j23 ∧ j23 < 8 ∧ (∃ j24 : Nat, x1 = nI j24 ∧ j24 < 8 ∧ (∃ r25 : Int32, zPf SX 0 mJ6_bitCount_0f7a4 [.int (x7 &&& ((M 23 j22) ^^^ (-1)))] (zs (zs M 0 12 r17) 23 j24 ((M 23 j23) ||| (x7 &&& ((M 23 j22) ^^^ (-1))))) r25 ∧ (P r25 (zs (zs M 0 12 r17) 23 j24 ((M 23 j23) ||| (x7 &&& ((M 23 j22) ^^^ (-1))))))))))))))) : LX9_read_74 P M x1 x3 x4 x5 n6 x7 x8 x9 := by
  refine j_iload dX9_read_74 rfl ?_
  refine j_iload dX9_read_76 rfl ?_
  refine j_ic_ge (tgt := 151) dX9_read_78 (by decide) (fun hc12 => ?_) (fun hc12 => ?_)
  · have h := h.1 hc12
    refine j_aload_n dX9_read_151 rfl ?_
    refine j_iload dX9_read_152 rfl ?_
    refine j_putf dX9_read_154 fX9_322 pX9_12 rfl rfl ?_
    refine j_iload dX9_read_157 rfl ?_
    refine j_aload_n dX9_read_159 rfl ?_
    refine j_getr dX9_read_160 fX9_26 rfl rfl ?_
    refine j_getr dX9_read_163 fX9_113 rfl rfl ?_
    refine j_iload_n dX9_read_166 rfl ?_
    obtain ⟨j13, ej13, lj13, h⟩ := h
    refine j_iald dX9_read_167 rfl (zin ej13 lj13 (by decide)) ?_
    rw [zcl ej13 lj13 (by decide)]
    refine zJ_top (v := (M 23 j13)) rfl ?_
    refine j_iconst (v := (-1)) dX9_read_168 rfl ?_
    refine j_ixor dX9_read_169 ?_
    refine j_iand dX9_read_170 ?_
    refine j_istore (L2 := [some (.ref 0), some (.int x1), none, some (.int x3), some (.int x4), some (.int x5), some (.ref (45 + 2 * n6)), some (.int x7), some (.int x8), some (.int (x7 &&& ((M 23 j13) ^^^ (-1)))), none]) dX9_read_171 (by decide) (zno rfl) rfl ?_
    refine j_aload_n dX9_read_173 rfl ?_
    refine j_getr dX9_read_174 fX9_26 rfl rfl ?_
    refine j_getr dX9_read_177 fX9_113 rfl rfl ?_
    refine j_iload_n dX9_read_180 rfl ?_
    refine j_dup2 dX9_read_181 rfl rfl ?_
    obtain ⟨j14, ej14, lj14, h⟩ := h
    refine j_iald dX9_read_182 rfl (zin ej14 lj14 (by decide)) ?_
    rw [zcl ej14 lj14 (by decide)]
    refine zJ_top (v := (M 23 j14)) rfl ?_
    refine j_iload dX9_read_183 rfl ?_
    refine j_ior dX9_read_185 ?_
    obtain ⟨j15, ej15, lj15, h⟩ := h
    refine j_iast dX9_read_186 rfl (zin ej15 lj15 (by decide)) ?_
    rw [zcl ej15 lj15 (by decide)]
    refine j_iload dX9_read_187 rfl ?_
    obtain ⟨r16, hc, h⟩ := h
    refine j_csf (lc := 0) (as := [.int (x7 &&& ((M 23 j13) ^^^ (-1)))]) dX9_read_189 iJ6_bitCount_0f7a4 sJ6_bitCount_0f7a4 kX9_120 (by decide) rfl rfl (Nat.zero_le _) hc ?_
    refine j_iret dX9_read_192 rfl rfl ?_
    exact ⟨_, rfl, h⟩
  · have h := h.2 hc12
    refine j_aload dX9_read_81 rfl ?_
    refine j_iload_n dX9_read_83 rfl ?_
    refine j_iload dX9_read_84 rfl ?_
    refine j_iload dX9_read_86 rfl ?_
    refine j_iadd dX9_read_88 ?_
    obtain ⟨r17, hc, h⟩ := h
    refine j_cvf (lc := 0) (as := [.int x3, .int (x4 + x9)]) dX9_read_89 iX5_faultAt vX5_faultAt kX9_313 (by decide) (sx_sheet hn6) rfl rfl rfl (Nat.zero_le _) hc ?_
    refine j_istore (L2 := [some (.ref 0), some (.int x1), none, some (.int x3), some (.int x4), some (.int x5), some (.ref (45 + 2 * n6)), some (.int x7), some (.int r17), some (.int x9), none]) dX9_read_92 (by decide) (zno rfl) rfl ?_
    refine j_iload dX9_read_94 rfl ?_
    refine j_if_eq (tgt := 102) dX9_read_96 (by decide) (fun hc18 => ?_) (fun hc18 => ?_)
    · have h := h.1 hc18
      refine j_aload dX9_read_102 rfl ?_
      refine j_getr dX9_read_104 fX9_319 (sx_sheet hn6) rfl ?_
      refine j_iload dX9_read_107 rfl ?_
      refine j_iload dX9_read_109 rfl ?_
      refine j_iadd dX9_read_111 ?_
      obtain ⟨j19, ej19, lj19, h⟩ := h
      refine j_iald dX9_read_112 (sx_cells hn6) (zin ej19 lj19 (by decide)) ?_
      rw [zcl ej19 lj19 (by decide)]
      refine j_istore (L2 := [some (.ref 0), some (.int x1), none, some (.int x3), some (.int x4), some (.int x5), some (.ref (45 + 2 * n6)), some (.int x7), some (.int r17), some (.int x9), some (.int (M (46 + 2 * n6) j19))]) dX9_read_113 (by decide) (zno rfl) rfl ?_
      refine j_iload dX9_read_115 rfl ?_
      refine j_aload_n dX9_read_117 rfl ?_
      refine j_getr dX9_read_118 fX9_19 rfl rfl ?_
      refine j_getf dX9_read_121 fX9_108 rfl rfl ?_
      obtain ⟨r20, hc, h⟩ := h
      refine j_csf (lc := 0) (as := [.int (M (46 + 2 * n6) j19), .int (M 4 10)]) dX9_read_124 iX9_outside sX9_outside kX9_83 (by decide) rfl rfl (Nat.zero_le _) hc ?_
      refine j_if_eq (tgt := 136) dX9_read_127 (by decide) (fun hc21 => ?_) (fun hc21 => ?_)
      · have h := h.1 hc21
        refine j_iload dX9_read_136 rfl ?_
        refine j_iconst (v := 1) dX9_read_138 rfl ?_
        refine j_iload dX9_read_139 rfl ?_
        refine j_ishl dX9_read_141 ?_
        refine j_ior dX9_read_142 ?_
        refine j_istore (L2 := [some (.ref 0), some (.int x1), none, some (.int x3), some (.int x4), some (.int x5), some (.ref (45 + 2 * n6)), some (.int (x7 ||| (zshl 1 (M (46 + 2 * n6) j19)))), some (.int r17), some (.int x9), some (.int (M (46 + 2 * n6) j19))]) dX9_read_143 (by decide) (zno rfl) rfl ?_
        refine j_iinc (v := (x9 + 1)) (L2 := [some (.ref 0), some (.int x1), none, some (.int x3), some (.int x4), some (.int x5), some (.ref (45 + 2 * n6)), some (.int (x7 ||| (zshl 1 (M (46 + 2 * n6) j19)))), some (.int r17), some (.int (x9 + 1)), some (.int (M (46 + 2 * n6) j19))]) dX9_read_145 rfl rfl (by decide) (zno rfl) rfl ?_
        refine j_goto (tgt := 74) dX9_read_148 (by decide) ?_
        exact zJw h ⟨rfl, rfl, rfl, rfl, rfl, rfl, rfl, rfl, rfl, trivial⟩
      · have h := h.2 hc21
        refine j_bipush (v := (-20)) dX9_read_130 rfl ?_
        refine j_iload dX9_read_132 rfl ?_
        refine j_isub dX9_read_134 ?_
        refine j_iret dX9_read_135 rfl rfl ?_
        exact ⟨_, rfl, h⟩
    · have h := h.2 hc18
      refine j_goto (tgt := 151) dX9_read_99 (by decide) ?_
      refine j_aload_n dX9_read_151 rfl ?_
      refine j_iload dX9_read_152 rfl ?_
      refine j_putf dX9_read_154 fX9_322 pX9_12 rfl rfl ?_
      refine j_iload dX9_read_157 rfl ?_
      refine j_aload_n dX9_read_159 rfl ?_
      refine j_getr dX9_read_160 fX9_26 rfl rfl ?_
      refine j_getr dX9_read_163 fX9_113 rfl rfl ?_
      refine j_iload_n dX9_read_166 rfl ?_
      obtain ⟨j22, ej22, lj22, h⟩ := h
      refine j_iald dX9_read_167 rfl (zin ej22 lj22 (by decide)) ?_
      rw [zcl ej22 lj22 (by decide)]
      refine zJ_top (v := (M 23 j22)) rfl ?_
      refine j_iconst (v := (-1)) dX9_read_168 rfl ?_
      refine j_ixor dX9_read_169 ?_
      refine j_iand dX9_read_170 ?_
      refine j_istore (L2 := [some (.ref 0), some (.int x1), none, some (.int x3), some (.int x4), some (.int x5), some (.ref (45 + 2 * n6)), some (.int x7), some (.int r17), some (.int (x7 &&& ((M 23 j22) ^^^ (-1)))), none]) dX9_read_171 (by decide) (zno rfl) rfl ?_
      refine j_aload_n dX9_read_173 rfl ?_
      refine j_getr dX9_read_174 fX9_26 rfl rfl ?_
      refine j_getr dX9_read_177 fX9_113 rfl rfl ?_
      refine j_iload_n dX9_read_180 rfl ?_
      refine j_dup2 dX9_read_181 rfl rfl ?_
      obtain ⟨j23, ej23, lj23, h⟩ := h
      refine j_iald dX9_read_182 rfl (zin ej23 lj23 (by decide)) ?_
      rw [zcl ej23 lj23 (by decide)]
      refine zJ_top (v := (M 23 j23)) rfl ?_
      refine j_iload dX9_read_183 rfl ?_
      refine j_ior dX9_read_185 ?_
      obtain ⟨j24, ej24, lj24, h⟩ := h
      refine j_iast dX9_read_186 rfl (zin ej24 lj24 (by decide)) ?_
      rw [zcl ej24 lj24 (by decide)]
      refine j_iload dX9_read_187 rfl ?_
      obtain ⟨r25, hc, h⟩ := h
      refine j_csf (lc := 0) (as := [.int (x7 &&& ((M 23 j22) ^^^ (-1)))]) dX9_read_189 iJ6_bitCount_0f7a4 sJ6_bitCount_0f7a4 kX9_120 (by decide) rfl rfl (Nat.zero_le _) hc ?_
      refine j_iret dX9_read_192 rfl rfl ?_
      exact ⟨_, rfl, h⟩
theorem eX9_torn (v : Int32) (X : zX)  (h : (X 0 12) = v) : zPf SX 0 mX9_torn [.ref 0] X v := by
  refine zP_in [some (.ref 0)] ⟨rfl, trivial⟩ (by decide) (Nat.le_of_ble_eq_true rfl) ?_
  refine j_aload_n dX9_torn_0 rfl ?_
  refine j_getf dX9_torn_1 fX9_322 rfl rfl ?_
  refine j_iret dX9_torn_4 rfl rfl ?_
  exact ⟨by rw [h], rfl⟩
theorem eX9_count (v : Int32) (X : zX) (a1 : Int32) (h : (a1 = 0 → ((X 1 2) = v)) ∧ (a1 = 1 → ((X 4 10) = v)) ∧ (a1 = 2 → ((X 19 5) = v)) ∧ (a1 = 3 → (∃ r1 : Int32, zPf SX 0 mX2_howManyLive [.ref 19] X r1 ∧ (r1 = v))) ∧ (a1 = 4 → ((X 1 3) = v)) ∧ (a1 = 5 → ((X 1 4) = v)) ∧ (a1 = 6 → ((X 25 1) = v)) ∧ (a1 = 7 → (∃ j2 : Nat, 0 = nI j2 ∧ j2 < 4 ∧ ((X (45 + 2 * j2) 2) = v))) ∧ ((a1.toInt < 0 ∨ 7 < a1.toInt) → ((-1) = v))) : zPf SX 1 mX9_count [.ref 0, .int a1] X v := by
  refine zP_in [some (.ref 0), some (.int a1)] ⟨rfl, rfl, trivial⟩ (by decide) (Nat.le_of_ble_eq_true rfl) ?_
  refine j_iload_n dX9_count_0 rfl ?_
  refine j_tsw (dt := 114) [48, 56, 64, 72, 80, 88, 96, 104] dX9_count_1 (by decide) (by decide) (by decide) ?_ (fun hc => ?_)
  · refine ⟨fun hc => ?_, fun hc => ?_, fun hc => ?_, fun hc => ?_, fun hc => ?_, fun hc => ?_, fun hc => ?_, fun hc => ?_, trivial⟩
    · have h := h.1 (hc.trans (by decide))
      refine j_aload_n dX9_count_48 rfl ?_
      refine j_getr dX9_count_49 fX9_10 rfl rfl ?_
      refine j_getf dX9_count_52 fX9_91 rfl rfl ?_
      refine j_iret dX9_count_55 rfl rfl ?_
      exact ⟨by rw [h], rfl⟩
    · have h := h.2.1 (hc.trans (by decide))
      refine j_aload_n dX9_count_56 rfl ?_
      refine j_getr dX9_count_57 fX9_19 rfl rfl ?_
      refine j_getf dX9_count_60 fX9_108 rfl rfl ?_
      refine j_iret dX9_count_63 rfl rfl ?_
      exact ⟨by rw [h], rfl⟩
    · have h := h.2.2.1 (hc.trans (by decide))
      refine j_aload_n dX9_count_64 rfl ?_
      refine j_getr dX9_count_65 fX9_26 rfl rfl ?_
      refine j_getf dX9_count_68 fX9_107 rfl rfl ?_
      refine j_iret dX9_count_71 rfl rfl ?_
      exact ⟨by rw [h], rfl⟩
    · have h := h.2.2.2.1 (hc.trans (by decide))
      refine j_aload_n dX9_count_72 rfl ?_
      refine j_getr dX9_count_73 fX9_26 rfl rfl ?_
      obtain ⟨r1, hc, h⟩ := h
      refine j_cvf (lc := 0) (as := []) dX9_count_76 iX2_howManyLive vX2_howManyLive kX9_325 (by decide) rfl rfl rfl rfl (Nat.zero_le _) hc ?_
      refine j_iret dX9_count_79 rfl rfl ?_
      exact ⟨by rw [h], rfl⟩
    · have h := h.2.2.2.2.1 (hc.trans (by decide))
      refine j_aload_n dX9_count_80 rfl ?_
      refine j_getr dX9_count_81 fX9_10 rfl rfl ?_
      refine j_getf dX9_count_84 fX9_101 rfl rfl ?_
      refine j_iret dX9_count_87 rfl rfl ?_
      exact ⟨by rw [h], rfl⟩
    · have h := h.2.2.2.2.2.1 (hc.trans (by decide))
      refine j_aload_n dX9_count_88 rfl ?_
      refine j_getr dX9_count_89 fX9_10 rfl rfl ?_
      refine j_getf dX9_count_92 fX9_126 rfl rfl ?_
      refine j_iret dX9_count_95 rfl rfl ?_
      exact ⟨by rw [h], rfl⟩
    · have h := h.2.2.2.2.2.2.1 (hc.trans (by decide))
      refine j_aload_n dX9_count_96 rfl ?_
      refine j_getr dX9_count_97 fX9_33 rfl rfl ?_
      refine j_getf dX9_count_100 fX9_195 rfl rfl ?_
      refine j_iret dX9_count_103 rfl rfl ?_
      exact ⟨by rw [h], rfl⟩
    · have h := h.2.2.2.2.2.2.2.1 (hc.trans (by decide))
      refine j_aload_n dX9_count_104 rfl ?_
      refine j_getr dX9_count_105 fX9_64 rfl rfl ?_
      refine j_iconst (v := 0) dX9_count_108 rfl ?_
      obtain ⟨j2, ej2, lj2, h⟩ := h
      refine j_aald (r := (45 + 2 * j2)) 3 (by decide) dX9_count_109 rfl (zin ej2 lj2 (by decide)) (by rw [zcl ej2 lj2 (by decide)]; exact if_pos lj2) ?_
      refine j_getf dX9_count_110 fX9_328 (sx_sheet lj2) rfl ?_
      refine j_iret dX9_count_113 rfl rfl ?_
      exact ⟨by rw [h], rfl⟩
  · have h := h.2.2.2.2.2.2.2.2 hc
    refine j_iconst (v := (-1)) dX9_count_114 rfl ?_
    refine j_iret dX9_count_115 rfl rfl ?_
    exact ⟨by rw [h], rfl⟩
theorem eX9_outside (v : Int32) (X : zX) (a1 : Int32) (a2 : Int32) (h : ((a1 < 0) → (1 = v)) ∧ ((¬ (a1 < 0)) → (((a1 < a2) → (0 = v)) ∧ ((¬ (a1 < a2)) → (1 = v))))) : zPf SX 0 mX9_outside [.int a1, .int a2] X v := by
  refine zP_in [some (.int a1), some (.int a2)] ⟨rfl, rfl, trivial⟩ (by decide) (Nat.le_of_ble_eq_true rfl) ?_
  refine j_iload_n dX9_outside_0 rfl ?_
  refine j_if_lt (tgt := 9) dX9_outside_1 (by decide) (fun hc1 => ?_) (fun hc1 => ?_)
  · have h := h.1 hc1
    refine j_iconst (v := 1) dX9_outside_9 rfl ?_
    refine j_goto (tgt := 14) dX9_outside_10 (by decide) ?_
    refine j_iret dX9_outside_14 rfl (by decide) ?_
    exact ⟨by rw [h], rfl⟩
  · have h := h.2 hc1
    refine j_iload_n dX9_outside_4 rfl ?_
    refine j_iload_n dX9_outside_5 rfl ?_
    refine j_ic_lt (tgt := 13) dX9_outside_6 (by decide) (fun hc2 => ?_) (fun hc2 => ?_)
    · have h := h.1 hc2
      refine j_iconst (v := 0) dX9_outside_13 rfl ?_
      refine j_iret dX9_outside_14 rfl (by decide) ?_
      exact ⟨by rw [h], rfl⟩
    · have h := h.2 hc2
      refine j_iconst (v := 1) dX9_outside_9 rfl ?_
      refine j_goto (tgt := 14) dX9_outside_10 (by decide) ?_
      refine j_iret dX9_outside_14 rfl (by decide) ?_
      exact ⟨by rw [h], rfl⟩
theorem eX9_noSuchPeople (v : Int32) (X : zX) (a1 : Int32) (h : ∃ r1 : Int32, zPf SX 0 mX9_outside [.int a1, .int (zshl 1 (X 19 5))] X r1 ∧ (narrow .boolean (.int r1) = .int r1 ∧ r1 = v)) : zPf SX 1 mX9_noSuchPeople [.ref 0, .int a1] X v := by
  refine zP_in [some (.ref 0), some (.int a1)] ⟨rfl, rfl, trivial⟩ (by decide) (Nat.le_of_ble_eq_true rfl) ?_
  refine j_iload_n dX9_noSuchPeople_0 rfl ?_
  refine j_iconst (v := 1) dX9_noSuchPeople_1 rfl ?_
  refine j_aload_n dX9_noSuchPeople_2 rfl ?_
  refine j_getr dX9_noSuchPeople_3 fX9_26 rfl rfl ?_
  refine j_getf dX9_noSuchPeople_6 fX9_107 rfl rfl ?_
  refine j_ishl dX9_noSuchPeople_9 ?_
  obtain ⟨r1, hc, h⟩ := h
  refine j_csf (lc := 0) (as := [.int a1, .int (zshl 1 (X 19 5))]) dX9_noSuchPeople_10 iX9_outside sX9_outside kX9_83 (by decide) rfl rfl (Nat.zero_le _) hc ?_
  refine j_iret (ty := .boolean) dX9_noSuchPeople_13 rfl h.1 ?_
  have h := h.2
  exact ⟨by rw [h], rfl⟩
theorem eX9_noSuchLesson (v : Int32) (X : zX) (a1 : Int32) (a2 : Int32) (a3 : Int32) (h : ∃ r1 : Int32, zPf SX 0 mX9_outside [.int a1, .int (X 19 5)] X r1 ∧ (((¬ r1 = 0) → (1 = v)) ∧ ((r1 = 0) → (∃ r3 : Int32, zPf SX 0 mX9_outside [.int a2, .int (X 19 5)] X r3 ∧ (((¬ r3 = 0) → (1 = v)) ∧ ((r3 = 0) → (((a1 = a2) → (1 = v)) ∧ ((¬ (a1 = a2)) → (∃ r6 : Int32, zPf SX 0 mX9_outside [.int a3, .int (X 4 10)] X r6 ∧ (((r6 = 0) → (0 = v)) ∧ ((¬ (r6 = 0)) → (1 = v)))))))))))) : zPf SX 1 mX9_noSuchLesson [.ref 0, .int a1, .int a2, .int a3] X v := by
  refine zP_in [some (.ref 0), some (.int a1), some (.int a2), some (.int a3)] ⟨rfl, rfl, rfl, rfl, trivial⟩ (by decide) (Nat.le_of_ble_eq_true rfl) ?_
  refine j_iload_n dX9_noSuchLesson_0 rfl ?_
  refine j_aload_n dX9_noSuchLesson_1 rfl ?_
  refine j_getr dX9_noSuchLesson_2 fX9_26 rfl rfl ?_
  refine j_getf dX9_noSuchLesson_5 fX9_107 rfl rfl ?_
  obtain ⟨r1, hc, h⟩ := h
  refine j_csf (lc := 0) (as := [.int a1, .int (X 19 5)]) dX9_noSuchLesson_8 iX9_outside sX9_outside kX9_83 (by decide) rfl rfl (Nat.zero_le _) hc ?_
  refine j_if_ne (tgt := 47) dX9_noSuchLesson_11 (by decide) (fun hc2 => ?_) (fun hc2 => ?_)
  · have h := h.1 hc2
    refine j_iconst (v := 1) dX9_noSuchLesson_47 rfl ?_
    refine j_goto (tgt := 52) dX9_noSuchLesson_48 (by decide) ?_
    refine j_iret dX9_noSuchLesson_52 rfl (by decide) ?_
    exact ⟨by rw [h], rfl⟩
  · have h := h.2 hc2
    refine j_iload_n dX9_noSuchLesson_14 rfl ?_
    refine j_aload_n dX9_noSuchLesson_15 rfl ?_
    refine j_getr dX9_noSuchLesson_16 fX9_26 rfl rfl ?_
    refine j_getf dX9_noSuchLesson_19 fX9_107 rfl rfl ?_
    obtain ⟨r3, hc, h⟩ := h
    refine j_csf (lc := 0) (as := [.int a2, .int (X 19 5)]) dX9_noSuchLesson_22 iX9_outside sX9_outside kX9_83 (by decide) rfl rfl (Nat.zero_le _) hc ?_
    refine j_if_ne (tgt := 47) dX9_noSuchLesson_25 (by decide) (fun hc4 => ?_) (fun hc4 => ?_)
    · have h := h.1 hc4
      refine j_iconst (v := 1) dX9_noSuchLesson_47 rfl ?_
      refine j_goto (tgt := 52) dX9_noSuchLesson_48 (by decide) ?_
      refine j_iret dX9_noSuchLesson_52 rfl (by decide) ?_
      exact ⟨by rw [h], rfl⟩
    · have h := h.2 hc4
      refine j_iload_n dX9_noSuchLesson_28 rfl ?_
      refine j_iload_n dX9_noSuchLesson_29 rfl ?_
      refine j_ic_eq (tgt := 47) dX9_noSuchLesson_30 (by decide) (fun hc5 => ?_) (fun hc5 => ?_)
      · have h := h.1 hc5
        refine j_iconst (v := 1) dX9_noSuchLesson_47 rfl ?_
        refine j_goto (tgt := 52) dX9_noSuchLesson_48 (by decide) ?_
        refine j_iret dX9_noSuchLesson_52 rfl (by decide) ?_
        exact ⟨by rw [h], rfl⟩
      · have h := h.2 hc5
        refine j_iload_n dX9_noSuchLesson_33 rfl ?_
        refine j_aload_n dX9_noSuchLesson_34 rfl ?_
        refine j_getr dX9_noSuchLesson_35 fX9_19 rfl rfl ?_
        refine j_getf dX9_noSuchLesson_38 fX9_108 rfl rfl ?_
        obtain ⟨r6, hc, h⟩ := h
        refine j_csf (lc := 0) (as := [.int a3, .int (X 4 10)]) dX9_noSuchLesson_41 iX9_outside sX9_outside kX9_83 (by decide) rfl rfl (Nat.zero_le _) hc ?_
        refine j_if_eq (tgt := 51) dX9_noSuchLesson_44 (by decide) (fun hc7 => ?_) (fun hc7 => ?_)
        · have h := h.1 hc7
          refine j_iconst (v := 0) dX9_noSuchLesson_51 rfl ?_
          refine j_iret dX9_noSuchLesson_52 rfl (by decide) ?_
          exact ⟨by rw [h], rfl⟩
        · have h := h.2 hc7
          refine j_iconst (v := 1) dX9_noSuchLesson_47 rfl ?_
          refine j_goto (tgt := 52) dX9_noSuchLesson_48 (by decide) ?_
          refine j_iret dX9_noSuchLesson_52 rfl (by decide) ?_
          exact ⟨by rw [h], rfl⟩
theorem eX9_ageNow (v : Int32) (X : zX) (a1 : Int32) (h : ∃ j1 : Nat, a1 = nI j1 ∧ j1 < 8 ∧ (((X 21 j1) + (X 1 3)) = v)) : zPf SX 0 mX9_ageNow [.ref 0, .int a1] X v := by
  refine zP_in [some (.ref 0), some (.int a1)] ⟨rfl, rfl, trivial⟩ (by decide) (Nat.le_of_ble_eq_true rfl) ?_
  refine j_aload_n dX9_ageNow_0 rfl ?_
  refine j_getr dX9_ageNow_1 fX9_26 rfl rfl ?_
  refine j_getr dX9_ageNow_4 fX9_329 rfl rfl ?_
  refine j_iload_n dX9_ageNow_7 rfl ?_
  obtain ⟨j1, ej1, lj1, h⟩ := h
  refine j_iald dX9_ageNow_8 rfl (zin ej1 lj1 (by decide)) ?_
  rw [zcl ej1 lj1 (by decide)]
  refine j_aload_n dX9_ageNow_9 rfl ?_
  refine j_getr dX9_ageNow_10 fX9_10 rfl rfl ?_
  refine j_getf dX9_ageNow_13 fX9_101 rfl rfl ?_
  refine j_iadd dX9_ageNow_16 ?_
  refine j_iret dX9_ageNow_17 rfl rfl ?_
  exact ⟨by rw [h], rfl⟩
abbrev LX9_hearable_15 (v : Int32) (X : zX) (x2 : Int32) (x3 : Int32) (x4 : Int32) : Prop := zJ SX 0 mX9_hearable (zRf v X) 15 [some (.ref 0), none, some (.int x2), some (.int x3), some (.int x4), none] [] X
theorem eX9_hearable (v : Int32) (X : zX) (a1 : Int32) (h : ∃ j1 : Nat, a1 = nI j1 ∧ j1 < 8 ∧ (LX9_hearable_15 v X (X 20 j1) 0 0)) : zPf SX 0 mX9_hearable [.ref 0, .int a1] X v := by
  refine zP_in [some (.ref 0), some (.int a1), none, none, none, none] ⟨rfl, rfl, trivial⟩ (by decide) (Nat.le_of_ble_eq_true rfl) ?_
  refine j_aload_n dX9_hearable_0 rfl ?_
  refine j_getr dX9_hearable_1 fX9_26 rfl rfl ?_
  refine j_getr dX9_hearable_4 fX9_169 rfl rfl ?_
  refine j_iload_n dX9_hearable_7 rfl ?_
  obtain ⟨j1, ej1, lj1, h⟩ := h
  refine j_iald dX9_hearable_8 rfl (zin ej1 lj1 (by decide)) ?_
  rw [zcl ej1 lj1 (by decide)]
  refine j_istore_n (L2 := [some (.ref 0), some (.int a1), some (.int (X 20 j1)), none, none, none]) dX9_hearable_9 (by decide) (zno rfl) rfl ?_
  refine j_iconst (v := 0) dX9_hearable_10 rfl ?_
  refine j_istore_n (L2 := [some (.ref 0), some (.int a1), some (.int (X 20 j1)), some (.int 0), none, none]) dX9_hearable_11 (by decide) (zno rfl) rfl ?_
  refine j_iconst (v := 0) dX9_hearable_12 rfl ?_
  refine j_istore (L2 := [some (.ref 0), some (.int a1), some (.int (X 20 j1)), some (.int 0), some (.int 0), none]) dX9_hearable_13 (by decide) (zno rfl) rfl ?_
  exact zJw h ⟨rfl, rfl, rfl, rfl, trivial⟩
theorem bX9_hearable_15 (v : Int32) (X : zX) (x2 : Int32) (x3 : Int32) (x4 : Int32) (h : (((X 4 10) ≤ x4) → (x3 = v)) ∧ ((¬ ((X 4 10) ≤ x4)) → (∃ j3 : Nat, x4 = nI j3 ∧ j3 < 24 ∧ ((((X 9 j3) = (-4)) → (LX9_hearable_15 v X x2 (x3 ||| (zshl 1 x4)) (x4 + 1))) ∧ ((¬ ((X 9 j3) = (-4))) → ((((X 9 j3) = x2) → (LX9_hearable_15 v X x2 (x3 ||| (zshl 1 x4)) (x4 + 1))) ∧ ((¬ ((X 9 j3) = x2)) → (∃ j6 : Nat, (X 9 j3) = nI j6 ∧ j6 < 8 ∧ (((¬ ((zshr (X 55 j6) x2) &&& 1) = 1) → (LX9_hearable_15 v X x2 x3 (x4 + 1))) ∧ ((((zshr (X 55 j6) x2) &&& 1) = 1) → (LX9_hearable_15 v X x2 (x3 ||| (zshl 1 x4)) (x4 + 1)))))))))))) : LX9_hearable_15 v X x2 x3 x4 := by
  refine j_iload dX9_hearable_15 rfl ?_
  refine j_aload_n dX9_hearable_17 rfl ?_
  refine j_getr dX9_hearable_18 fX9_19 rfl rfl ?_
  refine j_getf dX9_hearable_21 fX9_108 rfl rfl ?_
  refine j_ic_ge (tgt := 83) dX9_hearable_24 (by decide) (fun hc2 => ?_) (fun hc2 => ?_)
  · have h := h.1 hc2
    refine j_iload_n dX9_hearable_83 rfl ?_
    refine j_iret dX9_hearable_84 rfl rfl ?_
    exact ⟨by rw [h], rfl⟩
  · have h := h.2 hc2
    refine j_aload_n dX9_hearable_27 rfl ?_
    refine j_getr dX9_hearable_28 fX9_19 rfl rfl ?_
    refine j_getr dX9_hearable_31 fX9_160 rfl rfl ?_
    refine j_iload dX9_hearable_34 rfl ?_
    obtain ⟨j3, ej3, lj3, h⟩ := h
    refine j_iald dX9_hearable_36 rfl (zin ej3 lj3 (by decide)) ?_
    rw [zcl ej3 lj3 (by decide)]
    refine j_istore (L2 := [some (.ref 0), none, some (.int x2), some (.int x3), some (.int x4), some (.int (X 9 j3))]) dX9_hearable_37 (by decide) (zno rfl) rfl ?_
    refine j_iload dX9_hearable_39 rfl ?_
    refine j_bipush (v := (-4)) dX9_hearable_41 rfl ?_
    refine j_ic_eq (tgt := 70) dX9_hearable_43 (by decide) (fun hc4 => ?_) (fun hc4 => ?_)
    · have h := h.1 hc4
      refine j_iload_n dX9_hearable_70 rfl ?_
      refine j_iconst (v := 1) dX9_hearable_71 rfl ?_
      refine j_iload dX9_hearable_72 rfl ?_
      refine j_ishl dX9_hearable_74 ?_
      refine j_ior dX9_hearable_75 ?_
      refine j_istore_n (L2 := [some (.ref 0), none, some (.int x2), some (.int (x3 ||| (zshl 1 x4))), some (.int x4), some (.int (X 9 j3))]) dX9_hearable_76 (by decide) (zno rfl) rfl ?_
      refine j_iinc (v := (x4 + 1)) (L2 := [some (.ref 0), none, some (.int x2), some (.int (x3 ||| (zshl 1 x4))), some (.int (x4 + 1)), some (.int (X 9 j3))]) dX9_hearable_77 rfl rfl (by decide) (zno rfl) rfl ?_
      refine j_goto (tgt := 15) dX9_hearable_80 (by decide) ?_
      exact zJw h ⟨rfl, rfl, rfl, rfl, trivial⟩
    · have h := h.2 hc4
      refine j_iload dX9_hearable_46 rfl ?_
      refine j_iload_n dX9_hearable_48 rfl ?_
      refine j_ic_eq (tgt := 70) dX9_hearable_49 (by decide) (fun hc5 => ?_) (fun hc5 => ?_)
      · have h := h.1 hc5
        refine j_iload_n dX9_hearable_70 rfl ?_
        refine j_iconst (v := 1) dX9_hearable_71 rfl ?_
        refine j_iload dX9_hearable_72 rfl ?_
        refine j_ishl dX9_hearable_74 ?_
        refine j_ior dX9_hearable_75 ?_
        refine j_istore_n (L2 := [some (.ref 0), none, some (.int x2), some (.int (x3 ||| (zshl 1 x4))), some (.int x4), some (.int (X 9 j3))]) dX9_hearable_76 (by decide) (zno rfl) rfl ?_
        refine j_iinc (v := (x4 + 1)) (L2 := [some (.ref 0), none, some (.int x2), some (.int (x3 ||| (zshl 1 x4))), some (.int (x4 + 1)), some (.int (X 9 j3))]) dX9_hearable_77 rfl rfl (by decide) (zno rfl) rfl ?_
        refine j_goto (tgt := 15) dX9_hearable_80 (by decide) ?_
        exact zJw h ⟨rfl, rfl, rfl, rfl, trivial⟩
      · have h := h.2 hc5
        refine j_aload_n dX9_hearable_52 rfl ?_
        refine j_getr dX9_hearable_53 fX9_75 rfl rfl ?_
        refine j_getr dX9_hearable_56 fX9_209 rfl rfl ?_
        refine j_iload dX9_hearable_59 rfl ?_
        obtain ⟨j6, ej6, lj6, h⟩ := h
        refine j_iald dX9_hearable_61 rfl (zin ej6 lj6 (by decide)) ?_
        rw [zcl ej6 lj6 (by decide)]
        refine j_iload_n dX9_hearable_62 rfl ?_
        refine j_ishr dX9_hearable_63 ?_
        refine j_iconst (v := 1) dX9_hearable_64 rfl ?_
        refine j_iand dX9_hearable_65 ?_
        refine j_iconst (v := 1) dX9_hearable_66 rfl ?_
        refine j_ic_ne (tgt := 77) dX9_hearable_67 (by decide) (fun hc7 => ?_) (fun hc7 => ?_)
        · have h := h.1 hc7
          refine j_iinc (v := (x4 + 1)) (L2 := [some (.ref 0), none, some (.int x2), some (.int x3), some (.int (x4 + 1)), some (.int (X 9 j3))]) dX9_hearable_77 rfl rfl (by decide) (zno rfl) rfl ?_
          refine j_goto (tgt := 15) dX9_hearable_80 (by decide) ?_
          exact zJw h ⟨rfl, rfl, rfl, rfl, trivial⟩
        · have h := h.2 hc7
          refine j_iload_n dX9_hearable_70 rfl ?_
          refine j_iconst (v := 1) dX9_hearable_71 rfl ?_
          refine j_iload dX9_hearable_72 rfl ?_
          refine j_ishl dX9_hearable_74 ?_
          refine j_ior dX9_hearable_75 ?_
          refine j_istore_n (L2 := [some (.ref 0), none, some (.int x2), some (.int (x3 ||| (zshl 1 x4))), some (.int x4), some (.int (X 9 j3))]) dX9_hearable_76 (by decide) (zno rfl) rfl ?_
          refine j_iinc (v := (x4 + 1)) (L2 := [some (.ref 0), none, some (.int x2), some (.int (x3 ||| (zshl 1 x4))), some (.int (x4 + 1)), some (.int (X 9 j3))]) dX9_hearable_77 rfl rfl (by decide) (zno rfl) rfl ?_
          refine j_goto (tgt := 15) dX9_hearable_80 (by decide) ?_
          exact zJw h ⟨rfl, rfl, rfl, rfl, trivial⟩
theorem eX9_singable (v : Int32) (X : zX) (a1 : Int32) (h : ∃ j1 : Nat, a1 = nI j1 ∧ j1 < 8 ∧ ((((X 24 j1) = 0) → (0 = v)) ∧ ((¬ ((X 24 j1) = 0)) → (∃ r3 : Int32, zPf SX 0 mX9_ageNow [.ref 0, .int a1] X r3 ∧ ((((X 54 3) ≤ r3) → (∃ j5 : Nat, a1 = nI j5 ∧ j5 < 8 ∧ (∃ j6 : Nat, a1 = nI j6 ∧ j6 < 8 ∧ (∃ r7 : Int32, zPf SX 0 mX6_openOrHeldBy [.ref 4, .int (X 20 j6)] X r7 ∧ (((X 23 j5) &&& r7) = v))))) ∧ ((¬ ((X 54 3) ≤ r3)) → (0 = v))))))) : zPf SX 1 mX9_singable [.ref 0, .int a1] X v := by
  refine zP_in [some (.ref 0), some (.int a1)] ⟨rfl, rfl, trivial⟩ (by decide) (Nat.le_of_ble_eq_true rfl) ?_
  refine j_aload_n dX9_singable_0 rfl ?_
  refine j_getr dX9_singable_1 fX9_26 rfl rfl ?_
  refine j_getr dX9_singable_4 fX9_109 rfl rfl ?_
  refine j_iload_n dX9_singable_7 rfl ?_
  obtain ⟨j1, ej1, lj1, h⟩ := h
  refine j_zald dX9_singable_8 rfl (zin ej1 lj1 (by decide)) ?_
  rw [zcl ej1 lj1 (by decide)]
  refine j_if_eq (tgt := 27) dX9_singable_9 (by decide) (fun hc2 => ?_) (fun hc2 => ?_)
  · have h := h.1 hc2
    refine j_iconst (v := 0) dX9_singable_27 rfl ?_
    refine j_iret dX9_singable_28 rfl rfl ?_
    exact ⟨by rw [h], rfl⟩
  · have h := h.2 hc2
    refine j_aload_n dX9_singable_12 rfl ?_
    refine j_iload_n dX9_singable_13 rfl ?_
    obtain ⟨r3, hc, h⟩ := h
    refine j_cvf (lc := 0) (as := [.int a1]) dX9_singable_14 iX9_ageNow vX9_ageNow kX9_172 (by decide) rfl rfl rfl rfl (Nat.zero_le _) hc ?_
    refine j_aload_n dX9_singable_17 rfl ?_
    refine j_getr dX9_singable_18 fX9_75 rfl rfl ?_
    refine j_getf dX9_singable_21 fX9_200 rfl rfl ?_
    refine j_ic_ge (tgt := 29) dX9_singable_24 (by decide) (fun hc4 => ?_) (fun hc4 => ?_)
    · have h := h.1 hc4
      refine j_aload_n dX9_singable_29 rfl ?_
      refine j_getr dX9_singable_30 fX9_26 rfl rfl ?_
      refine j_getr dX9_singable_33 fX9_113 rfl rfl ?_
      refine j_iload_n dX9_singable_36 rfl ?_
      obtain ⟨j5, ej5, lj5, h⟩ := h
      refine j_iald dX9_singable_37 rfl (zin ej5 lj5 (by decide)) ?_
      rw [zcl ej5 lj5 (by decide)]
      refine j_aload_n dX9_singable_38 rfl ?_
      refine j_getr dX9_singable_39 fX9_19 rfl rfl ?_
      refine j_aload_n dX9_singable_42 rfl ?_
      refine j_getr dX9_singable_43 fX9_26 rfl rfl ?_
      refine j_getr dX9_singable_46 fX9_169 rfl rfl ?_
      refine j_iload_n dX9_singable_49 rfl ?_
      obtain ⟨j6, ej6, lj6, h⟩ := h
      refine j_iald dX9_singable_50 rfl (zin ej6 lj6 (by decide)) ?_
      rw [zcl ej6 lj6 (by decide)]
      obtain ⟨r7, hc, h⟩ := h
      refine j_cvf (lc := 0) (as := [.int (X 20 j6)]) dX9_singable_51 iX6_openOrHeldBy vX6_openOrHeldBy kX9_332 (by decide) rfl rfl rfl rfl (by simp [Value.category]) hc ?_
      refine j_iand dX9_singable_54 ?_
      refine j_iret dX9_singable_55 rfl rfl ?_
      exact ⟨by rw [h], rfl⟩
    · have h := h.2 hc4
      refine j_iconst (v := 0) dX9_singable_27 rfl ?_
      refine j_iret dX9_singable_28 rfl rfl ?_
      exact ⟨by rw [h], rfl⟩
abbrev LX9_hearVoices_2 (P : zX → Prop) (M : zX) (x1 : Int32) : Prop := zJ SX 2 mX9_hearVoices (zRw P) 2 [some (.ref 0), some (.int x1)] [] M
theorem eX9_hearVoices (P : zX → Prop) (X : zX)  (h : LX9_hearVoices_2 P X 0) : zPw SX 2 mX9_hearVoices [.ref 0] X P := by
  refine zP_in [some (.ref 0), none] ⟨rfl, trivial⟩ (by decide) (Nat.le_of_ble_eq_true rfl) ?_
  refine j_iconst (v := 0) dX9_hearVoices_0 rfl ?_
  refine j_istore_n (L2 := [some (.ref 0), some (.int 0)]) dX9_hearVoices_1 (by decide) (zno rfl) rfl ?_
  exact zJw h ⟨rfl, rfl, trivial⟩
theorem bX9_hearVoices_2 (P : zX → Prop) (M : zX) (x1 : Int32) (h : (((M 19 5) ≤ x1) → (P M)) ∧ ((¬ ((M 19 5) ≤ x1)) → (∃ r2 : Int32, zPf SX 1 mX9_singable [.ref 0, .int x1] M r2 ∧ (∃ j3 : Nat, x1 = nI j3 ∧ j3 < 8 ∧ (LX9_hearVoices_2 P (zs M 53 j3 r2) (x1 + 1)))))) : LX9_hearVoices_2 P M x1 := by
  refine j_iload_n dX9_hearVoices_2 rfl ?_
  refine j_aload_n dX9_hearVoices_3 rfl ?_
  refine j_getr dX9_hearVoices_4 fX9_26 rfl rfl ?_
  refine j_getf dX9_hearVoices_7 fX9_107 rfl rfl ?_
  refine j_ic_ge (tgt := 30) dX9_hearVoices_10 (by decide) (fun hc1 => ?_) (fun hc1 => ?_)
  · have h := h.1 hc1
    refine j_vret dX9_hearVoices_30 rfl ?_
    exact ⟨rfl, h⟩
  · have h := h.2 hc1
    refine j_aload_n dX9_hearVoices_13 rfl ?_
    refine j_getr dX9_hearVoices_14 fX9_68 rfl rfl ?_
    refine j_iload_n dX9_hearVoices_17 rfl ?_
    refine j_aload_n dX9_hearVoices_18 rfl ?_
    refine j_iload_n dX9_hearVoices_19 rfl ?_
    obtain ⟨r2, hc, h⟩ := h
    refine j_cvf (lc := 1) (as := [.int x1]) dX9_hearVoices_20 iX9_singable vX9_singable kX9_218 (by decide) rfl rfl rfl rfl (by simp [Value.category]) hc ?_
    obtain ⟨j3, ej3, lj3, h⟩ := h
    refine j_iast dX9_hearVoices_23 rfl (zin ej3 lj3 (by decide)) ?_
    rw [zcl ej3 lj3 (by decide)]
    refine j_iinc (v := (x1 + 1)) (L2 := [some (.ref 0), some (.int (x1 + 1))]) dX9_hearVoices_24 rfl rfl (by decide) (zno rfl) rfl ?_
    refine j_goto (tgt := 2) dX9_hearVoices_27 (by decide) ?_
    exact zJw h ⟨rfl, rfl, trivial⟩
abbrev LX9_singersOfAny_4 (v : Int32) (X : zX) (x1 : Int32) (x2 : Int32) : Prop := zJ SX 0 mX9_singersOfAny (zRf v X) 4 [some (.ref 0), some (.int x1), some (.int x2)] [] X
theorem eX9_singersOfAny (v : Int32) (X : zX)  (h : LX9_singersOfAny_4 v X 0 0) : zPf SX 0 mX9_singersOfAny [.ref 0] X v := by
  refine zP_in [some (.ref 0), none, none] ⟨rfl, trivial⟩ (by decide) (Nat.le_of_ble_eq_true rfl) ?_
  refine j_iconst (v := 0) dX9_singersOfAny_0 rfl ?_
  refine j_istore_n (L2 := [some (.ref 0), some (.int 0), none]) dX9_singersOfAny_1 (by decide) (zno rfl) rfl ?_
  refine j_iconst (v := 0) dX9_singersOfAny_2 rfl ?_
  refine j_istore_n (L2 := [some (.ref 0), some (.int 0), some (.int 0)]) dX9_singersOfAny_3 (by decide) (zno rfl) rfl ?_
  exact zJw h ⟨rfl, rfl, rfl, trivial⟩
theorem bX9_singersOfAny_4 (v : Int32) (X : zX) (x1 : Int32) (x2 : Int32) (h : (((X 19 5) ≤ x2) → (x1 = v)) ∧ ((¬ ((X 19 5) ≤ x2)) → (∃ j2 : Nat, x2 = nI j2 ∧ j2 < 8 ∧ ((((X 53 j2) = 0) → (LX9_singersOfAny_4 v X x1 (x2 + 1))) ∧ ((¬ ((X 53 j2) = 0)) → (LX9_singersOfAny_4 v X (x1 ||| (zshl 1 x2)) (x2 + 1))))))) : LX9_singersOfAny_4 v X x1 x2 := by
  refine j_iload_n dX9_singersOfAny_4 rfl ?_
  refine j_aload_n dX9_singersOfAny_5 rfl ?_
  refine j_getr dX9_singersOfAny_6 fX9_26 rfl rfl ?_
  refine j_getf dX9_singersOfAny_9 fX9_107 rfl rfl ?_
  refine j_ic_ge (tgt := 36) dX9_singersOfAny_12 (by decide) (fun hc1 => ?_) (fun hc1 => ?_)
  · have h := h.1 hc1
    refine j_iload_n dX9_singersOfAny_36 rfl ?_
    refine j_iret dX9_singersOfAny_37 rfl rfl ?_
    exact ⟨by rw [h], rfl⟩
  · have h := h.2 hc1
    refine j_aload_n dX9_singersOfAny_15 rfl ?_
    refine j_getr dX9_singersOfAny_16 fX9_68 rfl rfl ?_
    refine j_iload_n dX9_singersOfAny_19 rfl ?_
    obtain ⟨j2, ej2, lj2, h⟩ := h
    refine j_iald dX9_singersOfAny_20 rfl (zin ej2 lj2 (by decide)) ?_
    rw [zcl ej2 lj2 (by decide)]
    refine j_if_eq (tgt := 30) dX9_singersOfAny_21 (by decide) (fun hc3 => ?_) (fun hc3 => ?_)
    · have h := h.1 hc3
      refine j_iinc (v := (x2 + 1)) (L2 := [some (.ref 0), some (.int x1), some (.int (x2 + 1))]) dX9_singersOfAny_30 rfl rfl (by decide) (zno rfl) rfl ?_
      refine j_goto (tgt := 4) dX9_singersOfAny_33 (by decide) ?_
      exact zJw h ⟨rfl, rfl, rfl, trivial⟩
    · have h := h.2 hc3
      refine j_iload_n dX9_singersOfAny_24 rfl ?_
      refine j_iconst (v := 1) dX9_singersOfAny_25 rfl ?_
      refine j_iload_n dX9_singersOfAny_26 rfl ?_
      refine j_ishl dX9_singersOfAny_27 ?_
      refine j_ior dX9_singersOfAny_28 ?_
      refine j_istore_n (L2 := [some (.ref 0), some (.int (x1 ||| (zshl 1 x2))), some (.int x2)]) dX9_singersOfAny_29 (by decide) (zno rfl) rfl ?_
      refine j_iinc (v := (x2 + 1)) (L2 := [some (.ref 0), some (.int (x1 ||| (zshl 1 x2))), some (.int (x2 + 1))]) dX9_singersOfAny_30 rfl rfl (by decide) (zno rfl) rfl ?_
      refine j_goto (tgt := 4) dX9_singersOfAny_33 (by decide) ?_
      exact zJw h ⟨rfl, rfl, rfl, trivial⟩
abbrev LX9_sungBy_4 (v : Int32) (X : zX) (x1 : Int32) (x2 : Int32) (x3 : Int32) : Prop := zJ SX 0 mX9_sungBy (zRf v X) 4 [some (.ref 0), some (.int x1), some (.int x2), some (.int x3)] [] X
theorem eX9_sungBy (v : Int32) (X : zX) (a1 : Int32) (h : LX9_sungBy_4 v X a1 0 0) : zPf SX 0 mX9_sungBy [.ref 0, .int a1] X v := by
  refine zP_in [some (.ref 0), some (.int a1), none, none] ⟨rfl, rfl, trivial⟩ (by decide) (Nat.le_of_ble_eq_true rfl) ?_
  refine j_iconst (v := 0) dX9_sungBy_0 rfl ?_
  refine j_istore_n (L2 := [some (.ref 0), some (.int a1), some (.int 0), none]) dX9_sungBy_1 (by decide) (zno rfl) rfl ?_
  refine j_iconst (v := 0) dX9_sungBy_2 rfl ?_
  refine j_istore_n (L2 := [some (.ref 0), some (.int a1), some (.int 0), some (.int 0)]) dX9_sungBy_3 (by decide) (zno rfl) rfl ?_
  exact zJw h ⟨rfl, rfl, rfl, rfl, trivial⟩
theorem bX9_sungBy_4 (v : Int32) (X : zX) (x1 : Int32) (x2 : Int32) (x3 : Int32) (h : (((X 19 5) ≤ x3) → (x2 = v)) ∧ ((¬ ((X 19 5) ≤ x3)) → (((¬ ((zshr x1 x3) &&& 1) = 1) → (LX9_sungBy_4 v X x1 x2 (x3 + 1))) ∧ ((((zshr x1 x3) &&& 1) = 1) → (∃ j3 : Nat, x3 = nI j3 ∧ j3 < 8 ∧ (LX9_sungBy_4 v X x1 (x2 ||| (X 53 j3)) (x3 + 1))))))) : LX9_sungBy_4 v X x1 x2 x3 := by
  refine j_iload_n dX9_sungBy_4 rfl ?_
  refine j_aload_n dX9_sungBy_5 rfl ?_
  refine j_getr dX9_sungBy_6 fX9_26 rfl rfl ?_
  refine j_getf dX9_sungBy_9 fX9_107 rfl rfl ?_
  refine j_ic_ge (tgt := 39) dX9_sungBy_12 (by decide) (fun hc1 => ?_) (fun hc1 => ?_)
  · have h := h.1 hc1
    refine j_iload_n dX9_sungBy_39 rfl ?_
    refine j_iret dX9_sungBy_40 rfl rfl ?_
    exact ⟨by rw [h], rfl⟩
  · have h := h.2 hc1
    refine j_iload_n dX9_sungBy_15 rfl ?_
    refine j_iload_n dX9_sungBy_16 rfl ?_
    refine j_ishr dX9_sungBy_17 ?_
    refine j_iconst (v := 1) dX9_sungBy_18 rfl ?_
    refine j_iand dX9_sungBy_19 ?_
    refine j_iconst (v := 1) dX9_sungBy_20 rfl ?_
    refine j_ic_ne (tgt := 33) dX9_sungBy_21 (by decide) (fun hc2 => ?_) (fun hc2 => ?_)
    · have h := h.1 hc2
      refine j_iinc (v := (x3 + 1)) (L2 := [some (.ref 0), some (.int x1), some (.int x2), some (.int (x3 + 1))]) dX9_sungBy_33 rfl rfl (by decide) (zno rfl) rfl ?_
      refine j_goto (tgt := 4) dX9_sungBy_36 (by decide) ?_
      exact zJw h ⟨rfl, rfl, rfl, rfl, trivial⟩
    · have h := h.2 hc2
      refine j_iload_n dX9_sungBy_24 rfl ?_
      refine j_aload_n dX9_sungBy_25 rfl ?_
      refine j_getr dX9_sungBy_26 fX9_68 rfl rfl ?_
      refine j_iload_n dX9_sungBy_29 rfl ?_
      obtain ⟨j3, ej3, lj3, h⟩ := h
      refine j_iald dX9_sungBy_30 rfl (zin ej3 lj3 (by decide)) ?_
      rw [zcl ej3 lj3 (by decide)]
      refine j_ior dX9_sungBy_31 ?_
      refine j_istore_n (L2 := [some (.ref 0), some (.int x1), some (.int (x2 ||| (X 53 j3))), some (.int x3)]) dX9_sungBy_32 (by decide) (zno rfl) rfl ?_
      refine j_iinc (v := (x3 + 1)) (L2 := [some (.ref 0), some (.int x1), some (.int (x2 ||| (X 53 j3))), some (.int (x3 + 1))]) dX9_sungBy_33 rfl rfl (by decide) (zno rfl) rfl ?_
      refine j_goto (tgt := 4) dX9_sungBy_36 (by decide) ?_
      exact zJw h ⟨rfl, rfl, rfl, rfl, trivial⟩
abbrev LX9_ledWhere_4 (v : Int32) (X : zX) (x1 : Int32) (x2 : Int32) (x3 : Int32) : Prop := zJ SX 0 mX9_ledWhere (zRf v X) 4 [some (.ref 0), some (.int x1), some (.int x2), some (.int x3)] [] X
theorem eX9_ledWhere (v : Int32) (X : zX) (a1 : Int32) (h : LX9_ledWhere_4 v X a1 0 0) : zPf SX 0 mX9_ledWhere [.ref 0, .int a1] X v := by
  refine zP_in [some (.ref 0), some (.int a1), none, none] ⟨rfl, rfl, trivial⟩ (by decide) (Nat.le_of_ble_eq_true rfl) ?_
  refine j_iconst (v := 0) dX9_ledWhere_0 rfl ?_
  refine j_istore_n (L2 := [some (.ref 0), some (.int a1), some (.int 0), none]) dX9_ledWhere_1 (by decide) (zno rfl) rfl ?_
  refine j_iconst (v := 0) dX9_ledWhere_2 rfl ?_
  refine j_istore_n (L2 := [some (.ref 0), some (.int a1), some (.int 0), some (.int 0)]) dX9_ledWhere_3 (by decide) (zno rfl) rfl ?_
  exact zJw h ⟨rfl, rfl, rfl, rfl, trivial⟩
theorem bX9_ledWhere_4 (v : Int32) (X : zX) (x1 : Int32) (x2 : Int32) (x3 : Int32) (h : (((X 4 10) ≤ x3) → (x2 = v)) ∧ ((¬ ((X 4 10) ≤ x3)) → (((¬ ((zshr x1 x3) &&& 1) = 1) → (LX9_ledWhere_4 v X x1 x2 (x3 + 1))) ∧ ((((zshr x1 x3) &&& 1) = 1) → (∃ j3 : Nat, x3 = nI j3 ∧ j3 < 24 ∧ (((¬ ((X 56 j3) &&& (x1 ^^^ (-1))) = 0) → (LX9_ledWhere_4 v X x1 x2 (x3 + 1))) ∧ ((((X 56 j3) &&& (x1 ^^^ (-1))) = 0) → (LX9_ledWhere_4 v X x1 (x2 ||| (zshl 1 x3)) (x3 + 1))))))))) : LX9_ledWhere_4 v X x1 x2 x3 := by
  refine j_iload_n dX9_ledWhere_4 rfl ?_
  refine j_aload_n dX9_ledWhere_5 rfl ?_
  refine j_getr dX9_ledWhere_6 fX9_19 rfl rfl ?_
  refine j_getf dX9_ledWhere_9 fX9_108 rfl rfl ?_
  refine j_ic_ge (tgt := 52) dX9_ledWhere_12 (by decide) (fun hc1 => ?_) (fun hc1 => ?_)
  · have h := h.1 hc1
    refine j_iload_n dX9_ledWhere_52 rfl ?_
    refine j_iret dX9_ledWhere_53 rfl rfl ?_
    exact ⟨by rw [h], rfl⟩
  · have h := h.2 hc1
    refine j_iload_n dX9_ledWhere_15 rfl ?_
    refine j_iload_n dX9_ledWhere_16 rfl ?_
    refine j_ishr dX9_ledWhere_17 ?_
    refine j_iconst (v := 1) dX9_ledWhere_18 rfl ?_
    refine j_iand dX9_ledWhere_19 ?_
    refine j_iconst (v := 1) dX9_ledWhere_20 rfl ?_
    refine j_ic_ne (tgt := 46) dX9_ledWhere_21 (by decide) (fun hc2 => ?_) (fun hc2 => ?_)
    · have h := h.1 hc2
      refine j_iinc (v := (x3 + 1)) (L2 := [some (.ref 0), some (.int x1), some (.int x2), some (.int (x3 + 1))]) dX9_ledWhere_46 rfl rfl (by decide) (zno rfl) rfl ?_
      refine j_goto (tgt := 4) dX9_ledWhere_49 (by decide) ?_
      exact zJw h ⟨rfl, rfl, rfl, rfl, trivial⟩
    · have h := h.2 hc2
      refine j_aload_n dX9_ledWhere_24 rfl ?_
      refine j_getr dX9_ledWhere_25 fX9_75 rfl rfl ?_
      refine j_getr dX9_ledWhere_28 fX9_212 rfl rfl ?_
      refine j_iload_n dX9_ledWhere_31 rfl ?_
      obtain ⟨j3, ej3, lj3, h⟩ := h
      refine j_iald dX9_ledWhere_32 rfl (zin ej3 lj3 (by decide)) ?_
      rw [zcl ej3 lj3 (by decide)]
      refine j_iload_n dX9_ledWhere_33 rfl ?_
      refine j_iconst (v := (-1)) dX9_ledWhere_34 rfl ?_
      refine j_ixor dX9_ledWhere_35 ?_
      refine j_iand dX9_ledWhere_36 ?_
      refine j_if_ne (tgt := 46) dX9_ledWhere_37 (by decide) (fun hc4 => ?_) (fun hc4 => ?_)
      · have h := h.1 hc4
        refine j_iinc (v := (x3 + 1)) (L2 := [some (.ref 0), some (.int x1), some (.int x2), some (.int (x3 + 1))]) dX9_ledWhere_46 rfl rfl (by decide) (zno rfl) rfl ?_
        refine j_goto (tgt := 4) dX9_ledWhere_49 (by decide) ?_
        exact zJw h ⟨rfl, rfl, rfl, rfl, trivial⟩
      · have h := h.2 hc4
        refine j_iload_n dX9_ledWhere_40 rfl ?_
        refine j_iconst (v := 1) dX9_ledWhere_41 rfl ?_
        refine j_iload_n dX9_ledWhere_42 rfl ?_
        refine j_ishl dX9_ledWhere_43 ?_
        refine j_ior dX9_ledWhere_44 ?_
        refine j_istore_n (L2 := [some (.ref 0), some (.int x1), some (.int (x2 ||| (zshl 1 x3))), some (.int x3)]) dX9_ledWhere_45 (by decide) (zno rfl) rfl ?_
        refine j_iinc (v := (x3 + 1)) (L2 := [some (.ref 0), some (.int x1), some (.int (x2 ||| (zshl 1 x3))), some (.int (x3 + 1))]) dX9_ledWhere_46 rfl rfl (by decide) (zno rfl) rfl ?_
        refine j_goto (tgt := 4) dX9_ledWhere_49 (by decide) ?_
        exact zJw h ⟨rfl, rfl, rfl, rfl, trivial⟩
theorem eX9_ledBy (P : Int32 → zX → Prop) (X : zX) (a1 : Int32) (h : ∃ Qr1 : zX → Prop, zPw SX 2 mX9_hearVoices [.ref 0] X Qr1 ∧ ∀ M2 : zX, Qr1 M2 → (∃ r3 : Int32, zPf SX 0 mX9_sungBy [.ref 0, .int a1] M2 r3 ∧ (∃ r4 : Int32, zPf SX 0 mX9_ledWhere [.ref 0, .int r3] M2 r4 ∧ (P r4 M2)))) : zPi SX 3 mX9_ledBy [.ref 0, .int a1] X P := by
  refine zP_in [some (.ref 0), some (.int a1)] ⟨rfl, rfl, trivial⟩ (by decide) (Nat.le_of_ble_eq_true rfl) ?_
  refine j_aload_n dX9_ledBy_0 rfl ?_
  obtain ⟨_, hc, h⟩ := h
  refine j_cvw (lc := 2) (as := []) dX9_ledBy_1 iX9_hearVoices vX9_hearVoices kX9_253 (by decide) rfl rfl rfl rfl (Nat.zero_le _) hc (fun M2 hr => ?_)
  have h := h _ hr
  refine j_aload_n dX9_ledBy_4 rfl ?_
  refine j_aload_n dX9_ledBy_5 rfl ?_
  refine j_iload_n dX9_ledBy_6 rfl ?_
  obtain ⟨r3, hc, h⟩ := h
  refine j_cvf (lc := 0) (as := [.int a1]) dX9_ledBy_7 iX9_sungBy vX9_sungBy kX9_259 (by decide) rfl rfl rfl rfl (by simp [Value.category]) hc ?_
  obtain ⟨r4, hc, h⟩ := h
  refine j_cvf (lc := 0) (as := [.int r3]) dX9_ledBy_10 iX9_ledWhere vX9_ledWhere kX9_262 (by decide) rfl rfl rfl rfl (Nat.zero_le _) hc ?_
  refine j_iret dX9_ledBy_13 rfl rfl ?_
  exact ⟨_, rfl, h⟩
theorem eX9_sweepFrom (P : zX → Prop) (X : zX) (a1 : Int32) (a2 : Int32) (h : ∃ r1 : Int32, zPf SX 1 mX1_wetPlaces [.ref 1, .ref 54] X r1 ∧ (∃ Qr2 : zX → Prop, zPw SX 3 mX8_sweep [.ref 28, .int a1, .int a2, .int r1, .int (X 54 5)] X Qr2 ∧ ∀ M3 : zX, Qr2 M3 → (P M3))) : zPw SX 4 mX9_sweepFrom [.ref 0, .int a1, .int a2] X P := by
  refine zP_in [some (.ref 0), some (.int a1), some (.int a2)] ⟨rfl, rfl, rfl, trivial⟩ (by decide) (Nat.le_of_ble_eq_true rfl) ?_
  refine j_aload_n dX9_sweepFrom_0 rfl ?_
  refine j_getr dX9_sweepFrom_1 fX9_51 rfl rfl ?_
  refine j_iload_n dX9_sweepFrom_4 rfl ?_
  refine j_iload_n dX9_sweepFrom_5 rfl ?_
  refine j_aload_n dX9_sweepFrom_6 rfl ?_
  refine j_getr dX9_sweepFrom_7 fX9_10 rfl rfl ?_
  refine j_aload_n dX9_sweepFrom_10 rfl ?_
  refine j_getr dX9_sweepFrom_11 fX9_75 rfl rfl ?_
  obtain ⟨r1, hc, h⟩ := h
  refine j_cvf (lc := 1) (as := [.ref 54]) dX9_sweepFrom_14 iX1_wetPlaces vX1_wetPlaces kX9_335 (by decide) rfl rfl rfl rfl (by simp [Value.category]) hc ?_
  refine j_aload_n dX9_sweepFrom_17 rfl ?_
  refine j_getr dX9_sweepFrom_18 fX9_75 rfl rfl ?_
  refine j_getf dX9_sweepFrom_21 fX9_206 rfl rfl ?_
  obtain ⟨_, hc, h⟩ := h
  refine j_cvw (lc := 3) (as := [.int a1, .int a2, .int r1, .int (X 54 5)]) dX9_sweepFrom_24 iX8_sweep vX8_sweep kX9_338 (by decide) rfl rfl rfl rfl (Nat.zero_le _) hc (fun M3 hr => ?_)
  have h := h _ hr
  refine j_vret dX9_sweepFrom_27 rfl ?_
  exact ⟨rfl, h⟩
theorem eX9_daysBetween (P : Int32 → zX → Prop) (X : zX) (a1 : Int32) (a2 : Int32) (a3 : Int32) (h : ((¬ a1 = a2) → (∃ j2 : Nat, a1 = nI j2 ∧ j2 < 12 ∧ (((((X 18 j2) &&& a3) = 0) → (P (-4) X)) ∧ ((¬ (((X 18 j2) &&& a3) = 0)) → (∃ j4 : Nat, a2 = nI j4 ∧ j4 < 12 ∧ (((¬ ((X 18 j4) &&& a3) = 0) → (∃ Qr6 : zX → Prop, zPw SX 4 mX9_sweepFrom [.ref 0, .int a1, .int a3] X Qr6 ∧ ∀ M7 : zX, Qr6 M7 → (∃ j8 : Nat, a2 = nI j8 ∧ j8 < 12 ∧ (P (M7 41 j8) M7)))) ∧ ((((X 18 j4) &&& a3) = 0) → (P (-4) X)))))))) ∧ ((a1 = a2) → (P 0 X))) : zPi SX 5 mX9_daysBetween [.ref 0, .int a1, .int a2, .int a3] X P := by
  refine zP_in [some (.ref 0), some (.int a1), some (.int a2), some (.int a3)] ⟨rfl, rfl, rfl, rfl, trivial⟩ (by decide) (Nat.le_of_ble_eq_true rfl) ?_
  refine j_iload_n dX9_daysBetween_0 rfl ?_
  refine j_iload_n dX9_daysBetween_1 rfl ?_
  refine j_ic_ne (tgt := 7) dX9_daysBetween_2 (by decide) (fun hc1 => ?_) (fun hc1 => ?_)
  · have h := h.1 hc1
    refine j_aload_n dX9_daysBetween_7 rfl ?_
    refine j_getr dX9_daysBetween_8 fX9_19 rfl rfl ?_
    refine j_getr dX9_daysBetween_11 fX9_142 rfl rfl ?_
    refine j_iload_n dX9_daysBetween_14 rfl ?_
    obtain ⟨j2, ej2, lj2, h⟩ := h
    refine j_iald dX9_daysBetween_15 rfl (zin ej2 lj2 (by decide)) ?_
    rw [zcl ej2 lj2 (by decide)]
    refine j_iload_n dX9_daysBetween_16 rfl ?_
    refine j_iand dX9_daysBetween_17 ?_
    refine j_if_eq (tgt := 35) dX9_daysBetween_18 (by decide) (fun hc3 => ?_) (fun hc3 => ?_)
    · have h := h.1 hc3
      refine j_bipush (v := (-4)) dX9_daysBetween_35 rfl ?_
      refine j_iret dX9_daysBetween_37 rfl rfl ?_
      exact ⟨_, rfl, h⟩
    · have h := h.2 hc3
      refine j_aload_n dX9_daysBetween_21 rfl ?_
      refine j_getr dX9_daysBetween_22 fX9_19 rfl rfl ?_
      refine j_getr dX9_daysBetween_25 fX9_142 rfl rfl ?_
      refine j_iload_n dX9_daysBetween_28 rfl ?_
      obtain ⟨j4, ej4, lj4, h⟩ := h
      refine j_iald dX9_daysBetween_29 rfl (zin ej4 lj4 (by decide)) ?_
      rw [zcl ej4 lj4 (by decide)]
      refine j_iload_n dX9_daysBetween_30 rfl ?_
      refine j_iand dX9_daysBetween_31 ?_
      refine j_if_ne (tgt := 38) dX9_daysBetween_32 (by decide) (fun hc5 => ?_) (fun hc5 => ?_)
      · have h := h.1 hc5
        refine j_aload_n dX9_daysBetween_38 rfl ?_
        refine j_iload_n dX9_daysBetween_39 rfl ?_
        refine j_iload_n dX9_daysBetween_40 rfl ?_
        obtain ⟨_, hc, h⟩ := h
        refine j_cvw (lc := 4) (as := [.int a1, .int a3]) dX9_daysBetween_41 iX9_sweepFrom vX9_sweepFrom kX9_246 (by decide) rfl rfl rfl rfl (Nat.zero_le _) hc (fun M7 hr => ?_)
        have h := h _ hr
        refine j_aload_n dX9_daysBetween_44 rfl ?_
        refine j_getr dX9_daysBetween_45 fX9_51 rfl rfl ?_
        refine j_getr dX9_daysBetween_48 fX9_250 rfl rfl ?_
        refine j_iload_n dX9_daysBetween_51 rfl ?_
        obtain ⟨j8, ej8, lj8, h⟩ := h
        refine j_iald dX9_daysBetween_52 rfl (zin ej8 lj8 (by decide)) ?_
        rw [zcl ej8 lj8 (by decide)]
        refine j_iret dX9_daysBetween_53 rfl rfl ?_
        exact ⟨_, rfl, h⟩
      · have h := h.2 hc5
        refine j_bipush (v := (-4)) dX9_daysBetween_35 rfl ?_
        refine j_iret dX9_daysBetween_37 rfl rfl ?_
        exact ⟨_, rfl, h⟩
  · have h := h.2 hc1
    refine j_iconst (v := 0) dX9_daysBetween_5 rfl ?_
    refine j_iret dX9_daysBetween_6 rfl rfl ?_
    exact ⟨_, rfl, h⟩
theorem eX9_stepFrom (v : Int32) (X : zX) (a1 : Int32) (a2 : Int32) (a3 : Int32) (h : ∃ j1 : Nat, a1 = nI j1 ∧ j1 < 4 ∧ (∃ j2 : Nat, a2 = nI j2 ∧ j2 < 24 ∧ (∃ j3 : Nat, (X (12 + j1) j2) = nI j3 ∧ j3 < 24 ∧ (∃ j4 : Nat, (X 6 j3) = nI j4 ∧ j4 < 12 ∧ (∃ j5 : Nat, a1 = nI j5 ∧ j5 < 4 ∧ (∃ j6 : Nat, (a2 + a3) = nI j6 ∧ j6 < 24 ∧ (∃ j7 : Nat, (X (12 + j5) j6) = nI j7 ∧ j7 < 24 ∧ (∃ j8 : Nat, (X 6 j7) = nI j8 ∧ j8 < 12 ∧ (((¬ (X 2 j8) = (X 2 j4)) → ((((X 2 j8) ≤ (X 2 j4)) → (0 = v)) ∧ ((¬ ((X 2 j8) ≤ (X 2 j4))) → (1 = v)))) ∧ (((X 2 j8) = (X 2 j4)) → (2 = v))))))))))) : zPf SX 0 mX9_stepFrom [.ref 0, .int a1, .int a2, .int a3] X v := by
  refine zP_in [some (.ref 0), some (.int a1), some (.int a2), some (.int a3), none, none] ⟨rfl, rfl, rfl, rfl, trivial⟩ (by decide) (Nat.le_of_ble_eq_true rfl) ?_
  refine j_aload_n dX9_stepFrom_0 rfl ?_
  refine j_getr dX9_stepFrom_1 fX9_10 rfl rfl ?_
  refine j_getr dX9_stepFrom_4 fX9_129 rfl rfl ?_
  refine j_aload_n dX9_stepFrom_7 rfl ?_
  refine j_getr dX9_stepFrom_8 fX9_19 rfl rfl ?_
  refine j_getr dX9_stepFrom_11 fX9_151 rfl rfl ?_
  refine j_aload_n dX9_stepFrom_14 rfl ?_
  refine j_getr dX9_stepFrom_15 fX9_19 rfl rfl ?_
  refine j_getr dX9_stepFrom_18 fX9_342 rfl rfl ?_
  refine j_iload_n dX9_stepFrom_21 rfl ?_
  obtain ⟨j1, ej1, lj1, h⟩ := h
  refine j_aald (r := (12 + j1)) 4 (by decide) dX9_stepFrom_22 rfl (zin ej1 lj1 (by decide)) (by rw [zcl ej1 lj1 (by decide)]; exact if_pos lj1) ?_
  refine j_iload_n dX9_stepFrom_23 rfl ?_
  obtain ⟨j2, ej2, lj2, h⟩ := h
  refine j_iald dX9_stepFrom_24 (sx_order lj1) (zin ej2 lj2 (by decide)) ?_
  rw [zcl ej2 lj2 (by decide)]
  obtain ⟨j3, ej3, lj3, h⟩ := h
  refine j_iald dX9_stepFrom_25 rfl (zin ej3 lj3 (by decide)) ?_
  rw [zcl ej3 lj3 (by decide)]
  obtain ⟨j4, ej4, lj4, h⟩ := h
  refine j_iald dX9_stepFrom_26 rfl (zin ej4 lj4 (by decide)) ?_
  rw [zcl ej4 lj4 (by decide)]
  refine j_istore (L2 := [some (.ref 0), some (.int a1), some (.int a2), some (.int a3), some (.int (X 2 j4)), none]) dX9_stepFrom_27 (by decide) (zno rfl) rfl ?_
  refine j_aload_n dX9_stepFrom_29 rfl ?_
  refine j_getr dX9_stepFrom_30 fX9_10 rfl rfl ?_
  refine j_getr dX9_stepFrom_33 fX9_129 rfl rfl ?_
  refine j_aload_n dX9_stepFrom_36 rfl ?_
  refine j_getr dX9_stepFrom_37 fX9_19 rfl rfl ?_
  refine j_getr dX9_stepFrom_40 fX9_151 rfl rfl ?_
  refine j_aload_n dX9_stepFrom_43 rfl ?_
  refine j_getr dX9_stepFrom_44 fX9_19 rfl rfl ?_
  refine j_getr dX9_stepFrom_47 fX9_342 rfl rfl ?_
  refine j_iload_n dX9_stepFrom_50 rfl ?_
  obtain ⟨j5, ej5, lj5, h⟩ := h
  refine j_aald (r := (12 + j5)) 4 (by decide) dX9_stepFrom_51 rfl (zin ej5 lj5 (by decide)) (by rw [zcl ej5 lj5 (by decide)]; exact if_pos lj5) ?_
  refine j_iload_n dX9_stepFrom_52 rfl ?_
  refine j_iload_n dX9_stepFrom_53 rfl ?_
  refine j_iadd dX9_stepFrom_54 ?_
  obtain ⟨j6, ej6, lj6, h⟩ := h
  refine j_iald dX9_stepFrom_55 (sx_order lj5) (zin ej6 lj6 (by decide)) ?_
  rw [zcl ej6 lj6 (by decide)]
  obtain ⟨j7, ej7, lj7, h⟩ := h
  refine j_iald dX9_stepFrom_56 rfl (zin ej7 lj7 (by decide)) ?_
  rw [zcl ej7 lj7 (by decide)]
  obtain ⟨j8, ej8, lj8, h⟩ := h
  refine j_iald dX9_stepFrom_57 rfl (zin ej8 lj8 (by decide)) ?_
  rw [zcl ej8 lj8 (by decide)]
  refine j_istore (L2 := [some (.ref 0), some (.int a1), some (.int a2), some (.int a3), some (.int (X 2 j4)), some (.int (X 2 j8))]) dX9_stepFrom_58 (by decide) (zno rfl) rfl ?_
  refine j_iload dX9_stepFrom_60 rfl ?_
  refine j_iload dX9_stepFrom_62 rfl ?_
  refine j_ic_ne (tgt := 69) dX9_stepFrom_64 (by decide) (fun hc9 => ?_) (fun hc9 => ?_)
  · have h := h.1 hc9
    refine j_iload dX9_stepFrom_69 rfl ?_
    refine j_iload dX9_stepFrom_71 rfl ?_
    refine j_ic_le (tgt := 80) dX9_stepFrom_73 (by decide) (fun hc10 => ?_) (fun hc10 => ?_)
    · have h := h.1 hc10
      refine j_iconst (v := 0) dX9_stepFrom_80 rfl ?_
      refine j_iret dX9_stepFrom_81 rfl rfl ?_
      exact ⟨by rw [h], rfl⟩
    · have h := h.2 hc10
      refine j_iconst (v := 1) dX9_stepFrom_76 rfl ?_
      refine j_goto (tgt := 81) dX9_stepFrom_77 (by decide) ?_
      refine j_iret dX9_stepFrom_81 rfl rfl ?_
      exact ⟨by rw [h], rfl⟩
  · have h := h.2 hc9
    refine j_iconst (v := 2) dX9_stepFrom_67 rfl ?_
    refine j_iret dX9_stepFrom_68 rfl rfl ?_
    exact ⟨by rw [h], rfl⟩
abbrev LX9_pieceFrom_47 (v : Int32) (X : zX) (x2 : Int32) (x3 : Int32) (x4 : Int32) (x5 : Int32) (x6 : Int32) : Prop := zJ SX 1 mX9_pieceFrom (zRf v X) 47 [some (.ref 0), none, some (.int x2), some (.int x3), some (.int x4), some (.int x5), some (.int x6)] [] X
theorem eX9_pieceFrom (v : Int32) (X : zX) (a1 : Int32) (a2 : Int32) (h : ∃ j1 : Nat, a1 = nI j1 ∧ j1 < 24 ∧ (∃ j2 : Nat, a1 = nI j2 ∧ j2 < 24 ∧ (∃ j3 : Nat, (X 5 j1) = nI j3 ∧ j3 < 4 ∧ (((((X 10 j2) + a2) < (X 16 j3)) → (LX9_pieceFrom_47 v X a2 (X 5 j1) (X 10 j2) 0 (X 10 j2))) ∧ ((¬ (((X 10 j2) + a2) < (X 16 j3))) → ((-4) = v)))))) : zPf SX 1 mX9_pieceFrom [.ref 0, .int a1, .int a2] X v := by
  refine zP_in [some (.ref 0), some (.int a1), some (.int a2), none, none, none, none] ⟨rfl, rfl, rfl, trivial⟩ (by decide) (Nat.le_of_ble_eq_true rfl) ?_
  refine j_aload_n dX9_pieceFrom_0 rfl ?_
  refine j_getr dX9_pieceFrom_1 fX9_19 rfl rfl ?_
  refine j_getr dX9_pieceFrom_4 fX9_148 rfl rfl ?_
  refine j_iload_n dX9_pieceFrom_7 rfl ?_
  obtain ⟨j1, ej1, lj1, h⟩ := h
  refine j_iald dX9_pieceFrom_8 rfl (zin ej1 lj1 (by decide)) ?_
  rw [zcl ej1 lj1 (by decide)]
  refine j_istore_n (L2 := [some (.ref 0), some (.int a1), some (.int a2), some (.int (X 5 j1)), none, none, none]) dX9_pieceFrom_9 (by decide) (zno rfl) rfl ?_
  refine j_aload_n dX9_pieceFrom_10 rfl ?_
  refine j_getr dX9_pieceFrom_11 fX9_19 rfl rfl ?_
  refine j_getr dX9_pieceFrom_14 fX9_163 rfl rfl ?_
  refine j_iload_n dX9_pieceFrom_17 rfl ?_
  obtain ⟨j2, ej2, lj2, h⟩ := h
  refine j_iald dX9_pieceFrom_18 rfl (zin ej2 lj2 (by decide)) ?_
  rw [zcl ej2 lj2 (by decide)]
  refine j_istore (L2 := [some (.ref 0), some (.int a1), some (.int a2), some (.int (X 5 j1)), some (.int (X 10 j2)), none, none]) dX9_pieceFrom_19 (by decide) (zno rfl) rfl ?_
  refine j_iload dX9_pieceFrom_21 rfl ?_
  refine j_iload_n dX9_pieceFrom_23 rfl ?_
  refine j_iadd dX9_pieceFrom_24 ?_
  refine j_aload_n dX9_pieceFrom_25 rfl ?_
  refine j_getr dX9_pieceFrom_26 fX9_19 rfl rfl ?_
  refine j_getr dX9_pieceFrom_29 fX9_95 rfl rfl ?_
  refine j_iload_n dX9_pieceFrom_32 rfl ?_
  obtain ⟨j3, ej3, lj3, h⟩ := h
  refine j_iald dX9_pieceFrom_33 rfl (zin ej3 lj3 (by decide)) ?_
  rw [zcl ej3 lj3 (by decide)]
  refine j_ic_lt (tgt := 40) dX9_pieceFrom_34 (by decide) (fun hc4 => ?_) (fun hc4 => ?_)
  · have h := h.1 hc4
    refine j_iconst (v := 0) dX9_pieceFrom_40 rfl ?_
    refine j_istore (L2 := [some (.ref 0), some (.int a1), some (.int a2), some (.int (X 5 j1)), some (.int (X 10 j2)), some (.int 0), none]) dX9_pieceFrom_41 (by decide) (zno rfl) rfl ?_
    refine j_iload dX9_pieceFrom_43 rfl ?_
    refine j_istore (L2 := [some (.ref 0), some (.int a1), some (.int a2), some (.int (X 5 j1)), some (.int (X 10 j2)), some (.int 0), some (.int (X 10 j2))]) dX9_pieceFrom_45 (by decide) (zno rfl) rfl ?_
    exact zJw h ⟨rfl, rfl, rfl, rfl, rfl, rfl, trivial⟩
  · have h := h.2 hc4
    refine j_bipush (v := (-4)) dX9_pieceFrom_37 rfl ?_
    refine j_iret dX9_pieceFrom_39 rfl rfl ?_
    exact ⟨by rw [h], rfl⟩
theorem bX9_pieceFrom_47 (v : Int32) (X : zX) (x2 : Int32) (x3 : Int32) (x4 : Int32) (x5 : Int32) (x6 : Int32) (h : (((x4 + x2) ≤ x6) → (x5 = v)) ∧ ((¬ ((x4 + x2) ≤ x6)) → (∃ r6 : Int32, zPf SX 0 mX9_stepFrom [.ref 0, .int x3, .int x6, .int 1] X r6 ∧ (LX9_pieceFrom_47 v X x2 x3 x4 ((x5 * 3) + r6) (x6 + 1))))) : LX9_pieceFrom_47 v X x2 x3 x4 x5 x6 := by
  refine j_iload dX9_pieceFrom_47 rfl ?_
  refine j_iload dX9_pieceFrom_49 rfl ?_
  refine j_iload_n dX9_pieceFrom_51 rfl ?_
  refine j_iadd dX9_pieceFrom_52 ?_
  refine j_ic_ge (tgt := 77) dX9_pieceFrom_53 (by decide) (fun hc5 => ?_) (fun hc5 => ?_)
  · have h := h.1 hc5
    refine j_iload dX9_pieceFrom_77 rfl ?_
    refine j_iret dX9_pieceFrom_79 rfl rfl ?_
    exact ⟨by rw [h], rfl⟩
  · have h := h.2 hc5
    refine j_iload dX9_pieceFrom_56 rfl ?_
    refine j_iconst (v := 3) dX9_pieceFrom_58 rfl ?_
    refine j_imul dX9_pieceFrom_59 ?_
    refine j_aload_n dX9_pieceFrom_60 rfl ?_
    refine j_iload_n dX9_pieceFrom_61 rfl ?_
    refine j_iload dX9_pieceFrom_62 rfl ?_
    refine j_iconst (v := 1) dX9_pieceFrom_64 rfl ?_
    obtain ⟨r6, hc, h⟩ := h
    refine j_cvf (lc := 0) (as := [.int x3, .int x6, .int 1]) dX9_pieceFrom_65 iX9_stepFrom vX9_stepFrom kX9_271 (by decide) rfl rfl rfl rfl (by simp [Value.category]) hc ?_
    refine j_iadd dX9_pieceFrom_68 ?_
    refine j_istore (L2 := [some (.ref 0), none, some (.int x2), some (.int x3), some (.int x4), some (.int ((x5 * 3) + r6)), some (.int x6)]) dX9_pieceFrom_69 (by decide) (zno rfl) rfl ?_
    refine j_iinc (v := (x6 + 1)) (L2 := [some (.ref 0), none, some (.int x2), some (.int x3), some (.int x4), some (.int ((x5 * 3) + r6)), some (.int (x6 + 1))]) dX9_pieceFrom_71 rfl rfl (by decide) (zno rfl) rfl ?_
    refine j_goto (tgt := 47) dX9_pieceFrom_74 (by decide) ?_
    exact zJw h ⟨rfl, rfl, rfl, rfl, rfl, rfl, trivial⟩
