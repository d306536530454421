abbrev LX10_soon_26 (v : Int32) (X : zX) (x1 : Int32) (x2 : Int32) (x3 : Int32) (x4 : Int32) (x5 : Int32) : Prop := zJ SY 2 mX10_soon (zRf v X) 26 [some (.ref 0), some (.int x1), some (.int x2), some (.int x3), some (.int x4), some (.int x5), none] [] X
theorem eX10_soon (v : Int32) (X : zX) (a1 : Int32) (h : ∃ r1 : Int32, zPf SY 0 mX10_in [.long a1.toInt64, .long 0, .long 2] X r1 ∧ (((¬ r1 = 0) → (LX10_soon_26 v X a1 (-4) (-4) 0 0)) ∧ ((r1 = 0) → ((-1) = v)))) : zPf SY 2 mX10_soon [.ref 0, .int a1] X v := by
  refine zP_in [some (.ref 0), some (.int a1), none, none, none, none, none] ⟨rfl, rfl, trivial⟩ (by decide) (Nat.le_of_ble_eq_true rfl) ?_
  refine j_iload_n dX10_soon_0 rfl ?_
  refine j_i2l dX10_soon_1 ?_
  refine j_lconst (v := 0) dX10_soon_2 rfl ?_
  refine j_ldc2 (v := 2) dX10_soon_3 qX10_257 ?_
  obtain ⟨r1, hc, h⟩ := h
  refine j_csf (lc := 0) (as := [.long a1.toInt64, .long 0, .long 2]) dX10_soon_6 iX10_in sX10_in kX10_102 (by decide) rfl rfl (Nat.zero_le _) hc ?_
  refine j_if_ne (tgt := 14) dX10_soon_9 (by decide) (fun hc2 => ?_) (fun hc2 => ?_)
  · have h := h.1 hc2
    refine j_bipush (v := (-4)) dX10_soon_14 rfl ?_
    refine j_istore_n (L2 := [some (.ref 0), some (.int a1), some (.int (-4)), none, none, none, none]) dX10_soon_16 (by decide) (zno rfl) rfl ?_
    refine j_bipush (v := (-4)) dX10_soon_17 rfl ?_
    refine j_istore_n (L2 := [some (.ref 0), some (.int a1), some (.int (-4)), some (.int (-4)), none, none, none]) dX10_soon_19 (by decide) (zno rfl) rfl ?_
    refine j_iconst (v := 0) dX10_soon_20 rfl ?_
    refine j_istore (L2 := [some (.ref 0), some (.int a1), some (.int (-4)), some (.int (-4)), some (.int 0), none, none]) dX10_soon_21 (by decide) (zno rfl) rfl ?_
    refine j_iconst (v := 0) dX10_soon_23 rfl ?_
    refine j_istore (L2 := [some (.ref 0), some (.int a1), some (.int (-4)), some (.int (-4)), some (.int 0), some (.int 0), none]) dX10_soon_24 (by decide) (zno rfl) rfl ?_
    exact zJw h ⟨rfl, rfl, rfl, rfl, rfl, rfl, trivial⟩
  · have h := h.2 hc2
    refine j_iconst (v := (-1)) dX10_soon_12 rfl ?_
    refine j_iret dX10_soon_13 rfl rfl ?_
    exact ⟨by rw [h], rfl⟩
theorem bX10_soon_26 (v : Int32) (X : zX) (x1 : Int32) (x2 : Int32) (x3 : Int32) (x4 : Int32) (x5 : Int32) (h : (((X 0 3) ≤ x5) → (((¬ x1 = 0) → (((¬ x1 = 1) → (x4 = v)) ∧ ((x1 = 1) → (x3 = v)))) ∧ ((x1 = 0) → (x2 = v)))) ∧ ((¬ ((X 0 3) ≤ x5)) → (∃ r6 : Int32, zPf SY 1 mX10_headsOf [.ref 0, .int x5] X r6 ∧ (((x2 = (-4)) → (((x3 = (-4)) → (((¬ r6 = 0) → (LX10_soon_26 v X x1 x5 r6 (x4 + 0) (x5 + 1))) ∧ ((r6 = 0) → (LX10_soon_26 v X x1 x5 r6 (x4 + 1) (x5 + 1))))) ∧ ((¬ (x3 = (-4))) → (((x3 ≤ r6) → (((¬ r6 = 0) → (LX10_soon_26 v X x1 x5 x3 (x4 + 0) (x5 + 1))) ∧ ((r6 = 0) → (LX10_soon_26 v X x1 x5 x3 (x4 + 1) (x5 + 1))))) ∧ ((¬ (x3 ≤ r6)) → (((¬ r6 = 0) → (LX10_soon_26 v X x1 x5 r6 (x4 + 0) (x5 + 1))) ∧ ((r6 = 0) → (LX10_soon_26 v X x1 x5 r6 (x4 + 1) (x5 + 1))))))))) ∧ ((¬ (x2 = (-4))) → (((x3 ≤ r6) → (((x3 = (-4)) → (((¬ r6 = 0) → (LX10_soon_26 v X x1 x2 r6 (x4 + 0) (x5 + 1))) ∧ ((r6 = 0) → (LX10_soon_26 v X x1 x2 r6 (x4 + 1) (x5 + 1))))) ∧ ((¬ (x3 = (-4))) → (((¬ r6 = 0) → (LX10_soon_26 v X x1 x2 x3 (x4 + 0) (x5 + 1))) ∧ ((r6 = 0) → (LX10_soon_26 v X x1 x2 x3 (x4 + 1) (x5 + 1))))))) ∧ ((¬ (x3 ≤ r6)) → (((x3 = (-4)) → (((¬ r6 = 0) → (LX10_soon_26 v X x1 x5 r6 (x4 + 0) (x5 + 1))) ∧ ((r6 = 0) → (LX10_soon_26 v X x1 x5 r6 (x4 + 1) (x5 + 1))))) ∧ ((¬ (x3 = (-4))) → (((¬ r6 = 0) → (LX10_soon_26 v X x1 x5 r6 (x4 + 0) (x5 + 1))) ∧ ((r6 = 0) → (LX10_soon_26 v X x1 x5 r6 (x4 + 1) (x5 + 1))))))))))))) : LX10_soon_26 v X x1 x2 x3 x4 x5 := by
  refine j_iload dX10_soon_26 rfl ?_
  refine j_aload_n dX10_soon_28 rfl ?_
  refine j_getf dX10_soon_29 fX10_106 rfl rfl ?_
  refine j_ic_ge (tgt := 102) dX10_soon_32 (by decide) (fun hc3 => ?_) (fun hc3 => ?_)
  · have h := h.1 hc3
    refine j_iload_n dX10_soon_102 rfl ?_
    refine j_if_ne (tgt := 110) dX10_soon_103 (by decide) (fun hc4 => ?_) (fun hc4 => ?_)
    · have h := h.1 hc4
      refine j_iload_n dX10_soon_110 rfl ?_
      refine j_iconst (v := 1) dX10_soon_111 rfl ?_
      refine j_ic_ne (tgt := 119) dX10_soon_112 (by decide) (fun hc5 => ?_) (fun hc5 => ?_)
      · have h := h.1 hc5
        refine j_iload dX10_soon_119 rfl ?_
        refine j_iret dX10_soon_121 rfl rfl ?_
        exact ⟨by rw [h], rfl⟩
      · have h := h.2 hc5
        refine j_iload_n dX10_soon_115 rfl ?_
        refine j_goto (tgt := 121) dX10_soon_116 (by decide) ?_
        refine j_iret dX10_soon_121 rfl rfl ?_
        exact ⟨by rw [h], rfl⟩
    · have h := h.2 hc4
      refine j_iload_n dX10_soon_106 rfl ?_
      refine j_goto (tgt := 121) dX10_soon_107 (by decide) ?_
      refine j_iret dX10_soon_121 rfl rfl ?_
      exact ⟨by rw [h], rfl⟩
  · have h := h.2 hc3
    refine j_aload_n dX10_soon_35 rfl ?_
    refine j_iload dX10_soon_36 rfl ?_
    obtain ⟨r6, hc, h⟩ := h
    refine j_cvf (lc := 1) (as := [.int x5]) dX10_soon_38 iX10_headsOf vX10_headsOf kX10_150 (by decide) rfl rfl rfl rfl (Nat.zero_le _) hc ?_
    refine j_istore (L2 := [some (.ref 0), some (.int x1), some (.int x2), some (.int x3), some (.int x4), some (.int x5), some (.int r6)]) dX10_soon_41 (by decide) (zno rfl) rfl ?_
    refine j_iload_n dX10_soon_43 rfl ?_
    refine j_bipush (v := (-4)) dX10_soon_44 rfl ?_
    refine j_ic_eq (tgt := 55) dX10_soon_46 (by decide) (fun hc7 => ?_) (fun hc7 => ?_)
    · have h := h.1 hc7
      refine j_iload dX10_soon_55 rfl ?_
      refine j_goto (tgt := 61) dX10_soon_57 (by decide) ?_
      refine j_istore_n (L2 := [some (.ref 0), some (.int x1), some (.int x5), some (.int x3), some (.int x4), some (.int x5), some (.int r6)]) dX10_soon_61 (by decide) (zno rfl) rfl ?_
      refine j_iload_n dX10_soon_62 rfl ?_
      refine j_bipush (v := (-4)) dX10_soon_63 rfl ?_
      refine j_ic_eq (tgt := 74) dX10_soon_65 (by decide) (fun hc8 => ?_) (fun hc8 => ?_)
      · have h := h.1 hc8
        refine j_iload dX10_soon_74 rfl ?_
        refine j_goto (tgt := 80) dX10_soon_76 (by decide) ?_
        refine j_istore_n (L2 := [some (.ref 0), some (.int x1), some (.int x5), some (.int r6), some (.int x4), some (.int x5), some (.int r6)]) dX10_soon_80 (by decide) (zno rfl) rfl ?_
        refine j_iload dX10_soon_81 rfl ?_
        refine j_iload dX10_soon_83 rfl ?_
        refine j_if_ne (tgt := 92) dX10_soon_85 (by decide) (fun hc9 => ?_) (fun hc9 => ?_)
        · have h := h.1 hc9
          refine j_iconst (v := 0) dX10_soon_92 rfl ?_
          refine j_iadd dX10_soon_93 ?_
          refine j_istore (L2 := [some (.ref 0), some (.int x1), some (.int x5), some (.int r6), some (.int (x4 + 0)), some (.int x5), some (.int r6)]) dX10_soon_94 (by decide) (zno rfl) rfl ?_
          refine j_iinc (v := (x5 + 1)) (L2 := [some (.ref 0), some (.int x1), some (.int x5), some (.int r6), some (.int (x4 + 0)), some (.int (x5 + 1)), some (.int r6)]) dX10_soon_96 rfl rfl (by decide) (zno rfl) rfl ?_
          refine j_goto (tgt := 26) dX10_soon_99 (by decide) ?_
          exact zJw h ⟨rfl, rfl, rfl, rfl, rfl, rfl, trivial⟩
        · have h := h.2 hc9
          refine j_iconst (v := 1) dX10_soon_88 rfl ?_
          refine j_goto (tgt := 93) dX10_soon_89 (by decide) ?_
          refine j_iadd dX10_soon_93 ?_
          refine j_istore (L2 := [some (.ref 0), some (.int x1), some (.int x5), some (.int r6), some (.int (x4 + 1)), some (.int x5), some (.int r6)]) dX10_soon_94 (by decide) (zno rfl) rfl ?_
          refine j_iinc (v := (x5 + 1)) (L2 := [some (.ref 0), some (.int x1), some (.int x5), some (.int r6), some (.int (x4 + 1)), some (.int (x5 + 1)), some (.int r6)]) dX10_soon_96 rfl rfl (by decide) (zno rfl) rfl ?_
          refine j_goto (tgt := 26) dX10_soon_99 (by decide) ?_
          exact zJw h ⟨rfl, rfl, rfl, rfl, rfl, rfl, trivial⟩
      · have h := h.2 hc8
        refine j_iload dX10_soon_68 rfl ?_
        refine j_iload_n dX10_soon_70 rfl ?_
        refine j_ic_ge (tgt := 79) dX10_soon_71 (by decide) (fun hc10 => ?_) (fun hc10 => ?_)
        · have h := h.1 hc10
          refine j_iload_n dX10_soon_79 rfl ?_
          refine j_istore_n (L2 := [some (.ref 0), some (.int x1), some (.int x5), some (.int x3), some (.int x4), some (.int x5), some (.int r6)]) dX10_soon_80 (by decide) (zno rfl) rfl ?_
          refine j_iload dX10_soon_81 rfl ?_
          refine j_iload dX10_soon_83 rfl ?_
          refine j_if_ne (tgt := 92) dX10_soon_85 (by decide) (fun hc11 => ?_) (fun hc11 => ?_)
          · have h := h.1 hc11
            refine j_iconst (v := 0) dX10_soon_92 rfl ?_
            refine j_iadd dX10_soon_93 ?_
            refine j_istore (L2 := [some (.ref 0), some (.int x1), some (.int x5), some (.int x3), some (.int (x4 + 0)), some (.int x5), some (.int r6)]) dX10_soon_94 (by decide) (zno rfl) rfl ?_
            refine j_iinc (v := (x5 + 1)) (L2 := [some (.ref 0), some (.int x1), some (.int x5), some (.int x3), some (.int (x4 + 0)), some (.int (x5 + 1)), some (.int r6)]) dX10_soon_96 rfl rfl (by decide) (zno rfl) rfl ?_
            refine j_goto (tgt := 26) dX10_soon_99 (by decide) ?_
            exact zJw h ⟨rfl, rfl, rfl, rfl, rfl, rfl, trivial⟩
          · have h := h.2 hc11
            refine j_iconst (v := 1) dX10_soon_88 rfl ?_
            refine j_goto (tgt := 93) dX10_soon_89 (by decide) ?_
            refine j_iadd dX10_soon_93 ?_
            refine j_istore (L2 := [some (.ref 0), some (.int x1), some (.int x5), some (.int x3), some (.int (x4 + 1)), some (.int x5), some (.int r6)]) dX10_soon_94 (by decide) (zno rfl) rfl ?_
            refine j_iinc (v := (x5 + 1)) (L2 := [some (.ref 0), some (.int x1), some (.int x5), some (.int x3), some (.int (x4 + 1)), some (.int (x5 + 1)), some (.int r6)]) dX10_soon_96 rfl rfl (by decide) (zno rfl) rfl ?_
            refine j_goto (tgt := 26) dX10_soon_99 (by decide) ?_
            exact zJw h ⟨rfl, rfl, rfl, rfl, rfl, rfl, trivial⟩
        · have h := h.2 hc10
          refine j_iload dX10_soon_74 rfl ?_
          refine j_goto (tgt := 80) dX10_soon_76 (by decide) ?_
          refine j_istore_n (L2 := [some (.ref 0), some (.int x1), some (.int x5), some (.int r6), some (.int x4), some (.int x5), some (.int r6)]) dX10_soon_80 (by decide) (zno rfl) rfl ?_
          refine j_iload dX10_soon_81 rfl ?_
          refine j_iload dX10_soon_83 rfl ?_
          refine j_if_ne (tgt := 92) dX10_soon_85 (by decide) (fun hc12 => ?_) (fun hc12 => ?_)
          · have h := h.1 hc12
            refine j_iconst (v := 0) dX10_soon_92 rfl ?_
            refine j_iadd dX10_soon_93 ?_
            refine j_istore (L2 := [some (.ref 0), some (.int x1), some (.int x5), some (.int r6), some (.int (x4 + 0)), some (.int x5), some (.int r6)]) dX10_soon_94 (by decide) (zno rfl) rfl ?_
            refine j_iinc (v := (x5 + 1)) (L2 := [some (.ref 0), some (.int x1), some (.int x5), some (.int r6), some (.int (x4 + 0)), some (.int (x5 + 1)), some (.int r6)]) dX10_soon_96 rfl rfl (by decide) (zno rfl) rfl ?_
            refine j_goto (tgt := 26) dX10_soon_99 (by decide) ?_
            exact zJw h ⟨rfl, rfl, rfl, rfl, rfl, rfl, trivial⟩
          · have h := h.2 hc12
            refine j_iconst (v := 1) dX10_soon_88 rfl ?_
            refine j_goto (tgt := 93) dX10_soon_89 (by decide) ?_
            refine j_iadd dX10_soon_93 ?_
            refine j_istore (L2 := [some (.ref 0), some (.int x1), some (.int x5), some (.int r6), some (.int (x4 + 1)), some (.int x5), some (.int r6)]) dX10_soon_94 (by decide) (zno rfl) rfl ?_
            refine j_iinc (v := (x5 + 1)) (L2 := [some (.ref 0), some (.int x1), some (.int x5), some (.int r6), some (.int (x4 + 1)), some (.int (x5 + 1)), some (.int r6)]) dX10_soon_96 rfl rfl (by decide) (zno rfl) rfl ?_
            refine j_goto (tgt := 26) dX10_soon_99 (by decide) ?_
            exact zJw h ⟨rfl, rfl, rfl, rfl, rfl, rfl, trivial⟩
    · have h := h.2 hc7
      refine j_iload dX10_soon_49 rfl ?_
      refine j_iload_n dX10_soon_51 rfl ?_
      refine j_ic_ge (tgt := 60) dX10_soon_52 (by decide) (fun hc13 => ?_) (fun hc13 => ?_)
      · have h := h.1 hc13
        refine j_iload_n dX10_soon_60 rfl ?_
        refine j_istore_n (L2 := [some (.ref 0), some (.int x1), some (.int x2), some (.int x3), some (.int x4), some (.int x5), some (.int r6)]) dX10_soon_61 (by decide) (zno rfl) rfl ?_
        refine j_iload_n dX10_soon_62 rfl ?_
        refine j_bipush (v := (-4)) dX10_soon_63 rfl ?_
        refine j_ic_eq (tgt := 74) dX10_soon_65 (by decide) (fun hc14 => ?_) (fun hc14 => ?_)
        · have h := h.1 hc14
          refine j_iload dX10_soon_74 rfl ?_
          refine j_goto (tgt := 80) dX10_soon_76 (by decide) ?_
          refine j_istore_n (L2 := [some (.ref 0), some (.int x1), some (.int x2), some (.int r6), some (.int x4), some (.int x5), some (.int r6)]) dX10_soon_80 (by decide) (zno rfl) rfl ?_
          refine j_iload dX10_soon_81 rfl ?_
          refine j_iload dX10_soon_83 rfl ?_
          refine j_if_ne (tgt := 92) dX10_soon_85 (by decide) (fun hc15 => ?_) (fun hc15 => ?_)
          · have h := h.1 hc15
            refine j_iconst (v := 0) dX10_soon_92 rfl ?_
            refine j_iadd dX10_soon_93 ?_
            refine j_istore (L2 := [some (.ref 0), some (.int x1), some (.int x2), some (.int r6), some (.int (x4 + 0)), some (.int x5), some (.int r6)]) dX10_soon_94 (by decide) (zno rfl) rfl ?_
            refine j_iinc (v := (x5 + 1)) (L2 := [some (.ref 0), some (.int x1), some (.int x2), some (.int r6), some (.int (x4 + 0)), some (.int (x5 + 1)), some (.int r6)]) dX10_soon_96 rfl rfl (by decide) (zno rfl) rfl ?_
            refine j_goto (tgt := 26) dX10_soon_99 (by decide) ?_
            exact zJw h ⟨rfl, rfl, rfl, rfl, rfl, rfl, trivial⟩
          · have h := h.2 hc15
            refine j_iconst (v := 1) dX10_soon_88 rfl ?_
            refine j_goto (tgt := 93) dX10_soon_89 (by decide) ?_
            refine j_iadd dX10_soon_93 ?_
            refine j_istore (L2 := [some (.ref 0), some (.int x1), some (.int x2), some (.int r6), some (.int (x4 + 1)), some (.int x5), some (.int r6)]) dX10_soon_94 (by decide) (zno rfl) rfl ?_
            refine j_iinc (v := (x5 + 1)) (L2 := [some (.ref 0), some (.int x1), some (.int x2), some (.int r6), some (.int (x4 + 1)), some (.int (x5 + 1)), some (.int r6)]) dX10_soon_96 rfl rfl (by decide) (zno rfl) rfl ?_
            refine j_goto (tgt := 26) dX10_soon_99 (by decide) ?_
            exact zJw h ⟨rfl, rfl, rfl, rfl, rfl, rfl, trivial⟩
        · have h := h.2 hc14
          refine j_iload dX10_soon_68 rfl ?_
          refine j_iload_n dX10_soon_70 rfl ?_
          refine j_ic_ge (tgt := 79) dX10_soon_71 (by decide) (fun _ => ?_) (fun hc => absurd hc13 hc)
          refine j_iload_n dX10_soon_79 rfl ?_
          refine j_istore_n (L2 := [some (.ref 0), some (.int x1), some (.int x2), some (.int x3), some (.int x4), some (.int x5), some (.int r6)]) dX10_soon_80 (by decide) (zno rfl) rfl ?_
          refine j_iload dX10_soon_81 rfl ?_
          refine j_iload dX10_soon_83 rfl ?_
          refine j_if_ne (tgt := 92) dX10_soon_85 (by decide) (fun hc16 => ?_) (fun hc16 => ?_)
          · have h := h.1 hc16
            refine j_iconst (v := 0) dX10_soon_92 rfl ?_
            refine j_iadd dX10_soon_93 ?_
            refine j_istore (L2 := [some (.ref 0), some (.int x1), some (.int x2), some (.int x3), some (.int (x4 + 0)), some (.int x5), some (.int r6)]) dX10_soon_94 (by decide) (zno rfl) rfl ?_
            refine j_iinc (v := (x5 + 1)) (L2 := [some (.ref 0), some (.int x1), some (.int x2), some (.int x3), some (.int (x4 + 0)), some (.int (x5 + 1)), some (.int r6)]) dX10_soon_96 rfl rfl (by decide) (zno rfl) rfl ?_
            refine j_goto (tgt := 26) dX10_soon_99 (by decide) ?_
            exact zJw h ⟨rfl, rfl, rfl, rfl, rfl, rfl, trivial⟩
          · have h := h.2 hc16
            refine j_iconst (v := 1) dX10_soon_88 rfl ?_
            refine j_goto (tgt := 93) dX10_soon_89 (by decide) ?_
            refine j_iadd dX10_soon_93 ?_
            refine j_istore (L2 := [some (.ref 0), some (.int x1), some (.int x2), some (.int x3), some (.int (x4 + 1)), some (.int x5), some (.int r6)]) dX10_soon_94 (by decide) (zno rfl) rfl ?_
            refine j_iinc (v := (x5 + 1)) (L2 := [some (.ref 0), some (.int x1), some (.int x2), some (.int x3), some (.int (x4 + 1)), some (.int (x5 + 1)), some (.int r6)]) dX10_soon_96 rfl rfl (by decide) (zno rfl) rfl ?_
            refine j_goto (tgt := 26) dX10_soon_99 (by decide) ?_
            exact zJw h ⟨rfl, rfl, rfl, rfl, rfl, rfl, trivial⟩
      · have h := h.2 hc13
        refine j_iload dX10_soon_55 rfl ?_
        refine j_goto (tgt := 61) dX10_soon_57 (by decide) ?_
        refine j_istore_n (L2 := [some (.ref 0), some (.int x1), some (.int x5), some (.int x3), some (.int x4), some (.int x5), some (.int r6)]) dX10_soon_61 (by decide) (zno rfl) rfl ?_
        refine j_iload_n dX10_soon_62 rfl ?_
        refine j_bipush (v := (-4)) dX10_soon_63 rfl ?_
        refine j_ic_eq (tgt := 74) dX10_soon_65 (by decide) (fun hc17 => ?_) (fun hc17 => ?_)
        · have h := h.1 hc17
          refine j_iload dX10_soon_74 rfl ?_
          refine j_goto (tgt := 80) dX10_soon_76 (by decide) ?_
          refine j_istore_n (L2 := [some (.ref 0), some (.int x1), some (.int x5), some (.int r6), some (.int x4), some (.int x5), some (.int r6)]) dX10_soon_80 (by decide) (zno rfl) rfl ?_
          refine j_iload dX10_soon_81 rfl ?_
          refine j_iload dX10_soon_83 rfl ?_
          refine j_if_ne (tgt := 92) dX10_soon_85 (by decide) (fun hc18 => ?_) (fun hc18 => ?_)
          · have h := h.1 hc18
            refine j_iconst (v := 0) dX10_soon_92 rfl ?_
            refine j_iadd dX10_soon_93 ?_
            refine j_istore (L2 := [some (.ref 0), some (.int x1), some (.int x5), some (.int r6), some (.int (x4 + 0)), some (.int x5), some (.int r6)]) dX10_soon_94 (by decide) (zno rfl) rfl ?_
            refine j_iinc (v := (x5 + 1)) (L2 := [some (.ref 0), some (.int x1), some (.int x5), some (.int r6), some (.int (x4 + 0)), some (.int (x5 + 1)), some (.int r6)]) dX10_soon_96 rfl rfl (by decide) (zno rfl) rfl ?_
            refine j_goto (tgt := 26) dX10_soon_99 (by decide) ?_
            exact zJw h ⟨rfl, rfl, rfl, rfl, rfl, rfl, trivial⟩
          · have h := h.2 hc18
            refine j_iconst (v := 1) dX10_soon_88 rfl ?_
            refine j_goto (tgt := 93) dX10_soon_89 (by decide) ?_
            refine j_iadd dX10_soon_93 ?_
            refine j_istore (L2 := [some (.ref 0), some (.int x1), some (.int x5), some (.int r6), some (.int (x4 + 1)), some (.int x5), some (.int r6)]) dX10_soon_94 (by decide) (zno rfl) rfl ?_
            refine j_iinc (v := (x5 + 1)) (L2 := [some (.ref 0), some (.int x1), some (.int x5), some (.int r6), some (.int (x4 + 1)), some (.int (x5 + 1)), some (.int r6)]) dX10_soon_96 rfl rfl (by decide) (zno rfl) rfl ?_
            refine j_goto (tgt := 26) dX10_soon_99 (by decide) ?_
            exact zJw h ⟨rfl, rfl, rfl, rfl, rfl, rfl, trivial⟩
        · have h := h.2 hc17
          refine j_iload dX10_soon_68 rfl ?_
          refine j_iload_n dX10_soon_70 rfl ?_
          refine j_ic_ge (tgt := 79) dX10_soon_71 (by decide) (fun hc => absurd hc hc13) (fun _ => ?_)
          refine j_iload dX10_soon_74 rfl ?_
          refine j_goto (tgt := 80) dX10_soon_76 (by decide) ?_
          refine j_istore_n (L2 := [some (.ref 0), some (.int x1), some (.int x5), some (.int r6), some (.int x4), some (.int x5), some (.int r6)]) dX10_soon_80 (by decide) (zno rfl) rfl ?_
          refine j_iload dX10_soon_81 rfl ?_
          refine j_iload dX10_soon_83 rfl ?_
          refine j_if_ne (tgt := 92) dX10_soon_85 (by decide) (fun hc19 => ?_) (fun hc19 => ?_)
          · have h := h.1 hc19
            refine j_iconst (v := 0) dX10_soon_92 rfl ?_
            refine j_iadd dX10_soon_93 ?_
            refine j_istore (L2 := [some (.ref 0), some (.int x1), some (.int x5), some (.int r6), some (.int (x4 + 0)), some (.int x5), some (.int r6)]) dX10_soon_94 (by decide) (zno rfl) rfl ?_
            refine j_iinc (v := (x5 + 1)) (L2 := [some (.ref 0), some (.int x1), some (.int x5), some (.int r6), some (.int (x4 + 0)), some (.int (x5 + 1)), some (.int r6)]) dX10_soon_96 rfl rfl (by decide) (zno rfl) rfl ?_
            refine j_goto (tgt := 26) dX10_soon_99 (by decide) ?_
            exact zJw h ⟨rfl, rfl, rfl, rfl, rfl, rfl, trivial⟩
          · have h := h.2 hc19
            refine j_iconst (v := 1) dX10_soon_88 rfl ?_
            refine j_goto (tgt := 93) dX10_soon_89 (by decide) ?_
            refine j_iadd dX10_soon_93 ?_
            refine j_istore (L2 := [some (.ref 0), some (.int x1), some (.int x5), some (.int r6), some (.int (x4 + 1)), some (.int x5), some (.int r6)]) dX10_soon_94 (by decide) (zno rfl) rfl ?_
            refine j_iinc (v := (x5 + 1)) (L2 := [some (.ref 0), some (.int x1), some (.int x5), some (.int r6), some (.int (x4 + 1)), some (.int (x5 + 1)), some (.int r6)]) dX10_soon_96 rfl rfl (by decide) (zno rfl) rfl ?_
            refine j_goto (tgt := 26) dX10_soon_99 (by decide) ?_
            exact zJw h ⟨rfl, rfl, rfl, rfl, rfl, rfl, trivial⟩
theorem eX10_canTeach (v : Int32) (X : zX) (a1 : Int32) (a2 : Int32) (a3 : Int32) (h : ∃ j1 : Nat, a1 = nI j1 ∧ j1 < 8 ∧ (∃ j2 : Nat, a2 = nI j2 ∧ j2 < 8 ∧ (∃ j3 : Nat, a3 = nI j3 ∧ j3 < 24 ∧ ((((((X 12 j1) &&& (X 12 j2)) &&& (zshl 1 (X 5 j3))) = 0) → (∃ r5 : Int32, zPf SY 1 mX10_maySing [.ref 0, .int a1, .int a3] X r5 ∧ (((r5 = 0) → (0 = v)) ∧ ((¬ (r5 = 0)) → (∃ r7 : Int32, zPf SY 0 mX10_ageOf [.ref 0, .int a1] X r7 ∧ (((r7 < (X 0 20)) → (0 = v)) ∧ ((¬ (r7 < (X 0 20))) → (∃ j9 : Nat, a2 = nI j9 ∧ j9 < 8 ∧ (((¬ (X 14 j9) = 0) → (0 = v)) ∧ (((X 14 j9) = 0) → (∃ r11 : Int32, zPf SY 0 mX10_mayHear [.ref 0, .int a2, .int a3] X r11 ∧ (((r11 = 0) → (0 = v)) ∧ ((¬ (r11 = 0)) → (∃ r13 : Int32, zPf SY 0 mX10_hasIt [.ref 0, .int a2, .int a3] X r13 ∧ (((¬ r13 = 0) → (0 = v)) ∧ ((r13 = 0) → (0 = v))))))))))))))))) ∧ ((¬ ((((X 12 j1) &&& (X 12 j2)) &&& (zshl 1 (X 5 j3))) = 0)) → (∃ r15 : Int32, zPf SY 1 mX10_maySing [.ref 0, .int a1, .int a3] X r15 ∧ (((r15 = 0) → (0 = v)) ∧ ((¬ (r15 = 0)) → (∃ r17 : Int32, zPf SY 0 mX10_ageOf [.ref 0, .int a1] X r17 ∧ (((r17 < (X 0 20)) → (0 = v)) ∧ ((¬ (r17 < (X 0 20))) → (∃ j19 : Nat, a2 = nI j19 ∧ j19 < 8 ∧ (((¬ (X 14 j19) = 0) → (0 = v)) ∧ (((X 14 j19) = 0) → (∃ r21 : Int32, zPf SY 0 mX10_mayHear [.ref 0, .int a2, .int a3] X r21 ∧ (((r21 = 0) → (0 = v)) ∧ ((¬ (r21 = 0)) → (∃ r23 : Int32, zPf SY 0 mX10_hasIt [.ref 0, .int a2, .int a3] X r23 ∧ (((¬ r23 = 0) → (0 = v)) ∧ ((r23 = 0) → (1 = v))))))))))))))))))))) : zPf SY 2 mX10_canTeach [.ref 0, .int a1, .int a2, .int a3] X v := by
  refine zP_in [some (.ref 0), some (.int a1), some (.int a2), some (.int a3), none] ⟨rfl, rfl, rfl, rfl, trivial⟩ (by decide) (Nat.le_of_ble_eq_true rfl) ?_
  refine j_aload_n dX10_canTeach_0 rfl ?_
  refine j_getr dX10_canTeach_1 fX10_43 rfl rfl ?_
  refine j_iload_n dX10_canTeach_4 rfl ?_
  obtain ⟨j1, ej1, lj1, h⟩ := h
  refine j_iald dX10_canTeach_5 rfl (zin ej1 lj1 (by decide)) ?_
  rw [zcl ej1 lj1 (by decide)]
  refine j_aload_n dX10_canTeach_6 rfl ?_
  refine j_getr dX10_canTeach_7 fX10_43 rfl rfl ?_
  refine j_iload_n dX10_canTeach_10 rfl ?_
  obtain ⟨j2, ej2, lj2, h⟩ := h
  refine j_iald dX10_canTeach_11 rfl (zin ej2 lj2 (by decide)) ?_
  rw [zcl ej2 lj2 (by decide)]
  refine j_iand dX10_canTeach_12 ?_
  refine j_iconst (v := 1) dX10_canTeach_13 rfl ?_
  refine j_aload_n dX10_canTeach_14 rfl ?_
  refine j_getr dX10_canTeach_15 fX10_22 rfl rfl ?_
  refine j_iload_n dX10_canTeach_18 rfl ?_
  obtain ⟨j3, ej3, lj3, h⟩ := h
  refine j_iald dX10_canTeach_19 rfl (zin ej3 lj3 (by decide)) ?_
  rw [zcl ej3 lj3 (by decide)]
  refine j_ishl dX10_canTeach_20 ?_
  refine j_iand dX10_canTeach_21 ?_
  refine j_if_eq (tgt := 29) dX10_canTeach_22 (by decide) (fun hc4 => ?_) (fun hc4 => ?_)
  · have h := h.1 hc4
    refine j_iconst (v := 0) dX10_canTeach_29 rfl ?_
    refine j_istore (L2 := [some (.ref 0), some (.int a1), some (.int a2), some (.int a3), some (.int 0)]) dX10_canTeach_30 (by decide) (zno rfl) rfl ?_
    refine j_aload_n dX10_canTeach_32 rfl ?_
    refine j_iload_n dX10_canTeach_33 rfl ?_
    refine j_iload_n dX10_canTeach_34 rfl ?_
    obtain ⟨r5, hc, h⟩ := h
    refine j_cvf (lc := 1) (as := [.int a1, .int a3]) dX10_canTeach_35 iX10_maySing vX10_maySing kX10_270 (by decide) rfl rfl rfl rfl (Nat.zero_le _) hc ?_
    refine j_if_eq (tgt := 89) dX10_canTeach_38 (by decide) (fun hc6 => ?_) (fun hc6 => ?_)
    · have h := h.1 hc6
      refine j_iconst (v := 0) dX10_canTeach_89 rfl ?_
      refine j_iret dX10_canTeach_90 rfl (by decide) ?_
      exact ⟨by rw [h], rfl⟩
    · have h := h.2 hc6
      refine j_aload_n dX10_canTeach_41 rfl ?_
      refine j_iload_n dX10_canTeach_42 rfl ?_
      obtain ⟨r7, hc, h⟩ := h
      refine j_cvf (lc := 0) (as := [.int a1]) dX10_canTeach_43 iX10_ageOf vX10_ageOf kX10_167 (by decide) rfl rfl rfl rfl (Nat.zero_le _) hc ?_
      refine j_aload_n dX10_canTeach_46 rfl ?_
      refine j_getf dX10_canTeach_47 fX10_182 rfl rfl ?_
      refine j_ic_lt (tgt := 89) dX10_canTeach_50 (by decide) (fun hc8 => ?_) (fun hc8 => ?_)
      · have h := h.1 hc8
        refine j_iconst (v := 0) dX10_canTeach_89 rfl ?_
        refine j_iret dX10_canTeach_90 rfl (by decide) ?_
        exact ⟨by rw [h], rfl⟩
      · have h := h.2 hc8
        refine j_aload_n dX10_canTeach_53 rfl ?_
        refine j_getr dX10_canTeach_54 fX10_49 rfl rfl ?_
        refine j_iload_n dX10_canTeach_57 rfl ?_
        obtain ⟨j9, ej9, lj9, h⟩ := h
        refine j_zald dX10_canTeach_58 rfl (zin ej9 lj9 (by decide)) ?_
        rw [zcl ej9 lj9 (by decide)]
        refine j_if_ne (tgt := 89) dX10_canTeach_59 (by decide) (fun hc10 => ?_) (fun hc10 => ?_)
        · have h := h.1 hc10
          refine j_iconst (v := 0) dX10_canTeach_89 rfl ?_
          refine j_iret dX10_canTeach_90 rfl (by decide) ?_
          exact ⟨by rw [h], rfl⟩
        · have h := h.2 hc10
          refine j_aload_n dX10_canTeach_62 rfl ?_
          refine j_iload_n dX10_canTeach_63 rfl ?_
          refine j_iload_n dX10_canTeach_64 rfl ?_
          obtain ⟨r11, hc, h⟩ := h
          refine j_cvf (lc := 0) (as := [.int a2, .int a3]) dX10_canTeach_65 iX10_mayHear vX10_mayHear kX10_267 (by decide) rfl rfl rfl rfl (Nat.zero_le _) hc ?_
          refine j_if_eq (tgt := 89) dX10_canTeach_68 (by decide) (fun hc12 => ?_) (fun hc12 => ?_)
          · have h := h.1 hc12
            refine j_iconst (v := 0) dX10_canTeach_89 rfl ?_
            refine j_iret dX10_canTeach_90 rfl (by decide) ?_
            exact ⟨by rw [h], rfl⟩
          · have h := h.2 hc12
            refine j_aload_n dX10_canTeach_71 rfl ?_
            refine j_iload_n dX10_canTeach_72 rfl ?_
            refine j_iload_n dX10_canTeach_73 rfl ?_
            obtain ⟨r13, hc, h⟩ := h
            refine j_cvf (lc := 0) (as := [.int a2, .int a3]) dX10_canTeach_74 iX10_hasIt vX10_hasIt kX10_140 (by decide) rfl rfl rfl rfl (Nat.zero_le _) hc ?_
            refine j_if_ne (tgt := 89) dX10_canTeach_77 (by decide) (fun hc14 => ?_) (fun hc14 => ?_)
            · have h := h.1 hc14
              refine j_iconst (v := 0) dX10_canTeach_89 rfl ?_
              refine j_iret dX10_canTeach_90 rfl (by decide) ?_
              exact ⟨by rw [h], rfl⟩
            · have h := h.2 hc14
              refine j_iload dX10_canTeach_80 rfl ?_
              refine j_if_eq (tgt := 89) dX10_canTeach_82 (by decide) (fun _ => ?_) (fun hc => absurd hc (by decide))
              refine j_iconst (v := 0) dX10_canTeach_89 rfl ?_
              refine j_iret dX10_canTeach_90 rfl (by decide) ?_
              exact ⟨by rw [h], rfl⟩
  · have h := h.2 hc4
    refine j_iconst (v := 1) dX10_canTeach_25 rfl ?_
    refine j_goto (tgt := 30) dX10_canTeach_26 (by decide) ?_
    refine j_istore (L2 := [some (.ref 0), some (.int a1), some (.int a2), some (.int a3), some (.int 1)]) dX10_canTeach_30 (by decide) (zno rfl) rfl ?_
    refine j_aload_n dX10_canTeach_32 rfl ?_
    refine j_iload_n dX10_canTeach_33 rfl ?_
    refine j_iload_n dX10_canTeach_34 rfl ?_
    obtain ⟨r15, hc, h⟩ := h
    refine j_cvf (lc := 1) (as := [.int a1, .int a3]) dX10_canTeach_35 iX10_maySing vX10_maySing kX10_270 (by decide) rfl rfl rfl rfl (Nat.zero_le _) hc ?_
    refine j_if_eq (tgt := 89) dX10_canTeach_38 (by decide) (fun hc16 => ?_) (fun hc16 => ?_)
    · have h := h.1 hc16
      refine j_iconst (v := 0) dX10_canTeach_89 rfl ?_
      refine j_iret dX10_canTeach_90 rfl (by decide) ?_
      exact ⟨by rw [h], rfl⟩
    · have h := h.2 hc16
      refine j_aload_n dX10_canTeach_41 rfl ?_
      refine j_iload_n dX10_canTeach_42 rfl ?_
      obtain ⟨r17, hc, h⟩ := h
      refine j_cvf (lc := 0) (as := [.int a1]) dX10_canTeach_43 iX10_ageOf vX10_ageOf kX10_167 (by decide) rfl rfl rfl rfl (Nat.zero_le _) hc ?_
      refine j_aload_n dX10_canTeach_46 rfl ?_
      refine j_getf dX10_canTeach_47 fX10_182 rfl rfl ?_
      refine j_ic_lt (tgt := 89) dX10_canTeach_50 (by decide) (fun hc18 => ?_) (fun hc18 => ?_)
      · have h := h.1 hc18
        refine j_iconst (v := 0) dX10_canTeach_89 rfl ?_
        refine j_iret dX10_canTeach_90 rfl (by decide) ?_
        exact ⟨by rw [h], rfl⟩
      · have h := h.2 hc18
        refine j_aload_n dX10_canTeach_53 rfl ?_
        refine j_getr dX10_canTeach_54 fX10_49 rfl rfl ?_
        refine j_iload_n dX10_canTeach_57 rfl ?_
        obtain ⟨j19, ej19, lj19, h⟩ := h
        refine j_zald dX10_canTeach_58 rfl (zin ej19 lj19 (by decide)) ?_
        rw [zcl ej19 lj19 (by decide)]
        refine j_if_ne (tgt := 89) dX10_canTeach_59 (by decide) (fun hc20 => ?_) (fun hc20 => ?_)
        · have h := h.1 hc20
          refine j_iconst (v := 0) dX10_canTeach_89 rfl ?_
          refine j_iret dX10_canTeach_90 rfl (by decide) ?_
          exact ⟨by rw [h], rfl⟩
        · have h := h.2 hc20
          refine j_aload_n dX10_canTeach_62 rfl ?_
          refine j_iload_n dX10_canTeach_63 rfl ?_
          refine j_iload_n dX10_canTeach_64 rfl ?_
          obtain ⟨r21, hc, h⟩ := h
          refine j_cvf (lc := 0) (as := [.int a2, .int a3]) dX10_canTeach_65 iX10_mayHear vX10_mayHear kX10_267 (by decide) rfl rfl rfl rfl (Nat.zero_le _) hc ?_
          refine j_if_eq (tgt := 89) dX10_canTeach_68 (by decide) (fun hc22 => ?_) (fun hc22 => ?_)
          · have h := h.1 hc22
            refine j_iconst (v := 0) dX10_canTeach_89 rfl ?_
            refine j_iret dX10_canTeach_90 rfl (by decide) ?_
            exact ⟨by rw [h], rfl⟩
          · have h := h.2 hc22
            refine j_aload_n dX10_canTeach_71 rfl ?_
            refine j_iload_n dX10_canTeach_72 rfl ?_
            refine j_iload_n dX10_canTeach_73 rfl ?_
            obtain ⟨r23, hc, h⟩ := h
            refine j_cvf (lc := 0) (as := [.int a2, .int a3]) dX10_canTeach_74 iX10_hasIt vX10_hasIt kX10_140 (by decide) rfl rfl rfl rfl (Nat.zero_le _) hc ?_
            refine j_if_ne (tgt := 89) dX10_canTeach_77 (by decide) (fun hc24 => ?_) (fun hc24 => ?_)
            · have h := h.1 hc24
              refine j_iconst (v := 0) dX10_canTeach_89 rfl ?_
              refine j_iret dX10_canTeach_90 rfl (by decide) ?_
              exact ⟨by rw [h], rfl⟩
            · have h := h.2 hc24
              refine j_iload dX10_canTeach_80 rfl ?_
              refine j_if_eq (tgt := 89) dX10_canTeach_82 (by decide) (fun hc => absurd hc (by decide)) (fun _ => ?_)
              refine j_iconst (v := 1) dX10_canTeach_85 rfl ?_
              refine j_goto (tgt := 90) dX10_canTeach_86 (by decide) ?_
              refine j_iret dX10_canTeach_90 rfl (by decide) ?_
              exact ⟨by rw [h], rfl⟩
theorem eX10_can (v : Int32) (X : zX) (a1 : Int32) (a2 : Int32) (a3 : Int32) (h : ∃ r1 : Int32, zPf SY 1 mX10_isOne [.ref 0, .int a1] X r1 ∧ (((r1 = 0) → ((-1) = v)) ∧ ((¬ (r1 = 0)) → (∃ r3 : Int32, zPf SY 1 mX10_isOne [.ref 0, .int a2] X r3 ∧ (((r3 = 0) → ((-1) = v)) ∧ ((¬ (r3 = 0)) → (((a1 = a2) → ((-1) = v)) ∧ ((¬ (a1 = a2)) → (∃ r6 : Int32, zPf SY 1 mX10_isVerse [.ref 0, .int a3] X r6 ∧ (((¬ r6 = 0) → (∃ r8 : Int32, zPf SY 2 mX10_canTeach [.ref 0, .int a1, .int a2, .int a3] X r8 ∧ (∃ r9 : Int32, zPf SY 0 mX10_flag [.int r8] X r9 ∧ (r9 = v)))) ∧ ((r6 = 0) → ((-1) = v)))))))))))) : zPf SY 3 mX10_can [.ref 0, .int a1, .int a2, .int a3] X v := by
  refine zP_in [some (.ref 0), some (.int a1), some (.int a2), some (.int a3)] ⟨rfl, rfl, rfl, rfl, trivial⟩ (by decide) (Nat.le_of_ble_eq_true rfl) ?_
  refine j_aload_n dX10_can_0 rfl ?_
  refine j_iload_n dX10_can_1 rfl ?_
  obtain ⟨r1, hc, h⟩ := h
  refine j_cvf (lc := 1) (as := [.int a1]) dX10_can_2 iX10_isOne vX10_isOne kX10_144 (by decide) rfl rfl rfl rfl (Nat.zero_le _) hc ?_
  refine j_if_eq (tgt := 29) dX10_can_5 (by decide) (fun hc2 => ?_) (fun hc2 => ?_)
  · have h := h.1 hc2
    refine j_iconst (v := (-1)) dX10_can_29 rfl ?_
    refine j_iret dX10_can_30 rfl rfl ?_
    exact ⟨by rw [h], rfl⟩
  · have h := h.2 hc2
    refine j_aload_n dX10_can_8 rfl ?_
    refine j_iload_n dX10_can_9 rfl ?_
    obtain ⟨r3, hc, h⟩ := h
    refine j_cvf (lc := 1) (as := [.int a2]) dX10_can_10 iX10_isOne vX10_isOne kX10_144 (by decide) rfl rfl rfl rfl (Nat.zero_le _) hc ?_
    refine j_if_eq (tgt := 29) dX10_can_13 (by decide) (fun hc4 => ?_) (fun hc4 => ?_)
    · have h := h.1 hc4
      refine j_iconst (v := (-1)) dX10_can_29 rfl ?_
      refine j_iret dX10_can_30 rfl rfl ?_
      exact ⟨by rw [h], rfl⟩
    · have h := h.2 hc4
      refine j_iload_n dX10_can_16 rfl ?_
      refine j_iload_n dX10_can_17 rfl ?_
      refine j_ic_eq (tgt := 29) dX10_can_18 (by decide) (fun hc5 => ?_) (fun hc5 => ?_)
      · have h := h.1 hc5
        refine j_iconst (v := (-1)) dX10_can_29 rfl ?_
        refine j_iret dX10_can_30 rfl rfl ?_
        exact ⟨by rw [h], rfl⟩
      · have h := h.2 hc5
        refine j_aload_n dX10_can_21 rfl ?_
        refine j_iload_n dX10_can_22 rfl ?_
        obtain ⟨r6, hc, h⟩ := h
        refine j_cvf (lc := 1) (as := [.int a3]) dX10_can_23 iX10_isVerse vX10_isVerse kX10_147 (by decide) rfl rfl rfl rfl (Nat.zero_le _) hc ?_
        refine j_if_ne (tgt := 31) dX10_can_26 (by decide) (fun hc7 => ?_) (fun hc7 => ?_)
        · have h := h.1 hc7
          refine j_aload_n dX10_can_31 rfl ?_
          refine j_iload_n dX10_can_32 rfl ?_
          refine j_iload_n dX10_can_33 rfl ?_
          refine j_iload_n dX10_can_34 rfl ?_
          obtain ⟨r8, hc, h⟩ := h
          refine j_cvf (lc := 2) (as := [.int a1, .int a2, .int a3]) dX10_can_35 iX10_canTeach vX10_canTeach kX10_324 (by decide) rfl rfl rfl rfl (Nat.zero_le _) hc ?_
          obtain ⟨r9, hc, h⟩ := h
          refine j_csf (lc := 0) (as := [.int r8]) dX10_can_38 iX10_flag sX10_flag kX10_161 (by decide) rfl rfl (Nat.zero_le _) hc ?_
          refine j_iret dX10_can_41 rfl rfl ?_
          exact ⟨by rw [h], rfl⟩
        · have h := h.2 hc7
          refine j_iconst (v := (-1)) dX10_can_29 rfl ?_
          refine j_iret dX10_can_30 rfl rfl ?_
          exact ⟨by rw [h], rfl⟩
theorem eX10_teach (P : Int32 → zX → Prop) (X : zX) (a1 : Int32) (a2 : Int32) (a3 : Int32) (h : ∃ r1 : Int32, zPf SY 1 mX10_isOne [.ref 0, .int a1] X r1 ∧ (((r1 = 0) → (P (-1) X)) ∧ ((¬ (r1 = 0)) → (∃ r3 : Int32, zPf SY 1 mX10_isOne [.ref 0, .int a2] X r3 ∧ (((r3 = 0) → (P (-1) X)) ∧ ((¬ (r3 = 0)) → (((a1 = a2) → (P (-1) X)) ∧ ((¬ (a1 = a2)) → (∃ r6 : Int32, zPf SY 1 mX10_isVerse [.ref 0, .int a3] X r6 ∧ (((¬ r6 = 0) → (∃ r8 : Int32, zPf SY 2 mX10_canTeach [.ref 0, .int a1, .int a2, .int a3] X r8 ∧ (((¬ r8 = 0) → (∃ j10 : Nat, a2 = nI j10 ∧ j10 < 8 ∧ (∃ j11 : Nat, a2 = nI j11 ∧ j11 < 8 ∧ (∃ r12 : Int32, zPf SY 1 mX10_headsOf [.ref 0, .int a3] (zs X 13 j11 ((X 13 j10) ||| (zshl 1 a3))) r12 ∧ (P r12 (zs X 13 j11 ((X 13 j10) ||| (zshl 1 a3)))))))) ∧ ((r8 = 0) → (P (-2) X))))) ∧ ((r6 = 0) → (P (-1) X)))))))))))) : zPi SY 3 mX10_teach [.ref 0, .int a1, .int a2, .int a3] X P := by
  refine zP_in [some (.ref 0), some (.int a1), some (.int a2), some (.int a3)] ⟨rfl, rfl, rfl, rfl, trivial⟩ (by decide) (Nat.le_of_ble_eq_true rfl) ?_
  refine j_aload_n dX10_teach_0 rfl ?_
  refine j_iload_n dX10_teach_1 rfl ?_
  obtain ⟨r1, hc, h⟩ := h
  refine j_cvf (lc := 1) (as := [.int a1]) dX10_teach_2 iX10_isOne vX10_isOne kX10_144 (by decide) rfl rfl rfl rfl (Nat.zero_le _) hc ?_
  refine j_if_eq (tgt := 29) dX10_teach_5 (by decide) (fun hc2 => ?_) (fun hc2 => ?_)
  · have h := h.1 hc2
    refine j_iconst (v := (-1)) dX10_teach_29 rfl ?_
    refine j_iret dX10_teach_30 rfl rfl ?_
    exact ⟨_, rfl, h⟩
  · have h := h.2 hc2
    refine j_aload_n dX10_teach_8 rfl ?_
    refine j_iload_n dX10_teach_9 rfl ?_
    obtain ⟨r3, hc, h⟩ := h
    refine j_cvf (lc := 1) (as := [.int a2]) dX10_teach_10 iX10_isOne vX10_isOne kX10_144 (by decide) rfl rfl rfl rfl (Nat.zero_le _) hc ?_
    refine j_if_eq (tgt := 29) dX10_teach_13 (by decide) (fun hc4 => ?_) (fun hc4 => ?_)
    · have h := h.1 hc4
      refine j_iconst (v := (-1)) dX10_teach_29 rfl ?_
      refine j_iret dX10_teach_30 rfl rfl ?_
      exact ⟨_, rfl, h⟩
    · have h := h.2 hc4
      refine j_iload_n dX10_teach_16 rfl ?_
      refine j_iload_n dX10_teach_17 rfl ?_
      refine j_ic_eq (tgt := 29) dX10_teach_18 (by decide) (fun hc5 => ?_) (fun hc5 => ?_)
      · have h := h.1 hc5
        refine j_iconst (v := (-1)) dX10_teach_29 rfl ?_
        refine j_iret dX10_teach_30 rfl rfl ?_
        exact ⟨_, rfl, h⟩
      · have h := h.2 hc5
        refine j_aload_n dX10_teach_21 rfl ?_
        refine j_iload_n dX10_teach_22 rfl ?_
        obtain ⟨r6, hc, h⟩ := h
        refine j_cvf (lc := 1) (as := [.int a3]) dX10_teach_23 iX10_isVerse vX10_isVerse kX10_147 (by decide) rfl rfl rfl rfl (Nat.zero_le _) hc ?_
        refine j_if_ne (tgt := 31) dX10_teach_26 (by decide) (fun hc7 => ?_) (fun hc7 => ?_)
        · have h := h.1 hc7
          refine j_aload_n dX10_teach_31 rfl ?_
          refine j_iload_n dX10_teach_32 rfl ?_
          refine j_iload_n dX10_teach_33 rfl ?_
          refine j_iload_n dX10_teach_34 rfl ?_
          obtain ⟨r8, hc, h⟩ := h
          refine j_cvf (lc := 2) (as := [.int a1, .int a2, .int a3]) dX10_teach_35 iX10_canTeach vX10_canTeach kX10_324 (by decide) rfl rfl rfl rfl (Nat.zero_le _) hc ?_
          refine j_if_ne (tgt := 44) dX10_teach_38 (by decide) (fun hc9 => ?_) (fun hc9 => ?_)
          · have h := h.1 hc9
            refine j_aload_n dX10_teach_44 rfl ?_
            refine j_getr dX10_teach_45 fX10_46 rfl rfl ?_
            refine j_iload_n dX10_teach_48 rfl ?_
            refine j_dup2 dX10_teach_49 rfl rfl ?_
            obtain ⟨j10, ej10, lj10, h⟩ := h
            refine j_iald dX10_teach_50 rfl (zin ej10 lj10 (by decide)) ?_
            rw [zcl ej10 lj10 (by decide)]
            refine j_iconst (v := 1) dX10_teach_51 rfl ?_
            refine j_iload_n dX10_teach_52 rfl ?_
            refine j_ishl dX10_teach_53 ?_
            refine j_ior dX10_teach_54 ?_
            obtain ⟨j11, ej11, lj11, h⟩ := h
            refine j_iast dX10_teach_55 rfl (zin ej11 lj11 (by decide)) ?_
            rw [zcl ej11 lj11 (by decide)]
            refine j_aload_n dX10_teach_56 rfl ?_
            refine j_iload_n dX10_teach_57 rfl ?_
            obtain ⟨r12, hc, h⟩ := h
            refine j_cvf (lc := 1) (as := [.int a3]) dX10_teach_58 iX10_headsOf vX10_headsOf kX10_150 (by decide) rfl rfl rfl rfl (Nat.zero_le _) hc ?_
            refine j_iret dX10_teach_61 rfl rfl ?_
            exact ⟨_, rfl, h⟩
          · have h := h.2 hc9
            refine j_bipush (v := (-2)) dX10_teach_41 rfl ?_
            refine j_iret dX10_teach_43 rfl rfl ?_
            exact ⟨_, rfl, h⟩
        · have h := h.2 hc7
          refine j_iconst (v := (-1)) dX10_teach_29 rfl ?_
          refine j_iret dX10_teach_30 rfl rfl ?_
          exact ⟨_, rfl, h⟩
abbrev LX10_keep_18 (v : Int32) (X : zX) (x1 : Int32) (x2 : Int32) (x3 : Int32) : Prop := zJ SY 3 mX10_keep (zRf v X) 18 [some (.ref 0), some (.int x1), some (.int x2), some (.int x3), none, none, none, none] [] X
abbrev LX10_keep_32 (v : Int32) (X : zX) (x1 : Int32) (x2 : Int32) (x3 : Int32) (x4 : Int32) (x5 : Int32) : Prop := zJ SY 3 mX10_keep (zRf v X) 32 [some (.ref 0), some (.int x1), some (.int x2), some (.int x3), some (.int x4), some (.int x5), none, none] [] X
abbrev LX10_keep_47 (v : Int32) (X : zX) (x1 : Int32) (x2 : Int32) (x3 : Int32) (x4 : Int32) (x5 : Int32) (x6 : Int32) (x7 : Int32) : Prop := zJ SY 3 mX10_keep (zRf v X) 47 [some (.ref 0), some (.int x1), some (.int x2), some (.int x3), some (.int x4), some (.int x5), some (.int x6), some (.int x7)] [] X
theorem eX10_keep (v : Int32) (X : zX) (a1 : Int32) (h : ∃ r1 : Int32, zPf SY 0 mX10_in [.long a1.toInt64, .long 1, .long 9] X r1 ∧ (((¬ r1 = 0) → (LX10_keep_18 v X a1 0 0)) ∧ ((r1 = 0) → ((-1) = v)))) : zPf SY 3 mX10_keep [.ref 0, .int a1] X v := by
  refine zP_in [some (.ref 0), some (.int a1), none, none, none, none, none, none] ⟨rfl, rfl, trivial⟩ (by decide) (Nat.le_of_ble_eq_true rfl) ?_
  refine j_iload_n dX10_keep_0 rfl ?_
  refine j_i2l dX10_keep_1 ?_
  refine j_lconst (v := 1) dX10_keep_2 rfl ?_
  refine j_ldc2 (v := 9) dX10_keep_3 qX10_114 ?_
  obtain ⟨r1, hc, h⟩ := h
  refine j_csf (lc := 0) (as := [.long a1.toInt64, .long 1, .long 9]) dX10_keep_6 iX10_in sX10_in kX10_102 (by decide) rfl rfl (Nat.zero_le _) hc ?_
  refine j_if_ne (tgt := 14) dX10_keep_9 (by decide) (fun hc2 => ?_) (fun hc2 => ?_)
  · have h := h.1 hc2
    refine j_iconst (v := 0) dX10_keep_14 rfl ?_
    refine j_istore_n (L2 := [some (.ref 0), some (.int a1), some (.int 0), none, none, none, none, none]) dX10_keep_15 (by decide) (zno rfl) rfl ?_
    refine j_iconst (v := 0) dX10_keep_16 rfl ?_
    refine j_istore_n (L2 := [some (.ref 0), some (.int a1), some (.int 0), some (.int 0), none, none, none, none]) dX10_keep_17 (by decide) (zno rfl) rfl ?_
    exact zJw h ⟨rfl, rfl, rfl, rfl, trivial⟩
  · have h := h.2 hc2
    refine j_iconst (v := (-1)) dX10_keep_12 rfl ?_
    refine j_iret dX10_keep_13 rfl rfl ?_
    exact ⟨by rw [h], rfl⟩
theorem bX10_keep_18 (v : Int32) (X : zX) (x1 : Int32) (x2 : Int32) (x3 : Int32) (h : (((X 0 10) ≤ x3) → (x2 = v)) ∧ ((¬ ((X 0 10) ≤ x3)) → (LX10_keep_32 v X x1 x2 x3 0 0))) : LX10_keep_18 v X x1 x2 x3 := by
  refine j_iload_n dX10_keep_18 rfl ?_
  refine j_aload_n dX10_keep_19 rfl ?_
  refine j_getf dX10_keep_20 fX10_109 rfl rfl ?_
  refine j_ic_ge (tgt := 144) dX10_keep_23 (by decide) (fun hc3 => ?_) (fun hc3 => ?_)
  · have h := h.1 hc3
    refine j_iload_n dX10_keep_144 rfl ?_
    refine j_iret dX10_keep_145 rfl rfl ?_
    exact ⟨by rw [h], rfl⟩
  · have h := h.2 hc3
    refine j_iconst (v := 0) dX10_keep_26 rfl ?_
    refine j_istore (L2 := [some (.ref 0), some (.int x1), some (.int x2), some (.int x3), some (.int 0), none, none, none]) dX10_keep_27 (by decide) (zno rfl) rfl ?_
    refine j_iconst (v := 0) dX10_keep_29 rfl ?_
    refine j_istore (L2 := [some (.ref 0), some (.int x1), some (.int x2), some (.int x3), some (.int 0), some (.int 0), none, none]) dX10_keep_30 (by decide) (zno rfl) rfl ?_
    exact zJw h ⟨rfl, rfl, rfl, rfl, rfl, rfl, trivial⟩
theorem bX10_keep_32 (v : Int32) (X : zX) (x1 : Int32) (x2 : Int32) (x3 : Int32) (x4 : Int32) (x5 : Int32) (h : (((X 0 3) ≤ x5) → (((x1 ≤ x4) → (LX10_keep_18 v X x1 (x2 + x1) (x3 + 1))) ∧ ((¬ (x1 ≤ x4)) → (LX10_keep_18 v X x1 (x2 + x4) (x3 + 1))))) ∧ ((¬ ((X 0 3) ≤ x5)) → (LX10_keep_47 v X x1 x2 x3 x4 x5 0 0))) : LX10_keep_32 v X x1 x2 x3 x4 x5 := by
  refine j_iload dX10_keep_32 rfl ?_
  refine j_aload_n dX10_keep_34 rfl ?_
  refine j_getf dX10_keep_35 fX10_106 rfl rfl ?_
  refine j_ic_ge (tgt := 123) dX10_keep_38 (by decide) (fun hc4 => ?_) (fun hc4 => ?_)
  · have h := h.1 hc4
    refine j_iload_n dX10_keep_123 rfl ?_
    refine j_iload dX10_keep_124 rfl ?_
    refine j_iload_n dX10_keep_126 rfl ?_
    refine j_ic_ge (tgt := 135) dX10_keep_127 (by decide) (fun hc5 => ?_) (fun hc5 => ?_)
    · have h := h.1 hc5
      refine j_iload_n dX10_keep_135 rfl ?_
      refine j_iadd dX10_keep_136 ?_
      refine j_istore_n (L2 := [some (.ref 0), some (.int x1), some (.int (x2 + x1)), some (.int x3), some (.int x4), some (.int x5), none, none]) dX10_keep_137 (by decide) (zno rfl) rfl ?_
      refine j_iinc (v := (x3 + 1)) (L2 := [some (.ref 0), some (.int x1), some (.int (x2 + x1)), some (.int (x3 + 1)), some (.int x4), some (.int x5), none, none]) dX10_keep_138 rfl rfl (by decide) (zno rfl) rfl ?_
      refine j_goto (tgt := 18) dX10_keep_141 (by decide) ?_
      exact zJw h ⟨rfl, rfl, rfl, rfl, trivial⟩
    · have h := h.2 hc5
      refine j_iload dX10_keep_130 rfl ?_
      refine j_goto (tgt := 136) dX10_keep_132 (by decide) ?_
      refine j_iadd dX10_keep_136 ?_
      refine j_istore_n (L2 := [some (.ref 0), some (.int x1), some (.int (x2 + x4)), some (.int x3), some (.int x4), some (.int x5), none, none]) dX10_keep_137 (by decide) (zno rfl) rfl ?_
      refine j_iinc (v := (x3 + 1)) (L2 := [some (.ref 0), some (.int x1), some (.int (x2 + x4)), some (.int (x3 + 1)), some (.int x4), some (.int x5), none, none]) dX10_keep_138 rfl rfl (by decide) (zno rfl) rfl ?_
      refine j_goto (tgt := 18) dX10_keep_141 (by decide) ?_
      exact zJw h ⟨rfl, rfl, rfl, rfl, trivial⟩
  · have h := h.2 hc4
    refine j_iconst (v := 0) dX10_keep_41 rfl ?_
    refine j_istore (L2 := [some (.ref 0), some (.int x1), some (.int x2), some (.int x3), some (.int x4), some (.int x5), some (.int 0), none]) dX10_keep_42 (by decide) (zno rfl) rfl ?_
    refine j_iconst (v := 0) dX10_keep_44 rfl ?_
    refine j_istore (L2 := [some (.ref 0), some (.int x1), some (.int x2), some (.int x3), some (.int x4), some (.int x5), some (.int 0), some (.int 0)]) dX10_keep_45 (by decide) (zno rfl) rfl ?_
    exact zJw h ⟨rfl, rfl, rfl, rfl, rfl, rfl, rfl, rfl, trivial⟩
theorem bX10_keep_47 (v : Int32) (X : zX) (x1 : Int32) (x2 : Int32) (x3 : Int32) (x4 : Int32) (x5 : Int32) (x6 : Int32) (x7 : Int32) (h : (((X 0 10) ≤ x7) → (∃ r7 : Int32, zPf SY 1 mX10_headsOf [.ref 0, .int x5] X r7 ∧ (((¬ r7 = 1) → (LX10_keep_32 v X x1 x2 x3 (x4 + 0) (x5 + 1))) ∧ ((r7 = 1) → (((x6 = 0) → (LX10_keep_32 v X x1 x2 x3 (x4 + 0) (x5 + 1))) ∧ ((¬ (x6 = 0)) → (LX10_keep_32 v X x1 x2 x3 (x4 + 1) (x5 + 1)))))))) ∧ ((¬ ((X 0 10) ≤ x7)) → (((¬ x6 = 0) → (LX10_keep_47 v X x1 x2 x3 x4 x5 1 (x7 + 1))) ∧ ((x6 = 0) → (((x7 = x3) → (LX10_keep_47 v X x1 x2 x3 x4 x5 0 (x7 + 1))) ∧ ((¬ (x7 = x3)) → (∃ r12 : Int32, zPf SY 2 mX10_canTeach [.ref 0, .int x3, .int x7, .int x5] X r12 ∧ (((r12 = 0) → (LX10_keep_47 v X x1 x2 x3 x4 x5 0 (x7 + 1))) ∧ ((¬ (r12 = 0)) → (LX10_keep_47 v X x1 x2 x3 x4 x5 1 (x7 + 1))))))))))) : LX10_keep_47 v X x1 x2 x3 x4 x5 x6 x7 := by
  refine j_iload dX10_keep_47 rfl ?_
  refine j_aload_n dX10_keep_49 rfl ?_
  refine j_getf dX10_keep_50 fX10_109 rfl rfl ?_
  refine j_ic_ge (tgt := 92) dX10_keep_53 (by decide) (fun hc6 => ?_) (fun hc6 => ?_)
  · have h := h.1 hc6
    refine j_iload dX10_keep_92 rfl ?_
    refine j_aload_n dX10_keep_94 rfl ?_
    refine j_iload dX10_keep_95 rfl ?_
    obtain ⟨r7, hc, h⟩ := h
    refine j_cvf (lc := 1) (as := [.int x5]) dX10_keep_97 iX10_headsOf vX10_headsOf kX10_150 (by decide) rfl rfl rfl rfl (by simp [Value.category]) hc ?_
    refine j_iconst (v := 1) dX10_keep_100 rfl ?_
    refine j_ic_ne (tgt := 113) dX10_keep_101 (by decide) (fun hc8 => ?_) (fun hc8 => ?_)
    · have h := h.1 hc8
      refine j_iconst (v := 0) dX10_keep_113 rfl ?_
      refine j_iadd dX10_keep_114 ?_
      refine j_istore (L2 := [some (.ref 0), some (.int x1), some (.int x2), some (.int x3), some (.int (x4 + 0)), some (.int x5), some (.int x6), some (.int x7)]) dX10_keep_115 (by decide) (zno rfl) rfl ?_
      refine j_iinc (v := (x5 + 1)) (L2 := [some (.ref 0), some (.int x1), some (.int x2), some (.int x3), some (.int (x4 + 0)), some (.int (x5 + 1)), some (.int x6), some (.int x7)]) dX10_keep_117 rfl rfl (by decide) (zno rfl) rfl ?_
      refine j_goto (tgt := 32) dX10_keep_120 (by decide) ?_
      exact zJw h ⟨rfl, rfl, rfl, rfl, rfl, rfl, trivial⟩
    · have h := h.2 hc8
      refine j_iload dX10_keep_104 rfl ?_
      refine j_if_eq (tgt := 113) dX10_keep_106 (by decide) (fun hc9 => ?_) (fun hc9 => ?_)
      · have h := h.1 hc9
        refine j_iconst (v := 0) dX10_keep_113 rfl ?_
        refine j_iadd dX10_keep_114 ?_
        refine j_istore (L2 := [some (.ref 0), some (.int x1), some (.int x2), some (.int x3), some (.int (x4 + 0)), some (.int x5), some (.int x6), some (.int x7)]) dX10_keep_115 (by decide) (zno rfl) rfl ?_
        refine j_iinc (v := (x5 + 1)) (L2 := [some (.ref 0), some (.int x1), some (.int x2), some (.int x3), some (.int (x4 + 0)), some (.int (x5 + 1)), some (.int x6), some (.int x7)]) dX10_keep_117 rfl rfl (by decide) (zno rfl) rfl ?_
        refine j_goto (tgt := 32) dX10_keep_120 (by decide) ?_
        exact zJw h ⟨rfl, rfl, rfl, rfl, rfl, rfl, trivial⟩
      · have h := h.2 hc9
        refine j_iconst (v := 1) dX10_keep_109 rfl ?_
        refine j_goto (tgt := 114) dX10_keep_110 (by decide) ?_
        refine j_iadd dX10_keep_114 ?_
        refine j_istore (L2 := [some (.ref 0), some (.int x1), some (.int x2), some (.int x3), some (.int (x4 + 1)), some (.int x5), some (.int x6), some (.int x7)]) dX10_keep_115 (by decide) (zno rfl) rfl ?_
        refine j_iinc (v := (x5 + 1)) (L2 := [some (.ref 0), some (.int x1), some (.int x2), some (.int x3), some (.int (x4 + 1)), some (.int (x5 + 1)), some (.int x6), some (.int x7)]) dX10_keep_117 rfl rfl (by decide) (zno rfl) rfl ?_
        refine j_goto (tgt := 32) dX10_keep_120 (by decide) ?_
        exact zJw h ⟨rfl, rfl, rfl, rfl, rfl, rfl, trivial⟩
  · have h := h.2 hc6
    refine j_iload dX10_keep_56 rfl ?_
    refine j_if_ne (tgt := 79) dX10_keep_58 (by decide) (fun hc10 => ?_) (fun hc10 => ?_)
    · have h := h.1 hc10
      refine j_iconst (v := 1) dX10_keep_79 rfl ?_
      refine j_goto (tgt := 84) dX10_keep_80 (by decide) ?_
      refine j_istore (L2 := [some (.ref 0), some (.int x1), some (.int x2), some (.int x3), some (.int x4), some (.int x5), some (.int 1), some (.int x7)]) dX10_keep_84 (by decide) (zno rfl) rfl ?_
      refine j_iinc (v := (x7 + 1)) (L2 := [some (.ref 0), some (.int x1), some (.int x2), some (.int x3), some (.int x4), some (.int x5), some (.int 1), some (.int (x7 + 1))]) dX10_keep_86 rfl rfl (by decide) (zno rfl) rfl ?_
      refine j_goto (tgt := 47) dX10_keep_89 (by decide) ?_
      exact zJw h ⟨rfl, rfl, rfl, rfl, rfl, rfl, rfl, rfl, trivial⟩
    · have h := h.2 hc10
      refine j_iload dX10_keep_61 rfl ?_
      refine j_iload_n dX10_keep_63 rfl ?_
      refine j_ic_eq (tgt := 83) dX10_keep_64 (by decide) (fun hc11 => ?_) (fun hc11 => ?_)
      · have h := h.1 hc11
        refine j_iconst (v := 0) dX10_keep_83 rfl ?_
        refine j_istore (L2 := [some (.ref 0), some (.int x1), some (.int x2), some (.int x3), some (.int x4), some (.int x5), some (.int 0), some (.int x7)]) dX10_keep_84 (by decide) (zno rfl) rfl ?_
        refine j_iinc (v := (x7 + 1)) (L2 := [some (.ref 0), some (.int x1), some (.int x2), some (.int x3), some (.int x4), some (.int x5), some (.int 0), some (.int (x7 + 1))]) dX10_keep_86 rfl rfl (by decide) (zno rfl) rfl ?_
        refine j_goto (tgt := 47) dX10_keep_89 (by decide) ?_
        exact zJw h ⟨rfl, rfl, rfl, rfl, rfl, rfl, rfl, rfl, trivial⟩
      · have h := h.2 hc11
        refine j_aload_n dX10_keep_67 rfl ?_
        refine j_iload_n dX10_keep_68 rfl ?_
        refine j_iload dX10_keep_69 rfl ?_
        refine j_iload dX10_keep_71 rfl ?_
        obtain ⟨r12, hc, h⟩ := h
        refine j_cvf (lc := 2) (as := [.int x3, .int x7, .int x5]) dX10_keep_73 iX10_canTeach vX10_canTeach kX10_324 (by decide) rfl rfl rfl rfl (Nat.zero_le _) hc ?_
        refine j_if_eq (tgt := 83) dX10_keep_76 (by decide) (fun hc13 => ?_) (fun hc13 => ?_)
        · have h := h.1 hc13
          refine j_iconst (v := 0) dX10_keep_83 rfl ?_
          refine j_istore (L2 := [some (.ref 0), some (.int x1), some (.int x2), some (.int x3), some (.int x4), some (.int x5), some (.int 0), some (.int x7)]) dX10_keep_84 (by decide) (zno rfl) rfl ?_
          refine j_iinc (v := (x7 + 1)) (L2 := [some (.ref 0), some (.int x1), some (.int x2), some (.int x3), some (.int x4), some (.int x5), some (.int 0), some (.int (x7 + 1))]) dX10_keep_86 rfl rfl (by decide) (zno rfl) rfl ?_
          refine j_goto (tgt := 47) dX10_keep_89 (by decide) ?_
          exact zJw h ⟨rfl, rfl, rfl, rfl, rfl, rfl, rfl, rfl, trivial⟩
        · have h := h.2 hc13
          refine j_iconst (v := 1) dX10_keep_79 rfl ?_
          refine j_goto (tgt := 84) dX10_keep_80 (by decide) ?_
          refine j_istore (L2 := [some (.ref 0), some (.int x1), some (.int x2), some (.int x3), some (.int x4), some (.int x5), some (.int 1), some (.int x7)]) dX10_keep_84 (by decide) (zno rfl) rfl ?_
          refine j_iinc (v := (x7 + 1)) (L2 := [some (.ref 0), some (.int x1), some (.int x2), some (.int x3), some (.int x4), some (.int x5), some (.int 1), some (.int (x7 + 1))]) dX10_keep_86 rfl rfl (by decide) (zno rfl) rfl ?_
          refine j_goto (tgt := 47) dX10_keep_89 (by decide) ?_
          exact zJw h ⟨rfl, rfl, rfl, rfl, rfl, rfl, rfl, rfl, trivial⟩
abbrev LX10_map_30 (v : Int32) (X : zX) (x1 : Int32) (x2 : Int32) (x3 : Int32) (x4 : Int32) : Prop := zJ SY 1 mX10_map (zRf v X) 30 [some (.ref 0), some (.int x1), some (.int x2), some (.int x3), some (.int x4), none, none] [] X
abbrev LX10_map_65 (v : Int32) (X : zX) (x1 : Int32) (x2 : Int32) (x3 : Int32) (x4 : Int32) (x5 : Int32) (x6 : Int32) : Prop := zJ SY 1 mX10_map (zRf v X) 65 [some (.ref 0), some (.int x1), some (.int x2), some (.int x3), some (.int x4), some (.int x5), some (.int x6)] [] X
theorem eX10_map (v : Int32) (X : zX) (a1 : Int32) (a2 : Int32) (h : ∃ r1 : Int32, zPf SY 0 mX10_in [.long a1.toInt64, .long 1, .long 15] X r1 ∧ (((r1 = 0) → ((-1) = v)) ∧ ((¬ (r1 = 0)) → (∃ r3 : Int32, zPf SY 0 mX10_in [.long a2.toInt64, .long 0, .long 1] X r3 ∧ (((¬ r3 = 0) → (LX10_map_30 v X a1 a2 (-4) 0)) ∧ ((r3 = 0) → ((-1) = v))))))) : zPf SY 1 mX10_map [.ref 0, .int a1, .int a2] X v := by
  refine zP_in [some (.ref 0), some (.int a1), some (.int a2), none, none, none, none] ⟨rfl, rfl, rfl, trivial⟩ (by decide) (Nat.le_of_ble_eq_true rfl) ?_
  refine j_iload_n dX10_map_0 rfl ?_
  refine j_i2l dX10_map_1 ?_
  refine j_lconst (v := 1) dX10_map_2 rfl ?_
  refine j_ldc2 (v := 15) dX10_map_3 qX10_116 ?_
  obtain ⟨r1, hc, h⟩ := h
  refine j_csf (lc := 0) (as := [.long a1.toInt64, .long 1, .long 15]) dX10_map_6 iX10_in sX10_in kX10_102 (by decide) rfl rfl (Nat.zero_le _) hc ?_
  refine j_if_eq (tgt := 22) dX10_map_9 (by decide) (fun hc2 => ?_) (fun hc2 => ?_)
  · have h := h.1 hc2
    refine j_iconst (v := (-1)) dX10_map_22 rfl ?_
    refine j_iret dX10_map_23 rfl rfl ?_
    exact ⟨by rw [h], rfl⟩
  · have h := h.2 hc2
    refine j_iload_n dX10_map_12 rfl ?_
    refine j_i2l dX10_map_13 ?_
    refine j_lconst (v := 0) dX10_map_14 rfl ?_
    refine j_lconst (v := 1) dX10_map_15 rfl ?_
    obtain ⟨r3, hc, h⟩ := h
    refine j_csf (lc := 0) (as := [.long a2.toInt64, .long 0, .long 1]) dX10_map_16 iX10_in sX10_in kX10_102 (by decide) rfl rfl (Nat.zero_le _) hc ?_
    refine j_if_ne (tgt := 24) dX10_map_19 (by decide) (fun hc4 => ?_) (fun hc4 => ?_)
    · have h := h.1 hc4
      refine j_bipush (v := (-4)) dX10_map_24 rfl ?_
      refine j_istore_n (L2 := [some (.ref 0), some (.int a1), some (.int a2), some (.int (-4)), none, none, none]) dX10_map_26 (by decide) (zno rfl) rfl ?_
      refine j_iconst (v := 0) dX10_map_27 rfl ?_
      refine j_istore (L2 := [some (.ref 0), some (.int a1), some (.int a2), some (.int (-4)), some (.int 0), none, none]) dX10_map_28 (by decide) (zno rfl) rfl ?_
      exact zJw h ⟨rfl, rfl, rfl, rfl, rfl, trivial⟩
    · have h := h.2 hc4
      refine j_iconst (v := (-1)) dX10_map_22 rfl ?_
      refine j_iret dX10_map_23 rfl rfl ?_
      exact ⟨by rw [h], rfl⟩
theorem bX10_map_30 (v : Int32) (X : zX) (x1 : Int32) (x2 : Int32) (x3 : Int32) (x4 : Int32) (h : (((zshl 1 (X 0 0)) ≤ x4) → (((¬ x3 = (-4)) → (((¬ x2 = 0) → (x3 = v)) ∧ ((x2 = 0) → (∃ r8 : Int32, zPf SY 0 mX10_countOf [.int x3] X r8 ∧ (r8 = v))))) ∧ ((x3 = (-4)) → ((-4) = v)))) ∧ ((¬ ((zshl 1 (X 0 0)) ≤ x4)) → (((x3 = (-4)) → (LX10_map_65 v X x1 x2 x3 x4 0 0)) ∧ ((¬ (x3 = (-4))) → (∃ r10 : Int32, zPf SY 0 mX10_countOf [.int x4] X r10 ∧ (∃ r11 : Int32, zPf SY 0 mX10_countOf [.int x3] X r11 ∧ (((r11 ≤ r10) → (LX10_map_30 v X x1 x2 x3 (x4 + 1))) ∧ ((¬ (r11 ≤ r10)) → (LX10_map_65 v X x1 x2 x3 x4 0 0))))))))) : LX10_map_30 v X x1 x2 x3 x4 := by
  refine j_iload dX10_map_30 rfl ?_
  refine j_iconst (v := 1) dX10_map_32 rfl ?_
  refine j_aload_n dX10_map_33 rfl ?_
  refine j_getf dX10_map_34 fX10_98 rfl rfl ?_
  refine j_ishl dX10_map_37 ?_
  refine j_ic_ge (tgt := 148) dX10_map_38 (by decide) (fun hc5 => ?_) (fun hc5 => ?_)
  · have h := h.1 hc5
    refine j_iload_n dX10_map_148 rfl ?_
    refine j_bipush (v := (-4)) dX10_map_149 rfl ?_
    refine j_ic_ne (tgt := 159) dX10_map_151 (by decide) (fun hc6 => ?_) (fun hc6 => ?_)
    · have h := h.1 hc6
      refine j_iload_n dX10_map_159 rfl ?_
      refine j_if_ne (tgt := 170) dX10_map_160 (by decide) (fun hc7 => ?_) (fun hc7 => ?_)
      · have h := h.1 hc7
        refine j_iload_n dX10_map_170 rfl ?_
        refine j_iret dX10_map_171 rfl rfl ?_
        exact ⟨by rw [h], rfl⟩
      · have h := h.2 hc7
        refine j_iload_n dX10_map_163 rfl ?_
        obtain ⟨r8, hc, h⟩ := h
        refine j_csf (lc := 0) (as := [.int x3]) dX10_map_164 iX10_countOf sX10_countOf kX10_300 (by decide) rfl rfl (Nat.zero_le _) hc ?_
        refine j_goto (tgt := 171) dX10_map_167 (by decide) ?_
        refine j_iret dX10_map_171 rfl rfl ?_
        exact ⟨by rw [h], rfl⟩
    · have h := h.2 hc6
      refine j_bipush (v := (-4)) dX10_map_154 rfl ?_
      refine j_goto (tgt := 171) dX10_map_156 (by decide) ?_
      refine j_iret dX10_map_171 rfl rfl ?_
      exact ⟨by rw [h], rfl⟩
  · have h := h.2 hc5
    refine j_iload_n dX10_map_41 rfl ?_
    refine j_bipush (v := (-4)) dX10_map_42 rfl ?_
    refine j_ic_eq (tgt := 59) dX10_map_44 (by decide) (fun hc9 => ?_) (fun hc9 => ?_)
    · have h := h.1 hc9
      refine j_iconst (v := 0) dX10_map_59 rfl ?_
      refine j_istore (L2 := [some (.ref 0), some (.int x1), some (.int x2), some (.int x3), some (.int x4), some (.int 0), none]) dX10_map_60 (by decide) (zno rfl) rfl ?_
      refine j_iconst (v := 0) dX10_map_62 rfl ?_
      refine j_istore (L2 := [some (.ref 0), some (.int x1), some (.int x2), some (.int x3), some (.int x4), some (.int 0), some (.int 0)]) dX10_map_63 (by decide) (zno rfl) rfl ?_
      exact zJw h ⟨rfl, rfl, rfl, rfl, rfl, rfl, rfl, trivial⟩
    · have h := h.2 hc9
      refine j_iload dX10_map_47 rfl ?_
      obtain ⟨r10, hc, h⟩ := h
      refine j_csf (lc := 0) (as := [.int x4]) dX10_map_49 iX10_countOf sX10_countOf kX10_300 (by decide) rfl rfl (Nat.zero_le _) hc ?_
      refine j_iload_n dX10_map_52 rfl ?_
      obtain ⟨r11, hc, h⟩ := h
      refine j_csf (lc := 0) (as := [.int x3]) dX10_map_53 iX10_countOf sX10_countOf kX10_300 (by decide) rfl rfl (by simp [Value.category]) hc ?_
      refine j_ic_ge (tgt := 142) dX10_map_56 (by decide) (fun hc12 => ?_) (fun hc12 => ?_)
      · have h := h.1 hc12
        refine j_iinc (v := (x4 + 1)) (L2 := [some (.ref 0), some (.int x1), some (.int x2), some (.int x3), some (.int (x4 + 1)), none, none]) dX10_map_142 rfl rfl (by decide) (zno rfl) rfl ?_
        refine j_goto (tgt := 30) dX10_map_145 (by decide) ?_
        exact zJw h ⟨rfl, rfl, rfl, rfl, rfl, trivial⟩
      · have h := h.2 hc12
        refine j_iconst (v := 0) dX10_map_59 rfl ?_
        refine j_istore (L2 := [some (.ref 0), some (.int x1), some (.int x2), some (.int x3), some (.int x4), some (.int 0), none]) dX10_map_60 (by decide) (zno rfl) rfl ?_
        refine j_iconst (v := 0) dX10_map_62 rfl ?_
        refine j_istore (L2 := [some (.ref 0), some (.int x1), some (.int x2), some (.int x3), some (.int x4), some (.int 0), some (.int 0)]) dX10_map_63 (by decide) (zno rfl) rfl ?_
        exact zJw h ⟨rfl, rfl, rfl, rfl, rfl, rfl, rfl, trivial⟩
theorem bX10_map_65 (v : Int32) (X : zX) (x1 : Int32) (x2 : Int32) (x3 : Int32) (x4 : Int32) (x5 : Int32) (x6 : Int32) (h : (((X 0 3) ≤ x6) → (((¬ (x1 &&& (x5 ^^^ (-1))) = 0) → (LX10_map_30 v X x1 x2 x3 (x4 + 1))) ∧ (((x1 &&& (x5 ^^^ (-1))) = 0) → (LX10_map_30 v X x1 x2 x4 (x4 + 1))))) ∧ ((¬ ((X 0 3) ≤ x6)) → (∃ j15 : Nat, x6 = nI j15 ∧ j15 < 24 ∧ (((¬ (X 7 j15) = (-4)) → (LX10_map_65 v X x1 x2 x3 x4 (x5 ||| 0) (x6 + 1))) ∧ (((X 7 j15) = (-4)) → (∃ j17 : Nat, x6 = nI j17 ∧ j17 < 24 ∧ (((¬ ((zshr x4 (X 4 j17)) &&& 1) = 1) → (LX10_map_65 v X x1 x2 x3 x4 (x5 ||| 0) (x6 + 1))) ∧ ((((zshr x4 (X 4 j17)) &&& 1) = 1) → (∃ j19 : Nat, x6 = nI j19 ∧ j19 < 24 ∧ (LX10_map_65 v X x1 x2 x3 x4 (x5 ||| (zshl 1 (X 3 j19))) (x6 + 1))))))))))) : LX10_map_65 v X x1 x2 x3 x4 x5 x6 := by
  refine j_iload dX10_map_65 rfl ?_
  refine j_aload_n dX10_map_67 rfl ?_
  refine j_getf dX10_map_68 fX10_106 rfl rfl ?_
  refine j_ic_ge (tgt := 126) dX10_map_71 (by decide) (fun hc13 => ?_) (fun hc13 => ?_)
  · have h := h.1 hc13
    refine j_iload_n dX10_map_126 rfl ?_
    refine j_iload dX10_map_127 rfl ?_
    refine j_iconst (v := (-1)) dX10_map_129 rfl ?_
    refine j_ixor dX10_map_130 ?_
    refine j_iand dX10_map_131 ?_
    refine j_if_ne (tgt := 140) dX10_map_132 (by decide) (fun hc14 => ?_) (fun hc14 => ?_)
    · have h := h.1 hc14
      refine j_iload_n dX10_map_140 rfl ?_
      refine j_istore_n (L2 := [some (.ref 0), some (.int x1), some (.int x2), some (.int x3), some (.int x4), some (.int x5), some (.int x6)]) dX10_map_141 (by decide) (zno rfl) rfl ?_
      refine j_iinc (v := (x4 + 1)) (L2 := [some (.ref 0), some (.int x1), some (.int x2), some (.int x3), some (.int (x4 + 1)), some (.int x5), some (.int x6)]) dX10_map_142 rfl rfl (by decide) (zno rfl) rfl ?_
      refine j_goto (tgt := 30) dX10_map_145 (by decide) ?_
      exact zJw h ⟨rfl, rfl, rfl, rfl, rfl, trivial⟩
    · have h := h.2 hc14
      refine j_iload dX10_map_135 rfl ?_
      refine j_goto (tgt := 141) dX10_map_137 (by decide) ?_
      refine j_istore_n (L2 := [some (.ref 0), some (.int x1), some (.int x2), some (.int x4), some (.int x4), some (.int x5), some (.int x6)]) dX10_map_141 (by decide) (zno rfl) rfl ?_
      refine j_iinc (v := (x4 + 1)) (L2 := [some (.ref 0), some (.int x1), some (.int x2), some (.int x4), some (.int (x4 + 1)), some (.int x5), some (.int x6)]) dX10_map_142 rfl rfl (by decide) (zno rfl) rfl ?_
      refine j_goto (tgt := 30) dX10_map_145 (by decide) ?_
      exact zJw h ⟨rfl, rfl, rfl, rfl, rfl, trivial⟩
  · have h := h.2 hc13
    refine j_iload dX10_map_74 rfl ?_
    refine j_aload_n dX10_map_76 rfl ?_
    refine j_getr dX10_map_77 fX10_28 rfl rfl ?_
    refine j_iload dX10_map_80 rfl ?_
    obtain ⟨j15, ej15, lj15, h⟩ := h
    refine j_iald dX10_map_82 rfl (zin ej15 lj15 (by decide)) ?_
    rw [zcl ej15 lj15 (by decide)]
    refine j_bipush (v := (-4)) dX10_map_83 rfl ?_
    refine j_ic_ne (tgt := 116) dX10_map_85 (by decide) (fun hc16 => ?_) (fun hc16 => ?_)
    · have h := h.1 hc16
      refine j_iconst (v := 0) dX10_map_116 rfl ?_
      refine j_ior dX10_map_117 ?_
      refine j_istore (L2 := [some (.ref 0), some (.int x1), some (.int x2), some (.int x3), some (.int x4), some (.int (x5 ||| 0)), some (.int x6)]) dX10_map_118 (by decide) (zno rfl) rfl ?_
      refine j_iinc (v := (x6 + 1)) (L2 := [some (.ref 0), some (.int x1), some (.int x2), some (.int x3), some (.int x4), some (.int (x5 ||| 0)), some (.int (x6 + 1))]) dX10_map_120 rfl rfl (by decide) (zno rfl) rfl ?_
      refine j_goto (tgt := 65) dX10_map_123 (by decide) ?_
      exact zJw h ⟨rfl, rfl, rfl, rfl, rfl, rfl, rfl, trivial⟩
    · have h := h.2 hc16
      refine j_iload dX10_map_88 rfl ?_
      refine j_aload_n dX10_map_90 rfl ?_
      refine j_getr dX10_map_91 fX10_19 rfl rfl ?_
      refine j_iload dX10_map_94 rfl ?_
      obtain ⟨j17, ej17, lj17, h⟩ := h
      refine j_iald dX10_map_96 rfl (zin ej17 lj17 (by decide)) ?_
      rw [zcl ej17 lj17 (by decide)]
      refine j_ishr dX10_map_97 ?_
      refine j_iconst (v := 1) dX10_map_98 rfl ?_
      refine j_iand dX10_map_99 ?_
      refine j_iconst (v := 1) dX10_map_100 rfl ?_
      refine j_ic_ne (tgt := 116) dX10_map_101 (by decide) (fun hc18 => ?_) (fun hc18 => ?_)
      · have h := h.1 hc18
        refine j_iconst (v := 0) dX10_map_116 rfl ?_
        refine j_ior dX10_map_117 ?_
        refine j_istore (L2 := [some (.ref 0), some (.int x1), some (.int x2), some (.int x3), some (.int x4), some (.int (x5 ||| 0)), some (.int x6)]) dX10_map_118 (by decide) (zno rfl) rfl ?_
        refine j_iinc (v := (x6 + 1)) (L2 := [some (.ref 0), some (.int x1), some (.int x2), some (.int x3), some (.int x4), some (.int (x5 ||| 0)), some (.int (x6 + 1))]) dX10_map_120 rfl rfl (by decide) (zno rfl) rfl ?_
        refine j_goto (tgt := 65) dX10_map_123 (by decide) ?_
        exact zJw h ⟨rfl, rfl, rfl, rfl, rfl, rfl, rfl, trivial⟩
      · have h := h.2 hc18
        refine j_iconst (v := 1) dX10_map_104 rfl ?_
        refine j_aload_n dX10_map_105 rfl ?_
        refine j_getr dX10_map_106 fX10_16 rfl rfl ?_
        refine j_iload dX10_map_109 rfl ?_
        obtain ⟨j19, ej19, lj19, h⟩ := h
        refine j_iald dX10_map_111 rfl (zin ej19 lj19 (by decide)) ?_
        rw [zcl ej19 lj19 (by decide)]
        refine j_ishl dX10_map_112 ?_
        refine j_goto (tgt := 117) dX10_map_113 (by decide) ?_
        refine j_ior dX10_map_117 ?_
        refine j_istore (L2 := [some (.ref 0), some (.int x1), some (.int x2), some (.int x3), some (.int x4), some (.int (x5 ||| (zshl 1 (X 3 j19)))), some (.int x6)]) dX10_map_118 (by decide) (zno rfl) rfl ?_
        refine j_iinc (v := (x6 + 1)) (L2 := [some (.ref 0), some (.int x1), some (.int x2), some (.int x3), some (.int x4), some (.int (x5 ||| (zshl 1 (X 3 j19)))), some (.int (x6 + 1))]) dX10_map_120 rfl rfl (by decide) (zno rfl) rfl ?_
        refine j_goto (tgt := 65) dX10_map_123 (by decide) ?_
        exact zJw h ⟨rfl, rfl, rfl, rfl, rfl, rfl, rfl, trivial⟩
theorem eX10_isSheet (v : Int32) (X : zX) (a1 : Int32) (a2 : Int32) (h : ∃ r1 : Int32, zPf SY 0 mX10_in [.long a1.toInt64, .long 0, .long 3] X r1 ∧ (((r1 = 0) → (0 = v)) ∧ ((¬ (r1 = 0)) → (∃ r3 : Int32, zPf SY 0 mX10_in [.long a2.toInt64, .long 0, .long 2] X r3 ∧ (((r3 = 0) → (0 = v)) ∧ ((¬ (r3 = 0)) → (1 = v))))))) : zPf SY 1 mX10_isSheet [.int a1, .int a2] X v := by
  refine zP_in [some (.int a1), some (.int a2)] ⟨rfl, rfl, trivial⟩ (by decide) (Nat.le_of_ble_eq_true rfl) ?_
  refine j_iload_n dX10_isSheet_0 rfl ?_
  refine j_i2l dX10_isSheet_1 ?_
  refine j_lconst (v := 0) dX10_isSheet_2 rfl ?_
  refine j_ldc2 (v := 3) dX10_isSheet_3 qX10_112 ?_
  obtain ⟨r1, hc, h⟩ := h
  refine j_csf (lc := 0) (as := [.long a1.toInt64, .long 0, .long 3]) dX10_isSheet_6 iX10_in sX10_in kX10_102 (by decide) rfl rfl (Nat.zero_le _) hc ?_
  refine j_if_eq (tgt := 28) dX10_isSheet_9 (by decide) (fun hc2 => ?_) (fun hc2 => ?_)
  · have h := h.1 hc2
    refine j_iconst (v := 0) dX10_isSheet_28 rfl ?_
    refine j_iret dX10_isSheet_29 rfl (by decide) ?_
    exact ⟨by rw [h], rfl⟩
  · have h := h.2 hc2
    refine j_iload_n dX10_isSheet_12 rfl ?_
    refine j_i2l dX10_isSheet_13 ?_
    refine j_lconst (v := 0) dX10_isSheet_14 rfl ?_
    refine j_ldc2 (v := 2) dX10_isSheet_15 qX10_257 ?_
    obtain ⟨r3, hc, h⟩ := h
    refine j_csf (lc := 0) (as := [.long a2.toInt64, .long 0, .long 2]) dX10_isSheet_18 iX10_in sX10_in kX10_102 (by decide) rfl rfl (Nat.zero_le _) hc ?_
    refine j_if_eq (tgt := 28) dX10_isSheet_21 (by decide) (fun hc4 => ?_) (fun hc4 => ?_)
    · have h := h.1 hc4
      refine j_iconst (v := 0) dX10_isSheet_28 rfl ?_
      refine j_iret dX10_isSheet_29 rfl (by decide) ?_
      exact ⟨by rw [h], rfl⟩
    · have h := h.2 hc4
      refine j_iconst (v := 1) dX10_isSheet_24 rfl ?_
      refine j_goto (tgt := 29) dX10_isSheet_25 (by decide) ?_
      refine j_iret dX10_isSheet_29 rfl (by decide) ?_
      exact ⟨by rw [h], rfl⟩
abbrev LX10_sheet_40 (P : Int32 → zX → Prop) (M : zX) (x1 : Int32) (x4 : Int32) : Prop := zJ SY 2 mX10_sheet (zRi P) 40 [some (.ref 0), some (.int x1), none, none, some (.int x4)] [] M
theorem eX10_sheet (P : Int32 → zX → Prop) (X : zX) (a1 : Int32) (a2 : Int32) (a3 : Int32) (h : ∃ r1 : Int32, zPf SY 1 mX10_isSheet [.int a1, .int a2] X r1 ∧ (((r1 = 0) → (P (-1) X)) ∧ ((¬ (r1 = 0)) → (((a3 ≤ 40) → (((0 ≤ a3) → (∃ j5 : Nat, a1 = nI j5 ∧ j5 < 4 ∧ (∃ j6 : Nat, a1 = nI j6 ∧ j6 < 4 ∧ (LX10_sheet_40 P (zs (zs X 25 j5 a2) 26 j6 a3) a1 0)))) ∧ ((¬ (0 ≤ a3)) → (P (-14) X)))) ∧ ((¬ (a3 ≤ 40)) → (P (-1) X)))))) : zPi SY 2 mX10_sheet [.ref 0, .int a1, .int a2, .int a3] X P := by
  refine zP_in [some (.ref 0), some (.int a1), some (.int a2), some (.int a3), none] ⟨rfl, rfl, rfl, rfl, trivial⟩ (by decide) (Nat.le_of_ble_eq_true rfl) ?_
  refine j_iload_n dX10_sheet_0 rfl ?_
  refine j_iload_n dX10_sheet_1 rfl ?_
  obtain ⟨r1, hc, h⟩ := h
  refine j_csf (lc := 1) (as := [.int a1, .int a2]) dX10_sheet_2 iX10_isSheet sX10_isSheet kX10_328 (by decide) rfl rfl (Nat.zero_le _) hc ?_
  refine j_if_eq (tgt := 14) dX10_sheet_5 (by decide) (fun hc2 => ?_) (fun hc2 => ?_)
  · have h := h.1 hc2
    refine j_iconst (v := (-1)) dX10_sheet_14 rfl ?_
    refine j_iret dX10_sheet_15 rfl rfl ?_
    exact ⟨_, rfl, h⟩
  · have h := h.2 hc2
    refine j_iload_n dX10_sheet_8 rfl ?_
    refine j_bipush (v := 40) dX10_sheet_9 rfl ?_
    refine j_ic_le (tgt := 16) dX10_sheet_11 (by decide) (fun hc3 => ?_) (fun hc3 => ?_)
    · have h := h.1 hc3
      refine j_iload_n dX10_sheet_16 rfl ?_
      refine j_if_ge (tgt := 23) dX10_sheet_17 (by decide) (fun hc4 => ?_) (fun hc4 => ?_)
      · have h := h.1 hc4
        refine j_aload_n dX10_sheet_23 rfl ?_
        refine j_getr dX10_sheet_24 fX10_83 rfl rfl ?_
        refine j_iload_n dX10_sheet_27 rfl ?_
        refine j_iload_n dX10_sheet_28 rfl ?_
        obtain ⟨j5, ej5, lj5, h⟩ := h
        refine j_iast dX10_sheet_29 rfl (zin ej5 lj5 (by decide)) ?_
        rw [zcl ej5 lj5 (by decide)]
        refine j_aload_n dX10_sheet_30 rfl ?_
        refine j_getr dX10_sheet_31 fX10_86 rfl rfl ?_
        refine j_iload_n dX10_sheet_34 rfl ?_
        refine j_iload_n dX10_sheet_35 rfl ?_
        obtain ⟨j6, ej6, lj6, h⟩ := h
        refine j_iast dX10_sheet_36 rfl (zin ej6 lj6 (by decide)) ?_
        rw [zcl ej6 lj6 (by decide)]
        refine j_iconst (v := 0) dX10_sheet_37 rfl ?_
        refine j_istore (L2 := [some (.ref 0), some (.int a1), some (.int a2), some (.int a3), some (.int 0)]) dX10_sheet_38 (by decide) (zno rfl) rfl ?_
        exact zJw h ⟨rfl, rfl, rfl, trivial⟩
      · have h := h.2 hc4
        refine j_bipush (v := (-14)) dX10_sheet_20 rfl ?_
        refine j_iret dX10_sheet_22 rfl rfl ?_
        exact ⟨_, rfl, h⟩
    · have h := h.2 hc3
      refine j_iconst (v := (-1)) dX10_sheet_14 rfl ?_
      refine j_iret dX10_sheet_15 rfl rfl ?_
      exact ⟨_, rfl, h⟩
theorem bX10_sheet_40 (P : Int32 → zX → Prop) (M : zX) (x1 : Int32) (x4 : Int32) (h : ((40 ≤ x4) → (P 1 M)) ∧ ((¬ (40 ≤ x4)) → (∃ j8 : Nat, ((40 * x1) + x4) = nI j8 ∧ j8 < 160 ∧ (LX10_sheet_40 P (zs M 27 j8 0) x1 (x4 + 1))))) : LX10_sheet_40 P M x1 x4 := by
  refine j_iload dX10_sheet_40 rfl ?_
  refine j_bipush (v := 40) dX10_sheet_42 rfl ?_
  refine j_ic_ge (tgt := 66) dX10_sheet_44 (by decide) (fun hc7 => ?_) (fun hc7 => ?_)
  · have h := h.1 hc7
    refine j_iconst (v := 1) dX10_sheet_66 rfl ?_
    refine j_iret dX10_sheet_67 rfl rfl ?_
    exact ⟨_, rfl, h⟩
  · have h := h.2 hc7
    refine j_aload_n dX10_sheet_47 rfl ?_
    refine j_getr dX10_sheet_48 fX10_89 rfl rfl ?_
    refine j_bipush (v := 40) dX10_sheet_51 rfl ?_
    refine j_iload_n dX10_sheet_53 rfl ?_
    refine j_imul dX10_sheet_54 ?_
    refine j_iload dX10_sheet_55 rfl ?_
    refine j_iadd dX10_sheet_57 ?_
    refine j_iconst (v := 0) dX10_sheet_58 rfl ?_
    obtain ⟨j8, ej8, lj8, h⟩ := h
    refine j_iast dX10_sheet_59 rfl (zin ej8 lj8 (by decide)) ?_
    rw [zcl ej8 lj8 (by decide)]
    refine j_iinc (v := (x4 + 1)) (L2 := [some (.ref 0), some (.int x1), none, none, some (.int (x4 + 1))]) dX10_sheet_60 rfl rfl (by decide) (zno rfl) rfl ?_
    refine j_goto (tgt := 40) dX10_sheet_63 (by decide) ?_
    exact zJw h ⟨rfl, rfl, rfl, trivial⟩
theorem eX10_lay (P : Int32 → zX → Prop) (X : zX) (a1 : Int32) (a2 : Int32) (a3 : Int32) (h : ∃ r1 : Int32, zPf SY 1 mX10_isSheet [.int a1, .int 0] X r1 ∧ (((¬ r1 = 0) → (∃ j3 : Nat, a1 = nI j3 ∧ j3 < 4 ∧ (((¬ (X 25 j3) = (-4)) → (∃ j5 : Nat, a1 = nI j5 ∧ j5 < 4 ∧ (∃ r6 : Int32, zPf SY 0 mX10_in [.long a2.toInt64, .long 0, .long ((X 26 j5) - 1).toInt64] X r6 ∧ (((¬ r6 = 0) → (∃ j8 : Nat, a1 = nI j8 ∧ j8 < 4 ∧ (((¬ (X 25 j8) = 0) → (∃ j10 : Nat, a1 = nI j10 ∧ j10 < 4 ∧ (((¬ (X 25 j10) = 1) → (∃ j12 : Nat, ((40 * a1) + a2) = nI j12 ∧ j12 < 160 ∧ (P 1 (zs X 27 j12 a3)))) ∧ (((X 25 j10) = 1) → (∃ j13 : Nat, ((40 * a1) + a2) = nI j13 ∧ j13 < 160 ∧ (P 1 (zs X 27 j13 a3.toInt16.toInt32))))))) ∧ (((X 25 j8) = 0) → (∃ j14 : Nat, ((40 * a1) + a2) = nI j14 ∧ j14 < 160 ∧ (P 1 (zs X 27 j14 a3.toInt8.toInt32))))))) ∧ ((r6 = 0) → (P (-12) X)))))) ∧ (((X 25 j3) = (-4)) → (P (-11) X))))) ∧ ((r1 = 0) → (P (-1) X)))) : zPi SY 2 mX10_lay [.ref 0, .int a1, .int a2, .int a3] X P := by
  refine zP_in [some (.ref 0), some (.int a1), some (.int a2), some (.int a3)] ⟨rfl, rfl, rfl, rfl, trivial⟩ (by decide) (Nat.le_of_ble_eq_true rfl) ?_
  refine j_iload_n dX10_lay_0 rfl ?_
  refine j_iconst (v := 0) dX10_lay_1 rfl ?_
  obtain ⟨r1, hc, h⟩ := h
  refine j_csf (lc := 1) (as := [.int a1, .int 0]) dX10_lay_2 iX10_isSheet sX10_isSheet kX10_328 (by decide) rfl rfl (Nat.zero_le _) hc ?_
  refine j_if_ne (tgt := 10) dX10_lay_5 (by decide) (fun hc2 => ?_) (fun hc2 => ?_)
  · have h := h.1 hc2
    refine j_aload_n dX10_lay_10 rfl ?_
    refine j_getr dX10_lay_11 fX10_83 rfl rfl ?_
    refine j_iload_n dX10_lay_14 rfl ?_
    obtain ⟨j3, ej3, lj3, h⟩ := h
    refine j_iald dX10_lay_15 rfl (zin ej3 lj3 (by decide)) ?_
    rw [zcl ej3 lj3 (by decide)]
    refine j_bipush (v := (-4)) dX10_lay_16 rfl ?_
    refine j_ic_ne (tgt := 24) dX10_lay_18 (by decide) (fun hc4 => ?_) (fun hc4 => ?_)
    · have h := h.1 hc4
      refine j_iload_n dX10_lay_24 rfl ?_
      refine j_i2l dX10_lay_25 ?_
      refine j_lconst (v := 0) dX10_lay_26 rfl ?_
      refine j_aload_n dX10_lay_27 rfl ?_
      refine j_getr dX10_lay_28 fX10_86 rfl rfl ?_
      refine j_iload_n dX10_lay_31 rfl ?_
      obtain ⟨j5, ej5, lj5, h⟩ := h
      refine j_iald dX10_lay_32 rfl (zin ej5 lj5 (by decide)) ?_
      rw [zcl ej5 lj5 (by decide)]
      refine j_iconst (v := 1) dX10_lay_33 rfl ?_
      refine j_isub dX10_lay_34 ?_
      refine j_i2l dX10_lay_35 ?_
      obtain ⟨r6, hc, h⟩ := h
      refine j_csf (lc := 0) (as := [.long a2.toInt64, .long 0, .long ((X 26 j5) - 1).toInt64]) dX10_lay_36 iX10_in sX10_in kX10_102 (by decide) rfl rfl (Nat.zero_le _) hc ?_
      refine j_if_ne (tgt := 45) dX10_lay_39 (by decide) (fun hc7 => ?_) (fun hc7 => ?_)
      · have h := h.1 hc7
        refine j_aload_n dX10_lay_45 rfl ?_
        refine j_getr dX10_lay_46 fX10_89 rfl rfl ?_
        refine j_bipush (v := 40) dX10_lay_49 rfl ?_
        refine j_iload_n dX10_lay_51 rfl ?_
        refine j_imul dX10_lay_52 ?_
        refine j_iload_n dX10_lay_53 rfl ?_
        refine j_iadd dX10_lay_54 ?_
        refine j_aload_n dX10_lay_55 rfl ?_
        refine j_getr dX10_lay_56 fX10_83 rfl rfl ?_
        refine j_iload_n dX10_lay_59 rfl ?_
        obtain ⟨j8, ej8, lj8, h⟩ := h
        refine j_iald dX10_lay_60 rfl (zin ej8 lj8 (by decide)) ?_
        rw [zcl ej8 lj8 (by decide)]
        refine j_if_ne (tgt := 69) dX10_lay_61 (by decide) (fun hc9 => ?_) (fun hc9 => ?_)
        · have h := h.1 hc9
          refine j_aload_n dX10_lay_69 rfl ?_
          refine j_getr dX10_lay_70 fX10_83 rfl rfl ?_
          refine j_iload_n dX10_lay_73 rfl ?_
          obtain ⟨j10, ej10, lj10, h⟩ := h
          refine j_iald dX10_lay_74 rfl (zin ej10 lj10 (by decide)) ?_
          rw [zcl ej10 lj10 (by decide)]
          refine j_iconst (v := 1) dX10_lay_75 rfl ?_
          refine j_ic_ne (tgt := 84) dX10_lay_76 (by decide) (fun hc11 => ?_) (fun hc11 => ?_)
          · have h := h.1 hc11
            refine j_iload_n dX10_lay_84 rfl ?_
            obtain ⟨j12, ej12, lj12, h⟩ := h
            refine j_iast dX10_lay_85 rfl (zin ej12 lj12 (by decide)) ?_
            rw [zcl ej12 lj12 (by decide)]
            refine j_iconst (v := 1) dX10_lay_86 rfl ?_
            refine j_iret dX10_lay_87 rfl rfl ?_
            exact ⟨_, rfl, h⟩
          · have h := h.2 hc11
            refine j_iload_n dX10_lay_79 rfl ?_
            refine j_i2s dX10_lay_80 ?_
            refine j_goto (tgt := 85) dX10_lay_81 (by decide) ?_
            obtain ⟨j13, ej13, lj13, h⟩ := h
            refine j_iast dX10_lay_85 rfl (zin ej13 lj13 (by decide)) ?_
            rw [zcl ej13 lj13 (by decide)]
            refine j_iconst (v := 1) dX10_lay_86 rfl ?_
            refine j_iret dX10_lay_87 rfl rfl ?_
            exact ⟨_, rfl, h⟩
        · have h := h.2 hc9
          refine j_iload_n dX10_lay_64 rfl ?_
          refine j_i2b dX10_lay_65 ?_
          refine j_goto (tgt := 85) dX10_lay_66 (by decide) ?_
          obtain ⟨j14, ej14, lj14, h⟩ := h
          refine j_iast dX10_lay_85 rfl (zin ej14 lj14 (by decide)) ?_
          rw [zcl ej14 lj14 (by decide)]
          refine j_iconst (v := 1) dX10_lay_86 rfl ?_
          refine j_iret dX10_lay_87 rfl rfl ?_
          exact ⟨_, rfl, h⟩
      · have h := h.2 hc7
        refine j_bipush (v := (-12)) dX10_lay_42 rfl ?_
        refine j_iret dX10_lay_44 rfl rfl ?_
        exact ⟨_, rfl, h⟩
    · have h := h.2 hc4
      refine j_bipush (v := (-11)) dX10_lay_21 rfl ?_
      refine j_iret dX10_lay_23 rfl rfl ?_
      exact ⟨_, rfl, h⟩
  · have h := h.2 hc2
    refine j_iconst (v := (-1)) dX10_lay_8 rfl ?_
    refine j_iret dX10_lay_9 rfl rfl ?_
    exact ⟨_, rfl, h⟩
abbrev LX10_read_52 (P : Int32 → zX → Prop) (M : zX) (x1 : Int32) (x2 : Int32) (x3 : Int32) (x4 : Int32) (x5 : Int32) (x6 : Int32) (x7 : Int32) (x8 : Int32) : Prop := zJ SY 2 mX10_read (zRi P) 52 [some (.ref 0), some (.int x1), some (.int x2), some (.int x3), some (.int x4), some (.int x5), some (.int x6), some (.int x7), some (.int x8), none, none, none] [] M
theorem eX10_read (P : Int32 → zX → Prop) (X : zX) (a1 : Int32) (a2 : Int32) (a3 : Int32) (a4 : Int32) (a5 : Int32) (h : ∃ r1 : Int32, zPf SY 1 mX10_isOne [.ref 0, .int a1] X r1 ∧ (((r1 = 0) → (P (-1) X)) ∧ ((¬ (r1 = 0)) → (∃ r3 : Int32, zPf SY 1 mX10_isSheet [.int a2, .int a3] X r3 ∧ (((r3 = 0) → (P (-1) X)) ∧ ((¬ (r3 = 0)) → (∃ r5 : Int32, zPf SY 0 mX10_in [.long a5.toInt64, .long 0, .long 24] X r5 ∧ (((¬ r5 = 0) → (∃ j7 : Nat, a1 = nI j7 ∧ j7 < 8 ∧ ((((X 14 j7) = 0) → (LX10_read_52 P X a1 a2 a3 a4 a5 0 0 0)) ∧ ((¬ ((X 14 j7) = 0)) → (P (-2) X))))) ∧ ((r5 = 0) → (P (-1) X)))))))))) : zPi SY 2 mX10_read [.ref 0, .int a1, .int a2, .int a3, .int a4, .int a5] X P := by
  refine zP_in [some (.ref 0), some (.int a1), some (.int a2), some (.int a3), some (.int a4), some (.int a5), none, none, none, none, none, none] ⟨rfl, rfl, rfl, rfl, rfl, rfl, trivial⟩ (by decide) (Nat.le_of_ble_eq_true rfl) ?_
  refine j_aload_n dX10_read_0 rfl ?_
  refine j_iload_n dX10_read_1 rfl ?_
  obtain ⟨r1, hc, h⟩ := h
  refine j_cvf (lc := 1) (as := [.int a1]) dX10_read_2 iX10_isOne vX10_isOne kX10_144 (by decide) rfl rfl rfl rfl (Nat.zero_le _) hc ?_
  refine j_if_eq (tgt := 29) dX10_read_5 (by decide) (fun hc2 => ?_) (fun hc2 => ?_)
  · have h := h.1 hc2
    refine j_iconst (v := (-1)) dX10_read_29 rfl ?_
    refine j_iret dX10_read_30 rfl rfl ?_
    exact ⟨_, rfl, h⟩
  · have h := h.2 hc2
    refine j_iload_n dX10_read_8 rfl ?_
    refine j_iload_n dX10_read_9 rfl ?_
    obtain ⟨r3, hc, h⟩ := h
    refine j_csf (lc := 1) (as := [.int a2, .int a3]) dX10_read_10 iX10_isSheet sX10_isSheet kX10_328 (by decide) rfl rfl (Nat.zero_le _) hc ?_
    refine j_if_eq (tgt := 29) dX10_read_13 (by decide) (fun hc4 => ?_) (fun hc4 => ?_)
    · have h := h.1 hc4
      refine j_iconst (v := (-1)) dX10_read_29 rfl ?_
      refine j_iret dX10_read_30 rfl rfl ?_
      exact ⟨_, rfl, h⟩
    · have h := h.2 hc4
      refine j_iload dX10_read_16 rfl ?_
      refine j_i2l dX10_read_18 ?_
      refine j_lconst (v := 0) dX10_read_19 rfl ?_
      refine j_ldc2 (v := 24) dX10_read_20 qX10_331 ?_
      obtain ⟨r5, hc, h⟩ := h
      refine j_csf (lc := 0) (as := [.long a5.toInt64, .long 0, .long 24]) dX10_read_23 iX10_in sX10_in kX10_102 (by decide) rfl rfl (Nat.zero_le _) hc ?_
      refine j_if_ne (tgt := 31) dX10_read_26 (by decide) (fun hc6 => ?_) (fun hc6 => ?_)
      · have h := h.1 hc6
        refine j_aload_n dX10_read_31 rfl ?_
        refine j_getr dX10_read_32 fX10_49 rfl rfl ?_
        refine j_iload_n dX10_read_35 rfl ?_
        obtain ⟨j7, ej7, lj7, h⟩ := h
        refine j_zald dX10_read_36 rfl (zin ej7 lj7 (by decide)) ?_
        rw [zcl ej7 lj7 (by decide)]
        refine j_if_eq (tgt := 43) dX10_read_37 (by decide) (fun hc8 => ?_) (fun hc8 => ?_)
        · have h := h.1 hc8
          refine j_iconst (v := 0) dX10_read_43 rfl ?_
          refine j_istore (L2 := [some (.ref 0), some (.int a1), some (.int a2), some (.int a3), some (.int a4), some (.int a5), some (.int 0), none, none, none, none, none]) dX10_read_44 (by decide) (zno rfl) rfl ?_
          refine j_iconst (v := 0) dX10_read_46 rfl ?_
          refine j_istore (L2 := [some (.ref 0), some (.int a1), some (.int a2), some (.int a3), some (.int a4), some (.int a5), some (.int 0), some (.int 0), none, none, none, none]) dX10_read_47 (by decide) (zno rfl) rfl ?_
          refine j_iconst (v := 0) dX10_read_49 rfl ?_
          refine j_istore (L2 := [some (.ref 0), some (.int a1), some (.int a2), some (.int a3), some (.int a4), some (.int a5), some (.int 0), some (.int 0), some (.int 0), none, none, none]) dX10_read_50 (by decide) (zno rfl) rfl ?_
          exact zJw h ⟨rfl, rfl, rfl, rfl, rfl, rfl, rfl, rfl, rfl, trivial⟩
        · have h := h.2 hc8
          refine j_bipush (v := (-2)) dX10_read_40 rfl ?_
          refine j_iret dX10_read_42 rfl rfl ?_
          exact ⟨_, rfl, h⟩
      · have h := h.2 hc6
        refine j_iconst (v := (-1)) dX10_read_29 rfl ?_
        refine j_iret dX10_read_30 rfl rfl ?_
        exact ⟨_, rfl, h⟩
theorem bX10_read_52 (P : Int32 → zX → Prop) (M : zX) (x1 : Int32) (x2 : Int32) (x3 : Int32) (x4 : Int32) (x5 : Int32) (x6 : Int32) (x7 : Int32) (x8 : Int32) (h : ((x5 ≤ x8) → (∃ j10 : Nat, x1 = nI j10 ∧ j10 < 8 ∧ (∃ r11 : Int32, zPf SY 0 mX10_countOf [.int (x7 &&& ((M 13 j10) ^^^ (-1)))] M r11 ∧ (∃ j12 : Nat, x1 = nI j12 ∧ j12 < 8 ∧ (∃ j13 : Nat, x1 = nI j13 ∧ j13 < 8 ∧ (P r11 (zs (zs M 13 j13 ((M 13 j12) ||| x7)) 0 45 x6))))))) ∧ ((¬ (x5 ≤ x8)) → (((¬ x6 = 0) → (∃ j15 : Nat, x1 = nI j15 ∧ j15 < 8 ∧ (∃ r16 : Int32, zPf SY 0 mX10_countOf [.int (x7 &&& ((M 13 j15) ^^^ (-1)))] M r16 ∧ (∃ j17 : Nat, x1 = nI j17 ∧ j17 < 8 ∧ (∃ j18 : Nat, x1 = nI j18 ∧ j18 < 8 ∧ (P r16 (zs (zs M 13 j18 ((M 13 j17) ||| x7)) 0 45 x6))))))) ∧ ((x6 = 0) → (∃ j19 : Nat, x2 = nI j19 ∧ j19 < 4 ∧ (((¬ (M 25 j19) = (-4)) → (∃ j21 : Nat, x2 = nI j21 ∧ j21 < 4 ∧ ((((M 25 j21) = x3) → ((((lg_cmp (x4.toInt64 + x8.toInt64) 0) < 0) → (LX10_read_52 P M x1 x2 x3 x4 x5 2 x7 (x8 + 1))) ∧ ((¬ ((lg_cmp (x4.toInt64 + x8.toInt64) 0) < 0)) → (∃ j24 : Nat, x2 = nI j24 ∧ j24 < 4 ∧ ((((lg_cmp (x4.toInt64 + x8.toInt64) ((M 26 j24).toInt64)) < 0) → (∃ j26 : Nat, ((40 * x2) + (x4.toInt64 + x8.toInt64).toInt32) = nI j26 ∧ j26 < 160 ∧ (∃ r27 : Int32, zPf SY 1 mX10_isVerse [.ref 0, .int (M 27 j26)] M r27 ∧ (((¬ r27 = 0) → (LX10_read_52 P M x1 x2 x3 x4 x5 0 (x7 ||| (zshl 1 (M 27 j26))) (x8 + 1))) ∧ ((r27 = 0) → (P ((-20) - x8) M)))))) ∧ ((¬ ((lg_cmp (x4.toInt64 + x8.toInt64) ((M 26 j24).toInt64)) < 0)) → (LX10_read_52 P M x1 x2 x3 x4 x5 2 x7 (x8 + 1)))))))) ∧ ((¬ ((M 25 j21) = x3)) → (LX10_read_52 P M x1 x2 x3 x4 x5 3 x7 (x8 + 1)))))) ∧ (((M 25 j19) = (-4)) → (LX10_read_52 P M x1 x2 x3 x4 x5 1 x7 (x8 + 1))))))))) : LX10_read_52 P M x1 x2 x3 x4 x5 x6 x7 x8 := by
  refine j_iload dX10_read_52 rfl ?_
  refine j_iload dX10_read_54 rfl ?_
  refine j_ic_ge (tgt := 179) dX10_read_56 (by decide) (fun hc9 => ?_) (fun hc9 => ?_)
  · have h := h.1 hc9
    refine j_iload dX10_read_179 rfl ?_
    refine j_aload_n dX10_read_181 rfl ?_
    refine j_getr dX10_read_182 fX10_46 rfl rfl ?_
    refine j_iload_n dX10_read_185 rfl ?_
    obtain ⟨j10, ej10, lj10, h⟩ := h
    refine j_iald dX10_read_186 rfl (zin ej10 lj10 (by decide)) ?_
    rw [zcl ej10 lj10 (by decide)]
    refine j_iconst (v := (-1)) dX10_read_187 rfl ?_
    refine j_ixor dX10_read_188 ?_
    refine j_iand dX10_read_189 ?_
    obtain ⟨r11, hc, h⟩ := h
    refine j_csf (lc := 0) (as := [.int (x7 &&& ((M 13 j10) ^^^ (-1)))]) dX10_read_190 iX10_countOf sX10_countOf kX10_300 (by decide) rfl rfl (Nat.zero_le _) hc ?_
    refine j_istore (L2 := [some (.ref 0), some (.int x1), some (.int x2), some (.int x3), some (.int x4), some (.int x5), some (.int x6), some (.int x7), some (.int r11), none, none, none]) dX10_read_193 (by decide) (zno rfl) rfl ?_
    refine j_aload_n dX10_read_195 rfl ?_
    refine j_getr dX10_read_196 fX10_46 rfl rfl ?_
    refine j_iload_n dX10_read_199 rfl ?_
    refine j_dup2 dX10_read_200 rfl rfl ?_
    obtain ⟨j12, ej12, lj12, h⟩ := h
    refine j_iald dX10_read_201 rfl (zin ej12 lj12 (by decide)) ?_
    rw [zcl ej12 lj12 (by decide)]
    refine j_iload dX10_read_202 rfl ?_
    refine j_ior dX10_read_204 ?_
    obtain ⟨j13, ej13, lj13, h⟩ := h
    refine j_iast dX10_read_205 rfl (zin ej13 lj13 (by decide)) ?_
    rw [zcl ej13 lj13 (by decide)]
    refine j_aload_n dX10_read_206 rfl ?_
    refine j_iload dX10_read_207 rfl ?_
    refine j_putf dX10_read_209 fX10_333 pX10_45 rfl rfl ?_
    refine j_iload dX10_read_212 rfl ?_
    refine j_iret dX10_read_214 rfl rfl ?_
    exact ⟨_, rfl, h⟩
  · have h := h.2 hc9
    refine j_iload dX10_read_59 rfl ?_
    refine j_if_ne (tgt := 179) dX10_read_61 (by decide) (fun hc14 => ?_) (fun hc14 => ?_)
    · have h := h.1 hc14
      refine j_iload dX10_read_179 rfl ?_
      refine j_aload_n dX10_read_181 rfl ?_
      refine j_getr dX10_read_182 fX10_46 rfl rfl ?_
      refine j_iload_n dX10_read_185 rfl ?_
      obtain ⟨j15, ej15, lj15, h⟩ := h
      refine j_iald dX10_read_186 rfl (zin ej15 lj15 (by decide)) ?_
      rw [zcl ej15 lj15 (by decide)]
      refine j_iconst (v := (-1)) dX10_read_187 rfl ?_
      refine j_ixor dX10_read_188 ?_
      refine j_iand dX10_read_189 ?_
      obtain ⟨r16, hc, h⟩ := h
      refine j_csf (lc := 0) (as := [.int (x7 &&& ((M 13 j15) ^^^ (-1)))]) dX10_read_190 iX10_countOf sX10_countOf kX10_300 (by decide) rfl rfl (Nat.zero_le _) hc ?_
      refine j_istore (L2 := [some (.ref 0), some (.int x1), some (.int x2), some (.int x3), some (.int x4), some (.int x5), some (.int x6), some (.int x7), some (.int r16), none, none, none]) dX10_read_193 (by decide) (zno rfl) rfl ?_
      refine j_aload_n dX10_read_195 rfl ?_
      refine j_getr dX10_read_196 fX10_46 rfl rfl ?_
      refine j_iload_n dX10_read_199 rfl ?_
      refine j_dup2 dX10_read_200 rfl rfl ?_
      obtain ⟨j17, ej17, lj17, h⟩ := h
      refine j_iald dX10_read_201 rfl (zin ej17 lj17 (by decide)) ?_
      rw [zcl ej17 lj17 (by decide)]
      refine j_iload dX10_read_202 rfl ?_
      refine j_ior dX10_read_204 ?_
      obtain ⟨j18, ej18, lj18, h⟩ := h
      refine j_iast dX10_read_205 rfl (zin ej18 lj18 (by decide)) ?_
      rw [zcl ej18 lj18 (by decide)]
      refine j_aload_n dX10_read_206 rfl ?_
      refine j_iload dX10_read_207 rfl ?_
      refine j_putf dX10_read_209 fX10_333 pX10_45 rfl rfl ?_
      refine j_iload dX10_read_212 rfl ?_
      refine j_iret dX10_read_214 rfl rfl ?_
      exact ⟨_, rfl, h⟩
    · have h := h.2 hc14
      refine j_iload dX10_read_64 rfl ?_
      refine j_i2l dX10_read_66 ?_
      refine j_iload dX10_read_67 rfl ?_
      refine j_i2l dX10_read_69 ?_
      refine j_ladd dX10_read_70 ?_
      refine j_lstore (L2 := [some (.ref 0), some (.int x1), some (.int x2), some (.int x3), some (.int x4), some (.int x5), some (.int x6), some (.int x7), some (.int x8), some (.long (x4.toInt64 + x8.toInt64)), none, none]) dX10_read_71 (by decide) (zno rfl) rfl ?_
      refine j_aload_n dX10_read_73 rfl ?_
      refine j_getr dX10_read_74 fX10_83 rfl rfl ?_
      refine j_iload_n dX10_read_77 rfl ?_
      obtain ⟨j19, ej19, lj19, h⟩ := h
      refine j_iald dX10_read_78 rfl (zin ej19 lj19 (by decide)) ?_
      rw [zcl ej19 lj19 (by decide)]
      refine j_bipush (v := (-4)) dX10_read_79 rfl ?_
      refine j_ic_ne (tgt := 88) dX10_read_81 (by decide) (fun hc20 => ?_) (fun hc20 => ?_)
      · have h := h.1 hc20
        refine j_aload_n dX10_read_88 rfl ?_
        refine j_getr dX10_read_89 fX10_83 rfl rfl ?_
        refine j_iload_n dX10_read_92 rfl ?_
        obtain ⟨j21, ej21, lj21, h⟩ := h
        refine j_iald dX10_read_93 rfl (zin ej21 lj21 (by decide)) ?_
        rw [zcl ej21 lj21 (by decide)]
        refine j_iload_n dX10_read_94 rfl ?_
        refine j_ic_eq (tgt := 102) dX10_read_95 (by decide) (fun hc22 => ?_) (fun hc22 => ?_)
        · have h := h.1 hc22
          refine j_lload dX10_read_102 rfl ?_
          refine j_lconst (v := 0) dX10_read_104 rfl ?_
          refine j_lcmp dX10_read_105 ?_
          refine j_if_lt (tgt := 122) dX10_read_106 (by decide) (fun hc23 => ?_) (fun hc23 => ?_)
          · have h := h.1 hc23
            refine j_iconst (v := 2) dX10_read_122 rfl ?_
            refine j_goto (tgt := 127) dX10_read_123 (by decide) ?_
            refine j_istore (L2 := [some (.ref 0), some (.int x1), some (.int x2), some (.int x3), some (.int x4), some (.int x5), some (.int 2), some (.int x7), some (.int x8), some (.long (x4.toInt64 + x8.toInt64)), none, none]) dX10_read_127 (by decide) (zno rfl) rfl ?_
            refine j_iload dX10_read_129 rfl ?_
            refine j_if_ne (tgt := 173) dX10_read_131 (by decide) (fun _ => ?_) (fun hc => absurd hc (by decide))
            refine j_iinc (v := (x8 + 1)) (L2 := [some (.ref 0), some (.int x1), some (.int x2), some (.int x3), some (.int x4), some (.int x5), some (.int 2), some (.int x7), some (.int (x8 + 1)), some (.long (x4.toInt64 + x8.toInt64)), none, none]) dX10_read_173 rfl rfl (by decide) (zno rfl) rfl ?_
            refine j_goto (tgt := 52) dX10_read_176 (by decide) ?_
            exact zJw h ⟨rfl, rfl, rfl, rfl, rfl, rfl, rfl, rfl, rfl, trivial⟩
          · have h := h.2 hc23
            refine j_lload dX10_read_109 rfl ?_
            refine j_aload_n dX10_read_111 rfl ?_
            refine j_getr dX10_read_112 fX10_86 rfl rfl ?_
            refine j_iload_n dX10_read_115 rfl ?_
            obtain ⟨j24, ej24, lj24, h⟩ := h
            refine j_iald dX10_read_116 rfl (zin ej24 lj24 (by decide)) ?_
            rw [zcl ej24 lj24 (by decide)]
            refine j_i2l dX10_read_117 ?_
            refine j_lcmp dX10_read_118 ?_
            refine j_if_lt (tgt := 126) dX10_read_119 (by decide) (fun hc25 => ?_) (fun hc25 => ?_)
            · have h := h.1 hc25
              refine j_iconst (v := 0) dX10_read_126 rfl ?_
              refine j_istore (L2 := [some (.ref 0), some (.int x1), some (.int x2), some (.int x3), some (.int x4), some (.int x5), some (.int 0), some (.int x7), some (.int x8), some (.long (x4.toInt64 + x8.toInt64)), none, none]) dX10_read_127 (by decide) (zno rfl) rfl ?_
              refine j_iload dX10_read_129 rfl ?_
              refine j_if_ne (tgt := 173) dX10_read_131 (by decide) (fun hc => absurd hc (by decide)) (fun _ => ?_)
              refine j_aload_n dX10_read_134 rfl ?_
              refine j_getr dX10_read_135 fX10_89 rfl rfl ?_
              refine j_bipush (v := 40) dX10_read_138 rfl ?_
              refine j_iload_n dX10_read_140 rfl ?_
              refine j_imul dX10_read_141 ?_
              refine j_lload dX10_read_142 rfl ?_
              refine j_l2i dX10_read_144 ?_
              refine j_iadd dX10_read_145 ?_
              obtain ⟨j26, ej26, lj26, h⟩ := h
              refine j_iald dX10_read_146 rfl (zin ej26 lj26 (by decide)) ?_
              rw [zcl ej26 lj26 (by decide)]
              refine j_istore (L2 := [some (.ref 0), some (.int x1), some (.int x2), some (.int x3), some (.int x4), some (.int x5), some (.int 0), some (.int x7), some (.int x8), some (.long (x4.toInt64 + x8.toInt64)), none, some (.int (M 27 j26))]) dX10_read_147 (by decide) (zno rfl) rfl ?_
              refine j_aload_n dX10_read_149 rfl ?_
              refine j_iload dX10_read_150 rfl ?_
              obtain ⟨r27, hc, h⟩ := h
              refine j_cvf (lc := 1) (as := [.int (M 27 j26)]) dX10_read_152 iX10_isVerse vX10_isVerse kX10_147 (by decide) rfl rfl rfl rfl (Nat.zero_le _) hc ?_
              refine j_if_ne (tgt := 164) dX10_read_155 (by decide) (fun hc28 => ?_) (fun hc28 => ?_)
              · have h := h.1 hc28
                refine j_iload dX10_read_164 rfl ?_
                refine j_iconst (v := 1) dX10_read_166 rfl ?_
                refine j_iload dX10_read_167 rfl ?_
                refine j_ishl dX10_read_169 ?_
                refine j_ior dX10_read_170 ?_
                refine j_istore (L2 := [some (.ref 0), some (.int x1), some (.int x2), some (.int x3), some (.int x4), some (.int x5), some (.int 0), some (.int (x7 ||| (zshl 1 (M 27 j26)))), some (.int x8), some (.long (x4.toInt64 + x8.toInt64)), none, some (.int (M 27 j26))]) dX10_read_171 (by decide) (zno rfl) rfl ?_
                refine j_iinc (v := (x8 + 1)) (L2 := [some (.ref 0), some (.int x1), some (.int x2), some (.int x3), some (.int x4), some (.int x5), some (.int 0), some (.int (x7 ||| (zshl 1 (M 27 j26)))), some (.int (x8 + 1)), some (.long (x4.toInt64 + x8.toInt64)), none, some (.int (M 27 j26))]) dX10_read_173 rfl rfl (by decide) (zno rfl) rfl ?_
                refine j_goto (tgt := 52) dX10_read_176 (by decide) ?_
                exact zJw h ⟨rfl, rfl, rfl, rfl, rfl, rfl, rfl, rfl, rfl, trivial⟩
              · have h := h.2 hc28
                refine j_bipush (v := (-20)) dX10_read_158 rfl ?_
                refine j_iload dX10_read_160 rfl ?_
                refine j_isub dX10_read_162 ?_
                refine j_iret dX10_read_163 rfl rfl ?_
                exact ⟨_, rfl, h⟩
            · have h := h.2 hc25
              refine j_iconst (v := 2) dX10_read_122 rfl ?_
              refine j_goto (tgt := 127) dX10_read_123 (by decide) ?_
              refine j_istore (L2 := [some (.ref 0), some (.int x1), some (.int x2), some (.int x3), some (.int x4), some (.int x5), some (.int 2), some (.int x7), some (.int x8), some (.long (x4.toInt64 + x8.toInt64)), none, none]) dX10_read_127 (by decide) (zno rfl) rfl ?_
              refine j_iload dX10_read_129 rfl ?_
              refine j_if_ne (tgt := 173) dX10_read_131 (by decide) (fun _ => ?_) (fun hc => absurd hc (by decide))
              refine j_iinc (v := (x8 + 1)) (L2 := [some (.ref 0), some (.int x1), some (.int x2), some (.int x3), some (.int x4), some (.int x5), some (.int 2), some (.int x7), some (.int (x8 + 1)), some (.long (x4.toInt64 + x8.toInt64)), none, none]) dX10_read_173 rfl rfl (by decide) (zno rfl) rfl ?_
              refine j_goto (tgt := 52) dX10_read_176 (by decide) ?_
              exact zJw h ⟨rfl, rfl, rfl, rfl, rfl, rfl, rfl, rfl, rfl, trivial⟩
        · have h := h.2 hc22
          refine j_iconst (v := 3) dX10_read_98 rfl ?_
          refine j_goto (tgt := 127) dX10_read_99 (by decide) ?_
          refine j_istore (L2 := [some (.ref 0), some (.int x1), some (.int x2), some (.int x3), some (.int x4), some (.int x5), some (.int 3), some (.int x7), some (.int x8), some (.long (x4.toInt64 + x8.toInt64)), none, none]) dX10_read_127 (by decide) (zno rfl) rfl ?_
          refine j_iload dX10_read_129 rfl ?_
          refine j_if_ne (tgt := 173) dX10_read_131 (by decide) (fun _ => ?_) (fun hc => absurd hc (by decide))
          refine j_iinc (v := (x8 + 1)) (L2 := [some (.ref 0), some (.int x1), some (.int x2), some (.int x3), some (.int x4), some (.int x5), some (.int 3), some (.int x7), some (.int (x8 + 1)), some (.long (x4.toInt64 + x8.toInt64)), none, none]) dX10_read_173 rfl rfl (by decide) (zno rfl) rfl ?_
          refine j_goto (tgt := 52) dX10_read_176 (by decide) ?_
          exact zJw h ⟨rfl, rfl, rfl, rfl, rfl, rfl, rfl, rfl, rfl, trivial⟩
      · have h := h.2 hc20
        refine j_iconst (v := 1) dX10_read_84 rfl ?_
        refine j_goto (tgt := 127) dX10_read_85 (by decide) ?_
        refine j_istore (L2 := [some (.ref 0), some (.int x1), some (.int x2), some (.int x3), some (.int x4), some (.int x5), some (.int 1), some (.int x7), some (.int x8), some (.long (x4.toInt64 + x8.toInt64)), none, none]) dX10_read_127 (by decide) (zno rfl) rfl ?_
        refine j_iload dX10_read_129 rfl ?_
        refine j_if_ne (tgt := 173) dX10_read_131 (by decide) (fun _ => ?_) (fun hc => absurd hc (by decide))
        refine j_iinc (v := (x8 + 1)) (L2 := [some (.ref 0), some (.int x1), some (.int x2), some (.int x3), some (.int x4), some (.int x5), some (.int 1), some (.int x7), some (.int (x8 + 1)), some (.long (x4.toInt64 + x8.toInt64)), none, none]) dX10_read_173 rfl rfl (by decide) (zno rfl) rfl ?_
        refine j_goto (tgt := 52) dX10_read_176 (by decide) ?_
        exact zJw h ⟨rfl, rfl, rfl, rfl, rfl, rfl, rfl, rfl, rfl, trivial⟩
theorem eX10_torn (v : Int32) (X : zX)  (h : (X 0 45) = v) : zPf SY 0 mX10_torn [.ref 0] X v := by
  refine zP_in [some (.ref 0)] ⟨rfl, trivial⟩ (by decide) (Nat.le_of_ble_eq_true rfl) ?_
  refine j_aload_n dX10_torn_0 rfl ?_
  refine j_getf dX10_torn_1 fX10_333 rfl rfl ?_
  refine j_iret dX10_torn_4 rfl rfl ?_
  exact ⟨by rw [h], rfl⟩
abbrev LX10_count_4 (v : Int32) (X : zX) (x1 : Int32) (x2 : Int32) (x3 : Int32) : Prop := zJ SY 0 mX10_count (zRf v X) 4 [some (.ref 0), some (.int x1), some (.int x2), some (.int x3)] [] X
theorem eX10_count (v : Int32) (X : zX) (a1 : Int32) (h : LX10_count_4 v X a1 0 0) : zPf SY 0 mX10_count [.ref 0, .int a1] X v := by
  refine zP_in [some (.ref 0), some (.int a1), none, none] ⟨rfl, rfl, trivial⟩ (by decide) (Nat.le_of_ble_eq_true rfl) ?_
  refine j_iconst (v := 0) dX10_count_0 rfl ?_
  refine j_istore_n (L2 := [some (.ref 0), some (.int a1), some (.int 0), none]) dX10_count_1 (by decide) (zno rfl) rfl ?_
  refine j_iconst (v := 0) dX10_count_2 rfl ?_
  refine j_istore_n (L2 := [some (.ref 0), some (.int a1), some (.int 0), some (.int 0)]) dX10_count_3 (by decide) (zno rfl) rfl ?_
  exact zJw h ⟨rfl, rfl, rfl, rfl, trivial⟩
theorem bX10_count_4 (v : Int32) (X : zX) (x1 : Int32) (x2 : Int32) (x3 : Int32) (h : (((X 0 10) ≤ x3) → ((x1 = 0 → ((X 0 0) = v)) ∧ (x1 = 1 → ((X 0 3) = v)) ∧ (x1 = 2 → ((X 0 10) = v)) ∧ (x1 = 3 → (x2 = v)) ∧ (x1 = 4 → ((X 0 17) = v)) ∧ (x1 = 5 → ((X 0 18) = v)) ∧ (x1 = 6 → ((X 0 33) = v)) ∧ (x1 = 7 → (∃ j2 : Nat, 0 = nI j2 ∧ j2 < 4 ∧ (((¬ (X 25 j2) = (-4)) → (∃ j4 : Nat, 0 = nI j4 ∧ j4 < 4 ∧ ((X 26 j4) = v))) ∧ (((X 25 j2) = (-4)) → ((-4) = v))))) ∧ ((x1.toInt < 0 ∨ 7 < x1.toInt) → ((-1) = v)))) ∧ ((¬ ((X 0 10) ≤ x3)) → (∃ j5 : Nat, x3 = nI j5 ∧ j5 < 8 ∧ ((((X 14 j5) = 0) → (LX10_count_4 v X x1 (x2 + 1) (x3 + 1))) ∧ ((¬ ((X 14 j5) = 0)) → (LX10_count_4 v X x1 (x2 + 0) (x3 + 1))))))) : LX10_count_4 v X x1 x2 x3 := by
  refine j_iload_n dX10_count_4 rfl ?_
  refine j_aload_n dX10_count_5 rfl ?_
  refine j_getf dX10_count_6 fX10_109 rfl rfl ?_
  refine j_ic_ge (tgt := 35) dX10_count_9 (by decide) (fun hc1 => ?_) (fun hc1 => ?_)
  · have h := h.1 hc1
    refine j_iload_n dX10_count_35 rfl ?_
    refine j_tsw (dt := 139) [84, 89, 94, 99, 101, 106, 111, 116] dX10_count_36 (by decide) (by decide) (by decide) ?_ (fun hc => ?_)
    · refine ⟨fun hc => ?_, fun hc => ?_, fun hc => ?_, fun hc => ?_, fun hc => ?_, fun hc => ?_, fun hc => ?_, fun hc => ?_, trivial⟩
      · have h := h.1 (hc.trans (by decide))
        refine j_aload_n dX10_count_84 rfl ?_
        refine j_getf dX10_count_85 fX10_98 rfl rfl ?_
        refine j_iret dX10_count_88 rfl rfl ?_
        exact ⟨by rw [h], rfl⟩
      · have h := h.2.1 (hc.trans (by decide))
        refine j_aload_n dX10_count_89 rfl ?_
        refine j_getf dX10_count_90 fX10_106 rfl rfl ?_
        refine j_iret dX10_count_93 rfl rfl ?_
        exact ⟨by rw [h], rfl⟩
      · have h := h.2.2.1 (hc.trans (by decide))
        refine j_aload_n dX10_count_94 rfl ?_
        refine j_getf dX10_count_95 fX10_109 rfl rfl ?_
        refine j_iret dX10_count_98 rfl rfl ?_
        exact ⟨by rw [h], rfl⟩
      · have h := h.2.2.2.1 (hc.trans (by decide))
        refine j_iload_n dX10_count_99 rfl ?_
        refine j_iret dX10_count_100 rfl rfl ?_
        exact ⟨by rw [h], rfl⟩
      · have h := h.2.2.2.2.1 (hc.trans (by decide))
        refine j_aload_n dX10_count_101 rfl ?_
        refine j_getf dX10_count_102 fX10_137 rfl rfl ?_
        refine j_iret dX10_count_105 rfl rfl ?_
        exact ⟨by rw [h], rfl⟩
      · have h := h.2.2.2.2.2.1 (hc.trans (by decide))
        refine j_aload_n dX10_count_106 rfl ?_
        refine j_getf dX10_count_107 fX10_153 rfl rfl ?_
        refine j_iret dX10_count_110 rfl rfl ?_
        exact ⟨by rw [h], rfl⟩
      · have h := h.2.2.2.2.2.2.1 (hc.trans (by decide))
        refine j_aload_n dX10_count_111 rfl ?_
        refine j_getf dX10_count_112 fX10_188 rfl rfl ?_
        refine j_iret dX10_count_115 rfl rfl ?_
        exact ⟨by rw [h], rfl⟩
      · have h := h.2.2.2.2.2.2.2.1 (hc.trans (by decide))
        refine j_aload_n dX10_count_116 rfl ?_
        refine j_getr dX10_count_117 fX10_83 rfl rfl ?_
        refine j_iconst (v := 0) dX10_count_120 rfl ?_
        obtain ⟨j2, ej2, lj2, h⟩ := h
        refine j_iald dX10_count_121 rfl (zin ej2 lj2 (by decide)) ?_
        rw [zcl ej2 lj2 (by decide)]
        refine j_bipush (v := (-4)) dX10_count_122 rfl ?_
        refine j_ic_ne (tgt := 132) dX10_count_124 (by decide) (fun hc3 => ?_) (fun hc3 => ?_)
        · have h := h.1 hc3
          refine j_aload_n dX10_count_132 rfl ?_
          refine j_getr dX10_count_133 fX10_86 rfl rfl ?_
          refine j_iconst (v := 0) dX10_count_136 rfl ?_
          obtain ⟨j4, ej4, lj4, h⟩ := h
          refine j_iald dX10_count_137 rfl (zin ej4 lj4 (by decide)) ?_
          rw [zcl ej4 lj4 (by decide)]
          refine j_iret dX10_count_138 rfl rfl ?_
          exact ⟨by rw [h], rfl⟩
        · have h := h.2 hc3
          refine j_bipush (v := (-4)) dX10_count_127 rfl ?_
          refine j_goto (tgt := 138) dX10_count_129 (by decide) ?_
          refine j_iret dX10_count_138 rfl rfl ?_
          exact ⟨by rw [h], rfl⟩
    · have h := h.2.2.2.2.2.2.2.2 hc
      refine j_iconst (v := (-1)) dX10_count_139 rfl ?_
      refine j_iret dX10_count_140 rfl rfl ?_
      exact ⟨by rw [h], rfl⟩
  · have h := h.2 hc1
    refine j_iload_n dX10_count_12 rfl ?_
    refine j_aload_n dX10_count_13 rfl ?_
    refine j_getr dX10_count_14 fX10_49 rfl rfl ?_
    refine j_iload_n dX10_count_17 rfl ?_
    obtain ⟨j5, ej5, lj5, h⟩ := h
    refine j_zald dX10_count_18 rfl (zin ej5 lj5 (by decide)) ?_
    rw [zcl ej5 lj5 (by decide)]
    refine j_if_eq (tgt := 26) dX10_count_19 (by decide) (fun hc6 => ?_) (fun hc6 => ?_)
    · have h := h.1 hc6
      refine j_iconst (v := 1) dX10_count_26 rfl ?_
      refine j_iadd dX10_count_27 ?_
      refine j_istore_n (L2 := [some (.ref 0), some (.int x1), some (.int (x2 + 1)), some (.int x3)]) dX10_count_28 (by decide) (zno rfl) rfl ?_
      refine j_iinc (v := (x3 + 1)) (L2 := [some (.ref 0), some (.int x1), some (.int (x2 + 1)), some (.int (x3 + 1))]) dX10_count_29 rfl rfl (by decide) (zno rfl) rfl ?_
      refine j_goto (tgt := 4) dX10_count_32 (by decide) ?_
      exact zJw h ⟨rfl, rfl, rfl, rfl, trivial⟩
    · have h := h.2 hc6
      refine j_iconst (v := 0) dX10_count_22 rfl ?_
      refine j_goto (tgt := 27) dX10_count_23 (by decide) ?_
      refine j_iadd dX10_count_27 ?_
      refine j_istore_n (L2 := [some (.ref 0), some (.int x1), some (.int (x2 + 0)), some (.int x3)]) dX10_count_28 (by decide) (zno rfl) rfl ?_
      refine j_iinc (v := (x3 + 1)) (L2 := [some (.ref 0), some (.int x1), some (.int (x2 + 0)), some (.int (x3 + 1))]) dX10_count_29 rfl rfl (by decide) (zno rfl) rfl ?_
      refine j_goto (tgt := 4) dX10_count_32 (by decide) ?_
      exact zJw h ⟨rfl, rfl, rfl, rfl, trivial⟩
