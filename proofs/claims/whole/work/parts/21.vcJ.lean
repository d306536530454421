theorem eJ6_numberOfTrailingZeros_0f7a4 (v : Int32) (X : zX) (a1 : Int32) (h : ((0 < ((a1 ^^^ (-1)) &&& (a1 - 1))) → (((((a1 ^^^ (-1)) &&& (a1 - 1)) ≤ 65536) → (((((a1 ^^^ (-1)) &&& (a1 - 1)) ≤ 256) → (((((a1 ^^^ (-1)) &&& (a1 - 1)) ≤ 16) → (((((a1 ^^^ (-1)) &&& (a1 - 1)) ≤ 4) → ((1 + (zushr ((a1 ^^^ (-1)) &&& (a1 - 1)) 1)) = v)) ∧ ((¬ (((a1 ^^^ (-1)) &&& (a1 - 1)) ≤ 4)) → (((1 + 2) + (zushr (zushr ((a1 ^^^ (-1)) &&& (a1 - 1)) 2) 1)) = v)))) ∧ ((¬ (((a1 ^^^ (-1)) &&& (a1 - 1)) ≤ 16)) → ((((zushr ((a1 ^^^ (-1)) &&& (a1 - 1)) 4) ≤ 4) → (((1 + 4) + (zushr (zushr ((a1 ^^^ (-1)) &&& (a1 - 1)) 4) 1)) = v)) ∧ ((¬ ((zushr ((a1 ^^^ (-1)) &&& (a1 - 1)) 4) ≤ 4)) → ((((1 + 4) + 2) + (zushr (zushr (zushr ((a1 ^^^ (-1)) &&& (a1 - 1)) 4) 2) 1)) = v)))))) ∧ ((¬ (((a1 ^^^ (-1)) &&& (a1 - 1)) ≤ 256)) → ((((zushr ((a1 ^^^ (-1)) &&& (a1 - 1)) 8) ≤ 16) → ((((zushr ((a1 ^^^ (-1)) &&& (a1 - 1)) 8) ≤ 4) → (((1 + 8) + (zushr (zushr ((a1 ^^^ (-1)) &&& (a1 - 1)) 8) 1)) = v)) ∧ ((¬ ((zushr ((a1 ^^^ (-1)) &&& (a1 - 1)) 8) ≤ 4)) → ((((1 + 8) + 2) + (zushr (zushr (zushr ((a1 ^^^ (-1)) &&& (a1 - 1)) 8) 2) 1)) = v)))) ∧ ((¬ ((zushr ((a1 ^^^ (-1)) &&& (a1 - 1)) 8) ≤ 16)) → ((((zushr (zushr ((a1 ^^^ (-1)) &&& (a1 - 1)) 8) 4) ≤ 4) → ((((1 + 8) + 4) + (zushr (zushr (zushr ((a1 ^^^ (-1)) &&& (a1 - 1)) 8) 4) 1)) = v)) ∧ ((¬ ((zushr (zushr ((a1 ^^^ (-1)) &&& (a1 - 1)) 8) 4) ≤ 4)) → (((((1 + 8) + 4) + 2) + (zushr (zushr (zushr (zushr ((a1 ^^^ (-1)) &&& (a1 - 1)) 8) 4) 2) 1)) = v)))))))) ∧ ((¬ (((a1 ^^^ (-1)) &&& (a1 - 1)) ≤ 65536)) → ((((zushr ((a1 ^^^ (-1)) &&& (a1 - 1)) 16) ≤ 256) → ((((zushr ((a1 ^^^ (-1)) &&& (a1 - 1)) 16) ≤ 16) → ((((zushr ((a1 ^^^ (-1)) &&& (a1 - 1)) 16) ≤ 4) → (((1 + 16) + (zushr (zushr ((a1 ^^^ (-1)) &&& (a1 - 1)) 16) 1)) = v)) ∧ ((¬ ((zushr ((a1 ^^^ (-1)) &&& (a1 - 1)) 16) ≤ 4)) → ((((1 + 16) + 2) + (zushr (zushr (zushr ((a1 ^^^ (-1)) &&& (a1 - 1)) 16) 2) 1)) = v)))) ∧ ((¬ ((zushr ((a1 ^^^ (-1)) &&& (a1 - 1)) 16) ≤ 16)) → ((((zushr (zushr ((a1 ^^^ (-1)) &&& (a1 - 1)) 16) 4) ≤ 4) → ((((1 + 16) + 4) + (zushr (zushr (zushr ((a1 ^^^ (-1)) &&& (a1 - 1)) 16) 4) 1)) = v)) ∧ ((¬ ((zushr (zushr ((a1 ^^^ (-1)) &&& (a1 - 1)) 16) 4) ≤ 4)) → (((((1 + 16) + 4) + 2) + (zushr (zushr (zushr (zushr ((a1 ^^^ (-1)) &&& (a1 - 1)) 16) 4) 2) 1)) = v)))))) ∧ ((¬ ((zushr ((a1 ^^^ (-1)) &&& (a1 - 1)) 16) ≤ 256)) → ((((zushr (zushr ((a1 ^^^ (-1)) &&& (a1 - 1)) 16) 8) ≤ 16) → ((((zushr (zushr ((a1 ^^^ (-1)) &&& (a1 - 1)) 16) 8) ≤ 4) → ((((1 + 16) + 8) + (zushr (zushr (zushr ((a1 ^^^ (-1)) &&& (a1 - 1)) 16) 8) 1)) = v)) ∧ ((¬ ((zushr (zushr ((a1 ^^^ (-1)) &&& (a1 - 1)) 16) 8) ≤ 4)) → (((((1 + 16) + 8) + 2) + (zushr (zushr (zushr (zushr ((a1 ^^^ (-1)) &&& (a1 - 1)) 16) 8) 2) 1)) = v)))) ∧ ((¬ ((zushr (zushr ((a1 ^^^ (-1)) &&& (a1 - 1)) 16) 8) ≤ 16)) → ((((zushr (zushr (zushr ((a1 ^^^ (-1)) &&& (a1 - 1)) 16) 8) 4) ≤ 4) → (((((1 + 16) + 8) + 4) + (zushr (zushr (zushr (zushr ((a1 ^^^ (-1)) &&& (a1 - 1)) 16) 8) 4) 1)) = v)) ∧ ((¬ ((zushr (zushr (zushr ((a1 ^^^ (-1)) &&& (a1 - 1)) 16) 8) 4) ≤ 4)) → ((((((1 + 16) + 8) + 4) + 2) + (zushr (zushr (zushr (zushr (zushr ((a1 ^^^ (-1)) &&& (a1 - 1)) 16) 8) 4) 2) 1)) = v)))))))))) ∧ ((¬ (0 < ((a1 ^^^ (-1)) &&& (a1 - 1)))) → ((((a1 ^^^ (-1)) &&& (a1 - 1)) &&& 32) = v))) : zPf SX 0 mJ6_numberOfTrailingZeros_0f7a4 [.int a1] X v := by
  refine zP_in [some (.int a1), none] ⟨rfl, trivial⟩ (by decide) (Nat.le_of_ble_eq_true rfl) ?_
  refine j_iload_n dJ6_numberOfTrailingZeros_0f7a4_0 rfl ?_
  refine j_iconst (v := (-1)) dJ6_numberOfTrailingZeros_0f7a4_1 rfl ?_
  refine j_ixor dJ6_numberOfTrailingZeros_0f7a4_2 ?_
  refine j_iload_n dJ6_numberOfTrailingZeros_0f7a4_3 rfl ?_
  refine j_iconst (v := 1) dJ6_numberOfTrailingZeros_0f7a4_4 rfl ?_
  refine j_isub dJ6_numberOfTrailingZeros_0f7a4_5 ?_
  refine j_iand dJ6_numberOfTrailingZeros_0f7a4_6 ?_
  refine j_istore_n (L2 := [some (.int ((a1 ^^^ (-1)) &&& (a1 - 1))), none]) dJ6_numberOfTrailingZeros_0f7a4_7 (by decide) zno0 rfl ?_
  refine j_iload_n dJ6_numberOfTrailingZeros_0f7a4_8 rfl ?_
  refine j_if_gt (tgt := 17) dJ6_numberOfTrailingZeros_0f7a4_9 (by decide) (fun hc1 => ?_) (fun hc1 => ?_)
  · have h := h.1 hc1
    refine j_iconst (v := 1) dJ6_numberOfTrailingZeros_0f7a4_17 rfl ?_
    refine j_istore_n (L2 := [some (.int ((a1 ^^^ (-1)) &&& (a1 - 1))), some (.int 1)]) dJ6_numberOfTrailingZeros_0f7a4_18 (by decide) (zno rfl) rfl ?_
    refine j_iload_n dJ6_numberOfTrailingZeros_0f7a4_19 rfl ?_
    refine j_ldc_w (v := 65536) dJ6_numberOfTrailingZeros_0f7a4_20 qJ6_264 ?_
    refine j_ic_le (tgt := 34) dJ6_numberOfTrailingZeros_0f7a4_23 (by decide) (fun hc2 => ?_) (fun hc2 => ?_)
    · have h := h.1 hc2
      refine j_iload_n dJ6_numberOfTrailingZeros_0f7a4_34 rfl ?_
      refine j_sipush (v := 256) dJ6_numberOfTrailingZeros_0f7a4_35 rfl ?_
      refine j_ic_le (tgt := 49) dJ6_numberOfTrailingZeros_0f7a4_38 (by decide) (fun hc3 => ?_) (fun hc3 => ?_)
      · have h := h.1 hc3
        refine j_iload_n dJ6_numberOfTrailingZeros_0f7a4_49 rfl ?_
        refine j_bipush (v := 16) dJ6_numberOfTrailingZeros_0f7a4_50 rfl ?_
        refine j_ic_le (tgt := 62) dJ6_numberOfTrailingZeros_0f7a4_52 (by decide) (fun hc4 => ?_) (fun hc4 => ?_)
        · have h := h.1 hc4
          refine j_iload_n dJ6_numberOfTrailingZeros_0f7a4_62 rfl ?_
          refine j_iconst (v := 4) dJ6_numberOfTrailingZeros_0f7a4_63 rfl ?_
          refine j_ic_le (tgt := 74) dJ6_numberOfTrailingZeros_0f7a4_64 (by decide) (fun hc5 => ?_) (fun hc5 => ?_)
          · have h := h.1 hc5
            refine j_iload_n dJ6_numberOfTrailingZeros_0f7a4_74 rfl ?_
            refine j_iload_n dJ6_numberOfTrailingZeros_0f7a4_75 rfl ?_
            refine j_iconst (v := 1) dJ6_numberOfTrailingZeros_0f7a4_76 rfl ?_
            refine j_iushr (v := (zushr ((a1 ^^^ (-1)) &&& (a1 - 1)) 1)) dJ6_numberOfTrailingZeros_0f7a4_77 rfl ?_
            refine j_iadd dJ6_numberOfTrailingZeros_0f7a4_78 ?_
            refine j_iret dJ6_numberOfTrailingZeros_0f7a4_79 rfl rfl ?_
            exact ⟨by rw [h], rfl⟩
          · have h := h.2 hc5
            refine j_iinc (v := (1 + 2)) (L2 := [some (.int ((a1 ^^^ (-1)) &&& (a1 - 1))), some (.int (1 + 2))]) dJ6_numberOfTrailingZeros_0f7a4_67 rfl rfl (by decide) (zno rfl) rfl ?_
            refine j_iload_n dJ6_numberOfTrailingZeros_0f7a4_70 rfl ?_
            refine j_iconst (v := 2) dJ6_numberOfTrailingZeros_0f7a4_71 rfl ?_
            refine j_iushr (v := (zushr ((a1 ^^^ (-1)) &&& (a1 - 1)) 2)) dJ6_numberOfTrailingZeros_0f7a4_72 rfl ?_
            refine j_istore_n (L2 := [some (.int (zushr ((a1 ^^^ (-1)) &&& (a1 - 1)) 2)), some (.int (1 + 2))]) dJ6_numberOfTrailingZeros_0f7a4_73 (by decide) zno0 rfl ?_
            refine j_iload_n dJ6_numberOfTrailingZeros_0f7a4_74 rfl ?_
            refine j_iload_n dJ6_numberOfTrailingZeros_0f7a4_75 rfl ?_
            refine j_iconst (v := 1) dJ6_numberOfTrailingZeros_0f7a4_76 rfl ?_
            refine j_iushr (v := (zushr (zushr ((a1 ^^^ (-1)) &&& (a1 - 1)) 2) 1)) dJ6_numberOfTrailingZeros_0f7a4_77 rfl ?_
            refine j_iadd dJ6_numberOfTrailingZeros_0f7a4_78 ?_
            refine j_iret dJ6_numberOfTrailingZeros_0f7a4_79 rfl rfl ?_
            exact ⟨by rw [h], rfl⟩
        · have h := h.2 hc4
          refine j_iinc (v := (1 + 4)) (L2 := [some (.int ((a1 ^^^ (-1)) &&& (a1 - 1))), some (.int (1 + 4))]) dJ6_numberOfTrailingZeros_0f7a4_55 rfl rfl (by decide) (zno rfl) rfl ?_
          refine j_iload_n dJ6_numberOfTrailingZeros_0f7a4_58 rfl ?_
          refine j_iconst (v := 4) dJ6_numberOfTrailingZeros_0f7a4_59 rfl ?_
          refine j_iushr (v := (zushr ((a1 ^^^ (-1)) &&& (a1 - 1)) 4)) dJ6_numberOfTrailingZeros_0f7a4_60 rfl ?_
          refine j_istore_n (L2 := [some (.int (zushr ((a1 ^^^ (-1)) &&& (a1 - 1)) 4)), some (.int (1 + 4))]) dJ6_numberOfTrailingZeros_0f7a4_61 (by decide) zno0 rfl ?_
          refine j_iload_n dJ6_numberOfTrailingZeros_0f7a4_62 rfl ?_
          refine j_iconst (v := 4) dJ6_numberOfTrailingZeros_0f7a4_63 rfl ?_
          refine j_ic_le (tgt := 74) dJ6_numberOfTrailingZeros_0f7a4_64 (by decide) (fun hc6 => ?_) (fun hc6 => ?_)
          · have h := h.1 hc6
            refine j_iload_n dJ6_numberOfTrailingZeros_0f7a4_74 rfl ?_
            refine j_iload_n dJ6_numberOfTrailingZeros_0f7a4_75 rfl ?_
            refine j_iconst (v := 1) dJ6_numberOfTrailingZeros_0f7a4_76 rfl ?_
            refine j_iushr (v := (zushr (zushr ((a1 ^^^ (-1)) &&& (a1 - 1)) 4) 1)) dJ6_numberOfTrailingZeros_0f7a4_77 rfl ?_
            refine j_iadd dJ6_numberOfTrailingZeros_0f7a4_78 ?_
            refine j_iret dJ6_numberOfTrailingZeros_0f7a4_79 rfl rfl ?_
            exact ⟨by rw [h], rfl⟩
          · have h := h.2 hc6
            refine j_iinc (v := ((1 + 4) + 2)) (L2 := [some (.int (zushr ((a1 ^^^ (-1)) &&& (a1 - 1)) 4)), some (.int ((1 + 4) + 2))]) dJ6_numberOfTrailingZeros_0f7a4_67 rfl rfl (by decide) (zno rfl) rfl ?_
            refine j_iload_n dJ6_numberOfTrailingZeros_0f7a4_70 rfl ?_
            refine j_iconst (v := 2) dJ6_numberOfTrailingZeros_0f7a4_71 rfl ?_
            refine j_iushr (v := (zushr (zushr ((a1 ^^^ (-1)) &&& (a1 - 1)) 4) 2)) dJ6_numberOfTrailingZeros_0f7a4_72 rfl ?_
            refine j_istore_n (L2 := [some (.int (zushr (zushr ((a1 ^^^ (-1)) &&& (a1 - 1)) 4) 2)), some (.int ((1 + 4) + 2))]) dJ6_numberOfTrailingZeros_0f7a4_73 (by decide) zno0 rfl ?_
            refine j_iload_n dJ6_numberOfTrailingZeros_0f7a4_74 rfl ?_
            refine j_iload_n dJ6_numberOfTrailingZeros_0f7a4_75 rfl ?_
            refine j_iconst (v := 1) dJ6_numberOfTrailingZeros_0f7a4_76 rfl ?_
            refine j_iushr (v := (zushr (zushr (zushr ((a1 ^^^ (-1)) &&& (a1 - 1)) 4) 2) 1)) dJ6_numberOfTrailingZeros_0f7a4_77 rfl ?_
            refine j_iadd dJ6_numberOfTrailingZeros_0f7a4_78 ?_
            refine j_iret dJ6_numberOfTrailingZeros_0f7a4_79 rfl rfl ?_
            exact ⟨by rw [h], rfl⟩
      · have h := h.2 hc3
        refine j_iinc (v := (1 + 8)) (L2 := [some (.int ((a1 ^^^ (-1)) &&& (a1 - 1))), some (.int (1 + 8))]) dJ6_numberOfTrailingZeros_0f7a4_41 rfl rfl (by decide) (zno rfl) rfl ?_
        refine j_iload_n dJ6_numberOfTrailingZeros_0f7a4_44 rfl ?_
        refine j_bipush (v := 8) dJ6_numberOfTrailingZeros_0f7a4_45 rfl ?_
        refine j_iushr (v := (zushr ((a1 ^^^ (-1)) &&& (a1 - 1)) 8)) dJ6_numberOfTrailingZeros_0f7a4_47 rfl ?_
        refine j_istore_n (L2 := [some (.int (zushr ((a1 ^^^ (-1)) &&& (a1 - 1)) 8)), some (.int (1 + 8))]) dJ6_numberOfTrailingZeros_0f7a4_48 (by decide) zno0 rfl ?_
        refine j_iload_n dJ6_numberOfTrailingZeros_0f7a4_49 rfl ?_
        refine j_bipush (v := 16) dJ6_numberOfTrailingZeros_0f7a4_50 rfl ?_
        refine j_ic_le (tgt := 62) dJ6_numberOfTrailingZeros_0f7a4_52 (by decide) (fun hc7 => ?_) (fun hc7 => ?_)
        · have h := h.1 hc7
          refine j_iload_n dJ6_numberOfTrailingZeros_0f7a4_62 rfl ?_
          refine j_iconst (v := 4) dJ6_numberOfTrailingZeros_0f7a4_63 rfl ?_
          refine j_ic_le (tgt := 74) dJ6_numberOfTrailingZeros_0f7a4_64 (by decide) (fun hc8 => ?_) (fun hc8 => ?_)
          · have h := h.1 hc8
            refine j_iload_n dJ6_numberOfTrailingZeros_0f7a4_74 rfl ?_
            refine j_iload_n dJ6_numberOfTrailingZeros_0f7a4_75 rfl ?_
            refine j_iconst (v := 1) dJ6_numberOfTrailingZeros_0f7a4_76 rfl ?_
            refine j_iushr (v := (zushr (zushr ((a1 ^^^ (-1)) &&& (a1 - 1)) 8) 1)) dJ6_numberOfTrailingZeros_0f7a4_77 rfl ?_
            refine j_iadd dJ6_numberOfTrailingZeros_0f7a4_78 ?_
            refine j_iret dJ6_numberOfTrailingZeros_0f7a4_79 rfl rfl ?_
            exact ⟨by rw [h], rfl⟩
          · have h := h.2 hc8
            refine j_iinc (v := ((1 + 8) + 2)) (L2 := [some (.int (zushr ((a1 ^^^ (-1)) &&& (a1 - 1)) 8)), some (.int ((1 + 8) + 2))]) dJ6_numberOfTrailingZeros_0f7a4_67 rfl rfl (by decide) (zno rfl) rfl ?_
            refine j_iload_n dJ6_numberOfTrailingZeros_0f7a4_70 rfl ?_
            refine j_iconst (v := 2) dJ6_numberOfTrailingZeros_0f7a4_71 rfl ?_
            refine j_iushr (v := (zushr (zushr ((a1 ^^^ (-1)) &&& (a1 - 1)) 8) 2)) dJ6_numberOfTrailingZeros_0f7a4_72 rfl ?_
            refine j_istore_n (L2 := [some (.int (zushr (zushr ((a1 ^^^ (-1)) &&& (a1 - 1)) 8) 2)), some (.int ((1 + 8) + 2))]) dJ6_numberOfTrailingZeros_0f7a4_73 (by decide) zno0 rfl ?_
            refine j_iload_n dJ6_numberOfTrailingZeros_0f7a4_74 rfl ?_
            refine j_iload_n dJ6_numberOfTrailingZeros_0f7a4_75 rfl ?_
            refine j_iconst (v := 1) dJ6_numberOfTrailingZeros_0f7a4_76 rfl ?_
            refine j_iushr (v := (zushr (zushr (zushr ((a1 ^^^ (-1)) &&& (a1 - 1)) 8) 2) 1)) dJ6_numberOfTrailingZeros_0f7a4_77 rfl ?_
            refine j_iadd dJ6_numberOfTrailingZeros_0f7a4_78 ?_
            refine j_iret dJ6_numberOfTrailingZeros_0f7a4_79 rfl rfl ?_
            exact ⟨by rw [h], rfl⟩
        · have h := h.2 hc7
          refine j_iinc (v := ((1 + 8) + 4)) (L2 := [some (.int (zushr ((a1 ^^^ (-1)) &&& (a1 - 1)) 8)), some (.int ((1 + 8) + 4))]) dJ6_numberOfTrailingZeros_0f7a4_55 rfl rfl (by decide) (zno rfl) rfl ?_
          refine j_iload_n dJ6_numberOfTrailingZeros_0f7a4_58 rfl ?_
          refine j_iconst (v := 4) dJ6_numberOfTrailingZeros_0f7a4_59 rfl ?_
          refine j_iushr (v := (zushr (zushr ((a1 ^^^ (-1)) &&& (a1 - 1)) 8) 4)) dJ6_numberOfTrailingZeros_0f7a4_60 rfl ?_
          refine j_istore_n (L2 := [some (.int (zushr (zushr ((a1 ^^^ (-1)) &&& (a1 - 1)) 8) 4)), some (.int ((1 + 8) + 4))]) dJ6_numberOfTrailingZeros_0f7a4_61 (by decide) zno0 rfl ?_
          refine j_iload_n dJ6_numberOfTrailingZeros_0f7a4_62 rfl ?_
          refine j_iconst (v := 4) dJ6_numberOfTrailingZeros_0f7a4_63 rfl ?_
          refine j_ic_le (tgt := 74) dJ6_numberOfTrailingZeros_0f7a4_64 (by decide) (fun hc9 => ?_) (fun hc9 => ?_)
          · have h := h.1 hc9
            refine j_iload_n dJ6_numberOfTrailingZeros_0f7a4_74 rfl ?_
            refine j_iload_n dJ6_numberOfTrailingZeros_0f7a4_75 rfl ?_
            refine j_iconst (v := 1) dJ6_numberOfTrailingZeros_0f7a4_76 rfl ?_
            refine j_iushr (v := (zushr (zushr (zushr ((a1 ^^^ (-1)) &&& (a1 - 1)) 8) 4) 1)) dJ6_numberOfTrailingZeros_0f7a4_77 rfl ?_
            refine j_iadd dJ6_numberOfTrailingZeros_0f7a4_78 ?_
            refine j_iret dJ6_numberOfTrailingZeros_0f7a4_79 rfl rfl ?_
            exact ⟨by rw [h], rfl⟩
          · have h := h.2 hc9
            refine j_iinc (v := (((1 + 8) + 4) + 2)) (L2 := [some (.int (zushr (zushr ((a1 ^^^ (-1)) &&& (a1 - 1)) 8) 4)), some (.int (((1 + 8) + 4) + 2))]) dJ6_numberOfTrailingZeros_0f7a4_67 rfl rfl (by decide) (zno rfl) rfl ?_
            refine j_iload_n dJ6_numberOfTrailingZeros_0f7a4_70 rfl ?_
            refine j_iconst (v := 2) dJ6_numberOfTrailingZeros_0f7a4_71 rfl ?_
            refine j_iushr (v := (zushr (zushr (zushr ((a1 ^^^ (-1)) &&& (a1 - 1)) 8) 4) 2)) dJ6_numberOfTrailingZeros_0f7a4_72 rfl ?_
            refine j_istore_n (L2 := [some (.int (zushr (zushr (zushr ((a1 ^^^ (-1)) &&& (a1 - 1)) 8) 4) 2)), some (.int (((1 + 8) + 4) + 2))]) dJ6_numberOfTrailingZeros_0f7a4_73 (by decide) zno0 rfl ?_
            refine j_iload_n dJ6_numberOfTrailingZeros_0f7a4_74 rfl ?_
            refine j_iload_n dJ6_numberOfTrailingZeros_0f7a4_75 rfl ?_
            refine j_iconst (v := 1) dJ6_numberOfTrailingZeros_0f7a4_76 rfl ?_
            refine j_iushr (v := (zushr (zushr (zushr (zushr ((a1 ^^^ (-1)) &&& (a1 - 1)) 8) 4) 2) 1)) dJ6_numberOfTrailingZeros_0f7a4_77 rfl ?_
            refine j_iadd dJ6_numberOfTrailingZeros_0f7a4_78 ?_
            refine j_iret dJ6_numberOfTrailingZeros_0f7a4_79 rfl rfl ?_
            exact ⟨by rw [h], rfl⟩
    · have h := h.2 hc2
      refine j_iinc (v := (1 + 16)) (L2 := [some (.int ((a1 ^^^ (-1)) &&& (a1 - 1))), some (.int (1 + 16))]) dJ6_numberOfTrailingZeros_0f7a4_26 rfl rfl (by decide) (zno rfl) rfl ?_
      refine j_iload_n dJ6_numberOfTrailingZeros_0f7a4_29 rfl ?_
      refine j_bipush (v := 16) dJ6_numberOfTrailingZeros_0f7a4_30 rfl ?_
      refine j_iushr (v := (zushr ((a1 ^^^ (-1)) &&& (a1 - 1)) 16)) dJ6_numberOfTrailingZeros_0f7a4_32 rfl ?_
      refine j_istore_n (L2 := [some (.int (zushr ((a1 ^^^ (-1)) &&& (a1 - 1)) 16)), some (.int (1 + 16))]) dJ6_numberOfTrailingZeros_0f7a4_33 (by decide) zno0 rfl ?_
      refine j_iload_n dJ6_numberOfTrailingZeros_0f7a4_34 rfl ?_
      refine j_sipush (v := 256) dJ6_numberOfTrailingZeros_0f7a4_35 rfl ?_
      refine j_ic_le (tgt := 49) dJ6_numberOfTrailingZeros_0f7a4_38 (by decide) (fun hc10 => ?_) (fun hc10 => ?_)
      · have h := h.1 hc10
        refine j_iload_n dJ6_numberOfTrailingZeros_0f7a4_49 rfl ?_
        refine j_bipush (v := 16) dJ6_numberOfTrailingZeros_0f7a4_50 rfl ?_
        refine j_ic_le (tgt := 62) dJ6_numberOfTrailingZeros_0f7a4_52 (by decide) (fun hc11 => ?_) (fun hc11 => ?_)
        · have h := h.1 hc11
          refine j_iload_n dJ6_numberOfTrailingZeros_0f7a4_62 rfl ?_
          refine j_iconst (v := 4) dJ6_numberOfTrailingZeros_0f7a4_63 rfl ?_
          refine j_ic_le (tgt := 74) dJ6_numberOfTrailingZeros_0f7a4_64 (by decide) (fun hc12 => ?_) (fun hc12 => ?_)
          · have h := h.1 hc12
            refine j_iload_n dJ6_numberOfTrailingZeros_0f7a4_74 rfl ?_
            refine j_iload_n dJ6_numberOfTrailingZeros_0f7a4_75 rfl ?_
            refine j_iconst (v := 1) dJ6_numberOfTrailingZeros_0f7a4_76 rfl ?_
            refine j_iushr (v := (zushr (zushr ((a1 ^^^ (-1)) &&& (a1 - 1)) 16) 1)) dJ6_numberOfTrailingZeros_0f7a4_77 rfl ?_
            refine j_iadd dJ6_numberOfTrailingZeros_0f7a4_78 ?_
            refine j_iret dJ6_numberOfTrailingZeros_0f7a4_79 rfl rfl ?_
            exact ⟨by rw [h], rfl⟩
          · have h := h.2 hc12
            refine j_iinc (v := ((1 + 16) + 2)) (L2 := [some (.int (zushr ((a1 ^^^ (-1)) &&& (a1 - 1)) 16)), some (.int ((1 + 16) + 2))]) dJ6_numberOfTrailingZeros_0f7a4_67 rfl rfl (by decide) (zno rfl) rfl ?_
            refine j_iload_n dJ6_numberOfTrailingZeros_0f7a4_70 rfl ?_
            refine j_iconst (v := 2) dJ6_numberOfTrailingZeros_0f7a4_71 rfl ?_
            refine j_iushr (v := (zushr (zushr ((a1 ^^^ (-1)) &&& (a1 - 1)) 16) 2)) dJ6_numberOfTrailingZeros_0f7a4_72 rfl ?_
            refine j_istore_n (L2 := [some (.int (zushr (zushr ((a1 ^^^ (-1)) &&& (a1 - 1)) 16) 2)), some (.int ((1 + 16) + 2))]) dJ6_numberOfTrailingZeros_0f7a4_73 (by decide) zno0 rfl ?_
            refine j_iload_n dJ6_numberOfTrailingZeros_0f7a4_74 rfl ?_
            refine j_iload_n dJ6_numberOfTrailingZeros_0f7a4_75 rfl ?_
            refine j_iconst (v := 1) dJ6_numberOfTrailingZeros_0f7a4_76 rfl ?_
            refine j_iushr (v := (zushr (zushr (zushr ((a1 ^^^ (-1)) &&& (a1 - 1)) 16) 2) 1)) dJ6_numberOfTrailingZeros_0f7a4_77 rfl ?_
            refine j_iadd dJ6_numberOfTrailingZeros_0f7a4_78 ?_
            refine j_iret dJ6_numberOfTrailingZeros_0f7a4_79 rfl rfl ?_
            exact ⟨by rw [h], rfl⟩
        · have h := h.2 hc11
          refine j_iinc (v := ((1 + 16) + 4)) (L2 := [some (.int (zushr ((a1 ^^^ (-1)) &&& (a1 - 1)) 16)), some (.int ((1 + 16) + 4))]) dJ6_numberOfTrailingZeros_0f7a4_55 rfl rfl (by decide) (zno rfl) rfl ?_
          refine j_iload_n dJ6_numberOfTrailingZeros_0f7a4_58 rfl ?_
          refine j_iconst (v := 4) dJ6_numberOfTrailingZeros_0f7a4_59 rfl ?_
          refine j_iushr (v := (zushr (zushr ((a1 ^^^ (-1)) &&& (a1 - 1)) 16) 4)) dJ6_numberOfTrailingZeros_0f7a4_60 rfl ?_
          refine j_istore_n (L2 := [some (.int (zushr (zushr ((a1 ^^^ (-1)) &&& (a1 - 1)) 16) 4)), some (.int ((1 + 16) + 4))]) dJ6_numberOfTrailingZeros_0f7a4_61 (by decide) zno0 rfl ?_
          refine j_iload_n dJ6_numberOfTrailingZeros_0f7a4_62 rfl ?_
          refine j_iconst (v := 4) dJ6_numberOfTrailingZeros_0f7a4_63 rfl ?_
          refine j_ic_le (tgt := 74) dJ6_numberOfTrailingZeros_0f7a4_64 (by decide) (fun hc13 => ?_) (fun hc13 => ?_)
          · have h := h.1 hc13
            refine j_iload_n dJ6_numberOfTrailingZeros_0f7a4_74 rfl ?_
            refine j_iload_n dJ6_numberOfTrailingZeros_0f7a4_75 rfl ?_
            refine j_iconst (v := 1) dJ6_numberOfTrailingZeros_0f7a4_76 rfl ?_
            refine j_iushr (v := (zushr (zushr (zushr ((a1 ^^^ (-1)) &&& (a1 - 1)) 16) 4) 1)) dJ6_numberOfTrailingZeros_0f7a4_77 rfl ?_
            refine j_iadd dJ6_numberOfTrailingZeros_0f7a4_78 ?_
            refine j_iret dJ6_numberOfTrailingZeros_0f7a4_79 rfl rfl ?_
            exact ⟨by rw [h], rfl⟩
          · have h := h.2 hc13
            refine j_iinc (v := (((1 + 16) + 4) + 2)) (L2 := [some (.int (zushr (zushr ((a1 ^^^ (-1)) &&& (a1 - 1)) 16) 4)), some (.int (((1 + 16) + 4) + 2))]) dJ6_numberOfTrailingZeros_0f7a4_67 rfl rfl (by decide) (zno rfl) rfl ?_
            refine j_iload_n dJ6_numberOfTrailingZeros_0f7a4_70 rfl ?_
            refine j_iconst (v := 2) dJ6_numberOfTrailingZeros_0f7a4_71 rfl ?_
            refine j_iushr (v := (zushr (zushr (zushr ((a1 ^^^ (-1)) &&& (a1 - 1)) 16) 4) 2)) dJ6_numberOfTrailingZeros_0f7a4_72 rfl ?_
            refine j_istore_n (L2 := [some (.int (zushr (zushr (zushr ((a1 ^^^ (-1)) &&& (a1 - 1)) 16) 4) 2)), some (.int (((1 + 16) + 4) + 2))]) dJ6_numberOfTrailingZeros_0f7a4_73 (by decide) zno0 rfl ?_
            refine j_iload_n dJ6_numberOfTrailingZeros_0f7a4_74 rfl ?_
            refine j_iload_n dJ6_numberOfTrailingZeros_0f7a4_75 rfl ?_
            refine j_iconst (v := 1) dJ6_numberOfTrailingZeros_0f7a4_76 rfl ?_
            refine j_iushr (v := (zushr (zushr (zushr (zushr ((a1 ^^^ (-1)) &&& (a1 - 1)) 16) 4) 2) 1)) dJ6_numberOfTrailingZeros_0f7a4_77 rfl ?_
            refine j_iadd dJ6_numberOfTrailingZeros_0f7a4_78 ?_
            refine j_iret dJ6_numberOfTrailingZeros_0f7a4_79 rfl rfl ?_
            exact ⟨by rw [h], rfl⟩
      · have h := h.2 hc10
        refine j_iinc (v := ((1 + 16) + 8)) (L2 := [some (.int (zushr ((a1 ^^^ (-1)) &&& (a1 - 1)) 16)), some (.int ((1 + 16) + 8))]) dJ6_numberOfTrailingZeros_0f7a4_41 rfl rfl (by decide) (zno rfl) rfl ?_
        refine j_iload_n dJ6_numberOfTrailingZeros_0f7a4_44 rfl ?_
        refine j_bipush (v := 8) dJ6_numberOfTrailingZeros_0f7a4_45 rfl ?_
        refine j_iushr (v := (zushr (zushr ((a1 ^^^ (-1)) &&& (a1 - 1)) 16) 8)) dJ6_numberOfTrailingZeros_0f7a4_47 rfl ?_
        refine j_istore_n (L2 := [some (.int (zushr (zushr ((a1 ^^^ (-1)) &&& (a1 - 1)) 16) 8)), some (.int ((1 + 16) + 8))]) dJ6_numberOfTrailingZeros_0f7a4_48 (by decide) zno0 rfl ?_
        refine j_iload_n dJ6_numberOfTrailingZeros_0f7a4_49 rfl ?_
        refine j_bipush (v := 16) dJ6_numberOfTrailingZeros_0f7a4_50 rfl ?_
        refine j_ic_le (tgt := 62) dJ6_numberOfTrailingZeros_0f7a4_52 (by decide) (fun hc14 => ?_) (fun hc14 => ?_)
        · have h := h.1 hc14
          refine j_iload_n dJ6_numberOfTrailingZeros_0f7a4_62 rfl ?_
          refine j_iconst (v := 4) dJ6_numberOfTrailingZeros_0f7a4_63 rfl ?_
          refine j_ic_le (tgt := 74) dJ6_numberOfTrailingZeros_0f7a4_64 (by decide) (fun hc15 => ?_) (fun hc15 => ?_)
          · have h := h.1 hc15
            refine j_iload_n dJ6_numberOfTrailingZeros_0f7a4_74 rfl ?_
            refine j_iload_n dJ6_numberOfTrailingZeros_0f7a4_75 rfl ?_
            refine j_iconst (v := 1) dJ6_numberOfTrailingZeros_0f7a4_76 rfl ?_
            refine j_iushr (v := (zushr (zushr (zushr ((a1 ^^^ (-1)) &&& (a1 - 1)) 16) 8) 1)) dJ6_numberOfTrailingZeros_0f7a4_77 rfl ?_
            refine j_iadd dJ6_numberOfTrailingZeros_0f7a4_78 ?_
            refine j_iret dJ6_numberOfTrailingZeros_0f7a4_79 rfl rfl ?_
            exact ⟨by rw [h], rfl⟩
          · have h := h.2 hc15
            refine j_iinc (v := (((1 + 16) + 8) + 2)) (L2 := [some (.int (zushr (zushr ((a1 ^^^ (-1)) &&& (a1 - 1)) 16) 8)), some (.int (((1 + 16) + 8) + 2))]) dJ6_numberOfTrailingZeros_0f7a4_67 rfl rfl (by decide) (zno rfl) rfl ?_
            refine j_iload_n dJ6_numberOfTrailingZeros_0f7a4_70 rfl ?_
            refine j_iconst (v := 2) dJ6_numberOfTrailingZeros_0f7a4_71 rfl ?_
            refine j_iushr (v := (zushr (zushr (zushr ((a1 ^^^ (-1)) &&& (a1 - 1)) 16) 8) 2)) dJ6_numberOfTrailingZeros_0f7a4_72 rfl ?_
            refine j_istore_n (L2 := [some (.int (zushr (zushr (zushr ((a1 ^^^ (-1)) &&& (a1 - 1)) 16) 8) 2)), some (.int (((1 + 16) + 8) + 2))]) dJ6_numberOfTrailingZeros_0f7a4_73 (by decide) zno0 rfl ?_
            refine j_iload_n dJ6_numberOfTrailingZeros_0f7a4_74 rfl ?_
            refine j_iload_n dJ6_numberOfTrailingZeros_0f7a4_75 rfl ?_
            refine j_iconst (v := 1) dJ6_numberOfTrailingZeros_0f7a4_76 rfl ?_
            refine j_iushr (v := (zushr (zushr (zushr (zushr ((a1 ^^^ (-1)) &&& (a1 - 1)) 16) 8) 2) 1)) dJ6_numberOfTrailingZeros_0f7a4_77 rfl ?_
            refine j_iadd dJ6_numberOfTrailingZeros_0f7a4_78 ?_
            refine j_iret dJ6_numberOfTrailingZeros_0f7a4_79 rfl rfl ?_
            exact ⟨by rw [h], rfl⟩
        · have h := h.2 hc14
          refine j_iinc (v := (((1 + 16) + 8) + 4)) (L2 := [some (.int (zushr (zushr ((a1 ^^^ (-1)) &&& (a1 - 1)) 16) 8)), some (.int (((1 + 16) + 8) + 4))]) dJ6_numberOfTrailingZeros_0f7a4_55 rfl rfl (by decide) (zno rfl) rfl ?_
          refine j_iload_n dJ6_numberOfTrailingZeros_0f7a4_58 rfl ?_
          refine j_iconst (v := 4) dJ6_numberOfTrailingZeros_0f7a4_59 rfl ?_
          refine j_iushr (v := (zushr (zushr (zushr ((a1 ^^^ (-1)) &&& (a1 - 1)) 16) 8) 4)) dJ6_numberOfTrailingZeros_0f7a4_60 rfl ?_
          refine j_istore_n (L2 := [some (.int (zushr (zushr (zushr ((a1 ^^^ (-1)) &&& (a1 - 1)) 16) 8) 4)), some (.int (((1 + 16) + 8) + 4))]) dJ6_numberOfTrailingZeros_0f7a4_61 (by decide) zno0 rfl ?_
          refine j_iload_n dJ6_numberOfTrailingZeros_0f7a4_62 rfl ?_
          refine j_iconst (v := 4) dJ6_numberOfTrailingZeros_0f7a4_63 rfl ?_
          refine j_ic_le (tgt := 74) dJ6_numberOfTrailingZeros_0f7a4_64 (by decide) (fun hc16 => ?_) (fun hc16 => ?_)
          · have h := h.1 hc16
            refine j_iload_n dJ6_numberOfTrailingZeros_0f7a4_74 rfl ?_
            refine j_iload_n dJ6_numberOfTrailingZeros_0f7a4_75 rfl ?_
            refine j_iconst (v := 1) dJ6_numberOfTrailingZeros_0f7a4_76 rfl ?_
            refine j_iushr (v := (zushr (zushr (zushr (zushr ((a1 ^^^ (-1)) &&& (a1 - 1)) 16) 8) 4) 1)) dJ6_numberOfTrailingZeros_0f7a4_77 rfl ?_
            refine j_iadd dJ6_numberOfTrailingZeros_0f7a4_78 ?_
            refine j_iret dJ6_numberOfTrailingZeros_0f7a4_79 rfl rfl ?_
            exact ⟨by rw [h], rfl⟩
          · have h := h.2 hc16
            refine j_iinc (v := ((((1 + 16) + 8) + 4) + 2)) (L2 := [some (.int (zushr (zushr (zushr ((a1 ^^^ (-1)) &&& (a1 - 1)) 16) 8) 4)), some (.int ((((1 + 16) + 8) + 4) + 2))]) dJ6_numberOfTrailingZeros_0f7a4_67 rfl rfl (by decide) (zno rfl) rfl ?_
            refine j_iload_n dJ6_numberOfTrailingZeros_0f7a4_70 rfl ?_
            refine j_iconst (v := 2) dJ6_numberOfTrailingZeros_0f7a4_71 rfl ?_
            refine j_iushr (v := (zushr (zushr (zushr (zushr ((a1 ^^^ (-1)) &&& (a1 - 1)) 16) 8) 4) 2)) dJ6_numberOfTrailingZeros_0f7a4_72 rfl ?_
            refine j_istore_n (L2 := [some (.int (zushr (zushr (zushr (zushr ((a1 ^^^ (-1)) &&& (a1 - 1)) 16) 8) 4) 2)), some (.int ((((1 + 16) + 8) + 4) + 2))]) dJ6_numberOfTrailingZeros_0f7a4_73 (by decide) zno0 rfl ?_
            refine j_iload_n dJ6_numberOfTrailingZeros_0f7a4_74 rfl ?_
            refine j_iload_n dJ6_numberOfTrailingZeros_0f7a4_75 rfl ?_
            refine j_iconst (v := 1) dJ6_numberOfTrailingZeros_0f7a4_76 rfl ?_
            refine j_iushr (v := (zushr (zushr (zushr (zushr (zushr ((a1 ^^^ (-1)) &&& (a1 - 1)) 16) 8) 4) 2) 1)) dJ6_numberOfTrailingZeros_0f7a4_77 rfl ?_
            refine j_iadd dJ6_numberOfTrailingZeros_0f7a4_78 ?_
            refine j_iret dJ6_numberOfTrailingZeros_0f7a4_79 rfl rfl ?_
            exact ⟨by rw [h], rfl⟩
  · have h := h.2 hc1
    refine j_iload_n dJ6_numberOfTrailingZeros_0f7a4_12 rfl ?_
    refine j_bipush (v := 32) dJ6_numberOfTrailingZeros_0f7a4_13 rfl ?_
    refine j_iand dJ6_numberOfTrailingZeros_0f7a4_15 ?_
    refine j_iret dJ6_numberOfTrailingZeros_0f7a4_16 rfl rfl ?_
    exact ⟨by rw [h], rfl⟩
theorem eJ6_bitCount_0f7a4 (v : Int32) (X : zX) (a1 : Int32) (h : ((((((((a1 - ((zushr a1 1) &&& 1431655765)) &&& 858993459) + ((zushr (a1 - ((zushr a1 1) &&& 1431655765)) 2) &&& 858993459)) + (zushr (((a1 - ((zushr a1 1) &&& 1431655765)) &&& 858993459) + ((zushr (a1 - ((zushr a1 1) &&& 1431655765)) 2) &&& 858993459)) 4)) &&& 252645135) + (zushr (((((a1 - ((zushr a1 1) &&& 1431655765)) &&& 858993459) + ((zushr (a1 - ((zushr a1 1) &&& 1431655765)) 2) &&& 858993459)) + (zushr (((a1 - ((zushr a1 1) &&& 1431655765)) &&& 858993459) + ((zushr (a1 - ((zushr a1 1) &&& 1431655765)) 2) &&& 858993459)) 4)) &&& 252645135) 8)) + (zushr ((((((a1 - ((zushr a1 1) &&& 1431655765)) &&& 858993459) + ((zushr (a1 - ((zushr a1 1) &&& 1431655765)) 2) &&& 858993459)) + (zushr (((a1 - ((zushr a1 1) &&& 1431655765)) &&& 858993459) + ((zushr (a1 - ((zushr a1 1) &&& 1431655765)) 2) &&& 858993459)) 4)) &&& 252645135) + (zushr (((((a1 - ((zushr a1 1) &&& 1431655765)) &&& 858993459) + ((zushr (a1 - ((zushr a1 1) &&& 1431655765)) 2) &&& 858993459)) + (zushr (((a1 - ((zushr a1 1) &&& 1431655765)) &&& 858993459) + ((zushr (a1 - ((zushr a1 1) &&& 1431655765)) 2) &&& 858993459)) 4)) &&& 252645135) 8)) 16)) &&& 63) = v) : zPf SX 0 mJ6_bitCount_0f7a4 [.int a1] X v := by
  refine zP_in [some (.int a1)] ⟨rfl, trivial⟩ (by decide) (Nat.le_of_ble_eq_true rfl) ?_
  refine j_iload_n dJ6_bitCount_0f7a4_0 rfl ?_
  refine j_iload_n dJ6_bitCount_0f7a4_1 rfl ?_
  refine j_iconst (v := 1) dJ6_bitCount_0f7a4_2 rfl ?_
  refine j_iushr (v := (zushr a1 1)) dJ6_bitCount_0f7a4_3 rfl ?_
  refine j_ldc_w (v := 1431655765) dJ6_bitCount_0f7a4_4 qJ6_265 ?_
  refine j_iand dJ6_bitCount_0f7a4_7 ?_
  refine j_isub dJ6_bitCount_0f7a4_8 ?_
  refine j_istore_n (L2 := [some (.int (a1 - ((zushr a1 1) &&& 1431655765)))]) dJ6_bitCount_0f7a4_9 (by decide) zno0 rfl ?_
  refine j_iload_n dJ6_bitCount_0f7a4_10 rfl ?_
  refine j_ldc_w (v := 858993459) dJ6_bitCount_0f7a4_11 qJ6_266 ?_
  refine j_iand dJ6_bitCount_0f7a4_14 ?_
  refine j_iload_n dJ6_bitCount_0f7a4_15 rfl ?_
  refine j_iconst (v := 2) dJ6_bitCount_0f7a4_16 rfl ?_
  refine j_iushr (v := (zushr (a1 - ((zushr a1 1) &&& 1431655765)) 2)) dJ6_bitCount_0f7a4_17 rfl ?_
  refine j_ldc_w (v := 858993459) dJ6_bitCount_0f7a4_18 qJ6_266 ?_
  refine j_iand dJ6_bitCount_0f7a4_21 ?_
  refine j_iadd dJ6_bitCount_0f7a4_22 ?_
  refine j_istore_n (L2 := [some (.int (((a1 - ((zushr a1 1) &&& 1431655765)) &&& 858993459) + ((zushr (a1 - ((zushr a1 1) &&& 1431655765)) 2) &&& 858993459)))]) dJ6_bitCount_0f7a4_23 (by decide) zno0 rfl ?_
  refine j_iload_n dJ6_bitCount_0f7a4_24 rfl ?_
  refine j_iload_n dJ6_bitCount_0f7a4_25 rfl ?_
  refine j_iconst (v := 4) dJ6_bitCount_0f7a4_26 rfl ?_
  refine j_iushr (v := (zushr (((a1 - ((zushr a1 1) &&& 1431655765)) &&& 858993459) + ((zushr (a1 - ((zushr a1 1) &&& 1431655765)) 2) &&& 858993459)) 4)) dJ6_bitCount_0f7a4_27 rfl ?_
  refine j_iadd dJ6_bitCount_0f7a4_28 ?_
  refine j_ldc_w (v := 252645135) dJ6_bitCount_0f7a4_29 qJ6_267 ?_
  refine j_iand dJ6_bitCount_0f7a4_32 ?_
  refine j_istore_n (L2 := [some (.int (((((a1 - ((zushr a1 1) &&& 1431655765)) &&& 858993459) + ((zushr (a1 - ((zushr a1 1) &&& 1431655765)) 2) &&& 858993459)) + (zushr (((a1 - ((zushr a1 1) &&& 1431655765)) &&& 858993459) + ((zushr (a1 - ((zushr a1 1) &&& 1431655765)) 2) &&& 858993459)) 4)) &&& 252645135))]) dJ6_bitCount_0f7a4_33 (by decide) zno0 rfl ?_
  refine j_iload_n dJ6_bitCount_0f7a4_34 rfl ?_
  refine j_iload_n dJ6_bitCount_0f7a4_35 rfl ?_
  refine j_bipush (v := 8) dJ6_bitCount_0f7a4_36 rfl ?_
  refine j_iushr (v := (zushr (((((a1 - ((zushr a1 1) &&& 1431655765)) &&& 858993459) + ((zushr (a1 - ((zushr a1 1) &&& 1431655765)) 2) &&& 858993459)) + (zushr (((a1 - ((zushr a1 1) &&& 1431655765)) &&& 858993459) + ((zushr (a1 - ((zushr a1 1) &&& 1431655765)) 2) &&& 858993459)) 4)) &&& 252645135) 8)) dJ6_bitCount_0f7a4_38 rfl ?_
  refine j_iadd dJ6_bitCount_0f7a4_39 ?_
  refine j_istore_n (L2 := [some (.int ((((((a1 - ((zushr a1 1) &&& 1431655765)) &&& 858993459) + ((zushr (a1 - ((zushr a1 1) &&& 1431655765)) 2) &&& 858993459)) + (zushr (((a1 - ((zushr a1 1) &&& 1431655765)) &&& 858993459) + ((zushr (a1 - ((zushr a1 1) &&& 1431655765)) 2) &&& 858993459)) 4)) &&& 252645135) + (zushr (((((a1 - ((zushr a1 1) &&& 1431655765)) &&& 858993459) + ((zushr (a1 - ((zushr a1 1) &&& 1431655765)) 2) &&& 858993459)) + (zushr (((a1 - ((zushr a1 1) &&& 1431655765)) &&& 858993459) + ((zushr (a1 - ((zushr a1 1) &&& 1431655765)) 2) &&& 858993459)) 4)) &&& 252645135) 8)))]) dJ6_bitCount_0f7a4_40 (by decide) zno0 rfl ?_
  refine j_iload_n dJ6_bitCount_0f7a4_41 rfl ?_
  refine j_iload_n dJ6_bitCount_0f7a4_42 rfl ?_
  refine j_bipush (v := 16) dJ6_bitCount_0f7a4_43 rfl ?_
  refine j_iushr (v := (zushr ((((((a1 - ((zushr a1 1) &&& 1431655765)) &&& 858993459) + ((zushr (a1 - ((zushr a1 1) &&& 1431655765)) 2) &&& 858993459)) + (zushr (((a1 - ((zushr a1 1) &&& 1431655765)) &&& 858993459) + ((zushr (a1 - ((zushr a1 1) &&& 1431655765)) 2) &&& 858993459)) 4)) &&& 252645135) + (zushr (((((a1 - ((zushr a1 1) &&& 1431655765)) &&& 858993459) + ((zushr (a1 - ((zushr a1 1) &&& 1431655765)) 2) &&& 858993459)) + (zushr (((a1 - ((zushr a1 1) &&& 1431655765)) &&& 858993459) + ((zushr (a1 - ((zushr a1 1) &&& 1431655765)) 2) &&& 858993459)) 4)) &&& 252645135) 8)) 16)) dJ6_bitCount_0f7a4_45 rfl ?_
  refine j_iadd dJ6_bitCount_0f7a4_46 ?_
  refine j_istore_n (L2 := [some (.int (((((((a1 - ((zushr a1 1) &&& 1431655765)) &&& 858993459) + ((zushr (a1 - ((zushr a1 1) &&& 1431655765)) 2) &&& 858993459)) + (zushr (((a1 - ((zushr a1 1) &&& 1431655765)) &&& 858993459) + ((zushr (a1 - ((zushr a1 1) &&& 1431655765)) 2) &&& 858993459)) 4)) &&& 252645135) + (zushr (((((a1 - ((zushr a1 1) &&& 1431655765)) &&& 858993459) + ((zushr (a1 - ((zushr a1 1) &&& 1431655765)) 2) &&& 858993459)) + (zushr (((a1 - ((zushr a1 1) &&& 1431655765)) &&& 858993459) + ((zushr (a1 - ((zushr a1 1) &&& 1431655765)) 2) &&& 858993459)) 4)) &&& 252645135) 8)) + (zushr ((((((a1 - ((zushr a1 1) &&& 1431655765)) &&& 858993459) + ((zushr (a1 - ((zushr a1 1) &&& 1431655765)) 2) &&& 858993459)) + (zushr (((a1 - ((zushr a1 1) &&& 1431655765)) &&& 858993459) + ((zushr (a1 - ((zushr a1 1) &&& 1431655765)) 2) &&& 858993459)) 4)) &&& 252645135) + (zushr (((((a1 - ((zushr a1 1) &&& 1431655765)) &&& 858993459) + ((zushr (a1 - ((zushr a1 1) &&& 1431655765)) 2) &&& 858993459)) + (zushr (((a1 - ((zushr a1 1) &&& 1431655765)) &&& 858993459) + ((zushr (a1 - ((zushr a1 1) &&& 1431655765)) 2) &&& 858993459)) 4)) &&& 252645135) 8)) 16)))]) dJ6_bitCount_0f7a4_47 (by decide) zno0 rfl ?_
  refine j_iload_n dJ6_bitCount_0f7a4_48 rfl ?_
  refine j_bipush (v := 63) dJ6_bitCount_0f7a4_49 rfl ?_
  refine j_iand dJ6_bitCount_0f7a4_51 ?_
  refine j_iret dJ6_bitCount_0f7a4_52 rfl rfl ?_
  exact ⟨by rw [h], rfl⟩
