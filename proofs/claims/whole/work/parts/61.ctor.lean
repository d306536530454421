/-! constructors, written by mkctor.py -/
def SL1 : List zE := [.inr (1, [some (some 1), some (some 2), none, none, none]), .inl (1, 12, none), .inl (1, 12, none)]
set_option maxRecDepth 100000 in
set_option maxHeartbeats 4000000 in
theorem n_X1 : zNc mX1_init 1 2 24 [.ref 0] [.inr (1, [some none, some none, none, none, none])] SL1 (fun X => X = zz) := by
  intro l dC dI cy ad sz
  refine Met.ofW (cc := mX1_init.2.1) (maxL := mX1_init.2.2.1) (ret := mX1_init.2.2.2) (by decide) rfl ?_
  intro p e s m args below meth c s₁ B hml hv
  obtain ⟨rfl, ⟨hsz, hP, hK, hN, hD0, hZ⟩, hao⟩ := hv
  have hts0 := atoms_spec (ws := zws mX1_init) B.pre
  subst hsz
  rw [lg_entry_eq]
  have hx := B.exec
  have hb := B.bytes
  have hr := B.returns
  have hown : s.vm.findClass RX1 = some m.cls := findClass_of_methodNamed B.named
  have hlocks := B.notSynchronized
  have hin : meth.name = "<init>" := (name_of_methodNamed B.named B.method).1
  have hts := fun w (hw : w ∈ zG) => hts0 w (List.mem_cons_of_mem _ hw)
  have hD := hD0.self (sz := s.heap.size)
  generalize hAe : va_A (zw cy ad zz [.inr (1, [some none, some none, none, none, none])]) s.heap.size = A at hD hZ ⊢
  have hA : ∀ q : Nat, s.heap.size ≤ q → A q := fun q h => by rw [← hAe]; exact Or.inr h
  have C : zC p s m _ meth c mX1_init dC dI cy ad A := ⟨hx, hb, hml, hr, hown, hts, hN, hK, hlocks, hA, hZ⟩
  have hS : va_S A s.heap s.heap [] := va_S.rf
  rw [zw_eq] at hP hD
  have hP : va_P (dC, dI) vwCl [((ad 0), .inr (1, [.null, .null, .int 0, .int 0, .int 0]))] s.heap := hP
  have hD : va_D A [((ad 0), .inr (1, [.null, .null, .int 0, .int 0, .int 0]))] := hD
  have hl := lv_entry (([.ref 0] : List Value).map (zk ad)) (n := mX1_init.2.2.1) (Nat.le_of_ble_eq_true rfl)
  generalize (lg_sl (([.ref 0] : List Value).map (zk ad)) ++ List.replicate (mX1_init.2.2.1 - (lg_sl (([.ref 0] : List Value).map (zk ad))).length) Slot.unset).toArray = ls at hl ⊢
  have hl : lv_has ls 1 [(0, .ref (ad 0))] := hl
  refine lv_aload_n hx hb dX1_init_0 rfl (lv_at hl 0 rfl) ?_
  refine W.objInit hx hb hown (hts _ (zGm (zm1 31 rfl) rfl)) (hts _ (zGm (zm1 24 rfl) rfl)) (hts _ (zGm (zm1 25 rfl) rfl)) rfl (by rw [hml]; exact hl.1) rfl dX1_init_1 (Nat.le_of_ble_eq_true rfl) (Nat.le_of_ble_eq_true rfl) ?_
  refine lv_aload_n hx hb dX1_init_4 rfl (lv_at hl 0 rfl) ?_
  refine lv_bipush (v := 12) hx hb dX1_init_5 rfl ?_
  refine z_newa 1 (atype := .int) hx hb (hts _ (zGm (zm1 53 rfl) rfl)) rfl rfl hK hP hD hS hA 12 (by decide) (by decide) (by decide) (Nat.le_of_ble_eq_true rfl) (Nat.le_of_ble_eq_true rfl) dX1_init_7 (fun q1 H hP hD hS => ?_)
  have hP : va_P (dC, dI) vwCl [((ad 0), .inr (1, [.null, .null, .int 0, .int 0, .int 0])), (q1, .inl (cy 1, 12, .inl (fun _ => 0)))] H := hP
  have hD : va_D A [((ad 0), .inr (1, [.null, .null, .int 0, .int 0, .int 0])), (q1, .inl (cy 1, 12, .inl (fun _ => 0)))] := hD
  refine W.widen (k := 1) (n := 12) (by omega) (by omega) ?_
  refine va_putF (D := (dC, dI)) (ci := 1) (v := .ref q1) (ty := (.array .int)) (C := RX1) (T := TX1) (N := 5) hx hb hts lyX1 tyX1 tyX1_ok nmX1 hown hK hP hD hS 0 rfl rfl 0 (by decide) (hts _ (zGm (zm1 32 rfl) rfl)) (fun _ h9 => h9) rfl hin rfl (by decide +kernel) rfl rfl (Nat.le_of_ble_eq_true rfl) dX1_init_9 (fun H locs hP hD hS => ?_)
  have hP : va_P (dC, dI) vwCl [((ad 0), .inr (1, [.ref q1, .null, .int 0, .int 0, .int 0])), (q1, .inl (cy 1, 12, .inl (fun _ => 0)))] H := hP
  have hD : va_D A [((ad 0), .inr (1, [.ref q1, .null, .int 0, .int 0, .int 0])), (q1, .inl (cy 1, 12, .inl (fun _ => 0)))] := hD
  refine lv_aload_n hx hb dX1_init_12 rfl (lv_at hl 0 rfl) ?_
  refine lv_bipush (v := 12) hx hb dX1_init_13 rfl ?_
  refine z_newa 1 (atype := .int) hx hb (hts _ (zGm (zm1 53 rfl) rfl)) rfl rfl hK hP hD hS hA 12 (by decide) (by decide) (by decide) (Nat.le_of_ble_eq_true rfl) (Nat.le_of_ble_eq_true rfl) dX1_init_15 (fun q2 H hP hD hS => ?_)
  have hP : va_P (dC, dI) vwCl [((ad 0), .inr (1, [.ref q1, .null, .int 0, .int 0, .int 0])), (q1, .inl (cy 1, 12, .inl (fun _ => 0))), (q2, .inl (cy 1, 12, .inl (fun _ => 0)))] H := hP
  have hD : va_D A [((ad 0), .inr (1, [.ref q1, .null, .int 0, .int 0, .int 0])), (q1, .inl (cy 1, 12, .inl (fun _ => 0))), (q2, .inl (cy 1, 12, .inl (fun _ => 0)))] := hD
  refine W.widen (k := 2) (n := 24) (by omega) (by omega) ?_
  refine va_putF (D := (dC, dI)) (ci := 1) (v := .ref q2) (ty := (.array .int)) (C := RX1) (T := TX1) (N := 5) hx hb hts lyX1 tyX1 tyX1_ok nmX1 hown hK hP hD hS 0 rfl rfl 1 (by decide) (hts _ (zGm (zm1 34 rfl) rfl)) (fun _ h9 => h9) rfl hin rfl (by decide +kernel) rfl rfl (Nat.le_of_ble_eq_true rfl) dX1_init_17 (fun H locs hP hD hS => ?_)
  have hP : va_P (dC, dI) vwCl [((ad 0), .inr (1, [.ref q1, .ref q2, .int 0, .int 0, .int 0])), (q1, .inl (cy 1, 12, .inl (fun _ => 0))), (q2, .inl (cy 1, 12, .inl (fun _ => 0)))] H := hP
  have hD : va_D A [((ad 0), .inr (1, [.ref q1, .ref q2, .int 0, .int 0, .int 0])), (q1, .inl (cy 1, 12, .inl (fun _ => 0))), (q2, .inl (cy 1, 12, .inl (fun _ => 0)))] := hD
  exact W.vret hx hb hr (fun t ht _ => ⟨⟨rfl, (fun k => if 900 ≤ k then ad k else ([(ad 0), q1, q2] : List Nat).getD k 0), zz, rfl, rfl, fun k hk => if_pos hk, by rw [ht, zw_eq]; exact hP, by rw [zw_eq]; exact hD⟩, hS.F ht⟩) hS.2.2 dX1_init_20
def SL6 : List zE := [.inr (6, [some (some 1), some (some 2), some (some 3), some (some 4), some (some 5), some (some 6), some (some 7), some (some 12), some (some 13), some (some 14), none]), .inl (1, 24, none), .inl (1, 24, none), .inl (1, 24, none), .inl (1, 24, none), .inl (1, 24, none), .inl (1, 24, none), .inl (4, 4, some (fun j => if j < 4 then some (8 + j) else none)), .inl (1, 24, none), .inl (1, 24, none), .inl (1, 24, none), .inl (1, 24, none), .inl (1, 4, none), .inl (1, 4, none), .inl (1, 12, none)]
set_option maxRecDepth 100000 in
set_option maxHeartbeats 4000000 in
theorem n_X6 : zNc mX6_init 1 14 264 [.ref 0] [.inr (6, [some none, some none, some none, some none, some none, some none, some none, some none, some none, some none, none])] SL6 (fun X => X = zz) := by
  intro l dC dI cy ad sz
  refine Met.ofW (cc := mX6_init.2.1) (maxL := mX6_init.2.2.1) (ret := mX6_init.2.2.2) (by decide) rfl ?_
  intro p e s m args below meth c s₁ B hml hv
  obtain ⟨rfl, ⟨hsz, hP, hK, hN, hD0, hZ⟩, hao⟩ := hv
  have hts0 := atoms_spec (ws := zws mX6_init) B.pre
  subst hsz
  rw [lg_entry_eq]
  have hx := B.exec
  have hb := B.bytes
  have hr := B.returns
  have hown : s.vm.findClass RX6 = some m.cls := findClass_of_methodNamed B.named
  have hlocks := B.notSynchronized
  have hin : meth.name = "<init>" := (name_of_methodNamed B.named B.method).1
  have hts := fun w (hw : w ∈ zG) => hts0 w (List.mem_cons_of_mem _ hw)
  have hD := hD0.self (sz := s.heap.size)
  generalize hAe : va_A (zw cy ad zz [.inr (6, [some none, some none, some none, some none, some none, some none, some none, some none, some none, some none, none])]) s.heap.size = A at hD hZ ⊢
  have hA : ∀ q : Nat, s.heap.size ≤ q → A q := fun q h => by rw [← hAe]; exact Or.inr h
  have C : zC p s m _ meth c mX6_init dC dI cy ad A := ⟨hx, hb, hml, hr, hown, hts, hN, hK, hlocks, hA, hZ⟩
  have hS : va_S A s.heap s.heap [] := va_S.rf
  rw [zw_eq] at hP hD
  have hP : va_P (dC, dI) vwCl [((ad 0), .inr (6, [.null, .null, .null, .null, .null, .null, .null, .null, .null, .null, .int 0]))] s.heap := hP
  have hD : va_D A [((ad 0), .inr (6, [.null, .null, .null, .null, .null, .null, .null, .null, .null, .null, .int 0]))] := hD
  have hl := lv_entry (([.ref 0] : List Value).map (zk ad)) (n := mX6_init.2.2.1) (Nat.le_of_ble_eq_true rfl)
  generalize (lg_sl (([.ref 0] : List Value).map (zk ad)) ++ List.replicate (mX6_init.2.2.1 - (lg_sl (([.ref 0] : List Value).map (zk ad))).length) Slot.unset).toArray = ls at hl ⊢
  have hl : lv_has ls 1 [(0, .ref (ad 0))] := hl
  refine lv_aload_n hx hb dX6_init_0 rfl (lv_at hl 0 rfl) ?_
  refine W.objInit hx hb hown (hts _ (zGm (zm1 59 rfl) rfl)) (hts _ (zGm (zm1 24 rfl) rfl)) (hts _ (zGm (zm1 25 rfl) rfl)) rfl (by rw [hml]; exact hl.1) rfl dX6_init_1 (Nat.le_of_ble_eq_true rfl) (Nat.le_of_ble_eq_true rfl) ?_
  refine lv_aload_n hx hb dX6_init_4 rfl (lv_at hl 0 rfl) ?_
  refine lv_bipush (v := 24) hx hb dX6_init_5 rfl ?_
  refine z_newa 1 (atype := .int) hx hb (hts _ (zGm (zm1 53 rfl) rfl)) rfl rfl hK hP hD hS hA 24 (by decide) (by decide) (by decide) (Nat.le_of_ble_eq_true rfl) (Nat.le_of_ble_eq_true rfl) dX6_init_7 (fun q1 H hP hD hS => ?_)
  have hP : va_P (dC, dI) vwCl [((ad 0), .inr (6, [.null, .null, .null, .null, .null, .null, .null, .null, .null, .null, .int 0])), (q1, .inl (cy 1, 24, .inl (fun _ => 0)))] H := hP
  have hD : va_D A [((ad 0), .inr (6, [.null, .null, .null, .null, .null, .null, .null, .null, .null, .null, .int 0])), (q1, .inl (cy 1, 24, .inl (fun _ => 0)))] := hD
  refine W.widen (k := 1) (n := 24) (by omega) (by omega) ?_
  refine va_putF (D := (dC, dI)) (ci := 6) (v := .ref q1) (ty := (.array .int)) (C := RX6) (T := TX6) (N := 11) hx hb hts lyX6 tyX6 tyX6_ok nmX6 hown hK hP hD hS 0 rfl rfl 0 (by decide) (hts _ (zGm (zm1 62 rfl) rfl)) (fun _ h9 => h9) rfl hin rfl (by decide +kernel) rfl rfl (Nat.le_of_ble_eq_true rfl) dX6_init_9 (fun H locs hP hD hS => ?_)
  have hP : va_P (dC, dI) vwCl [((ad 0), .inr (6, [.ref q1, .null, .null, .null, .null, .null, .null, .null, .null, .null, .int 0])), (q1, .inl (cy 1, 24, .inl (fun _ => 0)))] H := hP
  have hD : va_D A [((ad 0), .inr (6, [.ref q1, .null, .null, .null, .null, .null, .null, .null, .null, .null, .int 0])), (q1, .inl (cy 1, 24, .inl (fun _ => 0)))] := hD
  refine lv_aload_n hx hb dX6_init_12 rfl (lv_at hl 0 rfl) ?_
  refine lv_bipush (v := 24) hx hb dX6_init_13 rfl ?_
  refine z_newa 1 (atype := .int) hx hb (hts _ (zGm (zm1 53 rfl) rfl)) rfl rfl hK hP hD hS hA 24 (by decide) (by decide) (by decide) (Nat.le_of_ble_eq_true rfl) (Nat.le_of_ble_eq_true rfl) dX6_init_15 (fun q2 H hP hD hS => ?_)
  have hP : va_P (dC, dI) vwCl [((ad 0), .inr (6, [.ref q1, .null, .null, .null, .null, .null, .null, .null, .null, .null, .int 0])), (q1, .inl (cy 1, 24, .inl (fun _ => 0))), (q2, .inl (cy 1, 24, .inl (fun _ => 0)))] H := hP
  have hD : va_D A [((ad 0), .inr (6, [.ref q1, .null, .null, .null, .null, .null, .null, .null, .null, .null, .int 0])), (q1, .inl (cy 1, 24, .inl (fun _ => 0))), (q2, .inl (cy 1, 24, .inl (fun _ => 0)))] := hD
  refine W.widen (k := 2) (n := 48) (by omega) (by omega) ?_
  refine va_putF (D := (dC, dI)) (ci := 6) (v := .ref q2) (ty := (.array .int)) (C := RX6) (T := TX6) (N := 11) hx hb hts lyX6 tyX6 tyX6_ok nmX6 hown hK hP hD hS 0 rfl rfl 1 (by decide) (hts _ (zGm (zm1 64 rfl) rfl)) (fun _ h9 => h9) rfl hin rfl (by decide +kernel) rfl rfl (Nat.le_of_ble_eq_true rfl) dX6_init_17 (fun H locs hP hD hS => ?_)
  have hP : va_P (dC, dI) vwCl [((ad 0), .inr (6, [.ref q1, .ref q2, .null, .null, .null, .null, .null, .null, .null, .null, .int 0])), (q1, .inl (cy 1, 24, .inl (fun _ => 0))), (q2, .inl (cy 1, 24, .inl (fun _ => 0)))] H := hP
  have hD : va_D A [((ad 0), .inr (6, [.ref q1, .ref q2, .null, .null, .null, .null, .null, .null, .null, .null, .int 0])), (q1, .inl (cy 1, 24, .inl (fun _ => 0))), (q2, .inl (cy 1, 24, .inl (fun _ => 0)))] := hD
  refine lv_aload_n hx hb dX6_init_20 rfl (lv_at hl 0 rfl) ?_
  refine lv_bipush (v := 24) hx hb dX6_init_21 rfl ?_
  refine z_newa 1 (atype := .int) hx hb (hts _ (zGm (zm1 53 rfl) rfl)) rfl rfl hK hP hD hS hA 24 (by decide) (by decide) (by decide) (Nat.le_of_ble_eq_true rfl) (Nat.le_of_ble_eq_true rfl) dX6_init_23 (fun q3 H hP hD hS => ?_)
  have hP : va_P (dC, dI) vwCl [((ad 0), .inr (6, [.ref q1, .ref q2, .null, .null, .null, .null, .null, .null, .null, .null, .int 0])), (q1, .inl (cy 1, 24, .inl (fun _ => 0))), (q2, .inl (cy 1, 24, .inl (fun _ => 0))), (q3, .inl (cy 1, 24, .inl (fun _ => 0)))] H := hP
  have hD : va_D A [((ad 0), .inr (6, [.ref q1, .ref q2, .null, .null, .null, .null, .null, .null, .null, .null, .int 0])), (q1, .inl (cy 1, 24, .inl (fun _ => 0))), (q2, .inl (cy 1, 24, .inl (fun _ => 0))), (q3, .inl (cy 1, 24, .inl (fun _ => 0)))] := hD
  refine W.widen (k := 3) (n := 72) (by omega) (by omega) ?_
  refine va_putF (D := (dC, dI)) (ci := 6) (v := .ref q3) (ty := (.array .int)) (C := RX6) (T := TX6) (N := 11) hx hb hts lyX6 tyX6 tyX6_ok nmX6 hown hK hP hD hS 0 rfl rfl 2 (by decide) (hts _ (zGm (zm1 67 rfl) rfl)) (fun _ h9 => h9) rfl hin rfl (by decide +kernel) rfl rfl (Nat.le_of_ble_eq_true rfl) dX6_init_25 (fun H locs hP hD hS => ?_)
  have hP : va_P (dC, dI) vwCl [((ad 0), .inr (6, [.ref q1, .ref q2, .ref q3, .null, .null, .null, .null, .null, .null, .null, .int 0])), (q1, .inl (cy 1, 24, .inl (fun _ => 0))), (q2, .inl (cy 1, 24, .inl (fun _ => 0))), (q3, .inl (cy 1, 24, .inl (fun _ => 0)))] H := hP
  have hD : va_D A [((ad 0), .inr (6, [.ref q1, .ref q2, .ref q3, .null, .null, .null, .null, .null, .null, .null, .int 0])), (q1, .inl (cy 1, 24, .inl (fun _ => 0))), (q2, .inl (cy 1, 24, .inl (fun _ => 0))), (q3, .inl (cy 1, 24, .inl (fun _ => 0)))] := hD
  refine lv_aload_n hx hb dX6_init_28 rfl (lv_at hl 0 rfl) ?_
  refine lv_bipush (v := 24) hx hb dX6_init_29 rfl ?_
  refine z_newa 1 (atype := .int) hx hb (hts _ (zGm (zm1 53 rfl) rfl)) rfl rfl hK hP hD hS hA 24 (by decide) (by decide) (by decide) (Nat.le_of_ble_eq_true rfl) (Nat.le_of_ble_eq_true rfl) dX6_init_31 (fun q4 H hP hD hS => ?_)
  have hP : va_P (dC, dI) vwCl [((ad 0), .inr (6, [.ref q1, .ref q2, .ref q3, .null, .null, .null, .null, .null, .null, .null, .int 0])), (q1, .inl (cy 1, 24, .inl (fun _ => 0))), (q2, .inl (cy 1, 24, .inl (fun _ => 0))), (q3, .inl (cy 1, 24, .inl (fun _ => 0))), (q4, .inl (cy 1, 24, .inl (fun _ => 0)))] H := hP
  have hD : va_D A [((ad 0), .inr (6, [.ref q1, .ref q2, .ref q3, .null, .null, .null, .null, .null, .null, .null, .int 0])), (q1, .inl (cy 1, 24, .inl (fun _ => 0))), (q2, .inl (cy 1, 24, .inl (fun _ => 0))), (q3, .inl (cy 1, 24, .inl (fun _ => 0))), (q4, .inl (cy 1, 24, .inl (fun _ => 0)))] := hD
  refine W.widen (k := 4) (n := 96) (by omega) (by omega) ?_
  refine va_putF (D := (dC, dI)) (ci := 6) (v := .ref q4) (ty := (.array .int)) (C := RX6) (T := TX6) (N := 11) hx hb hts lyX6 tyX6 tyX6_ok nmX6 hown hK hP hD hS 0 rfl rfl 3 (by decide) (hts _ (zGm (zm1 69 rfl) rfl)) (fun _ h9 => h9) rfl hin rfl (by decide +kernel) rfl rfl (Nat.le_of_ble_eq_true rfl) dX6_init_33 (fun H locs hP hD hS => ?_)
  have hP : va_P (dC, dI) vwCl [((ad 0), .inr (6, [.ref q1, .ref q2, .ref q3, .ref q4, .null, .null, .null, .null, .null, .null, .int 0])), (q1, .inl (cy 1, 24, .inl (fun _ => 0))), (q2, .inl (cy 1, 24, .inl (fun _ => 0))), (q3, .inl (cy 1, 24, .inl (fun _ => 0))), (q4, .inl (cy 1, 24, .inl (fun _ => 0)))] H := hP
  have hD : va_D A [((ad 0), .inr (6, [.ref q1, .ref q2, .ref q3, .ref q4, .null, .null, .null, .null, .null, .null, .int 0])), (q1, .inl (cy 1, 24, .inl (fun _ => 0))), (q2, .inl (cy 1, 24, .inl (fun _ => 0))), (q3, .inl (cy 1, 24, .inl (fun _ => 0))), (q4, .inl (cy 1, 24, .inl (fun _ => 0)))] := hD
  refine lv_aload_n hx hb dX6_init_36 rfl (lv_at hl 0 rfl) ?_
  refine lv_bipush (v := 24) hx hb dX6_init_37 rfl ?_
  refine z_newa 1 (atype := .int) hx hb (hts _ (zGm (zm1 53 rfl) rfl)) rfl rfl hK hP hD hS hA 24 (by decide) (by decide) (by decide) (Nat.le_of_ble_eq_true rfl) (Nat.le_of_ble_eq_true rfl) dX6_init_39 (fun q5 H hP hD hS => ?_)
  have hP : va_P (dC, dI) vwCl [((ad 0), .inr (6, [.ref q1, .ref q2, .ref q3, .ref q4, .null, .null, .null, .null, .null, .null, .int 0])), (q1, .inl (cy 1, 24, .inl (fun _ => 0))), (q2, .inl (cy 1, 24, .inl (fun _ => 0))), (q3, .inl (cy 1, 24, .inl (fun _ => 0))), (q4, .inl (cy 1, 24, .inl (fun _ => 0))), (q5, .inl (cy 1, 24, .inl (fun _ => 0)))] H := hP
  have hD : va_D A [((ad 0), .inr (6, [.ref q1, .ref q2, .ref q3, .ref q4, .null, .null, .null, .null, .null, .null, .int 0])), (q1, .inl (cy 1, 24, .inl (fun _ => 0))), (q2, .inl (cy 1, 24, .inl (fun _ => 0))), (q3, .inl (cy 1, 24, .inl (fun _ => 0))), (q4, .inl (cy 1, 24, .inl (fun _ => 0))), (q5, .inl (cy 1, 24, .inl (fun _ => 0)))] := hD
  refine W.widen (k := 5) (n := 120) (by omega) (by omega) ?_
  refine va_putF (D := (dC, dI)) (ci := 6) (v := .ref q5) (ty := (.array .int)) (C := RX6) (T := TX6) (N := 11) hx hb hts lyX6 tyX6 tyX6_ok nmX6 hown hK hP hD hS 0 rfl rfl 4 (by decide) (hts _ (zGm (zm1 72 rfl) rfl)) (fun _ h9 => h9) rfl hin rfl (by decide +kernel) rfl rfl (Nat.le_of_ble_eq_true rfl) dX6_init_41 (fun H locs hP hD hS => ?_)
  have hP : va_P (dC, dI) vwCl [((ad 0), .inr (6, [.ref q1, .ref q2, .ref q3, .ref q4, .ref q5, .null, .null, .null, .null, .null, .int 0])), (q1, .inl (cy 1, 24, .inl (fun _ => 0))), (q2, .inl (cy 1, 24, .inl (fun _ => 0))), (q3, .inl (cy 1, 24, .inl (fun _ => 0))), (q4, .inl (cy 1, 24, .inl (fun _ => 0))), (q5, .inl (cy 1, 24, .inl (fun _ => 0)))] H := hP
  have hD : va_D A [((ad 0), .inr (6, [.ref q1, .ref q2, .ref q3, .ref q4, .ref q5, .null, .null, .null, .null, .null, .int 0])), (q1, .inl (cy 1, 24, .inl (fun _ => 0))), (q2, .inl (cy 1, 24, .inl (fun _ => 0))), (q3, .inl (cy 1, 24, .inl (fun _ => 0))), (q4, .inl (cy 1, 24, .inl (fun _ => 0))), (q5, .inl (cy 1, 24, .inl (fun _ => 0)))] := hD
  refine lv_aload_n hx hb dX6_init_44 rfl (lv_at hl 0 rfl) ?_
  refine lv_bipush (v := 24) hx hb dX6_init_45 rfl ?_
  refine z_newa 1 (atype := .int) hx hb (hts _ (zGm (zm1 53 rfl) rfl)) rfl rfl hK hP hD hS hA 24 (by decide) (by decide) (by decide) (Nat.le_of_ble_eq_true rfl) (Nat.le_of_ble_eq_true rfl) dX6_init_47 (fun q6 H hP hD hS => ?_)
  have hP : va_P (dC, dI) vwCl [((ad 0), .inr (6, [.ref q1, .ref q2, .ref q3, .ref q4, .ref q5, .null, .null, .null, .null, .null, .int 0])), (q1, .inl (cy 1, 24, .inl (fun _ => 0))), (q2, .inl (cy 1, 24, .inl (fun _ => 0))), (q3, .inl (cy 1, 24, .inl (fun _ => 0))), (q4, .inl (cy 1, 24, .inl (fun _ => 0))), (q5, .inl (cy 1, 24, .inl (fun _ => 0))), (q6, .inl (cy 1, 24, .inl (fun _ => 0)))] H := hP
  have hD : va_D A [((ad 0), .inr (6, [.ref q1, .ref q2, .ref q3, .ref q4, .ref q5, .null, .null, .null, .null, .null, .int 0])), (q1, .inl (cy 1, 24, .inl (fun _ => 0))), (q2, .inl (cy 1, 24, .inl (fun _ => 0))), (q3, .inl (cy 1, 24, .inl (fun _ => 0))), (q4, .inl (cy 1, 24, .inl (fun _ => 0))), (q5, .inl (cy 1, 24, .inl (fun _ => 0))), (q6, .inl (cy 1, 24, .inl (fun _ => 0)))] := hD
  refine W.widen (k := 6) (n := 144) (by omega) (by omega) ?_
  refine va_putF (D := (dC, dI)) (ci := 6) (v := .ref q6) (ty := (.array .int)) (C := RX6) (T := TX6) (N := 11) hx hb hts lyX6 tyX6 tyX6_ok nmX6 hown hK hP hD hS 0 rfl rfl 5 (by decide) (hts _ (zGm (zm1 74 rfl) rfl)) (fun _ h9 => h9) rfl hin rfl (by decide +kernel) rfl rfl (Nat.le_of_ble_eq_true rfl) dX6_init_49 (fun H locs hP hD hS => ?_)
  have hP : va_P (dC, dI) vwCl [((ad 0), .inr (6, [.ref q1, .ref q2, .ref q3, .ref q4, .ref q5, .ref q6, .null, .null, .null, .null, .int 0])), (q1, .inl (cy 1, 24, .inl (fun _ => 0))), (q2, .inl (cy 1, 24, .inl (fun _ => 0))), (q3, .inl (cy 1, 24, .inl (fun _ => 0))), (q4, .inl (cy 1, 24, .inl (fun _ => 0))), (q5, .inl (cy 1, 24, .inl (fun _ => 0))), (q6, .inl (cy 1, 24, .inl (fun _ => 0)))] H := hP
  have hD : va_D A [((ad 0), .inr (6, [.ref q1, .ref q2, .ref q3, .ref q4, .ref q5, .ref q6, .null, .null, .null, .null, .int 0])), (q1, .inl (cy 1, 24, .inl (fun _ => 0))), (q2, .inl (cy 1, 24, .inl (fun _ => 0))), (q3, .inl (cy 1, 24, .inl (fun _ => 0))), (q4, .inl (cy 1, 24, .inl (fun _ => 0))), (q5, .inl (cy 1, 24, .inl (fun _ => 0))), (q6, .inl (cy 1, 24, .inl (fun _ => 0)))] := hD
  refine lv_aload_n hx hb dX6_init_52 rfl (lv_at hl 0 rfl) ?_
  refine lv_iconst (v := 4) hx hb dX6_init_53 rfl ?_
  refine lv_bipush (v := 24) hx hb dX6_init_54 rfl ?_
  refine z_multi hx hb hown (hts _ (zGm (zm1 60 rfl) rfl)) hao (hts _ (zGm (zm1 53 rfl) rfl)) hK hP hD hS hA 4 24 rfl rfl (by decide) (by decide) (by decide) (Nat.le_of_ble_eq_true rfl) (Nat.le_of_ble_eq_true rfl) dX6_init_56 (fun q7 H locs hP hD hS => ?_)
  have hP : va_P (dC, dI) vwCl [((ad 0), .inr (6, [.ref q1, .ref q2, .ref q3, .ref q4, .ref q5, .ref q6, .null, .null, .null, .null, .int 0])), (q1, .inl (cy 1, 24, .inl (fun _ => 0))), (q2, .inl (cy 1, 24, .inl (fun _ => 0))), (q3, .inl (cy 1, 24, .inl (fun _ => 0))), (q4, .inl (cy 1, 24, .inl (fun _ => 0))), (q5, .inl (cy 1, 24, .inl (fun _ => 0))), (q6, .inl (cy 1, 24, .inl (fun _ => 0))), (q7, .inl (cy 4, 4, .inr (.inr (.inr (.inr (fun j => if j < 4 then some (q7 + 1 + j) else none)))))), ((q7 + 1 + 0), .inl (cy 1, 24, .inl (fun _ => 0))), ((q7 + 1 + 1), .inl (cy 1, 24, .inl (fun _ => 0))), ((q7 + 1 + 2), .inl (cy 1, 24, .inl (fun _ => 0))), ((q7 + 1 + 3), .inl (cy 1, 24, .inl (fun _ => 0)))] H := hP
  have hD : va_D A [((ad 0), .inr (6, [.ref q1, .ref q2, .ref q3, .ref q4, .ref q5, .ref q6, .null, .null, .null, .null, .int 0])), (q1, .inl (cy 1, 24, .inl (fun _ => 0))), (q2, .inl (cy 1, 24, .inl (fun _ => 0))), (q3, .inl (cy 1, 24, .inl (fun _ => 0))), (q4, .inl (cy 1, 24, .inl (fun _ => 0))), (q5, .inl (cy 1, 24, .inl (fun _ => 0))), (q6, .inl (cy 1, 24, .inl (fun _ => 0))), (q7, .inl (cy 4, 4, .inr (.inr (.inr (.inr (fun j => if j < 4 then some (q7 + 1 + j) else none)))))), ((q7 + 1 + 0), .inl (cy 1, 24, .inl (fun _ => 0))), ((q7 + 1 + 1), .inl (cy 1, 24, .inl (fun _ => 0))), ((q7 + 1 + 2), .inl (cy 1, 24, .inl (fun _ => 0))), ((q7 + 1 + 3), .inl (cy 1, 24, .inl (fun _ => 0)))] := hD
  refine W.widen (k := 11) (n := 244) (by omega) (by omega) ?_
  refine va_putF (D := (dC, dI)) (ci := 6) (v := .ref q7) (ty := (.array (.array .int))) (C := RX6) (T := TX6) (N := 11) hx hb hts lyX6 tyX6 tyX6_ok nmX6 hown hK hP hD hS 0 rfl rfl 6 (by decide) (hts _ (zGm (zm1 76 rfl) rfl)) (fun _ h9 => h9) rfl hin rfl (by decide +kernel) rfl rfl (Nat.le_of_ble_eq_true rfl) dX6_init_60 (fun H locs hP hD hS => ?_)
  have hP : va_P (dC, dI) vwCl [((ad 0), .inr (6, [.ref q1, .ref q2, .ref q3, .ref q4, .ref q5, .ref q6, .ref q7, .null, .null, .null, .int 0])), (q1, .inl (cy 1, 24, .inl (fun _ => 0))), (q2, .inl (cy 1, 24, .inl (fun _ => 0))), (q3, .inl (cy 1, 24, .inl (fun _ => 0))), (q4, .inl (cy 1, 24, .inl (fun _ => 0))), (q5, .inl (cy 1, 24, .inl (fun _ => 0))), (q6, .inl (cy 1, 24, .inl (fun _ => 0))), (q7, .inl (cy 4, 4, .inr (.inr (.inr (.inr (fun j => if j < 4 then some (q7 + 1 + j) else none)))))), ((q7 + 1 + 0), .inl (cy 1, 24, .inl (fun _ => 0))), ((q7 + 1 + 1), .inl (cy 1, 24, .inl (fun _ => 0))), ((q7 + 1 + 2), .inl (cy 1, 24, .inl (fun _ => 0))), ((q7 + 1 + 3), .inl (cy 1, 24, .inl (fun _ => 0)))] H := hP
  have hD : va_D A [((ad 0), .inr (6, [.ref q1, .ref q2, .ref q3, .ref q4, .ref q5, .ref q6, .ref q7, .null, .null, .null, .int 0])), (q1, .inl (cy 1, 24, .inl (fun _ => 0))), (q2, .inl (cy 1, 24, .inl (fun _ => 0))), (q3, .inl (cy 1, 24, .inl (fun _ => 0))), (q4, .inl (cy 1, 24, .inl (fun _ => 0))), (q5, .inl (cy 1, 24, .inl (fun _ => 0))), (q6, .inl (cy 1, 24, .inl (fun _ => 0))), (q7, .inl (cy 4, 4, .inr (.inr (.inr (.inr (fun j => if j < 4 then some (q7 + 1 + j) else none)))))), ((q7 + 1 + 0), .inl (cy 1, 24, .inl (fun _ => 0))), ((q7 + 1 + 1), .inl (cy 1, 24, .inl (fun _ => 0))), ((q7 + 1 + 2), .inl (cy 1, 24, .inl (fun _ => 0))), ((q7 + 1 + 3), .inl (cy 1, 24, .inl (fun _ => 0)))] := hD
  refine lv_aload_n hx hb dX6_init_63 rfl (lv_at hl 0 rfl) ?_
  refine lv_iconst (v := 4) hx hb dX6_init_64 rfl ?_
  refine z_newa 1 (atype := .int) hx hb (hts _ (zGm (zm1 53 rfl) rfl)) rfl rfl hK hP hD hS hA 4 (by decide) (by decide) (by decide) (Nat.le_of_ble_eq_true rfl) (Nat.le_of_ble_eq_true rfl) dX6_init_65 (fun q8 H hP hD hS => ?_)
  have hP : va_P (dC, dI) vwCl [((ad 0), .inr (6, [.ref q1, .ref q2, .ref q3, .ref q4, .ref q5, .ref q6, .ref q7, .null, .null, .null, .int 0])), (q1, .inl (cy 1, 24, .inl (fun _ => 0))), (q2, .inl (cy 1, 24, .inl (fun _ => 0))), (q3, .inl (cy 1, 24, .inl (fun _ => 0))), (q4, .inl (cy 1, 24, .inl (fun _ => 0))), (q5, .inl (cy 1, 24, .inl (fun _ => 0))), (q6, .inl (cy 1, 24, .inl (fun _ => 0))), (q7, .inl (cy 4, 4, .inr (.inr (.inr (.inr (fun j => if j < 4 then some (q7 + 1 + j) else none)))))), ((q7 + 1 + 0), .inl (cy 1, 24, .inl (fun _ => 0))), ((q7 + 1 + 1), .inl (cy 1, 24, .inl (fun _ => 0))), ((q7 + 1 + 2), .inl (cy 1, 24, .inl (fun _ => 0))), ((q7 + 1 + 3), .inl (cy 1, 24, .inl (fun _ => 0))), (q8, .inl (cy 1, 4, .inl (fun _ => 0)))] H := hP
  have hD : va_D A [((ad 0), .inr (6, [.ref q1, .ref q2, .ref q3, .ref q4, .ref q5, .ref q6, .ref q7, .null, .null, .null, .int 0])), (q1, .inl (cy 1, 24, .inl (fun _ => 0))), (q2, .inl (cy 1, 24, .inl (fun _ => 0))), (q3, .inl (cy 1, 24, .inl (fun _ => 0))), (q4, .inl (cy 1, 24, .inl (fun _ => 0))), (q5, .inl (cy 1, 24, .inl (fun _ => 0))), (q6, .inl (cy 1, 24, .inl (fun _ => 0))), (q7, .inl (cy 4, 4, .inr (.inr (.inr (.inr (fun j => if j < 4 then some (q7 + 1 + j) else none)))))), ((q7 + 1 + 0), .inl (cy 1, 24, .inl (fun _ => 0))), ((q7 + 1 + 1), .inl (cy 1, 24, .inl (fun _ => 0))), ((q7 + 1 + 2), .inl (cy 1, 24, .inl (fun _ => 0))), ((q7 + 1 + 3), .inl (cy 1, 24, .inl (fun _ => 0))), (q8, .inl (cy 1, 4, .inl (fun _ => 0)))] := hD
  refine W.widen (k := 12) (n := 248) (by omega) (by omega) ?_
  refine va_putF (D := (dC, dI)) (ci := 6) (v := .ref q8) (ty := (.array .int)) (C := RX6) (T := TX6) (N := 11) hx hb hts lyX6 tyX6 tyX6_ok nmX6 hown hK hP hD hS 0 rfl rfl 7 (by decide) (hts _ (zGm (zm1 78 rfl) rfl)) (fun _ h9 => h9) rfl hin rfl (by decide +kernel) rfl rfl (Nat.le_of_ble_eq_true rfl) dX6_init_67 (fun H locs hP hD hS => ?_)
  have hP : va_P (dC, dI) vwCl [((ad 0), .inr (6, [.ref q1, .ref q2, .ref q3, .ref q4, .ref q5, .ref q6, .ref q7, .ref q8, .null, .null, .int 0])), (q1, .inl (cy 1, 24, .inl (fun _ => 0))), (q2, .inl (cy 1, 24, .inl (fun _ => 0))), (q3, .inl (cy 1, 24, .inl (fun _ => 0))), (q4, .inl (cy 1, 24, .inl (fun _ => 0))), (q5, .inl (cy 1, 24, .inl (fun _ => 0))), (q6, .inl (cy 1, 24, .inl (fun _ => 0))), (q7, .inl (cy 4, 4, .inr (.inr (.inr (.inr (fun j => if j < 4 then some (q7 + 1 + j) else none)))))), ((q7 + 1 + 0), .inl (cy 1, 24, .inl (fun _ => 0))), ((q7 + 1 + 1), .inl (cy 1, 24, .inl (fun _ => 0))), ((q7 + 1 + 2), .inl (cy 1, 24, .inl (fun _ => 0))), ((q7 + 1 + 3), .inl (cy 1, 24, .inl (fun _ => 0))), (q8, .inl (cy 1, 4, .inl (fun _ => 0)))] H := hP
  have hD : va_D A [((ad 0), .inr (6, [.ref q1, .ref q2, .ref q3, .ref q4, .ref q5, .ref q6, .ref q7, .ref q8, .null, .null, .int 0])), (q1, .inl (cy 1, 24, .inl (fun _ => 0))), (q2, .inl (cy 1, 24, .inl (fun _ => 0))), (q3, .inl (cy 1, 24, .inl (fun _ => 0))), (q4, .inl (cy 1, 24, .inl (fun _ => 0))), (q5, .inl (cy 1, 24, .inl (fun _ => 0))), (q6, .inl (cy 1, 24, .inl (fun _ => 0))), (q7, .inl (cy 4, 4, .inr (.inr (.inr (.inr (fun j => if j < 4 then some (q7 + 1 + j) else none)))))), ((q7 + 1 + 0), .inl (cy 1, 24, .inl (fun _ => 0))), ((q7 + 1 + 1), .inl (cy 1, 24, .inl (fun _ => 0))), ((q7 + 1 + 2), .inl (cy 1, 24, .inl (fun _ => 0))), ((q7 + 1 + 3), .inl (cy 1, 24, .inl (fun _ => 0))), (q8, .inl (cy 1, 4, .inl (fun _ => 0)))] := hD
  refine lv_aload_n hx hb dX6_init_70 rfl (lv_at hl 0 rfl) ?_
  refine lv_iconst (v := 4) hx hb dX6_init_71 rfl ?_
  refine z_newa 1 (atype := .int) hx hb (hts _ (zGm (zm1 53 rfl) rfl)) rfl rfl hK hP hD hS hA 4 (by decide) (by decide) (by decide) (Nat.le_of_ble_eq_true rfl) (Nat.le_of_ble_eq_true rfl) dX6_init_72 (fun q9 H hP hD hS => ?_)
  have hP : va_P (dC, dI) vwCl [((ad 0), .inr (6, [.ref q1, .ref q2, .ref q3, .ref q4, .ref q5, .ref q6, .ref q7, .ref q8, .null, .null, .int 0])), (q1, .inl (cy 1, 24, .inl (fun _ => 0))), (q2, .inl (cy 1, 24, .inl (fun _ => 0))), (q3, .inl (cy 1, 24, .inl (fun _ => 0))), (q4, .inl (cy 1, 24, .inl (fun _ => 0))), (q5, .inl (cy 1, 24, .inl (fun _ => 0))), (q6, .inl (cy 1, 24, .inl (fun _ => 0))), (q7, .inl (cy 4, 4, .inr (.inr (.inr (.inr (fun j => if j < 4 then some (q7 + 1 + j) else none)))))), ((q7 + 1 + 0), .inl (cy 1, 24, .inl (fun _ => 0))), ((q7 + 1 + 1), .inl (cy 1, 24, .inl (fun _ => 0))), ((q7 + 1 + 2), .inl (cy 1, 24, .inl (fun _ => 0))), ((q7 + 1 + 3), .inl (cy 1, 24, .inl (fun _ => 0))), (q8, .inl (cy 1, 4, .inl (fun _ => 0))), (q9, .inl (cy 1, 4, .inl (fun _ => 0)))] H := hP
  have hD : va_D A [((ad 0), .inr (6, [.ref q1, .ref q2, .ref q3, .ref q4, .ref q5, .ref q6, .ref q7, .ref q8, .null, .null, .int 0])), (q1, .inl (cy 1, 24, .inl (fun _ => 0))), (q2, .inl (cy 1, 24, .inl (fun _ => 0))), (q3, .inl (cy 1, 24, .inl (fun _ => 0))), (q4, .inl (cy 1, 24, .inl (fun _ => 0))), (q5, .inl (cy 1, 24, .inl (fun _ => 0))), (q6, .inl (cy 1, 24, .inl (fun _ => 0))), (q7, .inl (cy 4, 4, .inr (.inr (.inr (.inr (fun j => if j < 4 then some (q7 + 1 + j) else none)))))), ((q7 + 1 + 0), .inl (cy 1, 24, .inl (fun _ => 0))), ((q7 + 1 + 1), .inl (cy 1, 24, .inl (fun _ => 0))), ((q7 + 1 + 2), .inl (cy 1, 24, .inl (fun _ => 0))), ((q7 + 1 + 3), .inl (cy 1, 24, .inl (fun _ => 0))), (q8, .inl (cy 1, 4, .inl (fun _ => 0))), (q9, .inl (cy 1, 4, .inl (fun _ => 0)))] := hD
  refine W.widen (k := 13) (n := 252) (by omega) (by omega) ?_
  refine va_putF (D := (dC, dI)) (ci := 6) (v := .ref q9) (ty := (.array .int)) (C := RX6) (T := TX6) (N := 11) hx hb hts lyX6 tyX6 tyX6_ok nmX6 hown hK hP hD hS 0 rfl rfl 8 (by decide) (hts _ (zGm (zm1 80 rfl) rfl)) (fun _ h9 => h9) rfl hin rfl (by decide +kernel) rfl rfl (Nat.le_of_ble_eq_true rfl) dX6_init_74 (fun H locs hP hD hS => ?_)
  have hP : va_P (dC, dI) vwCl [((ad 0), .inr (6, [.ref q1, .ref q2, .ref q3, .ref q4, .ref q5, .ref q6, .ref q7, .ref q8, .ref q9, .null, .int 0])), (q1, .inl (cy 1, 24, .inl (fun _ => 0))), (q2, .inl (cy 1, 24, .inl (fun _ => 0))), (q3, .inl (cy 1, 24, .inl (fun _ => 0))), (q4, .inl (cy 1, 24, .inl (fun _ => 0))), (q5, .inl (cy 1, 24, .inl (fun _ => 0))), (q6, .inl (cy 1, 24, .inl (fun _ => 0))), (q7, .inl (cy 4, 4, .inr (.inr (.inr (.inr (fun j => if j < 4 then some (q7 + 1 + j) else none)))))), ((q7 + 1 + 0), .inl (cy 1, 24, .inl (fun _ => 0))), ((q7 + 1 + 1), .inl (cy 1, 24, .inl (fun _ => 0))), ((q7 + 1 + 2), .inl (cy 1, 24, .inl (fun _ => 0))), ((q7 + 1 + 3), .inl (cy 1, 24, .inl (fun _ => 0))), (q8, .inl (cy 1, 4, .inl (fun _ => 0))), (q9, .inl (cy 1, 4, .inl (fun _ => 0)))] H := hP
  have hD : va_D A [((ad 0), .inr (6, [.ref q1, .ref q2, .ref q3, .ref q4, .ref q5, .ref q6, .ref q7, .ref q8, .ref q9, .null, .int 0])), (q1, .inl (cy 1, 24, .inl (fun _ => 0))), (q2, .inl (cy 1, 24, .inl (fun _ => 0))), (q3, .inl (cy 1, 24, .inl (fun _ => 0))), (q4, .inl (cy 1, 24, .inl (fun _ => 0))), (q5, .inl (cy 1, 24, .inl (fun _ => 0))), (q6, .inl (cy 1, 24, .inl (fun _ => 0))), (q7, .inl (cy 4, 4, .inr (.inr (.inr (.inr (fun j => if j < 4 then some (q7 + 1 + j) else none)))))), ((q7 + 1 + 0), .inl (cy 1, 24, .inl (fun _ => 0))), ((q7 + 1 + 1), .inl (cy 1, 24, .inl (fun _ => 0))), ((q7 + 1 + 2), .inl (cy 1, 24, .inl (fun _ => 0))), ((q7 + 1 + 3), .inl (cy 1, 24, .inl (fun _ => 0))), (q8, .inl (cy 1, 4, .inl (fun _ => 0))), (q9, .inl (cy 1, 4, .inl (fun _ => 0)))] := hD
  refine lv_aload_n hx hb dX6_init_77 rfl (lv_at hl 0 rfl) ?_
  refine lv_bipush (v := 12) hx hb dX6_init_78 rfl ?_
  refine z_newa 1 (atype := .int) hx hb (hts _ (zGm (zm1 53 rfl) rfl)) rfl rfl hK hP hD hS hA 12 (by decide) (by decide) (by decide) (Nat.le_of_ble_eq_true rfl) (Nat.le_of_ble_eq_true rfl) dX6_init_80 (fun q10 H hP hD hS => ?_)
  have hP : va_P (dC, dI) vwCl [((ad 0), .inr (6, [.ref q1, .ref q2, .ref q3, .ref q4, .ref q5, .ref q6, .ref q7, .ref q8, .ref q9, .null, .int 0])), (q1, .inl (cy 1, 24, .inl (fun _ => 0))), (q2, .inl (cy 1, 24, .inl (fun _ => 0))), (q3, .inl (cy 1, 24, .inl (fun _ => 0))), (q4, .inl (cy 1, 24, .inl (fun _ => 0))), (q5, .inl (cy 1, 24, .inl (fun _ => 0))), (q6, .inl (cy 1, 24, .inl (fun _ => 0))), (q7, .inl (cy 4, 4, .inr (.inr (.inr (.inr (fun j => if j < 4 then some (q7 + 1 + j) else none)))))), ((q7 + 1 + 0), .inl (cy 1, 24, .inl (fun _ => 0))), ((q7 + 1 + 1), .inl (cy 1, 24, .inl (fun _ => 0))), ((q7 + 1 + 2), .inl (cy 1, 24, .inl (fun _ => 0))), ((q7 + 1 + 3), .inl (cy 1, 24, .inl (fun _ => 0))), (q8, .inl (cy 1, 4, .inl (fun _ => 0))), (q9, .inl (cy 1, 4, .inl (fun _ => 0))), (q10, .inl (cy 1, 12, .inl (fun _ => 0)))] H := hP
  have hD : va_D A [((ad 0), .inr (6, [.ref q1, .ref q2, .ref q3, .ref q4, .ref q5, .ref q6, .ref q7, .ref q8, .ref q9, .null, .int 0])), (q1, .inl (cy 1, 24, .inl (fun _ => 0))), (q2, .inl (cy 1, 24, .inl (fun _ => 0))), (q3, .inl (cy 1, 24, .inl (fun _ => 0))), (q4, .inl (cy 1, 24, .inl (fun _ => 0))), (q5, .inl (cy 1, 24, .inl (fun _ => 0))), (q6, .inl (cy 1, 24, .inl (fun _ => 0))), (q7, .inl (cy 4, 4, .inr (.inr (.inr (.inr (fun j => if j < 4 then some (q7 + 1 + j) else none)))))), ((q7 + 1 + 0), .inl (cy 1, 24, .inl (fun _ => 0))), ((q7 + 1 + 1), .inl (cy 1, 24, .inl (fun _ => 0))), ((q7 + 1 + 2), .inl (cy 1, 24, .inl (fun _ => 0))), ((q7 + 1 + 3), .inl (cy 1, 24, .inl (fun _ => 0))), (q8, .inl (cy 1, 4, .inl (fun _ => 0))), (q9, .inl (cy 1, 4, .inl (fun _ => 0))), (q10, .inl (cy 1, 12, .inl (fun _ => 0)))] := hD
  refine W.widen (k := 14) (n := 264) (by omega) (by omega) ?_
  refine va_putF (D := (dC, dI)) (ci := 6) (v := .ref q10) (ty := (.array .int)) (C := RX6) (T := TX6) (N := 11) hx hb hts lyX6 tyX6 tyX6_ok nmX6 hown hK hP hD hS 0 rfl rfl 9 (by decide) (hts _ (zGm (zm1 82 rfl) rfl)) (fun _ h9 => h9) rfl hin rfl (by decide +kernel) rfl rfl (Nat.le_of_ble_eq_true rfl) dX6_init_82 (fun H locs hP hD hS => ?_)
  have hP : va_P (dC, dI) vwCl [((ad 0), .inr (6, [.ref q1, .ref q2, .ref q3, .ref q4, .ref q5, .ref q6, .ref q7, .ref q8, .ref q9, .ref q10, .int 0])), (q1, .inl (cy 1, 24, .inl (fun _ => 0))), (q2, .inl (cy 1, 24, .inl (fun _ => 0))), (q3, .inl (cy 1, 24, .inl (fun _ => 0))), (q4, .inl (cy 1, 24, .inl (fun _ => 0))), (q5, .inl (cy 1, 24, .inl (fun _ => 0))), (q6, .inl (cy 1, 24, .inl (fun _ => 0))), (q7, .inl (cy 4, 4, .inr (.inr (.inr (.inr (fun j => if j < 4 then some (q7 + 1 + j) else none)))))), ((q7 + 1 + 0), .inl (cy 1, 24, .inl (fun _ => 0))), ((q7 + 1 + 1), .inl (cy 1, 24, .inl (fun _ => 0))), ((q7 + 1 + 2), .inl (cy 1, 24, .inl (fun _ => 0))), ((q7 + 1 + 3), .inl (cy 1, 24, .inl (fun _ => 0))), (q8, .inl (cy 1, 4, .inl (fun _ => 0))), (q9, .inl (cy 1, 4, .inl (fun _ => 0))), (q10, .inl (cy 1, 12, .inl (fun _ => 0)))] H := hP
  have hD : va_D A [((ad 0), .inr (6, [.ref q1, .ref q2, .ref q3, .ref q4, .ref q5, .ref q6, .ref q7, .ref q8, .ref q9, .ref q10, .int 0])), (q1, .inl (cy 1, 24, .inl (fun _ => 0))), (q2, .inl (cy 1, 24, .inl (fun _ => 0))), (q3, .inl (cy 1, 24, .inl (fun _ => 0))), (q4, .inl (cy 1, 24, .inl (fun _ => 0))), (q5, .inl (cy 1, 24, .inl (fun _ => 0))), (q6, .inl (cy 1, 24, .inl (fun _ => 0))), (q7, .inl (cy 4, 4, .inr (.inr (.inr (.inr (fun j => if j < 4 then some (q7 + 1 + j) else none)))))), ((q7 + 1 + 0), .inl (cy 1, 24, .inl (fun _ => 0))), ((q7 + 1 + 1), .inl (cy 1, 24, .inl (fun _ => 0))), ((q7 + 1 + 2), .inl (cy 1, 24, .inl (fun _ => 0))), ((q7 + 1 + 3), .inl (cy 1, 24, .inl (fun _ => 0))), (q8, .inl (cy 1, 4, .inl (fun _ => 0))), (q9, .inl (cy 1, 4, .inl (fun _ => 0))), (q10, .inl (cy 1, 12, .inl (fun _ => 0)))] := hD
  have hz0 := zrow_eq (N := 4) (b := 8) (q := q7) (ad2 := (fun k => if 900 ≤ k then ad k else ([(ad 0), q1, q2, q3, q4, q5, q6, q7, (q7 + 1 + 0), (q7 + 1 + 1), (q7 + 1 + 2), (q7 + 1 + 3), q8, q9, q10] : List Nat).getD k 0)) (fun j hj => by match j, hj with | 0, _ => rfl | 1, _ => rfl | 2, _ => rfl | 3, _ => rfl | j + 4, h => exact absurd h (by omega))
  rw [hz0] at hP hD
  exact W.vret hx hb hr (fun t ht _ => ⟨⟨rfl, (fun k => if 900 ≤ k then ad k else ([(ad 0), q1, q2, q3, q4, q5, q6, q7, (q7 + 1 + 0), (q7 + 1 + 1), (q7 + 1 + 2), (q7 + 1 + 3), q8, q9, q10] : List Nat).getD k 0), zz, rfl, rfl, fun k hk => if_pos hk, by rw [ht, zw_eq]; exact hP, by rw [zw_eq]; exact hD⟩, hS.F ht⟩) hS.2.2 dX6_init_85
def SL2 : List zE := [.inr (2, [some (some 1), some (some 2), some (some 3), some (some 4), some (some 5), none]), .inl (1, 8, none), .inl (1, 8, none), .inl (1, 8, none), .inl (1, 8, none), .inl (2, 8, none)]
set_option maxRecDepth 100000 in
set_option maxHeartbeats 4000000 in
theorem n_X2 : zNc mX2_init 1 5 40 [.ref 0] [.inr (2, [some none, some none, some none, some none, some none, none])] SL2 (fun X => X = zz) := by
  intro l dC dI cy ad sz
  refine Met.ofW (cc := mX2_init.2.1) (maxL := mX2_init.2.2.1) (ret := mX2_init.2.2.2) (by decide) rfl ?_
  intro p e s m args below meth c s₁ B hml hv
  obtain ⟨rfl, ⟨hsz, hP, hK, hN, hD0, hZ⟩, hao⟩ := hv
  have hts0 := atoms_spec (ws := zws mX2_init) B.pre
  subst hsz
  rw [lg_entry_eq]
  have hx := B.exec
  have hb := B.bytes
  have hr := B.returns
  have hown : s.vm.findClass RX2 = some m.cls := findClass_of_methodNamed B.named
  have hlocks := B.notSynchronized
  have hin : meth.name = "<init>" := (name_of_methodNamed B.named B.method).1
  have hts := fun w (hw : w ∈ zG) => hts0 w (List.mem_cons_of_mem _ hw)
  have hD := hD0.self (sz := s.heap.size)
  generalize hAe : va_A (zw cy ad zz [.inr (2, [some none, some none, some none, some none, some none, none])]) s.heap.size = A at hD hZ ⊢
  have hA : ∀ q : Nat, s.heap.size ≤ q → A q := fun q h => by rw [← hAe]; exact Or.inr h
  have C : zC p s m _ meth c mX2_init dC dI cy ad A := ⟨hx, hb, hml, hr, hown, hts, hN, hK, hlocks, hA, hZ⟩
  have hS : va_S A s.heap s.heap [] := va_S.rf
  rw [zw_eq] at hP hD
  have hP : va_P (dC, dI) vwCl [((ad 0), .inr (2, [.null, .null, .null, .null, .null, .int 0]))] s.heap := hP
  have hD : va_D A [((ad 0), .inr (2, [.null, .null, .null, .null, .null, .int 0]))] := hD
  have hl := lv_entry (([.ref 0] : List Value).map (zk ad)) (n := mX2_init.2.2.1) (Nat.le_of_ble_eq_true rfl)
  generalize (lg_sl (([.ref 0] : List Value).map (zk ad)) ++ List.replicate (mX2_init.2.2.1 - (lg_sl (([.ref 0] : List Value).map (zk ad))).length) Slot.unset).toArray = ls at hl ⊢
  have hl : lv_has ls 1 [(0, .ref (ad 0))] := hl
  refine lv_aload_n hx hb dX2_init_0 rfl (lv_at hl 0 rfl) ?_
  refine W.objInit hx hb hown (hts _ (zGm (zm1 117 rfl) rfl)) (hts _ (zGm (zm1 24 rfl) rfl)) (hts _ (zGm (zm1 25 rfl) rfl)) rfl (by rw [hml]; exact hl.1) rfl dX2_init_1 (Nat.le_of_ble_eq_true rfl) (Nat.le_of_ble_eq_true rfl) ?_
  refine lv_aload_n hx hb dX2_init_4 rfl (lv_at hl 0 rfl) ?_
  refine lv_bipush (v := 8) hx hb dX2_init_5 rfl ?_
  refine z_newa 1 (atype := .int) hx hb (hts _ (zGm (zm1 53 rfl) rfl)) rfl rfl hK hP hD hS hA 8 (by decide) (by decide) (by decide) (Nat.le_of_ble_eq_true rfl) (Nat.le_of_ble_eq_true rfl) dX2_init_7 (fun q1 H hP hD hS => ?_)
  have hP : va_P (dC, dI) vwCl [((ad 0), .inr (2, [.null, .null, .null, .null, .null, .int 0])), (q1, .inl (cy 1, 8, .inl (fun _ => 0)))] H := hP
  have hD : va_D A [((ad 0), .inr (2, [.null, .null, .null, .null, .null, .int 0])), (q1, .inl (cy 1, 8, .inl (fun _ => 0)))] := hD
  refine W.widen (k := 1) (n := 8) (by omega) (by omega) ?_
  refine va_putF (D := (dC, dI)) (ci := 2) (v := .ref q1) (ty := (.array .int)) (C := RX2) (T := TX2) (N := 6) hx hb hts lyX2 tyX2 tyX2_ok nmX2 hown hK hP hD hS 0 rfl rfl 0 (by decide) (hts _ (zGm (zm1 118 rfl) rfl)) (fun _ h9 => h9) rfl hin rfl (by decide +kernel) rfl rfl (Nat.le_of_ble_eq_true rfl) dX2_init_9 (fun H locs hP hD hS => ?_)
  have hP : va_P (dC, dI) vwCl [((ad 0), .inr (2, [.ref q1, .null, .null, .null, .null, .int 0])), (q1, .inl (cy 1, 8, .inl (fun _ => 0)))] H := hP
  have hD : va_D A [((ad 0), .inr (2, [.ref q1, .null, .null, .null, .null, .int 0])), (q1, .inl (cy 1, 8, .inl (fun _ => 0)))] := hD
  refine lv_aload_n hx hb dX2_init_12 rfl (lv_at hl 0 rfl) ?_
  refine lv_bipush (v := 8) hx hb dX2_init_13 rfl ?_
  refine z_newa 1 (atype := .int) hx hb (hts _ (zGm (zm1 53 rfl) rfl)) rfl rfl hK hP hD hS hA 8 (by decide) (by decide) (by decide) (Nat.le_of_ble_eq_true rfl) (Nat.le_of_ble_eq_true rfl) dX2_init_15 (fun q2 H hP hD hS => ?_)
  have hP : va_P (dC, dI) vwCl [((ad 0), .inr (2, [.ref q1, .null, .null, .null, .null, .int 0])), (q1, .inl (cy 1, 8, .inl (fun _ => 0))), (q2, .inl (cy 1, 8, .inl (fun _ => 0)))] H := hP
  have hD : va_D A [((ad 0), .inr (2, [.ref q1, .null, .null, .null, .null, .int 0])), (q1, .inl (cy 1, 8, .inl (fun _ => 0))), (q2, .inl (cy 1, 8, .inl (fun _ => 0)))] := hD
  refine W.widen (k := 2) (n := 16) (by omega) (by omega) ?_
  refine va_putF (D := (dC, dI)) (ci := 2) (v := .ref q2) (ty := (.array .int)) (C := RX2) (T := TX2) (N := 6) hx hb hts lyX2 tyX2 tyX2_ok nmX2 hown hK hP hD hS 0 rfl rfl 1 (by decide) (hts _ (zGm (zm1 120 rfl) rfl)) (fun _ h9 => h9) rfl hin rfl (by decide +kernel) rfl rfl (Nat.le_of_ble_eq_true rfl) dX2_init_17 (fun H locs hP hD hS => ?_)
  have hP : va_P (dC, dI) vwCl [((ad 0), .inr (2, [.ref q1, .ref q2, .null, .null, .null, .int 0])), (q1, .inl (cy 1, 8, .inl (fun _ => 0))), (q2, .inl (cy 1, 8, .inl (fun _ => 0)))] H := hP
  have hD : va_D A [((ad 0), .inr (2, [.ref q1, .ref q2, .null, .null, .null, .int 0])), (q1, .inl (cy 1, 8, .inl (fun _ => 0))), (q2, .inl (cy 1, 8, .inl (fun _ => 0)))] := hD
  refine lv_aload_n hx hb dX2_init_20 rfl (lv_at hl 0 rfl) ?_
  refine lv_bipush (v := 8) hx hb dX2_init_21 rfl ?_
  refine z_newa 1 (atype := .int) hx hb (hts _ (zGm (zm1 53 rfl) rfl)) rfl rfl hK hP hD hS hA 8 (by decide) (by decide) (by decide) (Nat.le_of_ble_eq_true rfl) (Nat.le_of_ble_eq_true rfl) dX2_init_23 (fun q3 H hP hD hS => ?_)
  have hP : va_P (dC, dI) vwCl [((ad 0), .inr (2, [.ref q1, .ref q2, .null, .null, .null, .int 0])), (q1, .inl (cy 1, 8, .inl (fun _ => 0))), (q2, .inl (cy 1, 8, .inl (fun _ => 0))), (q3, .inl (cy 1, 8, .inl (fun _ => 0)))] H := hP
  have hD : va_D A [((ad 0), .inr (2, [.ref q1, .ref q2, .null, .null, .null, .int 0])), (q1, .inl (cy 1, 8, .inl (fun _ => 0))), (q2, .inl (cy 1, 8, .inl (fun _ => 0))), (q3, .inl (cy 1, 8, .inl (fun _ => 0)))] := hD
  refine W.widen (k := 3) (n := 24) (by omega) (by omega) ?_
  refine va_putF (D := (dC, dI)) (ci := 2) (v := .ref q3) (ty := (.array .int)) (C := RX2) (T := TX2) (N := 6) hx hb hts lyX2 tyX2 tyX2_ok nmX2 hown hK hP hD hS 0 rfl rfl 2 (by decide) (hts _ (zGm (zm1 122 rfl) rfl)) (fun _ h9 => h9) rfl hin rfl (by decide +kernel) rfl rfl (Nat.le_of_ble_eq_true rfl) dX2_init_25 (fun H locs hP hD hS => ?_)
  have hP : va_P (dC, dI) vwCl [((ad 0), .inr (2, [.ref q1, .ref q2, .ref q3, .null, .null, .int 0])), (q1, .inl (cy 1, 8, .inl (fun _ => 0))), (q2, .inl (cy 1, 8, .inl (fun _ => 0))), (q3, .inl (cy 1, 8, .inl (fun _ => 0)))] H := hP
  have hD : va_D A [((ad 0), .inr (2, [.ref q1, .ref q2, .ref q3, .null, .null, .int 0])), (q1, .inl (cy 1, 8, .inl (fun _ => 0))), (q2, .inl (cy 1, 8, .inl (fun _ => 0))), (q3, .inl (cy 1, 8, .inl (fun _ => 0)))] := hD
  refine lv_aload_n hx hb dX2_init_28 rfl (lv_at hl 0 rfl) ?_
  refine lv_bipush (v := 8) hx hb dX2_init_29 rfl ?_
  refine z_newa 1 (atype := .int) hx hb (hts _ (zGm (zm1 53 rfl) rfl)) rfl rfl hK hP hD hS hA 8 (by decide) (by decide) (by decide) (Nat.le_of_ble_eq_true rfl) (Nat.le_of_ble_eq_true rfl) dX2_init_31 (fun q4 H hP hD hS => ?_)
  have hP : va_P (dC, dI) vwCl [((ad 0), .inr (2, [.ref q1, .ref q2, .ref q3, .null, .null, .int 0])), (q1, .inl (cy 1, 8, .inl (fun _ => 0))), (q2, .inl (cy 1, 8, .inl (fun _ => 0))), (q3, .inl (cy 1, 8, .inl (fun _ => 0))), (q4, .inl (cy 1, 8, .inl (fun _ => 0)))] H := hP
  have hD : va_D A [((ad 0), .inr (2, [.ref q1, .ref q2, .ref q3, .null, .null, .int 0])), (q1, .inl (cy 1, 8, .inl (fun _ => 0))), (q2, .inl (cy 1, 8, .inl (fun _ => 0))), (q3, .inl (cy 1, 8, .inl (fun _ => 0))), (q4, .inl (cy 1, 8, .inl (fun _ => 0)))] := hD
  refine W.widen (k := 4) (n := 32) (by omega) (by omega) ?_
  refine va_putF (D := (dC, dI)) (ci := 2) (v := .ref q4) (ty := (.array .int)) (C := RX2) (T := TX2) (N := 6) hx hb hts lyX2 tyX2 tyX2_ok nmX2 hown hK hP hD hS 0 rfl rfl 3 (by decide) (hts _ (zGm (zm1 124 rfl) rfl)) (fun _ h9 => h9) rfl hin rfl (by decide +kernel) rfl rfl (Nat.le_of_ble_eq_true rfl) dX2_init_33 (fun H locs hP hD hS => ?_)
  have hP : va_P (dC, dI) vwCl [((ad 0), .inr (2, [.ref q1, .ref q2, .ref q3, .ref q4, .null, .int 0])), (q1, .inl (cy 1, 8, .inl (fun _ => 0))), (q2, .inl (cy 1, 8, .inl (fun _ => 0))), (q3, .inl (cy 1, 8, .inl (fun _ => 0))), (q4, .inl (cy 1, 8, .inl (fun _ => 0)))] H := hP
  have hD : va_D A [((ad 0), .inr (2, [.ref q1, .ref q2, .ref q3, .ref q4, .null, .int 0])), (q1, .inl (cy 1, 8, .inl (fun _ => 0))), (q2, .inl (cy 1, 8, .inl (fun _ => 0))), (q3, .inl (cy 1, 8, .inl (fun _ => 0))), (q4, .inl (cy 1, 8, .inl (fun _ => 0)))] := hD
  refine lv_aload_n hx hb dX2_init_36 rfl (lv_at hl 0 rfl) ?_
  refine lv_bipush (v := 8) hx hb dX2_init_37 rfl ?_
  refine z_newa 2 (atype := .boolean) hx hb (hts _ (zGm (zm1 143 rfl) rfl)) rfl rfl hK hP hD hS hA 8 (by decide) (by decide) (by decide) (Nat.le_of_ble_eq_true rfl) (Nat.le_of_ble_eq_true rfl) dX2_init_39 (fun q5 H hP hD hS => ?_)
  have hP : va_P (dC, dI) vwCl [((ad 0), .inr (2, [.ref q1, .ref q2, .ref q3, .ref q4, .null, .int 0])), (q1, .inl (cy 1, 8, .inl (fun _ => 0))), (q2, .inl (cy 1, 8, .inl (fun _ => 0))), (q3, .inl (cy 1, 8, .inl (fun _ => 0))), (q4, .inl (cy 1, 8, .inl (fun _ => 0))), (q5, .inl (cy 2, 8, .inl (fun _ => 0)))] H := hP
  have hD : va_D A [((ad 0), .inr (2, [.ref q1, .ref q2, .ref q3, .ref q4, .null, .int 0])), (q1, .inl (cy 1, 8, .inl (fun _ => 0))), (q2, .inl (cy 1, 8, .inl (fun _ => 0))), (q3, .inl (cy 1, 8, .inl (fun _ => 0))), (q4, .inl (cy 1, 8, .inl (fun _ => 0))), (q5, .inl (cy 2, 8, .inl (fun _ => 0)))] := hD
  refine W.widen (k := 5) (n := 40) (by omega) (by omega) ?_
  refine va_putF (D := (dC, dI)) (ci := 2) (v := .ref q5) (ty := (.array .boolean)) (C := RX2) (T := TX2) (N := 6) hx hb hts lyX2 tyX2 tyX2_ok nmX2 hown hK hP hD hS 0 rfl rfl 4 (by decide) (hts _ (zGm (zm1 126 rfl) rfl)) (fun _ h9 => h9) rfl hin rfl (by decide +kernel) rfl rfl (Nat.le_of_ble_eq_true rfl) dX2_init_41 (fun H locs hP hD hS => ?_)
  have hP : va_P (dC, dI) vwCl [((ad 0), .inr (2, [.ref q1, .ref q2, .ref q3, .ref q4, .ref q5, .int 0])), (q1, .inl (cy 1, 8, .inl (fun _ => 0))), (q2, .inl (cy 1, 8, .inl (fun _ => 0))), (q3, .inl (cy 1, 8, .inl (fun _ => 0))), (q4, .inl (cy 1, 8, .inl (fun _ => 0))), (q5, .inl (cy 2, 8, .inl (fun _ => 0)))] H := hP
  have hD : va_D A [((ad 0), .inr (2, [.ref q1, .ref q2, .ref q3, .ref q4, .ref q5, .int 0])), (q1, .inl (cy 1, 8, .inl (fun _ => 0))), (q2, .inl (cy 1, 8, .inl (fun _ => 0))), (q3, .inl (cy 1, 8, .inl (fun _ => 0))), (q4, .inl (cy 1, 8, .inl (fun _ => 0))), (q5, .inl (cy 2, 8, .inl (fun _ => 0)))] := hD
  exact W.vret hx hb hr (fun t ht _ => ⟨⟨rfl, (fun k => if 900 ≤ k then ad k else ([(ad 0), q1, q2, q3, q4, q5] : List Nat).getD k 0), zz, rfl, rfl, fun k hk => if_pos hk, by rw [ht, zw_eq]; exact hP, by rw [zw_eq]; exact hD⟩, hS.F ht⟩) hS.2.2 dX2_init_44
def SL7 : List zE := [.inr (7, [some (some 1), none]), .inl (0, 200, none)]
set_option maxRecDepth 100000 in
set_option maxHeartbeats 4000000 in
theorem n_X7 : zNc mX7_init 1 1 200 [.ref 0] [.inr (7, [some none, none])] SL7 (fun X => X = zz) := by
  intro l dC dI cy ad sz
  refine Met.ofW (cc := mX7_init.2.1) (maxL := mX7_init.2.2.1) (ret := mX7_init.2.2.2) (by decide) rfl ?_
  intro p e s m args below meth c s₁ B hml hv
  obtain ⟨rfl, ⟨hsz, hP, hK, hN, hD0, hZ⟩, hao⟩ := hv
  have hts0 := atoms_spec (ws := zws mX7_init) B.pre
  subst hsz
  rw [lg_entry_eq]
  have hx := B.exec
  have hb := B.bytes
  have hr := B.returns
  have hown : s.vm.findClass RX7 = some m.cls := findClass_of_methodNamed B.named
  have hlocks := B.notSynchronized
  have hin : meth.name = "<init>" := (name_of_methodNamed B.named B.method).1
  have hts := fun w (hw : w ∈ zG) => hts0 w (List.mem_cons_of_mem _ hw)
  have hD := hD0.self (sz := s.heap.size)
  generalize hAe : va_A (zw cy ad zz [.inr (7, [some none, none])]) s.heap.size = A at hD hZ ⊢
  have hA : ∀ q : Nat, s.heap.size ≤ q → A q := fun q h => by rw [← hAe]; exact Or.inr h
  have C : zC p s m _ meth c mX7_init dC dI cy ad A := ⟨hx, hb, hml, hr, hown, hts, hN, hK, hlocks, hA, hZ⟩
  have hS : va_S A s.heap s.heap [] := va_S.rf
  rw [zw_eq] at hP hD
  have hP : va_P (dC, dI) vwCl [((ad 0), .inr (7, [.null, .int 0]))] s.heap := hP
  have hD : va_D A [((ad 0), .inr (7, [.null, .int 0]))] := hD
  have hl := lv_entry (([.ref 0] : List Value).map (zk ad)) (n := mX7_init.2.2.1) (Nat.le_of_ble_eq_true rfl)
  generalize (lg_sl (([.ref 0] : List Value).map (zk ad)) ++ List.replicate (mX7_init.2.2.1 - (lg_sl (([.ref 0] : List Value).map (zk ad))).length) Slot.unset).toArray = ls at hl ⊢
  have hl : lv_has ls 1 [(0, .ref (ad 0))] := hl
  refine lv_aload_n hx hb dX7_init_0 rfl (lv_at hl 0 rfl) ?_
  refine W.objInit hx hb hown (hts _ (zGm (zm1 149 rfl) rfl)) (hts _ (zGm (zm1 24 rfl) rfl)) (hts _ (zGm (zm1 25 rfl) rfl)) rfl (by rw [hml]; exact hl.1) rfl dX7_init_1 (Nat.le_of_ble_eq_true rfl) (Nat.le_of_ble_eq_true rfl) ?_
  refine lv_aload_n hx hb dX7_init_4 rfl (lv_at hl 0 rfl) ?_
  refine lv_sipush (v := 200) hx hb dX7_init_5 rfl ?_
  refine z_newa 0 (atype := .byte) hx hb (hts _ (zGm (zm1 160 rfl) rfl)) rfl rfl hK hP hD hS hA 200 (by decide) (by decide) (by decide) (Nat.le_of_ble_eq_true rfl) (Nat.le_of_ble_eq_true rfl) dX7_init_8 (fun q1 H hP hD hS => ?_)
  have hP : va_P (dC, dI) vwCl [((ad 0), .inr (7, [.null, .int 0])), (q1, .inl (cy 0, 200, .inl (fun _ => 0)))] H := hP
  have hD : va_D A [((ad 0), .inr (7, [.null, .int 0])), (q1, .inl (cy 0, 200, .inl (fun _ => 0)))] := hD
  refine W.widen (k := 1) (n := 200) (by omega) (by omega) ?_
  refine va_putF (D := (dC, dI)) (ci := 7) (v := .ref q1) (ty := (.array .byte)) (C := RX7) (T := TX7) (N := 2) hx hb hts lyX7 tyX7 tyX7_ok nmX7 hown hK hP hD hS 0 rfl rfl 0 (by decide) (hts _ (zGm (zm1 150 rfl) rfl)) (fun _ h9 => h9) rfl hin rfl (by decide +kernel) rfl rfl (Nat.le_of_ble_eq_true rfl) dX7_init_10 (fun H locs hP hD hS => ?_)
  have hP : va_P (dC, dI) vwCl [((ad 0), .inr (7, [.ref q1, .int 0])), (q1, .inl (cy 0, 200, .inl (fun _ => 0)))] H := hP
  have hD : va_D A [((ad 0), .inr (7, [.ref q1, .int 0])), (q1, .inl (cy 0, 200, .inl (fun _ => 0)))] := hD
  exact W.vret hx hb hr (fun t ht _ => ⟨⟨rfl, (fun k => if 900 ≤ k then ad k else ([(ad 0), q1] : List Nat).getD k 0), zz, rfl, rfl, fun k hk => if_pos hk, by rw [ht, zw_eq]; exact hP, by rw [zw_eq]; exact hD⟩, hS.F ht⟩) hS.2.2 dX7_init_13
def SL3 : List zE := [.inr (3, [some (some 900), none, none, none, none, none, none, none, none, none, none, none])]
set_option maxRecDepth 100000 in
set_option maxHeartbeats 4000000 in
theorem n_X3 : zNc mX3_init 1 0 0 [.ref 0, .ref 900] [.inr (3, [some none, none, none, none, none, none, none, none, none, none, none, none])] SL3 (fun X => X = zz) := by
  intro l dC dI cy ad sz
  refine Met.ofW (cc := mX3_init.2.1) (maxL := mX3_init.2.2.1) (ret := mX3_init.2.2.2) (by decide) rfl ?_
  intro p e s m args below meth c s₁ B hml hv
  obtain ⟨rfl, ⟨hsz, hP, hK, hN, hD0, hZ⟩, hao⟩ := hv
  have hts0 := atoms_spec (ws := zws mX3_init) B.pre
  subst hsz
  rw [lg_entry_eq]
  have hx := B.exec
  have hb := B.bytes
  have hr := B.returns
  have hown : s.vm.findClass RX3 = some m.cls := findClass_of_methodNamed B.named
  have hlocks := B.notSynchronized
  have hin : meth.name = "<init>" := (name_of_methodNamed B.named B.method).1
  have hts := fun w (hw : w ∈ zG) => hts0 w (List.mem_cons_of_mem _ hw)
  have hD := hD0.self (sz := s.heap.size)
  generalize hAe : va_A (zw cy ad zz [.inr (3, [some none, none, none, none, none, none, none, none, none, none, none, none])]) s.heap.size = A at hD hZ ⊢
  have hA : ∀ q : Nat, s.heap.size ≤ q → A q := fun q h => by rw [← hAe]; exact Or.inr h
  have C : zC p s m _ meth c mX3_init dC dI cy ad A := ⟨hx, hb, hml, hr, hown, hts, hN, hK, hlocks, hA, hZ⟩
  have hS : va_S A s.heap s.heap [] := va_S.rf
  rw [zw_eq] at hP hD
  have hP : va_P (dC, dI) vwCl [((ad 0), .inr (3, [.null, .int 0, .int 0, .int 0, .int 0, .int 0, .int 0, .int 0, .int 0, .int 0, .int 0, .int 0]))] s.heap := hP
  have hD : va_D A [((ad 0), .inr (3, [.null, .int 0, .int 0, .int 0, .int 0, .int 0, .int 0, .int 0, .int 0, .int 0, .int 0, .int 0]))] := hD
  have hl := lv_entry (([.ref 0, .ref 900] : List Value).map (zk ad)) (n := mX3_init.2.2.1) (Nat.le_of_ble_eq_true rfl)
  generalize (lg_sl (([.ref 0, .ref 900] : List Value).map (zk ad)) ++ List.replicate (mX3_init.2.2.1 - (lg_sl (([.ref 0, .ref 900] : List Value).map (zk ad))).length) Slot.unset).toArray = ls at hl ⊢
  have hl : lv_has ls 2 [(0, .ref (ad 0)), (1, .ref (ad 900))] := hl
  refine lv_aload_n hx hb dX3_init_0 rfl (lv_at hl 0 rfl) ?_
  refine W.objInit hx hb hown (hts _ (zGm (zm1 166 rfl) rfl)) (hts _ (zGm (zm1 24 rfl) rfl)) (hts _ (zGm (zm1 25 rfl) rfl)) rfl (by rw [hml]; exact hl.1) rfl dX3_init_1 (Nat.le_of_ble_eq_true rfl) (Nat.le_of_ble_eq_true rfl) ?_
  refine lv_aload_n hx hb dX3_init_4 rfl (lv_at hl 0 rfl) ?_
  refine lv_aload_n hx hb dX3_init_5 rfl (lv_at hl 1 rfl) ?_
  refine va_putF (D := (dC, dI)) (ci := 3) (v := .ref (ad 900)) (ty := (.object "WaysSung$Tape")) (C := RX3) (T := TX3) (N := 12) hx hb hts lyX3 tyX3 tyX3_ok nmX3 hown hK hP hD hS 0 rfl rfl 0 (by decide) (hts _ (zGm (zm1 167 rfl) rfl)) (fun _ h9 => h9) rfl hin rfl (by decide +kernel) rfl rfl (Nat.le_of_ble_eq_true rfl) dX3_init_6 (fun H locs hP hD hS => ?_)
  have hP : va_P (dC, dI) vwCl [((ad 0), .inr (3, [.ref (ad 900), .int 0, .int 0, .int 0, .int 0, .int 0, .int 0, .int 0, .int 0, .int 0, .int 0, .int 0]))] H := hP
  have hD : va_D A [((ad 0), .inr (3, [.ref (ad 900), .int 0, .int 0, .int 0, .int 0, .int 0, .int 0, .int 0, .int 0, .int 0, .int 0, .int 0]))] := hD
  exact W.vret hx hb hr (fun t ht _ => ⟨⟨rfl, (fun k => if 900 ≤ k then ad k else ([(ad 0)] : List Nat).getD k 0), zz, rfl, rfl, fun k hk => if_pos hk, by rw [ht, zw_eq]; exact hP, by rw [zw_eq]; exact hD⟩, hS.F ht⟩) hS.2.2 dX3_init_9
def SL8 : List zE := [.inr (8, [some (some 900), some (some 1), some (some 12), some (some 13), none, none, none]), .inl (4, 10, some (fun j => if j < 10 then some (2 + j) else none)), .inl (1, 12, none), .inl (1, 12, none), .inl (1, 12, none), .inl (1, 12, none), .inl (1, 12, none), .inl (1, 12, none), .inl (1, 12, none), .inl (1, 12, none), .inl (1, 12, none), .inl (1, 12, none), .inl (1, 12, none), .inl (1, 12, none)]
set_option maxRecDepth 100000 in
set_option maxHeartbeats 4000000 in
theorem n_X8 : zNc mX8_init 1 13 154 [.ref 0, .ref 900] [.inr (8, [some none, some none, some none, some none, none, none, none])] SL8 (fun X => X = zz) := by
  intro l dC dI cy ad sz
  refine Met.ofW (cc := mX8_init.2.1) (maxL := mX8_init.2.2.1) (ret := mX8_init.2.2.2) (by decide) rfl ?_
  intro p e s m args below meth c s₁ B hml hv
  obtain ⟨rfl, ⟨hsz, hP, hK, hN, hD0, hZ⟩, hao⟩ := hv
  have hts0 := atoms_spec (ws := zws mX8_init) B.pre
  subst hsz
  rw [lg_entry_eq]
  have hx := B.exec
  have hb := B.bytes
  have hr := B.returns
  have hown : s.vm.findClass RX8 = some m.cls := findClass_of_methodNamed B.named
  have hlocks := B.notSynchronized
  have hin : meth.name = "<init>" := (name_of_methodNamed B.named B.method).1
  have hts := fun w (hw : w ∈ zG) => hts0 w (List.mem_cons_of_mem _ hw)
  have hD := hD0.self (sz := s.heap.size)
  generalize hAe : va_A (zw cy ad zz [.inr (8, [some none, some none, some none, some none, none, none, none])]) s.heap.size = A at hD hZ ⊢
  have hA : ∀ q : Nat, s.heap.size ≤ q → A q := fun q h => by rw [← hAe]; exact Or.inr h
  have C : zC p s m _ meth c mX8_init dC dI cy ad A := ⟨hx, hb, hml, hr, hown, hts, hN, hK, hlocks, hA, hZ⟩
  have hS : va_S A s.heap s.heap [] := va_S.rf
  rw [zw_eq] at hP hD
  have hP : va_P (dC, dI) vwCl [((ad 0), .inr (8, [.null, .null, .null, .null, .int 0, .int 0, .int 0]))] s.heap := hP
  have hD : va_D A [((ad 0), .inr (8, [.null, .null, .null, .null, .int 0, .int 0, .int 0]))] := hD
  have hl := lv_entry (([.ref 0, .ref 900] : List Value).map (zk ad)) (n := mX8_init.2.2.1) (Nat.le_of_ble_eq_true rfl)
  generalize (lg_sl (([.ref 0, .ref 900] : List Value).map (zk ad)) ++ List.replicate (mX8_init.2.2.1 - (lg_sl (([.ref 0, .ref 900] : List Value).map (zk ad))).length) Slot.unset).toArray = ls at hl ⊢
  have hl : lv_has ls 2 [(0, .ref (ad 0)), (1, .ref (ad 900))] := hl
  refine lv_aload_n hx hb dX8_init_0 rfl (lv_at hl 0 rfl) ?_
  refine W.objInit hx hb hown (hts _ (zGm (zm1 211 rfl) rfl)) (hts _ (zGm (zm1 24 rfl) rfl)) (hts _ (zGm (zm1 25 rfl) rfl)) rfl (by rw [hml]; exact hl.1) rfl dX8_init_1 (Nat.le_of_ble_eq_true rfl) (Nat.le_of_ble_eq_true rfl) ?_
  refine lv_aload_n hx hb dX8_init_4 rfl (lv_at hl 0 rfl) ?_
  refine lv_bipush (v := 10) hx hb dX8_init_5 rfl ?_
  refine lv_bipush (v := 12) hx hb dX8_init_7 rfl ?_
  refine z_multi hx hb hown (hts _ (zGm (zm1 212 rfl) rfl)) hao (hts _ (zGm (zm1 53 rfl) rfl)) hK hP hD hS hA 10 12 rfl rfl (by decide) (by decide) (by decide) (Nat.le_of_ble_eq_true rfl) (Nat.le_of_ble_eq_true rfl) dX8_init_9 (fun q1 H locs hP hD hS => ?_)
  have hP : va_P (dC, dI) vwCl [((ad 0), .inr (8, [.null, .null, .null, .null, .int 0, .int 0, .int 0])), (q1, .inl (cy 4, 10, .inr (.inr (.inr (.inr (fun j => if j < 10 then some (q1 + 1 + j) else none)))))), ((q1 + 1 + 0), .inl (cy 1, 12, .inl (fun _ => 0))), ((q1 + 1 + 1), .inl (cy 1, 12, .inl (fun _ => 0))), ((q1 + 1 + 2), .inl (cy 1, 12, .inl (fun _ => 0))), ((q1 + 1 + 3), .inl (cy 1, 12, .inl (fun _ => 0))), ((q1 + 1 + 4), .inl (cy 1, 12, .inl (fun _ => 0))), ((q1 + 1 + 5), .inl (cy 1, 12, .inl (fun _ => 0))), ((q1 + 1 + 6), .inl (cy 1, 12, .inl (fun _ => 0))), ((q1 + 1 + 7), .inl (cy 1, 12, .inl (fun _ => 0))), ((q1 + 1 + 8), .inl (cy 1, 12, .inl (fun _ => 0))), ((q1 + 1 + 9), .inl (cy 1, 12, .inl (fun _ => 0)))] H := hP
  have hD : va_D A [((ad 0), .inr (8, [.null, .null, .null, .null, .int 0, .int 0, .int 0])), (q1, .inl (cy 4, 10, .inr (.inr (.inr (.inr (fun j => if j < 10 then some (q1 + 1 + j) else none)))))), ((q1 + 1 + 0), .inl (cy 1, 12, .inl (fun _ => 0))), ((q1 + 1 + 1), .inl (cy 1, 12, .inl (fun _ => 0))), ((q1 + 1 + 2), .inl (cy 1, 12, .inl (fun _ => 0))), ((q1 + 1 + 3), .inl (cy 1, 12, .inl (fun _ => 0))), ((q1 + 1 + 4), .inl (cy 1, 12, .inl (fun _ => 0))), ((q1 + 1 + 5), .inl (cy 1, 12, .inl (fun _ => 0))), ((q1 + 1 + 6), .inl (cy 1, 12, .inl (fun _ => 0))), ((q1 + 1 + 7), .inl (cy 1, 12, .inl (fun _ => 0))), ((q1 + 1 + 8), .inl (cy 1, 12, .inl (fun _ => 0))), ((q1 + 1 + 9), .inl (cy 1, 12, .inl (fun _ => 0)))] := hD
  refine W.widen (k := 11) (n := 130) (by omega) (by omega) ?_
  refine va_putF (D := (dC, dI)) (ci := 8) (v := .ref q1) (ty := (.array (.array .int))) (C := RX8) (T := TX8) (N := 7) hx hb hts lyX8 tyX8 tyX8_ok nmX8 hown hK hP hD hS 0 rfl rfl 1 (by decide) (hts _ (zGm (zm1 214 rfl) rfl)) (fun _ h9 => h9) rfl hin rfl (by decide +kernel) rfl rfl (Nat.le_of_ble_eq_true rfl) dX8_init_13 (fun H locs hP hD hS => ?_)
  have hP : va_P (dC, dI) vwCl [((ad 0), .inr (8, [.null, .ref q1, .null, .null, .int 0, .int 0, .int 0])), (q1, .inl (cy 4, 10, .inr (.inr (.inr (.inr (fun j => if j < 10 then some (q1 + 1 + j) else none)))))), ((q1 + 1 + 0), .inl (cy 1, 12, .inl (fun _ => 0))), ((q1 + 1 + 1), .inl (cy 1, 12, .inl (fun _ => 0))), ((q1 + 1 + 2), .inl (cy 1, 12, .inl (fun _ => 0))), ((q1 + 1 + 3), .inl (cy 1, 12, .inl (fun _ => 0))), ((q1 + 1 + 4), .inl (cy 1, 12, .inl (fun _ => 0))), ((q1 + 1 + 5), .inl (cy 1, 12, .inl (fun _ => 0))), ((q1 + 1 + 6), .inl (cy 1, 12, .inl (fun _ => 0))), ((q1 + 1 + 7), .inl (cy 1, 12, .inl (fun _ => 0))), ((q1 + 1 + 8), .inl (cy 1, 12, .inl (fun _ => 0))), ((q1 + 1 + 9), .inl (cy 1, 12, .inl (fun _ => 0)))] H := hP
  have hD : va_D A [((ad 0), .inr (8, [.null, .ref q1, .null, .null, .int 0, .int 0, .int 0])), (q1, .inl (cy 4, 10, .inr (.inr (.inr (.inr (fun j => if j < 10 then some (q1 + 1 + j) else none)))))), ((q1 + 1 + 0), .inl (cy 1, 12, .inl (fun _ => 0))), ((q1 + 1 + 1), .inl (cy 1, 12, .inl (fun _ => 0))), ((q1 + 1 + 2), .inl (cy 1, 12, .inl (fun _ => 0))), ((q1 + 1 + 3), .inl (cy 1, 12, .inl (fun _ => 0))), ((q1 + 1 + 4), .inl (cy 1, 12, .inl (fun _ => 0))), ((q1 + 1 + 5), .inl (cy 1, 12, .inl (fun _ => 0))), ((q1 + 1 + 6), .inl (cy 1, 12, .inl (fun _ => 0))), ((q1 + 1 + 7), .inl (cy 1, 12, .inl (fun _ => 0))), ((q1 + 1 + 8), .inl (cy 1, 12, .inl (fun _ => 0))), ((q1 + 1 + 9), .inl (cy 1, 12, .inl (fun _ => 0)))] := hD
  refine lv_aload_n hx hb dX8_init_16 rfl (lv_at hl 0 rfl) ?_
  refine lv_bipush (v := 12) hx hb dX8_init_17 rfl ?_
  refine z_newa 1 (atype := .int) hx hb (hts _ (zGm (zm1 53 rfl) rfl)) rfl rfl hK hP hD hS hA 12 (by decide) (by decide) (by decide) (Nat.le_of_ble_eq_true rfl) (Nat.le_of_ble_eq_true rfl) dX8_init_19 (fun q2 H hP hD hS => ?_)
  have hP : va_P (dC, dI) vwCl [((ad 0), .inr (8, [.null, .ref q1, .null, .null, .int 0, .int 0, .int 0])), (q1, .inl (cy 4, 10, .inr (.inr (.inr (.inr (fun j => if j < 10 then some (q1 + 1 + j) else none)))))), ((q1 + 1 + 0), .inl (cy 1, 12, .inl (fun _ => 0))), ((q1 + 1 + 1), .inl (cy 1, 12, .inl (fun _ => 0))), ((q1 + 1 + 2), .inl (cy 1, 12, .inl (fun _ => 0))), ((q1 + 1 + 3), .inl (cy 1, 12, .inl (fun _ => 0))), ((q1 + 1 + 4), .inl (cy 1, 12, .inl (fun _ => 0))), ((q1 + 1 + 5), .inl (cy 1, 12, .inl (fun _ => 0))), ((q1 + 1 + 6), .inl (cy 1, 12, .inl (fun _ => 0))), ((q1 + 1 + 7), .inl (cy 1, 12, .inl (fun _ => 0))), ((q1 + 1 + 8), .inl (cy 1, 12, .inl (fun _ => 0))), ((q1 + 1 + 9), .inl (cy 1, 12, .inl (fun _ => 0))), (q2, .inl (cy 1, 12, .inl (fun _ => 0)))] H := hP
  have hD : va_D A [((ad 0), .inr (8, [.null, .ref q1, .null, .null, .int 0, .int 0, .int 0])), (q1, .inl (cy 4, 10, .inr (.inr (.inr (.inr (fun j => if j < 10 then some (q1 + 1 + j) else none)))))), ((q1 + 1 + 0), .inl (cy 1, 12, .inl (fun _ => 0))), ((q1 + 1 + 1), .inl (cy 1, 12, .inl (fun _ => 0))), ((q1 + 1 + 2), .inl (cy 1, 12, .inl (fun _ => 0))), ((q1 + 1 + 3), .inl (cy 1, 12, .inl (fun _ => 0))), ((q1 + 1 + 4), .inl (cy 1, 12, .inl (fun _ => 0))), ((q1 + 1 + 5), .inl (cy 1, 12, .inl (fun _ => 0))), ((q1 + 1 + 6), .inl (cy 1, 12, .inl (fun _ => 0))), ((q1 + 1 + 7), .inl (cy 1, 12, .inl (fun _ => 0))), ((q1 + 1 + 8), .inl (cy 1, 12, .inl (fun _ => 0))), ((q1 + 1 + 9), .inl (cy 1, 12, .inl (fun _ => 0))), (q2, .inl (cy 1, 12, .inl (fun _ => 0)))] := hD
  refine W.widen (k := 12) (n := 142) (by omega) (by omega) ?_
  refine va_putF (D := (dC, dI)) (ci := 8) (v := .ref q2) (ty := (.array .int)) (C := RX8) (T := TX8) (N := 7) hx hb hts lyX8 tyX8 tyX8_ok nmX8 hown hK hP hD hS 0 rfl rfl 2 (by decide) (hts _ (zGm (zm1 215 rfl) rfl)) (fun _ h9 => h9) rfl hin rfl (by decide +kernel) rfl rfl (Nat.le_of_ble_eq_true rfl) dX8_init_21 (fun H locs hP hD hS => ?_)
  have hP : va_P (dC, dI) vwCl [((ad 0), .inr (8, [.null, .ref q1, .ref q2, .null, .int 0, .int 0, .int 0])), (q1, .inl (cy 4, 10, .inr (.inr (.inr (.inr (fun j => if j < 10 then some (q1 + 1 + j) else none)))))), ((q1 + 1 + 0), .inl (cy 1, 12, .inl (fun _ => 0))), ((q1 + 1 + 1), .inl (cy 1, 12, .inl (fun _ => 0))), ((q1 + 1 + 2), .inl (cy 1, 12, .inl (fun _ => 0))), ((q1 + 1 + 3), .inl (cy 1, 12, .inl (fun _ => 0))), ((q1 + 1 + 4), .inl (cy 1, 12, .inl (fun _ => 0))), ((q1 + 1 + 5), .inl (cy 1, 12, .inl (fun _ => 0))), ((q1 + 1 + 6), .inl (cy 1, 12, .inl (fun _ => 0))), ((q1 + 1 + 7), .inl (cy 1, 12, .inl (fun _ => 0))), ((q1 + 1 + 8), .inl (cy 1, 12, .inl (fun _ => 0))), ((q1 + 1 + 9), .inl (cy 1, 12, .inl (fun _ => 0))), (q2, .inl (cy 1, 12, .inl (fun _ => 0)))] H := hP
  have hD : va_D A [((ad 0), .inr (8, [.null, .ref q1, .ref q2, .null, .int 0, .int 0, .int 0])), (q1, .inl (cy 4, 10, .inr (.inr (.inr (.inr (fun j => if j < 10 then some (q1 + 1 + j) else none)))))), ((q1 + 1 + 0), .inl (cy 1, 12, .inl (fun _ => 0))), ((q1 + 1 + 1), .inl (cy 1, 12, .inl (fun _ => 0))), ((q1 + 1 + 2), .inl (cy 1, 12, .inl (fun _ => 0))), ((q1 + 1 + 3), .inl (cy 1, 12, .inl (fun _ => 0))), ((q1 + 1 + 4), .inl (cy 1, 12, .inl (fun _ => 0))), ((q1 + 1 + 5), .inl (cy 1, 12, .inl (fun _ => 0))), ((q1 + 1 + 6), .inl (cy 1, 12, .inl (fun _ => 0))), ((q1 + 1 + 7), .inl (cy 1, 12, .inl (fun _ => 0))), ((q1 + 1 + 8), .inl (cy 1, 12, .inl (fun _ => 0))), ((q1 + 1 + 9), .inl (cy 1, 12, .inl (fun _ => 0))), (q2, .inl (cy 1, 12, .inl (fun _ => 0)))] := hD
  refine lv_aload_n hx hb dX8_init_24 rfl (lv_at hl 0 rfl) ?_
  refine lv_bipush (v := 12) hx hb dX8_init_25 rfl ?_
  refine z_newa 1 (atype := .int) hx hb (hts _ (zGm (zm1 53 rfl) rfl)) rfl rfl hK hP hD hS hA 12 (by decide) (by decide) (by decide) (Nat.le_of_ble_eq_true rfl) (Nat.le_of_ble_eq_true rfl) dX8_init_27 (fun q3 H hP hD hS => ?_)
  have hP : va_P (dC, dI) vwCl [((ad 0), .inr (8, [.null, .ref q1, .ref q2, .null, .int 0, .int 0, .int 0])), (q1, .inl (cy 4, 10, .inr (.inr (.inr (.inr (fun j => if j < 10 then some (q1 + 1 + j) else none)))))), ((q1 + 1 + 0), .inl (cy 1, 12, .inl (fun _ => 0))), ((q1 + 1 + 1), .inl (cy 1, 12, .inl (fun _ => 0))), ((q1 + 1 + 2), .inl (cy 1, 12, .inl (fun _ => 0))), ((q1 + 1 + 3), .inl (cy 1, 12, .inl (fun _ => 0))), ((q1 + 1 + 4), .inl (cy 1, 12, .inl (fun _ => 0))), ((q1 + 1 + 5), .inl (cy 1, 12, .inl (fun _ => 0))), ((q1 + 1 + 6), .inl (cy 1, 12, .inl (fun _ => 0))), ((q1 + 1 + 7), .inl (cy 1, 12, .inl (fun _ => 0))), ((q1 + 1 + 8), .inl (cy 1, 12, .inl (fun _ => 0))), ((q1 + 1 + 9), .inl (cy 1, 12, .inl (fun _ => 0))), (q2, .inl (cy 1, 12, .inl (fun _ => 0))), (q3, .inl (cy 1, 12, .inl (fun _ => 0)))] H := hP
  have hD : va_D A [((ad 0), .inr (8, [.null, .ref q1, .ref q2, .null, .int 0, .int 0, .int 0])), (q1, .inl (cy 4, 10, .inr (.inr (.inr (.inr (fun j => if j < 10 then some (q1 + 1 + j) else none)))))), ((q1 + 1 + 0), .inl (cy 1, 12, .inl (fun _ => 0))), ((q1 + 1 + 1), .inl (cy 1, 12, .inl (fun _ => 0))), ((q1 + 1 + 2), .inl (cy 1, 12, .inl (fun _ => 0))), ((q1 + 1 + 3), .inl (cy 1, 12, .inl (fun _ => 0))), ((q1 + 1 + 4), .inl (cy 1, 12, .inl (fun _ => 0))), ((q1 + 1 + 5), .inl (cy 1, 12, .inl (fun _ => 0))), ((q1 + 1 + 6), .inl (cy 1, 12, .inl (fun _ => 0))), ((q1 + 1 + 7), .inl (cy 1, 12, .inl (fun _ => 0))), ((q1 + 1 + 8), .inl (cy 1, 12, .inl (fun _ => 0))), ((q1 + 1 + 9), .inl (cy 1, 12, .inl (fun _ => 0))), (q2, .inl (cy 1, 12, .inl (fun _ => 0))), (q3, .inl (cy 1, 12, .inl (fun _ => 0)))] := hD
  refine W.widen (k := 13) (n := 154) (by omega) (by omega) ?_
  refine va_putF (D := (dC, dI)) (ci := 8) (v := .ref q3) (ty := (.array .int)) (C := RX8) (T := TX8) (N := 7) hx hb hts lyX8 tyX8 tyX8_ok nmX8 hown hK hP hD hS 0 rfl rfl 3 (by decide) (hts _ (zGm (zm1 216 rfl) rfl)) (fun _ h9 => h9) rfl hin rfl (by decide +kernel) rfl rfl (Nat.le_of_ble_eq_true rfl) dX8_init_29 (fun H locs hP hD hS => ?_)
  have hP : va_P (dC, dI) vwCl [((ad 0), .inr (8, [.null, .ref q1, .ref q2, .ref q3, .int 0, .int 0, .int 0])), (q1, .inl (cy 4, 10, .inr (.inr (.inr (.inr (fun j => if j < 10 then some (q1 + 1 + j) else none)))))), ((q1 + 1 + 0), .inl (cy 1, 12, .inl (fun _ => 0))), ((q1 + 1 + 1), .inl (cy 1, 12, .inl (fun _ => 0))), ((q1 + 1 + 2), .inl (cy 1, 12, .inl (fun _ => 0))), ((q1 + 1 + 3), .inl (cy 1, 12, .inl (fun _ => 0))), ((q1 + 1 + 4), .inl (cy 1, 12, .inl (fun _ => 0))), ((q1 + 1 + 5), .inl (cy 1, 12, .inl (fun _ => 0))), ((q1 + 1 + 6), .inl (cy 1, 12, .inl (fun _ => 0))), ((q1 + 1 + 7), .inl (cy 1, 12, .inl (fun _ => 0))), ((q1 + 1 + 8), .inl (cy 1, 12, .inl (fun _ => 0))), ((q1 + 1 + 9), .inl (cy 1, 12, .inl (fun _ => 0))), (q2, .inl (cy 1, 12, .inl (fun _ => 0))), (q3, .inl (cy 1, 12, .inl (fun _ => 0)))] H := hP
  have hD : va_D A [((ad 0), .inr (8, [.null, .ref q1, .ref q2, .ref q3, .int 0, .int 0, .int 0])), (q1, .inl (cy 4, 10, .inr (.inr (.inr (.inr (fun j => if j < 10 then some (q1 + 1 + j) else none)))))), ((q1 + 1 + 0), .inl (cy 1, 12, .inl (fun _ => 0))), ((q1 + 1 + 1), .inl (cy 1, 12, .inl (fun _ => 0))), ((q1 + 1 + 2), .inl (cy 1, 12, .inl (fun _ => 0))), ((q1 + 1 + 3), .inl (cy 1, 12, .inl (fun _ => 0))), ((q1 + 1 + 4), .inl (cy 1, 12, .inl (fun _ => 0))), ((q1 + 1 + 5), .inl (cy 1, 12, .inl (fun _ => 0))), ((q1 + 1 + 6), .inl (cy 1, 12, .inl (fun _ => 0))), ((q1 + 1 + 7), .inl (cy 1, 12, .inl (fun _ => 0))), ((q1 + 1 + 8), .inl (cy 1, 12, .inl (fun _ => 0))), ((q1 + 1 + 9), .inl (cy 1, 12, .inl (fun _ => 0))), (q2, .inl (cy 1, 12, .inl (fun _ => 0))), (q3, .inl (cy 1, 12, .inl (fun _ => 0)))] := hD
  refine lv_aload_n hx hb dX8_init_32 rfl (lv_at hl 0 rfl) ?_
  refine lv_aload_n hx hb dX8_init_33 rfl (lv_at hl 1 rfl) ?_
  refine va_putF (D := (dC, dI)) (ci := 8) (v := .ref (ad 900)) (ty := (.object "WaysSung$Songs")) (C := RX8) (T := TX8) (N := 7) hx hb hts lyX8 tyX8 tyX8_ok nmX8 hown hK hP hD hS 0 rfl rfl 0 (by decide) (hts _ (zGm (zm1 213 rfl) rfl)) (fun _ h9 => h9) rfl hin rfl (by decide +kernel) rfl rfl (Nat.le_of_ble_eq_true rfl) dX8_init_34 (fun H locs hP hD hS => ?_)
  have hP : va_P (dC, dI) vwCl [((ad 0), .inr (8, [.ref (ad 900), .ref q1, .ref q2, .ref q3, .int 0, .int 0, .int 0])), (q1, .inl (cy 4, 10, .inr (.inr (.inr (.inr (fun j => if j < 10 then some (q1 + 1 + j) else none)))))), ((q1 + 1 + 0), .inl (cy 1, 12, .inl (fun _ => 0))), ((q1 + 1 + 1), .inl (cy 1, 12, .inl (fun _ => 0))), ((q1 + 1 + 2), .inl (cy 1, 12, .inl (fun _ => 0))), ((q1 + 1 + 3), .inl (cy 1, 12, .inl (fun _ => 0))), ((q1 + 1 + 4), .inl (cy 1, 12, .inl (fun _ => 0))), ((q1 + 1 + 5), .inl (cy 1, 12, .inl (fun _ => 0))), ((q1 + 1 + 6), .inl (cy 1, 12, .inl (fun _ => 0))), ((q1 + 1 + 7), .inl (cy 1, 12, .inl (fun _ => 0))), ((q1 + 1 + 8), .inl (cy 1, 12, .inl (fun _ => 0))), ((q1 + 1 + 9), .inl (cy 1, 12, .inl (fun _ => 0))), (q2, .inl (cy 1, 12, .inl (fun _ => 0))), (q3, .inl (cy 1, 12, .inl (fun _ => 0)))] H := hP
  have hD : va_D A [((ad 0), .inr (8, [.ref (ad 900), .ref q1, .ref q2, .ref q3, .int 0, .int 0, .int 0])), (q1, .inl (cy 4, 10, .inr (.inr (.inr (.inr (fun j => if j < 10 then some (q1 + 1 + j) else none)))))), ((q1 + 1 + 0), .inl (cy 1, 12, .inl (fun _ => 0))), ((q1 + 1 + 1), .inl (cy 1, 12, .inl (fun _ => 0))), ((q1 + 1 + 2), .inl (cy 1, 12, .inl (fun _ => 0))), ((q1 + 1 + 3), .inl (cy 1, 12, .inl (fun _ => 0))), ((q1 + 1 + 4), .inl (cy 1, 12, .inl (fun _ => 0))), ((q1 + 1 + 5), .inl (cy 1, 12, .inl (fun _ => 0))), ((q1 + 1 + 6), .inl (cy 1, 12, .inl (fun _ => 0))), ((q1 + 1 + 7), .inl (cy 1, 12, .inl (fun _ => 0))), ((q1 + 1 + 8), .inl (cy 1, 12, .inl (fun _ => 0))), ((q1 + 1 + 9), .inl (cy 1, 12, .inl (fun _ => 0))), (q2, .inl (cy 1, 12, .inl (fun _ => 0))), (q3, .inl (cy 1, 12, .inl (fun _ => 0)))] := hD
  have hz0 := zrow_eq (N := 10) (b := 2) (q := q1) (ad2 := (fun k => if 900 ≤ k then ad k else ([(ad 0), q1, (q1 + 1 + 0), (q1 + 1 + 1), (q1 + 1 + 2), (q1 + 1 + 3), (q1 + 1 + 4), (q1 + 1 + 5), (q1 + 1 + 6), (q1 + 1 + 7), (q1 + 1 + 8), (q1 + 1 + 9), q2, q3] : List Nat).getD k 0)) (fun j hj => by match j, hj with | 0, _ => rfl | 1, _ => rfl | 2, _ => rfl | 3, _ => rfl | 4, _ => rfl | 5, _ => rfl | 6, _ => rfl | 7, _ => rfl | 8, _ => rfl | 9, _ => rfl | j + 10, h => exact absurd h (by omega))
  rw [hz0] at hP hD
  exact W.vret hx hb hr (fun t ht _ => ⟨⟨rfl, (fun k => if 900 ≤ k then ad k else ([(ad 0), q1, (q1 + 1 + 0), (q1 + 1 + 1), (q1 + 1 + 2), (q1 + 1 + 3), (q1 + 1 + 4), (q1 + 1 + 5), (q1 + 1 + 6), (q1 + 1 + 7), (q1 + 1 + 8), (q1 + 1 + 9), q2, q3] : List Nat).getD k 0), zz, rfl, rfl, fun k hk => if_pos hk, by rw [ht, zw_eq]; exact hP, by rw [zw_eq]; exact hD⟩, hS.F ht⟩) hS.2.2 dX8_init_37
def SL0 : List zE := [.inr (0, [some (some 900), some (some 1)]), .inl (1, 16, none)]
set_option maxRecDepth 100000 in
set_option maxHeartbeats 4000000 in
theorem n_X0 : zNc mX0_init 1 1 16 [.ref 0, .ref 900] [.inr (0, [some none, some none])] SL0 (fun X => X = zz) := by
  intro l dC dI cy ad sz
  refine Met.ofW (cc := mX0_init.2.1) (maxL := mX0_init.2.2.1) (ret := mX0_init.2.2.2) (by decide) rfl ?_
  intro p e s m args below meth c s₁ B hml hv
  obtain ⟨rfl, ⟨hsz, hP, hK, hN, hD0, hZ⟩, hao⟩ := hv
  have hts0 := atoms_spec (ws := zws mX0_init) B.pre
  subst hsz
  rw [lg_entry_eq]
  have hx := B.exec
  have hb := B.bytes
  have hr := B.returns
  have hown : s.vm.findClass RX0 = some m.cls := findClass_of_methodNamed B.named
  have hlocks := B.notSynchronized
  have hin : meth.name = "<init>" := (name_of_methodNamed B.named B.method).1
  have hts := fun w (hw : w ∈ zG) => hts0 w (List.mem_cons_of_mem _ hw)
  have hD := hD0.self (sz := s.heap.size)
  generalize hAe : va_A (zw cy ad zz [.inr (0, [some none, some none])]) s.heap.size = A at hD hZ ⊢
  have hA : ∀ q : Nat, s.heap.size ≤ q → A q := fun q h => by rw [← hAe]; exact Or.inr h
  have C : zC p s m _ meth c mX0_init dC dI cy ad A := ⟨hx, hb, hml, hr, hown, hts, hN, hK, hlocks, hA, hZ⟩
  have hS : va_S A s.heap s.heap [] := va_S.rf
  rw [zw_eq] at hP hD
  have hP : va_P (dC, dI) vwCl [((ad 0), .inr (0, [.null, .null]))] s.heap := hP
  have hD : va_D A [((ad 0), .inr (0, [.null, .null]))] := hD
  have hl := lv_entry (([.ref 0, .ref 900] : List Value).map (zk ad)) (n := mX0_init.2.2.1) (Nat.le_of_ble_eq_true rfl)
  generalize (lg_sl (([.ref 0, .ref 900] : List Value).map (zk ad)) ++ List.replicate (mX0_init.2.2.1 - (lg_sl (([.ref 0, .ref 900] : List Value).map (zk ad))).length) Slot.unset).toArray = ls at hl ⊢
  have hl : lv_has ls 2 [(0, .ref (ad 0)), (1, .ref (ad 900))] := hl
  refine lv_aload_n hx hb dX0_init_0 rfl (lv_at hl 0 rfl) ?_
  refine W.objInit hx hb hown (hts _ (zGm (zm2 1 rfl) rfl)) (hts _ (zGm (zm1 24 rfl) rfl)) (hts _ (zGm (zm1 25 rfl) rfl)) rfl (by rw [hml]; exact hl.1) rfl dX0_init_1 (Nat.le_of_ble_eq_true rfl) (Nat.le_of_ble_eq_true rfl) ?_
  refine lv_aload_n hx hb dX0_init_4 rfl (lv_at hl 0 rfl) ?_
  refine lv_bipush (v := 16) hx hb dX0_init_5 rfl ?_
  refine z_newa 1 (atype := .int) hx hb (hts _ (zGm (zm1 53 rfl) rfl)) rfl rfl hK hP hD hS hA 16 (by decide) (by decide) (by decide) (Nat.le_of_ble_eq_true rfl) (Nat.le_of_ble_eq_true rfl) dX0_init_7 (fun q1 H hP hD hS => ?_)
  have hP : va_P (dC, dI) vwCl [((ad 0), .inr (0, [.null, .null])), (q1, .inl (cy 1, 16, .inl (fun _ => 0)))] H := hP
  have hD : va_D A [((ad 0), .inr (0, [.null, .null])), (q1, .inl (cy 1, 16, .inl (fun _ => 0)))] := hD
  refine W.widen (k := 1) (n := 16) (by omega) (by omega) ?_
  refine va_putF (D := (dC, dI)) (ci := 0) (v := .ref q1) (ty := (.array .int)) (C := RX0) (T := TX0) (N := 2) hx hb hts lyX0 tyX0 tyX0_ok nmX0 hown hK hP hD hS 0 rfl rfl 1 (by decide) (hts _ (zGm (zm2 3 rfl) rfl)) (fun _ h9 => h9) rfl hin rfl (by decide +kernel) rfl rfl (Nat.le_of_ble_eq_true rfl) dX0_init_9 (fun H locs hP hD hS => ?_)
  have hP : va_P (dC, dI) vwCl [((ad 0), .inr (0, [.null, .ref q1])), (q1, .inl (cy 1, 16, .inl (fun _ => 0)))] H := hP
  have hD : va_D A [((ad 0), .inr (0, [.null, .ref q1])), (q1, .inl (cy 1, 16, .inl (fun _ => 0)))] := hD
  refine lv_aload_n hx hb dX0_init_12 rfl (lv_at hl 0 rfl) ?_
  refine lv_aload_n hx hb dX0_init_13 rfl (lv_at hl 1 rfl) ?_
  refine va_putF (D := (dC, dI)) (ci := 0) (v := .ref (ad 900)) (ty := (.object "WaysSung$Songs")) (C := RX0) (T := TX0) (N := 2) hx hb hts lyX0 tyX0 tyX0_ok nmX0 hown hK hP hD hS 0 rfl rfl 0 (by decide) (hts _ (zGm (zm2 2 rfl) rfl)) (fun _ h9 => h9) rfl hin rfl (by decide +kernel) rfl rfl (Nat.le_of_ble_eq_true rfl) dX0_init_14 (fun H locs hP hD hS => ?_)
  have hP : va_P (dC, dI) vwCl [((ad 0), .inr (0, [.ref (ad 900), .ref q1])), (q1, .inl (cy 1, 16, .inl (fun _ => 0)))] H := hP
  have hD : va_D A [((ad 0), .inr (0, [.ref (ad 900), .ref q1])), (q1, .inl (cy 1, 16, .inl (fun _ => 0)))] := hD
  exact W.vret hx hb hr (fun t ht _ => ⟨⟨rfl, (fun k => if 900 ≤ k then ad k else ([(ad 0), q1] : List Nat).getD k 0), zz, rfl, rfl, fun k hk => if_pos hk, by rw [ht, zw_eq]; exact hP, by rw [zw_eq]; exact hD⟩, hS.F ht⟩) hS.2.2 dX0_init_17
