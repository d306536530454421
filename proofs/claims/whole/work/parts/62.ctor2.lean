/-! constructors, written by mkctor2.py -/
def SL5 : List zE := [.inr (5, [some (some 1), none, none]), .inl (1, 40, none)]
def RI (X : zX) : Prop := X 0 3 = 12 ∧ X 0 4 = 20 ∧ X 0 5 = 3 ∧ (∀ k, k < 8 → X 1 k = 0) ∧ (∀ v, v < 24 → X 2 v = 0) ∧ ∀ p, p < 12 → X 3 p = -4
def XM : zX := zs (zs (zs (zs zz 25 0 (-4)) 25 1 (-4)) 25 2 (-4)) 25 3 (-4)
set_option maxRecDepth 100000 in
set_option maxHeartbeats 4000000 in
theorem n_X5 : zNc mX5_init 1 1 40 [.ref 0] [.inr (5, [some none, none, none])] SL5 (fun X => X = zs zz 0 2 (-4)) := by
  intro l dC dI cy ad sz
  refine Met.ofW (cc := mX5_init.2.1) (maxL := mX5_init.2.2.1) (ret := mX5_init.2.2.2) (by decide) rfl ?_
  intro p e s m args below meth c s₁ B hml hv
  obtain ⟨rfl, ⟨hsz, hP, hK, hN, hD0, hZ⟩, hao⟩ := hv
  have hts0 := atoms_spec (ws := zws mX5_init) B.pre
  subst hsz
  rw [lg_entry_eq]
  have hx := B.exec
  have hb := B.bytes
  have hr := B.returns
  have hown : s.vm.findClass RX5 = some m.cls := findClass_of_methodNamed B.named
  have hlocks := B.notSynchronized
  have hin : meth.name = "<init>" := (name_of_methodNamed B.named B.method).1
  have hts := fun w (hw : w ∈ zG) => hts0 w (List.mem_cons_of_mem _ hw)
  have hD := hD0.self (sz := s.heap.size)
  generalize hAe : va_A (zw cy ad zz [.inr (5, [some none, none, none])]) s.heap.size = A at hD hZ ⊢
  have hA : ∀ q : Nat, s.heap.size ≤ q → A q := fun q h => by rw [← hAe]; exact Or.inr h
  have C : zC p s m _ meth c mX5_init dC dI cy ad A := ⟨hx, hb, hml, hr, hown, hts, hN, hK, hlocks, hA, hZ⟩
  have hS : va_S A s.heap s.heap [] := va_S.rf
  rw [zw_eq] at hP hD
  have hP : va_P (dC, dI) vwCl [((ad 0), .inr (5, [.null, .int 0, .int 0]))] s.heap := hP
  have hD : va_D A [((ad 0), .inr (5, [.null, .int 0, .int 0]))] := hD
  have hl := lv_entry (([.ref 0] : List Value).map (zk ad)) (n := mX5_init.2.2.1) (Nat.le_of_ble_eq_true rfl)
  generalize (lg_sl (([.ref 0] : List Value).map (zk ad)) ++ List.replicate (mX5_init.2.2.1 - (lg_sl (([.ref 0] : List Value).map (zk ad))).length) Slot.unset).toArray = ls at hl ⊢
  have hl : lv_has ls 1 [(0, .ref (ad 0))] := hl
  refine lv_aload_n hx hb dX5_init_0 rfl (lv_at hl 0 rfl) ?_
  refine W.objInit hx hb hown (hts _ (zGm (zm2 57 rfl) rfl)) (hts _ (zGm (zm1 24 rfl) rfl)) (hts _ (zGm (zm1 25 rfl) rfl)) rfl (by rw [hml]; exact hl.1) rfl dX5_init_1 (Nat.le_of_ble_eq_true rfl) (Nat.le_of_ble_eq_true rfl) ?_
  refine lv_aload_n hx hb dX5_init_4 rfl (lv_at hl 0 rfl) ?_
  refine lv_bipush (v := 40) hx hb dX5_init_5 rfl ?_
  refine z_newa 1 (atype := .int) hx hb (hts _ (zGm (zm1 53 rfl) rfl)) rfl rfl hK hP hD hS hA 40 (by decide) (by decide) (by decide) (Nat.le_of_ble_eq_true rfl) (Nat.le_of_ble_eq_true rfl) dX5_init_7 (fun q1 H hP hD hS => ?_)
  have hP : va_P (dC, dI) vwCl [((ad 0), .inr (5, [.null, .int 0, .int 0])), (q1, .inl (cy 1, 40, .inl (fun _ => 0)))] H := hP
  have hD : va_D A [((ad 0), .inr (5, [.null, .int 0, .int 0])), (q1, .inl (cy 1, 40, .inl (fun _ => 0)))] := hD
  refine W.widen (k := 1) (n := 40) (by omega) (by omega) ?_
  refine va_putF (D := (dC, dI)) (ci := 5) (v := .ref q1) (ty := (.array .int)) (C := RX5) (T := TX5) (N := 3) hx hb hts lyX5 tyX5 tyX5_ok nmX5 hown hK hP hD hS 0 rfl rfl 0 (by decide) (hts _ (zGm (zm2 58 rfl) rfl)) (fun _ h9 => h9) rfl hin rfl (by decide +kernel) rfl rfl (Nat.le_of_ble_eq_true rfl) dX5_init_9 (fun H locs hP hD hS => ?_)
  have hP : va_P (dC, dI) vwCl [((ad 0), .inr (5, [.ref q1, .int 0, .int 0])), (q1, .inl (cy 1, 40, .inl (fun _ => 0)))] H := hP
  have hD : va_D A [((ad 0), .inr (5, [.ref q1, .int 0, .int 0])), (q1, .inl (cy 1, 40, .inl (fun _ => 0)))] := hD
  refine lv_aload_n hx hb dX5_init_12 rfl (lv_at hl 0 rfl) ?_
  refine lv_bipush (v := -4) hx hb dX5_init_13 rfl ?_
  refine va_put (D := (dC, dI)) (ci := 5) (v := .int (-4)) (ty := .int) (C := RX5) (T := TX5) (N := 3) hx hb hts lyX5 tyX5 tyX5_ok nmX5 hown hK hP hD hS 0 rfl rfl 2 (by decide) (hts _ (zGm (zm2 62 rfl) rfl)) (fun _ h9 => h9) rfl (by decide +kernel) rfl rfl (Nat.le_of_ble_eq_true rfl) dX5_init_15 (fun H locs hP hD hS => ?_)
  have hP : va_P (dC, dI) vwCl [((ad 0), .inr (5, [.ref q1, .int 0, .int (-4)])), (q1, .inl (cy 1, 40, .inl (fun _ => 0)))] H := hP
  have hD : va_D A [((ad 0), .inr (5, [.ref q1, .int 0, .int (-4)])), (q1, .inl (cy 1, 40, .inl (fun _ => 0)))] := hD
  exact W.vret hx hb hr (fun t ht _ => ⟨⟨rfl, (fun k => if 900 ≤ k then ad k else ([(ad 0), q1] : List Nat).getD k 0), zs zz 0 2 (-4), rfl, rfl, fun k hk => if_pos hk, by rw [ht, zw_eq]; exact hP, by rw [zw_eq]; exact hD⟩, hS.F ht⟩) hS.2.2 dX5_init_18
set_option maxRecDepth 100000 in
set_option maxHeartbeats 4000000 in
theorem n_X4 (hr4 : zPw SR 0 mX4_reset [.ref 0] zz RI) : zNc mX4_init 1 3 44 [.ref 0] [.inr (4, [some none, some none, some none, none, none, none])] SR (RI) := by
  intro l dC dI cy ad sz
  refine Met.ofW (cc := mX4_init.2.1) (maxL := mX4_init.2.2.1) (ret := mX4_init.2.2.2) (by decide) rfl ?_
  intro p e s m args below meth c s₁ B hml hv
  obtain ⟨rfl, ⟨hsz, hP, hK, hN, hD0, hZ⟩, hao⟩ := hv
  have hts0 := atoms_spec (ws := zws mX4_init) B.pre
  subst hsz
  rw [lg_entry_eq]
  have hx := B.exec
  have hb := B.bytes
  have hr := B.returns
  have hown : s.vm.findClass RX4 = some m.cls := findClass_of_methodNamed B.named
  have hlocks := B.notSynchronized
  have hin : meth.name = "<init>" := (name_of_methodNamed B.named B.method).1
  have hts := fun w (hw : w ∈ zG) => hts0 w (List.mem_cons_of_mem _ hw)
  have hD := hD0.self (sz := s.heap.size)
  generalize hAe : va_A (zw cy ad zz [.inr (4, [some none, some none, some none, none, none, none])]) s.heap.size = A at hD hZ ⊢
  have hA : ∀ q : Nat, s.heap.size ≤ q → A q := fun q h => by rw [← hAe]; exact Or.inr h
  have C : zC p s m _ meth c mX4_init dC dI cy ad A := ⟨hx, hb, hml, hr, hown, hts, hN, hK, hlocks, hA, hZ⟩
  have hS : va_S A s.heap s.heap [] := va_S.rf
  rw [zw_eq] at hP hD
  have hP : va_P (dC, dI) vwCl [((ad 0), .inr (4, [.null, .null, .null, .int 0, .int 0, .int 0]))] s.heap := hP
  have hD : va_D A [((ad 0), .inr (4, [.null, .null, .null, .int 0, .int 0, .int 0]))] := hD
  have hl := lv_entry (([.ref 0] : List Value).map (zk ad)) (n := mX4_init.2.2.1) (Nat.le_of_ble_eq_true rfl)
  generalize (lg_sl (([.ref 0] : List Value).map (zk ad)) ++ List.replicate (mX4_init.2.2.1 - (lg_sl (([.ref 0] : List Value).map (zk ad))).length) Slot.unset).toArray = ls at hl ⊢
  have hl : lv_has ls 1 [(0, .ref (ad 0))] := hl
  refine lv_aload_n hx hb dX4_init_0 rfl (lv_at hl 0 rfl) ?_
  refine W.objInit hx hb hown (hts _ (zGm (zm2 16 rfl) rfl)) (hts _ (zGm (zm1 24 rfl) rfl)) (hts _ (zGm (zm1 25 rfl) rfl)) rfl (by rw [hml]; exact hl.1) rfl dX4_init_1 (Nat.le_of_ble_eq_true rfl) (Nat.le_of_ble_eq_true rfl) ?_
  refine lv_aload_n hx hb dX4_init_4 rfl (lv_at hl 0 rfl) ?_
  refine lv_bipush (v := 8) hx hb dX4_init_5 rfl ?_
  refine z_newa 1 (atype := .int) hx hb (hts _ (zGm (zm1 53 rfl) rfl)) rfl rfl hK hP hD hS hA 8 (by decide) (by decide) (by decide) (Nat.le_of_ble_eq_true rfl) (Nat.le_of_ble_eq_true rfl) dX4_init_7 (fun q1 H hP hD hS => ?_)
  have hP : va_P (dC, dI) vwCl [((ad 0), .inr (4, [.null, .null, .null, .int 0, .int 0, .int 0])), (q1, .inl (cy 1, 8, .inl (fun _ => 0)))] H := hP
  have hD : va_D A [((ad 0), .inr (4, [.null, .null, .null, .int 0, .int 0, .int 0])), (q1, .inl (cy 1, 8, .inl (fun _ => 0)))] := hD
  refine W.widen (k := 1) (n := 8) (by omega) (by omega) ?_
  refine va_putF (D := (dC, dI)) (ci := 4) (v := .ref q1) (ty := (.array .int)) (C := RX4) (T := TX4) (N := 6) hx hb hts lyX4 tyX4 tyX4_ok nmX4 hown hK hP hD hS 0 rfl rfl 0 (by decide) (hts _ (zGm (zm2 21 rfl) rfl)) (fun _ h9 => h9) rfl hin rfl (by decide +kernel) rfl rfl (Nat.le_of_ble_eq_true rfl) dX4_init_9 (fun H locs hP hD hS => ?_)
  have hP : va_P (dC, dI) vwCl [((ad 0), .inr (4, [.ref q1, .null, .null, .int 0, .int 0, .int 0])), (q1, .inl (cy 1, 8, .inl (fun _ => 0)))] H := hP
  have hD : va_D A [((ad 0), .inr (4, [.ref q1, .null, .null, .int 0, .int 0, .int 0])), (q1, .inl (cy 1, 8, .inl (fun _ => 0)))] := hD
  refine lv_aload_n hx hb dX4_init_12 rfl (lv_at hl 0 rfl) ?_
  refine lv_bipush (v := 24) hx hb dX4_init_13 rfl ?_
  refine z_newa 1 (atype := .int) hx hb (hts _ (zGm (zm1 53 rfl) rfl)) rfl rfl hK hP hD hS hA 24 (by decide) (by decide) (by decide) (Nat.le_of_ble_eq_true rfl) (Nat.le_of_ble_eq_true rfl) dX4_init_15 (fun q2 H hP hD hS => ?_)
  have hP : va_P (dC, dI) vwCl [((ad 0), .inr (4, [.ref q1, .null, .null, .int 0, .int 0, .int 0])), (q1, .inl (cy 1, 8, .inl (fun _ => 0))), (q2, .inl (cy 1, 24, .inl (fun _ => 0)))] H := hP
  have hD : va_D A [((ad 0), .inr (4, [.ref q1, .null, .null, .int 0, .int 0, .int 0])), (q1, .inl (cy 1, 8, .inl (fun _ => 0))), (q2, .inl (cy 1, 24, .inl (fun _ => 0)))] := hD
  refine W.widen (k := 2) (n := 32) (by omega) (by omega) ?_
  refine va_putF (D := (dC, dI)) (ci := 4) (v := .ref q2) (ty := (.array .int)) (C := RX4) (T := TX4) (N := 6) hx hb hts lyX4 tyX4 tyX4_ok nmX4 hown hK hP hD hS 0 rfl rfl 1 (by decide) (hts _ (zGm (zm2 24 rfl) rfl)) (fun _ h9 => h9) rfl hin rfl (by decide +kernel) rfl rfl (Nat.le_of_ble_eq_true rfl) dX4_init_17 (fun H locs hP hD hS => ?_)
  have hP : va_P (dC, dI) vwCl [((ad 0), .inr (4, [.ref q1, .ref q2, .null, .int 0, .int 0, .int 0])), (q1, .inl (cy 1, 8, .inl (fun _ => 0))), (q2, .inl (cy 1, 24, .inl (fun _ => 0)))] H := hP
  have hD : va_D A [((ad 0), .inr (4, [.ref q1, .ref q2, .null, .int 0, .int 0, .int 0])), (q1, .inl (cy 1, 8, .inl (fun _ => 0))), (q2, .inl (cy 1, 24, .inl (fun _ => 0)))] := hD
  refine lv_aload_n hx hb dX4_init_20 rfl (lv_at hl 0 rfl) ?_
  refine lv_bipush (v := 12) hx hb dX4_init_21 rfl ?_
  refine z_newa 1 (atype := .int) hx hb (hts _ (zGm (zm1 53 rfl) rfl)) rfl rfl hK hP hD hS hA 12 (by decide) (by decide) (by decide) (Nat.le_of_ble_eq_true rfl) (Nat.le_of_ble_eq_true rfl) dX4_init_23 (fun q3 H hP hD hS => ?_)
  have hP : va_P (dC, dI) vwCl [((ad 0), .inr (4, [.ref q1, .ref q2, .null, .int 0, .int 0, .int 0])), (q1, .inl (cy 1, 8, .inl (fun _ => 0))), (q2, .inl (cy 1, 24, .inl (fun _ => 0))), (q3, .inl (cy 1, 12, .inl (fun _ => 0)))] H := hP
  have hD : va_D A [((ad 0), .inr (4, [.ref q1, .ref q2, .null, .int 0, .int 0, .int 0])), (q1, .inl (cy 1, 8, .inl (fun _ => 0))), (q2, .inl (cy 1, 24, .inl (fun _ => 0))), (q3, .inl (cy 1, 12, .inl (fun _ => 0)))] := hD
  refine W.widen (k := 3) (n := 44) (by omega) (by omega) ?_
  refine va_putF (D := (dC, dI)) (ci := 4) (v := .ref q3) (ty := (.array .int)) (C := RX4) (T := TX4) (N := 6) hx hb hts lyX4 tyX4 tyX4_ok nmX4 hown hK hP hD hS 0 rfl rfl 2 (by decide) (hts _ (zGm (zm2 27 rfl) rfl)) (fun _ h9 => h9) rfl hin rfl (by decide +kernel) rfl rfl (Nat.le_of_ble_eq_true rfl) dX4_init_25 (fun H locs hP hD hS => ?_)
  have hP : va_P (dC, dI) vwCl [((ad 0), .inr (4, [.ref q1, .ref q2, .ref q3, .int 0, .int 0, .int 0])), (q1, .inl (cy 1, 8, .inl (fun _ => 0))), (q2, .inl (cy 1, 24, .inl (fun _ => 0))), (q3, .inl (cy 1, 12, .inl (fun _ => 0)))] H := hP
  have hD : va_D A [((ad 0), .inr (4, [.ref q1, .ref q2, .ref q3, .int 0, .int 0, .int 0])), (q1, .inl (cy 1, 8, .inl (fun _ => 0))), (q2, .inl (cy 1, 24, .inl (fun _ => 0))), (q3, .inl (cy 1, 12, .inl (fun _ => 0)))] := hD
  refine lv_aload_n hx hb dX4_init_28 rfl (lv_at hl 0 rfl) ?_
  have hP : va_P (dC, dI) vwCl (zw cy (fun k => if 900 ≤ k then ad k else ([(ad 0), q1, q2, q3] : List Nat).getD k 0) zz SR) H := by rw [zw_eq]; exact hP
  have hD : va_D A (zw cy (fun k => if 900 ≤ k then ad k else ([(ad 0), q1, q2, q3] : List Nat).getD k 0) zz SR) := by rw [zw_eq]; exact hD
  refine n_callw (lc := 0) (q := 0) (sh := SR) (X := zz) (P := RI) (fun k => if 900 ≤ k then ad k else ([(ad 0), q1, q2, q3] : List Nat).getD k 0) C dX4_init_29 iX4_reset vX4_reset (zGm (zm2 17 rfl) rfl) ⟨Nat.le_of_ble_eq_true rfl, Nat.le_of_ble_eq_true rfl⟩ (fun k hk => if_pos (Nat.le_trans (by decide) hk)) rfl rfl rfl (Nat.le_of_ble_eq_true rfl) hr4 (Nat.le_of_ble_eq_true rfl) (Nat.le_of_ble_eq_true rfl) hP hD hS hl.1 (fun X1 H locs hX1 hP hD hS => ?_)
  exact W.vret hx hb hr (fun t ht _ => ⟨⟨rfl, (fun k => if 900 ≤ k then ad k else ([(ad 0), q1, q2, q3] : List Nat).getD k 0), X1, hX1, rfl, fun k hk => if_pos hk, by rw [ht]; exact hP, hD⟩, hS.F ht⟩) hS.2.2 dX4_init_32
