/-! the first memories agree -/
abbrev LR4_reset_19 (P : zX → Prop) (M : zX) (x1 : Int32) : Prop := zJ SR 0 mX4_reset (zRw P) 19 [some (.ref 0), some (.int x1)] [] M
abbrev LR4_reset_40 (P : zX → Prop) (M : zX) (x1 : Int32) : Prop := zJ SR 0 mX4_reset (zRw P) 40 [some (.ref 0), some (.int x1)] [] M
abbrev LR4_reset_61 (P : zX → Prop) (M : zX) (x1 : Int32) : Prop := zJ SR 0 mX4_reset (zRw P) 61 [some (.ref 0), some (.int x1)] [] M
theorem eR4_reset (P : zX → Prop) (X : zX)  (h : LR4_reset_19 P (zs (zs (zs X 0 3 12) 0 4 20) 0 5 3) 0) : zPw SR 0 mX4_reset [.ref 0] X P := by
  refine zP_in [some (.ref 0), none] ⟨rfl, trivial⟩ (by decide) (Nat.le_of_ble_eq_true rfl) ?_
  refine j_aload_n dX4_reset_0 rfl ?_
  refine j_bipush (v := 12) dX4_reset_1 rfl ?_
  refine j_putf dX4_reset_3 fX4_24 pX4_3 rfl rfl ?_
  refine j_aload_n dX4_reset_6 rfl ?_
  refine j_bipush (v := 20) dX4_reset_7 rfl ?_
  refine j_putf dX4_reset_9 fX4_28 pX4_4 rfl rfl ?_
  refine j_aload_n dX4_reset_12 rfl ?_
  refine j_iconst (v := 3) dX4_reset_13 rfl ?_
  refine j_putf dX4_reset_14 fX4_31 pX4_5 rfl rfl ?_
  refine j_iconst (v := 0) dX4_reset_17 rfl ?_
  refine j_istore_n (L2 := [some (.ref 0), some (.int 0)]) dX4_reset_18 (by decide) (zno rfl) rfl ?_
  exact zJw h ⟨rfl, rfl, trivial⟩
theorem bR4_reset_19 (P : zX → Prop) (M : zX) (x1 : Int32) (h : ((8 ≤ x1) → (LR4_reset_40 P M 0)) ∧ ((¬ (8 ≤ x1)) → (∃ j2 : Nat, x1 = nI j2 ∧ j2 < 8 ∧ (LR4_reset_19 P (zs M 1 j2 0) (x1 + 1))))) : LR4_reset_19 P M x1 := by
  refine j_iload_n dX4_reset_19 rfl ?_
  refine j_bipush (v := 8) dX4_reset_20 rfl ?_
  refine j_ic_ge (tgt := 38) dX4_reset_22 (by decide) (fun hc1 => ?_) (fun hc1 => ?_)
  · have h := h.1 hc1
    refine j_iconst (v := 0) dX4_reset_38 rfl ?_
    refine j_istore_n (L2 := [some (.ref 0), some (.int 0)]) dX4_reset_39 (by decide) (zno rfl) rfl ?_
    exact zJw h ⟨rfl, rfl, trivial⟩
  · have h := h.2 hc1
    refine j_aload_n dX4_reset_25 rfl ?_
    refine j_getr dX4_reset_26 fX4_9 rfl rfl ?_
    refine j_iload_n dX4_reset_29 rfl ?_
    refine j_iconst (v := 0) dX4_reset_30 rfl ?_
    obtain ⟨j2, ej2, lj2, h⟩ := h
    refine j_iast dX4_reset_31 rfl (zin ej2 lj2 (by decide)) ?_
    rw [zcl ej2 lj2 (by decide)]
    refine j_iinc (v := (x1 + 1)) (L2 := [some (.ref 0), some (.int (x1 + 1))]) dX4_reset_32 rfl rfl (by decide) (zno rfl) rfl ?_
    refine j_goto (tgt := 19) dX4_reset_35 (by decide) ?_
    exact zJw h ⟨rfl, rfl, trivial⟩
theorem bR4_reset_40 (P : zX → Prop) (M : zX) (x1 : Int32) (h : ((24 ≤ x1) → (LR4_reset_61 P M 0)) ∧ ((¬ (24 ≤ x1)) → (∃ j4 : Nat, x1 = nI j4 ∧ j4 < 24 ∧ (LR4_reset_40 P (zs M 2 j4 0) (x1 + 1))))) : LR4_reset_40 P M x1 := by
  refine j_iload_n dX4_reset_40 rfl ?_
  refine j_bipush (v := 24) dX4_reset_41 rfl ?_
  refine j_ic_ge (tgt := 59) dX4_reset_43 (by decide) (fun hc3 => ?_) (fun hc3 => ?_)
  · have h := h.1 hc3
    refine j_iconst (v := 0) dX4_reset_59 rfl ?_
    refine j_istore_n (L2 := [some (.ref 0), some (.int 0)]) dX4_reset_60 (by decide) (zno rfl) rfl ?_
    exact zJw h ⟨rfl, rfl, trivial⟩
  · have h := h.2 hc3
    refine j_aload_n dX4_reset_46 rfl ?_
    refine j_getr dX4_reset_47 fX4_15 rfl rfl ?_
    refine j_iload_n dX4_reset_50 rfl ?_
    refine j_iconst (v := 0) dX4_reset_51 rfl ?_
    obtain ⟨j4, ej4, lj4, h⟩ := h
    refine j_iast dX4_reset_52 rfl (zin ej4 lj4 (by decide)) ?_
    rw [zcl ej4 lj4 (by decide)]
    refine j_iinc (v := (x1 + 1)) (L2 := [some (.ref 0), some (.int (x1 + 1))]) dX4_reset_53 rfl rfl (by decide) (zno rfl) rfl ?_
    refine j_goto (tgt := 40) dX4_reset_56 (by decide) ?_
    exact zJw h ⟨rfl, rfl, trivial⟩
theorem bR4_reset_61 (P : zX → Prop) (M : zX) (x1 : Int32) (h : ((12 ≤ x1) → (P M)) ∧ ((¬ (12 ≤ x1)) → (∃ j6 : Nat, x1 = nI j6 ∧ j6 < 12 ∧ (LR4_reset_61 P (zs M 3 j6 (-4)) (x1 + 1))))) : LR4_reset_61 P M x1 := by
  refine j_iload_n dX4_reset_61 rfl ?_
  refine j_bipush (v := 12) dX4_reset_62 rfl ?_
  refine j_ic_ge (tgt := 81) dX4_reset_64 (by decide) (fun hc5 => ?_) (fun hc5 => ?_)
  · have h := h.1 hc5
    refine j_vret dX4_reset_81 rfl ?_
    exact ⟨rfl, h⟩
  · have h := h.2 hc5
    refine j_aload_n dX4_reset_67 rfl ?_
    refine j_getr dX4_reset_68 fX4_18 rfl rfl ?_
    refine j_iload_n dX4_reset_71 rfl ?_
    refine j_bipush (v := (-4)) dX4_reset_72 rfl ?_
    obtain ⟨j6, ej6, lj6, h⟩ := h
    refine j_iast dX4_reset_74 rfl (zin ej6 lj6 (by decide)) ?_
    rw [zcl ej6 lj6 (by decide)]
    refine j_iinc (v := (x1 + 1)) (L2 := [some (.ref 0), some (.int (x1 + 1))]) dX4_reset_75 rfl rfl (by decide) (zno rfl) rfl ?_
    refine j_goto (tgt := 61) dX4_reset_78 (by decide) ?_
    exact zJw h ⟨rfl, rfl, trivial⟩
section IN
variable {X Y : zX}
theorem r_reset : zPw SR 0 mX4_reset [.ref 0] zz RI := by
  refine eR4_reset RI zz ?_
  have l3 : ∀ d i, i + d = 12 → ∀ M : zX, M 0 3 = 12 → M 0 4 = 20 → M 0 5 = 3 → (∀ k, k < 8 → M 1 k = 0) → (∀ v, v < 24 → M 2 v = 0) → (∀ p, p < i → M 3 p = -4) → LR4_reset_61 RI M (nI i) := by
    intro d
    induction d with
    | zero =>
      intro i hi M a1 a2 a3 a4 a5 a6
      obtain rfl : i = 12 := by omega
      exact bR4_reset_61 RI M _ ⟨fun _ => ⟨a1, a2, a3, a4, a5, a6⟩, fun e => absurd (by decide) e⟩
    | succ d ih =>
      intro i hi M a1 a2 a3 a4 a5 a6
      refine bR4_reset_61 RI M _ ⟨fun e => absurd ((nI_leI (a := 12) (by omega) (by omega)).mp e) (by omega), fun _ => ⟨i, rfl, by omega, ?_⟩⟩
      rw [nI_1]
      refine ih (i + 1) (by omega) _ a1 a2 a3 a4 a5 (fun p hp => ?_)
      show upd (M 3) i (-4) p = -4
      by_cases q : p = i
      · rw [q, pk_us]
      · rw [pk_un q]; exact a6 p (by omega)
  have l2 : ∀ d i, i + d = 24 → ∀ M : zX, M 0 3 = 12 → M 0 4 = 20 → M 0 5 = 3 → (∀ k, k < 8 → M 1 k = 0) → (∀ v, v < i → M 2 v = 0) → LR4_reset_40 RI M (nI i) := by
    intro d
    induction d with
    | zero =>
      intro i hi M a1 a2 a3 a4 a5
      obtain rfl : i = 24 := by omega
      exact bR4_reset_40 RI M _ ⟨fun _ => l3 12 0 rfl M a1 a2 a3 a4 a5 (fun p hp => absurd hp (by omega)), fun e => absurd (by decide) e⟩
    | succ d ih =>
      intro i hi M a1 a2 a3 a4 a5
      refine bR4_reset_40 RI M _ ⟨fun e => absurd ((nI_leI (a := 24) (by omega) (by omega)).mp e) (by omega), fun _ => ⟨i, rfl, by omega, ?_⟩⟩
      rw [nI_1]
      refine ih (i + 1) (by omega) _ a1 a2 a3 a4 (fun p hp => ?_)
      show upd (M 2) i 0 p = 0
      by_cases q : p = i
      · rw [q, pk_us]
      · rw [pk_un q]; exact a5 p (by omega)
  have l1 : ∀ d i, i + d = 8 → ∀ M : zX, M 0 3 = 12 → M 0 4 = 20 → M 0 5 = 3 → (∀ k, k < i → M 1 k = 0) → LR4_reset_19 RI M (nI i) := by
    intro d
    induction d with
    | zero =>
      intro i hi M a1 a2 a3 a4
      obtain rfl : i = 8 := by omega
      exact bR4_reset_19 RI M _ ⟨fun _ => l2 24 0 rfl M a1 a2 a3 a4 (fun p hp => absurd hp (by omega)), fun e => absurd (by decide) e⟩
    | succ d ih =>
      intro i hi M a1 a2 a3 a4
      refine bR4_reset_19 RI M _ ⟨fun e => absurd ((nI_leI (a := 8) (by omega) (by omega)).mp e) (by omega), fun _ => ⟨i, rfl, by omega, ?_⟩⟩
      rw [nI_1]
      refine ih (i + 1) (by omega) _ a1 a2 a3 (fun p hp => ?_)
      show upd (M 1) i 0 p = 0
      by_cases q : p = i
      · rw [q, pk_us]
      · rw [pk_un q]; exact a4 p (by omega)
  exact l1 8 0 rfl _ rfl rfl rfl (fun p hp => absurd hp (by omega))
theorem n_X9z : zNc mX9_init 2 61 1027 [.ref 0] [.inr (9, [some none, some none, some none, some none, some none, some none, some none, some none, some none, some none, some none, none, none])] SX WI0 := n_X9 (n_X4 r_reset)
def MI (N : zX) : Prop := KW XM N (D00 zz)
def M1 (M : zX) : Prop := KZ XM M ∧ (∀ k, 34 ≤ k → M 0 k = XM 0 k) ∧ M 0 25 = 12 ∧ M 0 26 = 20 ∧ M 0 27 = 3 ∧ (∀ k, k < 8 → M 18 k = 0) ∧ (∀ v, v < 24 → M 20 v = 0) ∧ (∀ p, p < 12 → M 19 p = -4) ∧ ∀ k, k < 6 → M 21 k = 0
theorem zs_same {q k : Nat} {v : Int32} (h : X q k = v) : zs X q k v = X := by
  funext a b
  rw [zs_at]
  by_cases c : a = q ∧ b = k
  · rw [if_pos c, c.1, c.2, h]
  · rw [if_neg c]
theorem n_X10z : zNc mX10_init 1 27 1182 [.ref 0] [.inr (10, [none, some none, some none, none, some none, some none, some none, some none, some none, some none, none, some none, some none, some none, some none, some none, some none, none, none, none, none, none, some none, some none, some none, none, none, none, some none, some none, some none, some none, some none, none, none, none, none, none, none, none, some none, some none, some none, some none, some none, none])] SY MI := by
  refine n_X10 (P1 := M1) (P2 := MI) (y_first (Y := XM) ⟨fun _ _ _ => rfl, fun _ _ => rfl⟩ (fun M a b c d e f g h i => ⟨a, b, c, d, e, f, g, h, i⟩)) (fun M q => ?_)
  obtain ⟨kz, k34, a1, a2, a3, a4, a5, a6, a7⟩ := q
  have e33 : M 0 33 = 0 := kz.2 33 (by omega)
  have e38 : M 0 38 = 0 := k34 38 (by omega)
  have := y_keep (P := MI) (D := D00 zz) kz ⟨a1, a2, a3, fun j hj => (a4 j hj).trans (if_pos hj).symm, fun j hj => (a5 j hj).trans (if_pos hj).symm, fun j hj => (a6 j hj).trans (if_pos hj).symm, fun j h1 h3 => by rw [a7 j (by omega)]; show 0 = b2i (bt 0 j); rw [b_0]; rfl⟩ e38 (fun N2 w => w)
  rw [zs_same e33] at this
  exact this
theorem rel0 (hx : WI0 X) (hy : MI Y) : Rel X Y := by
  obtain ⟨XA, XB, ra, rb, rfl⟩ := hx
  obtain ⟨r1, r2, r3, r4, r5, r6⟩ := ra
  obtain ⟨w1, w2, w33, w38, w19, w20, w21, w15, w17, w16⟩ := hy
  have y0 : ∀ k, k < 19 → Y 0 k = 0 := fun k hk => w2 k (by omega)
  have ya : ∀ a, a ≠ 0 → a ≠ 25 → a < 15 ∨ 21 < a → Y a = fun _ => 0 := fun a h0 h25 h => (w1 a h0 h).trans (by unfold XM; rw [zs_ne h25, zs_ne h25, zs_ne h25, zs_ne h25]; rfl)
  have p0 : nP Y = 0 := by unfold nP; rw [y0 0 (by decide)]; rfl
  have v0 : nV Y = 0 := by unfold nV; rw [y0 3 (by decide)]; rfl
  have n0 : nN Y = 0 := by unfold nN; rw [y0 10 (by decide)]; rfl
  have y25 : ∀ k, k < 4 → Y 25 k = -4 := fun k hk => by
    rw [w1 25 (by decide) (by omega)]
    obtain rfl | rfl | rfl | rfl : k = 0 ∨ k = 1 ∨ k = 2 ∨ k = 3 := by omega
    all_goals rfl
  have L0 : n32 (Y 0 33) = 0 := by rw [w33]; rfl
  refine ⟨⟨by rw [p0]; exact y0 0 (by decide), by omega, by rw [v0]; exact y0 3 (by decide), by omega, by rw [n0]; exact y0 10 (by decide), by omega, fun i hi => by omega, fun i hi => by omega, fun i hi => by omega, fun i hi => by omega, fun i hi => by omega, fun i hi => by omega, fun i hi => by omega, fun i hi => by omega, fun i hi => by omega, fun i hi => by omega, fun i hi => by omega, fun i hi => by omega, fun i hi => by omega, fun i k hi => by omega, fun w _ => by rw [ya 13 (by decide) (by decide) (by omega)], fun i hi => by omega, by rw [y0 17 (by decide)]; exact isN_nI (k := 0) (by decide) (by decide), by rw [y0 18 (by decide)]; exact isN_nI (k := 0) (by decide) (by decide), by rw [w19]; exact isN_nI (k := 12) (by decide) (by decide), by rw [w20]; exact isN_nI (k := 20) (by decide) (by decide), by rw [w21]; exact isN_nI (k := 3) (by decide) (by decide), fun p hp => Or.inl ((w16 p hp).trans (if_pos hp)), by rw [w33]; exact isN_nI (k := 0) (by decide) (by decide), fun i hi => by omega, fun k hk => Or.inl (y25 k hk), fun k hk => by rw [ya 26 (by decide) (by decide) (by omega)]; exact isN_nI (k := 0) (by decide) (by decide)⟩, ?_⟩
  have ct : ∀ p : Nat → Bool, fb_ct p 0 = 0 := fun p => rfl
  refine ⟨(y0 0 (by decide)).symm, (y0 17 (by decide)).symm, (y0 18 (by decide)).symm, (ya 1 (by decide) (by decide) (by omega)).symm, (ya 2 (by decide) (by decide) (by omega)).symm, (y0 3 (by decide)).symm, (ya 3 (by decide) (by decide) (by omega)).symm, (ya 4 (by decide) (by decide) (by omega)).symm, (ya 5 (by decide) (by decide) (by omega)).symm, (ya 6 (by decide) (by decide) (by omega)).symm, (ya 7 (by decide) (by decide) (by omega)).symm, (ya 8 (by decide) (by decide) (by omega)).symm, fun v hv => by omega, fun s hs => by rw [v0]; rfl, fun s hs => by rw [v0]; rfl, fun p hp => by rw [v0]; rfl, (y0 10 (by decide)).symm, (ya 9 (by decide) (by decide) (by omega)).symm, fun w hw => by omega, (ya 12 (by decide) (by decide) (by omega)).symm, (ya 13 (by decide) (by decide) (by omega)).symm, fun w hw => by omega, w33.symm, fun i hi => by omega, ?_, ?_, ?_, ?_, ?_, ?_, w38.symm, (w2 45 (by omega)).symm, fun k hk _ => ?_, fun k hk q => absurd (y25 k hk) q⟩
  · rw [w19]; exact r1
  · rw [w20]; exact r2
  · rw [w21]; exact r3
  · exact fun k hk => (r4 k hk).trans ((w15 k hk).trans (if_pos hk)).symm
  · exact fun k hk => (r5 k hk).trans ((w17 k hk).trans (if_pos hk)).symm
  · exact fun k hk => (r6 k hk).trans ((w16 k hk).trans (if_pos hk)).symm
  · obtain rfl | rfl | rfl | rfl : k = 0 ∨ k = 1 ∨ k = 2 ∨ k = 3 := by omega
    all_goals rfl
end IN
