/-! the class: a token -/
section XT
variable {X Y M N D : zX}
def HX (Y M : zX) : Prop := M 25 1 = nI (LY Y) ∧ ∀ i, i < LY Y → M 26 i = (nI (bY Y i)).toInt8.toInt32
theorem HX.of (h : IY Y) (hr : RX X Y) (e25 : M 25 = X 25) (e26 : M 26 = X 26) : HX Y M := ⟨by rw [e25, hr.tl]; exact h.taped.1, fun i hi => by rw [e26, hr.tb i hi]; rw [← (bY_ok h hi).1]⟩
theorem xl_lt (h : IY Y) (hx : HX Y M) {i : Nat} (hi : i < LY Y) : zPf SX 0 mX7_isLetter [.ref 25, .int (nI i)] M (b2i (isLt Y i)) := by
  have hL := LY_le h
  have tb := (by_tab _ (bY_ok h hi).2).2.2.1
  have e := hx.2 i hi
  have f : isLt Y i = decide (97 ≤ bY Y i ∧ bY Y i ≤ 122) := by unfold isLt; rw [Bool.decide_and]
  rw [f]
  refine eX7_isLetter _ M _ ⟨i, rfl, by omega, fun q => ?_, fun q => ⟨i, rfl, by omega, fun q2 => ?_, fun q2 => ?_⟩⟩
  · rw [e] at q; rw [decide_eq_false (tb.mp (Or.inl q))]; rfl
  · rw [e] at q2; rw [decide_eq_false (tb.mp (Or.inr q2))]; rfl
  · rw [e] at q q2
    have : 97 ≤ bY Y i ∧ bY Y i ≤ 122 := Classical.byContradiction fun c => (tb.mpr c).elim q q2
    rw [decide_eq_true this]; rfl
theorem xl_fg (h : IY Y) (hx : HX Y M) {i : Nat} (hi : i < LY Y) : zPf SX 0 mX7_isFigure [.ref 25, .int (nI i)] M (b2i (isFg Y i)) := by
  have hL := LY_le h
  have tb := (by_tab _ (bY_ok h hi).2).2.2.2.1
  have e := hx.2 i hi
  have f : isFg Y i = decide (48 ≤ bY Y i ∧ bY Y i ≤ 57) := by unfold isFg; rw [Bool.decide_and]
  rw [f]
  refine eX7_isFigure _ M _ ⟨i, rfl, by omega, fun q => ?_, fun q => ⟨i, rfl, by omega, fun q2 => ?_, fun q2 => ?_⟩⟩
  · rw [e] at q; rw [decide_eq_false (tb.mp (Or.inl q))]; rfl
  · rw [e] at q2; rw [decide_eq_false (tb.mp (Or.inr q2))]; rfl
  · rw [e] at q q2
    have : 48 ≤ bY Y i ∧ bY Y i ≤ 57 := Classical.byContradiction fun c => (tb.mpr c).elim q q2
    rw [decide_eq_true this]; rfl
/-- only the token's fields of cell 27 differ -/
def KR (M M2 : zX) : Prop := (∀ a, a ≠ 27 → M2 a = M a) ∧ ∀ k, 5 ≤ k → k ≤ 9 → M2 27 k = M 27 k
theorem KR.rfl (M : zX) : KR M M := ⟨fun _ _ => Eq.refl _, fun _ _ _ => Eq.refl _⟩
theorem KR.zs {M2 : zX} (o : KR M M2) {k : Nat} {v : Int32} (hk : k < 5 ∨ 9 < k) : KR M (zs M2 27 k v) := ⟨fun a ha => by rw [zs_ne ha]; exact o.1 a ha, fun j hj hj2 => by rw [zs_nk (by omega)]; exact o.2 j hj hj2⟩
theorem KR.hx {M2 : zX} (o : KR M M2) (hx : HX Y M) : HX Y M2 := ⟨by rw [o.1 25 (by decide)]; exact hx.1, by rw [o.1 26 (by decide)]; exact hx.2⟩
theorem HX.zs {k : Nat} {v : Int32} (hx : HX Y M) : HX Y (zs M 27 k v) := hx
def TX (Y : zX) (s : Nat) (M : zX) (r : Int32) (M2 : zX) : Prop := KR M M2 ∧ M2 27 2 = nI s ∧ ((kK Y s ≠ 9 ∧ r = 1 ∧ M2 27 10 = M 27 10 ∧ M2 27 1 = nI (kK Y s) ∧ M2 27 4 = nI (kE Y s) ∧ (kK Y s = 1 ∨ kK Y s = 2 → M2 27 3 = nI (kV Y s))) ∨ (kK Y s = 9 ∧ r = 0 ∧ M2 27 10 = 1 ∧ M2 27 11 = nI s))
theorem TX.nar {s : Nat} {r : Int32} {M2 : zX} (t : TX Y s M r M2) : narrow .boolean (.int r) = .int r := by
  rcases t.2.2 with ⟨-, rfl, -⟩ | ⟨-, rfl, -⟩ <;> rfl
theorem xt_name (h : IY Y) (hx : HX Y M) {s : Nat} (hs : s < LY Y) (hl : isLt Y s = true) {M1 : zX} (o : KR M M1) (e2 : M1 27 2 = nI s) (e4 : M1 27 4 = nI s) (e10 : M1 27 10 = M 27 10) : zPi SX 7 mX3_name [.ref 27] M1 (TX Y s M) := by
  have hL := LY_le h
  have kK1 : kK Y s = if mnV Y s (eLt Y s) = 9 then 9 else 1 := by unfold kK; rw [if_neg (by omega), if_pos hl]
  have kE1 : kE Y s = eLt Y s := by unfold kE; rw [if_neg (by omega), if_pos hl]
  have kV1 : kV Y s = mnV Y s (eLt Y s) := by unfold kV; rw [if_pos hl]
  have stop : ∀ q, s ≤ q → q ≤ LY Y → q = eLt Y s → ∀ M2 : zX, KR M M2 → M2 27 2 = nI s → M2 27 4 = nI q → M2 27 10 = M 27 10 → (∃ r15 : Int32, zPf SX 6 mX3_meaning [.ref 27] (zs M2 27 1 1) r15 ∧ (((¬ r15 = (-4)) → (TX Y s M 1 (zs (zs M2 27 1 1) 27 3 r15))) ∧ ((r15 = (-4)) → (∃ Qr17 : Int32 → zX → Prop, zPi SX 0 mX3_refuse [.ref 27, .int 1, .int (M2 27 2)] (zs (zs M2 27 1 1) 27 3 r15) Qr17 ∧ ∀ (r17 : Int32) (M18 : zX), Qr17 r17 M18 → (((r17 = 0) → (TX Y s M 0 M18)) ∧ ((¬ (r17 = 0)) → (TX Y s M 1 M18))))))) := fun q q1 q2 q3 M2 o2 f2 f4 f10 => by
    have o3 := (o2.zs (k := 1) (v := 1) (by omega)).zs (k := 3) (v := if mnV Y s q = 9 then -4 else nI (mnV Y s q)) (by omega)
    refine ⟨_, cX_meaning h (HX.zs (o2.hx hx)) f2 f4 q1 q2, fun e => ?_, fun e => ⟨fun r M3 => r = 0 ∧ TX Y s M 0 M3, eX3_refuse _ _ _ _ ⟨rfl, ?_⟩, fun r M3 z => ⟨fun _ => z.2, fun c => absurd z.1 c⟩⟩⟩
    · have e9 : ¬ mnV Y s q = 9 := fun c => e (if_pos c)
      have k1 : kK Y s = 1 := by rw [kK1, ← q3, if_neg e9]
      refine ⟨o3, f2, Or.inl ⟨by omega, rfl, f10, by rw [k1]; rfl, ?_, fun _ => ?_⟩⟩
      · rw [kE1, ← q3]; exact f4
      · rw [kV1, ← q3]; show (if mnV Y s q = 9 then -4 else nI (mnV Y s q)) = _; rw [if_neg e9]
    · have e9 : mnV Y s q = 9 := by
        by_cases c : mnV Y s q = 9
        · exact c
        · rw [if_neg c] at e
          exact absurd e (neg4_ne _ (Nat.lt_of_le_of_lt (mnV_le Y s q) (by decide)))
      exact ⟨(o3.zs (k := 10) (by omega)).zs (k := 11) (by omega), f2, Or.inr ⟨by rw [kK1, ← q3, if_pos e9], rfl, rfl, f2⟩⟩
  have key : ∀ d q, q + d = LY Y → s ≤ q → runF (isLt Y) (LY Y - q) q = eLt Y s → ∀ M2 : zX, KR M M2 → M2 27 2 = nI s → M2 27 4 = nI q → M2 27 10 = M 27 10 → LX3_name_0 (TX Y s M) M2 := by
    intro d
    induction d with
    | zero =>
      intro q hq hsq hr M2 o2 f2 f4 f10
      rw [runF_end (by omega)] at hr
      exact bX3_name_0 _ M2 ⟨fun _ => stop q hsq (by omega) hr M2 o2 f2 f4 f10, fun e => absurd (by rw [f4, (o2.hx hx).1]; exact (nI_leI (by omega) (by omega)).mpr (by omega)) e⟩
    | succ d ih =>
      intro q hq hsq hr M2 o2 f2 f4 f10
      have hq2 : q < LY Y := by omega
      refine bX3_name_0 _ M2 ⟨fun e => absurd e (by rw [f4, (o2.hx hx).1, nI_leI (by omega) (by omega)]; omega), fun _ => ⟨_, by rw [f4]; exact xl_lt h (o2.hx hx) hq2, fun e => ?_, fun e => ?_⟩⟩
      · have e := b2i_0.mp e
        rw [runF_st hq2 e] at hr
        exact stop q hsq (by omega) hr M2 o2 f2 f4 f10
      · have e := b2i_n.mp e
        rw [runF_go hq2 e] at hr
        exact ih (q + 1) (by omega) (by omega) hr _ (o2.zs (k := 4) (by omega)) f2 (by show M2 27 4 + 1 = _; rw [f4, nI_1]) f10
  refine eX3_name _ M1 ⟨fun e => absurd e (by rw [e4, (o.hx hx).1, nI_leI (by omega) (by omega)]; omega), fun _ => ⟨_, by rw [e4]; exact xl_lt h (o.hx hx) hs, fun e => absurd (b2i_0.mp e) (by rw [hl]; decide), fun _ => ?_⟩⟩
  exact key (LY Y - (s + 1)) (s + 1) (by omega) (by omega) (by rw [← runF_go hs hl]; rfl) _ (o.zs (k := 4) (by omega)) e2 (by show M1 27 4 + 1 = _; rw [e4, nI_1]) e10
theorem xt_fig (h : IY Y) (hx : HX Y M) {s : Nat} (hs : s < LY Y) (hl : isLt Y s = false) (hf : isFg Y s = true) {M1 : zX} (o : KR M M1) (e2 : M1 27 2 = nI s) (e4 : M1 27 4 = nI s) (e10 : M1 27 10 = M 27 10) : zPi SX 1 mX3_figures [.ref 27] M1 (TX Y s M) := by
  have hL := LY_le h
  have kK1 : kK Y s = if eFg Y s ≤ s + 2 then 2 else 9 := by unfold kK; rw [if_neg (by omega), if_neg (by rw [hl]; decide), if_pos hf]
  have kE1 : kE Y s = eFg Y s := by unfold kE; rw [if_neg (by omega), if_neg (by rw [hl]; decide), if_pos hf]
  have kV1 : kV Y s = nvF Y s (eFg Y s - s) := by unfold kV; rw [if_neg (by rw [hl]; decide)]
  have sub : ∀ {M2 : zX} {q : Nat}, M2 27 2 = nI s → M2 27 4 = nI q → s ≤ q → q ≤ LY Y → M2 27 4 - M2 27 2 = nI (q - s) := fun f35 f34 h1 h2 => by
    rw [f35, f34]
    apply Int32.toInt_inj.mp
    rw [pk_sub_toInt (by omega) (by omega), nI_toInt (by omega)]; omega
  have stop : ∀ q, s ≤ q → q ≤ LY Y → q = eFg Y s → ∀ M2 : zX, KR M M2 → M2 27 2 = nI s → M2 27 4 = nI q → M2 27 1 = 2 → (q ≤ s + 2 → M2 27 3 = nI (nvF Y s (q - s))) → M2 27 10 = M 27 10 → (((((M2 27 4) - (M2 27 2)) ≤ 2) → (TX Y s M 1 M2)) ∧ ((¬ (((M2 27 4) - (M2 27 2)) ≤ 2)) → (∃ Qr3 : Int32 → zX → Prop, zPi SX 0 mX3_refuse [.ref 27, .int 1, .int (M2 27 2)] M2 Qr3 ∧ ∀ (r3 : Int32) (M4 : zX), Qr3 r3 M4 → (((r3 = 0) → (TX Y s M 0 M4)) ∧ ((¬ (r3 = 0)) → (TX Y s M 1 M4)))))) := fun q q1 q2 q3 M2 o2 f2 f4 f1 f3 f10 => by
    have le2 : M2 27 4 - M2 27 2 ≤ 2 ↔ q - s ≤ 2 := by rw [sub f2 f4 q1 q2]; exact nI_leI (b := 2) (by omega) (by omega)
    rw [le2]
    refine ⟨fun e => ?_, fun e => ⟨fun r M3 => r = 0 ∧ TX Y s M 0 M3, eX3_refuse _ _ _ _ ⟨rfl, ?_⟩, fun r M3 z => ⟨fun _ => z.2, fun c => absurd z.1 c⟩⟩⟩
    · have k2 : kK Y s = 2 := by rw [kK1, ← q3, if_pos (by omega)]
      exact ⟨o2, f2, Or.inl ⟨by omega, rfl, f10, by rw [k2]; exact f1, by rw [kE1, ← q3]; exact f4, fun _ => by rw [kV1, ← q3]; exact f3 (by omega)⟩⟩
    · exact ⟨(o2.zs (k := 10) (by omega)).zs (k := 11) (by omega), f2, Or.inr ⟨by rw [kK1, ← q3, if_neg (by omega)], rfl, rfl, f2⟩⟩
  have key : ∀ d q, q + d = LY Y → s ≤ q → runF (isFg Y) (LY Y - q) q = eFg Y s → ∀ M2 : zX, KR M M2 → M2 27 2 = nI s → M2 27 4 = nI q → M2 27 1 = 2 → (q ≤ s + 2 → M2 27 3 = nI (nvF Y s (q - s))) → M2 27 10 = M 27 10 → LX3_figures_10 (TX Y s M) M2 := by
    intro d
    induction d with
    | zero =>
      intro q hq hsq hr M2 o2 f2 f4 f1 f3 f10
      rw [runF_end (by omega)] at hr
      exact bX3_figures_10 _ M2 ⟨fun _ => stop q hsq (by omega) hr M2 o2 f2 f4 f1 f3 f10, fun e => absurd (by rw [f4, (o2.hx hx).1]; exact (nI_leI (by omega) (by omega)).mpr (by omega)) e⟩
    | succ d ih =>
      intro q hq hsq hr M2 o2 f2 f4 f1 f3 f10
      have hq2 : q < LY Y := by omega
      refine bX3_figures_10 _ M2 ⟨fun e => absurd e (by rw [f4, (o2.hx hx).1, nI_leI (by omega) (by omega)]; omega), fun _ => ⟨_, by rw [f4]; exact xl_fg h (o2.hx hx) hq2, fun e => ?_, fun e => ⟨q, f4, by omega, ?_⟩⟩⟩
      · have e := b2i_0.mp e
        rw [runF_st hq2 e] at hr
        exact stop q hsq (by omega) hr M2 o2 f2 f4 f1 f3 f10
      · have e := b2i_n.mp e
        rw [runF_go hq2 e] at hr
        refine ih (q + 1) (by omega) (by omega) hr _ ((o2.zs (k := 3) (by omega)).zs (k := 4) (by omega)) f2 (by show M2 27 4 + 1 = _; rw [f4, nI_1]) f1 (fun c => ?_) f10
        show M2 27 3 * 10 + (M2 26 q - 48) = _
        have hb := (bY_ok h hq2).2
        have hv := nvF_lt h (s := s) (q - s) (by omega) (by omega)
        unfold isFg at e
        simp only [Bool.and_eq_true, decide_eq_true_eq] at e
        rw [f3 (by omega), (o2.hx hx).2 q hq2, (by_tab _ hb).2.2.2.2 (by omega), show (10 : Int32) = nI 10 from rfl, pk_mul]
        have e48 : nI (bY Y q) - 48 = nI (bY Y q - 48) := by
          apply Int32.toInt_inj.mp
          rw [show (48 : Int32) = nI 48 from rfl, pk_sub_toInt (by omega) (by omega), nI_toInt (by omega)]; omega
        rw [e48, nI_add, show q + 1 - s = (q - s) + 1 by omega]
        show _ = nI (nvF Y s (q - s) * 10 + (bY Y (s + (q - s)) - 48))
        rw [show s + (q - s) = q by omega]
  exact eX3_figures _ M1 (key (LY Y - s) s (by omega) (Nat.le_refl _) rfl _ ((o.zs (k := 1) (by omega)).zs (k := 3) (by omega)) e2 e4 rfl (fun _ => by rw [Nat.sub_self]; rfl) e10)
def tkV (P : Int32 → zX → Prop) (M : zX) : Prop := (((M 27 4) < (M 25 1)) → (∃ r32 : Int32, zPf SX 0 mX7_isLetter [.ref 25, .int (M 27 4)] (zs M 27 2 (M 27 4)) r32 ∧ (((r32 = 0) → (∃ r34 : Int32, zPf SX 0 mX7_isFigure [.ref 25, .int (M 27 4)] (zs M 27 2 (M 27 4)) r34 ∧ (((r34 = 0) → (∃ j36 : Nat, (M 27 4) = nI j36 ∧ j36 < 200 ∧ ((((M 26 j36) = 59) → (P 1 (zs (zs (zs M 27 2 (M 27 4)) 27 4 ((M 27 4) + 1)) 27 1 3))) ∧ ((¬ ((M 26 j36) = 59)) → (∃ Qr38 : Int32 → zX → Prop, zPi SX 0 mX3_refuse [.ref 27, .int 1, .int (M 27 4)] (zs M 27 2 (M 27 4)) Qr38 ∧ ∀ (r38 : Int32) (M39 : zX), Qr38 r38 M39 → (narrow .boolean (.int r38) = .int r38 ∧ P r38 M39)))))) ∧ ((¬ (r34 = 0)) → (∃ Qr40 : Int32 → zX → Prop, zPi SX 1 mX3_figures [.ref 27] (zs M 27 2 (M 27 4)) Qr40 ∧ ∀ (r40 : Int32) (M41 : zX), Qr40 r40 M41 → (narrow .boolean (.int r40) = .int r40 ∧ P r40 M41)))))) ∧ ((¬ (r32 = 0)) → (∃ Qr42 : Int32 → zX → Prop, zPi SX 7 mX3_name [.ref 27] (zs M 27 2 (M 27 4)) Qr42 ∧ ∀ (r42 : Int32) (M43 : zX), Qr42 r42 M43 → (narrow .boolean (.int r42) = .int r42 ∧ P r42 M43)))))) ∧ ((¬ ((M 27 4) < (M 25 1))) → (P 1 (zs (zs M 27 2 (M 27 4)) 27 1 0)))
theorem cX_token (h : IY Y) (hx : HX Y M) {p : Nat} (hp : p ≤ LY Y) (e4 : M 27 4 = nI p) : zPi SX 8 mX3_token [.ref 27] M (TX Y (tS Y p) M) := by
  have hL := LY_le h
  obtain ⟨t1, t2⟩ := tS_le Y hp
  generalize es : tS Y p = s at *
  have main : ∀ M2 : zX, KR M M2 → M2 27 4 = nI s → M2 27 10 = M 27 10 → tkV (TX Y s M) M2 := fun M2 o2 f4 f10 => by
    have hx2 := o2.hx hx
    have o3 := fun v => o2.zs (k := 2) (v := v) (by omega)
    refine ⟨fun q => ?_, fun q => ?_⟩
    · rw [f4, hx2.1, nI_ltI (by omega) (by omega)] at q
      have hb := (bY_ok h q).2
      have tb := (by_tab _ hb).2.1
      refine ⟨_, by rw [f4]; exact xl_lt h (HX.zs hx2) q, fun e1 => ⟨_, by rw [f4]; exact xl_fg h (HX.zs hx2) q, fun e2 => ⟨s, f4, by omega, fun e3 => ?_, fun e3 => ⟨TX Y s M, eX3_refuse _ _ _ _ ?_, fun r M3 z => ⟨z.nar, z⟩⟩⟩, fun e2 => ⟨TX Y s M, xt_fig h hx q (b2i_0.mp e1) (b2i_n.mp e2) (o3 _) f4 f4 f10, fun r M3 z => ⟨z.nar, z⟩⟩⟩, fun e1 => ⟨TX Y s M, xt_name h hx q (b2i_n.mp e1) (o3 _) f4 f4 f10, fun r M3 z => ⟨z.nar, z⟩⟩⟩
      · rw [hx2.2 s q, tb] at e3
        have k3 : kK Y s = 3 := by unfold kK; rw [if_neg (by omega), if_neg (by rw [b2i_0.mp e1]; decide), if_neg (by rw [b2i_0.mp e2]; decide), if_pos e3]
        have ke : kE Y s = s + 1 := by unfold kE; rw [if_neg (by omega), if_neg (by rw [b2i_0.mp e1]; decide), if_neg (by rw [b2i_0.mp e2]; decide)]
        exact ⟨((o3 _).zs (k := 4) (by omega)).zs (k := 1) (by omega), f4, Or.inl ⟨by omega, rfl, f10, by rw [k3]; rfl, by rw [ke, ← nI_1, ← f4]; rfl, fun c => by omega⟩⟩
      · rw [hx2.2 s q, tb] at e3
        refine ⟨((o3 _).zs (k := 10) (by omega)).zs (k := 11) (by omega), f4, Or.inr ⟨?_, rfl, rfl, f4⟩⟩
        unfold kK; rw [if_neg (by omega), if_neg (by rw [b2i_0.mp e1]; decide), if_neg (by rw [b2i_0.mp e2]; decide), if_neg e3]
    · rw [f4, hx2.1, nI_ltI (by omega) (by omega)] at q
      have k0 : kK Y s = 0 := by unfold kK; rw [if_pos (by omega)]
      have ke : kE Y s = s := by unfold kE; rw [if_pos (by omega)]
      exact ⟨(o3 _).zs (k := 1) (by omega), f4, Or.inl ⟨by omega, rfl, f10, by rw [k0]; rfl, by rw [ke]; exact f4, fun c => by omega⟩⟩
  have sp : ∀ d q, q + d = LY Y → runF (isSp Y) (LY Y - q) q = s → ∀ M2 : zX, KR M M2 → M2 27 4 = nI q → M2 27 10 = M 27 10 → LX3_token_0 (TX Y s M) M2 := by
    intro d
    induction d with
    | zero =>
      intro q hq hr M2 o2 f4 f10
      rw [runF_end (by omega)] at hr
      subst hr
      exact bX3_token_0 _ M2 ⟨fun _ => main M2 o2 f4 f10, fun e => absurd (by rw [f4, (o2.hx hx).1]; exact (nI_leI (by omega) (by omega)).mpr (by omega)) e⟩
    | succ d ih =>
      intro q hq hr M2 o2 f4 f10
      have hq2 : q < LY Y := by omega
      have tb := (by_tab _ (bY_ok h hq2).2).1
      refine bX3_token_0 _ M2 ⟨fun e => absurd e (by rw [f4, (o2.hx hx).1, nI_leI (by omega) (by omega)]; omega), fun _ => ⟨q, f4, by omega, fun e => ?_, fun e => ?_⟩⟩
      · rw [(o2.hx hx).2 q hq2, tb] at e
        rw [runF_st hq2 (decide_eq_false e)] at hr
        exact main M2 o2 (by rw [← hr]; exact f4) f10
      · rw [(o2.hx hx).2 q hq2, tb] at e
        rw [runF_go hq2 (decide_eq_true e)] at hr
        exact ih (q + 1) (by omega) hr _ (o2.zs (k := 4) (by omega)) (by show M2 27 4 + 1 = _; rw [f4, nI_1]) f10
  by_cases hq : p < LY Y
  · have tb := (by_tab _ (bY_ok h hq).2).1
    refine eX3_token _ M ⟨fun e => absurd e (by rw [e4, hx.1, nI_leI (by omega) (by omega)]; omega), fun _ => ⟨p, e4, by omega, fun e => ?_, fun e => ?_⟩⟩
    · rw [hx.2 p hq, tb] at e
      have hr : runF (isSp Y) (LY Y - p) p = s := es
      rw [runF_st hq (decide_eq_false e)] at hr
      exact main M (KR.rfl M) (by rw [← hr]; exact e4) rfl
    · rw [hx.2 p hq, tb] at e
      have hr : runF (isSp Y) (LY Y - p) p = s := es
      rw [runF_go hq (decide_eq_true e)] at hr
      exact sp (LY Y - (p + 1)) (p + 1) (by omega) hr _ ((KR.rfl M).zs (k := 4) (by omega)) (by show M 27 4 + 1 = _; rw [e4, nI_1]) rfl
  · have hr : runF (isSp Y) (LY Y - p) p = s := es
    rw [runF_end (by omega)] at hr
    exact eX3_token _ M ⟨fun _ => main M (KR.rfl M) (by rw [← hr]; exact e4) rfl, fun e => absurd (by rw [e4, hx.1]; exact (nI_leI (by omega) (by omega)).mpr (by omega)) e⟩
end XT
