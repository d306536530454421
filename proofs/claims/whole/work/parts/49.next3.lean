section NZ
variable {X Y M N : zX}
theorem runF_st2 {f : Nat → Bool} {L p q : Nat} (h : runF f (L - p) p = q) : (L ≤ q ∨ f q = false) := by
  obtain ⟨d, hd⟩ : ∃ d, d = L - p := ⟨_, rfl⟩
  induction d generalizing p with
  | zero => rw [← hd] at h; left; have : p = q := h; omega
  | succ d ih =>
    rw [← hd] at h
    have h : (if f p then runF f d (p + 1) else p) = q := h
    cases e : f p with
    | true => rw [e, if_pos rfl] at h; exact ih (p := p + 1) (by rw [show L - (p + 1) = d by omega]; exact h) (by omega)
    | false => rw [e] at h; have : p = q := h; subst this; exact Or.inr e
theorem tS_le (Y : zX) {p : Nat} (hp : p ≤ LY Y) : p ≤ tS Y p ∧ tS Y p ≤ LY Y := by
  have := runF_ge (isSp Y) (LY Y - p) p
  unfold tS; omega
theorem cY_next (h : IY Y) (hn : HN Y N) {p : Nat} (hp : p ≤ LY Y) (e34 : N 0 34 = nI p) (e38 : N 0 38 = 0) : zPw SY 3 mX10_next [.ref 0] N (TY Y (tS Y p) N) := by
  have hL := LY_le h
  obtain ⟨t1, t2⟩ := tS_le Y hp
  refine eX10_next _ N ⟨fun _ => ?_, fun e => absurd (by rw [e38]; decide) e⟩
  generalize es : tS Y p = s at *
  have main : ∀ N2 : zX, KT N N2 → N2 0 34 = nI s → N2 0 38 = 0 → (s < LY Y → isSp Y s = false) → LX10_next_8 (TY Y s N) N2 := fun N2 o2 f34 f38 hns => by
    by_cases q : s < LY Y
    · have hb := (bY_ok h q).2
      have o35 := o2.zs (k := 35) (v := N2 0 34) (by omega) (by omega)
      have o36 := fun v => o35.zs (k := 36) (v := v) (by omega) (by omega)
      have hne : ¬ nI (bY Y s) = 32 := fun e => by
        rw [show (32 : Int32) = nI 32 from rfl, nI_eq (by omega) (by omega)] at e
        have := hns q; unfold isSp at this; rw [decide_eq_true e] at this; cases this
      refine bX10_next_8 _ N2 ⟨_, by rw [f34]; exact yl_i h (o2.hn hn) q, fun _ => ⟨_, by rw [f34]; exact yl_i h ((o2.hn hn).zs (by decide)) q, fun _ => ⟨_, yl_lt h (o35.hn hn) q, fun e1 => ⟨_, yl_fg h (o35.hn hn) q, fun e2 => ⟨fun e3 => ?_, fun e3 => ?_⟩, fun e2 => ?_⟩, fun e1 => ?_⟩, fun e => absurd (show (0 : Int32) ≤ nI (bY Y s) from nI_leI (a := 0) (by omega) (by omega) |>.mpr (Nat.zero_le _)) e⟩, fun e => absurd e hne⟩
      · have e3 : ¬ bY Y s = 59 := fun c => e3 (by rw [c]; rfl)
        refine ⟨fun M => TY Y s N (zs M 0 34 (M 0 34 + 1)), nar_wants0 f38 ?_, fun _ z => z⟩
        have o3 := (((o36 3).zs (k := 38) (v := 1) (by omega) (by omega)).zs (k := 39) (v := N2 0 34) (by omega) (by omega)).zs (k := 34) (v := N2 0 34 + 1) (by omega) (by omega)
        refine ⟨o3.1, o3.2, f34, Or.inr ⟨?_, rfl, f34⟩⟩
        unfold kK; rw [if_neg (by omega), if_neg (by rw [b2i_0.mp e1]; decide), if_neg (by rw [b2i_0.mp e2]; decide), if_neg e3]
      · have e3 : bY Y s = 59 := by
          rw [show (59 : Int32) = nI 59 from rfl, nI_eq (by omega) (by omega)] at e3; exact e3
        refine ⟨fun M => TY Y s N (zs M 0 34 (M 0 34 + 1)), nar_wants1 ?_ _, fun _ z => z⟩
        have o3 := (o36 3).zs (k := 34) (v := N2 0 34 + 1) (by omega) (by omega)
        have k3 : kK Y s = 3 := by unfold kK; rw [if_neg (by omega), if_neg (by rw [b2i_0.mp e1]; decide), if_neg (by rw [b2i_0.mp e2]; decide), if_pos e3]
        have ke : kE Y s = s + 1 := by unfold kE; rw [if_neg (by omega), if_neg (by rw [b2i_0.mp e1]; decide), if_neg (by rw [b2i_0.mp e2]; decide)]
        refine ⟨o3.1, o3.2, f34, Or.inl ⟨by omega, f38, by rw [k3]; rfl, ?_, fun c => by omega⟩⟩
        rw [ke, ← nI_1]
        show N2 0 34 + 1 = _
        rw [f34]
      · have o3 := (o36 2).zs (k := 37) (v := 0) (by omega) (by omega)
        exact ny_fig h hn q (b2i_0.mp e1) (b2i_n.mp e2) o3 f34 f34 rfl rfl f38
      · exact ny_name h hn q (b2i_n.mp e1) (o36 1) f34 f34 rfl f38
    · refine bX10_next_8 _ N2 ⟨_, by rw [f34]; exact yl_o h (o2.hn hn) (by omega) (by omega), fun _ => ⟨_, by rw [f34]; exact yl_o h ((o2.hn hn).zs (by decide)) (by omega) (by omega), fun e => absurd e (by decide), fun _ => ?_⟩, fun e => absurd e (by decide)⟩
      have o3 := (o2.zs (k := 35) (v := N2 0 34) (by omega) (by omega)).zs (k := 36) (v := 0) (by omega) (by omega)
      have k0 : kK Y s = 0 := by unfold kK; rw [if_pos (by omega)]
      have ke : kE Y s = s := by unfold kE; rw [if_pos (by omega)]
      exact ⟨o3.1, o3.2, f34, Or.inl ⟨by omega, f38, by rw [k0]; rfl, by rw [ke]; exact f34, fun c => by omega⟩⟩
  have hstop : s < LY Y → isSp Y s = false := fun q => by
    rcases runF_st2 (show runF (isSp Y) (LY Y - p) p = s from es) with c | c
    · omega
    · exact c
  have sp : ∀ d q, q + d = LY Y → runF (isSp Y) (LY Y - q) q = s → ∀ N2 : zX, KT N N2 → N2 0 34 = nI q → N2 0 38 = 0 → LX10_next_8 (TY Y s N) N2 := by
    intro d
    induction d with
    | zero =>
      intro q hq hr N2 o2 f34 f38
      rw [runF_end (by omega)] at hr
      exact main N2 o2 (by rw [← hr]; exact f34) f38 hstop
    | succ d ih =>
      intro q hq hr N2 o2 f34 f38
      have hq2 : q < LY Y := by omega
      have hb := (bY_ok h hq2).2
      cases e : isSp Y q with
      | false =>
        rw [runF_st hq2 e] at hr
        exact main N2 o2 (by rw [← hr]; exact f34) f38 hstop
      | true =>
        rw [runF_go hq2 e] at hr
        have e32 : bY Y q = 32 := of_decide_eq_true e
        refine bX10_next_8 _ N2 ⟨_, by rw [f34]; exact yl_i h (o2.hn hn) hq2, fun c => absurd (by rw [e32]; rfl) c, fun _ => ?_⟩
        exact ih (q + 1) (by omega) hr _ (o2.zs (k := 34) (v := N2 0 34 + 1) (by omega) (by omega)) (by show N2 0 34 + 1 = _; rw [f34, nI_1]) f38
  exact sp (LY Y - p) p (by omega) es N (KT.rfl N) e34 e38
theorem cY_nextF {P : zX → Prop} (h0 : ¬ N 0 38 ≤ 0) (z : P N) : zPw SY 3 mX10_next [.ref 0] N P := eX10_next _ N ⟨fun e => absurd e h0, fun _ => z⟩
end NZ
