section NX
variable {X Y M N : zX}
def HN (Y N : zX) : Prop := N 22 = Y 22 ∧ N 0 33 = nI (LY Y)
theorem LY_le (h : IY Y) : LY Y ≤ 200 := by have := h.taped.2; unfold LY; omega
theorem bY_ok (h : IY Y) {i : Nat} (hi : i < LY Y) : Y 22 i = nI (bY Y i) ∧ bY Y i < 256 := h.tape i hi
theorem HN.zs {k : Nat} {v : Int32} (h : HN Y N) (hk : k ≠ 33) : HN Y (zs N 0 k v) := ⟨h.1, by rw [zs_nk (Ne.symm hk)]; exact h.2⟩
theorem yl_i (h : IY Y) (hn : HN Y N) {p : Nat} (hp : p < LY Y) : zPf SY 0 mX10_look [.ref 0, .int (nI p)] N (nI (bY Y p)) := by
  have hL := LY_le h
  refine eX10_look _ N _ ⟨fun e => ?_, fun _ => ⟨p, rfl, by omega, ?_⟩⟩
  · rw [hn.2, nI_leI (by omega) (by omega)] at e; omega
  · rw [hn.1]; exact (bY_ok h hp).1
theorem yl_o (h : IY Y) (hn : HN Y N) {p : Nat} (hp : LY Y ≤ p) (hp2 : p < 1000) : zPf SY 0 mX10_look [.ref 0, .int (nI p)] N (-1) := by
  have hL := LY_le h
  refine eX10_look _ N _ ⟨fun e => rfl, fun e => ?_⟩
  rw [hn.2, nI_leI (by omega) (by omega)] at e; exact absurd hp e
def TY (Y : zX) (s : Nat) (N N2 : zX) : Prop := (∀ a, a ≠ 0 → N2 a = N a) ∧ (∀ k, k < 34 ∨ 39 < k → N2 0 k = N 0 k) ∧ N2 0 35 = nI s ∧ ((kK Y s ≠ 9 ∧ N2 0 38 = 0 ∧ N2 0 36 = nI (kK Y s) ∧ N2 0 34 = nI (kE Y s) ∧ (kK Y s = 1 ∨ kK Y s = 2 → N2 0 37 = nI (kV Y s))) ∨ (kK Y s = 9 ∧ N2 0 38 = 1 ∧ N2 0 39 = nI s))
theorem nar_wants1 {P : zX → Prop} (z : P N) (a : Int32) : zPw SY 0 mX10_wants [.ref 0, .int 1, .int a] N P := eX10_wants P N _ _ ⟨fun _ => z, fun e => absurd e (by decide)⟩
theorem nar_wants0 {P : zX → Prop} {a : Int32} (h0 : N 0 38 = 0) (z : P (zs (zs N 0 38 a) 0 39 (N 0 35))) : zPw SY 0 mX10_wants [.ref 0, .int 0, .int a] N P := eX10_wants P N _ _ ⟨fun e => absurd rfl e, fun _ => ⟨fun e => absurd h0 e, fun _ => z⟩⟩
theorem nar_wantsF {P : zX → Prop} (a b : Int32) (h0 : ¬ N 0 38 = 0) (z : P N) : zPw SY 0 mX10_wants [.ref 0, .int a, .int b] N P := eX10_wants P N _ _ ⟨fun _ => z, fun _ => ⟨fun _ => z, fun e => absurd e h0⟩⟩
theorem cY_is (h : IY Y) (hn : HN Y N) {s e n : Nat} (hs : N 0 35 = nI s) (he : N 0 34 = nI e) (hse : s ≤ e) (heL : e ≤ LY Y) {a b c d : Nat} (hn3 : n = 3 ∨ n = 4 ∨ n = 5) (ha : a < 256) (hb : b < 256) (hc : c < 256) (hd : d < 256) : zPf SY 1 mX10_is [.ref 0, .int (nI n), .int (nI a), .int (nI b), .int (nI c), .int (nI d)] N (b2i (decide (e = s + n) && decide (bY Y s = a) && decide (bY Y (s + 1) = b) && decide (bY Y (s + 2) = c) && (decide (n = 3) || decide (bY Y (s + 3) = d)))) := by
  have hL := LY_le h
  have esub : N 0 34 - N 0 35 = nI (e - s) := by
    rw [hs, he]
    apply Int32.toInt_inj.mp
    rw [pk_sub_toInt (by omega) (by omega), nI_toInt (by omega)]; omega
  have beq : ∀ {i x : Nat}, i < LY Y → x < 256 → (nI (bY Y i) = nI x ↔ bY Y i = x) := fun hi hx => nI_eq (by have := (bY_ok h hi).2; omega) (by omega)
  refine eX10_is _ N _ _ _ _ _ ⟨fun q => ?_, fun q => ?_⟩
  · rw [esub, nI_eq (by omega) (by omega)] at q
    rw [decide_eq_false (by omega)]; rfl
  · rw [esub, nI_eq (by omega) (by omega)] at q
    have q' : e = s + n := by omega
    rw [decide_eq_true q', Bool.true_and, hs]
    refine ⟨_, yl_i h hn (by omega), fun q1 => ?_, fun q1 => ?_⟩
    · rw [beq (by omega) ha] at q1
      rw [decide_eq_false q1]; rfl
    rw [beq (by omega) ha] at q1
    rw [decide_eq_true q1, Bool.true_and, nI_1]
    refine ⟨_, yl_i h hn (by omega), fun q2 => ?_, fun q2 => ?_⟩
    · rw [beq (by omega) hb] at q2
      rw [decide_eq_false q2]; rfl
    rw [beq (by omega) hb] at q2
    rw [decide_eq_true q2, Bool.true_and, show nI s + 2 = nI (s + 2) by rw [show (2 : Int32) = nI 2 from rfl, nI_add]]
    refine ⟨_, yl_i h hn (by omega), fun q3 => ?_, fun q3 => ⟨fun q4 => ?_, fun q4 => ?_⟩⟩
    · rw [beq (by omega) hc] at q3
      rw [decide_eq_false q3]; rfl
    · rw [beq (by omega) hc] at q3
      have : n = 3 := by
        have := (nI_ltI (b := 4) (by omega) (by omega)).mp q4; omega
      rw [decide_eq_true q3, decide_eq_true this]; rfl
    · rw [beq (by omega) hc] at q3
      have : ¬ n = 3 := fun c => q4 ((nI_ltI (b := 4) (by omega) (by omega)).mpr (by omega))
      rw [decide_eq_true q3, decide_eq_false this, Bool.true_and, Bool.false_or, show nI s + 3 = nI (s + 3) by rw [show (3 : Int32) = nI 3 from rfl, nI_add]]
      refine ⟨_, yl_i h hn (by omega), fun q5 => ?_, fun q5 => ?_⟩
      · rw [beq (by omega) hd] at q5
        rw [decide_eq_false q5]; rfl
      · rw [beq (by omega) hd] at q5
        rw [decide_eq_true q5]; rfl
theorem cY_sp4 (h : IY Y) (hn : HN Y N) {s e : Nat} (hs : N 0 35 = nI s) (he : N 0 34 = nI e) (hse : s ≤ e) (heL : e ≤ LY Y) {a b c d : Nat} (ha : a < 256) (hb : b < 256) (hc : c < 256) (hd : d < 256) : zPf SY 1 mX10_is [.ref 0, .int 4, .int (nI a), .int (nI b), .int (nI c), .int (nI d)] N (b2i (sp4 Y s e a b c d)) := (cY_is h hn (n := 4) hs he hse heL (by omega) ha hb hc hd).eq (by unfold sp4; simp)
theorem cY_nameNow (h : IY Y) (hn : HN Y N) {s e : Nat} (hs : N 0 35 = nI s) (he : N 0 34 = nI e) (hse : s ≤ e) (heL : e ≤ LY Y) : zPf SY 2 mX10_nameNow [.ref 0] N (if mnV Y s e = 9 then -4 else nI (mnV Y s e)) := by
  have hL := LY_le h
  have c5 : zPf SY 1 mX10_is [.ref 0, .int 5, .int 99, .int 97, .int 114, .int 114] N (b2i (cr4 Y s e)) := (cY_is h hn (n := 5) (a := 99) (b := 97) (c := 114) (d := 114) hs he hse heL (by omega) (by decide) (by decide) (by decide) (by decide)).eq (by unfold cr4; simp)
  have c3 : zPf SY 1 mX10_is [.ref 0, .int 3, .int 100, .int 114, .int 121, .int 0] N (b2i (sp3 Y s e)) := (cY_is h hn (n := 3) (a := 100) (b := 114) (c := 121) (d := 0) hs he hse heL (by omega) (by decide) (by decide) (by decide) (by decide)).eq (by unfold sp3; simp)
  refine eX10_nameNow _ N ⟨_, cY_sp4 h hn (a := 104) (b := 101) (c := 97) (d := 114) hs he hse heL (by decide) (by decide) (by decide) (by decide), fun e1 => ?_, fun e1 => ?_⟩
  case refine_2 => simp [mnV, b2i_n.mp e1]; rfl
  refine ⟨_, cY_sp4 h hn (a := 115) (b := 105) (c := 110) (d := 103) hs he hse heL (by decide) (by decide) (by decide) (by decide), fun e2 => ?_, fun e2 => ?_⟩
  case refine_2 => simp [mnV, b2i_0.mp e1, b2i_n.mp e2]; rfl
  refine ⟨_, cY_sp4 h hn (a := 116) (b := 101) (c := 108) (d := 108) hs he hse heL (by decide) (by decide) (by decide) (by decide), fun e3 => ?_, fun e3 => ?_⟩
  case refine_2 => simp [mnV, b2i_0.mp e1, b2i_0.mp e2, b2i_n.mp e3]; rfl
  have e1 := b2i_0.mp e1
  have e2 := b2i_0.mp e2
  have e3 := b2i_0.mp e3
  have tail : (cr4 Y s e && decide (bY Y (s + 4) = 121)) = false → (∃ r9, zPf SY 1 mX10_is [.ref 0, .int 3, .int 100, .int 114, .int 121, .int 0] N r9 ∧ (((r9 = 0) → (∃ r11, zPf SY 1 mX10_is [.ref 0, .int 4, .int 112, .int 97, .int 105, .int 114] N r11 ∧ (((r11 = 0) → ((-4) = (if mnV Y s e = 9 then -4 else nI (mnV Y s e)))) ∧ ((¬ (r11 = 0)) → (5 = (if mnV Y s e = 9 then -4 else nI (mnV Y s e))))))) ∧ ((¬ (r9 = 0)) → (4 = (if mnV Y s e = 9 then -4 else nI (mnV Y s e)))))) := fun e4 => by
    refine ⟨_, c3, fun e5 => ?_, fun e5 => ?_⟩
    case refine_2 =>
      have : mnV Y s e = 4 := by unfold mnV; rw [e1, e2, e3, e4, b2i_n.mp e5]; rfl
      rw [this]; rfl
    refine ⟨_, cY_sp4 h hn (a := 112) (b := 97) (c := 105) (d := 114) hs he hse heL (by decide) (by decide) (by decide) (by decide), fun e6 => ?_, fun e6 => ?_⟩
    · have : mnV Y s e = 9 := by unfold mnV; rw [e1, e2, e3, e4, b2i_0.mp e5, b2i_0.mp e6]; rfl
      rw [this]; rfl
    · have : mnV Y s e = 5 := by unfold mnV; rw [e1, e2, e3, e4, b2i_0.mp e5, b2i_n.mp e6]; rfl
      rw [this]; rfl
  refine ⟨_, c5, fun e4 => tail (by rw [b2i_0.mp e4]; rfl), fun e4 => ?_⟩
  have e4 := b2i_n.mp e4
  have k := e4
  unfold cr4 at k
  simp only [Bool.and_eq_true, decide_eq_true_eq] at k
  rw [hs, show nI s + 4 = nI (s + 4) by rw [show (4 : Int32) = nI 4 from rfl, nI_add]]
  have h4 : s + 4 < LY Y := by omega
  refine ⟨_, yl_i h hn h4, fun q => tail ?_, fun q => ?_⟩
  · rw [show (121 : Int32) = nI 121 from rfl, nI_eq (by have := (bY_ok h h4).2; omega) (by omega)] at q
    rw [decide_eq_false q, Bool.and_false]
  · rw [show (121 : Int32) = nI 121 from rfl, nI_eq (by have := (bY_ok h h4).2; omega) (by omega)] at q
    have : mnV Y s e = 3 := by unfold mnV; rw [e1, e2, e3, e4, decide_eq_true q]; rfl
    rw [this]; rfl
end NX
