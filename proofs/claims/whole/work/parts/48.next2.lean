theorem ite_le9 {c : Prop} [Decidable c] {a b : Nat} (ha : a ≤ 9) (hb : b ≤ 9) : (if c then a else b) ≤ 9 := by split <;> assumption
theorem mnV_le (Y : zX) (s e : Nat) : mnV Y s e ≤ 9 := ite_le9 (by decide) (ite_le9 (by decide) (ite_le9 (by decide) (ite_le9 (by decide) (ite_le9 (by decide) (ite_le9 (by decide) (by decide))))))
section NY
variable {X Y M N : zX}
theorem toI64 (n : Nat) (hn : n < 1000) : (nI n).toInt = n := nI_toInt (by omega)
theorem yl_lt (h : IY Y) (hn : HN Y N) {i : Nat} (hi : i < LY Y) : zPf SY 0 mX10_in [.long (nI (bY Y i)).toInt64, .long 97, .long 122] N (b2i (isLt Y i)) := by
  have hb := (bY_ok h hi).2
  cases e : isLt Y i with
  | true =>
    unfold isLt at e
    simp only [Bool.and_eq_true, decide_eq_true_eq] at e
    exact yI_i N (l := 97) (r := 122) rfl rfl (by rw [toI64 _ (by omega)]; omega)
  | false =>
    refine yI_o N (l := 97) (r := 122) rfl rfl (fun q => ?_)
    rw [toI64 _ (by omega)] at q
    unfold isLt at e
    rw [decide_eq_true (by omega), decide_eq_true (by omega)] at e; cases e
theorem yl_fg (h : IY Y) (hn : HN Y N) {i : Nat} (hi : i < LY Y) : zPf SY 0 mX10_in [.long (nI (bY Y i)).toInt64, .long 48, .long 57] N (b2i (isFg Y i)) := by
  have hb := (bY_ok h hi).2
  cases e : isFg Y i with
  | true =>
    unfold isFg at e
    simp only [Bool.and_eq_true, decide_eq_true_eq] at e
    exact yI_i N (l := 48) (r := 57) rfl rfl (by rw [toI64 _ (by omega)]; omega)
  | false =>
    refine yI_o N (l := 48) (r := 57) rfl rfl (fun q => ?_)
    rw [toI64 _ (by omega)] at q
    unfold isFg at e
    rw [decide_eq_true (by omega), decide_eq_true (by omega)] at e; cases e
theorem y_m1lt (N : zX) : zPf SY 0 mX10_in [.long (-1 : Int32).toInt64, .long 97, .long 122] N 0 := yI_o N (l := 97) (r := 122) rfl rfl (by decide)
theorem y_m1fg (N : zX) : zPf SY 0 mX10_in [.long (-1 : Int32).toInt64, .long 48, .long 57] N 0 := yI_o N (l := 48) (r := 57) rfl rfl (by decide)
/-- only the token's fields of cell 0 differ -/
def KT (N N2 : zX) : Prop := (∀ a, a ≠ 0 → N2 a = N a) ∧ ∀ k, k < 34 ∨ 39 < k → N2 0 k = N 0 k
theorem KT.rfl (N : zX) : KT N N := ⟨fun _ _ => Eq.refl _, fun _ _ => Eq.refl _⟩
theorem KT.zs {N2 : zX} (o : KT N N2) {k : Nat} {v : Int32} (hk : 34 ≤ k) (hk2 : k ≤ 39) : KT N (zs N2 0 k v) := ⟨fun a ha => by rw [zs_ne ha]; exact o.1 a ha, fun j hj => by rw [zs_nk (by omega)]; exact o.2 j hj⟩
theorem KT.hn {N2 : zX} (o : KT N N2) (hn : HN Y N) : HN Y N2 := ⟨by rw [o.1 22 (by decide)]; exact hn.1, by rw [o.2 33 (by omega)]; exact hn.2⟩
theorem ny_name (h : IY Y) (hn : HN Y N) {s : Nat} (hs : s < LY Y) (hl : isLt Y s = true) {N1 : zX} (o : KT N N1) (e35 : N1 0 35 = nI s) (e34 : N1 0 34 = nI s) (e36 : N1 0 36 = 1) (e38 : N1 0 38 = 0) : LX10_next_82 (TY Y s N) N1 := by
  have hL := LY_le h
  have kK1 : kK Y s = if mnV Y s (eLt Y s) = 9 then 9 else 1 := by unfold kK; rw [if_neg (by omega), if_pos hl]
  have kE1 : kE Y s = eLt Y s := by unfold kE; rw [if_neg (by omega), if_pos hl]
  have kV1 : kV Y s = mnV Y s (eLt Y s) := by unfold kV; rw [if_pos hl]
  have key : ∀ d q, q + d = LY Y → s ≤ q → runF (isLt Y) (LY Y - q) q = eLt Y s → ∀ N2 : zX, KT N N2 → N2 0 35 = nI s → N2 0 34 = nI q → N2 0 36 = 1 → N2 0 38 = 0 → LX10_next_82 (TY Y s N) N2 := by
    intro d
    have stop : ∀ q, s ≤ q → q ≤ LY Y → q = eLt Y s → ∀ N2 : zX, KT N N2 → N2 0 35 = nI s → N2 0 34 = nI q → N2 0 36 = 1 → N2 0 38 = 0 → (∃ r28, zPf SY 2 mX10_nameNow [.ref 0] N2 r28 ∧ (((r28 = (-4)) → (∃ Qr30 : zX → Prop, zPw SY 0 mX10_wants [.ref 0, .int 0, .int 1] (zs N2 0 37 r28) Qr30 ∧ ∀ M31 : zX, Qr30 M31 → (TY Y s N M31))) ∧ ((¬ (r28 = (-4))) → (∃ Qr32 : zX → Prop, zPw SY 0 mX10_wants [.ref 0, .int 1, .int 1] (zs N2 0 37 r28) Qr32 ∧ ∀ M33 : zX, Qr32 M33 → (TY Y s N M33))))) := fun q q1 q2 q3 N2 o2 f35 f34 f36 f38 => by
      refine ⟨_, cY_nameNow h (o2.hn hn) f35 f34 q1 q2, fun e => ⟨TY Y s N, nar_wants0 f38 ?_, fun _ z => z⟩, fun e => ⟨TY Y s N, nar_wants1 ?_ _, fun _ z => z⟩⟩
      · have e9 : mnV Y s q = 9 := by
          by_cases c : mnV Y s q = 9
          · exact c
          · rw [if_neg c] at e
            exact absurd e (neg4_ne _ (Nat.lt_of_le_of_lt (mnV_le Y s q) (by decide)))
        have o3 := ((o2.zs (k := 37) (v := if mnV Y s q = 9 then -4 else nI (mnV Y s q)) (by omega) (by omega)).zs (k := 38) (v := 1) (by omega) (by omega)).zs (k := 39) (v := N2 0 35) (by omega) (by omega)
        refine ⟨o3.1, o3.2, f35, Or.inr ⟨?_, rfl, f35⟩⟩
        rw [kK1, ← q3, if_pos e9]
      · have e9 : ¬ mnV Y s q = 9 := fun c => e (if_pos c)
        have o3 := o2.zs (k := 37) (v := if mnV Y s q = 9 then -4 else nI (mnV Y s q)) (by omega) (by omega)
        refine ⟨o3.1, o3.2, f35, Or.inl ⟨?_, f38, ?_, ?_, fun _ => ?_⟩⟩
        · rw [kK1, ← q3, if_neg e9]; decide
        · have : kK Y s = 1 := by rw [kK1, ← q3, if_neg e9]
          rw [this]; exact f36
        · rw [kE1, ← q3]; exact f34
        · rw [kV1, ← q3]; show (if mnV Y s q = 9 then -4 else nI (mnV Y s q)) = _; rw [if_neg e9]
    induction d with
    | zero =>
      intro q hq hsq hr N2 o2 f35 f34 f36 f38
      rw [runF_end (by omega)] at hr
      refine bX10_next_82 _ N2 ⟨-1, by rw [f34]; exact yl_o h (o2.hn hn) (by omega) (by omega), 0, y_m1lt _, fun _ => stop q hsq (by omega) hr N2 o2 f35 f34 f36 f38, fun e => absurd rfl e⟩
    | succ d ih =>
      intro q hq hsq hr N2 o2 f35 f34 f36 f38
      have hq2 : q < LY Y := by omega
      refine bX10_next_82 _ N2 ⟨_, by rw [f34]; exact yl_i h (o2.hn hn) hq2, _, yl_lt h (o2.hn hn) hq2, fun e => ?_, fun e => ?_⟩
      · have e := b2i_0.mp e
        rw [runF_st hq2 e] at hr
        exact stop q hsq (by omega) hr N2 o2 f35 f34 f36 f38
      · have e := b2i_n.mp e
        rw [runF_go hq2 e] at hr
        rw [f34, nI_1]
        exact ih (q + 1) (by omega) (by omega) hr _ (o2.zs (by omega) (by omega)) f35 rfl f36 f38
  exact key (LY Y - s) s (by omega) (Nat.le_refl _) rfl N1 o e35 e34 e36 e38
theorem nvF_lt (h : IY Y) {s : Nat} : ∀ k, k ≤ 2 → s + k ≤ LY Y → nvF Y s k < 100000 := by
  intro k hk hL
  have : ∀ i, s + i < LY Y → bY Y (s + i) < 256 := fun i hi => (bY_ok h hi).2
  rcases k with _ | _ | _ | k
  · show 0 < 100000; decide
  · show 0 * 10 + (bY Y (s + 0) - 48) < 100000
    have := this 0 (by omega); omega
  · show (0 * 10 + (bY Y (s + 0) - 48)) * 10 + (bY Y (s + 1) - 48) < 100000
    have h0 := this 0 (by omega); have h1 := this 1 (by omega); omega
  · omega
theorem ny_fig (h : IY Y) (hn : HN Y N) {s : Nat} (hs : s < LY Y) (hl : isLt Y s = false) (hf : isFg Y s = true) {N1 : zX} (o : KT N N1) (e35 : N1 0 35 = nI s) (e34 : N1 0 34 = nI s) (e36 : N1 0 36 = 2) (e37 : N1 0 37 = 0) (e38 : N1 0 38 = 0) : LX10_next_170 (TY Y s N) N1 := by
  have hL := LY_le h
  have kK1 : kK Y s = if eFg Y s ≤ s + 2 then 2 else 9 := by unfold kK; rw [if_neg (by omega), if_neg (by rw [hl]; decide), if_pos hf]
  have kE1 : kE Y s = eFg Y s := by unfold kE; rw [if_neg (by omega), if_neg (by rw [hl]; decide), if_pos hf]
  have kV1 : kV Y s = nvF Y s (eFg Y s - s) := by unfold kV; rw [if_neg (by rw [hl]; decide)]
  have sub : ∀ {N2 : zX} {q : Nat}, N2 0 35 = nI s → N2 0 34 = nI q → s ≤ q → q ≤ LY Y → N2 0 34 - N2 0 35 = nI (q - s) := fun f35 f34 h1 h2 => by
    rw [f35, f34]
    apply Int32.toInt_inj.mp
    rw [pk_sub_toInt (by omega) (by omega), nI_toInt (by omega)]; omega
  have key : ∀ d q, q + d = LY Y → s ≤ q → runF (isFg Y) (LY Y - q) q = eFg Y s → ∀ N2 : zX, KT N N2 → N2 0 35 = nI s → N2 0 34 = nI q → N2 0 36 = 2 → (q ≤ s + 2 → N2 0 37 = nI (nvF Y s (q - s))) → N2 0 38 = 0 → LX10_next_170 (TY Y s N) N2 := by
    intro d
    have stop : ∀ q, s ≤ q → q ≤ LY Y → q = eFg Y s → ∀ N2 : zX, KT N N2 → N2 0 35 = nI s → N2 0 34 = nI q → N2 0 36 = 2 → (q ≤ s + 2 → N2 0 37 = nI (nvF Y s (q - s))) → N2 0 38 = 0 → (((2 < ((N2 0 34) - (N2 0 35))) → (∃ Qr19 : zX → Prop, zPw SY 0 mX10_wants [.ref 0, .int 0, .int 1] N2 Qr19 ∧ ∀ M20 : zX, Qr19 M20 → (TY Y s N M20))) ∧ ((¬ (2 < ((N2 0 34) - (N2 0 35)))) → (∃ Qr21 : zX → Prop, zPw SY 0 mX10_wants [.ref 0, .int 1, .int 1] N2 Qr21 ∧ ∀ M22 : zX, Qr21 M22 → (TY Y s N M22)))) := fun q q1 q2 q3 N2 o2 f35 f34 f36 f37 f38 => by
      have lt2 : 2 < N2 0 34 - N2 0 35 ↔ 2 < q - s := by rw [sub f35 f34 q1 q2]; exact nI_ltI (a := 2) (by omega) (by omega)
      rw [lt2]
      refine ⟨fun e => ⟨TY Y s N, nar_wants0 f38 ?_, fun _ z => z⟩, fun e => ⟨TY Y s N, nar_wants1 ?_ _, fun _ z => z⟩⟩
      · have o3 := (o2.zs (k := 38) (v := 1) (by omega) (by omega)).zs (k := 39) (v := N2 0 35) (by omega) (by omega)
        refine ⟨o3.1, o3.2, f35, Or.inr ⟨?_, rfl, f35⟩⟩
        rw [kK1, ← q3, if_neg (by omega)]
      · have k2 : kK Y s = 2 := by rw [kK1, ← q3, if_pos (by omega)]
        refine ⟨o2.1, o2.2, f35, Or.inl ⟨by omega, f38, ?_, ?_, fun _ => ?_⟩⟩
        · rw [k2]; exact f36
        · rw [kE1, ← q3]; exact f34
        · rw [kV1, ← q3]; exact f37 (by omega)
    induction d with
    | zero =>
      intro q hq hsq hr N2 o2 f35 f34 f36 f37 f38
      rw [runF_end (by omega)] at hr
      refine bX10_next_170 _ N2 ⟨-1, by rw [f34]; exact yl_o h (o2.hn hn) (by omega) (by omega), 0, y_m1fg _, fun _ => stop q hsq (by omega) hr N2 o2 f35 f34 f36 f37 f38, fun e => absurd rfl e⟩
    | succ d ih =>
      intro q hq hsq hr N2 o2 f35 f34 f36 f37 f38
      have hq2 : q < LY Y := by omega
      refine bX10_next_170 _ N2 ⟨_, by rw [f34]; exact yl_i h (o2.hn hn) hq2, _, yl_fg h (o2.hn hn) hq2, fun e => ?_, fun e => ?_⟩
      · have e := b2i_0.mp e
        rw [runF_st hq2 e] at hr
        exact stop q hsq (by omega) hr N2 o2 f35 f34 f36 f37 f38
      · have e := b2i_n.mp e
        rw [runF_go hq2 e] at hr
        have le2 : 2 ≤ N2 0 34 - N2 0 35 ↔ 2 ≤ q - s := by rw [sub f35 f34 hsq (by omega)]; exact nI_leI (a := 2) (by omega) (by omega)
        rw [le2]
        refine ⟨fun z => ?_, fun z => ⟨_, by rw [f34]; exact yl_i h (o2.hn hn) hq2, ?_⟩⟩
        · have o3 := (o2.zs (k := 37) (v := N2 0 37) (by omega) (by omega)).zs (k := 34) (v := N2 0 34 + 1) (by omega) (by omega)
          exact ih (q + 1) (by omega) (by omega) hr _ o3 f35 (by show N2 0 34 + 1 = _; rw [f34, nI_1]) f36 (fun c => by omega) f38
        · have o3 := (o2.zs (k := 37) (v := 10 * N2 0 37 + nI (bY Y q) - 48) (by omega) (by omega)).zs (k := 34) (v := N2 0 34 + 1) (by omega) (by omega)
          refine ih (q + 1) (by omega) (by omega) hr _ o3 f35 (by show N2 0 34 + 1 = _; rw [f34, nI_1]) f36 (fun c => ?_) f38
          show 10 * N2 0 37 + nI (bY Y q) - 48 = _
          have hb := (bY_ok h hq2).2
          have hv := nvF_lt h (s := s) (q - s) (by omega) (by omega)
          unfold isFg at e
          simp only [Bool.and_eq_true, decide_eq_true_eq] at e
          rw [f37 (by omega), show (10 : Int32) = nI 10 from rfl, pk_mul, nI_add]
          apply Int32.toInt_inj.mp
          rw [show (48 : Int32) = nI 48 from rfl, pk_sub_toInt (by omega) (by omega), show q + 1 - s = (q - s) + 1 by omega]
          show _ = (nI (nvF Y s (q - s) * 10 + (bY Y (s + (q - s)) - 48))).toInt
          rw [show s + (q - s) = q by omega, nI_toInt (by omega)]
          omega
  exact key (LY Y - s) s (by omega) (Nat.le_refl _) rfl N1 o e35 e34 e36 (fun _ => by rw [Nat.sub_self]; exact e37) e38
end NY
