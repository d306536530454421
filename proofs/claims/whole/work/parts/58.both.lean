section BT
variable {X Y M N D : zX}
def KW (Y N D : zX) : Prop := (∀ a, a ≠ 0 → a < 15 ∨ 21 < a → N a = Y a) ∧ (∀ k, k < 19 ∨ (21 < k ∧ k < 25) ∨ (27 < k ∧ k < 33) ∨ 39 < k → N 0 k = Y 0 k) ∧ N 0 33 = 0 ∧ N 0 38 = 0 ∧ N 0 19 = D 0 0 ∧ N 0 20 = D 0 1 ∧ N 0 21 = D 0 2 ∧ (∀ k, k < 8 → N 15 k = D 1 k) ∧ (∀ v, v < 24 → N 17 v = D 2 v) ∧ ∀ p, p < 12 → N 16 p = D 3 p
/-- what stays while the draft is kept -/
def KV (Y N D : zX) : Prop := (∀ a, a ≠ 0 → a < 15 ∨ 21 < a → N a = Y a) ∧ (∀ k, k < 19 ∨ (21 < k ∧ k < 25) ∨ (27 < k ∧ k < 33) ∨ 39 < k → N 0 k = Y 0 k) ∧ N 0 33 = 0 ∧ N 0 38 = 0 ∧ N 0 19 = D 0 0 ∧ N 0 20 = D 0 1 ∧ N 0 21 = D 0 2 ∧ (∀ k, k < 8 → N 18 k = D 1 k) ∧ (∀ v, v < 24 → N 20 v = D 2 v) ∧ ∀ p, p < 12 → N 19 p = D 3 p
theorem KV.za {a k : Nat} {v : Int32} (o : KV Y N D) (ha : 15 ≤ a) (ha2 : a ≤ 17) : KV Y (zs N a k v) D := by
  obtain ⟨o1, o2, o3, o4, o5, o6, o7, o8, o9, o10⟩ := o
  have e : ∀ b, b ≠ a → zs N a k v b = N b := fun b hb => zs_ne hb
  refine ⟨fun b h1 h2 => by rw [e b (by omega)]; exact o1 b h1 h2, fun j hj => by rw [e 0 (by omega)]; exact o2 j hj, by rw [e 0 (by omega)]; exact o3, by rw [e 0 (by omega)]; exact o4, by rw [e 0 (by omega)]; exact o5, by rw [e 0 (by omega)]; exact o6, by rw [e 0 (by omega)]; exact o7, by rw [e 18 (by omega)]; exact o8, by rw [e 20 (by omega)]; exact o9, by rw [e 19 (by omega)]; exact o10⟩
theorem y_keep {P : zX → Prop} (o : KZ Y N) (d : PY N D) (e38 : N 0 38 = 0) (z : ∀ N2, KW Y N2 D → P N2) : zPw SY 0 mX10_keepDraft [.ref 0] (zs N 0 33 0) P := by
  obtain ⟨d1, d2, d3, d4, d5, d6, d7⟩ := d
  refine eX10_keepDraft P _ ?_
  have l3 : ∀ d i, i + d = 24 → ∀ M : zX, KV Y M D → (∀ k, k < 8 → M 15 k = D 1 k) → (∀ p, p < 12 → M 16 p = D 3 p) → (∀ v, v < i → M 17 v = D 2 v) → LX10_keepDraft_78 P M (nI i) := by
    intro d
    induction d with
    | zero =>
      intro i hi M k a1 a2 a3
      obtain rfl : i = 24 := by omega
      obtain ⟨o1, o2, o3, o4, o5, o6, o7, o8, o9, o10⟩ := k
      exact bX10_keepDraft_78 P M _ ⟨fun _ => z M ⟨o1, o2, o3, o4, o5, o6, o7, a1, a3, a2⟩, fun e => absurd (by decide) e⟩
    | succ d ih =>
      intro i hi M k a1 a2 a3
      refine bX10_keepDraft_78 P M _ ⟨fun e => absurd ((nI_leI (a := 24) (by omega) (by omega)).mp e) (by omega), fun _ => ⟨i, rfl, by omega, i, rfl, by omega, ?_⟩⟩
      rw [nI_1]
      refine ih (i + 1) (by omega) _ (k.za (by omega) (by omega)) a1 a2 (fun p hp => ?_)
      show upd (M 17) i (M 20 i) p = D 2 p
      by_cases q : p = i
      · rw [q, pk_us]; exact k.2.2.2.2.2.2.2.2.1 i (by omega)
      · rw [pk_un q]; exact a3 p (by omega)
  have l2 : ∀ d i, i + d = 12 → ∀ M : zX, KV Y M D → (∀ k, k < 8 → M 15 k = D 1 k) → (∀ p, p < i → M 16 p = D 3 p) → LX10_keepDraft_52 P M (nI i) := by
    intro d
    induction d with
    | zero =>
      intro i hi M k a1 a2
      obtain rfl : i = 12 := by omega
      exact bX10_keepDraft_52 P M _ ⟨fun _ => l3 24 0 rfl M k a1 a2 (fun p hp => absurd hp (by omega)), fun e => absurd (by decide) e⟩
    | succ d ih =>
      intro i hi M k a1 a2
      refine bX10_keepDraft_52 P M _ ⟨fun e => absurd ((nI_leI (a := 12) (by omega) (by omega)).mp e) (by omega), fun _ => ⟨i, rfl, by omega, i, rfl, by omega, ?_⟩⟩
      rw [nI_1]
      refine ih (i + 1) (by omega) _ (k.za (by omega) (by omega)) a1 (fun p hp => ?_)
      show upd (M 16) i (M 19 i) p = D 3 p
      by_cases q : p = i
      · rw [q, pk_us]; exact k.2.2.2.2.2.2.2.2.2 i (by omega)
      · rw [pk_un q]; exact a2 p (by omega)
  have l1 : ∀ d i, i + d = 8 → ∀ M : zX, KV Y M D → (∀ k, k < i → M 15 k = D 1 k) → LX10_keepDraft_26 P M (nI i) := by
    intro d
    induction d with
    | zero =>
      intro i hi M k a1
      obtain rfl : i = 8 := by omega
      exact bX10_keepDraft_26 P M _ ⟨fun _ => l2 12 0 rfl M k a1 (fun p hp => absurd hp (by omega)), fun e => absurd (by decide) e⟩
    | succ d ih =>
      intro i hi M k a1
      refine bX10_keepDraft_26 P M _ ⟨fun e => absurd ((nI_leI (a := 8) (by omega) (by omega)).mp e) (by omega), fun _ => ⟨i, rfl, by omega, i, rfl, by omega, ?_⟩⟩
      rw [nI_1]
      refine ih (i + 1) (by omega) _ (k.za (by omega) (by omega)) (fun p hp => ?_)
      show upd (M 15) i (M 18 i) p = D 1 p
      by_cases q : p = i
      · rw [q, pk_us]; exact k.2.2.2.2.2.2.2.1 i (by omega)
      · rw [pk_un q]; exact a1 p (by omega)
  refine l1 8 0 rfl _ ⟨fun a h1 h2 => ?_, fun k hk => ?_, rfl, e38, d1, d2, d3, d4, d5, d6⟩ (fun p hp => absurd hp (by omega))
  · rw [zs_ne h1, zs_ne h1, zs_ne h1, zs_ne h1]; exact o.1 a h1 (by omega)
  · rw [zs_nk (by omega), zs_nk (by omega), zs_nk (by omega), zs_nk (by omega)]; exact o.2 k (by omega)
theorem both_text (h : Rel X Y) :
    (∃ c s, 1 ≤ c ∧ c ≤ 4 ∧ s ≤ 200 ∧ (∀ P : Int32 → zX → Prop, (∀ v M2, KQ X M2 → M2 27 10 = nI c → M2 27 11 = nI s → P v M2) → zPi SX 9 mX3_text [.ref 27, .ref 58] X P) ∧ ∀ P : Int32 → zX → Prop, (∀ N2, FT Y N2 c s → P ((-10) - nI s) (zs N2 0 33 0)) → zPi SY 7 mX10_rules [.ref 0] Y P) ∨
    (∃ (D2 : zX) (n2 : Nat), ID D2 ∧ (∀ P : Int32 → zX → Prop, (∀ M2, KQ X M2 → PX M2 D2 → M2 27 10 = 0 → P (nI n2) M2) → zPi SX 9 mX3_text [.ref 27, .ref 58] X P) ∧ ∀ P : Int32 → zX → Prop, (∀ N2, KW Y N2 D2 → P (nI n2) N2) → zPi SY 7 mX10_rules [.ref 0] Y P) := by
  have hY := h.1
  have xs : ∀ P : Int32 → zX → Prop, (∀ M, LT0 X M (D00 X) 0 0 → LX3_text_39 P M 1 (nI 0)) → zPi SX 9 mX3_text [.ref 27, .ref 58] X P := fun P z => eX3_text P X ⟨fun M2 => LX3_text_39 P (zs (zs (zs (zs (zs (zs M2 27 4 0) 27 5 (-4)) 27 8 0) 27 9 0) 27 10 0) 27 11 0) 1 0, x_reset (fun M k e27 a1 a2 a3 a4 a5 a6 => z _ ⟨⟨(((((k.zs (by omega)).zs (by omega)).zs (by omega)).zs (by omega)).zs (by omega)).zs (by omega), ⟨a1, a2, a3, a4, a5, a6, rfl⟩, rfl, rfl, rfl⟩, rfl⟩), fun _ q => q⟩
  have kz0 : KZ Y (zs (zs Y 0 38 0) 0 34 0) := ((show KZ Y Y from ⟨fun _ _ _ => rfl, fun _ _ => rfl⟩).z0 (by omega)).z0 (by omega)
  have ys : ∀ P : Int32 → zX → Prop, (∀ N, ST Y N (D00 X) (tS Y 0) → LX10_rules_20 P N (nI 0)) → zPi SY 7 mX10_rules [.ref 0] Y P := fun P z => eX10_rules P Y ⟨_, y_first kz0 (fun M k e a1 a2 a3 a4 a5 a6 a7 => y_next (P := fun M4 => LX10_rules_20 P M4 0) hY (Nat.zero_le _) k (D := D00 X) ⟨a1, a2, a3, fun j hj => (a4 j hj).trans (if_pos hj).symm, fun j hj => (a5 j hj).trans (if_pos hj).symm, fun j hj => (a6 j hj).trans (if_pos hj).symm, fun j h1 h3 => by rw [a7 j (by omega)]; show 0 = b2i (bt 0 j); rw [b_0]; rfl⟩ (e 34 (by omega)) (e 38 (by omega)) z), fun _ q => q⟩
  rcases text_loop hY h.2 (LY Y - 0 + 1) 0 (by omega) (D00 X) 0 0 (Nat.zero_le _) (Nat.le_refl _) (Nat.le_refl _) (D00_id X) with ⟨c, s, h1, h4, hs, cx, cy⟩ | ⟨D2, n2, i2, cx, cy⟩
  · exact Or.inl ⟨c, s, h1, h4, hs, fun P z => xs P (fun M l => cx M l P z), fun P z => ys P (fun N st => cy N st P _ z)⟩
  · exact Or.inr ⟨D2, n2, i2, fun P z => xs P (fun M l => cx M l P z), fun P z => ys P (fun N st => cy N st P (fun N2 k d e => ⟨fun M8 => P (nI n2) M8, y_keep k d e (fun N2 w => z N2 w), fun _ q => q⟩))⟩
end BT
