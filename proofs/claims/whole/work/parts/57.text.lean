/-! both read the text alike -/
section TX1
variable {X Y M N D : zX}
theorem y_rulesF {P : Int32 → zX → Prop} {c s : Nat} {x1 : Int32} (f : FT Y N c s) (hc : 1 ≤ c) (hc4 : c ≤ 4) (z : P ((-10) - nI s) (zs N 0 33 0)) : LX10_rules_20 P N x1 :=
  bX10_rules_20 P N x1 ⟨fun _ => ⟨fun c => absurd c (ft_gt f hc hc4), fun _ => by rw [f.2.2]; exact z⟩, fun e => absurd e (ft_ne f hc hc4)⟩
def TXX (X Y D : zX) (p n i : Nat) : Prop :=
    (∃ c s, 1 ≤ c ∧ c ≤ 4 ∧ s ≤ 200 ∧ (∀ M, LT0 X M D p n → CF X M i c s) ∧ ∀ N, ST Y N D (tS Y p) → ∀ (P : Int32 → zX → Prop) (x1 : Int32), (∀ N2, FT Y N2 c s → P ((-10) - nI s) (zs N2 0 33 0)) → LX10_rules_20 P N x1) ∨
    (∃ (D2 : zX) (n2 : Nat), ID D2 ∧ (∀ M, LT0 X M D p n → ∀ P : Int32 → zX → Prop, (∀ M2, KQ X M2 → PX M2 D2 → M2 27 10 = 0 → P (nI n2) M2) → LX3_text_39 P M 1 (nI i)) ∧ ∀ N, ST Y N D (tS Y p) → ∀ P : Int32 → zX → Prop, (∀ N2, KZ Y N2 → PY N2 D2 → N2 0 38 = 0 → ∃ Qr : zX → Prop, zPw SY 0 mX10_keepDraft [.ref 0] (zs N2 0 33 0) Qr ∧ ∀ M8 : zX, Qr M8 → P (nI n2) M8) → LX10_rules_20 P N (nI n))
theorem text_loop (h : IY Y) (hr : RX X Y) : ∀ d p, LY Y - p < d → ∀ (D : zX) (n i : Nat), p ≤ LY Y → i ≤ p → n ≤ p → ID D → TXX X Y D p n i := by
  have hL := LY_le h
  intro d
  induction d with
  | zero => intro p hd; omega
  | succ d ih =>
    intro p hd D n i hp hi hn id_
    have hs := tS_le Y hp
    by_cases k9 : kK Y (tS Y p) = 9
    · refine Or.inl ⟨1, tS Y p, by decide, by decide, by omega, fun M lt P z => x_tok h hr lt.1 hp (by omega) (fun _ M2 q1 q2 q3 => z _ M2 q1 q2 q3) (fun c => absurd k9 c), fun N st P x1 z => ?_⟩
      obtain ⟨k, -, -, t⟩ := st
      rcases t with ⟨c, -⟩ | ⟨-, e38, e39⟩
      · exact absurd k9 c
      · have f : FT Y N 1 (tS Y p) := ⟨k, e38, e39⟩
        exact y_rulesF f (by decide) (by decide) (z N f)
    by_cases k0 : kK Y (tS Y p) = 0
    · refine Or.inr ⟨D, n, id_, fun M lt P z => x_tok h hr lt.1 hp (by omega) (fun c => absurd c k9) (fun _ M2 c2 f1 f2 f3 f5 f6 f7 => eX3_take _ M2 ⟨fun e => absurd (f5.trans lt.2) e, fun _ => ⟨fun _ => ⟨fun _ => by rw [c2.2.2.2.1]; exact z M2 c2.1 c2.2.1 c2.2.2.2.2, fun c => absurd rfl c⟩, fun e => absurd (by rw [f1, k0]; rfl) e⟩⟩), fun N st P z => ?_⟩
      obtain ⟨e35, e38, e36, e34, e37⟩ := st.tok k9
      exact bX10_rules_20 P N _ ⟨fun e => absurd e38 e, fun _ => ⟨fun _ => ⟨fun _ => z N st.1 (st.2.1 k9) e38, fun c => absurd (by rw [e38]; decide) c⟩, fun e => absurd (by rw [e36, k0]; rfl) e⟩⟩
    have n36 : ∀ {N : zX}, N 0 36 = nI (kK Y (tS Y p)) → ¬ N 0 36 = 0 := fun e36 => by rw [e36, show (0 : Int32) = nI 0 from rfl, nI_eq (by have := kz9 Y (tS Y p); omega) (by omega)]; exact k0
    rcases line (D := D) h hr hp hi hn k9 k0 with ⟨c, s, h1, h4, hs4, cf, rf⟩ | ⟨D2, p2, i2, q1, q2, q3, q4, cg, rl⟩
    · refine Or.inl ⟨c, s, h1, h4, hs4, cf, fun N st P x1 z => ?_⟩
      obtain ⟨e35, e38, e36, e34, e37⟩ := st.tok k9
      exact bX10_rules_20 P N x1 ⟨fun e => absurd e38 e, fun _ => ⟨fun e => absurd e (n36 e36), fun _ => ⟨_, rf N st _ (fun N2 f => f), fun N2 f => y_rulesF f h1 h4 (z N2 f)⟩⟩⟩
    · have step : ∀ N, ST Y N D (tS Y p) → ∀ (P : Int32 → zX → Prop) (x1 : Int32), (∀ N2, ST Y N2 D2 (tS Y p2) → LX10_rules_20 P N2 (x1 + 1)) → LX10_rules_20 P N x1 := fun N st P x1 z => by
        obtain ⟨e35, e38, e36, e34, e37⟩ := st.tok k9
        exact bX10_rules_20 P N x1 ⟨fun e => absurd e38 e, fun _ => ⟨fun e => absurd e (n36 e36), fun _ => ⟨_, rl N st _ (fun N2 f => f), fun N2 f => z N2 f⟩⟩⟩
      rcases ih p2 (by omega) D2 (n + 1) i2 q2 q3 (by omega) (q4 id_) with ⟨c, s, h1, h4, hs4, cf, rf⟩ | ⟨D3, n3, i3, cf, rf⟩
      · exact Or.inl ⟨c, s, h1, h4, hs4, fun M l => (cg M l).cf cf, fun N st P x1 z => step N st P x1 (fun N2 s2 => rf N2 s2 P _ z)⟩
      · exact Or.inr ⟨D3, n3, i3, fun M l P z => cg M l P (fun M2 l2 => cf M2 l2 P z), fun N st P z => step N st P _ (fun N2 s2 => by rw [nI_1]; exact rf N2 s2 P z)⟩
/-- the first draft -/
def D00 (X : zX) : zX := fun a => if a = 0 then (fun k => if k = 0 then 12 else if k = 1 then 20 else if k = 2 then 3 else 0) else if a = 1 then (fun k => if k < 8 then 0 else X 59 k) else if a = 2 then (fun k => if k < 24 then 0 else X 60 k) else (fun k => if k < 12 then -4 else X 61 k)
theorem D00_id (X : zX) : ID (D00 X) := ⟨isN_nI (k := 12) (by decide) (by decide), isN_nI (k := 20) (by decide) (by decide), isN_nI (k := 3) (by decide) (by decide), fun p hp => Or.inl (if_pos hp)⟩
theorem updF {f g : Nat → Int32} {i : Nat} {v : Int32} (a : f = fun k => if k < i then v else g k) : upd f i v = fun k => if k < i + 1 then v else g k := by
  funext k
  by_cases q : k = i
  · rw [q, pk_us, if_pos (by omega)]
  · rw [pk_un q, a]
    by_cases c : k < i
    · show (if k < i then v else g k) = _; rw [if_pos c, if_pos (by omega)]
    · show (if k < i then v else g k) = _; rw [if_neg c, if_neg (by omega)]
theorem funI0 {g : Nat → Int32} {v : Int32} : g = fun k => if k < 0 then v else g k := by funext k; rw [if_neg (by omega)]
theorem x_reset {P : zX → Prop} (z : ∀ M, KQ X M → M 27 = X 27 → M 58 3 = 12 → M 58 4 = 20 → M 58 5 = 3 → M 59 = (fun k => if k < 8 then 0 else X 59 k) → M 60 = (fun k => if k < 24 then 0 else X 60 k) → M 61 = (fun k => if k < 12 then -4 else X 61 k) → P M) : zPw SX 0 mX4_reset [.ref 58] X P := by
  refine eX4_reset P X ?_
  have l3 : ∀ d i, i + d = 12 → ∀ M : zX, KQ X M → M 27 = X 27 → M 58 3 = 12 → M 58 4 = 20 → M 58 5 = 3 → M 59 = (fun k => if k < 8 then 0 else X 59 k) → M 60 = (fun k => if k < 24 then 0 else X 60 k) → M 61 = (fun k => if k < i then -4 else X 61 k) → LX4_reset_61 P M (nI i) := by
    intro d
    induction d with
    | zero =>
      intro i hi M k0 k1 a1 a2 a3 a4 a5 a6
      obtain rfl : i = 12 := by omega
      exact bX4_reset_61 P M _ ⟨fun _ => z M k0 k1 a1 a2 a3 a4 a5 a6, fun e => absurd (by decide) e⟩
    | succ d ih =>
      intro i hi M k0 k1 a1 a2 a3 a4 a5 a6
      refine bX4_reset_61 P M _ ⟨fun e => absurd ((nI_leI (a := 12) (by omega) (by omega)).mp e) (by omega), fun _ => ⟨i, rfl, by omega, ?_⟩⟩
      rw [nI_1]
      exact ih (i + 1) (by omega) _ (k0.zs (by omega)) k1 a1 a2 a3 a4 a5 (updF a6)
  have l2 : ∀ d i, i + d = 24 → ∀ M : zX, KQ X M → M 27 = X 27 → M 58 3 = 12 → M 58 4 = 20 → M 58 5 = 3 → M 61 = X 61 → M 59 = (fun k => if k < 8 then 0 else X 59 k) → M 60 = (fun k => if k < i then 0 else X 60 k) → LX4_reset_40 P M (nI i) := by
    intro d
    induction d with
    | zero =>
      intro i hi M k0 k1 a1 a2 a3 a6 a4 a5
      obtain rfl : i = 24 := by omega
      exact bX4_reset_40 P M _ ⟨fun _ => l3 12 0 rfl M k0 k1 a1 a2 a3 a4 a5 (a6.trans funI0), fun e => absurd (by decide) e⟩
    | succ d ih =>
      intro i hi M k0 k1 a1 a2 a3 a6 a4 a5
      refine bX4_reset_40 P M _ ⟨fun e => absurd ((nI_leI (a := 24) (by omega) (by omega)).mp e) (by omega), fun _ => ⟨i, rfl, by omega, ?_⟩⟩
      rw [nI_1]
      exact ih (i + 1) (by omega) _ (k0.zs (by omega)) k1 a1 a2 a3 a6 a4 (updF a5)
  have l1 : ∀ d i, i + d = 8 → ∀ M : zX, KQ X M → M 27 = X 27 → M 58 3 = 12 → M 58 4 = 20 → M 58 5 = 3 → M 60 = X 60 → M 61 = X 61 → M 59 = (fun k => if k < i then 0 else X 59 k) → LX4_reset_19 P M (nI i) := by
    intro d
    induction d with
    | zero =>
      intro i hi M k0 k1 a1 a2 a3 a5 a6 a4
      obtain rfl : i = 8 := by omega
      exact bX4_reset_19 P M _ ⟨fun _ => l2 24 0 rfl M k0 k1 a1 a2 a3 a6 a4 (a5.trans funI0), fun e => absurd (by decide) e⟩
    | succ d ih =>
      intro i hi M k0 k1 a1 a2 a3 a5 a6 a4
      refine bX4_reset_19 P M _ ⟨fun e => absurd ((nI_leI (a := 8) (by omega) (by omega)).mp e) (by omega), fun _ => ⟨i, rfl, by omega, ?_⟩⟩
      rw [nI_1]
      exact ih (i + 1) (by omega) _ (k0.zs (by omega)) k1 a1 a2 a3 a5 a6 (updF a4)
  exact l1 8 0 rfl _ (((show KQ X X from fun _ _ _ => rfl).zs (by omega)).zs (by omega) |>.zs (by omega)) rfl rfl rfl rfl rfl rfl funI0
theorem y_first {P : zX → Prop} (k0 : KZ Y N) (z : ∀ M, KZ Y M → (∀ k, 34 ≤ k → M 0 k = N 0 k) → M 0 25 = 12 → M 0 26 = 20 → M 0 27 = 3 → (∀ k, k < 8 → M 18 k = 0) → (∀ v, v < 24 → M 20 v = 0) → (∀ p, p < 12 → M 19 p = -4) → (∀ k, k < 6 → M 21 k = 0) → P M) : zPw SY 0 mX10_firstDraft [.ref 0] N P := by
  refine eX10_firstDraft P N ?_
  have l4 : ∀ d i, i + d = 6 → ∀ M : zX, KZ Y M → (∀ k, 34 ≤ k → M 0 k = N 0 k) → M 0 25 = 12 → M 0 26 = 20 → M 0 27 = 3 → (∀ k, k < 8 → M 18 k = 0) → (∀ v, v < 24 → M 20 v = 0) → (∀ p, p < 12 → M 19 p = -4) → (∀ k, k < i → M 21 k = 0) → LX10_firstDraft_83 P M (nI i) := by
    intro d
    induction d with
    | zero =>
      intro i hi M k0 k1 a1 a2 a3 a4 a5 a6 a7
      obtain rfl : i = 6 := by omega
      exact bX10_firstDraft_83 P M _ ⟨fun _ => z M k0 k1 a1 a2 a3 a4 a5 a6 a7, fun e => absurd (by decide) e⟩
    | succ d ih =>
      intro i hi M k0 k1 a1 a2 a3 a4 a5 a6 a7
      refine bX10_firstDraft_83 P M _ ⟨fun e => absurd ((nI_leI (a := 6) (by omega) (by omega)).mp e) (by omega), fun _ => ⟨i, rfl, by omega, ?_⟩⟩
      rw [nI_1]
      refine ih (i + 1) (by omega) _ (k0.za (by omega) (by omega)) k1 a1 a2 a3 a4 a5 a6 (fun p hp => ?_)
      show upd (M 21) i (vp_nar .boolean 0) p = 0
      by_cases q : p = i
      · rw [q, pk_us]; rfl
      · rw [pk_un q]; exact a7 p (by omega)
  have l3 : ∀ d i, i + d = 24 → ∀ M : zX, KZ Y M → (∀ k, 34 ≤ k → M 0 k = N 0 k) → M 0 25 = 12 → M 0 26 = 20 → M 0 27 = 3 → (∀ k, k < 8 → M 18 k = 0) → (∀ v, v < i → M 20 v = 0) → (∀ p, p < 12 → M 19 p = -4) → LX10_firstDraft_62 P M (nI i) := by
    intro d
    induction d with
    | zero =>
      intro i hi M k0 k1 a1 a2 a3 a4 a5 a6
      obtain rfl : i = 24 := by omega
      exact bX10_firstDraft_62 P M _ ⟨fun _ => l4 6 0 rfl M k0 k1 a1 a2 a3 a4 a5 a6 (fun p hp => absurd hp (by omega)), fun e => absurd (by decide) e⟩
    | succ d ih =>
      intro i hi M k0 k1 a1 a2 a3 a4 a5 a6
      refine bX10_firstDraft_62 P M _ ⟨fun e => absurd ((nI_leI (a := 24) (by omega) (by omega)).mp e) (by omega), fun _ => ⟨i, rfl, by omega, ?_⟩⟩
      rw [nI_1]
      refine ih (i + 1) (by omega) _ (k0.za (by omega) (by omega)) k1 a1 a2 a3 a4 (fun p hp => ?_) a6
      show upd (M 20) i 0 p = 0
      by_cases q : p = i
      · rw [q, pk_us]
      · rw [pk_un q]; exact a5 p (by omega)
  have l2 : ∀ d i, i + d = 12 → ∀ M : zX, KZ Y M → (∀ k, 34 ≤ k → M 0 k = N 0 k) → M 0 25 = 12 → M 0 26 = 20 → M 0 27 = 3 → (∀ k, k < 8 → M 18 k = 0) → (∀ p, p < i → M 19 p = -4) → LX10_firstDraft_40 P M (nI i) := by
    intro d
    induction d with
    | zero =>
      intro i hi M k0 k1 a1 a2 a3 a4 a6
      obtain rfl : i = 12 := by omega
      exact bX10_firstDraft_40 P M _ ⟨fun _ => l3 24 0 rfl M k0 k1 a1 a2 a3 a4 (fun p hp => absurd hp (by omega)) a6, fun e => absurd (by decide) e⟩
    | succ d ih =>
      intro i hi M k0 k1 a1 a2 a3 a4 a6
      refine bX10_firstDraft_40 P M _ ⟨fun e => absurd ((nI_leI (a := 12) (by omega) (by omega)).mp e) (by omega), fun _ => ⟨i, rfl, by omega, ?_⟩⟩
      rw [nI_1]
      refine ih (i + 1) (by omega) _ (k0.za (by omega) (by omega)) k1 a1 a2 a3 a4 (fun p hp => ?_)
      show upd (M 19) i (-4) p = -4
      by_cases q : p = i
      · rw [q, pk_us]
      · rw [pk_un q]; exact a6 p (by omega)
  have l1 : ∀ d i, i + d = 8 → ∀ M : zX, KZ Y M → (∀ k, 34 ≤ k → M 0 k = N 0 k) → M 0 25 = 12 → M 0 26 = 20 → M 0 27 = 3 → (∀ k, k < i → M 18 k = 0) → LX10_firstDraft_19 P M (nI i) := by
    intro d
    induction d with
    | zero =>
      intro i hi M k0 k1 a1 a2 a3 a4
      obtain rfl : i = 8 := by omega
      exact bX10_firstDraft_19 P M _ ⟨fun _ => l2 12 0 rfl M k0 k1 a1 a2 a3 a4 (fun p hp => absurd hp (by omega)), fun e => absurd (by decide) e⟩
    | succ d ih =>
      intro i hi M k0 k1 a1 a2 a3 a4
      refine bX10_firstDraft_19 P M _ ⟨fun e => absurd ((nI_leI (a := 8) (by omega) (by omega)).mp e) (by omega), fun _ => ⟨i, rfl, by omega, ?_⟩⟩
      rw [nI_1]
      refine ih (i + 1) (by omega) _ (k0.za (by omega) (by omega)) k1 a1 a2 a3 (fun p hp => ?_)
      show upd (M 18) i 0 p = 0
      by_cases q : p = i
      · rw [q, pk_us]
      · rw [pk_un q]; exact a4 p (by omega)
  exact l1 8 0 rfl _ (((k0.z0 (by omega)).z0 (by omega)).z0 (by omega)) (fun k hk => by rw [zs_nk (by omega), zs_nk (by omega), zs_nk (by omega)]) rfl rfl rfl (fun p hp => absurd hp (by omega))
end TX1
