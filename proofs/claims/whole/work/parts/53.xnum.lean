/-! the class: numbers of a line -/
section XV
variable {X Y M N D : zX}
def loK (k : Nat) : Nat := if k = 3 then 1 else 0
def hiK (k m : Nat) : Nat := if k = 0 then 7 else if k = 3 then 20 else if k = 4 then (if m = 2 then 11 else 99) else if k = 5 then 23 else 99
theorem hiK_le (k m : Nat) : hiK k m ≤ 99 := by unfold hiK; (repeat' split) <;> omega
theorem kV_lt (h : IY Y) {s : Nat} (hk : kK Y s = 2) : kV Y s < 100000 := by
  unfold kK at hk
  by_cases c0 : LY Y ≤ s
  · rw [if_pos c0] at hk; cases hk
  rw [if_neg c0] at hk
  cases c1 : isLt Y s with
  | true =>
    rw [c1, if_pos rfl] at hk
    revert hk
    (repeat' split) <;> intro hk <;> cases hk
  | false =>
    rw [c1, if_neg (by decide)] at hk
    cases c2 : isFg Y s with
    | true =>
      rw [c2, if_pos rfl] at hk
      by_cases c3 : eFg Y s ≤ s + 2
      · unfold kV
        rw [c1, if_neg (by decide)]
        have := runF_ge (isFg Y) (LY Y - s) s
        have e : eFg Y s = runF (isFg Y) (LY Y - s) s := rfl
        exact nvF_lt h _ (by omega) (by omega)
      · rw [if_neg c3] at hk; cases hk
    | false =>
      rw [c2, if_neg (by decide)] at hk
      revert hk
      (repeat' split) <;> intro hk <;> cases hk
theorem c_most {k m : Nat} (e5 : M 27 5 = nI k) (e7 : M 27 7 = nI m) (hk : k < 6) (hm : m = 1 ∨ m = 2) : zPf SX 0 mX3_most [.ref 27] M (nI (hiK k m)) := by
  refine eX3_most _ M ?_
  rw [e5, e7]
  obtain rfl | rfl | rfl | rfl | rfl | rfl : k = 0 ∨ k = 1 ∨ k = 2 ∨ k = 3 ∨ k = 4 ∨ k = 5 := by omega
  all_goals rcases hm with rfl | rfl
  all_goals decide
def xB (P : Int32 → zX → Prop) (i : Nat) (X : zX) : Prop := (((¬ ((X 27 7) - 1) = 0) → (((¬ (X 27 5) = 4) → (xQ P i 1 (zs (zs X 27 7 ((X 27 7) - 1)) 27 6 (X 27 3)))) ∧ (((X 27 5) = 4) → (∃ j10 : Nat, (X 27 3) = nI j10 ∧ j10 < 12 ∧ ((((X 61 j10) = (-4)) → (xQ P i 1 (zs (zs X 27 7 ((X 27 7) - 1)) 27 6 (X 27 3)))) ∧ ((¬ ((X 61 j10) = (-4))) → (∃ Qr12 : Int32 → zX → Prop, zPi SX 0 mX3_refuse [.ref 27, .int 4, .int (X 27 2)] (zs X 27 7 ((X 27 7) - 1)) Qr12 ∧ ∀ (r12 : Int32) (M13 : zX), Qr12 r12 M13 → (narrow .boolean (.int r12) = .int r12 ∧ xQ P i r12 M13)))))))) ∧ ((((X 27 7) - 1) = 0) → (∃ Qr14 : Int32 → zX → Prop, zPi SX 2 mX3_apply [.ref 27, .ref 58] (zs X 27 7 ((X 27 7) - 1)) Qr14 ∧ ∀ (r14 : Int32) (M15 : zX), Qr14 r14 M15 → (narrow .boolean (.int r14) = .int r14 ∧ xQ P i r14 M15))))
theorem x_num (h : IY Y) (hr : RX X Y) {p n i k m : Nat} (lm : LM2 X M D p n k m) (hk : k < 6) (hm : m = 1 ∨ m = 2) (hp : p ≤ LY Y) (hi : i ≤ 200) {P : Int32 → zX → Prop}
    (z1 : nF Y (loK k) (hiK k m) (tS Y p) ≠ 0 → ∀ v M2, KQ X M2 → M2 27 10 = nI (nF Y (loK k) (hiK k m) (tS Y p)) → M2 27 11 = nI (tS Y p) → P v M2)
    (z2 : nF Y (loK k) (hiK k m) (tS Y p) = 0 → ∀ M2, CS X M2 D (kE Y (tS Y p)) n → M2 27 2 = nI (tS Y p) → M2 27 3 = nI (kV Y (tS Y p)) → M2 27 5 = nI k → M2 27 6 = M 27 6 → M2 27 7 = nI m → xB P i M2) : LX3_text_39 P M 1 (nI i) := by
  obtain ⟨cs, e5, e7⟩ := lm
  have kz : ∀ s, kK Y s < 10 := fun s => by unfold kK; (repeat' split) <;> omega
  have kv := fun s => @kV_lt Y h s
  generalize es : tS Y p = s at *
  have kz := kz s
  have kv := kv s
  have hh := hiK_le k m
  refine x_tok h hr cs hp hi (fun e M2 q1 q2 q3 => ?_) (fun h9 M2 c2 f1 f2 f3 f5 f6 f7 => ?_)
  · rw [es] at e q3
    have : nF Y (loK k) (hiK k m) s = 1 := by unfold nF; rw [if_pos e]
    rw [this] at z1
    exact z1 (by decide) _ M2 q1 q2 q3
  rw [es] at h9 c2 f1 f2 f3
  have g5 := f5.trans e5
  have g7 := f7.trans e7
  refine eX3_take _ M2 ⟨fun _ => ⟨fun e => ?_, fun _ => ⟨xQ P i, ?_, fun r M3 q => q⟩⟩, fun e => absurd e (by rw [g5]; exact n4 k (by omega))⟩
  · rw [g7, show (0 : Int32) = nI 0 from rfl, nI_leI (by omega) (by omega)] at e; omega
  by_cases c2k : kK Y s = 2
  case neg =>
    have : nF Y (loK k) (hiK k m) s = 2 := by unfold nF; rw [if_neg h9, if_neg c2k]
    rw [this] at z1
    refine eX3_number _ M2 ⟨fun e => ?_, fun _ => x_ref2 (c := 2) c2.1 f2 (z1 (by decide))⟩
    rw [f1, show (2 : Int32) = nI 2 from rfl, nI_eq (by omega) (by omega)] at e
    exact absurd e c2k
  have f3 := f3 (Or.inr c2k)
  have kv := kv c2k
  have mo := c_most g5 g7 hk hm
  have le : M2 27 3 ≤ nI (hiK k m) ↔ kV Y s ≤ hiK k m := by rw [f3]; exact nI_leI (by omega) (by omega)
  by_cases c3 : loK k ≤ kV Y s ∧ kV Y s ≤ hiK k m
  · have body := z2 (by unfold nF; rw [if_neg h9, if_pos c2k, if_pos c3]) M2 c2 f2 f3 g5 f6 g7
    refine eX3_number _ M2 ⟨fun _ => ⟨fun e => ⟨fun e1 => ?_, fun _ => ⟨_, mo, fun _ => body, fun e1 => absurd (le.mpr c3.2) e1⟩⟩, fun e => ⟨fun e1 => ?_, fun _ => ⟨_, mo, fun _ => body, fun e1 => absurd (le.mpr c3.2) e1⟩⟩⟩, fun e => absurd (by rw [f1, c2k]; rfl) e⟩
    · rw [f3] at e1; exact absurd e1 (nI_pos (by omega))
    · have : k = 3 := by rw [g5, show (3 : Int32) = nI 3 from rfl, nI_eq (by omega) (by omega)] at e; exact e
      subst this
      rw [f3, show (1 : Int32) = nI 1 from rfl, nI_ltI (by omega) (by omega)] at e1
      have : loK 3 = 1 := rfl
      omega
  · have : nF Y (loK k) (hiK k m) s = 3 := by unfold nF; rw [if_neg h9, if_pos c2k, if_neg c3]
    rw [this] at z1
    have r3 := x_ref2 (i := i) (c := 3) c2.1 f2 (z1 (by decide))
    refine eX3_number _ M2 ⟨fun _ => ⟨fun e => ⟨fun _ => r3, fun e1 => ⟨_, mo, fun e2 => ?_, fun _ => r3⟩⟩, fun e => ⟨fun _ => r3, fun e1 => ⟨_, mo, fun e2 => ?_, fun _ => r3⟩⟩⟩, fun e => absurd (by rw [f1, c2k]; rfl) e⟩
    · have k3 : ¬ k = 3 := fun c => e (by rw [g5, c]; rfl)
      exact absurd ⟨by unfold loK; rw [if_neg k3]; exact Nat.zero_le _, le.mp e2⟩ c3
    · have k3 : k = 3 := by rw [g5, show (3 : Int32) = nI 3 from rfl, nI_eq (by omega) (by omega)] at e; exact e
      rw [f3, show (1 : Int32) = nI 1 from rfl, nI_ltI (by omega) (by omega)] at e1
      exact absurd ⟨by unfold loK; rw [if_pos k3]; omega, le.mp e2⟩ c3
theorem x_bad (h : IY Y) (hr : RX X Y) {p n i k m : Nat} (lm : LM2 X M D p n k m) (hk : k < 6) (hm : m = 1 ∨ m = 2) (hp : p ≤ LY Y) (hi : i ≤ 200) (hf : nF Y (loK k) (hiK k m) (tS Y p) ≠ 0) : CF X M i (nF Y (loK k) (hiK k m) (tS Y p)) (tS Y p) := fun P z =>
  x_num h hr lm hk hm hp hi (fun _ => z) (fun c => absurd c hf)
theorem x_first (h : IY Y) (hr : RX X Y) {p n i k : Nat} (lm : LM2 X M D p n k 2) (hk : k < 6) (hp : p ≤ LY Y) (hi : i ≤ 200) (hf : nF Y (loK k) (hiK k 2) (tS Y p) = 0) :
    (k = 4 → D 3 (kV Y (tS Y p)) ≠ -4 → CF X M i 4 (tS Y p)) ∧ (¬ (k = 4 ∧ D 3 (kV Y (tS Y p)) ≠ -4) → CG M i (fun M2 => LM X M2 D (kE Y (tS Y p)) n k 1 (kV Y (tS Y p))) (i + 1)) := by
  have hv := nF_0 hf
  have k12 : k = 4 → kV Y (tS Y p) < 12 := fun e => by
    subst e
    have : hiK 4 2 = 11 := rfl
    omega
  have ne : ∀ {M2 : zX}, M2 27 7 = nI 2 → ¬ M2 27 7 - 1 = 0 := fun e c => by rw [e] at c; exact absurd c (by decide)
  have sb : ∀ {M2 : zX}, M2 27 7 = nI 2 → M2 27 7 - 1 = nI 1 := fun e => by rw [e]; decide
  have four : ∀ {x : Int32}, x = nI k → (x = 4 ↔ k = 4) := fun e => by rw [e]; exact nI_eq (b := 4) (by omega) (by omega)
  refine ⟨fun e4 ed P z => x_num h hr lm hk (Or.inr rfl) hp hi (fun c => absurd hf c) (fun _ M2 c2 f2 f3 f5 f6 f7 => ⟨fun _ => ⟨fun c => absurd ((four f5).mpr e4) c, fun _ => ⟨_, f3, k12 e4, fun c => ?_, fun _ => x_ref2 (c := 4) (c2.1.zs (by omega)) f2 z⟩⟩, fun c => absurd c (ne f7)⟩), fun nd P z => x_num h hr lm hk (Or.inr rfl) hp hi (fun c => absurd hf c) (fun _ M2 c2 f2 f3 f5 f6 f7 => ?_)⟩
  · rw [c2.2.1.2.2.2.2.2.1] at c; exact absurd c ed
  · obtain ⟨kx, ⟨d1, d2, d3, d4, d5, d6, d7⟩, c4, c8, c10⟩ := id c2
    have fin : xQ P i 1 (zs (zs M2 27 7 (M2 27 7 - 1)) 27 6 (M2 27 3)) := xQ1 (z _ ⟨⟨(kx.zs (by omega)).zs (by omega), ⟨d1, d2, d3, d4, d5, d6, d7⟩, c4, c8, c10⟩, f5, sb f7, f3⟩)
    exact ⟨fun _ => ⟨fun _ => fin, fun c => ⟨_, f3, k12 ((four f5).mp c), fun _ => fin, fun c2 => absurd ⟨(four f5).mp c, by rw [d6] at c2; exact c2⟩ nd⟩⟩, fun c => absurd c (ne f7)⟩
/-- the last number: apply -/
theorem x_last (h : IY Y) (hr : RX X Y) {p n i k : Nat} (lm : LM2 X M D p n k 1) (hk : k < 6) (hp : p ≤ LY Y) (hi : i ≤ 200) (hf : nF Y (loK k) (hiK k 1) (tS Y p) = 0) {P : Int32 → zX → Prop}
    (z : ∀ M2, LM2 X M2 D (kE Y (tS Y p)) n k 0 → M2 27 2 = nI (tS Y p) → M2 27 3 = nI (kV Y (tS Y p)) → M2 27 6 = M 27 6 → zPi SX 2 mX3_apply [.ref 27, .ref 58] M2 (xQ P i)) : LX3_text_39 P M 1 (nI i) := by
  have ze : ∀ {M2 : zX}, M2 27 7 = nI 1 → M2 27 7 - 1 = 0 := fun e => by rw [e]; decide
  refine x_num h hr lm hk (Or.inl rfl) hp hi (fun c => absurd hf c) (fun _ M2 c2 f2 f3 f5 f6 f7 => ⟨fun c => absurd (ze f7) c, fun _ => ⟨xQ P i, ?_, fun r M3 q => ⟨q.1, q⟩⟩⟩)
  obtain ⟨kx, ⟨d1, d2, d3, d4, d5, d6, d7⟩, c4, c8, c10⟩ := id c2
  exact z (zs M2 27 7 (M2 27 7 - 1)) ⟨⟨kx.zs (by omega), ⟨d1, d2, d3, d4, d5, d6, d7⟩, c4, c8, c10⟩, f5, ze f7⟩ f2 f3 f6
theorem x_sing (h : IY Y) (hr : RX X Y) {p n i k : Nat} (lm : LM2 X M D p n k 1) (hk : 1 ≤ k) (hk3 : k ≤ 3) (hp : p ≤ LY Y) (hi : i ≤ 200) (hf : nF Y (loK k) (hiK k 1) (tS Y p) = 0) : CG M i (fun M2 => LM2 X M2 (zs D 0 (k - 1) (nI (kV Y (tS Y p)))) (kE Y (tS Y p)) n k 0) (i + 1) := fun P z => by
  refine x_last h hr lm (by omega) hp hi hf (fun M2 l2 f2 f3 f6 => ?_)
  obtain ⟨⟨kx, ⟨d1, d2, d3, d4, d5, d6, d7⟩, c4, c8, c10⟩, f5, f7⟩ := l2
  obtain rfl | rfl | rfl : k = 1 ∨ k = 2 ∨ k = 3 := by omega
  · refine eX3_apply _ M2 ⟨fun e => absurd (f5.symm.trans e) (by decide), fun _ => xQ1 (z _ ⟨⟨kx.zs (by omega), ⟨f3, d2, d3, d4, d5, d6, d7⟩, c4, c8, c10⟩, f5, f7⟩), fun e => absurd (f5.symm.trans e) (by decide), fun e => absurd (f5.symm.trans e) (by decide), fun e => absurd (f5.symm.trans e) (by decide), fun e => absurd e (by rw [f5]; decide)⟩
  · refine eX3_apply _ M2 ⟨fun e => absurd (f5.symm.trans e) (by decide), fun e => absurd (f5.symm.trans e) (by decide), fun _ => xQ1 (z _ ⟨⟨kx.zs (by omega), ⟨d1, f3, d3, d4, d5, d6, d7⟩, c4, c8, c10⟩, f5, f7⟩), fun e => absurd (f5.symm.trans e) (by decide), fun e => absurd (f5.symm.trans e) (by decide), fun e => absurd e (by rw [f5]; decide)⟩
  · refine eX3_apply _ M2 ⟨fun e => absurd (f5.symm.trans e) (by decide), fun e => absurd (f5.symm.trans e) (by decide), fun e => absurd (f5.symm.trans e) (by decide), fun _ => xQ1 (z _ ⟨⟨kx.zs (by omega), ⟨d1, d2, f3, d4, d5, d6, d7⟩, c4, c8, c10⟩, f5, f7⟩), fun e => absurd (f5.symm.trans e) (by decide), fun e => absurd e (by rw [f5]; decide)⟩
theorem x_dry (h : IY Y) (hr : RX X Y) {p n i f : Nat} (lm : LM X M D p n 4 1 f) (hff : f < 12) (hp : p ≤ LY Y) (hi : i ≤ 200) (hf : nF Y (loK 4) (hiK 4 1) (tS Y p) = 0) : CG M i (fun M2 => LM2 X M2 (zs D 3 f (nI (kV Y (tS Y p)))) (kE Y (tS Y p)) n 4 0) (i + 1) := fun P z => by
  obtain ⟨cs, e5, e7, e6⟩ := lm
  refine x_last h hr ⟨cs, e5, e7⟩ (by decide) hp hi hf (fun M2 l2 f2 f3 f6 => ?_)
  obtain ⟨⟨kx, ⟨d1, d2, d3, d4, d5, d6, d7⟩, c4, c8, c10⟩, f5, f7⟩ := l2
  refine eX3_apply _ M2 ⟨fun e => absurd (f5.symm.trans e) (by decide), fun e => absurd (f5.symm.trans e) (by decide), fun e => absurd (f5.symm.trans e) (by decide), fun e => absurd (f5.symm.trans e) (by decide), fun _ => ⟨f, f6.trans e6, hff, xQ1 (z _ ⟨⟨kx.zs (by omega), ⟨d1, d2, d3, d4, d5, ?_, d7⟩, c4, c8, c10⟩, f5, f7⟩)⟩, fun e => absurd e (by rw [f5]; decide)⟩
  show upd (M2 61) f (M2 27 3) = upd (D 3) f (nI (kV Y (tS Y p)))
  rw [d6, f3]
theorem x_hear (h : IY Y) (hr : RX X Y) {p n i f : Nat} (lm : LM X M D p n 0 1 f) (hff : f < 8) (hp : p ≤ LY Y) (hi : i ≤ 200) (hf : nF Y (loK 0) (hiK 0 1) (tS Y p) = 0) :
    (bt (D 1 f) (kV Y (tS Y p)) = true → CF X M i 4 (tS Y p)) ∧ (bt (D 1 f) (kV Y (tS Y p)) = false → CG M i (fun M2 => LM2 X M2 (zs D 1 f (D 1 f ||| zshl 1 (nI (kV Y (tS Y p))))) (kE Y (tS Y p)) n 0 0) (i + 1)) := by
  obtain ⟨cs, e5, e7, e6⟩ := lm
  have hv := nF_0 hf
  have h7 : hiK 0 1 = 7 := rfl
  have go : ∀ P : Int32 → zX → Prop, (∀ M2, LM2 X M2 D (kE Y (tS Y p)) n 0 0 → M2 27 2 = nI (tS Y p) → M2 27 3 = nI (kV Y (tS Y p)) → M2 27 6 = nI f → (((zshr (M2 59 f) (M2 27 3) &&& 1) = 1) ↔ bt (D 1 f) (kV Y (tS Y p)) = true) → zPi SX 1 mX3_applyHear [.ref 27, .ref 58] M2 (xQ P i)) → LX3_text_39 P M 1 (nI i) := fun P z => by
    refine x_last h hr ⟨cs, e5, e7⟩ (by decide) hp hi hf (fun M2 l2 f2 f3 f6 => ?_)
    have f5 := l2.2.1
    refine eX3_apply _ M2 ⟨fun _ => ⟨xQ P i, z M2 l2 f2 f3 (f6.trans e6) ?_, fun r M3 q => ⟨q.1, q⟩⟩, fun e => absurd (f5.symm.trans e) (by decide), fun e => absurd (f5.symm.trans e) (by decide), fun e => absurd (f5.symm.trans e) (by decide), fun e => absurd (f5.symm.trans e) (by decide), fun e => absurd e (by rw [f5]; decide)⟩
    rw [l2.1.2.1.2.2.2.1, f3]
    exact zshl9 _ (by omega)
  refine ⟨fun b P z => go P (fun M2 l2 f2 f3 f6 sb => eX3_applyHear _ M2 ⟨f, f6, hff, fun c => absurd (sb.mpr b) c, fun _ => x_ref2 (c := 4) l2.1.1 f2 z⟩), fun b P z => go P (fun M2 l2 f2 f3 f6 sb => eX3_applyHear _ M2 ⟨f, f6, hff, fun _ => ⟨f, f6, hff, f, f6, hff, ?_⟩, fun c => absurd (sb.mp c) (by rw [b]; decide)⟩)⟩
  obtain ⟨⟨kx, ⟨d1, d2, d3, d4, d5, d6, d7⟩, c4, c8, c10⟩, f5, f7⟩ := l2
  refine xQ1 (z _ ⟨⟨kx.zs (by omega), ⟨d1, d2, d3, ?_, d5, d6, d7⟩, c4, c8, c10⟩, f5, f7⟩)
  show upd (M2 59) f (M2 59 f ||| zshl 1 (M2 27 3)) = upd (D 1) f (D 1 f ||| zshl 1 (nI (kV Y (tS Y p))))
  rw [d4, f3]
def prD (D : zX) (a b : Nat) : zX := zs (zs D 2 a (D 2 a ||| zshl 1 (nI b))) 2 b ((zs D 2 a (D 2 a ||| zshl 1 (nI b))) 2 b ||| zshl 1 (nI a))
theorem x_pair (h : IY Y) (hr : RX X Y) {p n i f : Nat} (lm : LM X M D p n 5 1 f) (hff : f < 24) (hp : p ≤ LY Y) (hi : i ≤ 200) (hf : nF Y (loK 5) (hiK 5 1) (tS Y p) = 0) :
    (kV Y (tS Y p) = f → CF X M i 3 (tS Y p)) ∧ (kV Y (tS Y p) ≠ f → (bt (D 2 f) (kV Y (tS Y p)) = true → CF X M i 4 (tS Y p)) ∧ (bt (D 2 f) (kV Y (tS Y p)) = false → CG M i (fun M2 => LM2 X M2 (prD D f (kV Y (tS Y p))) (kE Y (tS Y p)) n 5 0) (i + 1))) := by
  obtain ⟨cs, e5, e7, e6⟩ := lm
  have hv := nF_0 hf
  have h7 : hiK 5 1 = 23 := rfl
  have go : ∀ P : Int32 → zX → Prop, (∀ M2, LM2 X M2 D (kE Y (tS Y p)) n 5 0 → M2 27 2 = nI (tS Y p) → M2 27 3 = nI (kV Y (tS Y p)) → M2 27 6 = nI f → (((zshr (M2 60 f) (M2 27 3) &&& 1) = 1) ↔ bt (D 2 f) (kV Y (tS Y p)) = true) → (M2 27 3 = M2 27 6 ↔ kV Y (tS Y p) = f) → zPi SX 1 mX3_applyPair [.ref 27, .ref 58] M2 (xQ P i)) → LX3_text_39 P M 1 (nI i) := fun P z => by
    refine x_last h hr ⟨cs, e5, e7⟩ (by decide) hp hi hf (fun M2 l2 f2 f3 f6 => ?_)
    have f5 := l2.2.1
    refine eX3_apply _ M2 ⟨fun e => absurd (f5.symm.trans e) (by decide), fun e => absurd (f5.symm.trans e) (by decide), fun e => absurd (f5.symm.trans e) (by decide), fun e => absurd (f5.symm.trans e) (by decide), fun e => absurd (f5.symm.trans e) (by decide), fun _ => ⟨xQ P i, z M2 l2 f2 f3 (f6.trans e6) ?_ ?_, fun r M3 q => ⟨q.1, q⟩⟩⟩
    · rw [l2.1.2.1.2.2.2.2.1, f3]
      exact zshl9 _ (by omega)
    · rw [f3, f6, e6]; exact nI_eq (by omega) (by omega)
  refine ⟨fun q P z => go P (fun M2 l2 f2 f3 f6 sb eq => eX3_applyPair _ M2 ⟨fun c => absurd (eq.mpr q) c, fun _ => x_ref2 (c := 3) l2.1.1 f2 z⟩), fun q => ⟨fun b P z => go P (fun M2 l2 f2 f3 f6 sb eq => eX3_applyPair _ M2 ⟨fun _ => ⟨f, f6, hff, fun c => absurd (sb.mpr b) c, fun _ => x_ref2 (c := 4) l2.1.1 f2 z⟩, fun c => absurd (eq.mp c) q⟩), fun b P z => go P (fun M2 l2 f2 f3 f6 sb eq => eX3_applyPair _ M2 ⟨fun _ => ⟨f, f6, hff, fun _ => ⟨f, f6, hff, f, f6, hff, _, f3, by omega, _, f3, by omega, ?_⟩, fun c => absurd (sb.mp c) (by rw [b]; decide)⟩, fun c => absurd (eq.mp c) q⟩)⟩⟩
  obtain ⟨⟨kx, ⟨d1, d2, d3, d4, d5, d6, d7⟩, c4, c8, c10⟩, f5, f7⟩ := l2
  refine xQ1 (z _ ⟨⟨(kx.zs (by omega)).zs (by omega), ⟨d1, d2, d3, d4, ?_, d6, d7⟩, c4, c8, c10⟩, f5, f7⟩)
  show upd (upd (M2 60) f (M2 60 f ||| zshl 1 (M2 27 3))) _ (upd (M2 60) f (M2 60 f ||| zshl 1 (M2 27 3)) _ ||| zshl 1 (M2 27 6)) = upd (upd (D 2) f (D 2 f ||| zshl 1 (nI (kV Y (tS Y p))))) _ (upd (D 2) f (D 2 f ||| zshl 1 (nI (kV Y (tS Y p)))) _ ||| zshl 1 (nI f))
  rw [d5, f3, f6]
end XV
