/-! the class: the text, token by token -/
section XU
variable {X Y M N D : zX}
/-- a number of lo to hi stands at s: 0; else the fault -/
def nF (Y : zX) (lo hi s : Nat) : Nat := if kK Y s = 9 then 1 else if kK Y s = 2 then (if lo ≤ kV Y s ∧ kV Y s ≤ hi then 0 else 3) else 2
def sF (Y : zX) (s : Nat) : Nat := if kK Y s = 9 then 1 else if kK Y s = 3 then 0 else 2
theorem nF_0 {lo hi s : Nat} (h : nF Y lo hi s = 0) : kK Y s = 2 ∧ lo ≤ kV Y s ∧ kV Y s ≤ hi := by
  unfold nF at h
  by_cases c1 : kK Y s = 9
  · rw [if_pos c1] at h; cases h
  · rw [if_neg c1] at h
    by_cases c2 : kK Y s = 2
    · rw [if_pos c2] at h
      by_cases c3 : lo ≤ kV Y s ∧ kV Y s ≤ hi
      · exact ⟨c2, c3⟩
      · rw [if_neg c3] at h; cases h
    · rw [if_neg c2] at h; cases h
theorem nF_le (Y : zX) (lo hi s : Nat) : nF Y lo hi s ≤ 3 := by unfold nF; (repeat' split) <;> omega
theorem sF_le (Y : zX) (s : Nat) : sF Y s ≤ 2 := by unfold sF; (repeat' split) <;> omega
def KQ (X M : zX) : Prop := ∀ a, a ≠ 27 → a < 58 ∨ 61 < a → M a = X a
theorem KQ.zs {q k : Nat} {v : Int32} (o : KQ X M) (h : q = 27 ∨ (58 ≤ q ∧ q ≤ 61)) : KQ X (zs M q k v) := fun a h1 h2 => by rw [zs_ne (by omega)]; exact o a h1 h2
theorem KQ.kr {M2 : zX} (o : KQ X M) (r : KR M M2) : KQ X M2 := fun a h1 h2 => by rw [r.1 a h1]; exact o a h1 h2
def PX (M D : zX) : Prop := M 58 3 = D 0 0 ∧ M 58 4 = D 0 1 ∧ M 58 5 = D 0 2 ∧ M 59 = D 1 ∧ M 60 = D 2 ∧ M 61 = D 3 ∧ M 27 9 = D 0 3
def CS (X M D : zX) (p n : Nat) : Prop := KQ X M ∧ PX M D ∧ M 27 4 = nI p ∧ M 27 8 = nI n ∧ M 27 10 = 0
theorem CS.hx {p n : Nat} (h : IY Y) (hr : RX X Y) (cs : CS X M D p n) : HX Y M := HX.of h hr (cs.1 25 (by decide) (by omega)) (cs.1 26 (by decide) (by omega))
theorem x_out {P : Int32 → zX → Prop} {x3 : Int32} (z : P (M 27 8) M) : LX3_text_39 P M 0 x3 := bX3_text_39 P M 0 x3 ⟨fun _ => z, fun _ => ⟨fun _ => z, fun e => absurd rfl e⟩⟩
theorem x_tok {P : Int32 → zX → Prop} (h : IY Y) (hr : RX X Y) {p n i : Nat} (cs : CS X M D p n) (hp : p ≤ LY Y) (hi : i ≤ 200) (hbad : kK Y (tS Y p) = 9 → ∀ M2, KQ X M2 → M2 27 10 = 1 → M2 27 11 = nI (tS Y p) → P (M2 27 8) M2)
    (hgood : kK Y (tS Y p) ≠ 9 → ∀ M2, CS X M2 D (kE Y (tS Y p)) n → M2 27 1 = nI (kK Y (tS Y p)) → M2 27 2 = nI (tS Y p) → (kK Y (tS Y p) = 1 ∨ kK Y (tS Y p) = 2 → M2 27 3 = nI (kV Y (tS Y p))) → M2 27 5 = M 27 5 → M2 27 6 = M 27 6 → M2 27 7 = M 27 7 → zPi SX 4 mX3_take [.ref 27, .ref 58] M2 (fun r M3 => (r = 0 → P (M3 27 8) M3) ∧ (¬ r = 0 → LX3_text_39 P M3 1 (nI (i + 1))))) : LX3_text_39 P M 1 (nI i) := by
  refine bX3_text_39 P M 1 _ ⟨fun e => absurd ((nI_ltI (a := 200) (by omega) (by omega)).mp e) (by omega), fun _ => ⟨fun e => absurd e (by decide), fun _ => ⟨TX Y (tS Y p) M, cX_token h (cs.hx h hr) hp cs.2.2.1, fun r M2 t => ?_⟩⟩⟩
  obtain ⟨kx, ⟨d1, d2, d3, d4, d5, d6, d7⟩, c4, c8, c10⟩ := cs
  obtain ⟨t1, t2, t3⟩ := t
  rw [nI_1]
  rcases t3 with ⟨g1, rfl, g2, g3, g4, g5⟩ | ⟨g1, rfl, g2, g3⟩
  · refine ⟨fun e => absurd e (by decide), fun _ => ⟨_, hgood g1 M2 ⟨kx.kr t1, ⟨?_, ?_, ?_, ?_, ?_, ?_, ?_⟩, g4, ?_, ?_⟩ g3 t2 g5 (t1.2 5 (by omega) (by omega)) (t1.2 6 (by omega) (by omega)) (t1.2 7 (by omega) (by omega)), fun r M3 z => ⟨fun e => x_out (z.1 e), fun e => z.2 e⟩⟩⟩
    · rw [t1.1 58 (by decide)]; exact d1
    · rw [t1.1 58 (by decide)]; exact d2
    · rw [t1.1 58 (by decide)]; exact d3
    · rw [t1.1 59 (by decide)]; exact d4
    · rw [t1.1 60 (by decide)]; exact d5
    · rw [t1.1 61 (by decide)]; exact d6
    · rw [t1.2 9 (by omega) (by omega)]; exact d7
    · rw [t1.2 8 (by omega) (by omega)]; exact c8
    · rw [g2]; exact c10
  · exact ⟨fun _ => x_out (hbad g1 M2 (kx.kr t1) g2 g3), fun e => absurd rfl e⟩
/-- the class ends with this fault -/
def CF (X M : zX) (i c s : Nat) : Prop := ∀ P : Int32 → zX → Prop, (∀ v M2, KQ X M2 → M2 27 10 = nI c → M2 27 11 = nI s → P v M2) → LX3_text_39 P M 1 (nI i)
/-- the class comes to such a memory -/
def CG (M : zX) (i : Nat) (S : zX → Prop) (i2 : Nat) : Prop := ∀ P : Int32 → zX → Prop, (∀ M2, S M2 → LX3_text_39 P M2 1 (nI i2)) → LX3_text_39 P M 1 (nI i)
theorem CG.cf {i i2 c s : Nat} {S : zX → Prop} (g : CG M i S i2) (f : ∀ M2, S M2 → CF X M2 i2 c s) : CF X M i c s := fun P z => g P (fun M2 s2 => f M2 s2 P z)
theorem CG.trans {i i2 i3 : Nat} {S S2 : zX → Prop} (g : CG M i S i2) (f : ∀ M2, S M2 → CG M2 i2 S2 i3) : CG M i S2 i3 := fun P z => g P (fun M2 s2 => f M2 s2 P z)
def isSg (k : Nat) : Bool := decide (k = 1) || decide (k = 2) || decide (k = 3)
theorem kV_le5 {s : Nat} (hk : kK Y s = 1) : kV Y s ≤ 5 := by
  unfold kK at hk
  by_cases c0 : LY Y ≤ s
  · rw [if_pos c0] at hk; cases hk
  rw [if_neg c0] at hk
  cases c1 : isLt Y s with
  | true =>
    rw [c1, if_pos rfl] at hk
    by_cases c2 : mnV Y s (eLt Y s) = 9
    · rw [if_pos c2] at hk; cases hk
    · unfold kV
      rw [c1, if_pos rfl]
      unfold mnV at c2 ⊢
      revert c2
      (repeat' split) <;> intro c2 <;> first | omega | exact absurd rfl c2
  | false =>
    rw [c1, if_neg (by decide)] at hk
    revert hk
    (repeat' split) <;> intro hk <;> cases hk
def LM (X M D : zX) (p n k m f : Nat) : Prop := CS X M D p n ∧ M 27 5 = nI k ∧ M 27 7 = nI m ∧ M 27 6 = nI f
def LM2 (X M D : zX) (p n k m : Nat) : Prop := CS X M D p n ∧ M 27 5 = nI k ∧ M 27 7 = nI m
def LT0 (X M D : zX) (p n : Nat) : Prop := CS X M D p n ∧ M 27 5 = -4
theorem n4 (k : Nat) (hk : k < 1000) : ¬ nI k = -4 := neg4_ne k (by omega)
/-- refuse, and out -/
theorem x_ref {P : Int32 → zX → Prop} {i c s : Nat} (kx : KQ X M) (e2 : M 27 2 = nI s) (z : ∀ v M2, KQ X M2 → M2 27 10 = nI c → M2 27 11 = nI s → P v M2) : ∃ Qr : Int32 → zX → Prop, zPi SX 0 mX3_refuse [.ref 27, .int (nI c), .int (M 27 2)] M Qr ∧ ∀ (r : Int32) (M5 : zX), Qr r M5 → (narrow .boolean (.int r) = .int r ∧ ((r = 0 → P (M5 27 8) M5) ∧ (¬ r = 0 → LX3_text_39 P M5 1 (nI (i + 1))))) :=
  ⟨fun r M5 => r = 0 ∧ P (M5 27 8) M5, eX3_refuse _ _ _ _ ⟨rfl, z _ _ ((kx.zs (by omega)).zs (by omega)) rfl e2⟩, fun r M5 q => by
    obtain ⟨rfl, q2⟩ := q
    exact ⟨rfl, fun _ => q2, fun e => absurd rfl e⟩⟩
theorem zshl9 (x : Int32) {k : Nat} (hk : k < 32) : ((zshr x (nI k)) &&& 1 = 1) ↔ bt x k = true := by rw [zb x hk]; exact b2i_1
def xQ (P : Int32 → zX → Prop) (i : Nat) (r : Int32) (M3 : zX) : Prop := narrow .boolean (.int r) = .int r ∧ ((r = 0 → P (M3 27 8) M3) ∧ (¬ r = 0 → LX3_text_39 P M3 1 (nI (i + 1))))
theorem xQ1 {P : Int32 → zX → Prop} {i : Nat} {M3 : zX} (z : LX3_text_39 P M3 1 (nI (i + 1))) : xQ P i 1 M3 := ⟨rfl, fun e => absurd e (by decide), fun _ => z⟩
theorem x_ref2 {P : Int32 → zX → Prop} {i c s : Nat} {x : Int32} (kx : KQ X M) (e2 : x = nI s) (z : ∀ v M2, KQ X M2 → M2 27 10 = nI c → M2 27 11 = nI s → P v M2) : ∃ Qr : Int32 → zX → Prop, zPi SX 0 mX3_refuse [.ref 27, .int (nI c), .int x] M Qr ∧ ∀ (r : Int32) (M5 : zX), Qr r M5 → (narrow .boolean (.int r) = .int r ∧ xQ P i r M5) :=
  ⟨fun r M5 => r = 0 ∧ P (M5 27 8) M5, eX3_refuse _ _ _ _ ⟨rfl, z _ _ ((kx.zs (by omega)).zs (by omega)) rfl e2⟩, fun r M5 q => by
    obtain ⟨rfl, q2⟩ := q
    exact ⟨rfl, rfl, fun _ => q2, fun e => absurd rfl e⟩⟩
theorem x_begin (h : IY Y) (hr : RX X Y) {p n i : Nat} (ls : LT0 X M D p n) (hp : p ≤ LY Y) (hi : i ≤ 200) (h9 : kK Y (tS Y p) ≠ 9) (h0 : kK Y (tS Y p) ≠ 0) :
    (kK Y (tS Y p) ≠ 1 → CF X M i 2 (tS Y p)) ∧ (kK Y (tS Y p) = 1 → (isSg (kV Y (tS Y p)) = true → bt (D 0 3) (kV Y (tS Y p)) = true → CF X M i 4 (tS Y p)) ∧ (¬ (isSg (kV Y (tS Y p)) = true ∧ bt (D 0 3) (kV Y (tS Y p)) = true) → CG M i (fun M2 => LM2 X M2 (zs D 0 3 (D 0 3 ||| zshl 1 (nI (kV Y (tS Y p))))) (kE Y (tS Y p)) n (kV Y (tS Y p)) (if isSg (kV Y (tS Y p)) then 1 else 2)) (i + 1))) := by
  obtain ⟨cs, e5⟩ := ls
  have hL := LY_le h
  have kk5 : kK Y (tS Y p) = 1 → kV Y (tS Y p) ≤ 5 := kV_le5
  generalize es : tS Y p = s at *
  have kz : kK Y s < 10 := by unfold kK; (repeat' split) <;> omega
  have go : ∀ P : Int32 → zX → Prop, (∀ M2, CS X M2 D (kE Y s) n → M2 27 1 = nI (kK Y s) → M2 27 2 = nI s → (kK Y s = 1 ∨ kK Y s = 2 → M2 27 3 = nI (kV Y s)) → zPi SX 1 mX3_begin [.ref 27] M2 (xQ P i)) → LX3_text_39 P M 1 (nI i) := fun P z => by
    refine x_tok h hr cs hp hi (fun e => absurd (es ▸ e) h9) (fun _ M2 c2 f1 f2 f3 f5 f6 f7 => ?_)
    rw [es] at c2 f1 f2 f3
    refine eX3_take _ M2 ⟨fun e => absurd (f5.trans e5) e, fun _ => ⟨fun e => ?_, fun _ => ⟨_, z M2 c2 f1 f2 f3, fun r M3 q => ⟨fun e => ⟨fun _ => q.2.1 e, fun c => absurd rfl c⟩, fun e => ⟨fun c => absurd c (by decide), fun _ => q.2.2 e⟩⟩⟩⟩⟩
    rw [f1, show (0 : Int32) = nI 0 from rfl, nI_eq (by omega) (by omega)] at e
    exact absurd e h0
  have one : ∀ {x : Int32}, x = nI (kK Y s) → (x = 1 ↔ kK Y s = 1) := fun e => by rw [e]; exact nI_eq (b := 1) (by omega) (by omega)
  refine ⟨fun h1 P z => go P (fun M2 c2 f1 f2 f3 => eX3_begin _ M2 ⟨fun e => absurd ((one f1).mp e) h1, fun _ => x_ref2 c2.1 f2 z⟩), fun h1 => ?_⟩
  have hk := kk5 h1
  generalize ek : kV Y s = k at *
  have k3 : ∀ {M2 : zX}, M2 27 3 = nI k → ∀ j, j < 10 → (M2 27 3 = nI j ↔ k = j) := fun e j hj => by rw [e]; exact nI_eq (by omega) (by omega)
  have sh : ∀ {M2 : zX}, CS X M2 D (kE Y s) n → M2 27 3 = nI k → ((zshr (M2 27 9) (M2 27 3) &&& 1) = 1 ↔ bt (D 0 3) k = true) := fun c e => by rw [c.2.1.2.2.2.2.2.2, e]; exact zshl9 _ (by omega)
  refine ⟨fun sg b P z => go P (fun M2 c2 f1 f2 f3 => ?_), fun nb P z => go P (fun M2 c2 f1 f2 f3 => ?_)⟩
  · have f3 := f3 (Or.inl h1)
    have s1 := (sh c2 f3).mpr b
    have r4 := x_ref2 (i := i) (c := 4) c2.1 f2 z
    have sg3 : k = 1 ∨ k = 2 ∨ k = 3 := by unfold isSg at sg; simp only [Bool.or_eq_true, decide_eq_true_eq] at sg; omega
    refine eX3_begin _ M2 ⟨fun _ => ⟨fun _ => ⟨fun e => absurd s1 e, fun _ => r4⟩, fun e1 => ⟨fun _ => ⟨fun e => absurd s1 e, fun _ => r4⟩, fun e2 => ⟨fun e3 => ?_, fun _ => ⟨fun e => absurd s1 e, fun _ => r4⟩⟩⟩⟩, fun e => absurd ((one f1).mpr h1) e⟩
    have q1 : ¬ k = 1 := fun c => e1 ((k3 f3 1 (by decide)).mpr c)
    have q2 : ¬ k = 2 := fun c => e2 ((k3 f3 2 (by decide)).mpr c)
    have q3 : ¬ k = 3 := fun c => e3 ((k3 f3 3 (by decide)).mpr c)
    omega
  · have f3 := f3 (Or.inl h1)
    obtain ⟨kx, ⟨d1, d2, d3, d4, d5, d6, d7⟩, c4, c8, c10⟩ := id c2
    have fin : ∀ m : Nat, (if isSg k then 1 else 2) = m → (narrow .boolean (.int 1) = .int 1 ∧ ((1 : Int32) = 0 → P ((zs (zs (zs M2 27 9 (M2 27 9 ||| zshl 1 (M2 27 3))) 27 5 (M2 27 3)) 27 7 (nI m)) 27 8) (zs (zs (zs M2 27 9 (M2 27 9 ||| zshl 1 (M2 27 3))) 27 5 (M2 27 3)) 27 7 (nI m))) ∧ (¬ (1 : Int32) = 0 → LX3_text_39 P (zs (zs (zs M2 27 9 (M2 27 9 ||| zshl 1 (M2 27 3))) 27 5 (M2 27 3)) 27 7 (nI m)) 1 (nI (i + 1)))) := fun m em => by
      refine ⟨rfl, fun e => absurd e (by decide), fun _ => z _ ⟨⟨((kx.zs (by omega)).zs (by omega)).zs (by omega), ⟨d1, d2, d3, d4, d5, d6, ?_⟩, c4, c8, c10⟩, f3, by rw [em]; rfl⟩⟩
      show M2 27 9 ||| zshl 1 (M2 27 3) = D 0 3 ||| zshl 1 (nI k)
      rw [d7, f3]
    have nb2 : isSg k = true → ¬ (zshr (M2 27 9) (M2 27 3) &&& 1) = 1 := fun sg c => nb ⟨sg, (sh c2 f3).mp c⟩
    refine eX3_begin _ M2 ⟨fun _ => ⟨fun e1 => ?_, fun e1 => ⟨fun e2 => ?_, fun e2 => ⟨fun e3 => ?_, fun e3 => ?_⟩⟩⟩, fun e => absurd ((one f1).mpr h1) e⟩
    · have : k = 1 := (k3 f3 1 (by decide)).mp e1
      subst this
      exact ⟨fun _ => fin 1 rfl, fun e => absurd e (nb2 rfl)⟩
    · have : k = 2 := (k3 f3 2 (by decide)).mp e2
      subst this
      exact ⟨fun _ => fin 1 rfl, fun e => absurd e (nb2 rfl)⟩
    · have q1 := fun c => e1 ((k3 f3 1 (by decide)).mpr c)
      have q2 := fun c => e2 ((k3 f3 2 (by decide)).mpr c)
      have q3 := fun c => e3 ((k3 f3 3 (by decide)).mpr c)
      have : isSg k = false := by unfold isSg; rw [decide_eq_false q1, decide_eq_false q2, decide_eq_false q3]; rfl
      exact fin 2 (by rw [this]; rfl)
    · have : k = 3 := (k3 f3 3 (by decide)).mp e3
      subst this
      exact ⟨fun _ => fin 1 rfl, fun e => absurd e (nb2 rfl)⟩
theorem x_stop (h : IY Y) (hr : RX X Y) {p n i k : Nat} (lm : LM2 X M D p n k 0) (hk : k < 6) (hn : n < 1000) (hp : p ≤ LY Y) (hi : i ≤ 200) :
    (sF Y (tS Y p) ≠ 0 → CF X M i (sF Y (tS Y p)) (tS Y p)) ∧ (sF Y (tS Y p) = 0 → CG M i (fun M2 => LT0 X M2 D (kE Y (tS Y p)) (n + 1)) (i + 1)) := by
  obtain ⟨cs, e5, e7⟩ := lm
  generalize es : tS Y p = s at *
  have kz : kK Y s < 10 := by unfold kK; (repeat' split) <;> omega
  have go : ∀ P : Int32 → zX → Prop, (kK Y s = 9 → ∀ v M2, KQ X M2 → M2 27 10 = 1 → M2 27 11 = nI s → P v M2) → (kK Y s ≠ 9 → ∀ M2, CS X M2 D (kE Y s) n → M2 27 1 = nI (kK Y s) → M2 27 2 = nI s → ((M2 27 1 = 3 → (((1 : Int32) = 0 → P ((zs (zs M2 27 5 (-4)) 27 8 (M2 27 8 + 1)) 27 8) (zs (zs M2 27 5 (-4)) 27 8 (M2 27 8 + 1))) ∧ (¬ (1 : Int32) = 0 → LX3_text_39 P (zs (zs M2 27 5 (-4)) 27 8 (M2 27 8 + 1)) 1 (nI (i + 1))))) ∧ (¬ M2 27 1 = 3 → ∃ Qr : Int32 → zX → Prop, zPi SX 0 mX3_refuse [.ref 27, .int 2, .int (M2 27 2)] M2 Qr ∧ ∀ (r : Int32) (M5 : zX), Qr r M5 → (narrow .boolean (.int r) = .int r ∧ ((r = 0 → P (M5 27 8) M5) ∧ (¬ r = 0 → LX3_text_39 P M5 1 (nI (i + 1)))))))) → LX3_text_39 P M 1 (nI i) := fun P zb z => by
    refine x_tok h hr cs hp hi (fun e M2 q1 q2 q3 => zb (es ▸ e) _ M2 q1 q2 (es ▸ q3)) (fun h9 M2 c2 f1 f2 f3 f5 f6 f7 => ?_)
    rw [es] at h9 c2 f1 f2 f3
    refine eX3_take _ M2 ⟨fun _ => ⟨fun _ => z h9 M2 c2 f1 f2, fun e => absurd (by rw [f7, e7]; decide) e⟩, fun e => absurd e (by rw [f5, e5]; exact n4 k (by omega))⟩
  have three : ∀ {x : Int32}, x = nI (kK Y s) → (x = 3 ↔ kK Y s = 3) := fun e => by rw [e]; exact nI_eq (b := 3) (by omega) (by omega)
  refine ⟨fun f P z => go P (fun e v M2 q1 q2 q3 => z v M2 q1 (by rw [show sF Y s = 1 by unfold sF; rw [if_pos e]]; exact q2) q3) (fun h9 M2 c2 f1 f2 => ⟨fun e => ?_, fun e => ?_⟩), fun f P z => go P (fun e => ?_) (fun h9 M2 c2 f1 f2 => ⟨fun e => ?_, fun e => ?_⟩)⟩
  · exact absurd (by unfold sF; rw [if_neg h9, if_pos ((three f1).mp e)]) f
  · have : sF Y s = 2 := by unfold sF; rw [if_neg h9, if_neg (fun c => e ((three f1).mpr c))]
    rw [this] at z
    exact x_ref (c := 2) c2.1 f2 z
  · unfold sF at f; rw [if_pos e] at f; cases f
  · obtain ⟨kx, ⟨d1, d2, d3, d4, d5, d6, d7⟩, c4, c8, c10⟩ := c2
    exact ⟨fun c => absurd c (by decide), fun _ => z _ ⟨⟨(kx.zs (by omega)).zs (by omega), ⟨d1, d2, d3, d4, d5, d6, d7⟩, c4, by rw [← nI_1, ← c8]; rfl, c10⟩, rfl⟩⟩
  · unfold sF at f; rw [if_neg h9, if_neg (fun c => e ((three f1).mpr c))] at f; cases f
end XU
