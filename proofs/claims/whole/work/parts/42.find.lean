theorem smF_n {f : Nat → Nat} : ∀ {n : Nat}, (∀ p, p < n → f p ≤ 1) → smF f n ≤ n
  | 0, _ => Nat.le_refl _
  | n + 1, h => Nat.add_le_add (smF_n (fun p hp => h p (by omega))) (h n (by omega))
theorem DI.fin2 {E : Nat → Nat → Nat → Prop} {cy : Nat} {wet : Nat → Bool} {fr : Nat} (hE : ∀ p c q, E p c q → p < 12 ∧ q < 12 ∧ 1 ≤ c ∧ c ≤ 9) (hcy : cy ≤ 20) (hf : fr < 12) {b : Nat → Nat} {dn : Nat → Bool} (h : DI E cy wet fr b dn) (hs : ∀ s, s < 252 → b s < 1000000 → b s ≤ 3000) (hl : ∀ s, s < 252 → dn s = false → b s = 1000000) : ∀ k t p d, Rn E cy wet fr k t p d → b (21 * p + d) < 1000000 := by
  obtain ⟨h1, h2, h3, h4, h5⟩ := h
  intro k
  induction k with
  | zero =>
    rintro t p d ⟨rfl, rfl, rfl⟩
    rw [Nat.add_zero, h5]; decide
  | succ k ih =>
    rintro t q e ⟨t', p, d, c, g1, g2, g3, rfl, rfl⟩
    obtain ⟨hp, hq, c1, c2⟩ := hE _ _ _ g2
    have hd : d ≤ cy := Rr.dry ⟨k, g1⟩
    have b1 := ih t' p d g1
    have e1 : (21 * p + d) / 21 = p := by omega
    have e2 : (21 * p + d) % 21 = d := by omega
    cases hdn : dn (21 * p + d) with
    | false => have := hl _ (by omega) hdn; omega
    | true =>
      have := (h3 _ (by omega) hdn).2 c q (by rw [e1]; exact g2) (by rw [e2]; exact g3)
      rw [e2] at this
      have := hs _ (by omega) b1
      omega
section FW
variable {X Y M : zX} {l : Int32} {cy : Nat} {b b0 : Nat → Nat} {dn : Nat → Bool}
def Pk (b : Nat → Nat) (dn : Nat → Bool) (i : Nat) (r : Int32) : Prop := (r = -4 ∧ ∀ s, s < i → dn s = false → b s = 1000000) ∨ ∃ u, u < i ∧ r = nI u ∧ dn u = false ∧ b u < 1000000 ∧ ∀ s, s < i → dn s = false → b u ≤ b s
theorem dj_pick (o : DM Y b dn M) (hb : ∀ s, s < 252 → b s ≤ 1000000) {P : zX → Prop} (K0 : (∀ s, s < 252 → dn s = false → b s = 1000000) → P M) (K1 : ∀ u, u < 252 → dn u = false → b u < 1000000 → (∀ s, s < 252 → dn s = false → b u ≤ b s) → LX10_findWays_147 P (zs M 24 u 1) l 1 (nI u) 0) : LX10_findWays_43 P M l 1 := by
  refine bX10_findWays_43 P M _ _ ⟨fun e => absurd e (by decide), fun _ => ?_⟩
  refine zdown0 (P := fun i => ∀ r, Pk b dn i r → LX10_findWays_54 P M l r (nI i)) 252 ?_ ?_ (-4) (Or.inl ⟨rfl, fun s hs => by omega⟩)
  · intro r pk
    refine bX10_findWays_54 P M _ _ _ ⟨fun _ => ⟨fun e => ?_, fun e => ?_⟩, fun e => absurd (by decide) e⟩
    · rcases pk with ⟨_, g⟩ | ⟨u, hu, g, _⟩
      · exact bX10_findWays_43 P M _ _ ⟨fun _ => K0 g, fun e => absurd rfl e⟩
      · exact absurd (g.symm.trans e) (neg4_ne u (by omega))
    · rcases pk with ⟨g, _⟩ | ⟨u, hu, g, g1, g2, g3⟩
      · exact absurd g e
      · subst g; exact ⟨u, rfl, hu, K1 u hu g1 g2 g3⟩
  · intro i hi ih r pk
    rw [← nI_1 i] at ih
    have bi := hb i hi
    have far : 1000000 ≤ M 23 i ↔ b i = 1000000 := by
      rw [o.2.1 i hi, show (1000000 : Int32) = nI 1000000 from rfl, nI_leI (by omega) (by omega)]; omega
    have ext : (dn i = false → b i = 1000000) → ∀ r, Pk b dn i r → Pk b dn (i + 1) r := fun g r pk => by
      rcases pk with ⟨e, k⟩ | ⟨u, hu, e, k1, k2, k3⟩
      · refine Or.inl ⟨e, fun s hs hd => ?_⟩
        by_cases q : s = i
        · subst q; exact g hd
        · exact k s (by omega) hd
      · refine Or.inr ⟨u, by omega, e, k1, k2, fun s hs hd => ?_⟩
        by_cases q : s = i
        · subst q; have := g hd; omega
        · exact k3 s (by omega) hd
    refine bX10_findWays_54 P M _ _ _ ⟨fun e => absurd ((nI_leI (a := 252) (by omega) (by omega)).mp e) (by omega), fun _ => ⟨i, rfl, hi, fun e => ?_, fun e => ⟨i, rfl, hi, fun e2 => ?_, fun e2 => ⟨fun e3 => ?_, fun e3 => ⟨i, rfl, hi, ?_⟩⟩⟩⟩⟩
    · rw [o.2.2 i hi, b2i_n] at e
      exact ih r (ext (fun q => by rw [e] at q; cases q) r pk)
    · exact ih r (ext (fun _ => far.mp e2) r pk)
    · rw [o.2.2 i hi, b2i_0] at e
      have e2 : b i < 1000000 := Nat.lt_of_le_of_ne bi (fun q => e2 (far.mpr q))
      rcases pk with ⟨_, k⟩ | ⟨u, hu, g, _⟩
      · refine ih _ (Or.inr ⟨i, by omega, rfl, e, e2, fun s hs hd => ?_⟩)
        by_cases q : s = i
        · subst q; exact Nat.le_refl _
        · rw [k s (by omega) hd]; omega
      · exact absurd (g.symm.trans e3) (neg4_ne u (by omega))
    · rw [o.2.2 i hi, b2i_0] at e
      have e2 : b i < 1000000 := Nat.lt_of_le_of_ne bi (fun q => e2 (far.mpr q))
      rcases pk with ⟨g, _⟩ | ⟨u, hu, g, k1, k2, k3⟩
      · exact absurd g e3
      · refine ⟨u, g, by omega, fun e4 => ?_, fun e4 => ?_⟩
        · rw [o.2.1 i hi, o.2.1 u (by omega), nI_leI (by omega) (by omega)] at e4
          refine ih r (Or.inr ⟨u, by omega, g, k1, k2, fun s hs hd => ?_⟩)
          by_cases q : s = i
          · subst q; exact e4
          · exact k3 s (by omega) hd
        · rw [o.2.1 i hi, o.2.1 u (by omega), nI_leI (by omega) (by omega)] at e4
          refine ih _ (Or.inr ⟨i, by omega, rfl, e, e2, fun s hs hd => ?_⟩)
          by_cases q : s = i
          · subst q; exact Nat.le_refl _
          · have := k3 s (by omega) hd; omega
/-- what findWays leaves -/
def FW (Y : zX) (l : Int32) (cy fr : Nat) (M : zX) : Prop := ∃ b dn, DM Y b dn M ∧ (∀ s, s < 252 → b s ≤ 1000000) ∧ (∀ s, s < 252 → b s < 1000000 → Rr (EY Y l) cy (bt (wtY Y)) fr (b s) (s / 21) (s % 21)) ∧ ∀ t p d, Rr (EY Y l) cy (bt (wtY Y)) fr t p d → b (21 * p + d) ≤ t ∧ b (21 * p + d) < 1000000
theorem cY_findWays (h : Rel X Y) (hcy : cy ≤ 20) (ecy : Y 0 21 = nI cy) {fr : Nat} (hf : fr < 12) {Y0 : zX} (e0 : ∀ a, a ≠ 23 → a ≠ 24 → Y0 a = Y a) : zPw SY 2 mX10_findWays [.ref 0, .int l, .int (nI fr)] Y0 (FW Y l cy fr) := by
  have hE := EY_ok (l := l) h.1
  have main : ∀ n (M : zX) (b : Nat → Nat) (dn : Nat → Bool), n ≤ 252 → smF (fun s => if dn s then 0 else 1) 252 ≤ n → (∀ s, s < 252 → b s < 1000000 → b s + 9 * n ≤ 2268) → DM Y b dn M → DI (EY Y l) cy (bt (wtY Y)) fr b dn → LX10_findWays_43 (FW Y l cy fr) M l 1 := by
    intro n
    induction n with
    | zero =>
      intro M b dn hn0 hn hs o di
      have hz := smF_0 (f := fun s => if dn s then 0 else 1) (n := 252) (by omega)
      have all : ∀ s, s < 252 → dn s = true := fun s hs => by
        have := hz s hs
        cases q : dn s with
        | true => rfl
        | false => simp [q] at this
      refine dj_pick o di.1 (fun g => ⟨b, dn, o, di.1, di.2.1, ?_⟩) (fun u hu g => by rw [all u hu] at g; cases g)
      rintro t p d ⟨k, hr⟩
      exact ⟨di.fin (fun p c q e => (hE p c q e).2.1) hcy hf g k t p d hr, di.fin2 hE hcy hf (fun s h1 h2 => by have := hs s h1 h2; omega) g k t p d hr⟩
    | succ n ih =>
      intro M b dn hn0 hn hs o di
      refine dj_pick o di.1 (fun g => ⟨b, dn, o, di.1, di.2.1, ?_⟩) (fun u hu g1 g2 g3 => ?_)
      · rintro t p d ⟨k, hr⟩
        exact ⟨di.fin (fun p c q e => (hE p c q e).2.1) hcy hf g k t p d hr, di.fin2 hE hcy hf (fun s h1 h2 => by have := hs s h1 h2; omega) g k t p d hr⟩
      · have o2 : DM Y b (fun s => if s = u then true else dn s) (zs M 24 u 1) := by
          refine ⟨fun a h1 h2 => by rw [zs_ne h2]; exact o.1 a h1 h2, fun s hs => by rw [zs_ne (by decide)]; exact o.2.1 s hs, fun s hs => ?_⟩
          by_cases q : s = u
          · subst q; rw [zs_eq]; simp only [if_true]; rfl
          · rw [zs_nk q]; simp only [if_neg q]; exact o.2.2 s hs
        refine dj_relax h o2 di.1 hcy ecy hu (fun M2 b2 o3 r3 => ih M2 b2 _ (by omega) ?_ (fun s h1 h2 => ?_) o3 (di.step (fun p c q e => (hE p c q e).2.1) hcy hu g2 g1 g3 r3 (if_pos rfl) (fun s hs => if_neg hs)))
        · have := smF_lt (f := fun s => if dn s then 0 else 1) (g := fun s => if (if s = u then true else dn s) then 0 else 1) (n := 252) (fun s _ => by
            by_cases q : s = u
            · simp [q]
            · simp [q]) ⟨u, hu, by simp [g1]⟩
          omega
        · rcases r3.2.2 s with e | ⟨y, ⟨c, q, k1, k2, k3, k4⟩, e⟩
          · have := hs s h1 (by omega); omega
          · obtain ⟨-, -, c1, c2⟩ := hE _ _ _ k1
            have := hs u hu g2; omega
  have ini : ∀ i, i ≤ 252 → ∀ N : zX, (∀ a, a ≠ 23 → a ≠ 24 → N a = Y a) → (∀ s, s < i → N 23 s = nI 1000000) → (∀ s, s < i → N 24 s = 0) → LX10_findWays_2 (FW Y l cy fr) N l (nI fr) (nI i) := by
    refine zdown ?_ ?_
    · intro N q1 q2 q3
      refine bX10_findWays_2 _ N _ _ _ ⟨fun _ => ⟨21 * fr, by rw [show (21 : Int32) = nI 21 from rfl, pk_mul], by omega, ?_⟩, fun e => absurd (by decide) e⟩
      have o : DM Y (fun s => if s = 21 * fr then 0 else 1000000) (fun _ => false) (zs N 23 (21 * fr) 0) := by
        refine ⟨fun a h1 h2 => by rw [zs_ne h1]; exact q1 a h1 h2, fun s hs => ?_, fun s hs => q3 s hs⟩
        by_cases q : s = 21 * fr
        · subst q; rw [zs_eq]; simp only [if_true]; rfl
        · rw [zs_nk q]; simp only [if_neg q]; exact q2 s hs
      refine main 252 _ _ _ (Nat.le_refl _) (smF_n (fun s _ => by split <;> omega)) (fun s h1 h2 => ?_) o ⟨fun s hs => ?_, fun s hs hl => ?_, fun s hs hd => absurd hd Bool.false_ne_true, fun s u _ _ hd => absurd hd Bool.false_ne_true, if_pos rfl⟩
      · by_cases q : s = 21 * fr
        · simp only [if_pos q]; omega
        · simp only [if_neg q] at h2; omega
      · simp only []; split <;> omega
      · by_cases q : s = 21 * fr
        · have q1 : s / 21 = fr := by omega
          have q2 : s % 21 = 0 := by omega
          simp only [if_pos q, q1, q2]
          exact Rr.start
        · simp only [if_neg q] at hl; omega
    · intro i hi ih N q1 q2 q3
      refine bX10_findWays_2 _ N _ _ _ ⟨fun e => absurd ((nI_leI (a := 252) (by omega) (by omega)).mp e) (by omega), fun _ => ⟨i, rfl, hi, i, rfl, hi, ?_⟩⟩
      rw [nI_1]
      refine ih _ (fun a h1 h2 => by rw [zs_ne h2, zs_ne h1]; exact q1 a h1 h2) (fun s hs => ?_) (fun s hs => ?_)
      · rw [zs_ne (by decide)]
        by_cases q : s = i
        · subst q; rw [zs_eq]; rfl
        · rw [zs_nk q]; exact q2 s (by omega)
      · by_cases q : s = i
        · subst q; rw [zs_eq]; rfl
        · rw [zs_nk q, zs_ne (by decide)]; exact q3 s (by omega)
  exact eX10_findWays _ Y0 _ _ (ini 0 (by omega) Y0 e0 (fun s hs => by omega) (fun s hs => by omega))
def mnF (b : Nat → Nat) (p : Nat) : Nat → Nat
  | 0 => 1000000
  | i + 1 => if b (21 * p + i) < mnF b p i then b (21 * p + i) else mnF b p i
theorem mnF_le (b : Nat → Nat) (p : Nat) : ∀ i, mnF b p i ≤ 1000000 ∧ (∀ d, d < i → mnF b p i ≤ b (21 * p + d)) ∧ (mnF b p i = 1000000 ∨ ∃ d, d < i ∧ mnF b p i = b (21 * p + d))
  | 0 => ⟨Nat.le_refl _, fun d hd => by omega, Or.inl rfl⟩
  | i + 1 => by
    obtain ⟨h1, h2, h3⟩ := mnF_le b p i
    show (if b (21 * p + i) < mnF b p i then b (21 * p + i) else mnF b p i) ≤ 1000000 ∧ (∀ d, d < i + 1 → (if b (21 * p + i) < mnF b p i then b (21 * p + i) else mnF b p i) ≤ b (21 * p + d)) ∧ ((if b (21 * p + i) < mnF b p i then b (21 * p + i) else mnF b p i) = 1000000 ∨ ∃ d, d < i + 1 ∧ (if b (21 * p + i) < mnF b p i then b (21 * p + i) else mnF b p i) = b (21 * p + d))
    by_cases q : b (21 * p + i) < mnF b p i
    · rw [if_pos q]
      refine ⟨by omega, fun d hd => ?_, Or.inr ⟨i, by omega, rfl⟩⟩
      by_cases e : d = i
      · subst e; exact Nat.le_refl _
      · have := h2 d (by omega); omega
    · rw [if_neg q]
      refine ⟨h1, fun d hd => ?_, ?_⟩
      · by_cases e : d = i
        · subst e; omega
        · exact h2 d (by omega)
      · rcases h3 with e | ⟨d, hd, e⟩
        · exact Or.inl e
        · exact Or.inr ⟨d, by omega, e⟩
theorem cY_fewestTo (o : DM Y b dn M) (hb : ∀ s, s < 252 → b s ≤ 1000000) {p : Nat} (hp : p < 12) : zPf SY 0 mX10_fewestTo [.ref 0, .int (nI p)] M (nI (mnF b p 21)) := by
  refine eX10_fewestTo _ M _ ?_
  have m0 : (1000000 : Int32) = nI (mnF b p 0) := by
    rw [show mnF b p 0 = 1000000 from rfl]; rfl
  have ms : ∀ i, mnF b p (i + 1) = if b (21 * p + i) < mnF b p i then b (21 * p + i) else mnF b p i := fun _ => rfl
  have ml : ∀ i, mnF b p i ≤ 1000000 := fun i => (mnF_le b p i).1
  rw [m0]
  generalize mnF b p = f at *
  refine zdown0 (P := fun i => LX10_fewestTo_6 (nI (f 21)) M (nI p) (nI (f i)) (nI i)) 21 ?_ ?_
  · exact bX10_fewestTo_6 _ M _ _ _ ⟨fun _ => rfl, fun e => absurd (by decide) e⟩
  · intro i hi ih
    rw [← nI_1 i] at ih
    have h9 : 21 * p + i < 252 := by omega
    have ej : 21 * nI p + nI i = nI (21 * p + i) := by rw [show (21 : Int32) = nI 21 from rfl, pk_mul, nI_add]
    have b1 := hb _ h9; have b2 := ml i
    refine bX10_fewestTo_6 _ M _ _ _ ⟨fun e => absurd ((nI_leI (a := 21) (by omega) (by omega)).mp e) (by omega), fun _ => ⟨_, ej, h9, fun e => ?_, fun e => ⟨_, ej, h9, ?_⟩⟩⟩
    · rw [o.2.1 _ h9, nI_leI (by omega) (by omega)] at e
      rw [ms i, if_neg (by omega)] at ih; exact ih
    · rw [o.2.1 _ h9, nI_leI (by omega) (by omega)] at e
      rw [ms i, if_pos (by omega)] at ih
      rw [o.2.1 _ h9]; exact ih
theorem FW.ans {fr p : Nat} (hcy : cy ≤ 20) (hp : p < 12) (o : DM Y b dn M) (s1 : ∀ s, s < 252 → b s < 1000000 → Rr (EY Y l) cy (bt (wtY Y)) fr (b s) (s / 21) (s % 21)) (s2 : ∀ t p d, Rr (EY Y l) cy (bt (wtY Y)) fr t p d → b (21 * p + d) ≤ t ∧ b (21 * p + d) < 1000000) : (mnF b p 21 = 1000000 → FD (EY Y l) cy (bt (wtY Y)) fr p (-4)) ∧ (mnF b p 21 ≠ 1000000 → FD (EY Y l) cy (bt (wtY Y)) fr p (nI (mnF b p 21))) := by
  obtain ⟨h1, h2, h3⟩ := mnF_le b p 21
  have lb : ∀ t d, Rr (EY Y l) cy (bt (wtY Y)) fr t p d → mnF b p 21 ≤ t := fun t d hr => Nat.le_trans (h2 d (by have := hr.dry; omega)) (s2 t p d hr).1
  constructor
  · intro e
    refine Or.inl ⟨rfl, fun t d hr => ?_⟩
    have := h2 d (by have := hr.dry; omega)
    have := (s2 t p d hr).2
    omega
  · intro e
    rcases h3 with z | ⟨d, hd, z⟩
    · exact absurd z e
    · have := s1 (21 * p + d) (by omega) (by omega)
      rw [show (21 * p + d) / 21 = p by omega, show (21 * p + d) % 21 = d by omega, ← z] at this
      exact Or.inr ⟨_, d, by omega, this, rfl, lb⟩
end FW
