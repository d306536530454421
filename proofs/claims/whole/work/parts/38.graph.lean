/-! ways: a graph of places, without any machine -/
def Rlx {ι : Type} (b0 b : ι → Nat) (cand : ι → Nat → Prop) : Prop := (∀ s, b s ≤ b0 s) ∧ (∀ s x, cand s x → b s ≤ x) ∧ ∀ s, b s = b0 s ∨ ∃ x, cand s x ∧ b s = x
theorem Rlx.nil {ι : Type} (b0 : ι → Nat) {cand : ι → Nat → Prop} (h : ∀ s x, ¬ cand s x) : Rlx b0 b0 cand := ⟨fun _ => Nat.le_refl _, fun s x c => absurd c (h s x), fun _ => Or.inl rfl⟩
theorem Rlx.congr {ι : Type} {b0 b : ι → Nat} {c1 c2 : ι → Nat → Prop} (h : Rlx b0 b c1) (e : ∀ s x, c1 s x ↔ c2 s x) : Rlx b0 b c2 :=
  ⟨h.1, fun s x c => h.2.1 s x ((e s x).mpr c), fun s => (h.2.2 s).imp id (fun ⟨x, c, q⟩ => ⟨x, (e s x).mp c, q⟩)⟩
theorem Rlx.add {ι : Type} {b0 b b2 : ι → Nat} {cand : ι → Nat → Prop} (h : Rlx b0 b cand) {j : ι} {x : Nat} (hj : b2 j = if x < b j then x else b j) (ho : ∀ s, s ≠ j → b2 s = b s) : Rlx b0 b2 (fun s y => cand s y ∨ (s = j ∧ y = x)) := by
  obtain ⟨h1, h2, h3⟩ := h
  have dn : ∀ s, b2 s ≤ b s := fun s => by
    by_cases e : s = j
    · subst e; rw [hj]; split <;> omega
    · rw [ho s e]; exact Nat.le_refl _
  refine ⟨fun s => Nat.le_trans (dn s) (h1 s), fun s y c => ?_, fun s => ?_⟩
  · rcases c with c | ⟨e, ey⟩
    · exact Nat.le_trans (dn s) (h2 s y c)
    · subst e; subst ey; rw [hj]; split <;> omega
  · by_cases e : s = j
    · subst e
      by_cases q : x < b s
      · rw [hj, if_pos q]; exact Or.inr ⟨x, Or.inr ⟨rfl, rfl⟩, rfl⟩
      · rw [hj, if_neg q]; exact (h3 s).imp id (fun ⟨y, c, q⟩ => ⟨y, Or.inl c, q⟩)
    · rw [ho s e]; exact (h3 s).imp id (fun ⟨y, c, q⟩ => ⟨y, Or.inl c, q⟩)
def drF (wet : Nat → Bool) (q e : Nat) : Nat := if wet q then 0 else e
theorem drF_le (wet : Nat → Bool) (q e : Nat) : drF wet q e ≤ e := by unfold drF; split <;> omega
theorem drF_mono (wet : Nat → Bool) (q : Nat) {d e : Nat} (h : d ≤ e) : drF wet q d ≤ drF wet q e := by unfold drF; split <;> omega
def Rn (E : Nat → Nat → Nat → Prop) (cy : Nat) (wet : Nat → Bool) (fr : Nat) : Nat → Nat → Nat → Nat → Prop
  | 0, t, p, d => t = 0 ∧ p = fr ∧ d = 0
  | k + 1, t, q, e => ∃ t' p d c, Rn E cy wet fr k t' p d ∧ E p c q ∧ d + c ≤ cy ∧ e = drF wet q (d + c) ∧ t = t' + c
def Rr (E : Nat → Nat → Nat → Prop) (cy : Nat) (wet : Nat → Bool) (fr t p d : Nat) : Prop := ∃ k, Rn E cy wet fr k t p d
def FD (E : Nat → Nat → Nat → Prop) (cy : Nat) (wet : Nat → Bool) (fr p : Nat) (r : Int32) : Prop := (r = -4 ∧ ∀ t d, ¬ Rr E cy wet fr t p d) ∨ ∃ t d, t < 1000000 ∧ Rr E cy wet fr t p d ∧ r = nI t ∧ ∀ t' d', Rr E cy wet fr t' p d' → t ≤ t'
section GR
variable {E F : Nat → Nat → Nat → Prop} {cy : Nat} {wet : Nat → Bool} {fr : Nat}
theorem FD.uniq {p : Nat} {r s : Int32} (h1 : FD E cy wet fr p r) (h2 : FD E cy wet fr p s) : r = s := by
  rcases h1 with ⟨e1, n1⟩ | ⟨t, d, -, g1, e1, l1⟩
  · rcases h2 with ⟨e2, n2⟩ | ⟨t2, d2, -, g2, e2, l2⟩
    · rw [e1, e2]
    · exact absurd g2 (n1 _ _)
  · rcases h2 with ⟨e2, n2⟩ | ⟨t2, d2, -, g2, e2, l2⟩
    · exact absurd g1 (n2 _ _)
    · have := l1 _ _ g2; have := l2 _ _ g1
      rw [e1, e2, show t = t2 by omega]
theorem Rn.mono (hE : ∀ p c q, E p c q → F p c q) : ∀ {k t p d : Nat}, Rn E cy wet fr k t p d → Rn F cy wet fr k t p d
  | 0, _, _, _, h => h
  | _ + 1, _, _, _, ⟨t', p, d, c, h1, h2, h3⟩ => ⟨t', p, d, c, Rn.mono hE h1, hE _ _ _ h2, h3⟩
theorem Rr.start : Rr E cy wet fr 0 fr 0 := ⟨0, rfl, rfl, rfl⟩
theorem Rr.go {t p d c q : Nat} (h : Rr E cy wet fr t p d) (e : E p c q) (hc : d + c ≤ cy) : Rr E cy wet fr (t + c) q (drF wet q (d + c)) := by
  obtain ⟨k, h⟩ := h
  exact ⟨k + 1, t, p, d, c, h, e, hc, rfl, rfl⟩
theorem Rr.last {t p d : Nat} (h : Rr E cy wet fr t p d) : (t = 0 ∧ p = fr ∧ d = 0) ∨ ∃ t' p' d' c, Rr E cy wet fr t' p' d' ∧ E p' c p ∧ d' + c ≤ cy ∧ d = drF wet p (d' + c) ∧ t = t' + c := by
  obtain ⟨k, h⟩ := h
  cases k with
  | zero => exact Or.inl h
  | succ k =>
    obtain ⟨t', p', d', c, h1, h2⟩ := h
    exact Or.inr ⟨t', p', d', c, ⟨k, h1⟩, h2⟩
theorem Rr.dry {t p d : Nat} (h : Rr E cy wet fr t p d) : d ≤ cy := by
  rcases h.last with ⟨_, _, e⟩ | ⟨t', p', d', c, _, _, h3, h4, _⟩
  · omega
  · rw [h4]; exact Nat.le_trans (drF_le _ _ _) h3
theorem Rr.pl (hE : ∀ p c q, E p c q → q < 12) (hf : fr < 12) {t p d : Nat} (h : Rr E cy wet fr t p d) : p < 12 := by
  rcases h.last with ⟨_, e, _⟩ | ⟨t', p', d', c, _, h2, _⟩
  · omega
  · exact hE _ _ _ h2
/-! the reference: best and done -/
def DI (E : Nat → Nat → Nat → Prop) (cy : Nat) (wet : Nat → Bool) (fr : Nat) (b : Nat → Nat) (dn : Nat → Bool) : Prop :=
  (∀ s, s < 252 → b s ≤ 1000000) ∧ (∀ s, s < 252 → b s < 1000000 → Rr E cy wet fr (b s) (s / 21) (s % 21)) ∧
  (∀ s, s < 252 → dn s = true → b s < 1000000 ∧ ∀ c q, E (s / 21) c q → s % 21 + c ≤ cy → b (21 * q + drF wet q (s % 21 + c)) ≤ b s + c) ∧
  (∀ s u, s < 252 → u < 252 → dn s = true → dn u = false → b s ≤ b u) ∧ b (21 * fr) = 0
def cndF (E : Nat → Nat → Nat → Prop) (cy : Nat) (wet : Nat → Bool) (u x s y : Nat) : Prop := ∃ c q, E (u / 21) c q ∧ u % 21 + c ≤ cy ∧ s = 21 * q + drF wet q (u % 21 + c) ∧ y = x + c
theorem DI.step (hE : ∀ p c q, E p c q → q < 12) (hcy : cy ≤ 20) {b b2 : Nat → Nat} {dn dn2 : Nat → Bool} {u : Nat} (h : DI E cy wet fr b dn) (hu : u < 252) (hb : b u < 1000000) (hn : dn u = false) (hm : ∀ s, s < 252 → dn s = false → b u ≤ b s) (r : Rlx b b2 (cndF E cy wet u (b u))) (d1 : dn2 u = true) (d2 : ∀ s, s ≠ u → dn2 s = dn s) : DI E cy wet fr b2 dn2 := by
  obtain ⟨h1, h2, h3, h4, h5⟩ := h
  obtain ⟨r1, r2, r3⟩ := r
  have keep : ∀ s, b s ≤ b u → b2 s = b s := fun s hs => by
    rcases r3 s with e | ⟨x, ⟨c, q, -, -, -, ex⟩, e⟩
    · exact e
    · have := r1 s; omega
  have up : ∀ s, b2 s < b s → b u ≤ b2 s := fun s hs => by
    rcases r3 s with e | ⟨x, ⟨c, q, -, -, -, ex⟩, e⟩
    · omega
    · omega
  have old : ∀ s, s < 252 → dn s = true → b2 s = b s := fun s hs hd => keep s (h4 s u hs hu hd hn)
  refine ⟨fun s hs => Nat.le_trans (r1 s) (h1 s hs), fun s hs hl => ?_, fun s hs hd => ?_, fun s v hs hv hd hv2 => ?_, ?_⟩
  · rcases r3 s with e | ⟨x, ⟨c, q, g1, g2, g3, g4⟩, e⟩
    · rw [e] at hl ⊢; exact h2 s hs hl
    · have := (h2 u hu hb).go g1 g2
      have hd := drF_le wet q (u % 21 + c)
      have e1 : s / 21 = q := by omega
      have e2 : s % 21 = drF wet q (u % 21 + c) := by omega
      rw [e, g4, e1, e2]; exact this
  · by_cases e : s = u
    · subst e
      rw [keep s (Nat.le_refl _)]
      exact ⟨hb, fun c q g1 g2 => r2 _ _ ⟨c, q, g1, g2, rfl, rfl⟩⟩
    · rw [d2 s e] at hd
      rw [old s hs hd]
      obtain ⟨g1, g2⟩ := h3 s hs hd
      exact ⟨g1, fun c q k1 k2 => Nat.le_trans (r1 _) (g2 c q k1 k2)⟩
  · have hvu : v ≠ u := fun e => by rw [e, d1] at hv2; cases hv2
    rw [d2 v hvu] at hv2
    have low : b u ≤ b2 v := by
      by_cases q : b2 v < b v
      · exact up v q
      · have := hm v hv hv2; have := r1 v; omega
    by_cases e : s = u
    · subst e; rw [keep s (Nat.le_refl _)]; exact low
    · rw [d2 s e] at hd
      rw [old s hs hd]
      exact Nat.le_trans (h4 s u hs hu hd hn) low
  · rw [keep _ (by omega)]; exact h5
theorem DI.fin (hE : ∀ p c q, E p c q → q < 12) (hcy : cy ≤ 20) (hf : fr < 12) {b : Nat → Nat} {dn : Nat → Bool} (h : DI E cy wet fr b dn) (hl : ∀ s, s < 252 → dn s = false → b s = 1000000) : ∀ k t p d, Rn E cy wet fr k t p d → b (21 * p + d) ≤ t := by
  obtain ⟨h1, h2, h3, h4, h5⟩ := h
  intro k
  induction k with
  | zero =>
    rintro t p d ⟨rfl, rfl, rfl⟩
    rw [Nat.add_zero, h5]; exact Nat.le_refl _
  | succ k ih =>
    rintro t q e ⟨t', p, d, c, g1, g2, g3, rfl, rfl⟩
    have hp := Rr.pl hE hf ⟨k, g1⟩
    have hd : d ≤ cy := Rr.dry ⟨k, g1⟩
    have hq := hE _ _ _ g2
    have hdr := drF_le wet q (d + c)
    have b1 := ih t' p d g1
    have e1 : (21 * p + d) / 21 = p := by omega
    have e2 : (21 * p + d) % 21 = d := by omega
    cases hdn : dn (21 * p + d) with
    | false =>
      have := hl _ (by omega) hdn
      have := h1 (21 * q + drF wet q (d + c)) (by omega)
      omega
    | true =>
      have := (h3 _ (by omega) hdn).2 c q (by rw [e1]; exact g2) (by rw [e2]; exact g3)
      rw [e2] at this
      omega
/-! the class: day by day -/
def WI (E : Nat → Nat → Nat → Prop) (cy : Nat) (wet : Nat → Bool) (fr : Nat) (co : Nat × Nat → Nat) (le : Nat → Nat) (fd : Nat → Int32) (D : Nat) : Prop :=
  (∀ τ p, D ≤ τ → τ ≤ D + 9 → p < 12 → co (τ % 10, p) < 21 → Rr E cy wet fr τ p (co (τ % 10, p))) ∧
  (∀ p, p < 12 → le p < 21 → ∃ t, t < D ∧ Rr E cy wet fr t p (le p)) ∧
  (∀ t p d, t < D → Rr E cy wet fr t p d → le p ≤ d) ∧
  (∀ t p d c q, t < D → Rr E cy wet fr t p d → E p c q → d + c ≤ cy → le q ≤ drF wet q (d + c) ∨ ∃ τ, D ≤ τ ∧ τ ≤ t + c ∧ co (τ % 10, q) ≤ drF wet q (d + c)) ∧
  (∀ p, p < 12 → (le p = 21 ∧ fd p = -4) ∨ (le p < 21 ∧ ∃ t d, t < D ∧ Rr E cy wet fr t p d ∧ fd p = nI t ∧ ∀ t' d', Rr E cy wet fr t' p d' → t ≤ t')) ∧
  (D = 0 → co (0, fr) = 0) ∧ (∀ s p, s < 10 → p < 12 → co (s, p) ≤ 21)
/-- what one day does -/
def cndW (E : Nat → Nat → Nat → Prop) (cy : Nat) (wet : Nat → Bool) (D p x : Nat) (s : Nat × Nat) (y : Nat) : Prop := ∃ c q, E p c q ∧ x + c ≤ cy ∧ s = ((D + c) % 10, q) ∧ y = drF wet q (x + c)
def cndD (E : Nat → Nat → Nat → Prop) (cy : Nat) (wet : Nat → Bool) (D i : Nat) (co : Nat × Nat → Nat) (le : Nat → Nat) (s : Nat × Nat) (y : Nat) : Prop := ∃ p, p < i ∧ co (D % 10, p) < le p ∧ cndW E cy wet D p (co (D % 10, p)) s y
def clrF (D i : Nat) (co : Nat × Nat → Nat) : Nat × Nat → Nat := fun s => if s.1 = D % 10 ∧ s.2 < i then 21 else co s
def leF (D i : Nat) (co : Nat × Nat → Nat) (le : Nat → Nat) : Nat → Nat := fun p => if p < i ∧ co (D % 10, p) < le p then co (D % 10, p) else le p
def fdF (D i : Nat) (co : Nat × Nat → Nat) (le : Nat → Nat) (fd : Nat → Int32) : Nat → Int32 := fun p => if p < i ∧ co (D % 10, p) < le p ∧ fd p = -4 then nI D else fd p
theorem WI.step (hE : ∀ p c q, E p c q → p < 12 ∧ q < 12 ∧ 1 ≤ c ∧ c ≤ 9) (hcy : cy ≤ 20) (hf : fr < 12) {co co2 : Nat × Nat → Nat} {le : Nat → Nat} {fd : Nat → Int32} {D : Nat} (hD : D < 10000) (h : WI E cy wet fr co le fd D) (r : Rlx (clrF D 12 co) co2 (cndD E cy wet D 12 co le)) : WI E cy wet fr co2 (leF D 12 co le) (fdF D 12 co le fd) (D + 1) := by
  obtain ⟨h1, h2, h3, h4, h5, h6, h7⟩ := h
  obtain ⟨r1, r2, r3⟩ := r
  have now : ∀ p, p < 12 → co (D % 10, p) < 21 → Rr E cy wet fr D p (co (D % 10, p)) := fun p hp hl => h1 D p (Nat.le_refl _) (by omega) hp hl
  have le_dn : ∀ p, leF D 12 co le p ≤ le p := fun p => by unfold leF; split <;> omega
  have le_now : ∀ p, p < 12 → leF D 12 co le p ≤ co (D % 10, p) := fun p hp => by
    unfold leF
    by_cases q : co (D % 10, p) < le p
    · rw [if_pos ⟨hp, q⟩]; exact Nat.le_refl _
    · rw [if_neg (fun e => q e.2)]; omega
  have le21 : ∀ p, p < 12 → le p ≤ 21 := fun p hp => by rcases h5 p hp with e | e <;> omega
  -- what is reached today
  have C1 : ∀ t p d, t < D + 1 → Rr E cy wet fr t p d → leF D 12 co le p ≤ d := fun t p d ht hr => by
    by_cases e : t < D
    · exact Nat.le_trans (le_dn p) (h3 t p d e hr)
    · have et : t = D := by omega
      subst et
      have hp := Rr.pl (fun p c q e => (hE p c q e).2.1) hf hr
      rcases hr.last with ⟨g1, g2, g3⟩ | ⟨t', p', d', c, g1, g2, g3, g4, g5⟩
      · subst g1; subst g2; subst g3
        have := le_now p hp
        rw [Nat.zero_mod, h6 rfl] at this; exact this
      · obtain ⟨-, -, c1, c2⟩ := hE _ _ _ g2
        rw [g4]
        rcases h4 t' p' d' c p (by omega) g1 g2 g3 with k | ⟨τ, k1, k2, k3⟩
        · exact Nat.le_trans (le_dn p) k
        · have : τ = t := by omega
          subst this
          exact Nat.le_trans (le_now p hp) k3
  have co_dn : ∀ τ q, D + 1 ≤ τ → τ ≤ D + 9 → co2 (τ % 10, q) ≤ co (τ % 10, q) := fun τ q k1 k2 => by
    have := r1 (τ % 10, q)
    unfold clrF at this
    rw [if_neg (fun e => by have : τ % 10 = D % 10 := e.1; omega)] at this
    exact this
  have C2old : ∀ t p d c q, t < D → Rr E cy wet fr t p d → E p c q → d + c ≤ cy → leF D 12 co le q ≤ drF wet q (d + c) ∨ ∃ τ, D + 1 ≤ τ ∧ τ ≤ t + c ∧ co2 (τ % 10, q) ≤ drF wet q (d + c) := fun t p d c q ht hr he hc => by
    obtain ⟨-, hq, c1, c2⟩ := hE _ _ _ he
    rcases h4 t p d c q ht hr he hc with k | ⟨τ, k1, k2, k3⟩
    · exact Or.inl (Nat.le_trans (le_dn q) k)
    · by_cases e : τ = D
      · subst e; exact Or.inl (Nat.le_trans (le_now q hq) k3)
      · exact Or.inr ⟨τ, by omega, k2, Nat.le_trans (co_dn τ q (by omega) (by omega)) k3⟩
  refine ⟨fun τ p k1 k2 hp hl => ?_, fun p hp hl => ?_, C1, fun t p d c q ht hr he hc => ?_, fun p hp => ?_, fun e => by omega, fun s p hs hp => ?_⟩
  · rcases r3 (τ % 10, p) with e | ⟨x, ⟨p0, p1, p2, c, q, g1, g2, g3, g4⟩, e⟩
    · rw [e] at hl ⊢
      unfold clrF at hl ⊢
      by_cases z : τ % 10 = D % 10
      · rw [if_pos ⟨z, hp⟩] at hl; omega
      · rw [if_neg (fun e => z e.1)] at hl ⊢
        exact h1 τ p (by omega) (by omega) hp hl
    · obtain ⟨hp0, -, c1, c2⟩ := hE _ _ _ g1
      have e1 : τ % 10 = (D + c) % 10 := congrArg Prod.fst g3
      have e2 : p = q := congrArg Prod.snd g3
      have eτ : τ = D + c := by omega
      have := (now p0 hp0 (by have := le21 p0 hp0; omega)).go g1 g2
      rw [e, g4, eτ, e2]
      exact this
  · unfold leF at hl ⊢
    by_cases q : co (D % 10, p) < le p
    · rw [if_pos ⟨hp, q⟩] at hl ⊢
      exact ⟨D, by omega, now p hp hl⟩
    · rw [if_neg (fun e => q e.2)] at hl ⊢
      obtain ⟨t, k1, k2⟩ := h2 p hp hl
      exact ⟨t, by omega, k2⟩
  · obtain ⟨hp, hq, c1, c2⟩ := hE _ _ _ he
    by_cases e : t < D
    · exact C2old t p d c q e hr he hc
    · have et : t = D := by omega
      subst et
      have hle := C1 t p d (by omega) hr
      by_cases z : co (t % 10, p) < le p
      · have el : leF t 12 co le p = co (t % 10, p) := by unfold leF; rw [if_pos ⟨hp, z⟩]
        rw [el] at hle
        refine Or.inr ⟨t + c, by omega, Nat.le_refl _, ?_⟩
        exact Nat.le_trans (r2 _ _ ⟨p, hp, z, c, q, he, by omega, rfl, rfl⟩) (drF_mono _ _ (by omega))
      · have el : leF t 12 co le p = le p := by unfold leF; rw [if_neg (fun e => z e.2)]
        rw [el] at hle
        have hd := hr.dry
        obtain ⟨t0, k1, k2⟩ := h2 p hp (by omega)
        rcases C2old t0 p (le p) c q k1 k2 he (by omega) with k | ⟨τ, j1, j2, j3⟩
        · exact Or.inl (Nat.le_trans k (drF_mono _ _ (by omega)))
        · exact Or.inr ⟨τ, j1, by omega, Nat.le_trans j3 (drF_mono _ _ (by omega))⟩
  · unfold leF fdF
    by_cases q : co (D % 10, p) < le p
    · rw [if_pos ⟨hp, q⟩]
      have hr := now p hp (by have := le21 p hp; omega)
      right
      refine ⟨by have := le21 p hp; omega, ?_⟩
      rcases h5 p hp with ⟨g1, g2⟩ | ⟨g1, t, d, g2, g3, g4, g5⟩
      · rw [if_pos ⟨hp, q, g2⟩]
        refine ⟨D, _, by omega, hr, rfl, fun t' d' hr2 => ?_⟩
        rcases Nat.lt_or_ge t' D with z | z
        · have := h3 t' p d' z hr2; have := hr2.dry; omega
        · exact z
      · by_cases z : fd p = -4
        · rw [if_pos ⟨hp, q, z⟩]
          exact absurd (g4.symm.trans z) (neg4_ne t (by omega))
        · rw [if_neg (fun e => z e.2.2)]
          exact ⟨t, d, by omega, g3, g4, g5⟩
    · rw [if_neg (fun e => q e.2), if_neg (fun e => q e.2.1)]
      rcases h5 p hp with g | ⟨g1, t, d, g2, g3, g4, g5⟩
      · exact Or.inl g
      · exact Or.inr ⟨g1, t, d, by omega, g3, g4, g5⟩
  · refine Nat.le_trans (r1 (s, p)) ?_
    unfold clrF
    split
    · exact Nat.le_refl _
    · exact h7 s p hs hp
theorem WI.ans {co : Nat × Nat → Nat} {le : Nat → Nat} {fd : Nat → Int32} {D : Nat} (hD : D < 10000) (h : WI E cy wet fr co le fd D) (hc : ∀ t p d, Rr E cy wet fr t p d → le p < 21) : ∀ p, p < 12 → FD E cy wet fr p (fd p) := by
  obtain ⟨h1, h2, h3, h4, h5, h6, h7⟩ := h
  intro p hp
  rcases h5 p hp with ⟨g1, g2⟩ | ⟨g1, t, d, g2, g3, g4, g5⟩
  · exact Or.inl ⟨g2, fun t d hr => by have := hc t p d hr; omega⟩
  · exact Or.inr ⟨t, d, by omega, g3, g4, g5⟩
theorem WI.quiet (hE : ∀ p c q, E p c q → p < 12 ∧ q < 12 ∧ 1 ≤ c ∧ c ≤ 9) (hcy : cy ≤ 20) (hf : fr < 12) {co : Nat × Nat → Nat} {le : Nat → Nat} {fd : Nat → Int32} {D : Nat} (h0 : 0 < D) (h : WI E cy wet fr co le fd D) (hq : ∀ s p, s < 10 → p < 12 → co (s, p) = 21) : ∀ t p d, Rr E cy wet fr t p d → le p < 21 := by
  obtain ⟨h1, h2, h3, h4, h5, h6, h7⟩ := h
  have key : ∀ k t p d, Rn E cy wet fr k t p d → le p ≤ d := by
    intro k
    induction k with
    | zero =>
      rintro t p d ⟨rfl, rfl, rfl⟩
      exact h3 0 _ _ h0 Rr.start
    | succ k ih =>
      rintro t q e ⟨t', p, d, c, g1, g2, g3, rfl, rfl⟩
      obtain ⟨hp, hq2, c1, c2⟩ := hE _ _ _ g2
      have b1 := ih t' p d g1
      have hd : d ≤ cy := Rr.dry ⟨k, g1⟩
      obtain ⟨t0, k1, k2⟩ := h2 p hp (by omega)
      rcases h4 t0 p (le p) c q k1 k2 g2 (by omega) with z | ⟨τ, j1, j2, j3⟩
      · exact Nat.le_trans z (drF_mono _ _ (by omega))
      · rw [hq _ _ (by omega) hq2] at j3
        have := drF_le wet q (le p + c)
        omega
  rintro t p d ⟨k, hr⟩
  have := key k t p d hr
  have hd : d ≤ cy := Rr.dry ⟨k, hr⟩
  omega
end GR
