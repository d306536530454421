def smF (f : Nat → Nat) : Nat → Nat
  | 0 => 0
  | n + 1 => smF f n + f n
theorem smF_le {f g : Nat → Nat} : ∀ {n : Nat}, (∀ p, p < n → g p ≤ f p) → smF g n ≤ smF f n
  | 0, _ => Nat.le_refl _
  | n + 1, h => Nat.add_le_add (smF_le (fun p hp => h p (by omega))) (h n (by omega))
theorem smF_lt {f g : Nat → Nat} : ∀ {n : Nat}, (∀ p, p < n → g p ≤ f p) → (∃ p, p < n ∧ g p < f p) → smF g n < smF f n
  | 0, _, ⟨p, hp, _⟩ => by omega
  | n + 1, h, ⟨p, hp, hl⟩ => by
    show smF g n + g n < smF f n + f n
    have h1 := smF_le (f := f) (g := g) (n := n) (fun p hp => h p (by omega))
    have h2 := h n (by omega)
    by_cases e : p = n
    · subst e; omega
    · have := smF_lt (f := f) (g := g) (n := n) (fun p hp => h p (by omega)) ⟨p, by omega, hl⟩
      omega
theorem smF_0 {f : Nat → Nat} : ∀ {n : Nat}, smF f n = 0 → ∀ p, p < n → f p = 0
  | n + 1, h, p, hp => by
    have h : smF f n + f n = 0 := h
    by_cases e : p = n
    · subst e; omega
    · exact smF_0 (n := n) (by omega) p (by omega)
section SW
variable {X Y M : zX} {l wt : Int32} {cy : Nat} {co : Nat × Nat → Nat} {le : Nat → Nat} {fd : Nat → Int32}
theorem WM.le2 (o : WM X l wt cy co le fd M) {p e : Nat} {l2 : Nat → Nat} (h1 : l2 p = e) (h2 : ∀ j, j ≠ p → l2 j = le j) : WM X l wt cy co l2 fd (zs M 40 p (nI e)) := by
  obtain ⟨o1, o2, o3, o4, o5, o6, o7⟩ := o
  refine ⟨fun a ha => ?_, o2, o3, o4, fun a b ha hb => ?_, fun b hb => ?_, o7⟩
  · rw [zs_ne (by omega)]; exact o1 a ha
  · rw [zs_ne (by omega)]; exact o5 a b ha hb
  · by_cases q : b = p
    · subst q; rw [zs_eq, h1]
    · rw [zs_nk q, h2 b q]; exact o6 b hb
theorem WM.fd2 (o : WM X l wt cy co le fd M) {p : Nat} {e : Int32} {f2 : Nat → Int32} (h1 : f2 p = e) (h2 : ∀ j, j ≠ p → f2 j = fd j) : WM X l wt cy co le f2 (zs M 41 p e) := by
  obtain ⟨o1, o2, o3, o4, o5, o6, o7⟩ := o
  refine ⟨fun a ha => ?_, o2, o3, o4, fun a b ha hb => ?_, o6, fun b hb => ?_⟩
  · rw [zs_ne (by omega)]; exact o1 a ha
  · rw [zs_ne (by omega)]; exact o5 a b ha hb
  · by_cases q : b = p
    · subst q; rw [zs_eq, h1]
    · rw [zs_nk q, h2 b q]; exact o7 b hb
theorem WM.fl (o : WM X l wt cy co le fd M) {l2 : Nat → Nat} {f2 : Nat → Int32} (h1 : ∀ j, l2 j = le j) (h2 : ∀ j, f2 j = fd j) : WM X l wt cy co l2 f2 M := by
  rw [show l2 = le from funext h1, show f2 = fd from funext h2]; exact o
theorem cX_arrive (h : Rel X Y) (o : WM X l wt cy co le fd M) (hco : ∀ s p, s < 10 → p < 12 → co (s, p) ≤ 21) (hle : ∀ p, p < 12 → le p ≤ 21) (hcy : cy ≤ 20) {D : Nat} (hD : D < 10000) : zPi SX 2 mX8_arrive [.ref 28, .int (nI D)] M (fun r M2 => ∃ co2, WM X l wt cy co2 (leF D 12 co le) (fdF D 12 co le fd) M2 ∧ Rlx (clrF D 12 co) co2 (cndD (EY Y l) cy (bt wt) D 12 co le) ∧ r = b2i (anyB (fun p => decide (co (D % 10, p) < le p)) 12)) := by
  have hm : D % 10 < 10 := by omega
  refine eX8_arrive _ M _ ⟨D % 10, pk_rem (a := D) (d := 10) (by omega) (by decide) (by decide), hm, ?_⟩
  have start : Rlx (clrF D 0 co) co (cndD (EY Y l) cy (bt wt) D 0 co le) := by
    have e : clrF D 0 co = co := by funext s; unfold clrF; rw [if_neg (by omega)]
    rw [e]
    exact Rlx.nil co (fun s x ⟨p, hp, _⟩ => by omega)
  refine zdown0 (P := fun i => ∀ (N : zX) (cn : Nat × Nat → Nat), WM X l wt cy cn (leF D i co le) (fdF D i co le fd) N → Rlx (clrF D i co) cn (cndD (EY Y l) cy (bt wt) D i co le) → LX8_arrive_15 (fun r M2 => ∃ co2, WM X l wt cy co2 (leF D 12 co le) (fdF D 12 co le fd) M2 ∧ Rlx (clrF D 12 co) co2 (cndD (EY Y l) cy (bt wt) D 12 co le) ∧ r = b2i (anyB (fun p => decide (co (D % 10, p) < le p)) 12)) N (nI D) (b2i (anyB (fun p => decide (co (D % 10, p) < le p)) i)) (D % 10) (nI i)) 12 ?_ ?_ M co (o.fl (fun j => by unfold leF; rw [if_neg (by omega)]) (fun j => by unfold fdF; rw [if_neg (by omega)])) start
  · intro N cn on rn
    exact bX8_arrive_15 _ N _ _ _ _ hm ⟨fun _ => ⟨b2i_nar _, cn, on, rn, rfl⟩, fun e => absurd (by decide) e⟩
  · intro i hi ih N cn on rn
    have own : cn (D % 10, i) = co (D % 10, i) := by
      rcases rn.2.2 (D % 10, i) with e | ⟨y, ⟨p, _, _, c, q, g1, _, g3, _⟩, _⟩
      · rw [e]; unfold clrF; rw [if_neg (fun z => by have : i < i := z.2; omega)]
      · obtain ⟨-, -, c1, c2⟩ := EY_ok h.1 _ _ _ g1
        have : D % 10 = (D + c) % 10 := congrArg Prod.fst g3
        omega
    have o40 := on.2.2.2.2.2.1 i hi
    have o41 := on.2.2.2.2.2.2 i hi
    have el : leF D i co le i = le i := by unfold leF; rw [if_neg (by omega)]
    have ef : fdF D i co le fd i = fd i := by unfold fdF; rw [if_neg (by omega)]
    rw [el] at o40
    rw [ef] at o41
    have o30 : N (30 + D % 10) i = nI (co (D % 10, i)) := by rw [on.2.2.2.2.1 _ i hm hi, own]
    have b1 := hco _ _ hm hi; have b2 := hle i hi
    -- today cleared
    have w1 : WM X l wt cy (fun s => if s = (D % 10, i) then 21 else cn s) (leF D i co le) (fdF D i co le fd) (zs N (30 + D % 10) i 21) := on.put (e := 21) hm hi (if_pos rfl) (fun j hj => if_neg hj)
    have r1 : Rlx (clrF D (i + 1) co) (fun s => if s = (D % 10, i) then 21 else cn s) (cndD (EY Y l) cy (bt wt) D i co le) := by
      have hs : ∀ s, s ≠ (D % 10, i) → clrF D (i + 1) co s = clrF D i co s := fun s hs => by
        unfold clrF
        by_cases q : s.1 = D % 10 ∧ s.2 < i
        · rw [if_pos ⟨q.1, by omega⟩, if_pos q]
        · rw [if_neg q, if_neg (fun z => q ⟨z.1, by
            have : s.2 ≠ i := fun e => hs (Prod.ext z.1 e)
            omega⟩)]
      have hi1 : clrF D (i + 1) co (D % 10, i) = 21 := by unfold clrF; rw [if_pos ⟨rfl, Nat.lt_succ_self i⟩]
      refine ⟨fun s => ?_, fun s x c => ?_, fun s => ?_⟩ <;> simp only []
      · by_cases q : s = (D % 10, i)
        · subst q; rw [if_pos rfl, hi1]; exact Nat.le_refl _
        · rw [if_neg q, hs s q]; exact rn.1 s
      · by_cases q : s = (D % 10, i)
        · obtain ⟨p, _, _, c, z, g1, _, g3, _⟩ := c
          obtain ⟨-, -, c1, c2⟩ := EY_ok h.1 _ _ _ g1
          rw [q] at g3
          have : D % 10 = (D + c) % 10 := congrArg Prod.fst g3
          omega
        · rw [if_neg q]; exact rn.2.1 s x c
      · by_cases q : s = (D % 10, i)
        · subst q; rw [if_pos rfl, hi1]; exact Or.inl rfl
        · rw [if_neg q, hs s q]; exact rn.2.2 s
    have cdE : ∀ s y, (cndD (EY Y l) cy (bt wt) D i co le s y ∨ (co (D % 10, i) < le i ∧ cndW (EY Y l) cy (bt wt) D i (co (D % 10, i)) s y)) ↔ cndD (EY Y l) cy (bt wt) D (i + 1) co le s y := fun s y => by
      constructor
      · rintro (⟨p, g1, g2⟩ | ⟨g1, g2⟩)
        · exact ⟨p, by omega, g2⟩
        · exact ⟨i, by omega, g1, g2⟩
      · rintro ⟨p, g1, g2⟩
        by_cases e : p = i
        · subst e; exact Or.inr g2
        · exact Or.inl ⟨p, by omega, g2⟩
    have e40 : zs N (30 + D % 10) i 21 40 i = nI (le i) := by rw [zs_ne (by omega)]; exact o40
    have e41 : zs N (30 + D % 10) i 21 41 i = fd i := by rw [zs_ne (by omega)]; exact o41
    refine bX8_arrive_15 _ N _ _ _ _ hm ⟨fun e => absurd ((nI_leI (a := 12) (by omega) (by omega)).mp e) (by omega), fun _ => ⟨i, rfl, hi, i, rfl, hi, i, rfl, hi, fun e => ⟨i, rfl, hi, i, rfl, hi, fun e2 => ?_, fun e2 => ⟨i, rfl, hi, ?_⟩⟩, fun e => ?_⟩⟩
    · rw [e40, o30, nI_ltI (by omega) (by omega)] at e
      rw [e41] at e2
      rw [o30]
      have w2 := w1.le2 (p := i) (e := co (D % 10, i)) (l2 := leF D (i + 1) co le) (by unfold leF; rw [if_pos ⟨by omega, e⟩]) (fun j hj => by
        unfold leF
        by_cases q : j < i ∧ co (D % 10, j) < le j
        · rw [if_pos q, if_pos ⟨by omega, q.2⟩]
        · rw [if_neg q, if_neg (fun z => q ⟨by omega, z.2⟩)])
      have w3 : WM X l wt cy _ (leF D (i + 1) co le) (fdF D (i + 1) co le fd) _ := w2.fl (fun _ => rfl) (f2 := fdF D (i + 1) co le fd) (fun j => by
        unfold fdF
        by_cases q : j < i ∧ co (D % 10, j) < le j ∧ fd j = -4
        · rw [if_pos q, if_pos ⟨by omega, q.2⟩]
        · rw [if_neg q, if_neg (fun z => q ⟨by
            have : j ≠ i := fun ej => e2 (by rw [← ej]; exact z.2.2)
            omega, z.2⟩)])
      refine ⟨_, cX_setOut h w3 r1 (fun s p hs hp => ?_) hcy hi hD (by omega), fun M11 ⟨c3, o3, r3⟩ => ?_⟩
      · unfold clrF; split
        · exact Nat.le_refl _
        · exact hco s p hs hp
      · rw [nI_1]
        have : (1 : Int32) = b2i (anyB (fun p => decide (co (D % 10, p) < le p)) (i + 1)) := by
          rw [anyB_iff.mpr ⟨i, by omega, decide_eq_true e⟩]; rfl
        rw [this]
        exact ih M11 c3 o3 (r3.congr (fun s y => by rw [← cdE s y]; simp [e]))
    · rw [e40, o30, nI_ltI (by omega) (by omega)] at e
      rw [e41] at e2
      rw [o30]
      have w2 := w1.le2 (p := i) (e := co (D % 10, i)) (l2 := leF D (i + 1) co le) (by unfold leF; rw [if_pos ⟨by omega, e⟩]) (fun j hj => by
        unfold leF
        by_cases q : j < i ∧ co (D % 10, j) < le j
        · rw [if_pos q, if_pos ⟨by omega, q.2⟩]
        · rw [if_neg q, if_neg (fun z => q ⟨by omega, z.2⟩)])
      have w3 := w2.fd2 (p := i) (e := nI D) (f2 := fdF D (i + 1) co le fd) (by unfold fdF; rw [if_pos ⟨by omega, e, e2⟩]) (fun j hj => by
        unfold fdF
        by_cases q : j < i ∧ co (D % 10, j) < le j ∧ fd j = -4
        · rw [if_pos q, if_pos ⟨by omega, q.2⟩]
        · rw [if_neg q, if_neg (fun z => q ⟨by omega, z.2⟩)])
      refine ⟨_, cX_setOut h w3 r1 (fun s p hs hp => ?_) hcy hi hD (by omega), fun M11 ⟨c3, o3, r3⟩ => ?_⟩
      · unfold clrF; split
        · exact Nat.le_refl _
        · exact hco s p hs hp
      · rw [nI_1]
        have : (1 : Int32) = b2i (anyB (fun p => decide (co (D % 10, p) < le p)) (i + 1)) := by
          rw [anyB_iff.mpr ⟨i, by omega, decide_eq_true e⟩]; rfl
        rw [this]
        exact ih M11 c3 o3 (r3.congr (fun s y => by rw [← cdE s y]; simp [e]))
    · rw [e40, o30, nI_ltI (by omega) (by omega)] at e
      rw [nI_1]
      have eb : anyB (fun p => decide (co (D % 10, p) < le p)) i = anyB (fun p => decide (co (D % 10, p) < le p)) (i + 1) := by
        show _ = (anyB _ i || _)
        simp [e]
      rw [eb]
      refine ih _ _ (w1.fl (fun j => ?_) (fun j => ?_)) (r1.congr (fun s y => by rw [← cdE s y]; simp [e]))
      · unfold leF
        by_cases q : j < i ∧ co (D % 10, j) < le j
        · rw [if_pos q, if_pos ⟨by omega, q.2⟩]
        · rw [if_neg q, if_neg (fun z => q ⟨by
            have : j ≠ i := fun ej => e (by rw [← ej]; exact z.2)
            omega, z.2⟩)]
      · unfold fdF
        by_cases q : j < i ∧ co (D % 10, j) < le j ∧ fd j = -4
        · rw [if_pos q, if_pos ⟨by omega, q.2⟩]
        · rw [if_neg q, if_neg (fun z => q ⟨by
            have : j ≠ i := fun ej => e (by rw [← ej]; exact z.2.1)
            omega, z.2⟩)]
theorem cX_clear (X : zX) (l wt : Int32) (cy : Nat) (hcy : cy < 100) : zPw SX 0 mX8_clear [.ref 28] (zs (zs (zs X 28 4 l) 28 5 wt) 28 6 (nI cy)) (WM X l wt cy (fun _ => 21) (fun _ => 21) (fun _ => -4)) := by
  let B : Nat → zX → Prop := fun i M => (∀ a, a < 28 ∨ 41 < a → M a = X a) ∧ M 28 4 = l ∧ M 28 5 = wt ∧ M 28 6 = nI cy ∧ (∀ s p, s < 10 → p < i → M (30 + s) p = nI 21) ∧ (∀ p, p < i → M 40 p = nI 21) ∧ (∀ p, p < i → M 41 p = -4)
  have out : ∀ i, i ≤ 12 → ∀ M, B i M → LX8_clear_2 (WM X l wt cy (fun _ => 21) (fun _ => 21) (fun _ => -4)) M (nI i) := by
    refine zdown ?_ ?_
    · rintro M ⟨o1, o2, o3, o4, o5, o6, o7⟩
      exact bX8_clear_2 _ M _ ⟨fun _ => ⟨o1, o2, o3, o4, o5, o6, o7⟩, fun e => absurd (by decide) e⟩
    · rintro i hi ih M ⟨o1, o2, o3, o4, o5, o6, o7⟩
      refine bX8_clear_2 _ M _ ⟨fun e => absurd ((nI_leI (a := 12) (by omega) (by omega)).mp e) (by omega), fun _ => ⟨i, rfl, hi, i, rfl, hi, ?_⟩⟩
      refine zdown0 (P := fun j => ∀ N : zX, (∀ a, a < 28 ∨ 41 < a → N a = X a) → N 28 4 = l → N 28 5 = wt → N 28 6 = nI cy → (∀ s p, s < 10 → p < i → N (30 + s) p = nI 21) → (∀ s, s < j → N (30 + s) i = nI 21) → (∀ p, p < i + 1 → N 40 p = nI 21) → (∀ p, p < i + 1 → N 41 p = -4) → LX8_clear_26 (WM X l wt cy (fun _ => 21) (fun _ => 21) (fun _ => -4)) N (nI i) (nI j)) 10 ?_ ?_ _ (fun a ha => by rw [zs_ne (by omega), zs_ne (by omega)]; exact o1 a ha) o2 o3 o4 (fun s p hs hp => by rw [zs_ne (by omega), zs_ne (by omega)]; exact o5 s p hs hp) (fun s hs => by omega) (fun p hp => ?_) (fun p hp => ?_)
      · intro N q1 q2 q3 q4 q5 q6 q7 q8
        refine bX8_clear_26 _ N _ _ ⟨fun _ => ?_, fun e => absurd (by decide) e⟩
        rw [nI_1]
        refine ih N ⟨q1, q2, q3, q4, fun s p hs hp => ?_, q7, q8⟩
        by_cases e : p = i
        · subst e; exact q6 s hs
        · exact q5 s p hs (by omega)
      · intro j hj ih2 N q1 q2 q3 q4 q5 q6 q7 q8
        refine bX8_clear_26 _ N _ _ ⟨fun e => absurd ((nI_leI (a := 10) (by omega) (by omega)).mp e) (by omega), fun _ => ⟨j, rfl, hj, i, rfl, hi, ?_⟩⟩
        rw [nI_1]
        refine ih2 _ (fun a ha => by rw [zs_ne (by omega)]; exact q1 a ha) (by rw [zs_ne (by omega)]; exact q2) (by rw [zs_ne (by omega)]; exact q3) (by rw [zs_ne (by omega)]; exact q4) (fun s p hs hp => ?_) (fun s hs => ?_) (fun p hp => by rw [zs_ne (by omega)]; exact q7 p hp) (fun p hp => by rw [zs_ne (by omega)]; exact q8 p hp)
        · by_cases e : s = j
          · subst e; rw [zs_nk (by omega)]; exact q5 s p hs hp
          · rw [zs_ne (by omega)]; exact q5 s p hs hp
        · by_cases e : s = j
          · subst e; rw [zs_eq]; rfl
          · rw [zs_ne (by omega)]; exact q6 s (by omega)
      · rw [zs_ne (by decide)]
        by_cases e : p = i
        · subst e; rw [zs_eq]; rfl
        · rw [zs_nk e]; exact o6 p (by omega)
      · by_cases e : p = i
        · subst e; rw [zs_eq]
        · rw [zs_nk e, zs_ne (by decide)]; exact o7 p (by omega)
  exact eX8_clear _ _ (out 0 (by omega) _ ⟨fun a ha => by rw [zs_ne (by omega), zs_ne (by omega), zs_ne (by omega)], rfl, rfl, rfl, fun s p hs hp => by omega, fun p hp => by omega, fun p hp => by omega⟩)
theorem cX_sweep (h : Rel X Y) {fr : Nat} (hf : fr < 12) (hcy : cy ≤ 20) : zPw SX 3 mX8_sweep [.ref 28, .int (nI fr), .int l, .int wt, .int (nI cy)] X (fun M2 => (∀ a, a < 28 ∨ 41 < a → M2 a = X a) ∧ ∀ p, p < 12 → FD (EY Y l) cy (bt wt) fr p (M2 41 p)) := by
  have hE := EY_ok (l := l) h.1
  refine eX8_sweep _ X _ _ _ _ ⟨_, cX_clear X l wt cy (by omega), fun M2 o => ⟨0, rfl, by decide, fr, rfl, hf, ?_⟩⟩
  have o1 : WM X l wt cy (fun s => if s = (0, fr) then 0 else 21) (fun _ => 21) (fun _ => -4) (zs M2 (30 + 0) fr 0) := o.put (s := 0) (e := 0) (by decide) hf (if_pos rfl) (fun j hj => if_neg hj)
  have i1 : WI (EY Y l) cy (bt wt) fr (fun s => if s = (0, fr) then 0 else 21) (fun _ => 21) (fun _ => -4) 0 := by
    refine ⟨fun τ p k1 k2 hp hl => ?_, fun p hp e => absurd e (Nat.lt_irrefl 21), fun t p d ht => absurd ht (by omega), fun t p d c q ht => absurd ht (by omega), fun p hp => Or.inl ⟨rfl, rfl⟩, fun _ => if_pos rfl, fun s p hs hp => ?_⟩
    · by_cases e : (τ % 10, p) = (0, fr)
      · have e1 : τ % 10 = 0 := congrArg Prod.fst e
        have e2 : p = fr := congrArg Prod.snd e
        have e3 : τ = 0 := by omega
        subst e3; subst e2
        have e0 : (fun s : Nat × Nat => if s = (0, p) then 0 else 21) (0 % 10, p) = 0 := if_pos rfl
        rw [e0]; exact Rr.start
      · simp only [if_neg e] at hl; omega
    · simp only []; split <;> omega
  have key : ∀ n D k, n + D = 2520 → ∀ (N : zX) (cn : Nat × Nat → Nat) (ln : Nat → Nat) (fn : Nat → Int32), WM X l wt cy cn ln fn N → WI (EY Y l) cy (bt wt) fr cn ln fn D → k ≤ 10 → k ≤ D → (∀ τ p, D + 10 ≤ τ + k → τ ≤ D + 9 → p < 12 → cn (τ % 10, p) = 21) → D + 10 * smF ln 12 ≤ 2520 + k → LX8_sweep_35 (fun M2 => (∀ a, a < 28 ∨ 41 < a → M2 a = X a) ∧ ∀ p, p < 12 → FD (EY Y l) cy (bt wt) fr p (M2 41 p)) N (nI k) (nI D) := by
    intro n
    induction n with
    | zero =>
      intro D k hn N cn ln fn on wn k1 k2 kq ks
      obtain rfl : D = 2520 := by omega
      refine bX8_sweep_35 _ N _ _ ⟨fun _ => ⟨on.1, fun p hp => ?_⟩, fun e => absurd (by decide) e⟩
      rw [on.2.2.2.2.2.2 p hp]
      refine wn.ans (by omega) ?_ p hp
      by_cases e : k = 10
      · exact wn.quiet hE hcy hf (by omega) (fun s p hs hp => by have := kq (2520 + s) p (by omega) (by omega) hp; rw [show (2520 + s) % 10 = s by omega] at this; exact this)
      · intro t p d hr
        have := smF_0 (f := ln) (n := 12) (by omega) p (hr.pl (fun p c q e => (hE p c q e).2.1) hf)
        omega
    | succ n ih =>
      intro D k hn N cn ln fn on wn k1 k2 kq ks
      have ole : ∀ p, p < 12 → ln p ≤ 21 := fun p hp => by rcases wn.2.2.2.2.1 p hp with e | e <;> omega
      refine bX8_sweep_35 _ N _ _ ⟨fun e => absurd ((nI_leI (a := 2520) (by omega) (by omega)).mp e) (by omega), fun _ => ⟨fun e => ⟨on.1, fun p hp => ?_⟩, fun e => ⟨_, cX_arrive h on wn.2.2.2.2.2.2 ole hcy (D := D) (by omega), fun r7 M8 ⟨c2, o2, r2, e2⟩ => ?_⟩⟩⟩
      · have e := (nI_leI (a := 10) (by omega) (by omega)).mp e
        rw [on.2.2.2.2.2.2 p hp]
        refine wn.ans (by omega) (wn.quiet hE hcy hf (by omega) (fun s p hs hp => ?_)) p hp
        obtain ⟨τ, t1, t2, t3⟩ : ∃ τ, D ≤ τ ∧ τ ≤ D + 9 ∧ τ % 10 = s := by
          by_cases q : D % 10 ≤ s
          · exact ⟨D + (s - D % 10), by omega, by omega, by omega⟩
          · exact ⟨D + (s + 10 - D % 10), by omega, by omega, by omega⟩
        have := kq τ p (by omega) t2 hp
        rw [t3] at this; exact this
      · have e : ¬ 10 ≤ k := fun q => e ((nI_leI (a := 10) (by omega) (by omega)).mpr q)
        have w2 := wn.step hE hcy hf (by omega) r2
        subst e2
        have dn : ∀ p, leF D 12 cn ln p ≤ ln p := fun p => by unfold leF; split <;> omega
        cases ab : anyB (fun p => decide (cn (D % 10, p) < ln p)) 12 with
        | false =>
          refine ⟨fun _ => ?_, fun q => absurd rfl q⟩
          have no : ∀ p, p < 12 → ¬ cn (D % 10, p) < ln p := fun p hp q => by
            rw [anyB_iff.mpr ⟨p, hp, decide_eq_true q⟩] at ab; cases ab
          rw [nI_1, nI_1]
          refine ih (D + 1) (k + 1) (by omega) M8 c2 _ _ o2 w2 (by omega) (by omega) (fun τ p t1 t2 hp => ?_) ?_
          · rcases r2.2.2 (τ % 10, p) with z | ⟨y, ⟨p0, z1, z2, _⟩, _⟩
            · rw [z]; unfold clrF
              by_cases q : τ % 10 = D % 10
              · rw [if_pos ⟨q, hp⟩]
              · rw [if_neg (fun z => q z.1)]
                exact kq τ p (by omega) (by omega) hp
            · exact absurd z2 (no p0 z1)
          · have := smF_le (f := ln) (g := leF D 12 cn ln) (n := 12) (fun p _ => dn p)
            omega
        | true =>
          refine ⟨fun q => absurd q (by decide), fun _ => ?_⟩
          rw [nI_1]
          obtain ⟨p, hp, z⟩ := anyB_iff.mp ab
          have z := of_decide_eq_true z
          refine ih (D + 1) 0 (by omega) M8 c2 _ _ o2 w2 (by omega) (by omega) (fun τ p t1 t2 hp => by omega) ?_
          have := smF_lt (f := ln) (g := leF D 12 cn ln) (n := 12) (fun p _ => dn p) ⟨p, hp, by unfold leF; rw [if_pos ⟨hp, z⟩]; exact z⟩
          omega
  exact key 2520 0 0 (by omega) _ _ _ _ o1 i1 (by omega) (by omega) (fun τ p t1 t2 => by omega) (by decide)
end SW
