/-! the class's walk over the graph of the verses -/
def prY (Y : zX) (v : Nat) : Nat := vn Y (Y 3 v) (n32 (Y 8 v) - 1)
def EV (Y : zX) (l : Int32) (v p c q : Nat) : Prop := n32 (Y 8 v) ≠ 0 ∧ bt l v = true ∧ bt l (prY Y v) = true ∧ c = n32 (Y 6 v) ∧ ((p = n32 (Y 4 v) ∧ q = n32 (Y 4 (prY Y v))) ∨ (p = n32 (Y 4 (prY Y v)) ∧ q = n32 (Y 4 v)))
def EY (Y : zX) (l : Int32) (p c q : Nat) : Prop := ∃ v, v < nV Y ∧ EV Y l v p c q
section WK
variable {X Y M : zX} {l wt : Int32} {cy : Nat} {co : Nat × Nat → Nat} {le : Nat → Nat} {fd : Nat → Int32}
theorem prY_ok (h : IY Y) {v : Nat} (hv : v < nV Y) (h0 : n32 (Y 8 v) ≠ 0) : prY Y v < nV Y ∧ Y 3 (prY Y v) = Y 3 v ∧ Y 8 (prY Y v) = nI (n32 (Y 8 v) - 1) ∧ vby Y (Y 3 v) (nI (n32 (Y 8 v) - 1)) (nV Y) = nI (prY Y v) := by
  obtain ⟨n1, n2, n3⟩ := numY h hv
  obtain ⟨a1, a2, a3, a4⟩ := vn_ok h (Y 3 v) (k := n32 (Y 8 v) - 1) (by omega)
  exact ⟨a2, a3, a4, a1⟩
theorem pr_uniq (h : IY Y) {v b : Nat} (hv : v < nV Y) (hb : b < nV Y) (e1 : Y 3 b = Y 3 v) (e2 : n32 (Y 8 b) = n32 (Y 8 v) + 1) : prY Y b = v := by
  obtain ⟨n1, n2, n3⟩ := numY h hv
  obtain ⟨a1, a2, a3, a4⟩ := prY_ok h hb (by omega)
  have := vby_one h hv (nV Y) hv (Nat.le_refl _)
  rw [show n32 (Y 8 b) - 1 = n32 (Y 8 v) by omega, ← n1, e1, this] at a4
  have hv2 := h.v2
  exact (nI_inj (by omega) (by omega) a4).symm
theorem EY_ok (h : IY Y) : ∀ p c q, EY Y l p c q → p < 12 ∧ q < 12 ∧ 1 ≤ c ∧ c ≤ 9 := by
  rintro p c q ⟨v, hv, h0, -, -, hc, hpq⟩
  have hp2 := h.p2
  obtain ⟨a1, a2, -, -⟩ := prY_ok h hv h0
  have k1 := (h.at_ v hv).2; have k2 := (h.at_ _ a1).2
  have d1 := (h.days v hv).2
  have d2 := h.days1 v hv (by rw [← (numY h hv).2.1]; omega)
  rcases hpq with ⟨g1, g2⟩ | ⟨g1, g2⟩ <;> (refine ⟨?_, ?_, ?_, ?_⟩ <;> omega)
def WM (X : zX) (l wt : Int32) (cy : Nat) (co : Nat × Nat → Nat) (le : Nat → Nat) (fd : Nat → Int32) (M : zX) : Prop := (∀ a, a < 28 ∨ 41 < a → M a = X a) ∧ M 28 4 = l ∧ M 28 5 = wt ∧ M 28 6 = nI cy ∧ (∀ s p, s < 10 → p < 12 → M (30 + s) p = nI (co (s, p))) ∧ (∀ p, p < 12 → M 40 p = nI (le p)) ∧ (∀ p, p < 12 → M 41 p = fd p)
theorem WM.rel (h : Rel X Y) (o : WM X l wt cy co le fd M) : Rel M Y := h.scr (fun a ha => o.1 a (by simp [scrX] at ha; omega))
theorem WM.put (o : WM X l wt cy co le fd M) {s p e : Nat} (hs : s < 10) (hp : p < 12) {co2 : Nat × Nat → Nat} (h1 : co2 (s, p) = e) (h2 : ∀ j, j ≠ (s, p) → co2 j = co j) : WM X l wt cy co2 le fd (zs M (30 + s) p (nI e)) := by
  obtain ⟨o1, o2, o3, o4, o5, o6, o7⟩ := o
  refine ⟨fun a ha => ?_, ?_, ?_, ?_, fun a b ha hb => ?_, fun b hb => ?_, fun b hb => ?_⟩
  · rw [zs_ne (by omega)]; exact o1 a ha
  · rw [zs_ne (by omega)]; exact o2
  · rw [zs_ne (by omega)]; exact o3
  · rw [zs_ne (by omega)]; exact o4
  · by_cases q : a = s
    · subst q
      by_cases q2 : b = p
      · subst q2; rw [zs_eq, h1]
      · rw [zs_nk q2, o5 a b ha hb, h2 _ (fun e => q2 (congrArg Prod.snd e))]
    · rw [zs_ne (by omega), o5 a b ha hb, h2 _ (fun e => q (congrArg Prod.fst e))]
  · rw [zs_ne (by omega)]; exact o6 b hb
  · rw [zs_ne (by omega)]; exact o7 b hb
theorem WM.same (o : WM X l wt cy co le fd M) {co2 : Nat × Nat → Nat} (h : ∀ j, co2 j = co j) : WM X l wt cy co2 le fd M := by
  rw [show co2 = co from funext h]; exact o
def stC (Y : zX) (l wt : Int32) (cy D x c w : Nat) (s : Nat × Nat) (y : Nat) : Prop := bt l w = true ∧ x + c ≤ cy ∧ s = ((D + c) % 10, n32 (Y 4 w)) ∧ y = drF (bt wt) (n32 (Y 4 w)) (x + c)
theorem cX_step (h : Rel X Y) (o : WM X l wt cy co le fd M) {c0 : Nat × Nat → Nat} {cand : Nat × Nat → Nat → Prop} (r : Rlx c0 co cand) (hco : ∀ s p, s < 10 → p < 12 → co (s, p) ≤ 21) (hcy : cy ≤ 20) {w c D x : Nat} (hw : w < nV Y) (hc : c < 10) (hD : D < 10000) (hx : x ≤ 20) : zPw SX 0 mX8_step [.ref 28, .int (nI w), .int (nI c), .int (nI D), .int (nI x)] M (fun M2 => ∃ co2, WM X l wt cy co2 le fd M2 ∧ Rlx c0 co2 (fun s y => cand s y ∨ stC Y l wt cy D x c w s y)) := by
  have hv2 := h.1.v2; have hp2 := h.1.p2
  obtain ⟨a1, a2⟩ := h.1.at_ w hw
  have o' := o
  obtain ⟨o1, o2, o3, o4, o5, o6, o7⟩ := o'
  have e6 : M 6 w = nI (n32 (Y 4 w)) := by rw [o1 6 (by omega), h.2.pl]; exact a1
  have skip : ¬ (bt l w = true ∧ x + c ≤ cy) → ∃ co2, WM X l wt cy co2 le fd M ∧ Rlx c0 co2 (fun s y => cand s y ∨ stC Y l wt cy D x c w s y) := fun q => ⟨co, o, r.congr (fun s y => ⟨Or.inl, fun g => g.elim id (fun z => absurd ⟨z.1, z.2.1⟩ q)⟩)⟩
  have put : bt l w = true → x + c ≤ cy → ∀ e, e ≤ 20 → e = drF (bt wt) (n32 (Y 4 w)) (x + c) → (∃ j5, ((nI D + nI c) - (nI D + nI c) / 10 * 10) = nI j5 ∧ j5 < 10 ∧ (∃ j6, (M 6 w) = nI j6 ∧ j6 < 12 ∧ ((((M (30 + j5) j6) ≤ nI e) → (∃ co2, WM X l wt cy co2 le fd M ∧ Rlx c0 co2 (fun s y => cand s y ∨ stC Y l wt cy D x c w s y))) ∧ ((¬ ((M (30 + j5) j6) ≤ nI e)) → (∃ j8, (M 6 w) = nI j8 ∧ j8 < 12 ∧ (∃ co2, WM X l wt cy co2 le fd (zs M (30 + j5) j8 (nI e)) ∧ Rlx c0 co2 (fun s y => cand s y ∨ stC Y l wt cy D x c w s y))))))) := fun q1 q2 e he ee => by
    have h12 : n32 (Y 4 w) < 12 := by omega
    have hm : (D + c) % 10 < 10 := by omega
    have hb := hco _ _ hm h12
    refine ⟨(D + c) % 10, by rw [nI_add]; exact pk_rem (a := D + c) (d := 10) (by omega) (by decide) (by decide), hm, n32 (Y 4 w), e6, h12, fun z => ?_, fun z => ⟨n32 (Y 4 w), e6, h12, ?_⟩⟩
    · rw [o5 _ _ hm h12, nI_leI (by omega) (by omega)] at z
      refine ⟨co, o, (r.add (j := ((D + c) % 10, n32 (Y 4 w))) (x := e) (b2 := co) (by rw [if_neg (by omega)]) (fun _ _ => rfl)).congr (fun s y => ?_)⟩
      unfold stC
      rw [← ee]; simp only [q1, q2, true_and]
    · rw [o5 _ _ hm h12, nI_leI (by omega) (by omega)] at z
      refine ⟨fun s => if s = ((D + c) % 10, n32 (Y 4 w)) then e else co s, o.put hm h12 (if_pos rfl) (fun j hj => if_neg hj), (r.add (j := ((D + c) % 10, n32 (Y 4 w))) (x := e) (by rw [if_pos rfl, if_pos (by omega)]) (fun s hs => if_neg hs)).congr (fun s y => ?_)⟩
      unfold stC
      rw [← ee]; simp only [q1, q2, true_and]
  refine eX8_step _ M _ _ _ _ ⟨fun e => ?_, fun e => ⟨fun e2 => ⟨w, rfl, by omega, fun e3 => ?_, fun e3 => ?_⟩, fun e2 => ?_⟩⟩
  · rw [o2, zb0 (by omega)] at e
    exact skip (fun q => by rw [e] at q; cases q.1)
  · rw [o2, zb0 (by omega)] at e
    rw [o4, nI_add, nI_leI (by omega) (by omega)] at e2
    rw [show nI x + nI c = nI (x + c) by rw [nI_add]]
    rw [o3, e6, zb1 (by omega)] at e3
    exact put (by simpa using e) e2 (x + c) (by omega) (by unfold drF; rw [if_neg e3])
  · rw [o2, zb0 (by omega)] at e
    rw [o4, nI_add, nI_leI (by omega) (by omega)] at e2
    rw [o3, e6, zb1 (by omega)] at e3
    exact put (by simpa using e) e2 0 (by omega) (by unfold drF; rw [if_pos e3])
  · rw [o4, nI_add, nI_leI (by omega) (by omega)] at e2
    exact skip (fun q => e2 q.2)
def cV (Y : zX) (l wt : Int32) (cy D x p v : Nat) (s : Nat × Nat) (y : Nat) : Prop := n32 (Y 4 v) = p ∧ bt l v = true ∧ ((∃ b, b < nV Y ∧ Y 3 b = Y 3 v ∧ n32 (Y 8 b) = n32 (Y 8 v) + 1 ∧ stC Y l wt cy D x (n32 (Y 6 b)) b s y) ∨ (n32 (Y 8 v) ≠ 0 ∧ stC Y l wt cy D x (n32 (Y 6 v)) (prY Y v) s y))
theorem cV_W (h : IY Y) {D x p : Nat} (s : Nat × Nat) (y : Nat) : (∃ v, v < nV Y ∧ cV Y l wt cy D x p v s y) ↔ cndW (EY Y l) cy (bt wt) D p x s y := by
  constructor
  · rintro ⟨v, hv, e1, e2, ⟨b, hb, b1, b2, g1, g2, g3, g4⟩ | ⟨b1, g1, g2, g3, g4⟩⟩
    · have := pr_uniq h hv hb b1 b2
      exact ⟨_, _, ⟨b, hb, by omega, g1, by rw [this]; exact e2, rfl, Or.inr ⟨by rw [this]; exact e1.symm, rfl⟩⟩, g2, g3, g4⟩
    · exact ⟨_, _, ⟨v, hv, b1, e2, g1, rfl, Or.inl ⟨e1.symm, rfl⟩⟩, g2, g3, g4⟩
  · rintro ⟨c, q, ⟨v, hv, h0, k1, k2, k3, k4⟩, g2, g3, g4⟩
    obtain ⟨a1, a2, a3, a4⟩ := prY_ok h hv h0
    subst k3
    rcases k4 with ⟨j1, j2⟩ | ⟨j1, j2⟩
    · subst j2
      exact ⟨v, hv, j1.symm, k1, Or.inr ⟨h0, k2, g2, g3, g4⟩⟩
    · subst j2
      refine ⟨prY Y v, a1, j1.symm, k2, Or.inl ⟨v, hv, a2.symm, ?_, k1, g2, g3, g4⟩⟩
      have := (numY h hv).2.2; have := lenY_le h (Y 3 v)
      rw [a3, n32_nI (by omega)]; omega
theorem fol_cases (h : IY Y) {v : Nat} (hv : v < nV Y) : (vby Y (Y 3 v) (Y 8 v + 1) (nV Y) = -4 ∧ ∀ b, b < nV Y → Y 3 b = Y 3 v → n32 (Y 8 b) ≠ n32 (Y 8 v) + 1) ∨ ∃ b, b < nV Y ∧ vby Y (Y 3 v) (Y 8 v + 1) (nV Y) = nI b ∧ Y 3 b = Y 3 v ∧ n32 (Y 8 b) = n32 (Y 8 v) + 1 ∧ ∀ b2, b2 < nV Y → Y 3 b2 = Y 3 v → n32 (Y 8 b2) = n32 (Y 8 v) + 1 → b2 = b := by
  obtain ⟨n1, n2, n3⟩ := numY h hv
  have hl := lenY_le h (Y 3 v); have hv2 := h.v2
  have e8 : Y 8 v + 1 = nI (n32 (Y 8 v) + 1) := by rw [← nI_1, ← n1]
  rw [e8]
  by_cases q : n32 (Y 8 v) + 1 < lenY Y (Y 3 v)
  · obtain ⟨a1, a2, a3, a4⟩ := vn_ok h (Y 3 v) q
    refine Or.inr ⟨_, a2, a1, a3, by rw [a4, n32_nI (by omega)], fun b2 hb2 e1 e2 => ?_⟩
    have := vby_one h hb2 (nV Y) hb2 (Nat.le_refl _)
    rw [e1, (numY h hb2).1, e2, a1] at this
    exact (nI_inj (by omega) (by omega) this).symm
  · refine Or.inl ⟨vby_out h _ (fun k hk e => ?_), fun b hb e1 e2 => ?_⟩
    · have := nI_inj (by omega) (by omega) e; omega
    · have := (numY h hb).2.2; rw [e1] at this; omega
theorem cX_setOut (h : Rel X Y) (o : WM X l wt cy co le fd M) {c0 : Nat × Nat → Nat} {cand : Nat × Nat → Nat → Prop} (r : Rlx c0 co cand) (hc0 : ∀ s p, s < 10 → p < 12 → c0 (s, p) ≤ 21) (hcy : cy ≤ 20) {p D x : Nat} (hp : p < 12) (hD : D < 10000) (hx : x ≤ 20) : zPw SX 1 mX8_setOut [.ref 28, .int (nI p), .int (nI D), .int (nI x)] M (fun M2 => ∃ co2, WM X l wt cy co2 le fd M2 ∧ Rlx c0 co2 (fun s y => cand s y ∨ cndW (EY Y l) cy (bt wt) D p x s y)) := by
  have hv2 := h.1.v2; have hp2 := h.1.p2
  have e18 : M 18 p = bs (fun v => Y 4 v == nI p) (nV Y) := by rw [o.1 18 (by omega)]; exact h.2.atPlace p hp
  refine eX8_setOut _ M _ _ _ ⟨p, rfl, hp, ?_⟩
  rw [e18, o.2.1]
  have bit : ∀ v, v < nV Y → (bt (bs (fun v => Y 4 v == nI p) (nV Y) &&& l) v = true ↔ n32 (Y 4 v) = p ∧ bt l v = true) := fun v hv => by
    obtain ⟨a1, a2⟩ := h.1.at_ v hv
    rw [b_and, bt_bs _ (by omega) (by omega), Bool.and_eq_true]
    have : (decide (v < nV Y) && Y 4 v == nI p) = true ↔ n32 (Y 4 v) = p := by
      simp only [hv, decide_true, Bool.true_and, beq_iff_eq]
      constructor
      · intro e; rw [e, n32_nI (by omega)]
      · intro e; rw [← e]; exact a1
    rw [this]
  refine zdown0 (P := fun i => ∀ (N : zX) (cn : Nat × Nat → Nat), WM X l wt cy cn le fd N → Rlx c0 cn (fun s y => cand s y ∨ ∃ v, v < i ∧ cV Y l wt cy D x p v s y) → LX8_setOut_19 (fun M2 => ∃ co2, WM X l wt cy co2 le fd M2 ∧ Rlx c0 co2 (fun s y => cand s y ∨ cndW (EY Y l) cy (bt wt) D p x s y)) N (nI D) (nI x) (bs (fun v => Y 4 v == nI p) (nV Y) &&& l) (nI i)) (nV Y) ?_ ?_ M co o (r.congr (fun s y => ⟨Or.inl, fun g => g.elim id (fun ⟨v, hv, _⟩ => by omega)⟩))
  · intro N cn on rn
    refine bX8_setOut_19 _ N _ _ _ _ ⟨fun _ => ⟨cn, on, rn.congr (fun s y => or_congr Iff.rfl (cV_W h.1 s y))⟩, fun e => absurd (loE (n := nV Y) ?_ (by omega)) e⟩
    rw [on.1 4 (by omega)]; exact h.2.vs.trans h.1.v
  · intro i hi ih N cn on rn
    have hrel := on.rel h
    have e8 : N 8 = Y 6 := hrel.2.dy
    have nxt : ∀ (N2 : zX) (cn2 : Nat × Nat → Nat), WM X l wt cy cn2 le fd N2 → Rlx c0 cn2 (fun s y => (cand s y ∨ ∃ v, v < i ∧ cV Y l wt cy D x p v s y) ∨ cV Y l wt cy D x p i s y) → LX8_setOut_19 (fun M2 => ∃ co2, WM X l wt cy co2 le fd M2 ∧ Rlx c0 co2 (fun s y => cand s y ∨ cndW (EY Y l) cy (bt wt) D p x s y)) N2 (nI D) (nI x) (bs (fun v => Y 4 v == nI p) (nV Y) &&& l) (nI i + 1) := fun N2 cn2 on2 rn2 => by
      rw [nI_1]
      refine ih N2 cn2 on2 (rn2.congr (fun s y => ?_))
      constructor
      · rintro ((g | ⟨v, hv, g⟩) | g)
        · exact Or.inl g
        · exact Or.inr ⟨v, by omega, g⟩
        · exact Or.inr ⟨i, by omega, g⟩
      · rintro (g | ⟨v, hv, g⟩)
        · exact Or.inl (Or.inl g)
        · by_cases e : v = i
          · subst e; exact Or.inr g
          · exact Or.inl (Or.inr ⟨v, by omega, g⟩)
    have lim : ∀ {cn2 : Nat × Nat → Nat} {cd : Nat × Nat → Nat → Prop}, Rlx c0 cn2 cd → ∀ s p, s < 10 → p < 12 → cn2 (s, p) ≤ 21 := fun rr s p hs hp => Nat.le_trans (rr.1 _) (hc0 s p hs hp)
    have hb := bit i hi
    obtain ⟨n1, n2, n3⟩ := numY h.1 hi
    have hlen := lenY_le h.1 (Y 3 i)
    refine bX8_setOut_19 _ N _ _ _ _ ⟨fun e => absurd e (loB (n := nV Y) (by rw [on.1 4 (by omega)]; exact h.2.vs.trans h.1.v) hi (by omega)), fun _ => ⟨fun e => ?_, fun e => ?_⟩⟩
    · rw [zb0 (by omega), Bool.not_eq_false, hb] at e
      have pre : ∀ (N2 : zX) (cn2 : Nat × Nat → Nat) (cd : Nat × Nat → Nat → Prop), WM X l wt cy cn2 le fd N2 → Rlx c0 cn2 cd → (∀ s y, (cd s y ∨ (n32 (Y 8 i) ≠ 0 ∧ stC Y l wt cy D x (n32 (Y 6 i)) (prY Y i) s y)) ↔ ((cand s y ∨ ∃ v, v < i ∧ cV Y l wt cy D x p v s y) ∨ cV Y l wt cy D x p i s y)) → ∃ r6, zPf SX 0 mX6_preceding [.ref 4, .int (nI i)] N2 r6 ∧ (((r6 = (-4)) → (LX8_setOut_19 (fun M2 => ∃ co2, WM X l wt cy co2 le fd M2 ∧ Rlx c0 co2 (fun s y => cand s y ∨ cndW (EY Y l) cy (bt wt) D p x s y)) N2 (nI D) (nI x) (bs (fun v => Y 4 v == nI p) (nV Y) &&& l) (nI i + 1))) ∧ ((¬ (r6 = (-4))) → (∃ j8, nI i = nI j8 ∧ j8 < 24 ∧ (∃ Qr9 : zX → Prop, zPw SX 0 mX8_step [.ref 28, .int r6, .int (N2 8 j8), .int (nI D), .int (nI x)] N2 Qr9 ∧ ∀ M10 : zX, Qr9 M10 → (LX8_setOut_19 (fun M2 => ∃ co2, WM X l wt cy co2 le fd M2 ∧ Rlx c0 co2 (fun s y => cand s y ∨ cndW (EY Y l) cy (bt wt) D p x s y)) M10 (nI D) (nI x) (bs (fun v => Y 4 v == nI p) (nV Y) &&& l) (nI i + 1)))))) := fun N2 cn2 cd on2 rn2 hcd => by
        have hr2 := on2.rel h
        by_cases z : n32 (Y 8 i) = 0
        · have z8 : Y 8 i = 0 := by rw [n1, z]; rfl
          refine ⟨_, cX_preceding hr2 hi, fun _ => nxt N2 cn2 on2 (rn2.congr (fun s y => ?_)), fun q => absurd (if_pos z8) q⟩
          rw [← hcd s y]; simp [z]
        · obtain ⟨a1, a2, a3, a4⟩ := prY_ok h.1 hi z
          have z8 : ¬ Y 8 i = 0 := fun e => z (by rw [e]; rfl)
          have em : Y 8 i - 1 = nI (n32 (Y 8 i) - 1) := by
            obtain ⟨k, hk⟩ : ∃ k, n32 (Y 8 i) = k + 1 := ⟨n32 (Y 8 i) - 1, by omega⟩
            rw [n1, n32_nI (by omega), hk, ← nI_1, add_sub1]; rfl
          refine ⟨nI (prY Y i), (cX_preceding hr2 hi).eq (by rw [if_neg z8, em]; exact a4), fun q => absurd q (neg4_ne _ (by omega)), fun _ => ⟨i, rfl, by omega, ?_⟩⟩
          rw [hr2.2.dy, (h.1.days i hi).1]
          refine ⟨_, cX_step h on2 rn2 (lim rn2) hcy a1 (h.1.days i hi).2 hD hx, fun M10 ⟨c3, o3, r3⟩ => nxt M10 c3 o3 (r3.congr (fun s y => ?_))⟩
          rw [← hcd s y]; simp [z]
      rcases fol_cases h.1 hi with ⟨f1, f2⟩ | ⟨b, b1, b2, b3, b4, b5⟩
      · refine ⟨_, cX_following hrel hi, fun _ => pre N cn _ on rn (fun s y => ?_), fun q => absurd f1 q⟩
        refine or_congr Iff.rfl ?_
        unfold cV
        constructor
        · rintro g; exact ⟨e.1, e.2, Or.inr g⟩
        · rintro ⟨_, _, ⟨b, hb, g1, g2, _⟩ | g⟩
          · exact absurd g2 (f2 b hb g1)
          · exact g
      · refine ⟨nI b, (cX_following hrel hi).eq b2, fun q => absurd q (neg4_ne _ (by omega)), fun _ => ⟨b, rfl, by omega, ?_⟩⟩
        rw [e8, (h.1.days b b1).1]
        refine ⟨_, cX_step h on rn (lim rn) hcy b1 (h.1.days b b1).2 hD hx, fun M13 ⟨c3, o3, r3⟩ => pre M13 c3 _ o3 r3 (fun s y => ?_)⟩
        rw [or_assoc]
        refine or_congr Iff.rfl ?_
        unfold cV
        constructor
        · rintro (g | g)
          · exact ⟨e.1, e.2, Or.inl ⟨b, b1, b3, b4, g⟩⟩
          · exact ⟨e.1, e.2, Or.inr g⟩
        · rintro ⟨_, _, ⟨b', hb', g1, g2, g⟩ | g⟩
          · rw [b5 b' hb' g1 g2] at g; exact Or.inl g
          · exact Or.inr g
    · rw [zb0 (by omega)] at e
      refine nxt N cn on (rn.congr (fun s y => ?_))
      constructor
      · exact Or.inl
      · rintro (g | g)
        · exact g
        · rw [hb.mpr ⟨g.1, g.2.1⟩] at e; cases e
end WK
