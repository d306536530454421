section WY
variable {X Y M : zX} {l : Int32}
def cyY (Y : zX) : Nat := n32 (Y 0 21)
def FDY (Y : zX) (l : Int32) (fr p : Nat) (r : Int32) : Prop := FD (EY Y l) (cyY Y) (bt (wtY Y)) fr p r
def Rch (Y : zX) (l : Int32) (fr p : Nat) : Prop := ∃ t d, Rr (EY Y l) (cyY Y) (bt (wtY Y)) fr t p d
theorem FDY.ne {fr p : Nat} {r : Int32} (h : FDY Y l fr p r) : r = -4 ↔ ¬ Rch Y l fr p := by
  rcases h with ⟨e, n⟩ | ⟨t, d, h1, h2, e, h3⟩
  · exact ⟨fun _ ⟨t, d, g⟩ => n t d g, fun _ => e⟩
  · exact ⟨fun q => absurd (e.symm.trans q) (neg4_ne t (by omega)), fun q => absurd ⟨t, d, h2⟩ q⟩
theorem cy_ok (h : IY Y) : cyY Y ≤ 20 ∧ Y 0 21 = nI (cyY Y) := ⟨by have := h.carry.2; unfold cyY; omega, h.carry.1⟩
theorem EY_at {p c q : Nat} (h : IY Y) (e : EY Y l p c q) : (∃ v, v < nV Y ∧ n32 (Y 4 v) = p ∧ bt l v = true) ∧ ∃ v, v < nV Y ∧ n32 (Y 4 v) = q ∧ bt l v = true := by
  obtain ⟨v, hv, h0, g1, g2, _, k⟩ := e
  obtain ⟨a1, _⟩ := prY_ok h hv h0
  rcases k with ⟨k1, k2⟩ | ⟨k1, k2⟩
  · exact ⟨⟨v, hv, k1.symm, g1⟩, ⟨_, a1, k2.symm, g2⟩⟩
  · exact ⟨⟨_, a1, k1.symm, g2⟩, ⟨v, hv, k2.symm, g1⟩⟩
theorem at_bit (h : IY Y) {p : Nat} (hp : p < 12) : (bs (fun v => Y 4 v == nI p) (nV Y) &&& l) = 0 → ∀ v, v < nV Y → n32 (Y 4 v) = p → bt l v = false := fun e v hv ev => by
  have hv2 := h.v2
  have : bt (bs (fun v => Y 4 v == nI p) (nV Y) &&& l) v = false := by rw [e, b_0]
  rw [b_and, bt_bs _ (by omega) (by omega)] at this
  have e4 : (Y 4 v == nI p) = true := beqT (by rw [← ev]; exact (h.at_ v hv).1)
  simpa [hv, e4] using this
def KX (M0 M : zX) : Prop := ∀ a, a < 28 ∨ 41 < a → M a = M0 a
theorem KX.rel {M0 : zX} (h : Rel M0 Y) (o : KX M0 M) : Rel M Y := h.scr (fun a ha => o a (by simp [scrX] at ha; omega))
theorem cX_sweepFrom (h : Rel M Y) {fr : Nat} (hf : fr < nP Y) : zPw SX 4 mX9_sweepFrom [.ref 0, .int (nI fr), .int l] M (fun M2 => KX M M2 ∧ ∀ p, p < 12 → FDY Y l fr p (M2 41 p)) := by
  have hp2 := h.1.p2
  refine eX9_sweepFrom _ M _ _ ⟨_, cX_wetPlaces h, ?_⟩
  rw [h.2.cry, (cy_ok h.1).2]
  exact ⟨_, cX_sweep h (by omega) (cy_ok h.1).1, fun M3 q => q⟩
theorem FDY_0 (fr : Nat) : FDY Y l fr fr 0 := Or.inr ⟨0, 0, by decide, Rr.start, rfl, fun _ _ _ => Nat.zero_le _⟩
theorem cX_daysBetween (h : Rel M Y) {fr to : Nat} (hf : fr < nP Y) (ht : to < nP Y) : zPi SX 5 mX9_daysBetween [.ref 0, .int (nI fr), .int (nI to), .int l] M (fun r M2 => FDY Y l fr to r ∧ KX M M2) := by
  have hp2 := h.1.p2
  have eq : nI fr = nI to ↔ fr = to := nI_eq (by omega) (by omega)
  have kk : KX M M := fun _ _ => rfl
  refine eX9_daysBetween _ M _ _ _ ⟨fun e => ⟨fr, rfl, by omega, fun e2 => ⟨?_, kk⟩, fun e2 => ⟨to, rfl, by omega, fun e3 => ⟨_, cX_sweepFrom h hf, fun M7 q => ⟨to, rfl, by omega, q.2 to (by omega), q.1⟩⟩, fun e3 => ⟨?_, kk⟩⟩⟩, fun e => ?_⟩
  · rw [h.2.atPlace fr (by omega)] at e2
    have nb := at_bit h.1 (by omega) e2
    have st : ∀ k t p d, Rn (EY Y l) (cyY Y) (bt (wtY Y)) fr k t p d → p = fr := by
      intro k
      induction k with
      | zero => rintro t p d ⟨_, e, _⟩; exact e
      | succ k ih =>
        rintro t q d ⟨t', p, d', c, g1, g2, _⟩
        have := ih _ _ _ g1
        obtain ⟨⟨v, hv, v1, v2⟩, _⟩ := EY_at h.1 g2
        rw [nb v hv (by omega)] at v2; cases v2
    refine Or.inl ⟨rfl, fun t d ⟨k, hr⟩ => ?_⟩
    have := st k t to d hr
    exact e (eq.mpr this.symm)
  · rw [h.2.atPlace to (by omega)] at e3
    have nb := at_bit h.1 (by omega) e3
    refine Or.inl ⟨rfl, fun t d hr => ?_⟩
    rcases hr.last with ⟨_, g, _⟩ | ⟨t', p', d', c, _, g2, _⟩
    · exact e (eq.mpr g.symm)
    · obtain ⟨_, ⟨v, hv, v1, v2⟩⟩ := EY_at h.1 g2
      rw [nb v hv v1] at v2; cases v2
  · have := eq.mp e
    subst this
    exact ⟨FDY_0 _, kk⟩
def KY (Y0 M : zX) : Prop := ∀ a, a ≠ 23 → a ≠ 24 → M a = Y0 a
theorem cY_wayBy (h : Rel X Y) {Y0 : zX} (e0 : KY Y Y0) {fr to : Nat} (hf : fr < nP Y) (ht : to < nP Y) : zPi SY 3 mX10_wayBy [.ref 0, .int l, .int (nI fr), .int (nI to)] Y0 (fun r M2 => FDY Y l fr to r ∧ KY Y M2) := by
  have hp2 := h.1.p2
  obtain ⟨c1, c2⟩ := cy_ok h.1
  refine eX10_wayBy _ Y0 _ _ _ ⟨_, cY_findWays h c1 c2 (by omega) e0, fun M2 ⟨b, dn, o, s0, s1, s2⟩ => ⟨_, cY_fewestTo o s0 (by omega), ?_⟩⟩
  have an := FW.ans c1 (p := to) (by omega) o s1 s2
  have ml := (mnF_le b to 21).1
  have e6 : nI (mnF b to 21) = 1000000 ↔ mnF b to 21 = 1000000 := by
    generalize mnF b to 21 = m at *
    exact nI_eq (b := 1000000) (by omega) (by decide)
  exact ⟨fun q => ⟨_, cY_fewestTo o s0 (by omega), an.2 (fun z => q (e6.mpr z)), o.1⟩, fun q => ⟨an.1 (e6.mp q), o.1⟩⟩
theorem zAg_s {m1 m2 : zM} {l1 l2 : Nat} {as : List Value} (h : Rel X Y) (Q : Int32 → Prop) (u : ∀ r s, Q r → Q s → r = s) (h1 : zPi SX l1 m1 (.ref 0 :: as) X (fun r M => Q r ∧ Rel M Y)) (h2 : zPi SY l2 m2 (.ref 0 :: as) Y (fun r M => Q r ∧ KY Y M)) : zAg m1 m2 l1 l2 as X Y := by
  by_cases e : ∃ r, Q r
  · obtain ⟨r, hr⟩ := e
    exact ⟨r, fun M => Rel M Y, fun M => KY Y M, h1.mono (fun s M q => ⟨u _ _ q.1 hr, q.2⟩), h2.mono (fun s M q => ⟨u _ _ q.1 hr, q.2⟩), fun X' Y' g1 g2 => g1.scrY g2⟩
  · exact ⟨0, fun _ => False, fun _ => False, h1.mono (fun s M q => absurd ⟨s, q.1⟩ e), h2.mono (fun s M q => absurd ⟨s, q.1⟩ e), fun _ _ g => g.elim⟩
theorem ag_way (h : Rel X Y) (a1 a2 a3 : Int32) : zAg mX9_way mX10_way 6 4 [.int a1, .int a2, .int a3] X Y := by
  have hp2 := h.1.p2
  rcases inR_cases a1 (b := 2 ^ nN Y) (by have := pow_le h.1.n2; omega) with h1 | ⟨s, hs, rfl⟩
  · exact zAg_b h (-1) (fun P q => eX9_way P X _ _ _ ⟨_, oS_o h h1, fun _ => q, fun e => absurd e (by decide)⟩) (fun P q => eX10_way P Y _ _ _ ⟨_, yS_o h.1 h1, fun _ => q, fun e => absurd rfl e⟩)
  rcases inR_cases a2 (b := nP Y) (by omega) with h1 | ⟨fr, hf, rfl⟩
  · exact zAg_b h (-1) (fun P q => eX9_way P X _ _ _ ⟨_, oS_i h hs, fun e => absurd rfl e, fun _ => ⟨_, oP_o h h1, fun _ => q, fun e => absurd e (by decide)⟩⟩) (fun P q => eX10_way P Y _ _ _ ⟨_, yS_i h.1 hs, fun e => absurd e (by decide), fun _ => ⟨_, yP_o h.1 h1, fun _ => q, fun e => absurd rfl e⟩⟩)
  rcases inR_cases a3 (b := nP Y) (by omega) with h1 | ⟨to, ht, rfl⟩
  · exact zAg_b h (-1) (fun P q => eX9_way P X _ _ _ ⟨_, oS_i h hs, fun e => absurd rfl e, fun _ => ⟨_, oP_i h hf, fun e => absurd rfl e, fun _ => ⟨_, oP_o h h1, fun e => absurd e (by decide), fun _ => q⟩⟩⟩) (fun P q => eX10_way P Y _ _ _ ⟨_, yS_i h.1 hs, fun e => absurd e (by decide), fun _ => ⟨_, yP_i h.1 hf, fun e => absurd e (by decide), fun _ => ⟨_, yP_o h.1 h1, fun _ => q, fun e => absurd rfl e⟩⟩⟩)
  refine zAg_s h (FDY Y (ledY Y (nI s)) fr to) (fun r s => FD.uniq) (eX9_way _ X _ _ _ ⟨_, oS_i h hs, fun e => absurd rfl e, fun _ => ⟨_, oP_i h hf, fun e => absurd rfl e, fun _ => ⟨_, oP_i h ht, fun _ => ⟨_, cX_ledBy h _, fun r7 M8 ⟨e7, o⟩ => ?_⟩, fun e => absurd rfl e⟩⟩⟩) (eX10_way _ Y _ _ _ ⟨_, yS_i h.1 hs, fun e => absurd e (by decide), fun _ => ⟨_, yP_i h.1 hf, fun e => absurd e (by decide), fun _ => ⟨_, yP_i h.1 ht, fun e => absurd e (by decide), fun _ => ⟨_, cY_ledBy h.1 _, _, cY_wayBy h (fun _ _ _ => rfl) hf ht, fun r M q => q⟩⟩⟩⟩)
  subst e7
  exact ⟨_, cX_daysBetween (o.rel h) hf ht, fun r9 M10 q => ⟨q.1, q.2.rel (o.rel h)⟩⟩
/-- what wanting answers -/
def Wnt (Y : zX) (l : Int32) (fr to i : Nat) (r : Int32) : Prop := (r = -4 ∧ ∀ v, v < i → bt l v = false → ¬ Rch Y (l ||| zshl 1 (nI v)) fr to) ∨ ∃ v, v < i ∧ r = nI v ∧ bt l v = false ∧ Rch Y (l ||| zshl 1 (nI v)) fr to ∧ ∀ u, u < v → bt l u = false → ¬ Rch Y (l ||| zshl 1 (nI u)) fr to
theorem Wnt.uniq {fr to i : Nat} {r s : Int32} (h1 : Wnt Y l fr to i r) (h2 : Wnt Y l fr to i s) : r = s := by
  rcases h1 with ⟨e1, n1⟩ | ⟨v, v1, e1, v2, v3, v4⟩
  · rcases h2 with ⟨e2, n2⟩ | ⟨u, u1, e2, u2, u3, u4⟩
    · rw [e1, e2]
    · exact absurd u3 (n1 u u1 u2)
  · rcases h2 with ⟨e2, n2⟩ | ⟨u, u1, e2, u2, u3, u4⟩
    · exact absurd v3 (n2 v v1 v2)
    · rcases Nat.lt_trichotomy u v with q | q | q
      · exact absurd u3 (v4 u q u2)
      · rw [e1, e2, q]
      · exact absurd v3 (u4 v q v2)
theorem ag_wanting (h : Rel X Y) (a1 a2 a3 : Int32) : zAg mX9_wanting mX10_wanting 6 4 [.int a1, .int a2, .int a3] X Y := by
  have hp2 := h.1.p2; have hv2 := h.1.v2
  rcases inR_cases a1 (b := 2 ^ nN Y) (by have := pow_le h.1.n2; omega) with h1 | ⟨s, hs, rfl⟩
  · exact zAg_b h (-1) (fun P q => eX9_wanting P X _ _ _ ⟨_, oS_o h h1, fun _ => q, fun e => absurd e (by decide)⟩) (fun P q => eX10_wanting P Y _ _ _ ⟨_, yS_o h.1 h1, fun _ => q, fun e => absurd rfl e⟩)
  rcases inR_cases a2 (b := nP Y) (by omega) with h1 | ⟨fr, hf, rfl⟩
  · exact zAg_b h (-1) (fun P q => eX9_wanting P X _ _ _ ⟨_, oS_i h hs, fun e => absurd rfl e, fun _ => ⟨_, oP_o h h1, fun _ => q, fun e => absurd e (by decide)⟩⟩) (fun P q => eX10_wanting P Y _ _ _ ⟨_, yS_i h.1 hs, fun e => absurd e (by decide), fun _ => ⟨_, yP_o h.1 h1, fun _ => q, fun e => absurd rfl e⟩⟩)
  rcases inR_cases a3 (b := nP Y) (by omega) with h1 | ⟨to, ht, rfl⟩
  · exact zAg_b h (-1) (fun P q => eX9_wanting P X _ _ _ ⟨_, oS_i h hs, fun e => absurd rfl e, fun _ => ⟨_, oP_i h hf, fun e => absurd rfl e, fun _ => ⟨_, oP_o h h1, fun e => absurd e (by decide), fun _ => q⟩⟩⟩) (fun P q => eX10_wanting P Y _ _ _ ⟨_, yS_i h.1 hs, fun e => absurd e (by decide), fun _ => ⟨_, yP_i h.1 hf, fun e => absurd e (by decide), fun _ => ⟨_, yP_o h.1 h1, fun e => absurd rfl e, fun _ => q⟩⟩⟩)
  generalize el : ledY Y (nI s) = l
  let Q : Int32 → Prop := fun r => (Rch Y l fr to ∧ r = -2) ∨ (¬ Rch Y l fr to ∧ Wnt Y l fr to (nV Y) r)
  have uq : ∀ r s, Q r → Q s → r = s := fun r s g1 g2 => by
    rcases g1 with ⟨k1, k2⟩ | ⟨k1, k2⟩ <;> rcases g2 with ⟨j1, j2⟩ | ⟨j1, j2⟩
    · rw [k2, j2]
    · exact absurd k1 j1
    · exact absurd j1 k1
    · exact k2.uniq j2
  have lx : ¬ Rch Y l fr to → ∀ M : zX, Rel M Y → LX9_wanting_64 (fun r M => Q r ∧ Rel M Y) M (nI fr) (nI to) l 0 := fun nr M hM => by
    refine zdown0 (P := fun i => ∀ M : zX, Rel M Y → (∀ v, v < i → bt l v = false → ¬ Rch Y (l ||| zshl 1 (nI v)) fr to) → LX9_wanting_64 (fun r M => Q r ∧ Rel M Y) M (nI fr) (nI to) l (nI i)) (nV Y) ?_ ?_ M hM (fun v hv => by omega)
    · intro M hM hq
      exact bX9_wanting_64 _ M _ _ _ _ ⟨fun _ => ⟨Or.inr ⟨nr, Or.inl ⟨rfl, hq⟩⟩, hM⟩, fun e => absurd (loE (n := nV Y) (hM.2.vs.trans hM.1.v) (by omega)) e⟩
    · intro i hi ih M hM hq
      refine bX9_wanting_64 _ M _ _ _ _ ⟨fun e => absurd e (loB (n := nV Y) (hM.2.vs.trans hM.1.v) hi (by omega)), fun _ => ⟨fun e => ⟨_, cX_daysBetween hM hf ht, fun r14 M15 ⟨q1, q2⟩ => ⟨fun e2 => ?_, fun e2 => ?_⟩⟩, fun e => ?_⟩⟩
      · rw [nI_1]
        refine ih M15 (q2.rel hM) (fun v hv hb => ?_)
        by_cases z : v = i
        · subst z; exact q1.ne.mp e2
        · exact hq v (by omega) hb
      · rw [zb1 (by omega)] at e
        exact ⟨Or.inr ⟨nr, Or.inr ⟨i, hi, rfl, by simpa using e, Classical.not_not.mp (fun z => e2 (q1.ne.mpr z)), hq⟩⟩, q2.rel hM⟩
      · rw [zb1 (by omega)] at e
        rw [nI_1]
        refine ih M hM (fun v hv hb => ?_)
        by_cases z : v = i
        · subst z; rw [e] at hb; cases hb
        · exact hq v (by omega) hb
  have ly : ¬ Rch Y l fr to → ∀ M : zX, KY Y M → LX10_wanting_52 (fun r M => Q r ∧ KY Y M) M (nI fr) (nI to) l 0 := fun nr M hM => by
    refine zdown0 (P := fun i => ∀ M : zX, KY Y M → (∀ v, v < i → bt l v = false → ¬ Rch Y (l ||| zshl 1 (nI v)) fr to) → LX10_wanting_52 (fun r M => Q r ∧ KY Y M) M (nI fr) (nI to) l (nI i)) (nV Y) ?_ ?_ M hM (fun v hv => by omega)
    · intro M hM hq
      exact bX10_wanting_52 _ M _ _ _ _ ⟨fun _ => ⟨Or.inr ⟨nr, Or.inl ⟨rfl, hq⟩⟩, hM⟩, fun e => absurd (loE (n := nV Y) (by rw [hM 0 (by decide) (by decide)]; exact h.1.v) (by omega)) e⟩
    · intro i hi ih M hM hq
      refine bX10_wanting_52 _ M _ _ _ _ ⟨fun e => absurd e (loB (n := nV Y) (by rw [hM 0 (by decide) (by decide)]; exact h.1.v) hi (by omega)), fun _ => ⟨fun e => ?_, fun e => ⟨_, cY_wayBy h hM hf ht, fun r14 M15 ⟨q1, q2⟩ => ⟨fun e2 => ?_, fun e2 => ?_⟩⟩⟩⟩
      · rw [zb0 (by omega)] at e
        rw [nI_1]
        refine ih M hM (fun v hv hb => ?_)
        by_cases z : v = i
        · subst z; exact absurd hb e
        · exact hq v (by omega) hb
      · rw [nI_1]
        refine ih M15 q2 (fun v hv hb => ?_)
        by_cases z : v = i
        · subst z; exact q1.ne.mp e2
        · exact hq v (by omega) hb
      · rw [zb0 (by omega)] at e
        exact ⟨Or.inr ⟨nr, Or.inr ⟨i, hi, rfl, e, Classical.not_not.mp (fun z => e2 (q1.ne.mpr z)), hq⟩⟩, q2⟩
  refine zAg_s h Q uq (eX9_wanting _ X _ _ _ ⟨_, oS_i h hs, fun e => absurd rfl e, fun _ => ⟨_, oP_i h hf, fun e => absurd rfl e, fun _ => ⟨_, oP_i h ht, fun _ => ⟨_, cX_ledBy h _, fun r7 M8 ⟨e7, o⟩ => ?_⟩, fun e => absurd rfl e⟩⟩⟩) (eX10_wanting _ Y _ _ _ ⟨_, yS_i h.1 hs, fun e => absurd e (by decide), fun _ => ⟨_, yP_i h.1 hf, fun e => absurd e (by decide), fun _ => ⟨_, yP_i h.1 ht, fun _ => ⟨_, (cY_ledBy h.1 _).eq el, _, cY_wayBy h (fun _ _ _ => rfl) hf ht, fun r M q => ⟨fun e => ly (q.1.ne.mp e) M q.2, fun e => ⟨Or.inl ⟨Classical.not_not.mp (fun z => e (q.1.ne.mpr z)), rfl⟩, q.2⟩⟩⟩, fun e => absurd e (by decide)⟩⟩⟩)
  rw [el] at e7
  subst e7
  exact ⟨_, cX_daysBetween (o.rel h) hf ht, fun r9 M10 q => ⟨fun e => lx (q.1.ne.mp e) M10 (q.2.rel (o.rel h)), fun e => ⟨Or.inl ⟨Classical.not_not.mp (fun z => e (q.1.ne.mpr z)), rfl⟩, q.2.rel (o.rel h)⟩⟩⟩
end WY
