section RE
variable {X Y M : zX} {l : Int32}
theorem ag_reach (h : Rel X Y) (a1 a2 : Int32) : zAg mX9_reach mX10_reach 5 4 [.int a1, .int a2] X Y := by
  have hp2 := h.1.p2
  rcases inR_cases a1 (b := 2 ^ nN Y) (by have := pow_le h.1.n2; omega) with h1 | ⟨s, hs, rfl⟩
  · exact zAg_b h (-1) (fun P q => eX9_reach P X _ _ ⟨_, oS_o h h1, fun _ => q, fun e => absurd e (by decide)⟩) (fun P q => eX10_reach P Y _ _ ⟨_, yS_o h.1 h1, fun _ => q, fun e => absurd rfl e⟩)
  rcases inR_cases a2 (b := nP Y) (by omega) with h1 | ⟨fr, hf, rfl⟩
  · exact zAg_b h (-1) (fun P q => eX9_reach P X _ _ ⟨_, oS_i h hs, fun e => absurd rfl e, fun _ => ⟨_, oP_o h h1, fun e => absurd e (by decide), fun _ => q⟩⟩) (fun P q => eX10_reach P Y _ _ ⟨_, yS_i h.1 hs, fun e => absurd e (by decide), fun _ => ⟨_, yP_o h.1 h1, fun e => absurd rfl e, fun _ => q⟩⟩)
  generalize el : ledY Y (nI s) = l
  let Q : Int32 → Prop := fun r => ∃ f : Nat → Int32, (∀ p, p < nP Y → FDY Y l fr p (f p)) ∧ r = bs (fun p => !(f p == -4)) (nP Y)
  have uq : ∀ r s, Q r → Q s → r = s := fun r s ⟨f, f1, f2⟩ ⟨g, g1, g2⟩ => by
    rw [f2, g2]
    exact bs_congr (fun p hp => by rw [FD.uniq (f1 p hp) (g1 p hp)])
  obtain ⟨c1, c2⟩ := cy_ok h.1
  refine zAg_s h Q uq (eX9_reach _ X _ _ ⟨_, oS_i h hs, fun e => absurd rfl e, fun _ => ⟨_, oP_i h hf, fun _ => ⟨_, cX_ledBy h _, fun r7 M8 ⟨e7, o⟩ => ?_⟩, fun e => absurd rfl e⟩⟩) (eX10_reach _ Y _ _ ⟨_, yS_i h.1 hs, fun e => absurd e (by decide), fun _ => ⟨_, yP_i h.1 hf, fun _ => ⟨_, (cY_ledBy h.1 _).eq el, _, cY_findWays h c1 c2 (by omega) (fun _ _ _ => rfl), fun M2 ⟨b, dn, o, s0, s1, s2⟩ => ?_⟩, fun e => absurd e (by decide)⟩⟩)
  · rw [el] at e7
    subst e7
    have h8 := o.rel h
    refine ⟨_, cX_sweepFrom h8 hf, fun M9 ⟨q1, q2⟩ => ?_⟩
    have h9 := q1.rel h8
    refine zdown0 (P := fun i => LX9_reach_39 (fun r M => Q r ∧ Rel M Y) M9 (bs (fun p => !(M9 41 p == -4)) i) (nI i)) (nP Y) ?_ ?_
    · exact bX9_reach_39 _ M9 _ _ ⟨fun _ => ⟨⟨M9 41, fun p hp => q2 p (by omega), rfl⟩, h9⟩, fun e => absurd (loE (n := nP Y) (h9.2.size.trans h9.1.p) (by omega)) e⟩
    · intro i hi ih
      rw [← nI_1 i] at ih
      refine bX9_reach_39 _ M9 _ _ ⟨fun e => absurd e (loB (n := nP Y) (h9.2.size.trans h9.1.p) hi (by omega)), fun _ => ⟨i, rfl, by omega, fun e => ?_, fun e => ?_⟩⟩
      · rw [bs_f2 (p := fun p => !(M9 41 p == -4)) (i := i) (show (!(M9 41 i == -4)) = false by rw [beqT e]; rfl)] at ih; exact ih
      · rw [bs_t (p := fun p => !(M9 41 p == -4)) (i := i) (show (!(M9 41 i == -4)) = true by rw [beqF e]; rfl)]; exact ih
  · have an := fun p hp => FW.ans c1 (p := p) hp o s1 s2
    have ml := fun p => (mnF_le b p 21).1
    have hc := fun p hp => cY_fewestTo o s0 (p := p) hp
    generalize hm : (fun p => mnF b p 21) = f
    have hm2 : ∀ p, mnF b p 21 = f p := fun p => congrFun hm p
    simp only [hm2] at an ml hc
    have hv := (o.rel h).1
    have eP : M2 0 0 = nI (nP Y) := by rw [o.1 0 (by decide) (by decide)]; exact h.1.p
    let g : Nat → Int32 := fun p => if f p = 1000000 then -4 else nI (f p)
    have g1 : ∀ p, p < nP Y → FDY Y l fr p (g p) := fun p hp => by
      show FDY Y l fr p (if f p = 1000000 then -4 else nI (f p))
      by_cases q : f p = 1000000
      · rw [if_pos q]; exact (an p (by omega)).1 q
      · rw [if_neg q]; exact (an p (by omega)).2 q
    have g2 : ∀ p, (g p = -4 ↔ f p = 1000000) := fun p => by
      show (if f p = 1000000 then -4 else nI (f p)) = -4 ↔ _
      by_cases q : f p = 1000000
      · rw [if_pos q]; simp [q]
      · rw [if_neg q]
        exact ⟨fun e => absurd e (neg4_ne _ (by have := ml p; omega)), fun e => absurd e q⟩
    refine zdown0 (P := fun i => LX10_reach_33 (fun r M => Q r ∧ KY Y M) M2 (bs (fun p => !(g p == -4)) i) (nI i)) (nP Y) ?_ ?_
    · exact bX10_reach_33 _ M2 _ _ ⟨fun _ => ⟨⟨g, g1, rfl⟩, o.1⟩, fun e => absurd (loE (n := nP Y) eP (by omega)) e⟩
    · intro i hi ih
      rw [← nI_1 i] at ih
      have far : 1000000 ≤ nI (f i) ↔ f i = 1000000 := by
        have := ml i
        rw [show (1000000 : Int32) = nI 1000000 from rfl, nI_leI (by omega) (by omega)]; omega
      refine bX10_reach_33 _ M2 _ _ ⟨fun e => absurd e (loB (n := nP Y) eP hi (by omega)), fun _ => ⟨_, hc i (by omega), fun e => ?_, fun e => ?_⟩⟩
      · rw [bs_f (p := fun p => !(g p == -4)) (i := i) (show (!(g i == -4)) = false by rw [beqT ((g2 i).mpr (far.mp e))]; rfl)]; exact ih
      · rw [bs_t (p := fun p => !(g p == -4)) (i := i) (show (!(g i == -4)) = true by rw [beqF (fun z => e (far.mpr ((g2 i).mp z)))]; rfl)]; exact ih
end RE
