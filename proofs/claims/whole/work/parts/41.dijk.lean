/-! the reference's search over the same graph -/
section DJ
variable {X Y M : zX} {l : Int32} {cy : Nat} {b b0 : Nat → Nat} {dn : Nat → Bool}
def scY (Y M : zX) : zX := fun c => if c = 23 then M 23 else if c = 24 then M 24 else Y c
theorem Rel.scrY (h : Rel X Y) (e : ∀ a, a ≠ 23 → a ≠ 24 → M a = Y a) : Rel X M := by
  have : Rel X (scY Y M) := ⟨⟨h.1.p, h.1.p2, h.1.v, h.1.v2, h.1.n, h.1.n2, h.1.height, h.1.water, h.1.song, h.1.at_, h.1.tongue, h.1.days, h.1.held, h.1.number, h.1.days1, h.1.kin, h.1.age, h.1.came, h.1.tongues, h.1.had, h.1.had0, h.1.dead, h.1.year, h.1.season, h.1.sing, h.1.tell, h.1.carry, h.1.dry, h.1.taped, h.1.tape, h.1.lanes, h.1.sizes⟩, ⟨h.2.size, h.2.yr, h.2.sn, h.2.hgt, h.2.wat, h.2.vs, h.2.sg, h.2.pl, h.2.tg, h.2.dy, h.2.hd, h.2.nb, h.2.order, h.2.length, h.2.ofSong, h.2.atPlace, h.2.ns, h.2.kn, h.2.ag, h.2.tgs, h.2.hadx, h.2.lv, h.2.tl, h.2.tb, h.2.sng, h.2.tll, h.2.cry, h.2.hr, h.2.pr, h.2.drx, h.2.tf, h.2.rf, h.2.shN, h.2.shS⟩⟩
  have e2 : scY Y M = M := by
    funext c; unfold scY
    by_cases q : c = 23
    · rw [if_pos q, q]
    · rw [if_neg q]
      by_cases q2 : c = 24
      · rw [if_pos q2, q2]
      · rw [if_neg q2, e c q q2]
  rwa [e2] at this
def wtY (Y : zX) : Int32 := bs (wetY Y) (nP Y)
theorem bt_wtY (h : IY Y) {p : Nat} (hp : p < nP Y) : bt (wtY Y) p = wetY Y p := by
  have := h.p2
  unfold wtY
  rw [bt_bs _ (by omega) (by omega)]; simp [hp]
def DM (Y : zX) (b : Nat → Nat) (dn : Nat → Bool) (M : zX) : Prop := (∀ a, a ≠ 23 → a ≠ 24 → M a = Y a) ∧ (∀ s, s < 252 → M 23 s = nI (b s)) ∧ (∀ s, s < 252 → M 24 s = b2i (dn s))
theorem DM.rel (h : Rel X Y) (o : DM Y b dn M) : Rel X M := h.scrY o.1
theorem DM.put (o : DM Y b dn M) {s e : Nat} {b2 : Nat → Nat} (h1 : b2 s = e) (h2 : ∀ j, j ≠ s → b2 j = b j) : DM Y b2 dn (zs M 23 s (nI e)) := by
  refine ⟨fun a h3 h4 => by rw [zs_ne h3]; exact o.1 a h3 h4, fun j hj => ?_, o.2.2⟩
  by_cases q : j = s
  · subst q; rw [zs_eq, h1]
  · rw [zs_nk q, h2 j q]; exact o.2.1 j hj
def stY (Y : zX) (cy u x c v w s y : Nat) : Prop := n32 (Y 4 v) = u / 21 ∧ u % 21 + c ≤ cy ∧ s = 21 * n32 (Y 4 w) + drF (bt (wtY Y)) (n32 (Y 4 w)) (u % 21 + c) ∧ y = x + c
theorem cY_steps (h : Rel X Y) (o : DM Y b dn M) {cand : Nat → Nat → Prop} (r : Rlx b0 b cand) (hb0 : ∀ s, s < 252 → b0 s ≤ 1000000) (hcy : cy ≤ 20) (ecy : Y 0 21 = nI cy) {u c v w : Nat} (hu : u < 252) (hc : c < 10) (hv : v < nV Y) (hw : w < nV Y) : zPw SY 1 mX10_steps [.ref 0, .int (nI u), .int (nI v), .int (nI w), .int (nI c)] M (fun M2 => ∃ b2, DM Y b2 dn M2 ∧ Rlx b0 b2 (fun s y => cand s y ∨ stY Y cy u (b u) c v w s y)) := by
  have hv2 := h.1.v2; have hp2 := h.1.p2
  obtain ⟨a1, a2⟩ := h.1.at_ v hv
  obtain ⟨c1, c2⟩ := h.1.at_ w hw
  have e4 : M 4 = Y 4 := o.1 4 (by decide) (by decide)
  have ediv : nI u / 21 = nI (u / 21) := pk_div (a := u) (d := 21) (by omega) (by decide) (by decide)
  have erem : nI u - nI u / 21 * 21 = nI (u % 21) := pk_rem (a := u) (d := 21) (by omega) (by decide) (by decide)
  have esum : nI (u % 21) + nI c = nI (u % 21 + c) := by rw [nI_add]
  have hb : ∀ s, s < 252 → b s ≤ 1000000 := fun s hs => Nat.le_trans (r.1 s) (hb0 s hs)
  have skip : ¬ (n32 (Y 4 v) = u / 21 ∧ u % 21 + c ≤ cy) → ∃ b2, DM Y b2 dn M ∧ Rlx b0 b2 (fun s y => cand s y ∨ stY Y cy u (b u) c v w s y) := fun q => ⟨b, o, r.congr (fun s y => ⟨Or.inl, fun g => g.elim id (fun z => absurd ⟨z.1, z.2.1⟩ q)⟩)⟩
  have e23 : M 23 u + nI c = nI (b u + c) := by rw [o.2.1 u hu, nI_add]
  have e3 : M 4 w = nI (n32 (Y 4 w)) := by rw [e4]; exact c1
  have bu := hb u hu
  have put : n32 (Y 4 v) = u / 21 → u % 21 + c ≤ cy → ∀ (J : Int32) (e : Nat), J = nI (21 * n32 (Y 4 w) + e) → e ≤ 20 → e = drF (bt (wtY Y)) (n32 (Y 4 w)) (u % 21 + c) → (∃ j8, nI u = nI j8 ∧ j8 < 252 ∧ (∃ j9, J = nI j9 ∧ j9 < 252 ∧ ((((M 23 j9) ≤ ((M 23 j8) + nI c)) → (∃ j11, J = nI j11 ∧ j11 < 252 ∧ (∃ j12, J = nI j12 ∧ j12 < 252 ∧ (∃ b2, DM Y b2 dn (zs M 23 j12 (M 23 j11)) ∧ Rlx b0 b2 (fun s y => cand s y ∨ stY Y cy u (b u) c v w s y))))) ∧ ((¬ ((M 23 j9) ≤ ((M 23 j8) + nI c))) → (∃ j13, nI u = nI j13 ∧ j13 < 252 ∧ (∃ j14, J = nI j14 ∧ j14 < 252 ∧ (∃ b2, DM Y b2 dn (zs M 23 j14 ((M 23 j13) + nI c)) ∧ Rlx b0 b2 (fun s y => cand s y ∨ stY Y cy u (b u) c v w s y)))))))) := fun q1 q2 J e hJ he ee => by
    have h9 : 21 * n32 (Y 4 w) + e < 252 := by omega
    have bj := hb _ h9
    refine ⟨u, rfl, hu, _, hJ, h9, fun z => ⟨_, hJ, h9, _, hJ, h9, ?_⟩, fun z => ⟨u, rfl, hu, _, hJ, h9, ?_⟩⟩
    · rw [e23, o.2.1 _ h9, nI_leI (by omega) (by omega)] at z
      rw [o.2.1 _ h9]
      refine ⟨b, o.put rfl (fun _ _ => rfl), (r.add (j := 21 * n32 (Y 4 w) + e) (x := b u + c) (b2 := b) (by rw [if_neg (by omega)]) (fun _ _ => rfl)).congr (fun s y => ?_)⟩
      unfold stY
      rw [← ee]; simp only [q1, q2, true_and]
    · rw [e23, o.2.1 _ h9, nI_leI (by omega) (by omega)] at z
      rw [e23]
      refine ⟨fun s => if s = 21 * n32 (Y 4 w) + e then b u + c else b s, o.put (if_pos rfl) (fun j hj => if_neg hj), (r.add (j := 21 * n32 (Y 4 w) + e) (x := b u + c) (by rw [if_pos rfl, if_pos (by omega)]) (fun s hs => if_neg hs)).congr (fun s y => ?_)⟩
      unfold stY
      rw [← ee]; simp only [q1, q2, true_and]
  have ec : (M 0 21 < nI (u % 21 + c)) ↔ cy < u % 21 + c := by
    rw [o.1 0 (by decide) (by decide), ecy]; exact nI_ltI (by omega) (by omega)
  have ev : M 4 v = nI u / 21 ↔ n32 (Y 4 v) = u / 21 := by
    rw [ediv, e4]
    constructor
    · intro e; rw [e, n32_nI (by omega)]
    · intro e; rw [← e]; exact a1
  refine eX10_steps _ M _ _ _ _ ⟨v, rfl, by omega, fun e => skip (fun q => e (ev.mpr q.1)), fun e => ⟨fun e2 => ?_, fun e2 => ⟨w, rfl, by omega, w, rfl, by omega, b2i (wetY Y (n32 (Y 4 w))), ?_, fun e5 => ?_, fun e5 => ?_⟩⟩⟩
  · rw [erem, esum, ec] at e2
    exact skip (fun q => by omega)
  · rw [e3]
    have := cY_hasWater M (o.rel h).1 (p := n32 (Y 4 w)) (by omega)
    have ew : wetY M (n32 (Y 4 w)) = wetY Y (n32 (Y 4 w)) := by
      unfold wetY; rw [o.1 2 (by decide) (by decide), o.1 0 (by decide) (by decide), o.1 16 (by decide) (by decide)]
    rw [ew] at this; exact this
  · rw [erem, esum, ec] at e2
    rw [erem, esum, e3]
    exact put (ev.mp e) (by omega) _ (u % 21 + c) (by rw [show (21 : Int32) = nI 21 from rfl, pk_mul, nI_add]) (by omega) (by unfold drF; rw [bt_wtY h.1 c2, b2i_0.mp e5]; rfl)
  · rw [erem, esum, ec] at e2
    rw [e3]
    exact put (ev.mp e) (by omega) _ 0 (by rw [show (21 : Int32) = nI 21 from rfl, show (0 : Int32) = nI 0 from rfl, pk_mul, nI_add]) (by omega) (by unfold drF; rw [bt_wtY h.1 c2, b2i_n.mp e5]; rfl)
def cM (Y : zX) (l : Int32) (cy u x v s y : Nat) : Prop := n32 (Y 8 v) ≠ 0 ∧ bt l v = true ∧ bt l (prY Y v) = true ∧ (stY Y cy u x (n32 (Y 6 v)) v (prY Y v) s y ∨ stY Y cy u x (n32 (Y 6 v)) (prY Y v) v s y)
theorem cM_F {u x : Nat} (s y : Nat) : (∃ v, v < nV Y ∧ cM Y l cy u x v s y) ↔ cndF (EY Y l) cy (bt (wtY Y)) u x s y := by
  constructor
  · rintro ⟨v, hv, g1, g2, g3, ⟨k1, k2, k3, k4⟩ | ⟨k1, k2, k3, k4⟩⟩
    · exact ⟨_, _, ⟨v, hv, g1, g2, g3, rfl, Or.inl ⟨k1.symm, rfl⟩⟩, k2, k3, k4⟩
    · exact ⟨_, _, ⟨v, hv, g1, g2, g3, rfl, Or.inr ⟨k1.symm, rfl⟩⟩, k2, k3, k4⟩
  · rintro ⟨c, q, ⟨v, hv, g1, g2, g3, rfl, ⟨e1, rfl⟩ | ⟨e1, rfl⟩⟩, k2, k3, k4⟩
    · exact ⟨v, hv, g1, g2, g3, Or.inl ⟨e1.symm, k2, k3, k4⟩⟩
    · exact ⟨v, hv, g1, g2, g3, Or.inr ⟨e1.symm, k2, k3, k4⟩⟩
theorem dj_relax (h : Rel X Y) (o : DM Y b dn M) (hb : ∀ s, s < 252 → b s ≤ 1000000) (hcy : cy ≤ 20) (ecy : Y 0 21 = nI cy) {u : Nat} (hu : u < 252) {P : zX → Prop} (K : ∀ (M2 : zX) (b2 : Nat → Nat), DM Y b2 dn M2 → Rlx b b2 (cndF (EY Y l) cy (bt (wtY Y)) u (b u)) → LX10_findWays_43 P M2 l 1) : LX10_findWays_147 P M l 1 (nI u) 0 := by
  have hv2 := h.1.v2
  refine zdown0 (P := fun i => ∀ (N : zX) (bn : Nat → Nat), DM Y bn dn N → Rlx b bn (fun s y => ∃ v, v < i ∧ cM Y l cy u (b u) v s y) → LX10_findWays_147 P N l 1 (nI u) (nI i)) (nV Y) ?_ ?_ M b o (Rlx.nil b (fun s x ⟨v, hv, _⟩ => by omega))
  · intro N bn on rn
    refine bX10_findWays_147 P N _ _ _ _ ⟨fun _ => K N bn on (rn.congr (fun s y => cM_F s y)), fun e => absurd (loE (n := nV Y) ?_ (by omega)) e⟩
    rw [on.1 0 (by decide) (by decide)]; exact h.1.v
  · intro i hi ih N bn on rn
    have rN := on.rel h
    have e8 : N 8 = Y 8 := on.1 8 (by decide) (by decide)
    have e3 : N 3 = Y 3 := on.1 3 (by decide) (by decide)
    have e0 : N 0 = Y 0 := on.1 0 (by decide) (by decide)
    obtain ⟨n1, n2, n3⟩ := numY h.1 hi
    have hlen := lenY_le h.1 (Y 3 i)
    have bu : bn u = b u := by
      rcases rn.2.2 u with e | ⟨x, ⟨v, _, _, _, _, g⟩, e⟩
      · exact e
      · have := rn.1 u
        rcases g with g | g <;> (have := g.2.2.2; omega)
    have nxt : ∀ (N2 : zX) (bn2 : Nat → Nat), DM Y bn2 dn N2 → Rlx b bn2 (fun s y => (∃ v, v < i ∧ cM Y l cy u (b u) v s y) ∨ cM Y l cy u (b u) i s y) → LX10_findWays_147 P N2 l 1 (nI u) (nI i + 1) := fun N2 bn2 on2 rn2 => by
      rw [nI_1]
      refine ih N2 bn2 on2 (rn2.congr (fun s y => ?_))
      constructor
      · rintro (⟨v, hv, g⟩ | g)
        · exact ⟨v, by omega, g⟩
        · exact ⟨i, by omega, g⟩
      · rintro ⟨v, hv, g⟩
        by_cases e : v = i
        · subst e; exact Or.inr g
        · exact Or.inl ⟨v, by omega, g⟩
    have no : ¬ (n32 (Y 8 i) ≠ 0 ∧ bt l i = true ∧ bt l (prY Y i) = true) → LX10_findWays_147 P N l 1 (nI u) (nI i + 1) := fun q => nxt N bn on (rn.congr (fun s y => ⟨Or.inl, fun g => g.elim id (fun z => absurd ⟨z.1, z.2.1, z.2.2.1⟩ q)⟩))
    refine bX10_findWays_147 P N _ _ _ _ ⟨fun e => absurd e (loB (n := nV Y) (by rw [e0]; exact h.1.v) hi (by omega)), fun _ => ⟨i, rfl, by omega, fun e => ?_, fun e => ?_⟩⟩
    · rw [e8] at e
      have z : n32 (Y 8 i) ≠ 0 := fun q => e (by rw [n1, q]; rfl)
      obtain ⟨a1, a2, a3, a4⟩ := prY_ok h.1 hi z
      have em : Y 8 i - 1 = nI (n32 (Y 8 i) - 1) := by
        obtain ⟨k, hk⟩ : ∃ k, n32 (Y 8 i) = k + 1 := ⟨n32 (Y 8 i) - 1, by omega⟩
        rw [n1, n32_nI (by omega), hk, ← nI_1, add_sub1]; rfl
      have hcall : zPf SY 0 mX10_verseBy [.ref 0, .int (N 3 i), .int (N 8 i - 1)] N (nI (prY Y i)) := by
        refine (cY_verseBy N rN.1 _ _).eq ?_
        rw [e3, e8, em, ← a4]
        have : ∀ n, vby N (Y 3 i) (nI (n32 (Y 8 i) - 1)) n = vby Y (Y 3 i) (nI (n32 (Y 8 i) - 1)) n := by
          intro n
          induction n with
          | zero => rfl
          | succ n ihn =>
            show (if N 3 n = _ ∧ N 8 n = _ then nI n else vby N _ _ n) = (if Y 3 n = _ ∧ Y 8 n = _ then nI n else vby Y _ _ n)
            rw [ihn, e3, e8]
        rw [this, show nV N = nV Y by unfold nV; rw [e0]]
      refine ⟨i, rfl, by omega, i, rfl, by omega, nI (prY Y i), hcall, fun q => absurd q (neg4_ne _ (by omega)), fun _ => ⟨fun q => ?_, fun q => ⟨fun q2 => ?_, fun q2 => ⟨i, rfl, by omega, ?_⟩⟩⟩⟩
      · rw [zb1 (by omega)] at q
        exact no (fun k => q k.2.1)
      · rw [zb1 (by omega)] at q2
        exact no (fun k => q2 k.2.2)
      · rw [zb1 (by omega)] at q q2
        have e6 : N 6 i = nI (n32 (Y 6 i)) := by rw [on.1 6 (by decide) (by decide)]; exact (h.1.days i hi).1
        rw [e6]
        refine ⟨_, cY_steps h on rn hb hcy ecy hu (h.1.days i hi).2 hi a1, fun M28 ⟨b3, o3, r3⟩ => ⟨i, rfl, by omega, ?_⟩⟩
        have e6 : M28 6 i = nI (n32 (Y 6 i)) := by rw [o3.1 6 (by decide) (by decide)]; exact (h.1.days i hi).1
        rw [e6]
        refine ⟨_, cY_steps h o3 r3 hb hcy ecy hu (h.1.days i hi).2 a1 hi, fun M31 ⟨b4, o4, r4⟩ => nxt M31 b4 o4 (r4.congr (fun s y => ?_))⟩
        have bu3 : b3 u = b u := by
          rcases r3.2.2 u with e | ⟨x, ⟨v, _, _, _, _, g⟩ | g, e⟩
          · exact e
          · have := r3.1 u
            rcases g with g | g <;> (have := g.2.2.2; omega)
          · have := r3.1 u
            have := g.2.2.2; rw [bu] at this; omega
        rw [bu, bu3, or_assoc]
        refine or_congr Iff.rfl ?_
        unfold cM
        exact ⟨fun g => ⟨z, q, q2, g⟩, fun g => g.2.2.2⟩
    · rw [e8] at e
      exact no (fun k => k.1 (by rw [e]; rfl))
end DJ
