section PA
variable {X Y M : zX} {l : Int32}
theorem ct_mono {p q : Nat → Bool} : ∀ {n : Nat}, (∀ i, i < n → p i = true → q i = true) → fb_ct p n ≤ fb_ct q n
  | 0, _ => Nat.le_refl _
  | n + 1, h => by
    rw [fb_ct_succ, fb_ct_succ]
    refine Nat.add_le_add (ct_mono (fun i hi => h i (by omega))) ?_
    cases e : p n with
    | false => exact Nat.zero_le _
    | true => rw [h n (by omega) e]; exact Nat.le_refl _
theorem ct_nn {A n m : Nat} (hm : m ≤ 32) (hn : n ≤ m) (hA : A < 2 ^ n) : fb_ct (bt (nI A)) m = fb_ct (fun q => A.testBit q) n := by
  have e := fb_ct_split (bt (nI A)) n (m - n)
  rw [show n + (m - n) = m by omega, fb_ct_zero (p := fun k => bt (nI A) (n + k)).mpr (fun k hk => by rw [bt_nI _ _ (by omega)]; exact Nat.testBit_lt_two_pow (Nat.lt_of_lt_of_le hA (Nat.pow_le_pow_right (n := 2) (by decide) (by omega)))), Nat.add_zero] at e
  rw [e, fb_ct_cg (fun i hi => bt_nI A i (by omega))]
/-- those who sing any verse -/
def sgY (Y : zX) : Int32 := bs (fun w => !(bs (singY Y w) (nV Y) == 0)) (nN Y)
def VV (Y M : zX) : Prop := Rel M Y ∧ ∀ w, w < nN Y → M 53 w = bs (singY Y w) (nV Y)
theorem VV.vo (v : VV Y M) : VO M Y M := ⟨fun _ _ => rfl, v.2⟩
theorem VV.kx {M2 : zX} (v : VV Y M) (k : KX M M2) : VV Y M2 := ⟨k.rel v.1, fun w hw => by rw [k 53 (by omega)]; exact v.2 w hw⟩
theorem cX_singersOfAny (v : VV Y M) : zPf SX 0 mX9_singersOfAny [.ref 0] M (sgY Y) := by
  have h := v.1
  have hn := h.2.ns.trans h.1.n; have hn2 := h.1.n2
  refine eX9_singersOfAny _ M (zdown0 (P := fun i => LX9_singersOfAny_4 (sgY Y) M (bs (fun w => !(bs (singY Y w) (nV Y) == 0)) i) (nI i)) (nN Y) ?_ ?_)
  · exact bX9_singersOfAny_4 _ M _ _ ⟨fun _ => rfl, fun e => absurd (loE (n := nN Y) hn (by omega)) e⟩
  · intro i hi ih
    rw [← nI_1 i] at ih
    refine bX9_singersOfAny_4 _ M _ _ ⟨fun e => absurd e (loB (n := nN Y) hn hi (by omega)), fun _ => ⟨i, rfl, by omega, fun e => ?_, fun e => ?_⟩⟩
    · rw [v.2 i hi] at e
      rw [bs_f2 (p := fun w => !(bs (singY Y w) (nV Y) == 0)) (i := i) (show (!(bs (singY Y i) (nV Y) == 0)) = false by rw [beqT e]; rfl)] at ih; exact ih
    · rw [v.2 i hi] at e
      rw [bs_t (p := fun w => !(bs (singY Y w) (nV Y) == 0)) (i := i) (show (!(bs (singY Y i) (nV Y) == 0)) = true by rw [beqF e]; rfl)]; exact ih
theorem sg_of (h : IY Y) {w v : Nat} (hw : w < nN Y) (hv : v < nV Y) (hs : singY Y w v = true) : bt (sgY Y) w = true := by
  have hn2 := h.n2; have hv2 := h.v2
  unfold sgY
  rw [bt_bs _ (by omega) (by omega)]
  have : ¬ bs (singY Y w) (nV Y) = 0 := fun e => by
    have : bt (bs (singY Y w) (nV Y)) v = false := by rw [e, b_0]
    rw [bt_bs _ (by omega) (by omega)] at this
    simp [hv, hs] at this
  simp [hw, this]
theorem sung_and (h : IY Y) (x : Int32) : sungY Y (x &&& sgY Y) = sungY Y x := by
  unfold sungY
  refine bs_congr (fun v hv => ?_)
  unfold sungP
  refine anyB_congr (fun w hw => ?_)
  rw [b_and]
  cases e : singY Y w v with
  | false => simp
  | true => rw [sg_of h hw hv e]; simp
theorem sung_mono (h : IY Y) {x y : Int32} (hxy : ∀ w, w < nN Y → bt x w = true → bt y w = true) {v : Nat} (hv : bt (sungY Y x) v = true) : bt (sungY Y y) v = true := by
  have hv2 := h.v2
  have h32 : v < 32 := by
    rcases Nat.lt_or_ge v 32 with q | q
    · exact q
    · rw [b_big q] at hv; cases hv
  unfold sungY at hv ⊢
  rw [bt_bs _ (by omega) h32, Bool.and_eq_true] at hv ⊢
  refine ⟨hv.1, ?_⟩
  obtain ⟨w, hw, g⟩ := anyB_iff.mp hv.2
  rw [Bool.and_eq_true] at g
  refine anyB_iff.mpr ⟨w, hw, ?_⟩
  rw [hxy w hw g.1, g.2]; rfl
theorem led_mono (h : IY Y) {s t : Int32} (hst : ∀ v, bt s v = true → bt t v = true) {v : Nat} (hv : bt (ledW Y s) v = true) : bt (ledW Y t) v = true := by
  have hv2 := h.v2
  have h32 : v < 32 := by
    rcases Nat.lt_or_ge v 32 with q | q
    · exact q
    · rw [b_big q] at hv; cases hv
  unfold ledW at hv ⊢
  rw [bt_bs _ (by omega) h32, Bool.and_eq_true] at hv ⊢
  refine ⟨hv.1, ?_⟩
  have g := hv.2
  unfold ledP at g ⊢
  rw [Bool.and_eq_true, beq_iff_eq] at g ⊢
  refine ⟨hst v g.1, ?_⟩
  apply b_ext
  intro i hi
  have : bt (Y 17 v &&& (s ^^^ -1)) i = false := by rw [g.2, b_0]
  rw [b_and, bt_not _ hi] at this
  rw [b_and, bt_not _ hi, b_0]
  cases e : bt (Y 17 v) i with
  | false => rfl
  | true =>
    rw [e] at this
    rw [hst i (by simpa using this)]; rfl
theorem Rch.mono {k : Int32} (hl : ∀ v, bt l v = true → bt k v = true) {fr to : Nat} (h : Rch Y l fr to) : Rch Y k fr to := by
  obtain ⟨t, d, n, h⟩ := h
  refine ⟨t, d, n, Rn.mono (fun p c q e => ?_) h⟩
  obtain ⟨v, hv, h0, g1, g2, g3⟩ := e
  exact ⟨v, hv, h0, hl _ g1, hl _ g2, g3⟩
def RA (Y : zX) (fr to A : Nat) : Prop := Rch Y (ledY Y (nI A)) fr to
theorem sg_n (h : IY Y) : ∃ g, g < 2 ^ nN Y ∧ sgY Y = nI g := by
  obtain ⟨g, hg, e⟩ := i32_of (sgY Y)
  have hn2 := h.n2
  refine ⟨g, ?_, e⟩
  apply Nat.lt_pow_two_of_testBit
  intro i hi
  by_cases q : i < 32
  · rw [← bt_nI _ _ q, ← e]
    unfold sgY
    rw [bt_bs _ (by omega) q]
    simp; omega
  · exact Nat.testBit_lt_two_pow (Nat.lt_of_lt_of_le hg (Nat.pow_le_pow_right (n := 2) (by decide) (by omega)))
def PQ (Y : zX) (fr to : Nat) (w r : Int32) : Prop := (r = -4 ∧ ∀ A, A < 2 ^ nN Y → ¬ RA Y fr to A) ∨ ∃ A, A < 2 ^ nN Y ∧ RA Y fr to A ∧ (∀ B, B < 2 ^ nN Y → RA Y fr to B → wF A (nN Y) ≤ wF B (nN Y)) ∧ ((w = 0 → r = nI A) ∧ (¬ w = 0 → FDY Y (ledY Y (nI A)) fr to r))
theorem PQ.uniq {fr to : Nat} {w r s : Int32} (hn : nN Y ≤ 8) (h1 : PQ Y fr to w r) (h2 : PQ Y fr to w s) : r = s := by
  have hpow := pow_le hn
  rcases h1 with ⟨e1, n1⟩ | ⟨A, a1, a2, a3, a4, a5⟩
  · rcases h2 with ⟨e2, n2⟩ | ⟨B, b1, b2, b3, b4, b5⟩
    · rw [e1, e2]
    · exact absurd b2 (n1 B b1)
  · rcases h2 with ⟨e2, n2⟩ | ⟨B, b1, b2, b3, b4, b5⟩
    · exact absurd a2 (n2 A a1)
    · have g1 := a3 B b1 b2; have g2 := b3 A a1 a2
      unfold wF at g1 g2
      have : A = B := by omega
      subst this
      by_cases q : w = 0
      · rw [a4 q, b4 q]
      · exact FD.uniq (a5 q) (b5 q)
theorem sub_iff {A g : Nat} (hA : A < 256) (hg : g < 256) : (nI A &&& (nI g ^^^ -1)) = 0 ↔ A &&& g = A := by
  constructor
  · intro e
    apply Nat.eq_of_testBit_eq
    intro i
    rw [Nat.testBit_and]
    by_cases q : i < 32
    · have : bt (nI A &&& (nI g ^^^ -1)) i = false := by rw [e, b_0]
      rw [b_and, bt_not _ q, bt_nI _ _ q, bt_nI _ _ q] at this
      cases e1 : A.testBit i with
      | false => rfl
      | true => rw [e1] at this; simpa using this
    · rw [Nat.testBit_lt_two_pow (Nat.lt_of_lt_of_le hA (Nat.pow_le_pow_right (n := 2) (i := 8) (by decide) (by omega)))]; rfl
  · intro e
    apply b_ext
    intro i hi
    rw [b_and, bt_not _ hi, bt_nI _ _ hi, bt_nI _ _ hi, b_0]
    have : (A &&& g).testBit i = A.testBit i := by rw [e]
    rw [Nat.testBit_and] at this
    cases e1 : A.testBit i with
    | false => rfl
    | true => rw [e1] at this; rw [show g.testBit i = true by simpa using this]; rfl
theorem RA_and (h : IY Y) {g A : Nat} (eg : sgY Y = nI g) {fr to : Nat} (hr : RA Y fr to A) : RA Y fr to (A &&& g) := by
  unfold RA ledY at hr ⊢
  rw [← fa_and, ← eg, sung_and h]; exact hr
theorem w_and (A g n : Nat) : fb_ct (fun q => (A &&& g).testBit q) n ≤ fb_ct (fun q => A.testBit q) n ∧ A &&& g ≤ A := ⟨ct_mono (fun i _ e => by rw [Nat.testBit_and, Bool.and_eq_true] at e; exact e.1), Nat.and_le_left⟩
theorem ag_party (h : Rel X Y) (a1 a2 a3 : Int32) : zAg mX9_party mX10_party 6 4 [.int a1, .int a2, .int a3] X Y := by
  have hp2 := h.1.p2; have hv2 := h.1.v2; have hn2 := h.1.n2
  have hpow := pow_le hn2
  rcases inR_cases a1 (b := nP Y) (by omega) with h1 | ⟨fr, hf, rfl⟩
  · exact zAg_b h (-1) (fun P q => eX9_party P X _ _ _ ⟨_, oP_o h h1, fun _ => q, fun e => absurd e (by decide)⟩) (fun P q => eX10_party P Y _ _ _ ⟨_, yP_o h.1 h1, fun _ => q, fun e => absurd rfl e⟩)
  rcases inR_cases a2 (b := nP Y) (by omega) with h1 | ⟨to, ht, rfl⟩
  · exact zAg_b h (-1) (fun P q => eX9_party P X _ _ _ ⟨_, oP_i h hf, fun e => absurd rfl e, fun _ => ⟨_, oP_o h h1, fun _ => q, fun e => absurd e (by decide)⟩⟩) (fun P q => eX10_party P Y _ _ _ ⟨_, yP_i h.1 hf, fun e => absurd e (by decide), fun _ => ⟨_, yP_o h.1 h1, fun _ => q, fun e => absurd rfl e⟩⟩)
  rcases inR_cases a3 (b := 2) (by decide) with h1 | ⟨k, hk, rfl⟩
  · exact zAg_b h (-1) (fun P q => eX9_party P X _ _ _ ⟨_, oP_i h hf, fun e => absurd rfl e, fun _ => ⟨_, oP_i h ht, fun e => absurd rfl e, fun _ => ⟨_, oC_o X 2 h1 (by decide) rfl, fun e => absurd e (by decide), fun _ => q⟩⟩⟩) (fun P q => eX10_party P Y _ _ _ ⟨_, yP_i h.1 hf, fun e => absurd e (by decide), fun _ => ⟨_, yP_i h.1 ht, fun e => absurd e (by decide), fun _ => ⟨_, yC_o Y 2 h1 (by decide), fun e => absurd rfl e, fun _ => q⟩⟩⟩)
  obtain ⟨g, hg, eg⟩ := sg_n h.1
  -- the class
  have found : ∀ (z i : Nat), (∀ B, B < 2 ^ nN Y → fb_ct (fun q => B.testBit q) (nN Y) < z → B &&& g = B → ¬ RA Y fr to B) → i < 2 ^ nN Y → (∀ B, B < i → fb_ct (fun q => B.testBit q) (nN Y) = z → B &&& g = B → ¬ RA Y fr to B) → fb_ct (fun q => i.testBit q) (nN Y) = z → ∀ B, B < 2 ^ nN Y → RA Y fr to B → wF i (nN Y) ≤ wF B (nN Y) := fun z i q1 hi q2 hc B hB hr => by
    obtain ⟨w1, w2⟩ := w_and B g (nN Y)
    have hr2 := RA_and h.1 eg hr
    have sub : (B &&& g) &&& g = B &&& g := by rw [Nat.and_assoc, Nat.and_self]
    have n1 : ¬ fb_ct (fun q => (B &&& g).testBit q) (nN Y) < z := fun c => q1 _ (by omega) c sub hr2
    by_cases c : fb_ct (fun q => (B &&& g).testBit q) (nN Y) = z
    · have : ¬ B &&& g < i := fun c2 => q2 _ c2 c sub hr2
      unfold wF; omega
    · unfold wF; omega
  have lx : ∀ M, VV Y M → LX9_party_75 (fun r M => PQ Y fr to (nI k) r ∧ Rel M Y) M (nI fr) (nI to) (nI k) (sgY Y) 0 := by
    refine zdown0 (P := fun z => ∀ M, VV Y M → (∀ B, B < 2 ^ nN Y → fb_ct (fun q => B.testBit q) (nN Y) < z → B &&& g = B → ¬ RA Y fr to B) → LX9_party_75 (fun r M => PQ Y fr to (nI k) r ∧ Rel M Y) M (nI fr) (nI to) (nI k) (sgY Y) (nI z)) (nN Y + 1) ?_ ?_ |> fun T M v => T M v (fun B _ c => by omega)
    · intro M v q1
      have hM := v.1
      refine bX9_party_75 _ M _ _ _ _ _ ⟨fun _ => ⟨Or.inl ⟨rfl, fun A hA hr => ?_⟩, hM⟩, fun e => absurd (by rw [hM.2.ns, h.1.n]; exact (nI_ltI (by omega) (by omega)).mpr (Nat.lt_succ_self _)) e⟩
      obtain ⟨w1, w2⟩ := w_and A g (nN Y)
      have := ct_le (fun q => (A &&& g).testBit q) (nN Y)
      exact q1 (A &&& g) (by omega) (by omega) (by rw [Nat.and_assoc, Nat.and_self]) (RA_and h.1 eg hr)
    · intro z hz ih M v q1
      have hM := v.1
      refine bX9_party_75 _ M _ _ _ _ _ ⟨fun e => absurd ((nI_ltI (a := nN Y) (b := z) (by omega) (by omega)).mp (by rw [hM.2.ns, h.1.n] at e; exact e)) (by omega), fun _ => ?_⟩
      refine zdown0 (P := fun i => ∀ M, VV Y M → (∀ B, B < i → fb_ct (fun q => B.testBit q) (nN Y) = z → B &&& g = B → ¬ RA Y fr to B) → LX9_party_90 (fun r M => PQ Y fr to (nI k) r ∧ Rel M Y) M (nI fr) (nI to) (nI k) (sgY Y) (nI z) (nI i)) (2 ^ nN Y) ?_ ?_ M v (fun B hB => by omega)
      · intro M v q2
        have hM := v.1
        refine bX9_party_90 _ M _ _ _ _ _ _ ⟨fun _ => ?_, fun e => absurd (by rw [hM.2.ns, h.1.n, zshl_pow _ (by omega)]; exact nI_le (Nat.le_refl _) (by omega)) e⟩
        rw [nI_1]
        refine ih M v (fun B hB c sub => ?_)
        by_cases c2 : fb_ct (fun q => B.testBit q) (nN Y) = z
        · exact q2 B hB c2 sub
        · exact q1 B hB (by omega) sub
      · intro i hi ih2 M v q2
        have hM := v.1
        have ec : fb_ct (bt (nI i)) 32 = fb_ct (fun q => i.testBit q) (nN Y) := ct_nn (by omega) (by omega) hi
        have bc := ct_le (fun q => i.testBit q) (nN Y)
        have nxt : ¬ (fb_ct (fun q => i.testBit q) (nN Y) = z ∧ i &&& g = i ∧ RA Y fr to i) → ∀ M2, VV Y M2 → LX9_party_90 (fun r M => PQ Y fr to (nI k) r ∧ Rel M Y) M2 (nI fr) (nI to) (nI k) (sgY Y) (nI z) (nI i + 1) := fun no M2 v2 => by
          rw [nI_1]
          refine ih2 M2 v2 (fun B hB c sub hr => ?_)
          by_cases e : B = i
          · subst e; exact no ⟨c, sub, hr⟩
          · exact q2 B (by omega) c sub hr
        refine bX9_party_90 _ M _ _ _ _ _ _ ⟨fun e => absurd ((nI_leI (a := 2 ^ nN Y) (b := i) (by omega) (by omega)).mp (by rw [hM.2.ns, h.1.n, zshl_pow _ (by omega)] at e; exact e)) (by omega), fun _ => ⟨_, cJ_bitCount M _, fun e => ?_, fun e => ⟨fun e2 => ⟨_, cX_sungBy hM v.vo _, _, cX_ledWhere hM _, _, cX_daysBetween hM hf ht, fun r22 M23 ⟨g1, g2⟩ => ?_⟩, fun e2 => ?_⟩⟩⟩
        · rw [ec, nI_eq (by omega) (by omega)] at e
          exact nxt (fun c => e c.1) M v
        · rw [ec, nI_eq (by omega) (by omega)] at e
          have g1 : FDY Y (ledY Y (nI i)) fr to r22 := g1
          have v2 := v.kx g2
          refine ⟨fun e3 => nxt (fun c => g1.ne.mp e3 c.2.2) M23 v2, fun e3 => ?_⟩
          have hr : RA Y fr to i := Classical.not_not.mp (fun c => e3 (g1.ne.mpr c))
          have mn := found z i q1 hi q2 e
          exact ⟨fun e4 => ⟨Or.inr ⟨i, hi, hr, mn, fun c => absurd c e4, fun _ => g1⟩, v2.1⟩, fun e4 => ⟨Or.inr ⟨i, hi, hr, mn, fun _ => rfl, fun c => absurd e4 c⟩, v2.1⟩⟩
        · rw [eg, sub_iff (by omega) (by omega)] at e2
          exact nxt (fun c => e2 c.2.1) M v
  -- the reference
  have ly : ∀ i, i ≤ 2 ^ nN Y → ∀ (M : zX) (x4 x5 : Int32), KY Y M → ((x4 = -4 ∧ x5 = -4 ∧ ∀ A, A < i → ¬ RA Y fr to A) ∨ ∃ A, A < i ∧ x4 = nI A ∧ FDY Y (ledY Y (nI A)) fr to x5 ∧ RA Y fr to A ∧ ∀ B, B < i → RA Y fr to B → wF A (nN Y) ≤ wF B (nN Y)) → LX10_party_39 (fun r M => PQ Y fr to (nI k) r ∧ KY Y M) M (nI fr) (nI to) (nI k) x4 x5 (nI i) := by
    have hz : ∀ M, KY Y M → zshl 1 (M 0 10) = nI (2 ^ nN Y) := fun M hM => by rw [hM 0 (by decide) (by decide), h.1.n, zshl_pow _ (by omega)]
    refine zdown ?_ ?_
    · intro M x4 x5 hM sc
      refine bX10_party_39 _ M _ _ _ _ _ _ ⟨fun _ => ⟨fun e => ⟨?_, hM⟩, fun e => ⟨?_, hM⟩⟩, fun e => absurd (by rw [hz M hM]; exact nI_le (Nat.le_refl _) (by omega)) e⟩
      · rcases sc with ⟨_, e2, n⟩ | ⟨A, b1, b2, b3, b4, b5⟩
        · exact Or.inl ⟨e2, n⟩
        · exact Or.inr ⟨A, b1, b4, b5, fun c => absurd c e, fun _ => b3⟩
      · rcases sc with ⟨e1, _, n⟩ | ⟨A, b1, b2, b3, b4, b5⟩
        · exact Or.inl ⟨e1, n⟩
        · exact Or.inr ⟨A, b1, b4, b5, fun _ => b2, fun c => absurd e c⟩
    · intro i hi ih M x4 x5 hM sc
      have hRM := h.scrY hM
      have ledE : zPf SY 3 mX10_ledBy [.ref 0, .int (nI i)] M (ledY Y (nI i)) := by
        refine (cY_ledBy hRM.1 _).eq ?_
        have : ledY (scY Y M) (nI i) = ledY Y (nI i) := rfl
        have e2 : scY Y M = M := by
          funext c; unfold scY
          by_cases q : c = 23
          · rw [if_pos q, q]
          · rw [if_neg q]
            by_cases q2 : c = 24
            · rw [if_pos q2, q2]
            · rw [if_neg q2, hM c q q2]
        rwa [e2] at this
      have cnt : ∀ A, A < 2 ^ nN Y → zPf SY 0 mX10_countOf [.int (nI A)] M (nI (fb_ct (fun q => A.testBit q) (nN Y))) := fun A hA => (cY_countOf M _).eq (by rw [ct_nn (by omega) (by omega) hA])
      have new : (∀ B, B < i → RA Y fr to B → wF i (nN Y) ≤ wF B (nN Y)) → ∀ (r : Int32) (M2 : zX), FDY Y (ledY Y (nI i)) fr to r → KY Y M2 → ((¬ r = (-4)) → (LX10_party_39 (fun r M => PQ Y fr to (nI k) r ∧ KY Y M) M2 (nI fr) (nI to) (nI k) (nI i) r (nI i + 1))) ∧ ((r = (-4)) → (LX10_party_39 (fun r M => PQ Y fr to (nI k) r ∧ KY Y M) M2 (nI fr) (nI to) (nI k) x4 x5 (nI i + 1))) := fun lo r M2 g1 g2 => by
        rw [nI_1]
        refine ⟨fun e => ?_, fun e => ?_⟩
        · refine ih M2 _ _ g2 (Or.inr ⟨i, by omega, rfl, g1, Classical.not_not.mp (fun c => e (g1.ne.mpr c)), fun B hB hr => ?_⟩)
          by_cases c : B = i
          · subst c; exact Nat.le_refl _
          · exact lo B (by omega) hr
        · have nr : ¬ RA Y fr to i := g1.ne.mp e
          refine ih M2 _ _ g2 ?_
          rcases sc with ⟨e1, e2, n⟩ | ⟨A, b1, b2, b3, b4, b5⟩
          · refine Or.inl ⟨e1, e2, fun A hA => ?_⟩
            by_cases c : A = i
            · subst c; exact nr
            · exact n A (by omega)
          · refine Or.inr ⟨A, by omega, b2, b3, b4, fun B hB hr => ?_⟩
            by_cases c : B = i
            · subst c; exact absurd hr nr
            · exact b5 B (by omega) hr
      refine bX10_party_39 _ M _ _ _ _ _ _ ⟨fun e => absurd ((nI_leI (a := 2 ^ nN Y) (b := i) (by omega) (by omega)).mp (by rw [hz M hM] at e; exact e)) (by omega), fun _ => ⟨fun e => ⟨_, ledE, _, cY_wayBy h hM hf ht, fun r M2 ⟨g1, g2⟩ => new ?_ r M2 g1 g2⟩, fun e => ?_⟩⟩
      · rcases sc with ⟨e1, e2, n⟩ | ⟨A, b1, b2, _⟩
        · exact fun B hB hr => absurd hr (n B hB)
        · exact absurd (b2.symm.trans e) (neg4_ne A (by omega))
      · rcases sc with ⟨e1, e2, n⟩ | ⟨A, b1, b2, b3, b4, b5⟩
        · exact absurd e1 e
        · subst b2
          have c1 := ct_le (fun q => A.testBit q) (nN Y); have c2 := ct_le (fun q => i.testBit q) (nN Y)
          refine ⟨_, cnt i hi, _, cnt A (by omega), fun e2 => ?_, fun e2 => ⟨_, ledE, _, cY_wayBy h hM hf ht, fun r M2 ⟨g1, g2⟩ => new ?_ r M2 g1 g2⟩⟩
          · rw [nI_leI (by omega) (by omega)] at e2
            rw [nI_1]
            refine ih M _ _ hM (Or.inr ⟨A, by omega, rfl, b3, b4, fun B hB hr => ?_⟩)
            by_cases c : B = i
            · subst c; unfold wF; omega
            · exact b5 B (by omega) hr
          · rw [nI_leI (by omega) (by omega)] at e2
            intro B hB hr
            have := b5 B hB hr
            unfold wF at this ⊢
            omega
  refine zAg_s h (PQ Y fr to (nI k)) (fun r s => PQ.uniq hn2) (eX9_party _ X _ _ _ ⟨_, oP_i h hf, fun e => absurd rfl e, fun _ => ⟨_, oP_i h ht, fun e => absurd rfl e, fun _ => ⟨_, oC_i X 2 hk (by decide) rfl, fun _ => ⟨_, cX_hearVoices h, fun M8 o => ?_⟩, fun e => absurd rfl e⟩⟩⟩) (eX10_party _ Y _ _ _ ⟨_, yP_i h.1 hf, fun e => absurd e (by decide), fun _ => ⟨_, yP_i h.1 ht, fun e => absurd e (by decide), fun _ => ⟨_, yC_i Y 2 hk (by decide) (by decide), fun _ => ly 0 (Nat.zero_le _) Y (-4) (-4) (fun _ _ _ => rfl) (Or.inl ⟨rfl, rfl, fun A hA => by omega⟩), fun e => absurd e (by decide)⟩⟩⟩)
  have v : VV Y M8 := ⟨o.rel h, o.2⟩
  refine ⟨_, cX_singersOfAny v, _, cX_sungBy v.1 v.vo _, _, cX_ledWhere v.1 _, _, cX_daysBetween v.1 hf ht, fun r12 M13 ⟨g1, g2⟩ => ⟨fun e => lx M13 (v.kx g2), fun e => ⟨Or.inl ⟨rfl, fun A hA hr => ?_⟩, g2.rel v.1⟩⟩⟩
  refine g1.ne.mp e (Rch.mono (fun u hu => ?_) (RA_and h.1 eg hr))
  refine led_mono h.1 (fun w hw => sung_mono h.1 (fun p hp hb => ?_) hw) hu
  rw [← fa_and, b_and, Bool.and_eq_true, ← eg] at hb
  exact hb.2
end PA
