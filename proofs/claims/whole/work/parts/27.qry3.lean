section Q3
variable {X Y : zX}
theorem vbyI (h : IY Y) (s : Int32) {k : Nat} (hk : k < lenY Y s) : zPf SY 0 mX10_verseBy [.ref 0, .int s, .int (nI k)] Y (nI (vn Y s k)) := (cY_verseBy Y h s (nI k)).eq (vn_ok h s hk).1
theorem lenL (Y : zX) (s : Int32) : fb_ct (fun v => Y 3 v == s) (nV Y) = lenY Y s := rfl
theorem ag_tune (h : Rel X Y) (a : Int32) : zAg mX9_tune mX10_tune 1 2 [.int a] X Y := by
  rcases inR_cases a (b := 4) (by decide) with h1 | ⟨s, hs, rfl⟩
  · exact zAg_q h (-1) (eX9_tune _ X _ ⟨_, oC_o X 4 h1 (by decide) rfl, fun e => absurd e (by decide), fun _ => rfl⟩) (eX10_tune _ Y _ ⟨_, yG_o Y h1, fun e => absurd rfl e, fun _ => rfl⟩)
  have hl := lenY_le h.1 (nI s)
  have hX : X 16 s = nI (lenY Y (nI s)) := h.2.length s hs
  have e17 : nI (lenY Y (nI s)) ≤ 17 ↔ lenY Y (nI s) ≤ 17 := nI_leI (b := 17) (by omega) (by omega)
  have xx : ∀ v, _ → zPf SX 1 mX9_tune [.ref 0, .int (nI s)] X v := fun v q => eX9_tune v X _ ⟨_, oC_i X 4 hs (by decide) rfl, fun _ => ⟨s, rfl, hs, by rw [hX, e17]; exact q⟩, fun e => absurd rfl e⟩
  have yy : ∀ v, _ → zPf SY 2 mX10_tune [.ref 0, .int (nI s)] Y v := fun v q => eX10_tune v Y _ ⟨_, yG_i Y hs, fun _ => ⟨_, cY_lengthOf Y h.1 _, by rw [lenL, e17]; exact q⟩, fun e => absurd e (by decide)⟩
  by_cases q : lenY Y (nI s) ≤ 17
  · refine zAg_q h (pcF Y (nI s) 0 1 (lenY Y (nI s) - 1)) (xx _ ⟨fun _ => ?_, fun e => absurd q e⟩) (yy _ ⟨fun _ => ?_, fun e => absurd q e⟩)
    · refine zdown0 (P := fun i => LX9_tune_31 _ X (nI s) (pcF Y (nI s) 0 1 i) (nI i)) (lenY Y (nI s) - 1) ?_ ?_
      · refine bX9_tune_31 _ X _ _ _ ⟨s, rfl, hs, fun _ => rfl, fun hc => absurd ?_ hc⟩
        rw [hX, nI_1]; exact nI_le (by omega) (by omega)
      · intro i hi ih
        rw [← nI_1 i] at ih
        refine bX9_tune_31 _ X _ _ _ ⟨s, rfl, hs, fun hc => absurd hc ?_, fun _ => ⟨_, cX_stepFrom h hs (i := i) (d := 1) (by omega) (by omega) rfl, ?_⟩⟩
        · rw [hX, nI_1]; exact nI_ge (by omega) (by omega)
        · have e3 : pcF Y (nI s) 0 1 i * 3 + stpY Y (nI s) i 1 = pcF Y (nI s) 0 1 (i + 1) := by
            rw [Int32.mul_comm]; show _ = 3 * pcF Y (nI s) 0 1 i + stpY Y (nI s) (0 + i) 1; rw [Nat.zero_add]
          rw [e3]; exact ih
    · refine zdown0 (P := fun i => LX10_tune_29 _ Y (nI s) (nI (lenY Y (nI s))) (pcF Y (nI s) 0 1 i) (nI i)) (lenY Y (nI s) - 1) ?_ ?_
      · refine bX10_tune_29 _ Y _ _ _ _ ⟨fun _ => rfl, fun hc => absurd ?_ hc⟩
        rw [nI_1]; exact nI_le (by omega) (by omega)
      · intro i hi ih
        rw [← nI_1 i] at ih
        obtain ⟨-, a2, -, -⟩ := vn_ok h.1 (nI s) (k := i) (by omega)
        obtain ⟨-, b2, -, -⟩ := vn_ok h.1 (nI s) (k := i + 1) (by omega)
        refine bX10_tune_29 _ Y _ _ _ _ ⟨fun hc => absurd hc ?_, fun _ => ⟨_, vbyI h.1 (nI s) (k := i) (by omega), _, by rw [nI_1]; exact vbyI h.1 (nI s) (k := i + 1) (by omega), _, cY_goes h.1 a2 b2, ?_⟩⟩
        · rw [nI_1]; exact nI_ge (by omega) (by omega)
        · have e3 : 3 * pcF Y (nI s) 0 1 i + goesY Y (vn Y (nI s) i) (vn Y (nI s) (i + 1)) = pcF Y (nI s) 0 1 (i + 1) := by
            show _ = 3 * pcF Y (nI s) 0 1 i + stpY Y (nI s) (0 + i) 1; rw [Nat.zero_add]; rfl
          rw [e3]; exact ih
  · exact zAg_q h (-2) (xx _ ⟨fun e => absurd e q, fun _ => rfl⟩) (yy _ ⟨fun e => absurd e q, fun _ => rfl⟩)
theorem least_bit {x : Int32} {n : Nat} (hx : ¬ x = 0) (hb : ∀ k, n ≤ k → k < 32 → bt x k = false) : ∃ k, k < n ∧ bt x k = true ∧ ∀ j, j < k → bt x j = false := by
  have : ∃ k, bt x k = true := by
    apply Classical.byContradiction
    intro q
    apply hx
    apply b_ext
    intro i _
    rw [b_0]
    cases e : bt x i with
    | false => rfl
    | true => exact absurd ⟨i, e⟩ q
  obtain ⟨k, h1, h2⟩ := pk_least _ this
  refine ⟨k, ?_, h1, fun j hj => by simpa using h2 j hj⟩
  apply Classical.byContradiction
  intro q
  by_cases q2 : k < 32
  · rw [hb k (by omega) q2] at h1; cases h1
  · rw [b_big (by omega)] at h1; cases h1
theorem cY_firstOf (Y : zX) {x : Int32} {k : Nat} (hk : k < 32) (h1 : bt x k = true) (h0 : ∀ j, j < k → bt x j = false) : zPf SY 0 mX10_firstOf [.int x] Y (nI k) := by
  refine eX10_firstOf _ Y x (zdown0 (P := fun i => LX10_firstOf_2 _ Y x (nI i)) k ?_ ?_)
  · refine bX10_firstOf_2 _ Y _ _ ⟨fun _ => rfl, fun e => ?_⟩
    rw [zb0 (by omega), h1] at e; cases e
  · intro i hi ih
    rw [← nI_1 i] at ih
    refine bX10_firstOf_2 _ Y _ _ ⟨fun e => absurd ?_ e, fun _ => ih⟩
    rw [zb0 (by omega)]; exact h0 i hi
theorem ag_where (h : Rel X Y) (a1 a2 a3 : Int32) : zAg mX9_where mX10_where 3 3 [.int a1, .int a2, .int a3] X Y := by
  have hv2 := h.1.v2
  have d1 : a1 < 1 ↔ a1.toInt < 1 := fa_lt a1 1
  have d2 : 8 < a1 ↔ 8 < a1.toInt := fa_lt 8 a1
  have le : ∀ i : Nat, i < 100 → (a1 ≤ nI i ↔ a1.toInt ≤ i) := fun i hi => by rw [fa_le, nI_toInt (by omega)]
  have e8 : ∀ i : Nat, i < 100 → ((8 : Int32) ≤ nI i ↔ 8 ≤ i) := fun i hi => nI_leI (a := 8) (by omega) (by omega)
  by_cases q : 1 ≤ a1.toInt ∧ a1.toInt ≤ 8
  · obtain ⟨m, hm⟩ : ∃ m : Nat, a1.toInt = (m : Int) := ⟨a1.toInt.toNat, by omega⟩
    obtain rfl := nI_toIntL hm
    have p3 : 3 ^ m ≤ 3 ^ 8 := Nat.pow_le_pow_right (by decide) (by omega)
    have xx : ∀ v, _ → zPf SX 3 mX9_where [.ref 0, .int (nI m), .int a2, .int a3] X v := fun v q2 => eX9_where v X _ _ _ (by
      rw [d1, d2]
      exact ⟨fun e => by omega, fun _ => ⟨fun e => by omega, fun _ => ⟨_, cX_powerOfThree X (by omega), q2⟩⟩⟩)
    have yy : ∀ v, (∃ r4, zPf SY 0 mX10_in [.long a2.toInt64, .long 0, .long ((nI (3 ^ m)) - 1).toInt64] Y r4 ∧ _) → zPf SY 3 mX10_where [.ref 0, .int (nI m), .int a2, .int a3] Y v := fun v q2 => by
      refine eX10_where v Y _ _ _ (zdown0 (P := fun i => LX10_where_6 v Y (nI m) a2 a3 (nI (3 ^ i)) (nI i)) m ?_ ?_)
      · exact bX10_where_6 _ Y _ _ _ _ _ ⟨fun _ => ⟨_, yI_i Y (l := 1) (r := 8) (by decide) (by decide) q, fun e => absurd e (by decide), fun _ => q2⟩, fun hc => absurd ((le m (by omega)).mpr (by omega)) hc⟩
      · intro i hi ih
        rw [← nI_1 i, Nat.pow_succ, ← pk_mul] at ih
        exact bX10_where_6 _ Y _ _ _ _ _ ⟨fun hc => absurd ((le i (by omega)).mp hc) (by omega), fun _ => ⟨fun hc => absurd ((e8 i (by omega)).mp hc) (by omega), fun _ => ih⟩⟩
    rcases inR_cases a2 (b := 3 ^ m) (by omega) with h1 | ⟨x, hx, rfl⟩
    · exact zAg_q h (-1) (xx _ ⟨_, oC_o X (3 ^ m) h1 (by omega) rfl, fun _ => rfl, fun e => absurd e (by decide)⟩) (yy _ ⟨_, (cY_inS Y a2 (3 ^ m) (by omega) rfl).eq (by rw [h1]; rfl), fun _ => rfl, fun e => absurd rfl e⟩)
    have yi := (cY_inS Y (nI x) (3 ^ m) (by omega) rfl).eq (w := 1) (by rw [inR_nI hx (by omega)]; rfl)
    rcases inR_cases a3 (b := 3) (by decide) with h1 | ⟨k, hk, rfl⟩
    · exact zAg_q h (-1) (xx _ ⟨_, oC_i X (3 ^ m) hx (by omega) rfl, fun e => absurd rfl e, fun _ => ⟨_, oC_o X 3 h1 (by decide) rfl, fun e => absurd e (by decide), fun _ => rfl⟩⟩) (yy _ ⟨_, yi, fun e => absurd e (by decide), fun _ => ⟨_, yC_o Y 3 h1 (by decide), fun e => absurd rfl e, fun _ => rfl⟩⟩)
    have hne : ¬ nI x = -4 := neg4_ne x (by omega)
    have hbz : ∀ j, nV Y ≤ j → j < 32 → bt (bs (fitP Y m (nI x)) (nV Y)) j = false := fun j c d => by rw [bt_bs _ (by omega) d]; simp; omega
    generalize hS : bs (fitP Y m (nI x)) (nV Y) = S at hbz
    have x2 : ∀ v, _ → zPf SX 3 mX9_where [.ref 0, .int (nI m), .int (nI x), .int (nI k)] X v := fun v q2 => xx v ⟨_, oC_i X (3 ^ m) hx (by omega) rfl, fun e => absurd rfl e, fun _ => ⟨_, oC_i X 3 hk (by decide) rfl, fun _ => ⟨S, hS ▸ cX_fitting h (by omega) hne, q2⟩, fun e => absurd rfl e⟩⟩
    have y2 : ∀ v, _ → zPf SY 3 mX10_where [.ref 0, .int (nI m), .int (nI x), .int (nI k)] Y v := fun v q2 => yy v ⟨_, yi, fun e => absurd e (by decide), fun _ => ⟨_, yC_i Y 3 hk (by decide) (by decide), fun _ => ⟨S, hS ▸ cY_fitting h.1 (by omega) _, q2⟩, fun e => absurd e (by decide)⟩⟩
    obtain rfl | rfl | rfl : k = 0 ∨ k = 1 ∨ k = 2 := by omega
    · refine zAg_q h _ (x2 _ ⟨fun e => absurd rfl e, fun _ => ⟨_, cJ_bitCount X S, ?_⟩⟩) (y2 _ ⟨fun e => absurd rfl e, fun _ => ⟨_, cY_countOf Y S, rfl⟩⟩)
      rw [ct_24 (fun j c d => hbz j (by omega) d)]
    · by_cases z : S = 0
      · exact zAg_q h (-4) (x2 _ ⟨fun _ => ⟨fun e => absurd rfl e, fun _ => ⟨fun e => absurd z e, fun _ => rfl⟩⟩, fun e => absurd e (by decide)⟩) (y2 _ ⟨fun _ => ⟨fun _ => ⟨fun e => absurd z e, fun _ => rfl⟩, fun e => absurd e (by decide)⟩, fun e => absurd e (by decide)⟩)
      · obtain ⟨j, c1, c2, c3⟩ := least_bit z hbz
        exact zAg_q h (nI j) (x2 _ ⟨fun _ => ⟨fun e => absurd rfl e, fun _ => ⟨fun _ => ⟨_, cJ_ntz X (by omega) c2 c3, rfl⟩, fun e => absurd e z⟩⟩, fun e => absurd e (by decide)⟩) (y2 _ ⟨fun _ => ⟨fun _ => ⟨fun _ => ⟨_, cY_firstOf Y (by omega) c2 c3, rfl⟩, fun e => absurd e z⟩, fun e => absurd e (by decide)⟩, fun e => absurd e (by decide)⟩)
    · exact zAg_q h S (x2 _ ⟨fun _ => ⟨fun _ => rfl, fun e => absurd e (by decide)⟩, fun e => absurd e (by decide)⟩) (y2 _ ⟨fun _ => ⟨fun e => absurd rfl e, fun _ => rfl⟩, fun e => absurd e (by decide)⟩)
  · refine zAg_q h (-1) (eX9_where _ X _ _ _ (by
      rw [d1, d2]
      refine ⟨fun _ => rfl, fun e => ⟨fun _ => rfl, fun e2 => ?_⟩⟩
      omega)) ?_
    have yo := yI_o Y (a := a1) (lo := 1) (hi := 8) (l := 1) (r := 8) (by decide) (by decide) q
    by_cases q2 : a1.toInt ≤ 0
    · exact eX10_where _ Y _ _ _ (bX10_where_6 _ Y _ _ _ _ _ ⟨fun _ => ⟨_, yo, fun _ => rfl, fun e => absurd rfl e⟩, fun hc => absurd ((le 0 (by omega)).mpr (by omega)) hc⟩)
    · refine eX10_where _ Y _ _ _ (zdown0 (P := fun i => LX10_where_6 _ Y a1 a2 a3 (nI (3 ^ i)) (nI i)) 8 ?_ ?_)
      · exact bX10_where_6 _ Y _ _ _ _ _ ⟨fun hc => absurd ((le 8 (by omega)).mp hc) (by omega), fun _ => ⟨fun _ => ⟨_, yo, fun _ => rfl, fun e => absurd rfl e⟩, fun hc => absurd ((e8 8 (by omega)).mpr (by omega)) hc⟩⟩
      · intro i hi ih
        rw [← nI_1 i, Nat.pow_succ, ← pk_mul] at ih
        exact bX10_where_6 _ Y _ _ _ _ _ ⟨fun hc => absurd ((le i (by omega)).mp hc) (by omega), fun _ => ⟨fun hc => absurd ((e8 i (by omega)).mp hc) (by omega), fun _ => ih⟩⟩
def surP (Y : zX) (v : Nat) : Nat → Bool := fun m => decide (n32 (Y 8 v) + m < lenY Y (Y 3 v)) && (bs (fitP Y m (pcF Y (Y 3 v) (n32 (Y 8 v)) 0 m)) (nV Y) == zshl 1 (nI v))
theorem fstF_none {p : Nat → Bool} : ∀ (d i : Nat), (∀ j, i ≤ j → p j = false) → fstF p d i = -4
  | 0, _, _ => rfl
  | d + 1, i, q => by
    show (if p i then nI i else fstF p d (i + 1)) = -4
    rw [if_neg (by rw [q i (Nat.le_refl _)]; decide)]
    exact fstF_none d (i + 1) (fun j hj => q j (by omega))
theorem ag_sure (h : Rel X Y) (a : Int32) : zAg mX9_sure mX10_sure 3 3 [.int a] X Y := by
  have hv2 := h.1.v2
  rcases inR_cases a (b := nV Y) (by omega) with h1 | ⟨v, hv, rfl⟩
  · exact zAg_q h (-1) (eX9_sure _ X _ ⟨_, oV_o h h1, fun e => absurd e (by decide), fun _ => rfl⟩) (eX10_sure _ Y _ ⟨_, yV_o h.1 h1, fun e => absurd rfl e, fun _ => rfl⟩)
  have c8 : ∀ i : Nat, i < 100 → ((8 : Int32) < nI i ↔ 8 < i) := fun i hi => nI_ltI (a := 8) (by omega) (by omega)
  refine zAg_q h (fstF (surP Y v) 8 1) (eX9_sure _ X _ ⟨_, oV_i h hv, fun _ => ?_, fun e => absurd rfl e⟩) (eX10_sure _ Y _ ⟨_, yV_i h.1 hv, fun _ => ?_, fun e => absurd e (by decide)⟩)
  · refine (zdown (P := fun i => fstF (surP Y v) 8 1 = fstF (surP Y v) (9 - i) i → LX9_sure_18 (fstF (surP Y v) 8 1) X (nI v) (nI i)) (n := 9) ?_ ?_ 1 (by omega)) rfl
    · intro e
      exact bX9_sure_18 _ X _ _ ⟨fun _ => e.symm, fun hc => absurd ((c8 9 (by omega)).mpr (by omega)) hc⟩
    · intro i hi ih e
      rw [← nI_1 i] at ih
      refine bX9_sure_18 _ X _ _ ⟨fun hc => ?_, fun _ => ⟨_, cX_pieceFrom h hv (m := i) (by omega), ?_⟩⟩
      · have := (c8 i (by omega)).mp hc; omega
      by_cases q : n32 (Y 8 v) + i < lenY Y (Y 3 v)
      · rw [if_pos q]
        have hne := pcF_ne Y (Y 3 v) (n32 (Y 8 v)) (m := i) (by omega)
        rw [fstF_s _ hi] at e
        refine ⟨fun _ => ⟨_, cX_fitting h (by omega) hne, fun e2 => ih ?_, fun e2 => ?_⟩, fun e2 => absurd e2 hne⟩
        · rw [if_neg (by simp only [surP, beqF e2, Bool.and_false]; decide)] at e; exact e
        · rw [if_pos (by simp only [surP, beqT e2, Bool.and_true]; exact decide_eq_true q)] at e; exact e.symm
      · rw [if_neg q]
        refine ⟨fun e2 => absurd rfl e2, fun _ => ?_⟩
        rw [e, fstF_none]
        intro j hj
        simp only [surP, Bool.and_eq_false_iff, decide_eq_false_iff_not]
        left; omega
  · refine (zdown (P := fun i => fstF (surP Y v) 8 1 = fstF (surP Y v) (9 - i) i → LX10_sure_12 (fstF (surP Y v) 8 1) Y (nI v) (nI i)) (n := 9) ?_ ?_ 1 (by omega)) rfl
    · intro e
      exact bX10_sure_12 _ Y _ _ ⟨fun _ => e.symm, fun hc => absurd ((c8 9 (by omega)).mpr (by omega)) hc⟩
    · intro i hi ih e
      rw [← nI_1 i] at ih
      rw [fstF_s _ hi] at e
      refine bX10_sure_12 _ Y _ _ ⟨fun hc => ?_, fun _ => ⟨_, cY_hasSteps h.1 hv (m := i) (by omega), fun q => ih ?_, fun q => ?_⟩⟩
      · have := (c8 i (by omega)).mp hc; omega
      · rw [b2i_0] at q
        rw [if_neg (by simp only [surP, q, Bool.false_and]; decide)] at e; exact e
      · rw [b2i_n] at q
        refine ⟨_, cY_pieceAt h.1 hv (by omega) (by simpa using q), _, cY_fitting h.1 (by omega) _, fun e2 => ih ?_, fun e2 => ?_⟩
        · rw [if_neg (by simp only [surP, beqF e2, Bool.and_false]; decide)] at e; exact e
        · rw [if_pos (by simp only [surP, beqT e2, Bool.and_true]; exact q)] at e; exact e.symm
def alkP (Y : zX) (s : Int32) (k : Nat) : Nat → Bool := fun t => stpY Y s (t * k) k == stpY Y s (t * k) 1
theorem ag_faster (h : Rel X Y) (a1 a2 a3 : Int32) : zAg mX9_faster mX10_faster 1 2 [.int a1, .int a2, .int a3] X Y := by
  rcases inR_cases a1 (b := 4) (by decide) with h1 | ⟨s, hs, rfl⟩
  · exact zAg_q h (-1) (eX9_faster _ X _ _ _ ⟨_, oC_o X 4 h1 (by decide) rfl, fun _ => rfl, fun e => absurd e (by decide)⟩) (eX10_faster _ Y _ _ _ ⟨_, yG_o Y h1, fun _ => rfl, fun e => absurd rfl e⟩)
  have d1 : a2 < 2 ↔ a2.toInt < 2 := fa_lt a2 2
  have d2 : 4 < a2 ↔ 4 < a2.toInt := fa_lt 4 a2
  by_cases q : 2 ≤ a2.toInt ∧ a2.toInt ≤ 4
  · obtain ⟨k, hk⟩ : ∃ k : Nat, a2.toInt = (k : Int) := ⟨a2.toInt.toNat, by omega⟩
    obtain rfl := nI_toIntL hk
    rcases inR_cases a3 (b := 2) (by decide) with h1 | ⟨w, hw, rfl⟩
    · exact zAg_q h (-1) (eX9_faster _ X _ _ _ ⟨_, oC_i X 4 hs (by decide) rfl, fun e => absurd rfl e, fun _ => (by rw [d1, d2]; exact ⟨fun e => by omega, fun _ => ⟨fun e => by omega, fun _ => ⟨_, oC_o X 2 h1 (by decide) rfl, fun e => absurd e (by decide), fun _ => rfl⟩⟩⟩)⟩) (eX10_faster _ Y _ _ _ ⟨_, yG_i Y hs, fun e => absurd e (by decide), fun _ => ⟨_, yI_i Y (l := 2) (r := 4) (by decide) (by decide) q, fun e => absurd e (by decide), fun _ => ⟨_, yC_o Y 2 h1 (by decide), fun e => absurd rfl e, fun _ => rfl⟩⟩⟩)
    have hl := lenY_le h.1 (nI s)
    have hX : X 16 s = nI (lenY Y (nI s)) := h.2.length s hs
    have tk : ∀ t, t < (lenY Y (nI s) - 1) / k ↔ t * k + k < lenY Y (nI s) := fun t => by
      rw [Nat.lt_iff_add_one_le, Nat.le_div_iff_mul_le (by omega), Nat.add_mul, Nat.one_mul]
      have : 0 < k := by omega
      omega
    have bnd : ∀ t, t ≤ (lenY Y (nI s) - 1) / k → t * k ≤ 24 := fun t ht => by
      have := Nat.div_mul_le_self (lenY Y (nI s) - 1) k
      have := Nat.mul_le_mul_right k ht
      omega
    generalize hT : (lenY Y (nI s) - 1) / k = T at tk bnd
    have xx : ∀ v, (((¬ nI w = 0) → (nI (fb_ct (alkP Y (nI s) k) T) = v)) ∧ ((nI w = 0) → (nI T = v))) → zPf SX 1 mX9_faster [.ref 0, .int (nI s), .int (nI k), .int (nI w)] X v := fun v q2 => by
      refine eX9_faster v X _ _ _ ⟨_, oC_i X 4 hs (by decide) rfl, fun e => absurd rfl e, fun _ => ?_⟩
      rw [d1, d2]
      refine ⟨fun e => by omega, fun _ => ⟨fun e => by omega, fun _ => ⟨_, oC_i X 2 hw (by decide) rfl, fun _ => ?_, fun e => absurd rfl e⟩⟩⟩
      have := zdown (P := fun t => LX9_faster_37 v X (nI s) (nI k) (nI w) (nI t) (nI (fb_ct (alkP Y (nI s) k) t)) (nI (t * k))) (n := T) ?_ ?_ 0 (Nat.zero_le _)
      · rw [Nat.zero_mul] at this; exact this
      · refine bX9_faster_37 _ X _ _ _ _ _ _ ⟨s, rfl, hs, fun _ => q2, fun hc => absurd ?_ hc⟩
        have := tk T; have := bnd T (Nat.le_refl _)
        rw [hX, nI_add]; exact nI_le (by omega) (by omega)
      · intro t ht ih
        have g1 := (tk t).mp ht
        have g2 := bnd t (by omega)
        have e3 : nI (t * k) + nI k = nI ((t + 1) * k) := by rw [nI_add, Nat.add_mul, Nat.one_mul]
        refine bX9_faster_37 _ X _ _ _ _ _ _ ⟨s, rfl, hs, fun hc => absurd hc ?_, fun _ => ⟨_, cX_stepFrom h hs (i := t * k) (d := k) (by omega) (by omega) rfl, _, cX_stepFrom h hs (i := t * k) (d := 1) (by omega) (by omega) rfl, fun e => ?_, fun e => ?_⟩⟩
        · rw [hX, nI_add]; exact nI_ge (by omega) (by omega)
        · rw [e3, nI_1]
          rw [← ct_f (p := alkP Y (nI s) k) (i := t) (beqF e), show nI (fb_ct (alkP Y (nI s) k) t) + 0 = nI (fb_ct (alkP Y (nI s) k) t) from Int32.add_zero _] at ih
          exact ih
        · rw [e3, ct_t (p := alkP Y (nI s) k) (i := t) (beqT e), nI_1 t]; exact ih
    have yy : ∀ v, (((¬ nI w = 0) → (nI (fb_ct (alkP Y (nI s) k) T) = v)) ∧ ((nI w = 0) → (nI T = v))) → zPf SY 2 mX10_faster [.ref 0, .int (nI s), .int (nI k), .int (nI w)] Y v := fun v q2 => by
      refine eX10_faster v Y _ _ _ ⟨_, yG_i Y hs, fun e => absurd e (by decide), fun _ => ⟨_, yI_i Y (l := 2) (r := 4) (by decide) (by decide) q, fun e => absurd e (by decide), fun _ => ⟨_, yC_i Y 2 hw (by decide) (by decide), fun _ => ⟨_, cY_lengthOf Y h.1 _, ?_⟩, fun e => absurd e (by decide)⟩⟩⟩
      rw [lenL]
      have := zdown (P := fun t => LX10_faster_49 v Y (nI s) (nI k) (nI w) (nI (lenY Y (nI s))) (nI t) (nI (fb_ct (alkP Y (nI s) k) t)) (nI (t * k))) (n := T) ?_ ?_ 0 (Nat.zero_le _)
      · rw [Nat.zero_mul] at this; exact this
      · refine bX10_faster_49 _ Y _ _ _ _ _ _ _ ⟨fun _ => q2, fun hc => absurd ?_ hc⟩
        have := tk T; have := bnd T (Nat.le_refl _)
        rw [nI_add]; exact nI_le (by omega) (by omega)
      · intro t ht ih
        have g1 := (tk t).mp ht
        have g2 := bnd t (by omega)
        have e3 : nI (t * k) + nI k = nI ((t + 1) * k) := by rw [nI_add, Nat.add_mul, Nat.one_mul]
        obtain ⟨-, a2', -, -⟩ := vn_ok h.1 (nI s) (k := t * k) (by omega)
        obtain ⟨-, b2', -, -⟩ := vn_ok h.1 (nI s) (k := t * k + k) (by omega)
        obtain ⟨-, c2', -, -⟩ := vn_ok h.1 (nI s) (k := t * k + 1) (by omega)
        refine bX10_faster_49 _ Y _ _ _ _ _ _ _ ⟨fun hc => absurd hc ?_, fun _ => ⟨_, vbyI h.1 (nI s) (k := t * k) (by omega), _, by rw [nI_add]; exact vbyI h.1 (nI s) (k := t * k + k) (by omega), _, cY_goes h.1 a2' b2', _, vbyI h.1 (nI s) (k := t * k) (by omega), _, by rw [nI_1]; exact vbyI h.1 (nI s) (k := t * k + 1) (by omega), _, cY_goes h.1 a2' c2', fun e => ?_, fun e => ?_⟩⟩
        · rw [nI_add]; exact nI_ge (by omega) (by omega)
        · rw [e3, ct_f (p := alkP Y (nI s) k) (i := t) (beqF e), nI_1 t]; exact ih
        · rw [e3, ct_t (p := alkP Y (nI s) k) (i := t) (beqT e), nI_1 t]; exact ih
    obtain rfl | rfl : w = 0 ∨ w = 1 := by omega
    · exact zAg_q h _ (xx _ ⟨fun e => absurd rfl e, fun _ => rfl⟩) (yy _ ⟨fun e => absurd rfl e, fun _ => rfl⟩)
    · exact zAg_q h _ (xx _ ⟨fun _ => rfl, fun e => absurd e (by decide)⟩) (yy _ ⟨fun _ => rfl, fun e => absurd e (by decide)⟩)
  · exact zAg_q h (-1) (eX9_faster _ X _ _ _ ⟨_, oC_i X 4 hs (by decide) rfl, fun e => absurd rfl e, fun _ => (by rw [d1, d2]; exact ⟨fun _ => rfl, fun e => ⟨fun _ => rfl, fun e2 => absurd (by omega) q⟩⟩)⟩) (eX10_faster _ Y _ _ _ ⟨_, yG_i Y hs, fun e => absurd e (by decide), fun _ => ⟨_, yI_o Y (l := 2) (r := 4) (by decide) (by decide) q, fun _ => rfl, fun e => absurd rfl e⟩⟩)
end Q3
