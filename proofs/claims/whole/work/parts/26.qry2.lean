section Q2
variable {X Y : zX}
theorem cY_inAB (Y : zX) (a : Int32) {lo hi : Int64} {l r : Int} (h1 : lo.toInt = l) (h2 : hi.toInt = r) : zPf SY 0 mX10_in [.long a.toInt64, .long lo, .long hi] Y (b2i (decide (l ≤ a.toInt ∧ a.toInt ≤ r))) := by
  refine (cY_in () Y a.toInt64 lo hi).eq ?_
  congr 1
  rw [decide_eq_decide, fa_le64, fa_le64, Int32.toInt_toInt64, h1, h2]
theorem yI_i (Y : zX) {a : Int32} {lo hi : Int64} {l r : Int} (h1 : lo.toInt = l) (h2 : hi.toInt = r) (h : l ≤ a.toInt ∧ a.toInt ≤ r) : zPf SY 0 mX10_in [.long a.toInt64, .long lo, .long hi] Y 1 := (cY_inAB Y a h1 h2).eq (by rw [decide_eq_true h]; rfl)
theorem yI_o (Y : zX) {a : Int32} {lo hi : Int64} {l r : Int} (h1 : lo.toInt = l) (h2 : hi.toInt = r) (h : ¬ (l ≤ a.toInt ∧ a.toInt ≤ r)) : zPf SY 0 mX10_in [.long a.toInt64, .long lo, .long hi] Y 0 := (cY_inAB Y a h1 h2).eq (by rw [decide_eq_false h]; rfl)
theorem nI_toIntL {a : Int32} {k : Nat} (h : a.toInt = k) : a = nI k := by
  have h1 := Int32.toInt_lt a
  have : a.toInt < 2 ^ 31 := by omega
  apply Int32.toInt_inj.mp
  rw [nI_toInt (by omega), h]
theorem ag_rule (h : Rel X Y) (a : Int32) : zAg mX9_rule mX10_rule 0 1 [.int a] X Y := by
  have c0 : a = 0 ↔ a.toInt = 0 := fa_eq a 0
  have c1 : a = 1 ↔ a.toInt = 1 := fa_eq a 1
  have c2 : a = 2 ↔ a.toInt = 2 := fa_eq a 2
  have d1 : a < 10 ↔ a.toInt < 10 := fa_lt a 10
  have d2 : a < 30 ↔ a.toInt < 30 := fa_lt a 30
  have d3 : 54 ≤ a ↔ 54 ≤ a.toInt := fa_le 54 a
  have d4 : 18 ≤ a ↔ 18 ≤ a.toInt := fa_le 18 a
  have xx : ∀ v, _ → zPf SX 0 mX9_rule [.ref 0, .int a] X v := fun v q => eX9_rule v X a (by rw [c0, c1, c2, d1, d2, d3, d4]; exact q)
  have yy : ∀ v, _ → zPf SY 1 mX10_rule [.ref 0, .int a] Y v := fun v q => eX10_rule v Y a (by rw [c0, c1]; exact q)
  by_cases q0 : a.toInt = 0
  · refine zAg_q h (Y 0 19) (xx _ ?_) (yy _ ⟨_, yI_i Y (l := 0) (r := 2) (by decide) (by decide) (by omega), ?_⟩)
    · (repeat' first | refine ⟨_, rfl, by omega, ?_⟩ | apply And.intro | intro _)
      all_goals first | exact h.2.sng | (exfalso; omega)
    · (repeat' first | refine ⟨_, rfl, by omega, ?_⟩ | apply And.intro | intro _)
      all_goals first | rfl | (exfalso; omega) | (exfalso; contradiction)
  by_cases q1 : a.toInt = 1
  · refine zAg_q h (Y 0 20) (xx _ ?_) (yy _ ⟨_, yI_i Y (l := 0) (r := 2) (by decide) (by decide) (by omega), ?_⟩)
    · (repeat' first | refine ⟨_, rfl, by omega, ?_⟩ | apply And.intro | intro _)
      all_goals first | exact h.2.tll | (exfalso; omega)
    · (repeat' first | refine ⟨_, rfl, by omega, ?_⟩ | apply And.intro | intro _)
      all_goals first | rfl | (exfalso; omega) | (exfalso; contradiction)
  by_cases q2 : a.toInt = 2
  · refine zAg_q h (Y 0 21) (xx _ ?_) (yy _ ⟨_, yI_i Y (l := 0) (r := 2) (by decide) (by decide) (by omega), ?_⟩)
    · (repeat' first | refine ⟨_, rfl, by omega, ?_⟩ | apply And.intro | intro _)
      all_goals first | exact h.2.cry | (exfalso; omega)
    · (repeat' first | refine ⟨_, rfl, by omega, ?_⟩ | apply And.intro | intro _)
      all_goals first | rfl | (exfalso; omega) | (exfalso; contradiction)
  by_cases q3 : 10 ≤ a.toInt ∧ a.toInt ≤ 17
  · obtain ⟨k, hk⟩ : ∃ k : Nat, a.toInt = ((k + 10 : Nat) : Int) := ⟨(a.toInt - 10).toNat, by omega⟩
    have e : a - 10 = nI k := by rw [nI_toIntL hk]; exact pk_sub (a := k + 10) (b := 10) (by omega)
    refine zAg_q h (Y 15 k) (xx _ ?_) (yy _ ⟨_, yI_o Y (l := 0) (r := 2) (by decide) (by decide) (by omega), fun _ => ⟨_, yI_i Y (l := 10) (r := 17) (by decide) (by decide) q3, fun e => absurd e (by decide), fun _ => ⟨k, e, by omega, rfl⟩⟩, fun e => absurd rfl e⟩)
    (repeat' first | refine ⟨_, rfl, by omega, ?_⟩ | apply And.intro | intro _)
    all_goals first | exact ⟨k, e, by omega, h.2.hr k (by omega)⟩ | (exfalso; omega)
  by_cases q4 : 30 ≤ a.toInt ∧ a.toInt ≤ 53
  · obtain ⟨k, hk⟩ : ∃ k : Nat, a.toInt = ((k + 30 : Nat) : Int) := ⟨(a.toInt - 30).toNat, by omega⟩
    have e : a - 30 = nI k := by rw [nI_toIntL hk]; exact pk_sub (a := k + 30) (b := 30) (by omega)
    refine zAg_q h (Y 17 k) (xx _ ?_) (yy _ ⟨_, yI_o Y (l := 0) (r := 2) (by decide) (by decide) (by omega), fun _ => ⟨_, yI_o Y (l := 10) (r := 17) (by decide) (by decide) q3, fun _ => ⟨_, yI_i Y (l := 30) (r := 53) (by decide) (by decide) q4, fun e => absurd e (by decide), fun _ => ⟨k, e, by omega, rfl⟩⟩, fun e => absurd rfl e⟩, fun e => absurd rfl e⟩)
    (repeat' first | refine ⟨_, rfl, by omega, ?_⟩ | apply And.intro | intro _)
    all_goals first | exact ⟨k, e, by omega, h.2.pr k (by omega)⟩ | (exfalso; omega)
  refine zAg_q h (-1) (xx _ ?_) (yy _ ⟨_, yI_o Y (l := 0) (r := 2) (by decide) (by decide) (by omega), fun _ => ⟨_, yI_o Y (l := 10) (r := 17) (by decide) (by decide) q3, fun _ => ⟨_, yI_o Y (l := 30) (r := 53) (by decide) (by decide) q4, fun _ => rfl, fun e => absurd rfl e⟩, fun e => absurd rfl e⟩, fun e => absurd rfl e⟩)
  (repeat' first | refine ⟨_, rfl, by omega, ?_⟩ | apply And.intro | intro _)
  all_goals first | rfl | (exfalso; omega)
theorem ag_may (h : Rel X Y) (a1 a2 : Int32) : zAg mX9_may mX10_may 2 2 [.int a1, .int a2] X Y := by
  have hn2 := h.1.n2; have hv := h.1.v; have hv2 := h.1.v2
  rcases inR_cases a1 (b := nN Y) (by omega) with h1 | ⟨w, hw, rfl⟩
  · exact zAg_q h (-1) (eX9_may _ X _ _ ⟨_, oN_o h h1, fun _ => rfl, fun e => absurd e (by decide)⟩) (eX10_may _ Y _ _ ⟨_, yN_o h.1 h1, fun _ => rfl, fun e => absurd rfl e⟩)
  · rcases inR_cases a2 (b := 2) (by decide) with h2 | ⟨k, hk, rfl⟩
    · exact zAg_q h (-1) (eX9_may _ X _ _ ⟨_, oN_i h hw, fun e => absurd rfl e, fun _ => ⟨_, oC_o X 2 h2 (by decide) rfl, fun e => absurd e (by decide), fun _ => rfl⟩⟩) (eX10_may _ Y _ _ ⟨_, yN_i h.1 hw, fun e => absurd e (by decide), fun _ => ⟨_, yC_o Y 2 h2 (by decide), fun e => absurd rfl e, fun _ => rfl⟩⟩)
    · have xx : ∀ v, _ → zPf SX 2 mX9_may [.ref 0, .int (nI w), .int (nI k)] X v := fun v q => eX9_may v X (nI w) (nI k) ⟨_, oN_i h hw, fun e => absurd rfl e, fun _ => ⟨_, oC_i X 2 hk (by decide) rfl, fun _ => q, fun e => absurd rfl e⟩⟩
      have yy : ∀ v, LX10_may_25 v Y (nI w) (nI k) 0 0 → zPf SY 2 mX10_may [.ref 0, .int (nI w), .int (nI k)] Y v := fun v q => eX10_may v Y (nI w) (nI k) ⟨_, yN_i h.1 hw, fun e => absurd e (by decide), fun _ => ⟨_, yC_i Y 2 hk (by decide) (by decide), fun _ => q, fun e => absurd e (by decide)⟩⟩
      obtain rfl | rfl : k = 0 ∨ k = 1 := by omega
      · refine zAg_q h (bs (hearY Y w) (nV Y)) (xx _ ⟨fun e => absurd rfl e, fun _ => ⟨_, cX_hearable h hw, rfl⟩⟩) (yy _ ?_)
        refine zdown0 (P := fun i => LX10_may_25 _ Y (nI w) (nI 0) (bs (hearY Y w) i) (nI i)) (nV Y) ?_ ?_
        · exact bX10_may_25 _ Y _ _ _ _ ⟨fun _ => rfl, fun hc => absurd (loE (n := nV Y) hv (by omega)) hc⟩
        · intro i hi ih
          rw [← nI_1 i] at ih
          refine bX10_may_25 _ Y _ _ _ _ ⟨fun hc => absurd hc (loB (n := nV Y) hv hi (by omega)), fun _ => ?_⟩
          refine ⟨fun e => absurd rfl e, fun _ => ⟨_, cY_mayHear Y h.1 hw hi, fun e => ?_, fun e => ?_⟩⟩
          · rw [bs_f (p := hearY Y w) (b2i_0.mp e)]; exact ih
          · rw [bs_t (p := hearY Y w) (b2i_n.mp e)]; exact ih
      · refine zAg_q h (bs (singY Y w) (nV Y)) (xx _ ⟨fun _ => ⟨_, cX_singable h hw, rfl⟩, fun e => absurd e (by decide)⟩) (yy _ ?_)
        refine zdown0 (P := fun i => LX10_may_25 _ Y (nI w) (nI 1) (bs (singY Y w) i) (nI i)) (nV Y) ?_ ?_
        · exact bX10_may_25 _ Y _ _ _ _ ⟨fun _ => rfl, fun hc => absurd (loE (n := nV Y) hv (by omega)) hc⟩
        · intro i hi ih
          rw [← nI_1 i] at ih
          refine bX10_may_25 _ Y _ _ _ _ ⟨fun hc => absurd hc (loB (n := nV Y) hv hi (by omega)), fun _ => ?_⟩
          refine ⟨fun _ => ⟨_, cY_maySing Y h.1 hw hi, fun e => ?_, fun e => ?_⟩, fun e => absurd e (by decide)⟩
          · rw [bs_f (p := singY Y w) (b2i_0.mp e)]; exact ih
          · rw [bs_t (p := singY Y w) (b2i_n.mp e)]; exact ih
def needP (Y : zX) (v : Nat) : Nat → Bool := fun u => (u == v || bt (Y 17 v) u) && !(Y 7 u == -4)
theorem need_eq (h : Rel X Y) {s : Nat} (hs : s < 4) : bsx (kinP Y (X 17 s ||| orx (bt (X 17 s)) (Y 17) 24)) (fun v => n32 (Y 7 v)) (nV Y) = orx (fun v => Y 3 v == nI s) (fun v => bsx (needP Y v) (fun u => n32 (Y 7 u)) (nV Y)) (nV Y) := by
  have hv2 := h.1.v2
  apply b_ext
  intro k hk
  have g1 : ∀ (p : Nat → Bool), (∀ u, p u = true → ¬ Y 7 u = -4) → ∀ i, i < nV Y → p i = true → n32 (Y 7 i) < 32 := fun p hp i hi q => by
    have := ((h.1.held i hi).resolve_left (hp i q)).2; omega
  have n1 : ∀ v u, needP Y v u = true → ¬ Y 7 u = -4 := fun v u q => by simp [needP] at q; exact q.2
  have n2 : ∀ x u, kinP Y x u = true → ¬ Y 7 u = -4 := fun x u q => by simp [kinP] at q; exact q.2
  rw [bt_bsxA _ _ hk (g1 _ (n2 _)), bt_orx, Bool.eq_iff_iff, anyB_iff, anyB_iff]
  have hV : ∀ v, v < 32 → bt (X 17 s) v = (decide (v < nV Y) && (Y 3 v == nI s)) := fun v hv => by rw [h.2.ofSong s hs, bt_bs _ (by omega) hv]
  constructor
  · rintro ⟨u, hu, q⟩
    rw [Bool.and_eq_true, kinP, Bool.and_eq_true, b_or, Bool.or_eq_true, bt_orx, anyB_iff] at q
    obtain ⟨⟨q1 | ⟨v, hv, q1⟩, q2⟩, q3⟩ := q
    · rw [hV u (by omega), Bool.and_eq_true] at q1
      refine ⟨u, hu, ?_⟩
      rw [Bool.and_eq_true, bt_bsxA _ _ hk (g1 _ (n1 _)), anyB_iff]
      exact ⟨q1.2, u, hu, by simp only [needP, beq_self_eq_true, Bool.true_or, Bool.true_and, Bool.and_eq_true]; exact ⟨q2, q3⟩⟩
    · rw [Bool.and_eq_true, hV v (by omega), Bool.and_eq_true, decide_eq_true_eq] at q1
      refine ⟨v, q1.1.1, ?_⟩
      rw [Bool.and_eq_true, bt_bsxA _ _ hk (g1 _ (n1 _)), anyB_iff]
      exact ⟨q1.1.2, u, hu, by simp only [needP, q1.2, Bool.or_true, Bool.true_and, Bool.and_eq_true]; exact ⟨q2, q3⟩⟩
  · rintro ⟨v, hv, q⟩
    rw [Bool.and_eq_true, bt_bsxA _ _ hk (g1 _ (n1 _)), anyB_iff] at q
    obtain ⟨q1, u, hu, q2⟩ := q
    rw [Bool.and_eq_true, needP, Bool.and_eq_true, Bool.or_eq_true] at q2
    obtain ⟨⟨q3, q4⟩, q5⟩ := q2
    refine ⟨u, hu, ?_⟩
    rw [Bool.and_eq_true, kinP, Bool.and_eq_true, b_or, Bool.or_eq_true, bt_orx, anyB_iff]
    refine ⟨⟨?_, q4⟩, q5⟩
    rcases q3 with q3 | q3
    · have : u = v := by simpa using q3
      subst this
      left; rw [hV u (by omega), q1]; simp [hu]
    · right; exact ⟨v, by omega, by rw [hV v (by omega), q1, q3]; simp [hv]⟩
theorem ag_need (h : Rel X Y) (a : Int32) : zAg mX9_need mX10_need 1 2 [.int a] X Y := by
  have hv := h.1.v; have hv2 := h.1.v2
  rcases inR_cases a (b := 4) (by decide) with h1 | ⟨s, hs, rfl⟩
  · exact zAg_q h (-1) (eX9_need _ X _ ⟨_, oC_o X 4 h1 (by decide) rfl, fun e => absurd e (by decide), fun _ => rfl⟩) (eX10_need _ Y _ ⟨_, yG_o Y h1, fun e => absurd rfl e, fun _ => rfl⟩)
  · refine zAg_q h _ (eX9_need _ X _ ⟨_, oC_i X 4 hs (by decide) rfl, fun _ => ⟨s, rfl, hs, _, cX_pairedWith h _, _, cX_kinsOf h _, need_eq h hs⟩, fun e => absurd rfl e⟩) (eX10_need _ Y _ ⟨_, yG_i Y hs, fun _ => ?_, fun e => absurd e (by decide)⟩)
    refine zdown0 (P := fun i => LX10_need_13 _ Y (nI s) (orx (fun v => Y 3 v == nI s) (fun v => bsx (needP Y v) (fun u => n32 (Y 7 u)) (nV Y)) i) (nI i)) (nV Y) ?_ ?_
    · exact bX10_need_13 _ Y _ _ _ ⟨fun _ => rfl, fun hc => absurd (loE (n := nV Y) hv (by omega)) hc⟩
    · intro i hi ih
      rw [← nI_1 i] at ih
      refine bX10_need_13 _ Y _ _ _ ⟨fun hc => absurd hc (loB (n := nV Y) hv hi (by omega)), fun _ => ?_⟩
      refine ⟨i, rfl, by omega, fun e => ?_, fun e => ?_⟩
      · rw [← orx_f (p := fun v => Y 3 v == nI s) (i := i) (beqF e)] at ih; exact ih
      · rw [← orx_t (p := fun v => Y 3 v == nI s) (i := i) (beqT e)] at ih
        generalize orx (fun v => Y 3 v == nI s) (fun v => bsx (needP Y v) (fun u => n32 (Y 7 u)) (nV Y)) i = A at ih ⊢
        generalize orx (fun v => Y 3 v == nI s) (fun v => bsx (needP Y v) (fun u => n32 (Y 7 u)) (nV Y)) (nV Y) = V at ih ⊢
        have inner : ∀ j, j ≤ nV Y → LX10_need_34 V Y (nI s) (A ||| bsx (needP Y i) (fun u => n32 (Y 7 u)) j) (nI i) (nI j) := by
          refine zdown ?_ ?_
          · exact bX10_need_34 _ Y _ _ _ _ ⟨fun _ => ih, fun hc => absurd (loE hv (by omega)) hc⟩
          · intro j hj ih2
            rw [← nI_1] at ih2
            have ef : needP Y i j = false → LX10_need_34 V Y (nI s) (A ||| bsx (needP Y i) (fun u => n32 (Y 7 u)) j ||| 0) (nI i) (nI j + 1) := fun q => by
              rw [or_assoc3, bsx_f q]; exact ih2
            have et : needP Y i j = true → LX10_need_34 V Y (nI s) (A ||| bsx (needP Y i) (fun u => n32 (Y 7 u)) j ||| zshl 1 (Y 7 j)) (nI i) (nI j + 1) := fun q => by
              have h4 : ¬ Y 7 j = -4 := by simp [needP] at q; exact q.2
              have e3 := bsx_t (p := needP Y i) (g := fun u => n32 (Y 7 u)) (i := j) q
              simp only [← ((h.1.held j hj).resolve_left h4).1] at e3
              rw [or_assoc3, e3]; exact ih2
            refine bX10_need_34 _ Y _ _ _ _ ⟨fun hc => absurd hc (loB hv hj (by omega)), fun _ => ?_⟩
            rw [nI_eq (by omega) (by omega)]
            refine ⟨fun q => ⟨j, rfl, by omega, fun q2 => ef ?_, fun q2 => ⟨j, rfl, by omega, et ?_⟩⟩, fun q => ⟨i, rfl, by omega, ?_⟩⟩
            · simp [needP, q2]
            · subst q; simp [needP, q2]
            · rw [zb1 (by omega)]
              refine ⟨fun q1 => ef ?_, fun q1 => ⟨j, rfl, by omega, fun q2 => ef ?_, fun q2 => ⟨j, rfl, by omega, et ?_⟩⟩⟩
              · simp [needP, q, q1]
              · simp [needP, q2]
              · simp [needP, q1, q2]
        have := inner 0 (Nat.zero_le _)
        rw [show bsx (needP Y i) (fun u => n32 (Y 7 u)) 0 = 0 from rfl, or0] at this
        exact this
theorem ag_cut (h : Rel X Y) (a1 a2 : Int32) : zAg mX9_cut mX10_cut 1 2 [.int a1, .int a2] X Y := by
  have hp2 := h.1.p2; have hv := h.1.v; have hv2 := h.1.v2
  rcases inR_cases a1 (b := 2 ^ nP Y) (by have := pow_le hp2; omega) with h1 | ⟨p, hp, rfl⟩
  · exact zAg_q h (-1) (eX9_cut _ X _ _ ⟨_, oQ_o h h1, fun _ => rfl, fun e => absurd e (by decide)⟩) (eX10_cut _ Y _ _ ⟨_, yQ_o h.1 h1, fun _ => rfl, fun e => absurd rfl e⟩)
  · rcases inR_cases a2 (b := 2) (by decide) with h2 | ⟨k, hk, rfl⟩
    · exact zAg_q h (-1) (eX9_cut _ X _ _ ⟨_, oQ_i h hp, fun e => absurd rfl e, fun _ => ⟨_, oC_o X 2 h2 (by decide) rfl, fun e => absurd e (by decide), fun _ => rfl⟩⟩) (eX10_cut _ Y _ _ ⟨_, yQ_i h.1 hp, fun e => absurd e (by decide), fun _ => ⟨_, yC_o Y 2 h2 (by decide), fun e => absurd rfl e, fun _ => rfl⟩⟩)
    · generalize hS : bs (atP Y (nI p)) (nV Y) = S
      have xx : ∀ v, _ → zPf SX 1 mX9_cut [.ref 0, .int (nI p), .int (nI k)] X v := fun v q => eX9_cut v X (nI p) (nI k) ⟨_, oQ_i h hp, fun e => absurd rfl e, fun _ => ⟨_, oC_i X 2 hk (by decide) rfl, fun _ => ⟨S, hS ▸ cX_versesAt h (nI p), q⟩, fun e => absurd rfl e⟩⟩
      have yy : ∀ v, (((¬ nI k = 0) → (bsx (brkP Y S) (fun v => n32 (Y 3 v)) (nV Y) = v)) ∧ ((nI k = 0) → (S = v))) → zPf SY 2 mX10_cut [.ref 0, .int (nI p), .int (nI k)] Y v := fun v q => by
        refine eX10_cut v Y (nI p) (nI k) ⟨_, yQ_i h.1 hp, fun e => absurd e (by decide), fun _ => ⟨_, yC_i Y 2 hk (by decide) (by decide), fun _ => ⟨S, hS ▸ cY_shutBy h.1 (nI p), ?_⟩, fun e => absurd e (by decide)⟩⟩
        refine zdown0 (P := fun i => LX10_cut_32 v Y (nI k) S (bsx (brkP Y S) (fun v => n32 (Y 3 v)) i) (nI i)) (nV Y) ?_ ?_
        · exact bX10_cut_32 _ Y _ _ _ _ ⟨fun _ => q, fun hc => absurd (loE hv (by omega)) hc⟩
        · intro i hi ih
          rw [← nI_1] at ih
          obtain ⟨n1, -, n3⟩ := numY h.1 hi
          have hl := lenY_le h.1 (Y 3 i)
          have ef : brkP Y S i = false → LX10_cut_32 v Y (nI k) S (bsx (brkP Y S) (fun v => n32 (Y 3 v)) i ||| 0) (nI i + 1) := fun q => by rw [bsx_f q]; exact ih
          have e0 : Y 8 i ≤ 0 ↔ n32 (Y 8 i) = 0 := by
            rw [n1, show (0 : Int32) = nI 0 from rfl, nI_leI (by omega) (by omega), n32_nI (by omega)]; omega
          have e1 : nI (fb_ct (fun v => Y 3 v == Y 3 i) (nV Y)) - 1 ≤ Y 8 i ↔ lenY Y (Y 3 i) ≤ n32 (Y 8 i) + 1 := by
            rw [show fb_ct (fun v => Y 3 v == Y 3 i) (nV Y) = lenY Y (Y 3 i) from rfl, fa_le, nI_sub1 (by omega), n1, nI_toInt (by omega), n32_nI (by omega)]; omega
          refine bX10_cut_32 _ Y _ _ _ _ ⟨fun hc => absurd hc (loB hv hi (by omega)), fun _ => ?_⟩
          rw [zb1 (by omega)]
          refine ⟨i, rfl, by omega, fun a => ⟨fun _ => ef ?_, fun _ => ef ?_⟩, fun a => ⟨i, rfl, by omega, i, rfl, by omega, _, cY_lengthOf Y h.1 _, fun b => ⟨fun _ => ef ?_, fun _ => ef ?_⟩, fun b => ⟨fun q => ef ?_, fun q => ⟨i, rfl, by omega, ?_⟩⟩⟩⟩
          · simp [brkP, innY, e0.mp a]
          · simp [brkP, innY, e0.mp a]
          · rw [e1] at b
            simp only [brkP, innY, Bool.and_eq_false_iff, decide_eq_false_iff_not]; right; right; omega
          · rw [e1] at b
            simp only [brkP, innY, Bool.and_eq_false_iff, decide_eq_false_iff_not]; right; right; omega
          · simp [brkP, q]
          · rw [e0] at a
            rw [e1] at b
            have e3 := bsx_t (p := brkP Y S) (g := fun v => n32 (Y 3 v)) (i := i) (by simp only [brkP, innY, Bool.and_eq_true, decide_eq_true_eq]; exact ⟨q, by omega, by omega⟩)
            simp only [← (h.1.song i hi).1] at e3
            rw [e3]; exact ih
      obtain rfl | rfl : k = 0 ∨ k = 1 := by omega
      · exact zAg_q h S (xx _ ⟨fun e => absurd rfl e, fun _ => rfl⟩) (yy _ ⟨fun e => absurd rfl e, fun _ => rfl⟩)
      · exact zAg_q h _ (xx _ ⟨fun _ => ⟨_, cX_brokenBy h _, rfl⟩, fun e => absurd e (by decide)⟩) (yy _ ⟨fun _ => rfl, fun e => absurd e (by decide)⟩)
theorem ct_24 {x : Int32} (hx : ∀ k, 24 ≤ k → k < 32 → bt x k = false) : fb_ct (bt x) 32 = fb_ct (bt x) 24 := by
  rw [show (32 : Nat) = 24 + 8 from rfl, fb_ct_split, fb_ct_zero.mpr (fun k hk => hx (24 + k) (by omega) (by omega)), Nat.add_zero]
theorem ag_cutTold (h : Rel X Y) (a1 a2 a3 : Int32) : zAg mX9_cutTold mX10_cutTold 1 2 [.int a1, .int a2, .int a3] X Y := by
  have hp2 := h.1.p2; have hv := h.1.v; have hv2 := h.1.v2; have hn2 := h.1.n2
  rcases inR_cases a1 (b := nN Y) (by omega) with h1 | ⟨w, hw, rfl⟩
  · exact zAg_q h (-1) (eX9_cutTold _ X _ _ _ ⟨_, oN_o h h1, fun _ => rfl, fun e => absurd e (by decide)⟩) (eX10_cutTold _ Y _ _ _ ⟨_, yN_o h.1 h1, fun _ => rfl, fun e => absurd rfl e⟩)
  rcases inR_cases a2 (b := 2 ^ nP Y) (by have := pow_le hp2; omega) with h1 | ⟨p, hp, rfl⟩
  · exact zAg_q h (-1) (eX9_cutTold _ X _ _ _ ⟨_, oN_i h hw, fun e => absurd rfl e, fun _ => ⟨_, oQ_o h h1, fun _ => rfl, fun e => absurd e (by decide)⟩⟩) (eX10_cutTold _ Y _ _ _ ⟨_, yN_i h.1 hw, fun e => absurd e (by decide), fun _ => ⟨_, yQ_o h.1 h1, fun _ => rfl, fun e => absurd rfl e⟩⟩)
  rcases inR_cases a3 (b := 2) (by decide) with h2 | ⟨k, hk, rfl⟩
  · exact zAg_q h (-1) (eX9_cutTold _ X _ _ _ ⟨_, oN_i h hw, fun e => absurd rfl e, fun _ => ⟨_, oQ_i h hp, fun e => absurd rfl e, fun _ => ⟨_, oC_o X 2 h2 (by decide) rfl, fun e => absurd e (by decide), fun _ => rfl⟩⟩⟩) (eX10_cutTold _ Y _ _ _ ⟨_, yN_i h.1 hw, fun e => absurd e (by decide), fun _ => ⟨_, yQ_i h.1 hp, fun e => absurd e (by decide), fun _ => ⟨_, yC_o Y 2 h2 (by decide), fun e => absurd rfl e, fun _ => rfl⟩⟩⟩)
  generalize hS : bs (atP Y (nI p)) (nV Y) = S
  have hSb : ∀ j, nV Y ≤ j → j < 32 → bt S j = false := fun j a b => by rw [← hS, bt_bs _ (by omega) b]; simp; omega
  have hh : S &&& bs (hearY Y w) (nV Y) = bs (fun v => bt S v && hearY Y w v) (nV Y) := by
    apply b_ext
    intro j hj
    rw [b_and, bt_bs _ (by omega) hj, bt_bs _ (by omega) hj]
    by_cases q : j < nV Y <;> simp [q]
  have xx : ∀ v, _ → zPf SX 1 mX9_cutTold [.ref 0, .int (nI w), .int (nI p), .int (nI k)] X v := fun v q => eX9_cutTold v X _ _ _ ⟨_, oN_i h hw, fun e => absurd rfl e, fun _ => ⟨_, oQ_i h hp, fun e => absurd rfl e, fun _ => ⟨_, oC_i X 2 hk (by decide) rfl, fun _ => ⟨S, hS ▸ cX_versesAt h (nI p), _, cX_hearable h hw, q⟩, fun e => absurd rfl e⟩⟩⟩
  have yy : ∀ v, _ → zPf SY 2 mX10_cutTold [.ref 0, .int (nI w), .int (nI p), .int (nI k)] Y v := fun v q => by
    refine eX10_cutTold v Y _ _ _ ⟨_, yN_i h.1 hw, fun e => absurd e (by decide), fun _ => ⟨_, yQ_i h.1 hp, fun e => absurd e (by decide), fun _ => ⟨_, yC_i Y 2 hk (by decide) (by decide), fun _ => ⟨S, hS ▸ cY_shutBy h.1 (nI p), ?_⟩, fun e => absurd e (by decide)⟩⟩⟩
    refine zdown0 (P := fun i => LX10_cutTold_41 v Y (nI w) (nI k) S (bs (fun v => bt S v && hearY Y w v) i) (nI i)) (nV Y) ?_ ?_
    · exact bX10_cutTold_41 _ Y _ _ _ _ _ ⟨fun _ => q, fun hc => absurd (loE hv (by omega)) hc⟩
    · intro i hi ih
      rw [← nI_1] at ih
      refine bX10_cutTold_41 _ Y _ _ _ _ _ ⟨fun hc => absurd hc (loB hv hi (by omega)), fun _ => ?_⟩
      rw [zb1 (by omega)]
      refine ⟨fun e => ?_, fun e => ⟨_, cY_mayHear Y h.1 hw hi, fun e2 => ?_, fun e2 => ?_⟩⟩
      · rw [bs_f (p := fun v => bt S v && hearY Y w v) (i := i) (by simp [e])]; exact ih
      · rw [bs_f (p := fun v => bt S v && hearY Y w v) (i := i) (by simp [b2i_0.mp e2])]; exact ih
      · rw [bs_t (p := fun v => bt S v && hearY Y w v) (i := i) (by simp [e, b2i_n.mp e2])]; exact ih
  obtain rfl | rfl : k = 0 ∨ k = 1 := by omega
  · exact zAg_q h _ (xx _ ⟨fun e => absurd rfl e, fun _ => hh⟩) (yy _ ⟨fun e => absurd rfl e, fun _ => rfl⟩)
  · refine zAg_q h _ (xx _ ⟨fun _ => ⟨_, cJ_bitCount X _, ?_⟩, fun e => absurd e (by decide)⟩) (yy _ ⟨fun _ => ⟨_, cY_countOf Y _, rfl⟩, fun e => absurd e (by decide)⟩)
    rw [hh, ct_24 (fun j a b => by rw [b_and, hSb j (by omega) b, Bool.false_and])]
theorem ag_count (h : Rel X Y) (a : Int32) : zAg mX9_count mX10_count 1 0 [.int a] X Y := by
  have hn := h.1.n; have hn2 := h.1.n2
  have yy : ∀ v, _ → zPf SY 0 mX10_count [.ref 0, .int a] Y v := fun v q => by
    refine eX10_count v Y a ?_
    refine zdown0 (P := fun i => LX10_count_4 v Y a (nI (fb_ct (liveP Y) i)) (nI i)) (nN Y) ?_ ?_
    · exact bX10_count_4 _ Y _ _ _ ⟨fun _ => q, fun hc => absurd (loE hn (by omega)) hc⟩
    · intro i hi ih
      rw [← nI_1] at ih
      refine bX10_count_4 _ Y _ _ _ ⟨fun hc => absurd hc (loB hn hi (by omega)), fun _ => ⟨i, rfl, by omega, fun e => ?_, fun e => ?_⟩⟩
      · rw [ct_t (p := liveP Y) (i := i) (by simp [liveP, e])]; exact ih
      · rw [ct_f (p := liveP Y) (i := i) (by simp [liveP, e])]; exact ih
  have xx : ∀ v, _ → zPf SX 1 mX9_count [.ref 0, .int a] X v := fun v q => eX9_count v X a q
  rcases inR_cases a (b := 8) (by decide) with h2 | ⟨k, hk, rfl⟩
  · exact zAg_q h (-1) (xx _ ⟨fun e => absurd e (oor h2 (k := 0) (by decide)), fun e => absurd e (oor h2 (k := 1) (by decide)), fun e => absurd e (oor h2 (k := 2) (by decide)), fun e => absurd e (oor h2 (k := 3) (by decide)), fun e => absurd e (oor h2 (k := 4) (by decide)), fun e => absurd e (oor h2 (k := 5) (by decide)), fun e => absurd e (oor h2 (k := 6) (by decide)), fun e => absurd e (oor h2 (k := 7) (by decide)), fun _ => rfl⟩) (yy _ ⟨fun e => absurd e (oor h2 (k := 0) (by decide)), fun e => absurd e (oor h2 (k := 1) (by decide)), fun e => absurd e (oor h2 (k := 2) (by decide)), fun e => absurd e (oor h2 (k := 3) (by decide)), fun e => absurd e (oor h2 (k := 4) (by decide)), fun e => absurd e (oor h2 (k := 5) (by decide)), fun e => absurd e (oor h2 (k := 6) (by decide)), fun e => absurd e (oor h2 (k := 7) (by decide)), fun _ => rfl⟩)
  · obtain rfl | rfl | rfl | rfl | rfl | rfl | rfl | rfl : k = 0 ∨ k = 1 ∨ k = 2 ∨ k = 3 ∨ k = 4 ∨ k = 5 ∨ k = 6 ∨ k = 7 := by omega
    · exact zAg_q h (Y 0 0) (xx _ ⟨fun _ => h.2.size, fun e => absurd e (by decide), fun e => absurd e (by decide), fun e => absurd e (by decide), fun e => absurd e (by decide), fun e => absurd e (by decide), fun e => absurd e (by decide), fun e => absurd e (by decide), fun e => absurd e (by decide)⟩) (yy _ ⟨fun _ => rfl, fun e => absurd e (by decide), fun e => absurd e (by decide), fun e => absurd e (by decide), fun e => absurd e (by decide), fun e => absurd e (by decide), fun e => absurd e (by decide), fun e => absurd e (by decide), fun e => absurd e (by decide)⟩)
    · exact zAg_q h (Y 0 3) (xx _ ⟨fun e => absurd e (by decide), fun _ => h.2.vs, fun e => absurd e (by decide), fun e => absurd e (by decide), fun e => absurd e (by decide), fun e => absurd e (by decide), fun e => absurd e (by decide), fun e => absurd e (by decide), fun e => absurd e (by decide)⟩) (yy _ ⟨fun e => absurd e (by decide), fun _ => rfl, fun e => absurd e (by decide), fun e => absurd e (by decide), fun e => absurd e (by decide), fun e => absurd e (by decide), fun e => absurd e (by decide), fun e => absurd e (by decide), fun e => absurd e (by decide)⟩)
    · exact zAg_q h (Y 0 10) (xx _ ⟨fun e => absurd e (by decide), fun e => absurd e (by decide), fun _ => h.2.ns, fun e => absurd e (by decide), fun e => absurd e (by decide), fun e => absurd e (by decide), fun e => absurd e (by decide), fun e => absurd e (by decide), fun e => absurd e (by decide)⟩) (yy _ ⟨fun e => absurd e (by decide), fun e => absurd e (by decide), fun _ => rfl, fun e => absurd e (by decide), fun e => absurd e (by decide), fun e => absurd e (by decide), fun e => absurd e (by decide), fun e => absurd e (by decide), fun e => absurd e (by decide)⟩)
    · exact zAg_q h _ (xx _ ⟨fun e => absurd e (by decide), fun e => absurd e (by decide), fun e => absurd e (by decide), fun _ => ⟨_, cX_howManyLive h, rfl⟩, fun e => absurd e (by decide), fun e => absurd e (by decide), fun e => absurd e (by decide), fun e => absurd e (by decide), fun e => absurd e (by decide)⟩) (yy _ ⟨fun e => absurd e (by decide), fun e => absurd e (by decide), fun e => absurd e (by decide), fun _ => rfl, fun e => absurd e (by decide), fun e => absurd e (by decide), fun e => absurd e (by decide), fun e => absurd e (by decide), fun e => absurd e (by decide)⟩)
    · exact zAg_q h (Y 0 17) (xx _ ⟨fun e => absurd e (by decide), fun e => absurd e (by decide), fun e => absurd e (by decide), fun e => absurd e (by decide), fun _ => h.2.yr, fun e => absurd e (by decide), fun e => absurd e (by decide), fun e => absurd e (by decide), fun e => absurd e (by decide)⟩) (yy _ ⟨fun e => absurd e (by decide), fun e => absurd e (by decide), fun e => absurd e (by decide), fun e => absurd e (by decide), fun _ => rfl, fun e => absurd e (by decide), fun e => absurd e (by decide), fun e => absurd e (by decide), fun e => absurd e (by decide)⟩)
    · exact zAg_q h (Y 0 18) (xx _ ⟨fun e => absurd e (by decide), fun e => absurd e (by decide), fun e => absurd e (by decide), fun e => absurd e (by decide), fun e => absurd e (by decide), fun _ => h.2.sn, fun e => absurd e (by decide), fun e => absurd e (by decide), fun e => absurd e (by decide)⟩) (yy _ ⟨fun e => absurd e (by decide), fun e => absurd e (by decide), fun e => absurd e (by decide), fun e => absurd e (by decide), fun e => absurd e (by decide), fun _ => rfl, fun e => absurd e (by decide), fun e => absurd e (by decide), fun e => absurd e (by decide)⟩)
    · exact zAg_q h (Y 0 33) (xx _ ⟨fun e => absurd e (by decide), fun e => absurd e (by decide), fun e => absurd e (by decide), fun e => absurd e (by decide), fun e => absurd e (by decide), fun e => absurd e (by decide), fun _ => h.2.tl, fun e => absurd e (by decide), fun e => absurd e (by decide)⟩) (yy _ ⟨fun e => absurd e (by decide), fun e => absurd e (by decide), fun e => absurd e (by decide), fun e => absurd e (by decide), fun e => absurd e (by decide), fun e => absurd e (by decide), fun _ => rfl, fun e => absurd e (by decide), fun e => absurd e (by decide)⟩)
    · by_cases q : Y 25 0 = -4
      · exact zAg_q h (-4) (xx _ ⟨fun e => absurd e (by decide), fun e => absurd e (by decide), fun e => absurd e (by decide), fun e => absurd e (by decide), fun e => absurd e (by decide), fun e => absurd e (by decide), fun e => absurd e (by decide), fun _ => ⟨0, rfl, by decide, h.2.shN 0 (by decide) q⟩, fun e => absurd e (by decide)⟩) (yy _ ⟨fun e => absurd e (by decide), fun e => absurd e (by decide), fun e => absurd e (by decide), fun e => absurd e (by decide), fun e => absurd e (by decide), fun e => absurd e (by decide), fun e => absurd e (by decide), fun _ => ⟨0, rfl, by decide, fun e => absurd q e, fun _ => rfl⟩, fun e => absurd e (by decide)⟩)
      · exact zAg_q h (Y 26 0) (xx _ ⟨fun e => absurd e (by decide), fun e => absurd e (by decide), fun e => absurd e (by decide), fun e => absurd e (by decide), fun e => absurd e (by decide), fun e => absurd e (by decide), fun e => absurd e (by decide), fun _ => ⟨0, rfl, by decide, (h.2.shS 0 (by decide) q).2.1⟩, fun e => absurd e (by decide)⟩) (yy _ ⟨fun e => absurd e (by decide), fun e => absurd e (by decide), fun e => absurd e (by decide), fun e => absurd e (by decide), fun e => absurd e (by decide), fun e => absurd e (by decide), fun e => absurd e (by decide), fun _ => ⟨0, rfl, by decide, fun _ => ⟨0, rfl, by decide, rfl⟩, fun e => absurd e q⟩, fun e => absurd e (by decide)⟩)
theorem nI_beq {a b : Nat} (ha : a < 2 ^ 31) (hb : b < 2 ^ 31) : nI a = nI b ↔ a = b := nI_eq ha hb
theorem ag_can (h : Rel X Y) (a b c : Int32) : zAg mX9_can mX10_can 3 3 [.int a, .int b, .int c] X Y := by
  have hv2 := h.1.v2; have hn2 := h.1.n2
  have bad : (inR a (nN Y) && inR b (nN Y) && !(a == b) && inR c (nV Y)) = false → zPf SX 3 mX9_can [.ref 0, .int a, .int b, .int c] X (-1) := fun q => eX9_can _ X _ _ _ ⟨1, (cX_noSuchLesson h a b c).eq (by rw [q]; rfl), fun e => absurd e (by decide), fun _ => rfl⟩
  rcases inR_cases a (b := nN Y) (by omega) with h1 | ⟨w, hw, rfl⟩
  · exact zAg_q h (-1) (bad (by simp [h1])) (eX10_can _ Y _ _ _ ⟨_, yN_o h.1 h1, fun _ => rfl, fun e => absurd rfl e⟩)
  rcases inR_cases b (b := nN Y) (by omega) with h1 | ⟨u, hu, rfl⟩
  · exact zAg_q h (-1) (bad (by simp [h1])) (eX10_can _ Y _ _ _ ⟨_, yN_i h.1 hw, fun e => absurd e (by decide), fun _ => ⟨_, yN_o h.1 h1, fun _ => rfl, fun e => absurd rfl e⟩⟩)
  by_cases q : nI w = nI u
  · exact zAg_q h (-1) (bad (by simp [q])) (eX10_can _ Y _ _ _ ⟨_, yN_i h.1 hw, fun e => absurd e (by decide), fun _ => ⟨_, yN_i h.1 hu, fun e => absurd e (by decide), fun _ => ⟨fun _ => rfl, fun e => absurd q e⟩⟩⟩)
  rcases inR_cases c (b := nV Y) (by omega) with h1 | ⟨v, hv, rfl⟩
  · exact zAg_q h (-1) (bad (by simp [h1])) (eX10_can _ Y _ _ _ ⟨_, yN_i h.1 hw, fun e => absurd e (by decide), fun _ => ⟨_, yN_i h.1 hu, fun e => absurd e (by decide), fun _ => ⟨fun e => absurd e q, fun _ => ⟨_, yV_o h.1 h1, fun e => absurd rfl e, fun _ => rfl⟩⟩⟩⟩)
  have ok : (inR (nI w) (nN Y) && inR (nI u) (nN Y) && !(nI w == nI u) && inR (nI v) (nV Y)) = true := by
    rw [inR_nI hw (by omega), inR_nI hu (by omega), inR_nI hv (by omega), beqF q]; rfl
  refine zAg_q h (b2i (tellP Y w v && lrnP Y u v)) (eX9_can _ X _ _ _ ⟨0, (cX_noSuchLesson h (nI w) (nI u) (nI v)).eq (by rw [ok]; rfl), fun _ => ⟨_, cX_canTell h hw hv, fun e => ?_, fun e => ⟨_, cX_canLearn h hu hv, fun e2 => ?_, fun e2 => ?_⟩⟩, fun e => absurd rfl e⟩) (eX10_can _ Y _ _ _ ⟨_, yN_i h.1 hw, fun e => absurd e (by decide), fun _ => ⟨_, yN_i h.1 hu, fun e => absurd e (by decide), fun _ => ⟨fun e => absurd e q, fun _ => ⟨_, yV_i h.1 hv, fun _ => ⟨_, cY_canTeach h.1 hw hu hv, _, cY_flag Y _, rfl⟩, fun e => absurd e (by decide)⟩⟩⟩⟩)
  · rw [b2i_0.mp e]; rfl
  · rw [b2i_0.mp e2, Bool.and_false]; rfl
  · rw [b2i_n.mp e, b2i_n.mp e2]; rfl
end Q2
