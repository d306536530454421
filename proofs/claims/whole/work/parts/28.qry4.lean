section Q4
variable {X Y : zX}
theorem plc_eq (h : Rel X Y) {s : Nat} (hs : s < 4) : bsx (bt (X 17 s)) (fun v => n32 (Y 4 v)) (nV Y) = bsx (fun v => Y 3 v == nI s) (fun v => n32 (Y 4 v)) (nV Y) := by
  have hv2 := h.1.v2
  refine bsx_congr (fun v hv => ?_) (fun _ _ _ => rfl)
  rw [h.2.ofSong s hs, bt_bs _ (by omega) (by omega)]; simp [hv]
def crsP (Y : zX) (a b : Int32) (B : Int32) : Nat → Bool := fun v => (Y 3 v == a || Y 3 v == b) && bt B (n32 (Y 4 v))
def whoP (Y : zX) (a b : Int32) (B : Int32) : Nat → Bool := fun w => anyB (fun v => crsP Y a b B v && singY Y w v) (nV Y)
theorem bsx_0 (p : Nat → Bool) (g : Nat → Nat) : bsx p g 0 = 0 := rfl
theorem ag_cross (h : Rel X Y) (a1 a2 a3 : Int32) : zAg mX9_cross mX10_cross 2 2 [.int a1, .int a2, .int a3] X Y := by
  have hv := h.1.v; have hv2 := h.1.v2; have hn := h.1.n; have hn2 := h.1.n2; have hp2 := h.1.p2
  rcases inR_cases a1 (b := 4) (by decide) with h1 | ⟨a, ha, rfl⟩
  · exact zAg_q h (-1) (eX9_cross _ X _ _ _ ⟨_, oC_o X 4 h1 (by decide) rfl, fun _ => rfl, fun e => absurd e (by decide)⟩) (eX10_cross _ Y _ _ _ ⟨_, yG_o Y h1, fun _ => rfl, fun e => absurd rfl e⟩)
  rcases inR_cases a2 (b := 4) (by decide) with h1 | ⟨b, hb, rfl⟩
  · exact zAg_q h (-1) (eX9_cross _ X _ _ _ ⟨_, oC_i X 4 ha (by decide) rfl, fun e => absurd rfl e, fun _ => ⟨_, oC_o X 4 h1 (by decide) rfl, fun _ => rfl, fun e => absurd e (by decide)⟩⟩) (eX10_cross _ Y _ _ _ ⟨_, yG_i Y ha, fun e => absurd e (by decide), fun _ => ⟨_, yG_o Y h1, fun _ => rfl, fun e => absurd rfl e⟩⟩)
  by_cases q : nI a = nI b
  · exact zAg_q h (-1) (eX9_cross _ X _ _ _ ⟨_, oC_i X 4 ha (by decide) rfl, fun e => absurd rfl e, fun _ => ⟨_, oC_i X 4 hb (by decide) rfl, fun e => absurd rfl e, fun _ => ⟨fun _ => rfl, fun e => absurd q e⟩⟩⟩) (eX10_cross _ Y _ _ _ ⟨_, yG_i Y ha, fun e => absurd e (by decide), fun _ => ⟨_, yG_i Y hb, fun e => absurd e (by decide), fun _ => ⟨fun _ => rfl, fun e => absurd q e⟩⟩⟩)
  rcases inR_cases a3 (b := 2) (by decide) with h1 | ⟨k, hk, rfl⟩
  · exact zAg_q h (-1) (eX9_cross _ X _ _ _ ⟨_, oC_i X 4 ha (by decide) rfl, fun e => absurd rfl e, fun _ => ⟨_, oC_i X 4 hb (by decide) rfl, fun e => absurd rfl e, fun _ => ⟨fun e => absurd e q, fun _ => ⟨_, oC_o X 2 h1 (by decide) rfl, fun e => absurd e (by decide), fun _ => rfl⟩⟩⟩⟩) (eX10_cross _ Y _ _ _ ⟨_, yG_i Y ha, fun e => absurd e (by decide), fun _ => ⟨_, yG_i Y hb, fun e => absurd e (by decide), fun _ => ⟨fun e => absurd e q, fun _ => ⟨_, yC_o Y 2 h1 (by decide), fun e => absurd rfl e, fun _ => rfl⟩⟩⟩⟩)
  generalize hO : bsx (fun v => Y 3 v == nI a) (fun v => n32 (Y 4 v)) (nV Y) = O1
  generalize hO2 : bsx (fun v => Y 3 v == nI b) (fun v => n32 (Y 4 v)) (nV Y) = O2
  have xx : ∀ v, _ → zPf SX 2 mX9_cross [.ref 0, .int (nI a), .int (nI b), .int (nI k)] X v := fun v q2 => eX9_cross v X _ _ _ ⟨_, oC_i X 4 ha (by decide) rfl, fun e => absurd rfl e, fun _ => ⟨_, oC_i X 4 hb (by decide) rfl, fun e => absurd rfl e, fun _ => ⟨fun e => absurd e q, fun _ => ⟨_, oC_i X 2 hk (by decide) rfl, fun _ => ⟨a, rfl, ha, b, rfl, hb, O1, (cX_placesOf h _).eq ((plc_eq h ha).trans hO), O2, (cX_placesOf h _).eq ((plc_eq h hb).trans hO2), q2⟩, fun e => absurd rfl e⟩⟩⟩⟩
  have yy : ∀ v, LX10_cross_126 v Y (nI a) (nI b) (nI k) (O1 &&& O2) 0 0 → zPf SY 2 mX10_cross [.ref 0, .int (nI a), .int (nI b), .int (nI k)] Y v := fun v q2 => by
    refine eX10_cross v Y _ _ _ ⟨_, yG_i Y ha, fun e => absurd e (by decide), fun _ => ⟨_, yG_i Y hb, fun e => absurd e (by decide), fun _ => ⟨fun e => absurd e q, fun _ => ⟨_, yC_i Y 2 hk (by decide) (by decide), fun _ => ?_, fun e => absurd e (by decide)⟩⟩⟩⟩
    refine zdown0 (P := fun i => LX10_cross_40 v Y (nI a) (nI b) (nI k) (bsx (fun v => Y 3 v == nI a) (fun v => n32 (Y 4 v)) i) (bsx (fun v => Y 3 v == nI b) (fun v => n32 (Y 4 v)) i) (nI i)) (nV Y) ?_ ?_
    · refine bX10_cross_40 _ Y _ _ _ _ _ _ ⟨fun _ => ?_, fun hc => absurd (loE hv (by omega)) hc⟩
      rw [hO, hO2]; exact q2
    · intro i hi ih
      rw [← nI_1 i] at ih
      have tt : ∀ s : Nat, Y 3 i = nI s → bsx (fun v => Y 3 v == nI s) (fun v => n32 (Y 4 v)) i ||| zshl 1 (Y 4 i) = bsx (fun v => Y 3 v == nI s) (fun v => n32 (Y 4 v)) (i + 1) := fun s e => by
        have e3 := bsx_t (p := fun v => Y 3 v == nI s) (g := fun v => n32 (Y 4 v)) (i := i) (beqT e)
        simp only [← (h.1.at_ i hi).1] at e3; exact e3
      have ff : ∀ s : Nat, ¬ Y 3 i = nI s → bsx (fun v => Y 3 v == nI s) (fun v => n32 (Y 4 v)) i ||| 0 = bsx (fun v => Y 3 v == nI s) (fun v => n32 (Y 4 v)) (i + 1) := fun s e => bsx_f (p := fun v => Y 3 v == nI s) (beqF e)
      refine bX10_cross_40 _ Y _ _ _ _ _ _ ⟨fun hc => absurd hc (loB hv hi (by omega)), fun _ => ⟨i, rfl, by omega, fun e => ⟨i, rfl, by omega, fun e2 => ?_, fun e2 => ⟨i, rfl, by omega, ?_⟩⟩, fun e => ⟨i, rfl, by omega, i, rfl, by omega, fun e2 => ?_, fun e2 => ⟨i, rfl, by omega, ?_⟩⟩⟩⟩
      · rw [ff a e, ff b e2]; exact ih
      · rw [ff a e, tt b e2]; exact ih
      · rw [tt a e, ff b e2]; exact ih
      · rw [tt a e, tt b e2]; exact ih
  generalize hB : O1 &&& O2 = B at xx yy
  have y2 : ∀ v, (((¬ nI k = 0) → (bs (whoP Y (nI a) (nI b) B) (nN Y) = v)) ∧ ((nI k = 0) → (B = v))) → LX10_cross_126 v Y (nI a) (nI b) (nI k) B 0 0 := fun v q2 => by
    refine zdown0 (P := fun w => LX10_cross_126 v Y (nI a) (nI b) (nI k) B (bs (whoP Y (nI a) (nI b) B) w) (nI w)) (nN Y) ?_ ?_
    · exact bX10_cross_126 _ Y _ _ _ _ _ _ ⟨fun _ => q2, fun hc => absurd (loE hn (by omega)) hc⟩
    · intro w hw ih
      rw [← nI_1 w] at ih
      refine bX10_cross_126 _ Y _ _ _ _ _ _ ⟨fun hc => absurd hc (loB hn hw (by omega)), fun _ => ?_⟩
      have inner : ∀ j, j ≤ nV Y → LX10_cross_138 v Y (nI a) (nI b) (nI k) B (bs (whoP Y (nI a) (nI b) B) w ||| (if anyB (fun v => crsP Y (nI a) (nI b) B v && singY Y w v) j then zshl 1 (nI w) else 0)) (nI w) (nI j) := by
        refine zdown ?_ ?_
        · refine bX10_cross_138 _ Y _ _ _ _ _ _ _ ⟨fun _ => ?_, fun hc => absurd (loE hv (by omega)) hc⟩
          rw [bs_succ] at ih; exact ih
        · intro j hj ih2
          rw [← nI_1 j] at ih2
          generalize bs (whoP Y (nI a) (nI b) B) w = A at ih2 ⊢
          have sj : anyB (fun v => crsP Y (nI a) (nI b) B v && singY Y w v) (j + 1) = (anyB (fun v => crsP Y (nI a) (nI b) B v && singY Y w v) j || (crsP Y (nI a) (nI b) B j && singY Y w j)) := rfl
          have ef : (crsP Y (nI a) (nI b) B j && singY Y w j) = false → LX10_cross_138 v Y (nI a) (nI b) (nI k) B (A ||| (if anyB (fun v => crsP Y (nI a) (nI b) B v && singY Y w v) j then zshl 1 (nI w) else 0) ||| 0) (nI w) (nI j + 1) := fun z => by
            rw [sj, z, Bool.or_false] at ih2; rw [or0]; exact ih2
          have et : (crsP Y (nI a) (nI b) B j && singY Y w j) = true → LX10_cross_138 v Y (nI a) (nI b) (nI k) B (A ||| (if anyB (fun v => crsP Y (nI a) (nI b) B v && singY Y w v) j then zshl 1 (nI w) else 0) ||| zshl 1 (nI w)) (nI w) (nI j + 1) := fun z => by
            rw [sj, z, Bool.or_true, if_pos rfl] at ih2
            have e4 : A ||| (if anyB (fun v => crsP Y (nI a) (nI b) B v && singY Y w v) j then zshl 1 (nI w) else 0) ||| zshl 1 (nI w) = A ||| zshl 1 (nI w) := by
              apply b_ext; intro i _; rw [b_or, b_or, b_or]
              cases anyB (fun v => crsP Y (nI a) (nI b) B v && singY Y w v) j
              · simp [b_0]
              · simp
            rw [e4]; exact ih2
          have hz := zb1N (x := B) (h.1.at_ j hj) (by omega)
          refine bX10_cross_138 _ Y _ _ _ _ _ _ _ ⟨fun hc => absurd hc (loB hv hj (by omega)), fun _ => ⟨j, rfl, by omega, fun e => ⟨j, rfl, by omega, fun e2 => ef ?_, fun e2 => ⟨_, cY_maySing Y h.1 hw hj, fun e3 => ef ?_, fun e3 => et ?_⟩⟩, fun e => ⟨j, rfl, by omega, fun e1 => ef ?_, fun e1 => ⟨j, rfl, by omega, fun e2 => ef ?_, fun e2 => ⟨_, cY_maySing Y h.1 hw hj, fun e3 => ef ?_, fun e3 => et ?_⟩⟩⟩⟩⟩
          · rw [hz] at e2; simp [crsP, e2]
          · rw [b2i_0.mp e3, Bool.and_false]
          · rw [hz] at e2; rw [b2i_n.mp e3]; simp [crsP, e, e2]
          · simp [crsP, e, e1]
          · rw [hz] at e2; simp [crsP, e2]
          · rw [b2i_0.mp e3, Bool.and_false]
          · rw [hz] at e2; rw [b2i_n.mp e3]; simp [crsP, e1, e2]
      have := inner 0 (Nat.zero_le _)
      rw [show anyB (fun v => crsP Y (nI a) (nI b) B v && singY Y w v) 0 = false from rfl, if_neg (by decide), or0] at this
      exact this
  obtain rfl | rfl : k = 0 ∨ k = 1 := by omega
  · exact zAg_q h B (xx _ ⟨fun e => absurd rfl e, fun _ => rfl⟩) (yy _ (y2 _ ⟨fun e => absurd rfl e, fun _ => rfl⟩))
  · refine zAg_q h _ (xx _ ⟨fun _ => ⟨_, cX_versesAt h _, ?_⟩, fun e => absurd e (by decide)⟩) (yy _ (y2 _ ⟨fun _ => rfl, fun e => absurd e (by decide)⟩))
    have hnx := h.2.ns.trans hn
    generalize hVv : bs (atP Y B) (nV Y) &&& (X 17 a ||| X 17 b) = VV
    have bV : ∀ j, j < nV Y → bt VV j = crsP Y (nI a) (nI b) B j := fun j hj => by
      rw [← hVv, b_and, b_or, h.2.ofSong a ha, h.2.ofSong b hb, bt_bs _ (by omega) (by omega), bt_bs _ (by omega) (by omega), bt_bs _ (by omega) (by omega)]
      simp only [hj, decide_true, Bool.true_and, crsP, atP]
      exact Bool.and_comm _ _
    have nz : ∀ w, (bs (singY Y w) (nV Y) &&& VV) = 0 ↔ whoP Y (nI a) (nI b) B w = false := fun w => by
      constructor
      · intro e
        cases z : whoP Y (nI a) (nI b) B w with
        | false => rfl
        | true =>
          obtain ⟨j, hj, c⟩ := anyB_iff.mp z
          rw [Bool.and_eq_true] at c
          have := congrArg (fun z => bt z j) e
          simp only [b_and, b_0, bV j hj, c.1, bt_bs (singY Y w) (show nV Y ≤ 32 by omega) (show j < 32 by omega), hj, c.2, decide_true] at this
          cases this
      · intro e
        apply b_ext
        intro j hj
        rw [b_and, b_0, bt_bs _ (by omega) hj]
        by_cases z : j < nV Y
        · rw [bV j z]
          cases c : singY Y w j && crsP Y (nI a) (nI b) B j with
          | false => simp only [z, decide_true, Bool.true_and]; exact c
          | true =>
            rw [Bool.and_eq_true] at c
            have : whoP Y (nI a) (nI b) B w = true := anyB_iff.mpr ⟨j, z, by rw [c.1, c.2]; rfl⟩
            rw [this] at e; cases e
        · simp [z]
    refine zdown0 (P := fun i => LX9_cross_104 _ X VV (bs (whoP Y (nI a) (nI b) B) i) (nI i)) (nN Y) ?_ ?_
    · exact bX9_cross_104 _ X _ _ _ ⟨fun _ => rfl, fun hc => absurd (loE hnx (by omega)) hc⟩
    · intro i hi ih
      rw [← nI_1 i] at ih
      refine bX9_cross_104 _ X _ _ _ ⟨fun hc => absurd hc (loB hnx hi (by omega)), fun _ => ⟨_, cX_singable h hi, fun e => ?_, fun e => ?_⟩⟩
      · rw [bs_f2 ((nz i).mp e)] at ih; exact ih
      · rw [bs_t (p := whoP Y (nI a) (nI b) B) (i := i)]
        · exact ih
        · cases z : whoP Y (nI a) (nI b) B i with
          | true => rfl
          | false => exact absurd ((nz i).mpr z) e
theorem ct_cut {p : Nat → Bool} {n : Nat} (hn : n ≤ 32) (hp : ∀ k, n ≤ k → k < 32 → p k = false) : fb_ct p 32 = fb_ct p n := by
  have e := fb_ct_split p n (32 - n)
  rw [show n + (32 - n) = 32 by omega, fb_ct_zero (p := fun k => p (n + k)).mpr (fun k hk => hp (n + k) (by omega) (by omega)), Nat.add_zero] at e
  exact e
theorem zmin_le {a b : Nat} (ha : a < 2 ^ 31) (hb : b < 2 ^ 31) : zmin (nI a) (nI b) = nI (if b < a then b else a) := by
  unfold zmin
  by_cases q : b < a
  · rw [if_pos (nI_lt q (by omega)), if_pos q]
  · rw [if_neg (nI_nlt (by omega) hb), if_neg q]
theorem lone_eq {w v : Nat} (hw : w < nN Y) : anyB (fun u => !(u == w) && (tellP Y w v && lrnP Y u v)) (nN Y) = (tellP Y w v && anyB (fun u => lrnP Y u v) (nN Y)) := by
  rw [Bool.eq_iff_iff, anyB_iff, Bool.and_eq_true, anyB_iff]
  constructor
  · rintro ⟨u, hu, q⟩
    simp only [Bool.and_eq_true] at q
    exact ⟨q.2.1, u, hu, q.2.2⟩
  · rintro ⟨t, u, hu, q⟩
    refine ⟨u, hu, ?_⟩
    have : ¬ u = w := by
      intro e
      subst e
      simp only [tellP, singY, lrnP, Bool.and_eq_true, Bool.not_eq_true'] at t q
      rw [q.1.2] at t
      exact absurd t.1.1.1.1.2 (by decide)
    simp [this, t, q]
theorem loneP_eq {w v : Nat} (hw : w < nN Y) : loneP Y w v = (decide (headsY Y v = 1) && anyB (fun u => !(u == w) && (tellP Y w v && lrnP Y u v)) (nN Y)) := by
  rw [lone_eq hw]; unfold loneP; rw [Bool.and_assoc]
def keepS (Y : zX) (y : Nat) : Nat → Nat
  | 0 => 0
  | w + 1 => keepS Y y w + (if fb_ct (loneP Y w) (nV Y) < y then fb_ct (loneP Y w) (nV Y) else y)
theorem ag_keep (h : Rel X Y) (a : Int32) : zAg mX9_keep mX10_keep 4 3 [.int a] X Y := by
  have hv := h.1.v; have hv2 := h.1.v2; have hn := h.1.n; have hn2 := h.1.n2; have hnx := h.2.ns.trans hn
  have d1 : a < 1 ↔ a.toInt < 1 := fa_lt a 1
  have d2 : a ≤ 9 ↔ a.toInt ≤ 9 := fa_le a 9
  by_cases q : 1 ≤ a.toInt ∧ a.toInt ≤ 9
  · obtain ⟨y, hy⟩ : ∃ m : Nat, a.toInt = (m : Int) := ⟨a.toInt.toNat, by omega⟩
    obtain rfl := nI_toIntL hy
    refine zAg_q h (nI (keepS Y y (nN Y))) (eX9_keep _ X _ (by
      rw [d1, d2]
      refine ⟨fun e => by omega, fun _ => ⟨fun _ => ?_, fun e => by omega⟩⟩
      refine zdown0 (P := fun i => LX9_keep_17 _ X (nI y) (nI (keepS Y y i)) (nI i)) (nN Y) ?_ ?_
      · exact bX9_keep_17 _ X _ _ _ ⟨fun _ => rfl, fun hc => absurd (loE hnx (by omega)) hc⟩
      · intro i hi ih
        rw [← nI_1 i] at ih
        have hc := fb_ct_le (loneP Y i) (nV Y)
        refine bX9_keep_17 _ X _ _ _ ⟨fun hc => absurd hc (loB hnx hi (by omega)), fun _ => ⟨_, cX_lone h hi, ?_⟩⟩
        rw [zmin_le (by omega) (by omega), nI_add]; exact ih)) (eX10_keep _ Y _ ⟨_, yI_i Y (l := 1) (r := 9) (by decide) (by decide) q, fun _ => ?_, fun e => absurd e (by decide)⟩)
    refine zdown0 (P := fun i => LX10_keep_18 _ Y (nI y) (nI (keepS Y y i)) (nI i)) (nN Y) ?_ ?_
    · exact bX10_keep_18 _ Y _ _ _ ⟨fun _ => rfl, fun hc => absurd (loE hn (by omega)) hc⟩
    · intro w hw ih
      rw [← nI_1 w] at ih
      generalize nI (keepS Y y (nN Y)) = V at ih ⊢
      refine bX10_keep_18 _ Y _ _ _ ⟨fun hc => absurd hc (loB hn hw (by omega)), fun _ => ?_⟩
      refine zdown0 (P := fun j => LX10_keep_32 V Y (nI y) (nI (keepS Y y w)) (nI w) (nI (fb_ct (loneP Y w) j)) (nI j)) (nV Y) ?_ ?_
      · have hc := fb_ct_le (loneP Y w) (nV Y)
        refine bX10_keep_32 _ Y _ _ _ _ _ ⟨fun _ => ?_, fun hc => absurd (loE hv (by omega)) hc⟩
        rw [nI_leI (by omega) (by omega), nI_add, nI_add]
        refine ⟨fun e => ?_, fun e => ?_⟩
        · have : keepS Y y (w + 1) = keepS Y y w + y := by show _ + _ = _; rw [if_neg (by omega)]
          rw [this] at ih; exact ih
        · have : keepS Y y (w + 1) = keepS Y y w + fb_ct (loneP Y w) (nV Y) := by show _ + _ = _; rw [if_pos (by omega)]
          rw [this] at ih; exact ih
      · intro j hj ih2
        rw [← nI_1 j] at ih2
        refine bX10_keep_32 _ Y _ _ _ _ _ ⟨fun hc => absurd hc (loB hv hj (by omega)), fun _ => ?_⟩
        refine zdown0 (P := fun u => LX10_keep_47 V Y (nI y) (nI (keepS Y y w)) (nI w) (nI (fb_ct (loneP Y w) j)) (nI j) (b2i (anyB (fun u => !(u == w) && (tellP Y w j && lrnP Y u j)) u)) (nI u)) (nN Y) ?_ ?_
        · refine bX10_keep_47 _ Y _ _ _ _ _ _ _ ⟨fun _ => ⟨_, cY_headsOf Y h.1 (by omega), ?_⟩, fun hc => absurd (loE hn (by omega)) hc⟩
          rw [heads1 h.1]
          refine ⟨fun e => ?_, fun e => ⟨fun e2 => ?_, fun e2 => ?_⟩⟩
          · rw [ct_f (p := loneP Y w) (i := j) (by simp [loneP, e])]; exact ih2
          · rw [ct_f (p := loneP Y w) (i := j) (by rw [loneP_eq hw, b2i_0.mp e2, Bool.and_false])]; exact ih2
          · rw [ct_t (p := loneP Y w) (i := j) (by rw [loneP_eq hw, b2i_n.mp e2]; simp [e])]; exact ih2
        · intro u hu ih3
          rw [← nI_1 u] at ih3
          have sj : anyB (fun u => !(u == w) && (tellP Y w j && lrnP Y u j)) (u + 1) = (anyB (fun u => !(u == w) && (tellP Y w j && lrnP Y u j)) u || (!(u == w) && (tellP Y w j && lrnP Y u j))) := rfl
          rw [sj] at ih3
          refine bX10_keep_47 _ Y _ _ _ _ _ _ _ ⟨fun hc => absurd hc (loB hn hu (by omega)), fun _ => ?_⟩
          rw [nI_eq (by omega) (by omega)]
          refine ⟨fun e => ?_, fun e => ⟨fun e2 => ?_, fun e2 => ⟨_, cY_canTeach h.1 hw hu hj, fun e3 => ?_, fun e3 => ?_⟩⟩⟩
          · rw [b2i_n.mp e, Bool.true_or] at ih3; exact ih3
          · rw [b2i_0.mp e, e2] at ih3
            simp only [beq_self_eq_true, Bool.not_true, Bool.false_and, Bool.or_false] at ih3
            rw [e2]; exact ih3
          · rw [b2i_0.mp e, b2i_0.mp e3] at ih3
            simp only [Bool.and_false, Bool.or_false] at ih3
            exact ih3
          · rw [b2i_0.mp e, b2i_n.mp e3] at ih3
            have : (!(u == w)) = true := by simp [e2]
            rw [this] at ih3
            exact ih3
  · exact zAg_q h (-1) (eX9_keep _ X _ (by
      rw [d1, d2]
      exact ⟨fun _ => rfl, fun e => ⟨fun e2 => absurd (by omega) q, fun _ => rfl⟩⟩)) (eX10_keep _ Y _ ⟨_, yI_o Y (l := 1) (r := 9) (by decide) (by decide) q, fun e => absurd rfl e, fun _ => rfl⟩)
/-- the rarest verse below i, and how few have it -/
def rnI (Y : zX) : Nat → Int32 × Int32
  | 0 => (-4, -4)
  | i + 1 => if (rnI Y i).1 = -4 ∨ nI (headsY Y i) < (rnI Y i).2 then (nI i, nI (headsY Y i)) else rnI Y i
theorem rnI_ne (h : IY Y) : ∀ i, i ≤ 24 → ((rnI Y i).1 = -4 ↔ (rnI Y i).2 = -4)
  | 0, _ => ⟨fun _ => rfl, fun _ => rfl⟩
  | i + 1, hi => by
    show ((if _ then _ else _ : Int32 × Int32).1 = -4 ↔ (if _ then _ else _ : Int32 × Int32).2 = -4)
    have := headsY_le h i
    split
    · exact ⟨fun e => absurd e (neg4_ne i (by omega)), fun e => absurd e (neg4_ne _ (by omega))⟩
    · exact rnI_ne h i (by omega)
theorem ag_soon (h : Rel X Y) (a : Int32) : zAg mX9_soon mX10_soon 1 2 [.int a] X Y := by
  have hv := h.1.v; have hv2 := h.1.v2; have hvx := h.2.vs.trans hv
  rcases inR_cases a (b := 3) (by decide) with h1 | ⟨k, hk, rfl⟩
  · exact zAg_q h (-1) (eX9_soon _ X _ ⟨_, oC_o X 3 h1 (by decide) rfl, fun e => absurd e (by decide), fun _ => rfl⟩) (eX10_soon _ Y _ ⟨_, yC_o Y 3 h1 (by decide), fun e => absurd rfl e, fun _ => rfl⟩)
  have h0 : ∀ v, nI (headsY Y v) = 0 ↔ headsY Y v = 0 := fun v => by
    have := headsY_le h.1 v
    exact nI_eq (b := 0) (by omega) (by omega)
  have yy : ∀ v, (((¬ nI k = 0) → (((¬ nI k = 1) → (nI (fb_ct (fun v => decide (headsY Y v = 0)) (nV Y)) = v)) ∧ ((nI k = 1) → ((rnI Y (nV Y)).2 = v)))) ∧ ((nI k = 0) → ((rnI Y (nV Y)).1 = v))) → zPf SY 2 mX10_soon [.ref 0, .int (nI k)] Y v := fun v q => by
    refine eX10_soon v Y _ ⟨_, yC_i Y 3 hk (by decide) (by decide), fun _ => ?_, fun e => absurd e (by decide)⟩
    refine zdown0 (P := fun i => LX10_soon_26 v Y (nI k) (rnI Y i).1 (rnI Y i).2 (nI (fb_ct (fun v => decide (headsY Y v = 0)) i)) (nI i)) (nV Y) ?_ ?_
    · exact bX10_soon_26 _ Y _ _ _ _ _ ⟨fun _ => q, fun hc => absurd (loE hv (by omega)) hc⟩
    · intro i hi ih
      rw [← nI_1 i] at ih
      have hne := rnI_ne h.1 i (by omega)
      have sr : rnI Y (i + 1) = if (rnI Y i).1 = -4 ∨ nI (headsY Y i) < (rnI Y i).2 then (nI i, nI (headsY Y i)) else rnI Y i := rfl
      have cz : ∀ x2 x3, x2 = (rnI Y (i + 1)).1 → x3 = (rnI Y (i + 1)).2 → (((¬ nI (headsY Y i) = 0) → (LX10_soon_26 v Y (nI k) x2 x3 (nI (fb_ct (fun v => decide (headsY Y v = 0)) i) + 0) (nI i + 1))) ∧ ((nI (headsY Y i) = 0) → (LX10_soon_26 v Y (nI k) x2 x3 (nI (fb_ct (fun v => decide (headsY Y v = 0)) i) + 1) (nI i + 1)))) := by
        intro x2 x3 e2 e3
        rw [h0, e2, e3]
        refine ⟨fun e => ?_, fun e => ?_⟩
        · rw [ct_f (p := fun v => decide (headsY Y v = 0)) (i := i) (by simp [e])]; exact ih
        · rw [ct_t (p := fun v => decide (headsY Y v = 0)) (i := i) (by simp [e])]; exact ih
      rw [sr] at cz
      refine bX10_soon_26 _ Y _ _ _ _ _ ⟨fun hc => absurd hc (loB hv hi (by omega)), fun _ => ⟨_, cY_headsOf Y h.1 (by omega), fun e => ⟨fun e2 => ?_, fun e2 => absurd (hne.mp e) e2⟩, fun e => ⟨fun e2 => ⟨fun e3 => absurd (hne.mpr e3) e, fun e3 => ?_⟩, fun e2 => ⟨fun e3 => absurd (hne.mpr e3) e, fun e3 => ?_⟩⟩⟩⟩
      · rw [if_pos (Or.inl e)] at cz; exact cz _ _ rfl rfl
      · rw [if_neg (by rintro (z | z); exact e z; exact absurd e2 (by rw [fa_lt] at z; rw [fa_le]; omega))] at cz; exact cz _ _ rfl rfl
      · rw [if_pos (Or.inr (by rw [fa_le] at e2; rw [fa_lt]; omega))] at cz; exact cz _ _ rfl rfl
  have xx : ∀ v, ¬ nI k = 2 → (((¬ nI k = 0) → ((rnI Y (nV Y)).2 = v)) ∧ ((nI k = 0) → ((rnI Y (nV Y)).1 = v))) → zPf SX 1 mX9_soon [.ref 0, .int (nI k)] X v := fun v k2 q => by
    refine eX9_soon v X _ ⟨_, oC_i X 3 hk (by decide) rfl, fun _ => ⟨fun _ => ?_, fun e => absurd e k2⟩, fun e => absurd rfl e⟩
    refine zdown0 (P := fun i => LX9_soon_43 v X (nI k) (rnI Y i).1 (rnI Y i).2 (nI i)) (nV Y) ?_ ?_
    · exact bX9_soon_43 _ X _ _ _ _ ⟨fun _ => q, fun hc => absurd (loE hvx (by omega)) hc⟩
    · intro i hi ih
      rw [← nI_1 i] at ih
      have sr : rnI Y (i + 1) = if (rnI Y i).1 = -4 ∨ nI (headsY Y i) < (rnI Y i).2 then (nI i, nI (headsY Y i)) else rnI Y i := rfl
      rw [sr] at ih
      refine bX9_soon_43 _ X _ _ _ _ ⟨fun hc => absurd hc (loB hvx hi (by omega)), fun _ => ⟨_, cX_heads h (by omega), fun e => ?_, fun e => ⟨fun e2 => ?_, fun e2 => ?_⟩⟩⟩
      · rw [if_pos (Or.inl e)] at ih; exact ih
      · rw [if_neg (by rintro (z | z); exact e z; exact absurd e2 (by rw [fa_lt] at z; rw [fa_le]; omega))] at ih; exact ih
      · rw [if_pos (Or.inr (by rw [fa_le] at e2; rw [fa_lt]; omega))] at ih; exact ih
  obtain rfl | rfl | rfl : k = 0 ∨ k = 1 ∨ k = 2 := by omega
  · exact zAg_q h _ (xx _ (by decide) ⟨fun e => absurd rfl e, fun _ => rfl⟩) (yy _ ⟨fun e => absurd rfl e, fun _ => rfl⟩)
  · exact zAg_q h _ (xx _ (by decide) ⟨fun _ => rfl, fun e => absurd e (by decide)⟩) (yy _ ⟨fun _ => ⟨fun e => absurd rfl e, fun _ => rfl⟩, fun e => absurd e (by decide)⟩)
  · refine zAg_q h _ (eX9_soon _ X _ ⟨_, oC_i X 3 hk (by decide) rfl, fun _ => ⟨fun e => absurd rfl e, fun _ => ⟨_, cX_hadByLiving h, _, cJ_bitCount X _, ?_⟩⟩, fun e => absurd rfl e⟩) (yy _ ⟨fun _ => ⟨fun _ => rfl, fun e => absurd e (by decide)⟩, fun e => absurd e (by decide)⟩)
    have bb : ∀ v, bt (byLiv Y) v = anyB (headP Y v) (nN Y) := fun v => by
      unfold byLiv
      rw [bt_orx]; rfl
    have hz : ∀ v, decide (headsY Y v = 0) = !bt (byLiv Y) v := fun v => by
      rw [bb]
      by_cases z : headsY Y v = 0
      · have z2 := fb_ct_zero.mp z
        rw [decide_eq_true z]
        cases e : anyB (headP Y v) (nN Y) with
        | false => rfl
        | true => obtain ⟨w, hw, c⟩ := anyB_iff.mp e; rw [z2 w hw] at c; cases c
      · have z2 := fb_ct_pos.mp (Nat.pos_of_ne_zero z)
        rw [decide_eq_false z, anyB_iff.mpr z2]; rfl
    have c32 : fb_ct (bt (byLiv Y)) 32 = fb_ct (bt (byLiv Y)) (nV Y) := by
      refine ct_cut (by omega) (fun k hk _ => ?_)
      rw [bb]
      cases e : anyB (headP Y k) (nN Y) with
      | false => rfl
      | true =>
        obtain ⟨w, hw, c⟩ := anyB_iff.mp e
        simp only [headP, h.1.had w _ hw hk, Bool.and_false] at c
        cases c
    have := fb_ct_not (bt (byLiv Y)) (nV Y)
    rw [hvx, c32, fb_ct_cong (p := fun v => decide (headsY Y v = 0)) (q := fun v => !bt (byLiv Y) v) (fun v _ => hz v), pk_sub (by omega)]
    congr 1
    omega
/-- the first with p below i, counted upwards -/
def fst0 (p : Nat → Bool) : Nat → Int32
  | 0 => -4
  | i + 1 => if fst0 p i = -4 ∧ p i = true then nI i else fst0 p i
theorem fst0_eq (p : Nat → Bool) : ∀ (d i : Nat), i + d < 2 ^ 31 → fst0 p (i + d) = if fst0 p i = -4 then fstF p d i else fst0 p i
  | 0, i, _ => by
    show fst0 p i = if fst0 p i = -4 then -4 else fst0 p i
    split
    · assumption
    · rfl
  | d + 1, i, hb => by
    rw [show i + (d + 1) = (i + 1) + d by omega, fst0_eq p d (i + 1) (by omega)]
    show (if (if fst0 p i = -4 ∧ p i = true then nI i else fst0 p i) = -4 then fstF p d (i + 1) else (if fst0 p i = -4 ∧ p i = true then nI i else fst0 p i)) = if fst0 p i = -4 then (if p i then nI i else fstF p d (i + 1)) else fst0 p i
    by_cases e : fst0 p i = -4
    · by_cases e2 : p i = true
      · simp [e, e2, neg4_ne i (by omega)]
      · simp [e, e2]
    · simp [e]
def hrsP (Y : zX) (w s : Nat) : Nat → Bool := fun v => Y 3 v == nI s && hearY Y w v
def othP (Y : zX) (w s : Nat) : Nat → Bool := fun v => Y 3 v == nI s && !hearY Y w v
def fstP (Y : zX) (w s : Nat) : Nat → Bool := fun v => hrsP Y w s v && !bt (Y 12 w) (n32 (Y 5 v))
theorem ag_asks (h : Rel X Y) (a1 a2 a3 : Int32) : zAg mX9_asks mX10_asks 1 2 [.int a1, .int a2, .int a3] X Y := by
  have hv := h.1.v; have hv2 := h.1.v2; have hn2 := h.1.n2
  rcases inR_cases a1 (b := nN Y) (by omega) with h1 | ⟨w, hw, rfl⟩
  · exact zAg_q h (-1) (eX9_asks _ X _ _ _ ⟨_, oN_o h h1, fun _ => rfl, fun e => absurd e (by decide)⟩) (eX10_asks _ Y _ _ _ ⟨_, yN_o h.1 h1, fun _ => rfl, fun e => absurd rfl e⟩)
  rcases inR_cases a2 (b := 4) (by decide) with h1 | ⟨s, hs, rfl⟩
  · exact zAg_q h (-1) (eX9_asks _ X _ _ _ ⟨_, oN_i h hw, fun e => absurd rfl e, fun _ => ⟨_, oC_o X 4 h1 (by decide) rfl, fun e => absurd e (by decide), fun _ => rfl⟩⟩) (eX10_asks _ Y _ _ _ ⟨_, yN_i h.1 hw, fun e => absurd e (by decide), fun _ => ⟨_, yG_o Y h1, fun _ => rfl, fun e => absurd rfl e⟩⟩)
  have hh : X 17 s &&& bs (hearY Y w) (nV Y) = bs (hrsP Y w s) (nV Y) := by
    apply b_ext
    intro j hj
    rw [b_and, h.2.ofSong s hs, bt_bs _ (by omega) hj, bt_bs _ (by omega) hj, bt_bs _ (by omega) hj]
    by_cases q : j < nV Y <;> simp [q, hrsP]
  have bh : ∀ j, j < nV Y → bt (bs (hrsP Y w s) (nV Y)) j = hrsP Y w s j := fun j hj => by rw [bt_bs _ (by omega) (by omega)]; simp [hj]
  have xx : ∀ v, _ → zPf SX 1 mX9_asks [.ref 0, .int (nI w), .int (nI s), .int a3] X v := fun v q => eX9_asks v X _ _ _ ⟨_, oN_i h hw, fun e => absurd rfl e, fun _ => ⟨_, oC_i X 4 hs (by decide) rfl, fun _ => ⟨s, rfl, hs, _, cX_hearable h hw, by rw [hh]; exact q⟩, fun e => absurd rfl e⟩⟩
  rcases inR_cases a3 (b := 4) (by decide) with h1 | ⟨k, hk, rfl⟩
  · exact zAg_q h (-1) (xx _ ⟨fun e => absurd e (oor h1 (k := 0) (by decide)), fun e => absurd e (oor h1 (k := 1) (by decide)), fun e => absurd e (oor h1 (k := 2) (by decide)), fun e => absurd e (oor h1 (k := 3) (by decide)), fun _ => rfl⟩) (eX10_asks _ Y _ _ _ ⟨_, yN_i h.1 hw, fun e => absurd e (by decide), fun _ => ⟨_, yG_i Y hs, fun e => absurd e (by decide), fun _ => ⟨_, yC_o Y 4 h1 (by decide), fun e => absurd rfl e, fun _ => rfl⟩⟩⟩)
  have yy : ∀ v, (((¬ nI k = 0) → (((¬ nI k = 1) → (((¬ nI k = 2) → (fst0 (fstP Y w s) (nV Y) = v)) ∧ ((nI k = 2) → (bsx (hrsP Y w s) (fun v => n32 (Y 4 v)) (nV Y) = v)))) ∧ ((nI k = 1) → (nI (fb_ct (othP Y w s) (nV Y)) = v)))) ∧ ((nI k = 0) → (bs (hrsP Y w s) (nV Y) = v))) → zPf SY 2 mX10_asks [.ref 0, .int (nI w), .int (nI s), .int (nI k)] Y v := fun v q => by
    refine eX10_asks v Y _ _ _ ⟨_, yN_i h.1 hw, fun e => absurd e (by decide), fun _ => ⟨_, yG_i Y hs, fun e => absurd e (by decide), fun _ => ⟨_, yC_i Y 4 hk (by decide) (by decide), fun _ => ?_, fun e => absurd e (by decide)⟩⟩⟩
    refine zdown0 (P := fun i => LX10_asks_45 v Y (nI w) (nI s) (nI k) (bs (hrsP Y w s) i) (nI (fb_ct (othP Y w s) i)) (bsx (hrsP Y w s) (fun v => n32 (Y 4 v)) i) (fst0 (fstP Y w s) i) (nI i)) (nV Y) ?_ ?_
    · exact bX10_asks_45 _ Y _ _ _ _ _ _ _ _ ⟨fun _ => q, fun hc => absurd (loE hv (by omega)) hc⟩
    · intro i hi ih
      rw [← nI_1 i] at ih
      have z0 : nI (fb_ct (othP Y w s) i) + 0 = nI (fb_ct (othP Y w s) i) := Int32.add_zero _
      have sf : fst0 (fstP Y w s) (i + 1) = if fst0 (fstP Y w s) i = -4 ∧ fstP Y w s i = true then nI i else fst0 (fstP Y w s) i := rfl
      have hz := zb0N (x := Y 12 w) (h.1.tongue i hi) (by decide)
      refine bX10_asks_45 _ Y _ _ _ _ _ _ _ _ ⟨fun hc => absurd hc (loB hv hi (by omega)), fun _ => ⟨i, rfl, by omega, fun e => ?_, fun e => ⟨_, cY_mayHear Y h.1 hw hi, fun e2 => ?_, fun e2 => ⟨i, rfl, by omega, ?_⟩⟩⟩⟩
      · have p1 : hrsP Y w s i = false := by simp [hrsP, e]
        rw [bs_f2 p1, bsx_f2 p1, sf, if_neg (by simp [fstP, p1]), ← ct_f (p := othP Y w s) (i := i) (by simp [othP, e]), z0] at ih
        exact ih
      · have p1 : hrsP Y w s i = false := by simp [hrsP, b2i_0.mp e2]
        rw [sf, if_neg (by simp [fstP, p1])] at ih
        rw [bs_f p1, bsx_f p1, ct_t (p := othP Y w s) (i := i) (by simp [othP, e, b2i_0.mp e2])]
        exact ih
      · have p1 : hrsP Y w s i = true := by simp [hrsP, e, b2i_n.mp e2]
        have p2 : othP Y w s i = false := by simp [othP, b2i_n.mp e2]
        have e3 := bsx_t (p := hrsP Y w s) (g := fun v => n32 (Y 4 v)) (i := i) p1
        simp only [← (h.1.at_ i hi).1] at e3
        rw [bs_t p1, ct_f p2, e3]
        rw [sf] at ih
        refine ⟨fun q1 => ?_, fun q1 => ⟨w, rfl, by omega, i, rfl, by omega, ?_⟩⟩
        · rw [if_neg (fun z => q1 z.1)] at ih; exact ih
        · rw [hz]
          refine ⟨fun q2 => ?_, fun q2 => ?_⟩
          · rw [if_neg (fun z => q2 (by have := z.2; simp [fstP, p1] at this; exact this))] at ih; exact ih
          · rw [if_pos ⟨q1, by simp [fstP, p1, q2]⟩] at ih; exact ih
  obtain rfl | rfl | rfl | rfl : k = 0 ∨ k = 1 ∨ k = 2 ∨ k = 3 := by omega
  · exact zAg_q h _ (xx _ ⟨fun _ => rfl, fun e => absurd e (by decide), fun e => absurd e (by decide), fun e => absurd e (by decide), fun e => absurd e (by decide)⟩) (yy _ ⟨fun e => absurd rfl e, fun _ => rfl⟩)
  · refine zAg_q h _ (xx _ ⟨fun e => absurd e (by decide), fun _ => ⟨_, cJ_bitCount X _, ?_⟩, fun e => absurd e (by decide), fun e => absurd e (by decide), fun e => absurd e (by decide)⟩) (yy _ ⟨fun _ => ⟨fun e => absurd rfl e, fun _ => rfl⟩, fun e => absurd e (by decide)⟩)
    have bits : ∀ j, j < 32 → bt (X 17 s &&& (bs (hrsP Y w s) (nV Y) ^^^ (-1))) j = (decide (j < nV Y) && othP Y w s j) := fun j hj => by
      rw [b_and, bt_not _ hj, h.2.ofSong s hs, bt_bs _ (by omega) hj, bt_bs _ (by omega) hj]
      by_cases q : j < nV Y
      · simp only [q, decide_true, Bool.true_and, hrsP, othP]
        cases (Y 3 j == nI s) <;> cases hearY Y w j <;> rfl
      · simp [q]
    congr 1
    rw [ct_cut (n := nV Y) (by omega) (fun k hk h32 => ?_)]
    · exact fb_ct_cong (fun j hj => by rw [bits j (by omega)]; simp [hj])
    · rw [bits _ h32]; simp; omega
  · refine zAg_q h _ (xx _ ⟨fun e => absurd e (by decide), fun e => absurd e (by decide), fun _ => ⟨_, cX_placesOf h _, ?_⟩, fun e => absurd e (by decide), fun e => absurd e (by decide)⟩) (yy _ ⟨fun _ => ⟨fun _ => ⟨fun e => absurd rfl e, fun _ => rfl⟩, fun e => absurd e (by decide)⟩, fun e => absurd e (by decide)⟩)
    exact bsx_congr bh (fun _ _ _ => rfl)
  · refine zAg_q h _ (xx _ ⟨fun e => absurd e (by decide), fun e => absurd e (by decide), fun e => absurd e (by decide), fun _ => ⟨w, rfl, by omega, _, cX_firstForeign h _ _, ?_⟩, fun e => absurd e (by decide)⟩) (yy _ ⟨fun _ => ⟨fun _ => ⟨fun _ => rfl, fun e => absurd e (by decide)⟩, fun e => absurd e (by decide)⟩, fun e => absurd e (by decide)⟩)
    have f0 := fst0_eq (fstP Y w s) (nV Y) 0 (by omega)
    rw [Nat.zero_add, if_pos (show fst0 (fstP Y w s) 0 = -4 from rfl)] at f0
    rw [f0, h.2.tgs]
    exact fstF_congr _ _ (fun j _ hj => by simp only [forP, fstP]; rw [bh j (by omega)])
end Q4
