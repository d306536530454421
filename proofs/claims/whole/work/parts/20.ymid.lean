/-! the reference: what several calls share -/
section YM
variable {Y : zX}
theorem sung_eq2 (h : IY Y) {f : Nat → Int32} (o : ∀ w, w < nN Y → f w = bs (singY Y w) (nV Y)) (x : Int32) : orx (bt x) f (nN Y) = sungY Y x := by
  apply b_ext
  intro k hk
  have hv2 := h.v2
  unfold sungY
  rw [bt_orx, bt_bs _ (by omega) hk]
  rw [anyB_congr (q := fun i => bt x i && (decide (k < nV Y) && singY Y i k)) (fun i hi => by rw [o i hi, bt_bs _ (by omega) hk])]
  by_cases hkv : k < nV Y
  · simp [hkv, sungP]
  · simp only [hkv, decide_false, Bool.false_and, Bool.and_false]
    cases q : anyB (fun _ => false) (nN Y) with
    | false => rfl
    | true => obtain ⟨i, _, c⟩ := anyB_iff.mp q; cases c
theorem or_assoc3 (a b c : Int32) : a ||| b ||| c = a ||| (b ||| c) := Int32.or_assoc a b c
theorem cY_sungBy (h : IY Y) (x : Int32) : zPf SY 2 mX10_sungBy [.ref 0, .int x] Y (sungY Y x) := by
  have hn := h.n; have hn2 := h.n2; have hv := h.v; have hv2 := h.v2
  rw [← sung_eq2 h (f := fun w => bs (singY Y w) (nV Y)) (fun _ _ => rfl) x]
  refine eX10_sungBy _ Y _ (zdown0 (P := fun i => LX10_sungBy_4 _ Y x (orx (bt x) (fun w => bs (singY Y w) (nV Y)) i) (nI i)) (nN Y) ?_ ?_)
  · exact bX10_sungBy_4 _ Y _ _ _ ⟨fun _ => rfl, fun hc => absurd (loE (n := nN Y) hn (by omega)) hc⟩
  · intro i hi ih
    rw [← nI_1 i] at ih
    refine bX10_sungBy_4 _ Y _ _ _ ⟨fun hc => absurd hc (loB (n := nN Y) hn hi (by omega)), fun _ => ?_⟩
    have inner : ∀ j, j ≤ nV Y → LX10_sungBy_15 (orx (bt x) (fun w => bs (singY Y w) (nV Y)) (nN Y)) Y x (orx (bt x) (fun w => bs (singY Y w) (nV Y)) i ||| (if bt x i then bs (singY Y i) j else 0)) (nI i) (nI j) := by
      refine zdown ?_ ?_
      · refine bX10_sungBy_15 _ Y _ _ _ _ ⟨fun _ => ?_, fun hc => absurd (loE hv (by omega)) hc⟩
        cases e : bt x i with
        | false => rw [← orx_f e] at ih; simp only [Bool.false_eq_true, if_false, or0]; exact ih
        | true => simp only [if_true]; rw [← orx_t e] at ih; exact ih
      · intro j hj ih2
        rw [← nI_1] at ih2
        refine bX10_sungBy_15 _ Y _ _ _ _ ⟨fun hc => absurd hc (loB hv hj (by omega)), fun _ => ?_⟩
        rw [zb1 (by omega)]
        refine ⟨fun e => ?_, fun e => ⟨_, cY_maySing Y h hi hj, fun e2 => ?_, fun e2 => ?_⟩⟩
        · rw [or0]
          simp only [e, Bool.false_eq_true, if_false] at ih2 ⊢
          exact ih2
        · rw [b2i_0] at e2
          rw [or0]
          simp only [e, if_true] at ih2 ⊢
          rw [bs_f2 e2] at ih2
          exact ih2
        · rw [b2i_n] at e2
          simp only [e, if_true] at ih2 ⊢
          rw [or_assoc3, bs_t e2]
          exact ih2
    have := inner 0 (Nat.zero_le _)
    have z : orx (bt x) (fun w => bs (singY Y w) (nV Y)) i ||| (if bt x i then bs (singY Y i) 0 else 0) = orx (bt x) (fun w => bs (singY Y w) (nV Y)) i := by
      rw [bs_0]; cases bt x i <;> exact or0 _
    rw [z] at this
    exact this
theorem cY_ledBy (h : IY Y) (x : Int32) : zPf SY 3 mX10_ledBy [.ref 0, .int x] Y (ledY Y x) := by
  have hv := h.v; have hv2 := h.v2
  refine eX10_ledBy _ Y x ⟨_, cY_sungBy h x, ?_⟩
  refine zdown0 (P := fun i => LX10_ledBy_11 _ Y (sungY Y x) (bs (ledP Y (sungY Y x)) i) (nI i)) (nV Y) ?_ ?_
  · exact bX10_ledBy_11 _ Y _ _ _ ⟨fun _ => rfl, fun hc => absurd (loE (n := nV Y) hv (by omega)) hc⟩
  · intro i hi ih
    rw [← nI_1 i] at ih
    refine bX10_ledBy_11 _ Y _ _ _ ⟨fun hc => absurd hc (loB (n := nV Y) hv hi (by omega)), fun _ => ?_⟩
    rw [zb1 (by omega)]
    refine ⟨fun e => ?_, fun e => ⟨i, rfl, by omega, fun e2 => ?_, fun e2 => ?_⟩⟩
    · rw [bs_f (p := ledP Y (sungY Y x)) (by simp [ledP, e])]; exact ih
    · rw [bs_f (p := ledP Y (sungY Y x)) (by show (bt _ i && (_ == _)) = false; rw [beqF e2, Bool.and_false])]; exact ih
    · rw [bs_t (p := ledP Y (sungY Y x)) (by show (bt _ i && (_ == _)) = true; rw [e, beqT e2]; rfl)]; exact ih
theorem pow_le {n b : Nat} (h : n ≤ b) : 2 ^ n ≤ 2 ^ b := Nat.pow_le_pow_right (by decide) h
theorem cY_inPow (X : zX) (a : Int32) {n : Nat} (hn : n < 30) {x : Int32} (hx : x = nI n) : zPf SY 0 mX10_in [.long a.toInt64, .long 0, .long ((zshl 1 x) - 1).toInt64] X (b2i (inR a (2 ^ n))) := by
  have := pow_le (n := n) (b := 29) (by omega)
  exact cY_inS X a (2 ^ n) (by omega) (by rw [hx, zshl_pow _ (by omega)])
theorem cY_arePeople (h : IY Y) (x : Int32) : zPf SY 1 mX10_arePeople [.ref 0, .int x] Y (b2i (inR x (2 ^ nN Y))) :=
  eX10_arePeople _ Y x ⟨_, cY_inPow Y x (by have := h.n2; omega) h.n, b2i_nar _, rfl⟩
theorem cY_arePlaces (h : IY Y) (x : Int32) : zPf SY 1 mX10_arePlaces [.ref 0, .int x] Y (b2i (inR x (2 ^ nP Y))) :=
  eX10_arePlaces _ Y x ⟨_, cY_inPow Y x (by have := h.p2; omega) h.p, b2i_nar _, rfl⟩
def goesY (Y : zX) (u v : Nat) : Int32 := if Y 1 (n32 (Y 4 v)) = Y 1 (n32 (Y 4 u)) then 2 else if Y 1 (n32 (Y 4 u)) < Y 1 (n32 (Y 4 v)) then 1 else 0
theorem cY_goes (h : IY Y) {u v : Nat} (hu : u < nV Y) (hv : v < nV Y) : zPf SY 0 mX10_goes [.ref 0, .int (nI u), .int (nI v)] Y (goesY Y u v) := by
  have hv2 := h.v2; have hp2 := h.p2
  have a := h.at_ u hu; have b := h.at_ v hv
  refine eX10_goes _ Y _ _ ⟨u, rfl, by omega, n32 (Y 4 u), a.1, by have := a.2; omega, v, rfl, by omega, n32 (Y 4 v), b.1, by have := b.2; omega, ?_⟩
  unfold goesY
  generalize Y 1 (n32 (Y 4 v)) = p
  generalize Y 1 (n32 (Y 4 u)) = q
  refine ⟨fun e => ⟨fun e2 => ?_, fun e2 => ?_⟩, fun e => ?_⟩
  · rw [if_pos (by rw [fa_le] at e e2; rw [fa_eq]; omega)]
  · rw [if_neg (by rw [fa_le] at e e2; rw [fa_eq]; omega), if_neg (by rw [fa_le] at e e2; rw [fa_lt]; omega)]
  · rw [if_neg (by rw [fa_le] at e; rw [fa_eq]; omega), if_pos (by rw [fa_le] at e; rw [fa_lt]; omega)]
/-- the verse of a song at a place in it -/
def vn (Y : zX) (s : Int32) (k : Nat) : Nat := n32 (vby Y s (nI k) (nV Y))
theorem vn_ok (h : IY Y) (s : Int32) {k : Nat} (hk : k < lenY Y s) : vby Y s (nI k) (nV Y) = nI (vn Y s k) ∧ vn Y s k < nV Y ∧ Y 3 (vn Y s k) = s ∧ Y 8 (vn Y s k) = nI k := by
  obtain ⟨u, a, b, c, d, e⟩ := vby_at h s hk
  have hv2 := h.v2
  have e2 : vn Y s k = u := by unfold vn; rw [e, n32_nI (by omega)]
  rw [e2]
  exact ⟨e, a, b, d⟩
def stpY (Y : zX) (s : Int32) (i d : Nat) : Int32 := goesY Y (vn Y s i) (vn Y s (i + d))
/-- the tune's figures: m steps from i on, behind x -/
def pcF (Y : zX) (s : Int32) (i : Nat) (x : Int32) : Nat → Int32
  | 0 => x
  | m + 1 => 3 * pcF Y s i x m + stpY Y s (i + m) 1
theorem cY_hasSteps (h : IY Y) {v m : Nat} (hv : v < nV Y) (hm : m < 100) : zPf SY 1 mX10_hasSteps [.ref 0, .int (nI v), .int (nI m)] Y (b2i (decide (n32 (Y 8 v) + m < lenY Y (Y 3 v)))) := by
  have hv2 := h.v2; have hl := lenY_le h (Y 3 v)
  obtain ⟨n1, -, n3⟩ := numY h hv
  refine eX10_hasSteps _ Y _ _ ⟨v, rfl, by omega, v, rfl, by omega, _, cY_lengthOf Y h _, ?_⟩
  have e : nI (fb_ct (fun u => Y 3 u == Y 3 v) (nV Y)) ≤ Y 8 v + nI m ↔ ¬ (n32 (Y 8 v) + m < lenY Y (Y 3 v)) := by
    rw [n1, nI_add, n32_nI (by omega)]
    rw [show fb_ct (fun u => Y 3 u == Y 3 v) (nV Y) = lenY Y (Y 3 v) from rfl, nI_leI (by omega) (by omega)]
    omega
  rw [e]
  by_cases q : n32 (Y 8 v) + m < lenY Y (Y 3 v) <;> simp [q, b2i]
theorem cY_pieceAt (h : IY Y) {v m : Nat} (hv : v < nV Y) (hm : m < 100) (hs : n32 (Y 8 v) + m < lenY Y (Y 3 v)) : zPf SY 1 mX10_pieceAt [.ref 0, .int (nI v), .int (nI m)] Y (pcF Y (Y 3 v) (n32 (Y 8 v)) 0 m) := by
  have hv2 := h.v2; have hl := lenY_le h (Y 3 v)
  obtain ⟨n1, -, n3⟩ := numY h hv
  refine eX10_pieceAt _ Y _ _ (zdown0 (P := fun i => LX10_pieceAt_5 _ Y (nI v) (nI m) (pcF Y (Y 3 v) (n32 (Y 8 v)) 0 i) (nI i)) (m) ?_ ?_)
  · exact bX10_pieceAt_5 _ Y _ _ _ _ ⟨fun _ => rfl, fun hc => absurd (loE (n := m) (x := nI m) rfl (by omega)) hc⟩
  · intro i hi ih
    rw [← nI_1 i] at ih
    refine bX10_pieceAt_5 _ Y _ _ _ _ ⟨fun hc => absurd hc (loB (n := m) (x := nI m) rfl hi (by omega)), fun _ => ?_⟩
    obtain ⟨a1, a2, -, -⟩ := vn_ok h (Y 3 v) (k := n32 (Y 8 v) + i) (by omega)
    obtain ⟨b1, b2, -, -⟩ := vn_ok h (Y 3 v) (k := n32 (Y 8 v) + i + 1) (by omega)
    have q : Y 8 v + nI i = nI (n32 (Y 8 v) + i) := by rw [← nI_add, ← n1]
    have c1 : zPf SY 0 mX10_verseBy [.ref 0, .int (Y 3 v), .int (Y 8 v + nI i)] Y (nI (vn Y (Y 3 v) (n32 (Y 8 v) + i))) := by
      have := cY_verseBy Y h (Y 3 v) (nI (n32 (Y 8 v) + i))
      rw [a1] at this; rw [q]; exact this
    have c2 : zPf SY 0 mX10_verseBy [.ref 0, .int (Y 3 v), .int (Y 8 v + nI i + 1)] Y (nI (vn Y (Y 3 v) (n32 (Y 8 v) + i + 1))) := by
      have := cY_verseBy Y h (Y 3 v) (nI (n32 (Y 8 v) + i + 1))
      rw [b1] at this; rw [q, nI_1]; exact this
    exact ⟨v, rfl, by omega, v, rfl, by omega, _, c1, v, rfl, by omega, v, rfl, by omega, _, c2, _, cY_goes h a2 b2, ih⟩
def fitP (Y : zX) (m : Nat) (x : Int32) : Nat → Bool := fun v => decide (n32 (Y 8 v) + m < lenY Y (Y 3 v)) && pcF Y (Y 3 v) (n32 (Y 8 v)) 0 m == x
theorem cY_fitting (h : IY Y) {m : Nat} (hm : m < 100) (x : Int32) : zPf SY 2 mX10_fitting [.ref 0, .int (nI m), .int x] Y (bs (fitP Y m x) (nV Y)) := by
  have hv := h.v; have hv2 := h.v2
  refine eX10_fitting _ Y _ _ (zdown0 (P := fun i => LX10_fitting_5 _ Y (nI m) x (bs (fitP Y m x) i) (nI i)) (nV Y) ?_ ?_)
  · exact bX10_fitting_5 _ Y _ _ _ _ ⟨fun _ => rfl, fun hc => absurd (loE (n := nV Y) hv (by omega)) hc⟩
  · intro i hi ih
    rw [← nI_1 i] at ih
    refine bX10_fitting_5 _ Y _ _ _ _ ⟨fun hc => absurd hc (loB (n := nV Y) hv hi (by omega)), fun _ => ?_⟩
    refine ⟨_, cY_hasSteps h hi hm, fun e => ?_, fun e => ?_⟩
    · rw [b2i_0] at e
      rw [bs_f (p := fitP Y m x) (by simp only [fitP, e, Bool.false_and])]; exact ih
    · rw [b2i_n] at e
      refine ⟨_, cY_pieceAt h hi hm (by simpa using e), fun e2 => ?_, fun e2 => ?_⟩
      · rw [bs_f (p := fitP Y m x) (by show (_ && (_ == _)) = false; rw [beqF e2, Bool.and_false])]; exact ih
      · rw [bs_t (p := fitP Y m x) (by show (_ && (_ == _)) = true; rw [e, beqT e2]; rfl)]; exact ih
theorem and_sh {a b : Int32} {y : Int32} {c : Nat} (hy : isN y c) (hc : c ≤ 32) : (a &&& b &&& zshl 1 y) = 0 ↔ (bt a (n32 y) && bt b (n32 y)) = false := by
  obtain ⟨h1, h2⟩ := hy
  generalize n32 y = k at h1 h2 ⊢
  subst h1
  constructor
  · intro e
    have := congrArg (fun z => bt z k) e
    simp only [b_and, b_0, bt_sh (show k < 32 by omega) (show k < 32 by omega), decide_true, Bool.and_true] at this
    exact this
  · intro e
    apply b_ext
    intro i hi
    rw [b_and, b_and, bt_sh (by omega) hi, b_0]
    by_cases q : i = k
    · subst q; simp only [e, Bool.false_and]
    · simp [q]
theorem cY_canTeach (h : IY Y) {w u v : Nat} (hw : w < nN Y) (hu : u < nN Y) (hv : v < nV Y) : zPf SY 2 mX10_canTeach [.ref 0, .int (nI w), .int (nI u), .int (nI v)] Y (b2i (tellP Y w v && lrnP Y u v)) := by
  have hv2 := h.v2; have hn2 := h.n2
  have ht := and_sh (a := Y 12 w) (b := Y 12 u) (h.tongue v hv) (by decide)
  refine eX10_canTeach _ Y _ _ _ ⟨w, rfl, by omega, u, rfl, by omega, v, rfl, by omega, ?_⟩
  rw [ht]
  (repeat' first | refine ⟨_, rfl, by omega, ?_⟩ | refine ⟨_, cY_maySing Y h hw hv, ?_⟩ | refine ⟨_, cY_ageOf Y (by omega), ?_⟩ | refine ⟨_, cY_mayHear Y h hu hv, ?_⟩ | refine ⟨_, cY_hasIt Y (by omega) (by omega), ?_⟩ | apply And.intro | intro _)
  all_goals clear h ht hv2 hn2
  all_goals simp_all [tellP, lrnP, liveP, b2i]
  all_goals (intro q; exact absurd q (lt_nle.mp (by assumption)))
theorem cY_shutBy (h : IY Y) (x : Int32) : zPf SY 0 mX10_shutBy [.ref 0, .int x] Y (bs (atP Y x) (nV Y)) := by
  have hv := h.v; have hv2 := h.v2; have hp2 := h.p2
  refine eX10_shutBy _ Y _ (zdown0 (P := fun i => LX10_shutBy_4 _ Y x (bs (atP Y x) i) (nI i)) (nV Y) ?_ ?_)
  · exact bX10_shutBy_4 _ Y _ _ _ ⟨fun _ => rfl, fun hc => absurd (loE (n := nV Y) hv (by omega)) hc⟩
  · intro i hi ih
    rw [← nI_1 i] at ih
    refine bX10_shutBy_4 _ Y _ _ _ ⟨fun hc => absurd hc (loB (n := nV Y) hv hi (by omega)), fun _ => ?_⟩
    refine ⟨i, rfl, by omega, ?_⟩
    rw [zb1N (h.at_ i hi) (by omega)]
    refine ⟨fun e => ?_, fun e => ?_⟩
    · rw [bs_f (p := atP Y x) (by simpa [atP] using e)]; exact ih
    · rw [bs_t (p := atP Y x) e]; exact ih
end YM
