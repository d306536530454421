/-! the class: what several calls share -/
def scrX (a : Nat) : Bool := decide (27 ≤ a ∧ a < 44) || a == 53 || decide (58 ≤ a)
section XM
variable {X Y M : zX}
theorem Rel.scr (h : Rel X Y) (e : ∀ a, scrX a = false → M a = X a) : Rel M Y := by
  refine ⟨h.1, ?_⟩
  have r := h.2
  refine ⟨?_, ?_, ?_, ?_, ?_, ?_, ?_, ?_, ?_, ?_, ?_, ?_, fun v hv => ?_, fun s hs => ?_, fun s hs => ?_, fun p hp => ?_, ?_, ?_, fun w hw => ?_, ?_, ?_, fun w hw => ?_, ?_, fun i hi => ?_, ?_, ?_, ?_, fun k hk => ?_, fun v hv => ?_, fun p hp => ?_, ?_, ?_, fun k hk q => ?_, fun k hk q => ?_⟩
  · rw [e 1 rfl]; exact r.size
  · rw [e 1 rfl]; exact r.yr
  · rw [e 1 rfl]; exact r.sn
  · rw [e 2 rfl]; exact r.hgt
  · rw [e 3 rfl]; exact r.wat
  · rw [e 4 rfl]; exact r.vs
  · rw [e 5 rfl]; exact r.sg
  · rw [e 6 rfl]; exact r.pl
  · rw [e 7 rfl]; exact r.tg
  · rw [e 8 rfl]; exact r.dy
  · rw [e 9 rfl]; exact r.hd
  · rw [e 10 rfl]; exact r.nb
  · have hs := (h.1.song v hv).2
    rw [e (12 + n32 (Y 3 v)) (by simp [scrX]; omega)]; exact r.order v hv
  · rw [e 16 rfl]; exact r.length s hs
  · rw [e 17 rfl]; exact r.ofSong s hs
  · rw [e 18 rfl]; exact r.atPlace p hp
  · rw [e 19 rfl]; exact r.ns
  · rw [e 20 rfl]; exact r.kn
  · rw [e 21 rfl]; exact r.ag w hw
  · rw [e 22 rfl]; exact r.tgs
  · rw [e 23 rfl]; exact r.hadx
  · rw [e 24 rfl]; exact r.lv w hw
  · rw [e 25 rfl]; exact r.tl
  · rw [e 26 rfl]; exact r.tb i hi
  · rw [e 54 rfl]; exact r.sng
  · rw [e 54 rfl]; exact r.tll
  · rw [e 54 rfl]; exact r.cry
  · rw [e 55 rfl]; exact r.hr k hk
  · rw [e 56 rfl]; exact r.pr v hv
  · rw [e 57 rfl]; exact r.drx p hp
  · rw [e 0 rfl]; exact r.tf
  · rw [e 0 rfl]; exact r.rf
  · rw [e (45 + 2 * k) (by simp [scrX]; omega)]; exact r.shN k hk q
  · rw [e (45 + 2 * k) (by simp [scrX]; omega), e (46 + 2 * k) (by simp [scrX]; omega)]; exact r.shS k hk q
theorem cX_ageNow (h : Rel X Y) {w : Nat} (hw : w < nN Y) : zPf SX 0 mX9_ageNow [.ref 0, .int (nI w)] X (ageY Y w) := by
  have hn2 := h.1.n2
  refine eX9_ageNow _ X _ ⟨w, rfl, by omega, ?_⟩
  rw [h.2.ag w hw, h.2.yr, i_sub_add]; rfl
theorem cX_hearable (h : Rel X Y) {w : Nat} (hw : w < nN Y) : zPf SX 0 mX9_hearable [.ref 0, .int (nI w)] X (bs (hearY Y w) (nV Y)) := by
  have hn2 := h.1.n2; have hn := h.2.vs.trans h.1.v; have hv2 := h.1.v2
  refine eX9_hearable _ X _ ⟨w, rfl, by omega, ?_⟩
  rw [h.2.kn]
  refine zdown0 (P := fun i => LX9_hearable_15 _ X (Y 9 w) (bs (hearY Y w) i) (nI i)) (nV Y) ?_ ?_
  · exact bX9_hearable_15 _ X _ _ _ ⟨fun _ => rfl, fun hc => absurd (loE (n := nV Y) hn (by omega)) hc⟩
  · intro i hi ih
    rw [← nI_1 i] at ih
    refine bX9_hearable_15 _ X _ _ _ ⟨fun hc => absurd hc (loB (n := nV Y) hn hi (by omega)), fun _ => ?_⟩
    rw [h.2.hd]
    refine ⟨i, rfl, by omega, fun e => ?_, fun e => ⟨fun e2 => ?_, fun e2 => ?_⟩⟩
    · rw [bs_t (p := hearY Y w) (by simp [hearY, e])]; exact ih
    · rw [bs_t (p := hearY Y w) (by simp [hearY, e2])]; exact ih
    · have hh := (h.1.held i hi).resolve_left e
      refine ⟨n32 (Y 7 i), hh.1, hh.2, ?_⟩
      rw [h.2.hr _ hh.2, zb1N (h.1.kin w hw) (by decide)]
      refine ⟨fun e3 => ?_, fun e3 => ?_⟩
      · rw [bs_f2 (p := hearY Y w) (by simp [hearY, e, e2, e3])] at ih; exact ih
      · rw [bs_t (p := hearY Y w) (by simp [hearY, e3])]; exact ih
theorem liveT (h : Rel X Y) {w : Nat} (hw : w < nN Y) (e : ¬ X 24 w = 0) : liveP Y w = true := by
  cases q : liveP Y w with
  | true => rfl
  | false => exact absurd ((liveX h hw).mpr q) e
theorem cX_singable (h : Rel X Y) {w : Nat} (hw : w < nN Y) : zPf SX 1 mX9_singable [.ref 0, .int (nI w)] X (bs (singY Y w) (nV Y)) := by
  have hn2 := h.1.n2; have hv2 := h.1.v2
  have zero : (∀ v, v < nV Y → singY Y w v = false) → 0 = bs (singY Y w) (nV Y) := fun q => by
    apply b_ext
    intro k hk
    rw [b_0, bt_bs _ (by omega) hk]
    by_cases hkv : k < nV Y
    · simp [q k hkv]
    · simp [hkv]
  refine eX9_singable _ X _ ⟨w, rfl, by omega, fun e => zero (fun v hv => ?_), fun e => ⟨_, cX_ageNow h hw, fun e2 => ⟨w, rfl, by omega, w, rfl, by omega, _, cX_openOrHeldBy h _, ?_⟩, fun e2 => zero (fun v hv => ?_)⟩⟩
  · have := (liveX h hw).mp e
    simp only [liveP] at this
    simp [singY, this]
  · have e := liveT h hw e
    simp only [liveP] at e
    rw [h.2.sng] at e2
    rw [h.2.hadx, h.2.kn]
    apply b_ext
    intro k hk
    rw [b_and, bt_bs _ (by omega) hk, bt_bs _ (by omega) hk]
    by_cases hkv : k < nV Y
    · simp only [hkv, decide_true, Bool.true_and, singY, openP, e, e2, Bool.and_true]
      exact Bool.and_comm _ _
    · simp [hkv]
  · rw [h.2.sng] at e2
    simp [singY, e2]
def VO (X Y M : zX) : Prop := (∀ a, a ≠ 53 → M a = X a) ∧ ∀ w, w < nN Y → M 53 w = bs (singY Y w) (nV Y)
theorem VO.rel (h : Rel X Y) (o : VO X Y M) : Rel M Y := h.scr (fun a ha => o.1 a (fun q => by subst q; simp [scrX] at ha))
theorem cX_hearVoices (h : Rel X Y) : zPw SX 2 mX9_hearVoices [.ref 0] X (VO X Y) := by
  have hn := h.2.ns.trans h.1.n; have hn2 := h.1.n2
  refine eX9_hearVoices _ X ?_
  refine (zdown0 (P := fun i => ∀ M : zX, (∀ a, a ≠ 53 → M a = X a) → (∀ w, w < i → M 53 w = bs (singY Y w) (nV Y)) → LX9_hearVoices_2 (VO X Y) M (nI i)) (nN Y) ?_ ?_) X (fun _ _ => rfl) (fun w hw => by omega)
  · intro M e1 e2
    refine bX9_hearVoices_2 _ M _ ⟨fun _ => ⟨e1, e2⟩, fun hc => absurd (loE (n := nN Y) ?_ (by omega)) hc⟩
    rw [e1 19 (by decide)]; exact hn
  · intro i hi ih M e1 e2
    refine bX9_hearVoices_2 _ M _ ⟨fun hc => absurd hc (loB (n := nN Y) (by rw [e1 19 (by decide)]; exact hn) hi (by omega)), fun _ => ⟨_, cX_singable (h.scr (fun a ha => e1 a (fun q => by subst q; simp [scrX] at ha))) hi, i, rfl, by omega, ?_⟩⟩
    rw [nI_1]
    refine ih _ (fun a ha => by rw [zs_ne ha]; exact e1 a ha) (fun w hw => ?_)
    by_cases q : w = i
    · subst q; rw [zs_eq]
    · rw [zs_nk q]; exact e2 w (by omega)
theorem sung_eq (h : Rel X Y) (o : VO X Y M) (x : Int32) : orx (bt x) (M 53) (nN Y) = sungY Y x := by
  apply b_ext
  intro k hk
  have hv2 := h.1.v2
  unfold sungY
  rw [bt_orx, bt_bs _ (by omega) hk]
  rw [anyB_congr (q := fun i => bt x i && (decide (k < nV Y) && singY Y i k)) (fun i hi => by rw [o.2 i hi, bt_bs _ (by omega) hk])]
  by_cases hkv : k < nV Y
  · simp [hkv, sungP]
  · simp only [hkv, decide_false, Bool.false_and, Bool.and_false]
    cases q : anyB (fun _ => false) (nN Y) with
    | false => rfl
    | true => obtain ⟨i, _, c⟩ := anyB_iff.mp q; cases c
theorem cX_sungBy (h : Rel X Y) (o : VO X Y M) (x : Int32) : zPf SX 0 mX9_sungBy [.ref 0, .int x] M (sungY Y x) := by
  have hr := o.rel h
  have hn := hr.2.ns.trans h.1.n; have hn2 := h.1.n2
  rw [← sung_eq h o x]
  refine eX9_sungBy _ M _ (zdown0 (P := fun i => LX9_sungBy_4 _ M x (orx (bt x) (M 53) i) (nI i)) (nN Y) ?_ ?_)
  · exact bX9_sungBy_4 _ M _ _ _ ⟨fun _ => rfl, fun hc => absurd (loE (n := nN Y) hn (by omega)) hc⟩
  · intro i hi ih
    rw [← nI_1 i] at ih
    refine bX9_sungBy_4 _ M _ _ _ ⟨fun hc => absurd hc (loB (n := nN Y) hn hi (by omega)), fun _ => ?_⟩
    rw [zb1 (by omega)]
    refine ⟨fun e => ?_, fun e => ⟨i, rfl, by omega, ?_⟩⟩
    · rw [← orx_f (p := bt x) (i := i) (by simpa using e)] at ih; exact ih
    · rw [orx_t e]; exact ih
theorem cX_ledWhere (h : Rel X Y) (s : Int32) : zPf SX 0 mX9_ledWhere [.ref 0, .int s] X (ledW Y s) := by
  have hn := h.2.vs.trans h.1.v; have hn2 := h.1.v2
  refine eX9_ledWhere _ X _ (zdown0 (P := fun i => LX9_ledWhere_4 _ X s (bs (ledP Y s) i) (nI i)) (nV Y) ?_ ?_)
  · exact bX9_ledWhere_4 _ X _ _ _ ⟨fun _ => rfl, fun hc => absurd (loE (n := nV Y) hn (by omega)) hc⟩
  · intro i hi ih
    rw [← nI_1 i] at ih
    refine bX9_ledWhere_4 _ X _ _ _ ⟨fun hc => absurd hc (loB (n := nV Y) hn hi (by omega)), fun _ => ?_⟩
    rw [zb1 (by omega)]
    refine ⟨fun e => ?_, fun e => ⟨i, rfl, by omega, fun e2 => ?_, fun e2 => ?_⟩⟩
    · rw [bs_f2 (p := ledP Y s) (by simp [ledP, e])] at ih; exact ih
    · rw [h.2.pr i (by omega)] at e2
      rw [bs_f2 (p := ledP Y s) (i := i) (by show (bt s i && (_ == _)) = false; rw [beqF e2, Bool.and_false])] at ih; exact ih
    · rw [h.2.pr i (by omega)] at e2
      rw [bs_t (p := ledP Y s) (i := i) (by show (bt s i && (_ == _)) = true; rw [e, beqT e2]; rfl)]; exact ih
theorem cX_ledBy (h : Rel X Y) (x : Int32) : zPi SX 3 mX9_ledBy [.ref 0, .int x] X (fun r M => r = ledY Y x ∧ VO X Y M) :=
  eX9_ledBy _ X x ⟨_, cX_hearVoices h, fun M o => ⟨_, cX_sungBy h o x, _, cX_ledWhere (o.rel h) _, rfl, o⟩⟩
theorem zshl_pow : ∀ n, n < 31 → zshl 1 (nI n) = nI (2 ^ n) := by decide +kernel
theorem cX_noSuchPeople (h : Rel X Y) (x : Int32) : zPf SX 1 mX9_noSuchPeople [.ref 0, .int x] X (b2i (!inR x (2 ^ nN Y))) := by
  have hn2 := h.1.n2
  have hp : 2 ^ nN Y ≤ 2 ^ 8 := Nat.pow_le_pow_right (by decide) hn2
  refine eX9_noSuchPeople _ X x ⟨_, cX_outside X x (2 ^ nN Y) ?_ (by omega), b2i_nar _, rfl⟩
  rw [h.2.ns, h.1.n, zshl_pow _ (by omega)]
theorem cX_oneOut (h : Rel X Y) (x : Int32) : zPf SX 0 mX9_outside [.int x, .int (X 19 5)] X (b2i (!inR x (nN Y))) := cX_outside X x _ (h.2.ns.trans h.1.n) (by have := h.1.n2; omega)
theorem cX_verseOut (h : Rel X Y) (x : Int32) : zPf SX 0 mX9_outside [.int x, .int (X 4 10)] X (b2i (!inR x (nV Y))) := cX_outside X x _ (h.2.vs.trans h.1.v) (by have := h.1.v2; omega)
theorem cX_placeOut (h : Rel X Y) (x : Int32) : zPf SX 0 mX9_outside [.int x, .int (X 1 2)] X (b2i (!inR x (nP Y))) := cX_outside X x _ (h.2.size.trans h.1.p) (by have := h.1.p2; omega)
theorem cX_noSuchLesson (h : Rel X Y) (a b c : Int32) : zPf SX 1 mX9_noSuchLesson [.ref 0, .int a, .int b, .int c] X (b2i (!(inR a (nN Y) && inR b (nN Y) && !(a == b) && inR c (nV Y)))) := by
  refine eX9_noSuchLesson _ X _ _ _ ⟨_, cX_oneOut h a, fun e => ?_, fun e => ⟨_, cX_oneOut h b, fun e2 => ?_, fun e2 => ⟨fun e3 => ?_, fun e3 => ⟨_, cX_verseOut h c, fun e4 => ?_, fun e4 => ?_⟩⟩⟩⟩
  · simp only [b2i_n, Bool.not_eq_true'] at e; simp [e, b2i]
  · simp only [b2i_n, Bool.not_eq_true'] at e2; simp [e2, b2i]
  · simp [e3, b2i]
  · simp only [b2i_0, Bool.not_eq_false'] at e e2 e4; simp [e, e2, e3, e4, b2i]
  · simp only [b2i_n, Bool.not_eq_true'] at e4; simp [e4, b2i]
def tellP (Y : zX) (w v : Nat) : Bool := singY Y w v && decide (Y 0 20 ≤ ageY Y w) && bt (Y 12 w) (n32 (Y 5 v))
def lrnP (Y : zX) (u v : Nat) : Bool := liveP Y u && hearY Y u v && !bt (Y 13 u) v && bt (Y 12 u) (n32 (Y 5 v))
theorem btV {Y : zX} (h : IY Y) (p : Nat → Bool) {v : Nat} (hv : v < nV Y) : (zshr (bs p (nV Y)) (nI v) &&& 1) = 1 ↔ p v = true := by
  have := h.v2
  rw [zb1 (by omega), bt_bs _ (by omega) (by omega)]
  simp [hv]
theorem cX_speaksV (h : Rel X Y) {w v : Nat} (hw : w < nN Y) (hv : v < nV Y) : zPf SX 0 mX2_speaks [.ref 19, .int (nI w), .int (X 7 v)] X (b2i (bt (Y 12 w) (n32 (Y 5 v)))) := by
  have ht := h.1.tongue v hv
  have hn2 := h.1.n2
  rw [h.2.tg, ht.1]
  have := cX_speaks h (w := w) (t := n32 (Y 5 v)) (by omega) (by have := ht.2; omega)
  rw [n32_nI (by have := ht.2; omega)]
  exact this
theorem cX_canTell (h : Rel X Y) {w v : Nat} (hw : w < nN Y) (hv : v < nV Y) : zPf SX 2 mX9_canTell [.ref 0, .int (nI w), .int (nI v)] X (b2i (tellP Y w v)) := by
  have hv2 := h.1.v2
  refine eX9_canTell _ X _ _ ⟨_, cX_singable h hw, ?_⟩
  rw [btV h.1 _ hv]
  refine ⟨fun e => ?_, fun e => ⟨_, cX_ageNow h hw, fun e2 => ?_, fun e2 => ⟨v, rfl, by omega, _, cX_speaksV h hw hv, fun e3 => ?_, fun e3 => ?_⟩⟩⟩
  · simp [tellP, e, b2i]
  · rw [h.2.tll] at e2; rw [lt_nle] at e2; simp only [tellP, e2, decide_false, Bool.and_false, Bool.false_and]; rfl
  · rw [b2i_0] at e3; simp [tellP, e3, b2i]
  · rw [b2i_n] at e3
    rw [h.2.tll, nlt_le] at e2
    simp [tellP, e, e2, e3, b2i]
theorem cX_canLearn (h : Rel X Y) {u v : Nat} (hu : u < nN Y) (hv : v < nV Y) : zPf SX 1 mX9_canLearn [.ref 0, .int (nI u), .int (nI v)] X (b2i (lrnP Y u v)) := by
  have hv2 := h.1.v2; have hn2 := h.1.n2
  refine eX9_canLearn _ X _ _ ⟨u, rfl, by omega, fun e => ?_, fun e => ⟨_, cX_hearable h hu, ?_⟩⟩
  · rw [liveX h hu] at e; simp [lrnP, e, b2i]
  · have e := liveT h hu e
    rw [btV h.1 _ hv]
    refine ⟨fun e2 => ?_, fun e2 => ⟨u, rfl, by omega, ?_⟩⟩
    · simp [lrnP, e2, b2i]
    · rw [h.2.hadx, zb0 (by omega)]
      refine ⟨fun e3 => ?_, fun e3 => ⟨v, rfl, by omega, _, cX_speaksV h hu hv, fun e4 => ?_, fun e4 => ?_⟩⟩
      · simp [lrnP, e3, b2i]
      · rw [b2i_0] at e4; simp [lrnP, e4, b2i]
      · rw [b2i_n] at e4; simp [lrnP, e, e2, e3, e4, b2i]
theorem cX_somebodyCanLearn (h : Rel X Y) {v : Nat} (hv : v < nV Y) : zPf SX 2 mX9_somebodyCanLearn [.ref 0, .int (nI v)] X (b2i (anyB (fun u => lrnP Y u v) (nN Y))) := by
  have hn := h.2.ns.trans h.1.n; have hn2 := h.1.n2
  refine eX9_somebodyCanLearn _ X _ ?_
  refine (zdown0 (P := fun i => anyB (fun u => lrnP Y u v) i = false → LX9_somebodyCanLearn_2 (b2i (anyB (fun u => lrnP Y u v) (nN Y))) X (nI v) (nI i)) (nN Y) ?_ ?_) rfl
  · intro e
    exact bX9_somebodyCanLearn_2 _ X _ _ ⟨fun _ => by rw [e]; rfl, fun hc => absurd (loE (n := nN Y) hn (by omega)) hc⟩
  · intro i hi ih e
    rw [← nI_1] at ih
    refine bX9_somebodyCanLearn_2 _ X _ _ ⟨fun hc => absurd hc (loB (n := nN Y) hn hi (by omega)), fun _ => ⟨_, cX_canLearn h hi hv, fun e2 => ih ?_, fun e2 => ?_⟩⟩
    · rw [b2i_0] at e2
      show (anyB (fun u => lrnP Y u v) i || lrnP Y i v) = false
      rw [e, e2]; rfl
    · rw [b2i_n] at e2
      rw [anyB_iff.mpr ⟨i, hi, e2⟩]; rfl
def loneP (Y : zX) (w : Nat) : Nat → Bool := fun v => decide (headsY Y v = 1) && tellP Y w v && anyB (fun u => lrnP Y u v) (nN Y)
theorem headsY_le {Y : zX} (h : IY Y) (v : Nat) : headsY Y v ≤ 8 := Nat.le_trans (fb_ct_le _ _) h.n2
theorem heads1 {Y : zX} (h : IY Y) (v : Nat) : nI (headsY Y v) = 1 ↔ headsY Y v = 1 := by
  have := headsY_le h v
  exact nI_eq (b := 1) (by omega) (by omega)
theorem cX_lone (h : Rel X Y) {w : Nat} (hw : w < nN Y) : zPf SX 3 mX9_loneAndTeachable [.ref 0, .int (nI w)] X (nI (fb_ct (loneP Y w) (nV Y))) := by
  have hn := h.2.vs.trans h.1.v; have hn2 := h.1.v2
  have z : ∀ i, nI (fb_ct (loneP Y w) i) + 0 = nI (fb_ct (loneP Y w) i) := fun i => Int32.add_zero _
  refine eX9_loneAndTeachable _ X _ (zdown0 (P := fun i => LX9_loneAndTeachable_4 _ X (nI w) (nI (fb_ct (loneP Y w) i)) (nI i)) (nV Y) ?_ ?_)
  · exact bX9_loneAndTeachable_4 _ X _ _ _ ⟨fun _ => rfl, fun hc => absurd (loE (n := nV Y) hn (by omega)) hc⟩
  · intro i hi ih
    rw [← nI_1 i] at ih
    refine bX9_loneAndTeachable_4 _ X _ _ _ ⟨fun hc => absurd hc (loB (n := nV Y) hn hi (by omega)), fun _ => ?_⟩
    refine ⟨_, cX_heads h (by omega), ?_⟩
    rw [heads1 h.1]
    refine ⟨fun e => ?_, fun e => ⟨_, cX_canTell h hw hi, fun e2 => ?_, fun e2 => ⟨_, cX_somebodyCanLearn h hi, fun e3 => ?_, fun e3 => ?_⟩⟩⟩
    · rw [← ct_f (p := loneP Y w) (i := i) (by simp [loneP, e]), z] at ih; exact ih
    · rw [b2i_0] at e2
      rw [← ct_f (p := loneP Y w) (i := i) (by simp [loneP, e2]), z] at ih; exact ih
    · rw [b2i_0] at e3
      rw [← ct_f (p := loneP Y w) (i := i) (by simp [loneP, e3]), z] at ih; exact ih
    · rw [b2i_n] at e2 e3
      rw [ct_t (p := loneP Y w) (i := i) (by simp [loneP, e, e2, e3])]; exact ih
end XM
