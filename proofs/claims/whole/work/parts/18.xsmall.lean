/-! the class: its small methods -/
theorem cX_outside (X : zX) (a : Int32) {b : Int32} (n : Nat) (hb : b = nI n) (hn : n < 2 ^ 31) : zPf SX 0 mX9_outside [.int a, .int b] X (b2i (!inR a n)) := by
  refine eX9_outside _ X a b ?_
  have h1 : a < 0 ↔ a.toInt < 0 := fa_lt a 0
  have h2 : a < b ↔ a.toInt < n := by rw [fa_lt, hb, nI_toInt hn]
  rw [h1, h2]
  unfold inR
  by_cases e1 : a.toInt < 0 <;> by_cases e2 : a.toInt < n
  · simp [e1, e2, b2i]
  · simp [e1, e2, b2i]
  · have : 0 ≤ a.toInt := by omega
    simp [e1, e2, b2i, this]
  · simp [e1, e2, b2i]
section XS
variable {X Y : zX}
theorem cX_isWet (h : Rel X Y) {p : Nat} (hp : p < 12) : zPf SX 0 mX1_isWet [.ref 1, .int (nI p), .ref 54] X (b2i (wetY Y p)) := by
  have hs := h.1.season
  have hb : ∀ x, (zshr x (Y 0 18) &&& 1) = 1 ↔ bt x (n32 (Y 0 18)) = true := fun x => zb1N hs (by decide)
  refine eX1_isWet _ X _ ?_
  rw [h.2.wat, h.2.sn, h.2.yr]
  have hd := h.2.drx p hp
  (repeat' first | refine ⟨_, rfl, by omega, ?_⟩ | apply And.intro | intro _)
  all_goals clear h
  all_goals simp_all [wetY, b2i]
theorem cX_wetPlaces (h : Rel X Y) : zPf SX 1 mX1_wetPlaces [.ref 1, .ref 54] X (bs (wetY Y) (nP Y)) := by
  have hn := h.2.size.trans h.1.p; have hn2 := h.1.p2
  refine eX1_wetPlaces _ X (zdown0 (P := fun i => LX1_wetPlaces_4 _ X (bs (wetY Y) i) (nI i)) (nP Y) ?_ ?_)
  · exact bX1_wetPlaces_4 _ X _ _ ⟨fun _ => rfl, fun hc => absurd (loE (n := nP Y) hn (by omega)) hc⟩
  · intro i hi ih
    rw [← nI_1 i] at ih
    refine bX1_wetPlaces_4 _ X _ _ ⟨fun hc => absurd hc (loB (n := nP Y) hn hi (by omega)), fun _ => ?_⟩
    refine ⟨_, cX_isWet h (by omega), fun e => ?_, fun e => ?_⟩
    · rw [bs_f2 (b2i_0.mp e)] at ih; exact ih
    · rw [bs_t (b2i_n.mp e)]; exact ih
theorem cX_speaks (h : Rel X Y) {w t : Nat} (hw : w < 8) (ht : t < 32) : zPf SX 0 mX2_speaks [.ref 19, .int (nI w), .int (nI t)] X (b2i (bt (Y 12 w) t)) := by
  refine eX2_speaks _ X _ _ ⟨w, rfl, hw, ?_⟩
  rw [h.2.tgs, zb1 ht]
  cases bt (Y 12 w) t <;> simp [b2i]
theorem liveX (h : Rel X Y) {w : Nat} (hw : w < nN Y) : X 24 w = 0 ↔ liveP Y w = false := by rw [h.2.lv w hw]; exact b2i_0
theorem cX_heads (h : Rel X Y) {v : Nat} (hv : v < 32) : zPf SX 0 mX2_heads [.ref 19, .int (nI v)] X (nI (headsY Y v)) := by
  have hn := h.2.ns.trans h.1.n; have hn2 := h.1.n2
  refine eX2_heads _ X _ (zdown0 (P := fun i => LX2_heads_4 _ X (nI v) (nI (fb_ct (headP Y v) i)) (nI i)) (nN Y) ?_ ?_)
  · exact bX2_heads_4 _ X _ _ _ ⟨fun _ => rfl, fun hc => absurd (loE (n := nN Y) hn (by omega)) hc⟩
  · intro i hi ih
    rw [← nI_1 i] at ih
    refine bX2_heads_4 _ X _ _ _ ⟨fun hc => absurd hc (loB (n := nN Y) hn hi (by omega)), fun _ => ?_⟩
    refine ⟨i, rfl, by omega, fun e => ?_, fun e => ⟨i, rfl, by omega, ?_⟩⟩
    · have e := (liveX h hi).mp e
      rw [← ct_f (p := headP Y v) (i := i) (by simp only [liveP] at e; simp [headP, e]), show nI (fb_ct (headP Y v) i) + 0 = nI (fb_ct (headP Y v) i) from Int32.add_zero _] at ih
      exact ih
    · have e : liveP Y i = true := by
        cases q : liveP Y i with
        | true => rfl
        | false => exact absurd ((liveX h hi).mpr q) e
      rw [h.2.hadx, zb _ hv]
      cases q : bt (Y 13 i) v with
      | false => rw [b2i_f, ct_f (p := headP Y v) (i := i) (by simp [headP, q])]; exact ih
      | true => rw [b2i_t, ct_t (p := headP Y v) (i := i) (by simp only [liveP] at e; simp [headP, e, q])]; exact ih
def byLiv (Y : zX) : Int32 := orx (liveP Y) (Y 13) (nN Y)
theorem cX_hadByLiving (h : Rel X Y) : zPf SX 0 mX2_hadByLiving [.ref 19] X (byLiv Y) := by
  have hn := h.2.ns.trans h.1.n; have hn2 := h.1.n2
  refine eX2_hadByLiving _ X (zdown0 (P := fun i => LX2_hadByLiving_4 _ X (orx (liveP Y) (Y 13) i) (nI i)) (nN Y) ?_ ?_)
  · exact bX2_hadByLiving_4 _ X _ _ ⟨fun _ => rfl, fun hc => absurd (loE (n := nN Y) hn (by omega)) hc⟩
  · intro i hi ih
    rw [← nI_1 i] at ih
    refine bX2_hadByLiving_4 _ X _ _ ⟨fun hc => absurd hc (loB (n := nN Y) hn hi (by omega)), fun _ => ?_⟩
    refine ⟨i, rfl, by omega, fun e => ?_, fun e => ⟨i, rfl, by omega, ?_⟩⟩
    · rw [← orx_f ((liveX h hi).mp e)] at ih; exact ih
    · have e : liveP Y i = true := by
        cases q : liveP Y i with
        | true => rfl
        | false => exact absurd ((liveX h hi).mpr q) e
      rw [h.2.hadx, orx_t e]; exact ih
theorem cX_howManyLive (h : Rel X Y) : zPf SX 0 mX2_howManyLive [.ref 19] X (nI (fb_ct (liveP Y) (nN Y))) := by
  have hn := h.2.ns.trans h.1.n; have hn2 := h.1.n2
  refine eX2_howManyLive _ X (zdown0 (P := fun i => LX2_howManyLive_4 _ X (nI (fb_ct (liveP Y) i)) (nI i)) (nN Y) ?_ ?_)
  · exact bX2_howManyLive_4 _ X _ _ ⟨fun _ => rfl, fun hc => absurd (loE (n := nN Y) hn (by omega)) hc⟩
  · intro i hi ih
    rw [← nI_1 i] at ih
    refine bX2_howManyLive_4 _ X _ _ ⟨fun hc => absurd hc (loB (n := nN Y) hn hi (by omega)), fun _ => ?_⟩
    refine ⟨i, rfl, by omega, fun e => ?_, fun e => ?_⟩
    · rw [← ct_f ((liveX h hi).mp e), show nI (fb_ct (liveP Y) i) + 0 = nI (fb_ct (liveP Y) i) from Int32.add_zero _] at ih; exact ih
    · have e : liveP Y i = true := by
        cases q : liveP Y i with
        | true => rfl
        | false => exact absurd ((liveX h hi).mpr q) e
      rw [ct_t e]; exact ih
def atP (Y : zX) (x : Int32) : Nat → Bool := fun v => bt x (n32 (Y 4 v))
theorem at_eq (h : Rel X Y) (x : Int32) : orx (bt x) (X 18) 12 = bs (atP Y x) (nV Y) := by
  apply b_ext
  intro k hk
  have hv2 := h.1.v2; have hp2 := h.1.p2
  rw [bt_orx, bt_bs _ (by omega) hk, Bool.eq_iff_iff, anyB_iff, Bool.and_eq_true, decide_eq_true_eq]
  constructor
  · rintro ⟨p, hp, e⟩
    rw [Bool.and_eq_true, h.2.atPlace p hp, bt_bs _ (by omega) hk, Bool.and_eq_true, decide_eq_true_eq] at e
    obtain ⟨e1, e2, e3⟩ := e
    have e3 : Y 4 k = nI p := by simpa using e3
    refine ⟨e2, ?_⟩
    unfold atP
    rw [e3, n32_nI (by omega)]
    exact e1
  · rintro ⟨e1, e2⟩
    have ha := h.1.at_ k e1
    have hlt : n32 (Y 4 k) < 12 := by have := ha.2; omega
    refine ⟨n32 (Y 4 k), hlt, ?_⟩
    rw [Bool.and_eq_true, h.2.atPlace _ hlt, bt_bs _ (by omega) hk, Bool.and_eq_true, decide_eq_true_eq]
    exact ⟨e2, e1, by simpa using ha.1⟩
theorem cX_versesAt (h : Rel X Y) (x : Int32) : zPf SX 0 mX6_versesAt [.ref 4, .int x] X (bs (atP Y x) (nV Y)) := by
  rw [← at_eq h x]
  refine eX6_versesAt _ X _ (zdown0 (P := fun i => LX6_versesAt_4 _ X x (orx (bt x) (X 18) i) (nI i)) (12) ?_ ?_)
  · exact bX6_versesAt_4 _ X _ _ _ ⟨fun _ => rfl, fun hc => absurd (loE (n := 12) (x := 12) rfl (by omega)) hc⟩
  · intro i hi ih
    rw [← nI_1 i] at ih
    refine bX6_versesAt_4 _ X _ _ _ ⟨fun hc => absurd hc (loB (n := 12) (x := 12) rfl hi (by omega)), fun _ => ?_⟩
    rw [zb1 (by omega)]
    refine ⟨fun e => ?_, fun e => ⟨i, rfl, hi, ?_⟩⟩
    · rw [← orx_f (p := bt x) (i := i) (by simpa using e)] at ih; exact ih
    · rw [orx_t e]; exact ih
def openP (Y : zX) (k : Int32) : Nat → Bool := fun v => Y 7 v == -4 || Y 7 v == k
theorem cX_openOrHeldBy (h : Rel X Y) (k : Int32) : zPf SX 0 mX6_openOrHeldBy [.ref 4, .int k] X (bs (openP Y k) (nV Y)) := by
  have hn := h.2.vs.trans h.1.v; have hn2 := h.1.v2
  refine eX6_openOrHeldBy _ X _ (zdown0 (P := fun i => LX6_openOrHeldBy_4 _ X k (bs (openP Y k) i) (nI i)) (nV Y) ?_ ?_)
  · exact bX6_openOrHeldBy_4 _ X _ _ _ ⟨fun _ => rfl, fun hc => absurd (loE (n := nV Y) hn (by omega)) hc⟩
  · intro i hi ih
    rw [← nI_1 i] at ih
    refine bX6_openOrHeldBy_4 _ X _ _ _ ⟨fun hc => absurd hc (loB (n := nV Y) hn hi (by omega)), fun _ => ?_⟩
    rw [h.2.hd]
    refine ⟨i, rfl, by omega, fun e => ?_, fun e => ⟨i, rfl, by omega, fun e2 => ?_, fun e2 => ?_⟩⟩
    · rw [bs_t (p := openP Y k) (by simp [openP, e])]; exact ih
    · rw [bs_f2 (p := openP Y k) (by simp [openP, e, e2])] at ih; exact ih
    · rw [bs_t (p := openP Y k) (by simp [openP, e2])]; exact ih
theorem bs_bsx {x : Int32} {g : Nat → Nat} {i : Nat} {y : Int32} (h : bt x i = true) (hy : y = nI (g i)) : bsx (bt x) g i ||| zshl 1 y = bsx (bt x) g (i + 1) := by rw [hy, bsx_t h]
theorem cX_placesOf (h : Rel X Y) (x : Int32) : zPf SX 0 mX6_placesOf [.ref 4, .int x] X (bsx (bt x) (fun v => n32 (Y 4 v)) (nV Y)) := by
  have hn := h.2.vs.trans h.1.v; have hn2 := h.1.v2
  refine eX6_placesOf _ X _ (zdown0 (P := fun i => LX6_placesOf_4 _ X x (bsx (bt x) (fun v => n32 (Y 4 v)) i) (nI i)) (nV Y) ?_ ?_)
  · exact bX6_placesOf_4 _ X _ _ _ ⟨fun _ => rfl, fun hc => absurd (loE (n := nV Y) hn (by omega)) hc⟩
  · intro i hi ih
    rw [← nI_1 i] at ih
    refine bX6_placesOf_4 _ X _ _ _ ⟨fun hc => absurd hc (loB (n := nV Y) hn hi (by omega)), fun _ => ?_⟩
    rw [zb1 (by omega), h.2.pl]
    refine ⟨fun e => ?_, fun e => ⟨i, rfl, by omega, ?_⟩⟩
    · rw [bsx_f2 (p := bt x) (by simpa using e)] at ih; exact ih
    · rw [bs_bsx (g := fun v => n32 (Y 4 v)) e (h.1.at_ i hi).1]; exact ih
theorem cX_songsOf (h : Rel X Y) (x : Int32) : zPf SX 0 mX6_songsOf [.ref 4, .int x] X (bsx (bt x) (fun v => n32 (Y 3 v)) (nV Y)) := by
  have hn := h.2.vs.trans h.1.v; have hn2 := h.1.v2
  refine eX6_songsOf _ X _ (zdown0 (P := fun i => LX6_songsOf_4 _ X x (bsx (bt x) (fun v => n32 (Y 3 v)) i) (nI i)) (nV Y) ?_ ?_)
  · exact bX6_songsOf_4 _ X _ _ _ ⟨fun _ => rfl, fun hc => absurd (loE (n := nV Y) hn (by omega)) hc⟩
  · intro i hi ih
    rw [← nI_1 i] at ih
    refine bX6_songsOf_4 _ X _ _ _ ⟨fun hc => absurd hc (loB (n := nV Y) hn hi (by omega)), fun _ => ?_⟩
    rw [zb1 (by omega), h.2.sg]
    refine ⟨fun e => ?_, fun e => ⟨i, rfl, by omega, ?_⟩⟩
    · rw [bsx_f2 (p := bt x) (by simpa using e)] at ih; exact ih
    · rw [bs_bsx (g := fun v => n32 (Y 3 v)) e (h.1.song i hi).1]; exact ih
def kinP (Y : zX) (x : Int32) : Nat → Bool := fun v => bt x v && !(Y 7 v == -4)
theorem cX_kinsOf (h : Rel X Y) (x : Int32) : zPf SX 0 mX6_kinsOf [.ref 4, .int x] X (bsx (kinP Y x) (fun v => n32 (Y 7 v)) (nV Y)) := by
  have hn := h.2.vs.trans h.1.v; have hn2 := h.1.v2
  refine eX6_kinsOf _ X _ (zdown0 (P := fun i => LX6_kinsOf_4 _ X x (bsx (kinP Y x) (fun v => n32 (Y 7 v)) i) (nI i)) (nV Y) ?_ ?_)
  · exact bX6_kinsOf_4 _ X _ _ _ ⟨fun _ => rfl, fun hc => absurd (loE (n := nV Y) hn (by omega)) hc⟩
  · intro i hi ih
    rw [← nI_1 i] at ih
    refine bX6_kinsOf_4 _ X _ _ _ ⟨fun hc => absurd hc (loB (n := nV Y) hn hi (by omega)), fun _ => ?_⟩
    rw [zb1 (by omega), h.2.hd]
    refine ⟨fun e => ?_, fun e => ⟨i, rfl, by omega, fun e2 => ?_, fun e2 => ⟨i, rfl, by omega, ?_⟩⟩⟩
    · rw [bsx_f2 (p := kinP Y x) (by simp [kinP, e])] at ih; exact ih
    · rw [bsx_f2 (p := kinP Y x) (by simp [kinP, e2])] at ih; exact ih
    · have hh := ((h.1.held i hi).resolve_left e2).1
      have e3 := bsx_t (p := kinP Y x) (g := fun v => n32 (Y 7 v)) (i := i) (by simp [kinP, e, e2])
      simp only [← hh] at e3
      rw [e3]; exact ih
def forP (Y : zX) (x t : Int32) : Nat → Bool := fun v => bt x v && !bt t (n32 (Y 5 v))
theorem cX_firstForeign (h : Rel X Y) (x t : Int32) : zPf SX 0 mX6_firstForeign [.ref 4, .int x, .int t] X (fstF (forP Y x t) (nV Y) 0) := by
  have hn := h.2.vs.trans h.1.v; have hn2 := h.1.v2
  refine eX6_firstForeign _ X _ _ ?_
  refine (zdown0 (P := fun i => fstF (forP Y x t) (nV Y) 0 = fstF (forP Y x t) (nV Y - i) i → LX6_firstForeign_2 (fstF (forP Y x t) (nV Y) 0) X x t (nI i)) (nV Y) ?_ ?_) rfl
  · intro e
    rw [Nat.sub_self] at e
    exact bX6_firstForeign_2 _ X _ _ _ ⟨fun _ => e.symm, fun hc => absurd (loE (n := nV Y) hn (by omega)) hc⟩
  · intro i hi ih e
    rw [← nI_1] at ih
    rw [fstF_s _ hi] at e
    refine bX6_firstForeign_2 _ X _ _ _ ⟨fun hc => absurd hc (loB (n := nV Y) hn hi (by omega)), fun _ => ?_⟩
    rw [zb1 (by omega), h.2.tg]
    have hz := zb0N (x := t) (h.1.tongue i hi) (by decide)
    refine ⟨fun e1 => ih ?_, fun e1 => ⟨i, rfl, by omega, fun e2 => ih ?_, fun e2 => ?_⟩⟩
    · rw [if_neg (by simp [forP, e1])] at e; exact e
    · rw [hz] at e2
      rw [if_neg (by simp [forP, e2])] at e; exact e
    · rw [hz] at e2
      rw [if_pos (by simp [forP, e1, e2])] at e; exact e.symm
def innY (Y : zX) (v : Nat) : Bool := decide (0 < n32 (Y 8 v)) && decide (n32 (Y 8 v) + 1 < lenY Y (Y 3 v))
theorem lenX (h : Rel X Y) {v : Nat} (hv : v < nV Y) : X 16 (n32 (Y 3 v)) = nI (lenY Y (Y 3 v)) := by
  have hs := h.1.song v hv
  rw [h.2.length _ hs.2, ← hs.1]; rfl
def brkP (Y : zX) (x : Int32) : Nat → Bool := fun v => bt x v && innY Y v
theorem cX_brokenBy (h : Rel X Y) (x : Int32) : zPf SX 0 mX6_brokenBy [.ref 4, .int x] X (bsx (brkP Y x) (fun v => n32 (Y 3 v)) (nV Y)) := by
  have hn := h.2.vs.trans h.1.v; have hn2 := h.1.v2
  refine eX6_brokenBy _ X _ (zdown0 (P := fun i => LX6_brokenBy_4 _ X x (bsx (brkP Y x) (fun v => n32 (Y 3 v)) i) (nI i)) (nV Y) ?_ ?_)
  · exact bX6_brokenBy_4 _ X _ _ _ ⟨fun _ => rfl, fun hc => absurd (loE (n := nV Y) hn (by omega)) hc⟩
  · intro i hi ih
    rw [← nI_1 i] at ih
    refine bX6_brokenBy_4 _ X _ _ _ ⟨fun hc => absurd hc (loB (n := nV Y) hn hi (by omega)), fun _ => ?_⟩
    have hs := h.1.song i hi
    obtain ⟨n1, -, n3⟩ := numY h.1 hi
    have hl := lenY_le h.1 (Y 3 i)
    have ihf : brkP Y x i = false → LX6_brokenBy_4 _ X x (bsx (brkP Y x) (fun v => n32 (Y 3 v)) i) (nI i + 1) := fun q => by rw [bsx_f2 q] at ih; exact ih
    rw [zb1 (by omega), h.2.sg, h.2.nb]
    have e0 : Y 8 i ≤ 0 ↔ n32 (Y 8 i) = 0 := by
      rw [n1, show (0 : Int32) = nI 0 from rfl, nI_leI (by omega) (by omega), n32_nI (by omega)]; omega
    have e1 : X 16 (n32 (Y 3 i)) ≤ Y 8 i + 1 ↔ lenY Y (Y 3 i) ≤ n32 (Y 8 i) + 1 := by
      rw [lenX h hi, n1, nI_1, nI_leI (by omega) (by omega), n32_nI (by omega)]
    refine ⟨i, rfl, by omega, fun a => ⟨fun _ => ihf ?_, fun _ => ihf ?_⟩, fun a => ⟨i, rfl, by omega, i, rfl, by omega, n32 (Y 3 i), hs.1, hs.2, fun b => ⟨fun _ => ihf ?_, fun _ => ihf ?_⟩, fun b => ⟨fun q => ihf ?_, fun q => ⟨i, rfl, by omega, ?_⟩⟩⟩⟩
    · simp [brkP, innY, e0.mp a]
    · simp [brkP, innY, e0.mp a]
    · rw [e1] at b
      simp only [brkP, innY, Bool.and_eq_false_iff, decide_eq_false_iff_not]; right; right; omega
    · rw [e1] at b
      simp only [brkP, innY, Bool.and_eq_false_iff, decide_eq_false_iff_not]; right; right; omega
    · simp [brkP, q]
    · rw [e0] at a
      rw [e1] at b
      have e3 := bsx_t (p := brkP Y x) (g := fun v => n32 (Y 3 v)) (i := i) (by simp only [brkP, innY, Bool.and_eq_true, decide_eq_true_eq]; exact ⟨q, by omega, by omega⟩)
      simp only [← hs.1] at e3
      rw [e3]; exact ih
theorem ordX (h : Rel X Y) {s k : Nat} (hs : s < 4) (hk : k < lenY Y (nI s)) : X (12 + s) k = vby Y (nI s) (nI k) (nV Y) := by
  obtain ⟨u, a, b, c, d, e⟩ := vby_at h.1 (nI s) hk
  have o := h.2.order u a
  rw [b, n32_nI (by omega), c] at o
  rw [o, e]
theorem cX_following (h : Rel X Y) {v : Nat} (hv : v < nV Y) : zPf SX 0 mX6_following [.ref 4, .int (nI v)] X (vby Y (Y 3 v) (Y 8 v + 1) (nV Y)) := by
  have hn2 := h.1.v2
  have hs := h.1.song v hv
  obtain ⟨n1, -, n3⟩ := numY h.1 hv
  have hl := lenY_le h.1 (Y 3 v)
  have e1 : X 16 (n32 (Y 3 v)) ≤ Y 8 v + 1 ↔ lenY Y (Y 3 v) ≤ n32 (Y 8 v) + 1 := by
    rw [lenX h hv, n1, nI_1, nI_leI (by omega) (by omega), n32_nI (by omega)]
  refine eX6_following _ X _ ?_
  rw [h.2.sg, h.2.nb]
  refine ⟨v, rfl, by omega, v, rfl, by omega, n32 (Y 3 v), hs.1, hs.2, fun a => ?_, fun a => ⟨v, rfl, by omega, n32 (Y 3 v), hs.1, hs.2, n32 (Y 8 v) + 1, by rw [n1, nI_1, n32_nI (by omega)], ?_, ?_⟩⟩
  · rw [e1] at a
    refine (vby_out h.1 _ (fun k hk q => ?_)).symm
    rw [n1, nI_1] at q
    have := nI_inj (by omega) (by omega) q
    omega
  · rw [e1] at a; omega
  · rw [e1] at a
    rw [ordX h hs.2 (by rw [← hs.1]; omega), ← hs.1, ← nI_1, ← n1]
theorem cX_preceding (h : Rel X Y) {v : Nat} (hv : v < nV Y) : zPf SX 0 mX6_preceding [.ref 4, .int (nI v)] X (if Y 8 v = 0 then -4 else vby Y (Y 3 v) (Y 8 v - 1) (nV Y)) := by
  have hn2 := h.1.v2
  have hs := h.1.song v hv
  obtain ⟨n1, -, n3⟩ := numY h.1 hv
  have hl := lenY_le h.1 (Y 3 v)
  have e1 : Y 8 v - 1 < 0 ↔ Y 8 v = 0 := by
    rw [fa_lt, n1, nI_sub1 (by omega), show (0 : Int32) = nI 0 from rfl, nI_eq (by omega) (by omega), nI_toInt (by omega)]
    omega
  refine eX6_preceding _ X _ ?_
  rw [h.2.sg, h.2.nb]
  refine ⟨v, rfl, by omega, fun a => ?_, fun a => ?_⟩
  · rw [e1] at a; rw [if_pos a]
  · rw [e1] at a
    have hp : 0 < n32 (Y 8 v) := by
      apply Nat.pos_of_ne_zero
      intro q
      rw [q] at n1
      exact a n1
    have e3 : Y 8 v - 1 = nI (n32 (Y 8 v) - 1) := by
      obtain ⟨k, hk⟩ : ∃ k, n32 (Y 8 v) = k + 1 := ⟨n32 (Y 8 v) - 1, by omega⟩
      rw [n1, hk, nI_pred, n32_nI (by omega)]; rfl
    refine ⟨v, rfl, by omega, n32 (Y 3 v), hs.1, hs.2, n32 (Y 8 v) - 1, e3, by omega, ?_⟩
    rw [if_neg a, ordX h hs.2 (by rw [← hs.1]; omega), ← hs.1, ← e3]
theorem cX_pairedWith (h : Rel X Y) (x : Int32) : zPf SX 0 mX4_pairedWith [.ref 54, .int x] X (orx (bt x) (Y 17) 24) := by
  refine eX4_pairedWith _ X _ (zdown0 (P := fun i => LX4_pairedWith_4 _ X x (orx (bt x) (Y 17) i) (nI i)) (24) ?_ ?_)
  · exact bX4_pairedWith_4 _ X _ _ _ ⟨fun _ => rfl, fun hc => absurd (loE (n := 24) (x := 24) rfl (by omega)) hc⟩
  · intro i hi ih
    rw [← nI_1 i] at ih
    refine bX4_pairedWith_4 _ X _ _ _ ⟨fun hc => absurd hc (loB (n := 24) (x := 24) rfl hi (by omega)), fun _ => ?_⟩
    rw [zb1 (by omega)]
    refine ⟨fun e => ?_, fun e => ⟨i, rfl, hi, ?_⟩⟩
    · rw [← orx_f (p := bt x) (i := i) (by simpa using e)] at ih; exact ih
    · rw [h.2.pr i hi, orx_t e]; exact ih
end XS
