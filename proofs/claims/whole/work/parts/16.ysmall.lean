theorem ct_t {p : Nat → Bool} {i : Nat} (h : p i = true) : nI (fb_ct p i) + 1 = nI (fb_ct p (i + 1)) := by rw [nI_1, fb_ct_succ, if_pos h]
theorem ct_f {p : Nat → Bool} {i : Nat} (h : p i = false) : nI (fb_ct p i) + 0 = nI (fb_ct p (i + 1)) := by
  rw [show (0 : Int32) = nI 0 from rfl, nI_add, fb_ct_succ, h]; rfl
theorem or0 (x : Int32) : x ||| 0 = x := by apply b_ext; intro i _; rw [b_or, b_0, Bool.or_false]
theorem bsx_t {p : Nat → Bool} {g : Nat → Nat} {i : Nat} (h : p i = true) : bsx p g i ||| zshl 1 (nI (g i)) = bsx p g (i + 1) := by rw [bsx_succ, if_pos h]
theorem bsx_f {p : Nat → Bool} {g : Nat → Nat} {i : Nat} (h : p i = false) : bsx p g i ||| 0 = bsx p g (i + 1) := by rw [bsx_succ, h]; rfl
theorem bsx_f2 {p : Nat → Bool} {g : Nat → Nat} {i : Nat} (h : p i = false) : bsx p g (i + 1) = bsx p g i := by rw [bsx_succ, h]; exact or0 _
theorem bs_t {p : Nat → Bool} {i : Nat} (h : p i = true) : bs p i ||| zshl 1 (nI i) = bs p (i + 1) := by rw [bs_succ, if_pos h]
theorem bs_f {p : Nat → Bool} {i : Nat} (h : p i = false) : bs p i ||| 0 = bs p (i + 1) := by rw [bs_succ, h]; rfl
theorem bs_f2 {p : Nat → Bool} {i : Nat} (h : p i = false) : bs p (i + 1) = bs p i := by rw [bs_succ, h]; exact or0 _
theorem bs_0 (p : Nat → Bool) : bs p 0 = 0 := rfl
theorem loE {x : Int32} {n : Nat} (hx : x = nI n) (hn : n < 2 ^ 31) : x ≤ nI n := by rw [hx]; exact nI_le (Nat.le_refl _) hn
theorem loB {x : Int32} {n i : Nat} (hx : x = nI n) (h : i < n) (hn : n < 2 ^ 31) : ¬ x ≤ nI i := by rw [hx]; exact nI_ge h hn
/-- a bit, as the code asks for it -/
theorem zb1 {x : Int32} {k : Nat} (hk : k < 32) : (zshr x (nI k) &&& 1) = 1 ↔ bt x k = true := by rw [zb x hk]; exact b2i_1
theorem zb0 {x : Int32} {k : Nat} (hk : k < 32) : (zshr x (nI k) &&& 1) = 0 ↔ bt x k = false := by rw [zb x hk]; exact b2i_0
/-- the last verse below i of that song with that number -/
def vby (Y : zX) (s n : Int32) : Nat → Int32
  | 0 => -4
  | i + 1 => if Y 3 i = s ∧ Y 8 i = n then nI i else vby Y s n i
def ageY (Y : zX) (w : Nat) : Int32 := Y 10 w + Y 0 17 - Y 11 w
def headP (Y : zX) (v : Nat) : Nat → Bool := fun w => Y 14 w == 0 && bt (Y 13 w) v
def headsY (Y : zX) (v : Nat) : Nat := fb_ct (headP Y v) (nN Y)
theorem zb1N {x y : Int32} {b : Nat} (h : isN y b) (hb : b ≤ 32) : (zshr x y &&& 1) = 1 ↔ bt x (n32 y) = true := by
  obtain ⟨h1, h2⟩ := h
  generalize n32 y = k at h1 h2 ⊢
  subst h1
  exact zb1 (by omega)
theorem zb0N {x y : Int32} {b : Nat} (h : isN y b) (hb : b ≤ 32) : (zshr x y &&& 1) = 0 ↔ bt x (n32 y) = false := by
  obtain ⟨h1, h2⟩ := h
  generalize n32 y = k at h1 h2 ⊢
  subst h1
  exact zb0 (by omega)
def wetY (Y : zX) (p : Nat) : Bool := bt (Y 2 p) (n32 (Y 0 18)) && !(!(Y 16 p == -4) && decide (Y 16 p ≤ Y 0 17))
def hearY (Y : zX) (w v : Nat) : Bool := Y 7 v == -4 || Y 7 v == Y 9 w || bt (Y 15 (n32 (Y 7 v))) (n32 (Y 9 w))
def singY (Y : zX) (w v : Nat) : Bool := (Y 7 v == -4 || Y 7 v == Y 9 w) && bt (Y 13 w) v && Y 14 w == 0 && decide (Y 0 19 ≤ ageY Y w)
theorem cY_verseBy (Y : zX) (h : IY Y) (s n : Int32) : zPf SY 0 mX10_verseBy [.ref 0, .int s, .int n] Y (vby Y s n (nV Y)) := by
  have hv := h.v; have hv2 := h.v2
  refine eX10_verseBy _ Y s n (zdown0 (P := fun i => LX10_verseBy_6 _ Y s n (vby Y s n i) (nI i)) (nV Y) ?_ ?_)
  · exact bX10_verseBy_6 _ Y s n _ _ ⟨fun _ => rfl, fun hc => absurd (loE hv (by omega)) hc⟩
  · intro i hi ih
    rw [← nI_1] at ih
    refine bX10_verseBy_6 _ Y s n _ _ ⟨fun hc => absurd hc (loB hv hi (by omega)), fun _ => ⟨i, rfl, by omega, fun e => ?_, fun e => ⟨i, rfl, by omega, fun e2 => ?_, fun e2 => ?_⟩⟩⟩
    · rw [show vby Y s n (i + 1) = vby Y s n i from if_neg (fun q => e q.1)] at ih; exact ih
    · rw [show vby Y s n (i + 1) = vby Y s n i from if_neg (fun q => e2 q.2)] at ih; exact ih
    · rw [show vby Y s n (i + 1) = nI i from if_pos ⟨e, e2⟩] at ih; exact ih
theorem cY_hasIt (Y : zX) {w v : Nat} (hw : w < 8) (hv : v < 32) : zPf SY 0 mX10_hasIt [.ref 0, .int (nI w), .int (nI v)] Y (b2i (bt (Y 13 w) v)) := by
  refine eX10_hasIt _ Y _ _ ⟨w, rfl, hw, ?_⟩
  rw [zb1 hv]
  cases bt (Y 13 w) v <;> simp [b2i]
theorem cY_ageOf (Y : zX) {w : Nat} (hw : w < 8) : zPf SY 0 mX10_ageOf [.ref 0, .int (nI w)] Y (ageY Y w) :=
  eX10_ageOf _ Y _ ⟨w, rfl, hw, w, rfl, hw, rfl⟩
theorem cY_headsOf (Y : zX) (h : IY Y) {v : Nat} (hv : v < 32) : zPf SY 1 mX10_headsOf [.ref 0, .int (nI v)] Y (nI (headsY Y v)) := by
  have hn := h.n; have hn2 := h.n2
  refine eX10_headsOf _ Y _ (zdown0 (P := fun i => LX10_headsOf_4 _ Y (nI v) (nI (fb_ct (headP Y v) i)) (nI i)) (nN Y) ?_ ?_)
  · exact bX10_headsOf_4 _ Y _ _ _ ⟨fun _ => rfl, fun hc => absurd (loE hn (by omega)) hc⟩
  · intro i hi ih
    refine bX10_headsOf_4 _ Y _ _ _ ⟨fun hc => absurd hc (loB hn hi (by omega)), fun _ => ⟨i, rfl, by omega, fun e => ?_, fun e => ⟨_, cY_hasIt Y (by omega) hv, fun e2 => ?_, fun e2 => ?_⟩⟩⟩
    · rw [ct_f (p := headP Y v) (i := i) (by simp [headP, e]), nI_1]; exact ih
    · rw [ct_f (p := headP Y v) (i := i) (by simp [headP, b2i_0.mp e2]), nI_1]; exact ih
    · rw [ct_t (p := headP Y v) (i := i) (by simp [headP, e, b2i_n.mp e2]), nI_1]; exact ih
theorem cY_hasWater (Y : zX) (h : IY Y) {p : Nat} (hp : p < 12) : zPf SY 0 mX10_hasWater [.ref 0, .int (nI p)] Y (b2i (wetY Y p)) := by
  have hs := h.season
  have hb : ∀ x, (zshr x (Y 0 18) &&& 1) = 1 ↔ bt x (n32 (Y 0 18)) = true := fun x => zb1N hs (by decide)
  refine eX10_hasWater _ Y _ ?_
  have hle : Y 0 17 < Y 16 p ↔ ¬ Y 16 p ≤ Y 0 17 := by rw [fa_lt, fa_le]; omega
  (repeat' first | refine ⟨_, rfl, by omega, ?_⟩ | apply And.intro | intro _)
  all_goals simp_all [wetY, b2i]
theorem cY_mayHear (Y : zX) (h : IY Y) {w v : Nat} (hw : w < nN Y) (hv : v < nV Y) : zPf SY 0 mX10_mayHear [.ref 0, .int (nI w), .int (nI v)] Y (b2i (hearY Y w v)) := by
  have hn2 := h.n2; have hv2 := h.v2
  have hk := h.kin w hw
  have hh := h.held v hv
  refine eX10_mayHear _ Y _ _ ⟨v, rfl, by omega, fun e => ?_, fun e => ⟨v, rfl, by omega, w, rfl, by omega, fun e2 => ?_, fun e2 => ?_⟩⟩
  · simp [hearY, e, b2i]
  · simp [hearY, e2, b2i]
  · have hh := hh.resolve_left e
    refine ⟨v, rfl, by omega, n32 (Y 7 v), hh.1, hh.2, w, rfl, by omega, ?_⟩
    have hb : (zshr (Y 15 (n32 (Y 7 v))) (Y 9 w) &&& 1) = 1 ↔ bt (Y 15 (n32 (Y 7 v))) (n32 (Y 9 w)) = true := zb1N hk (by decide)
    rw [hb]
    cases hc : bt (Y 15 (n32 (Y 7 v))) (n32 (Y 9 w)) <;> simp [hearY, e, e2, hc, b2i]
theorem nlt_le {a b : Int32} : ¬ a < b ↔ b ≤ a := by rw [fa_lt, fa_le]; omega
theorem lt_nle {a b : Int32} : a < b ↔ ¬ b ≤ a := by rw [fa_lt, fa_le]; omega
theorem cY_maySing (Y : zX) (h : IY Y) {w v : Nat} (hw : w < nN Y) (hv : v < nV Y) : zPf SY 1 mX10_maySing [.ref 0, .int (nI w), .int (nI v)] Y (b2i (singY Y w v)) := by
  have hn2 := h.n2; have hv2 := h.v2
  refine eX10_maySing _ Y _ _ ?_
  (repeat' first | refine ⟨_, rfl, by omega, ?_⟩ | refine ⟨_, cY_hasIt Y (by omega) (by omega), ?_⟩ | refine ⟨_, cY_ageOf Y (by omega), ?_⟩ | apply And.intro | intro _)
  all_goals clear h hn2 hv2
  all_goals simp_all [singY, b2i]
theorem cY_countOf (Y : zX) (x : Int32) : zPf SY 0 mX10_countOf [.int x] Y (nI (fb_ct (bt x) 24)) := by
  refine eX10_countOf _ Y x (zdown0 (P := fun i => LX10_countOf_4 _ Y x (nI (fb_ct (bt x) i)) (nI i)) 24 ?_ ?_)
  · exact bX10_countOf_4 _ Y _ _ _ ⟨fun _ => rfl, fun hc => absurd (loE (x := 24) (n := 24) rfl (by omega)) hc⟩
  · intro i hi ih
    refine bX10_countOf_4 _ Y _ _ _ ⟨fun hc => absurd hc (loB (x := 24) (n := 24) rfl hi (by omega)), fun _ => ?_⟩
    rw [zb x (by omega)]
    rw [← nI_1] at ih
    cases hb : bt x i with
    | false => rw [b2i_f, ct_f (p := bt x) hb]; exact ih
    | true => rw [b2i_t, ct_t (p := bt x) hb]; exact ih
