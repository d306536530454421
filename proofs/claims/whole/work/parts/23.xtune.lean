section XT
variable {X Y : zX}
theorem cX_stepFrom (h : Rel X Y) {s i d : Nat} (hs : s < 4) (h1 : i < lenY Y (nI s)) (h2 : i + d < lenY Y (nI s)) {x : Int32} (hx : x = nI d) : zPf SX 0 mX9_stepFrom [.ref 0, .int (nI s), .int (nI i), .int x] X (stpY Y (nI s) i d) := by
  have hl := lenY_le h.1 (nI s); have hv2 := h.1.v2; have hp2 := h.1.p2
  obtain ⟨a1, a2, -, -⟩ := vn_ok h.1 (nI s) h1
  obtain ⟨b1, b2, -, -⟩ := vn_ok h.1 (nI s) h2
  have a := h.1.at_ _ a2; have b := h.1.at_ _ b2
  refine eX9_stepFrom _ X _ _ _ ?_
  rw [h.2.pl, h.2.hgt]
  refine ⟨s, rfl, hs, i, rfl, by omega, vn Y (nI s) i, (ordX h hs h1).trans a1, by omega, n32 (Y 4 (vn Y (nI s) i)), a.1, by have := a.2; omega, s, rfl, hs, i + d, by rw [hx, nI_add], by omega, vn Y (nI s) (i + d), (ordX h hs h2).trans b1, by omega, n32 (Y 4 (vn Y (nI s) (i + d))), b.1, by have := b.2; omega, ?_⟩
  unfold stpY goesY
  generalize Y 1 (n32 (Y 4 (vn Y (nI s) (i + d)))) = p
  generalize Y 1 (n32 (Y 4 (vn Y (nI s) i))) = q
  refine ⟨fun e => ⟨fun e2 => ?_, fun e2 => ?_⟩, fun e => ?_⟩
  · rw [if_neg e, if_neg (by rw [fa_le] at e2; rw [fa_lt]; omega)]
  · rw [if_neg e, if_pos (by rw [fa_le] at e2; rw [fa_lt]; omega)]
  · rw [if_pos e]
theorem cX_pieceFrom (h : Rel X Y) {v m : Nat} (hv : v < nV Y) (hm : m < 100) : zPf SX 1 mX9_pieceFrom [.ref 0, .int (nI v), .int (nI m)] X (if n32 (Y 8 v) + m < lenY Y (Y 3 v) then pcF Y (Y 3 v) (n32 (Y 8 v)) 0 m else -4) := by
  have hv2 := h.1.v2; have hl := lenY_le h.1 (Y 3 v)
  obtain ⟨n1, -, n3⟩ := numY h.1 hv
  have hs := h.1.song v hv
  refine eX9_pieceFrom _ X _ _ ?_
  rw [h.2.sg, h.2.nb]
  refine ⟨v, rfl, by omega, v, rfl, by omega, n32 (Y 3 v), hs.1, hs.2, ?_⟩
  have e : Y 8 v + nI m < X 16 (n32 (Y 3 v)) ↔ n32 (Y 8 v) + m < lenY Y (Y 3 v) := by
    rw [lenX h hv, n1, nI_add, nI_ltI (by omega) (by omega), n32_nI (by omega)]
  rw [e]
  refine ⟨fun q => ?_, fun q => by rw [if_neg q]⟩
  rw [if_pos q]
  have key : ∀ i, i ≤ m → LX9_pieceFrom_47 (pcF Y (Y 3 v) (n32 (Y 8 v)) 0 m) X (nI m) (Y 3 v) (Y 8 v) (pcF Y (Y 3 v) (n32 (Y 8 v)) 0 i) (nI (n32 (Y 8 v) + i)) := by
    refine zdown ?_ ?_
    · refine bX9_pieceFrom_47 _ X _ _ _ _ _ ⟨fun _ => rfl, fun hc => absurd ?_ hc⟩
      rw [n1, nI_add, n32_nI (by omega)]; exact nI_le (Nat.le_refl _) (by omega)
    · intro i hi ih
      rw [← Nat.add_assoc, ← nI_1] at ih
      refine bX9_pieceFrom_47 _ X _ _ _ _ _ ⟨fun hc => absurd hc ?_, fun _ => ⟨stpY Y (Y 3 v) (n32 (Y 8 v) + i) 1, ?_, ?_⟩⟩
      · rw [n1, nI_add, n32_nI (by omega)]; exact nI_ge (by omega) (by omega)
      · have := cX_stepFrom h (s := n32 (Y 3 v)) (i := n32 (Y 8 v) + i) (d := 1) hs.2 (by rw [← hs.1]; omega) (by rw [← hs.1]; omega) (x := 1) rfl
        rw [← hs.1] at this
        exact this
      · have e3 : pcF Y (Y 3 v) (n32 (Y 8 v)) 0 i * 3 + stpY Y (Y 3 v) (n32 (Y 8 v) + i) 1 = pcF Y (Y 3 v) (n32 (Y 8 v)) 0 (i + 1) := by
          rw [Int32.mul_comm]; rfl
        rw [e3]; exact ih
  have := key 0 (Nat.zero_le _)
  rw [Nat.add_zero, ← n1] at this
  exact this
theorem goes_lt (Y : zX) (u v : Nat) : ∃ k, k < 3 ∧ goesY Y u v = nI k := by
  unfold goesY
  split
  · exact ⟨2, by decide, rfl⟩
  · split
    · exact ⟨1, by decide, rfl⟩
    · exact ⟨0, by decide, rfl⟩
theorem pcF_lt (Y : zX) (s : Int32) (i : Nat) : ∀ m, ∃ k, k < 3 ^ m ∧ pcF Y s i 0 m = nI k
  | 0 => ⟨0, by decide, rfl⟩
  | m + 1 => by
    obtain ⟨k, hk, e⟩ := pcF_lt Y s i m
    obtain ⟨g, hg, e2⟩ := goes_lt Y (vn Y s (i + m)) (vn Y s (i + m + 1))
    refine ⟨3 * k + g, by rw [Nat.pow_succ]; omega, ?_⟩
    show 3 * pcF Y s i 0 m + stpY Y s (i + m) 1 = _
    unfold stpY
    rw [e, e2, show (3 : Int32) = nI 3 from rfl, pk_mul, nI_add]
theorem pcF_ne (Y : zX) (s : Int32) (i : Nat) {m : Nat} (hm : m ≤ 8) : ¬ pcF Y s i 0 m = -4 := by
  obtain ⟨k, hk, e⟩ := pcF_lt Y s i m
  have : 3 ^ m ≤ 3 ^ 8 := Nat.pow_le_pow_right (by decide) hm
  rw [e]; exact neg4_ne k (by omega)
theorem cX_fitting (h : Rel X Y) {m : Nat} (hm : m < 100) {x : Int32} (hx : ¬ x = -4) : zPf SX 2 mX9_fitting [.ref 0, .int (nI m), .int x] X (bs (fitP Y m x) (nV Y)) := by
  have hn := h.2.vs.trans h.1.v; have hv2 := h.1.v2
  refine eX9_fitting _ X _ _ (zdown0 (P := fun i => LX9_fitting_5 _ X (nI m) x (bs (fitP Y m x) i) (nI i)) (nV Y) ?_ ?_)
  · exact bX9_fitting_5 _ X _ _ _ _ ⟨fun _ => rfl, fun hc => absurd (loE (n := nV Y) hn (by omega)) hc⟩
  · intro i hi ih
    rw [← nI_1 i] at ih
    refine bX9_fitting_5 _ X _ _ _ _ ⟨fun hc => absurd hc (loB (n := nV Y) hn hi (by omega)), fun _ => ?_⟩
    refine ⟨_, cX_pieceFrom h hi hm, ?_⟩
    by_cases q : n32 (Y 8 i) + m < lenY Y (Y 3 i)
    · rw [if_pos q]
      refine ⟨fun e => ?_, fun e => ?_⟩
      · rw [bs_f2 (p := fitP Y m x) (i := i) (by show (_ && (_ == _)) = false; rw [beqF e, Bool.and_false])] at ih; exact ih
      · rw [bs_t (p := fitP Y m x) (i := i) (by show (_ && (_ == _)) = true; rw [beqT e]; simp [q])]; exact ih
    · rw [if_neg q]
      refine ⟨fun e => ?_, fun e => absurd e.symm hx⟩
      rw [bs_f2 (p := fitP Y m x) (i := i) (by simp [fitP, q])] at ih; exact ih
theorem cX_powerOfThree (X : zX) {m : Nat} (hm : m ≤ 8) : zPf SX 0 mX9_powerOfThree [.int (nI m)] X (nI (3 ^ m)) := by
  refine eX9_powerOfThree _ X _ (zdown0 (P := fun i => LX9_powerOfThree_4 _ X (nI m) (nI (3 ^ i)) (nI i)) (m) ?_ ?_)
  · exact bX9_powerOfThree_4 _ X _ _ _ ⟨fun _ => rfl, fun hc => absurd (loE (n := m) (x := nI m) rfl (by omega)) hc⟩
  · intro i hi ih
    rw [← nI_1 i] at ih
    refine bX9_powerOfThree_4 _ X _ _ _ ⟨fun hc => absurd hc (loB (n := m) (x := nI m) rfl hi (by omega)), fun _ => ?_⟩
    rw [show (3 : Int32) = nI 3 from rfl, pk_mul, ← Nat.pow_succ]
    exact ih
end XT
/-- both answer alike, and what they leave is alike -/
def zAg (m1 m2 : zM) (l1 l2 : Nat) (as : List Value) (X Y : zX) : Prop := ∃ (v : Int32) (QX QY : zX → Prop), zPi SX l1 m1 (.ref 0 :: as) X (fun w X' => w = v ∧ QX X') ∧ zPi SY l2 m2 (.ref 0 :: as) Y (fun w Y' => w = v ∧ QY Y') ∧ ∀ X' Y', QX X' → QY Y' → Rel X' Y'
theorem zPf.i {sh : List zE} {lv : Nat} {mi : zM} {as : List Value} {X : zX} {v : Int32} (h : zPf sh lv mi as X v) : zPi sh lv mi as X (fun w X' => w = v ∧ X' = X) :=
  zP.mono h (fun r Y q => ⟨v, q.1, rfl, q.2⟩)
theorem zPi.mono {sh : List zE} {lv : Nat} {mi : zM} {as : List Value} {X : zX} {P P2 : Int32 → zX → Prop} (h : zPi sh lv mi as X P) (hp : ∀ r Y, P r Y → P2 r Y) : zPi sh lv mi as X P2 :=
  zP.mono h (fun r Y ⟨w, q1, q2⟩ => ⟨w, q1, hp w Y q2⟩)
theorem zAg_q {m1 m2 : zM} {l1 l2 : Nat} {as : List Value} {X Y : zX} (h : Rel X Y) (v : Int32) (h1 : zPf SX l1 m1 (.ref 0 :: as) X v) (h2 : zPf SY l2 m2 (.ref 0 :: as) Y v) : zAg m1 m2 l1 l2 as X Y :=
  ⟨v, _, _, h1.i, h2.i, fun X' Y' q1 q2 => by subst q1; subst q2; exact h⟩
theorem zAg_u {m1 m2 : zM} {l1 l2 : Nat} {as : List Value} {X Y : zX} (v : Int32) (X2 Y2 : zX) (h1 : zPi SX l1 m1 (.ref 0 :: as) X (fun w X' => w = v ∧ X' = X2)) (h2 : zPi SY l2 m2 (.ref 0 :: as) Y (fun w Y' => w = v ∧ Y' = Y2)) (h : Rel X2 Y2) : zAg m1 m2 l1 l2 as X Y :=
  ⟨v, _, _, h1, h2, fun X' Y' q1 q2 => by subst q1; subst q2; exact h⟩
