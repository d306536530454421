/-! map: the fewest places that show those songs -/
def covF (s : Nat → Nat) (A : Nat) : Nat → Nat
  | 0 => 0
  | q + 1 => covF s A q ||| (if A.testBit q then s q else 0)
def wF (A n : Nat) : Nat := 4096 * fb_ct (fun q => A.testBit q) n + A
theorem covF_congr {s : Nat → Nat} {A B : Nat} : ∀ {n : Nat}, (∀ q, q < n → A.testBit q = B.testBit q) → covF s A n = covF s B n
  | 0, _ => rfl
  | n + 1, e => by
    show covF s A n ||| _ = covF s B n ||| _
    rw [covF_congr (fun q hq => e q (by omega)), e n (by omega)]
theorem fb_ct_cg {p q : Nat → Bool} : ∀ {n : Nat}, (∀ i, i < n → p i = q i) → fb_ct p n = fb_ct q n
  | 0, _ => rfl
  | n + 1, e => by rw [fb_ct_succ, fb_ct_succ, fb_ct_cg (fun i hi => e i (by omega)), e n (by omega)]
theorem tb_lo {p A q : Nat} (hq : q < p) : (2 ^ p + A).testBit q = A.testBit q := Nat.testBit_two_pow_add_gt hq A
theorem tb_hi {p A : Nat} (hA : A < 2 ^ p) : (2 ^ p + A).testBit p = true := by
  rw [Nat.testBit_two_pow_add_eq, Nat.testBit_lt_two_pow hA]; rfl
theorem cov_in {s : Nat → Nat} {A p : Nat} (hA : A < 2 ^ p) : covF s A (p + 1) = covF s A p := by
  show covF s A p ||| _ = _
  rw [Nat.testBit_lt_two_pow hA]; simp
theorem cov_up {s : Nat → Nat} {A p : Nat} (hA : A < 2 ^ p) : covF s (2 ^ p + A) (p + 1) = covF s A p ||| s p := by
  show covF s (2 ^ p + A) p ||| _ = _
  rw [tb_hi hA, if_pos rfl, covF_congr (fun q hq => tb_lo hq)]
theorem w_in {A p : Nat} (hA : A < 2 ^ p) : wF A (p + 1) = wF A p := by
  unfold wF; rw [fb_ct_succ, Nat.testBit_lt_two_pow hA]; rfl
theorem w_up {A p : Nat} (hA : A < 2 ^ p) : wF (2 ^ p + A) (p + 1) = wF A p + (4096 + 2 ^ p) := by
  unfold wF
  rw [fb_ct_succ, tb_hi hA, if_pos rfl, fb_ct_cg (fun q hq => tb_lo (A := A) hq)]; omega
/-- the costs behind p places -/
def Dp (s G : Nat → Nat) (p : Nat) : Prop := (∀ T, T < 16 → G T ≤ 53248) ∧ (∀ A, A < 2 ^ p → G (covF s A p) ≤ wF A p) ∧ ∀ T, T < 16 → G T = 53248 ∨ ∃ A, A < 2 ^ p ∧ covF s A p = T ∧ G T = wF A p
def Mk (G H : Nat → Nat) (s c i : Nat) : Prop := (∀ T, T < 16 → H T ≤ G T) ∧ (∀ S, i ≤ S → S < 16 → H (S ||| s) ≤ G S + c) ∧ ∀ T, T < 16 → H T = G T ∨ ∃ S, i ≤ S ∧ S < 16 ∧ S ||| s = T ∧ H T = G S + c
theorem or16 {a b : Nat} (ha : a < 16) (hb : b < 16) : a ||| b < 16 := Nat.or_lt_two_pow (n := 4) ha hb
theorem covF_lt {s : Nat → Nat} (hs : ∀ q, s q < 16) (A : Nat) : ∀ n, covF s A n < 16
  | 0 => by show 0 < 16; decide
  | n + 1 => or16 (covF_lt hs A n) (by split; exact hs n; decide)
def upd2 (H : Nat → Nat) (k v : Nat) : Nat → Nat := fun T => if T = k then v else H T
theorem Mk.step {G H : Nat → Nat} {s c i : Nat} (hs : s < 16) (hi : i < 16) (h : Mk G H s c (i + 1)) : Mk G (upd2 H (i ||| s) (if H i + c < H (i ||| s) then H i + c else H (i ||| s))) s c i := by
  obtain ⟨m1, m2, m3⟩ := h
  have self : H i = G i := by
    rcases m3 i hi with e | ⟨S, h1, _, h3, _⟩
    · exact e
    · have := Nat.left_le_or (n := S) (m := s); omega
  have hor := or16 hi hs
  rw [self]
  have dn : ∀ T, T < 16 → upd2 H (i ||| s) (if G i + c < H (i ||| s) then G i + c else H (i ||| s)) T ≤ H T := fun T hT => by
    unfold upd2
    by_cases e : T = i ||| s
    · subst e; rw [if_pos rfl]; split <;> omega
    · rw [if_neg e]; exact Nat.le_refl _
  refine ⟨fun T hT => Nat.le_trans (dn T hT) (m1 T hT), fun S h1 h2 => ?_, fun T hT => ?_⟩
  · by_cases e : S = i
    · subst e
      unfold upd2
      rw [if_pos rfl]; split <;> omega
    · exact Nat.le_trans (dn _ (or16 h2 hs)) (m2 S (by omega) h2)
  · unfold upd2
    have old : H T = G T ∨ ∃ S, i ≤ S ∧ S < 16 ∧ S ||| s = T ∧ H T = G S + c := by
      rcases m3 T hT with e | ⟨S, g1, g2, g3, g4⟩
      · exact Or.inl e
      · exact Or.inr ⟨S, by omega, g2, g3, g4⟩
    by_cases e : T = i ||| s
    · subst e
      rw [if_pos rfl]
      by_cases q : G i + c < H (i ||| s)
      · rw [if_pos q]; exact Or.inr ⟨i, Nat.le_refl _, hi, rfl, rfl⟩
      · rw [if_neg q]; exact old
    · rw [if_neg e]; exact old
theorem Dp.step {s G H : Nat → Nat} {p : Nat} (hs : ∀ q, s q < 16) (h : Dp s G p) (m : Mk G H (s p) (4096 + 2 ^ p) 0) : Dp s H (p + 1) := by
  obtain ⟨h1, h2, h3⟩ := h
  obtain ⟨m1, m2, m3⟩ := m
  refine ⟨fun T hT => Nat.le_trans (m1 T hT) (h1 T hT), fun A hA => ?_, fun T hT => ?_⟩
  · by_cases q : A < 2 ^ p
    · rw [cov_in q, w_in q]
      exact Nat.le_trans (m1 _ (covF_lt hs A p)) (h2 A q)
    · obtain ⟨B, rfl⟩ : ∃ B, A = 2 ^ p + B := ⟨A - 2 ^ p, by omega⟩
      have hB : B < 2 ^ p := by rw [Nat.pow_succ] at hA; omega
      rw [cov_up hB, w_up hB]
      exact Nat.le_trans (m2 _ (Nat.zero_le _) (covF_lt hs B p)) (Nat.add_le_add_right (h2 B hB) _)
  · rcases m3 T hT with e | ⟨S, _, hS, e1, e2⟩
    · rcases h3 T hT with f | ⟨A, hA, f1, f2⟩
      · exact Or.inl (e.trans f)
      · exact Or.inr ⟨A, by rw [Nat.pow_succ]; omega, by rw [cov_in hA]; exact f1, by rw [w_in hA, e]; exact f2⟩
    · rcases h3 S hS with f | ⟨A, hA, f1, f2⟩
      · have := m1 T hT; have := h1 T hT; have := Nat.two_pow_pos p; generalize 2 ^ p = z at *; omega
      · exact Or.inr ⟨2 ^ p + A, by rw [Nat.pow_succ]; omega, by rw [cov_up hA, f1]; exact e1, by rw [w_up hA, e2, f2]⟩
theorem Dp.zero (s : Nat → Nat) : Dp s (fun T => if T = 0 then 0 else 53248) 0 := by
  refine ⟨fun T _ => ?_, fun A hA => ?_, fun T _ => ?_⟩
  · show (if T = 0 then 0 else 53248) ≤ 53248
    split <;> omega
  · have : A = 0 := by omega
    subst this
    exact Nat.zero_le _
  · by_cases e : T = 0
    · subst e; exact Or.inr ⟨0, by decide, rfl, rfl⟩
    · exact Or.inl (if_neg e)
section MP
variable {X Y M : zX}
def CM (X : zX) (G : Nat → Nat) (M : zX) : Prop := (∀ a, a ≠ 43 → M a = X a) ∧ ∀ T, T < 16 → M 43 T = nI (G T)
theorem CM.rel {G : Nat → Nat} (h : Rel X Y) (o : CM X G M) : Rel M Y := h.scr (fun a ha => o.1 a (fun q => by subst q; simp [scrX] at ha))
theorem cX_mark {G : Nat → Nat} {p s : Nat} (hp : p < 12) (hs : s < 16) (hG : ∀ T, T < 16 → G T ≤ 53248) (o : CM X G M) : zPw SX 1 mX0_mark [.ref 42, .int (nI p), .int (nI s)] M (fun M2 => ∃ H, Mk G H s (4096 + 2 ^ p) 0 ∧ CM X H M2) := by
  have hpp : 2 ^ p ≤ 2048 := Nat.pow_le_pow_right (n := 2) (by decide) (show p ≤ 11 by omega)
  have key : ∀ i, i ≤ 16 → ∀ (N : zX) (H : Nat → Nat), Mk G H s (4096 + 2 ^ p) i → CM X H N → LX0_mark_3 (fun M2 => ∃ H, Mk G H s (4096 + 2 ^ p) 0 ∧ CM X H M2) N (nI p) (nI s) (nI i - 1) := by
    intro i
    induction i with
    | zero => intro _ N H m c; exact bX0_mark_3 _ N _ _ _ ⟨fun _ => ⟨H, m, c⟩, fun e => absurd (by decide) e⟩
    | succ i ih =>
      intro hi N H m c
      have e0 : nI (i + 1) - 1 = nI i := by rw [← nI_1, add_sub1]
      rw [e0]
      have m' := m
      obtain ⟨m1, m2, m3⟩ := m'
      have hor := or16 (a := i) (b := s) (by omega) hs
      have b1 := Nat.le_trans (m1 i (by omega)) (hG i (by omega))
      have b2 := Nat.le_trans (m1 _ hor) (hG _ hor)
      refine bX0_mark_3 _ N _ _ _ ⟨fun e => absurd e (nI_pos (by omega)), fun _ => ⟨i ||| s, fa_or _ _, hor, i, rfl, by omega, i ||| s, fa_or _ _, hor, ?_⟩⟩
      rw [show nI i + -1 = nI i - 1 by rw [Int32.sub_eq_add_neg]]
      have ev : zmin (N 43 (i ||| s)) (N 43 i + 4096 + zshl 1 (nI p)) = nI (if H i + (4096 + 2 ^ p) < H (i ||| s) then H i + (4096 + 2 ^ p) else H (i ||| s)) := by
        rw [c.2 _ hor, c.2 i (by omega), zshl_pow p (by omega), show (4096 : Int32) = nI 4096 from rfl, nI_add, nI_add, zmin_le (by omega) (by omega), Nat.add_assoc]
      rw [ev]
      refine ih (by omega) _ _ (Mk.step hs (by omega) m) ⟨fun a ha => by rw [zs_ne ha]; exact c.1 a ha, fun T hT => ?_⟩
      unfold upd2
      by_cases e : T = i ||| s
      · subst e; rw [zs_eq, if_pos rfl]
      · rw [zs_nk e, if_neg e]; exact c.2 T hT
  exact eX0_mark _ M _ _ (key 16 (by omega) M G ⟨fun _ _ => Nat.le_refl _, fun S h1 h2 => by omega, fun _ _ => Or.inl rfl⟩ o)
/-- what place p shows of the songs t, as a number -/
def shwY (Y : zX) (t p : Nat) : Nat := n32 (bsx (fun v => Y 7 v == -4 && Y 4 v == nI p) (fun v => n32 (Y 3 v)) (nV Y) &&& nI t)
theorem and16 (x : Int32) {t : Nat} (ht : t < 16) : x &&& nI t = nI (n32 (x &&& nI t)) ∧ n32 (x &&& nI t) < 16 := by
  obtain ⟨n, hn, rfl⟩ := i32_of x
  rw [fa_and]
  have : n &&& t < 16 := Nat.lt_of_le_of_lt Nat.and_le_right ht
  rw [n32_nI (by omega)]
  exact ⟨rfl, this⟩
theorem shw_lt (Y : zX) {t : Nat} (ht : t < 16) (p : Nat) : shwY Y t p < 16 := (and16 _ ht).2
theorem shw_eq (h : Rel X Y) {t p : Nat} (ht : t < 16) (hp : p < 12) : bsx (bt (bs (openP Y (-4)) (nV Y) &&& X 18 p)) (fun v => n32 (Y 3 v)) (nV Y) &&& nI t = nI (shwY Y t p) := by
  have hv2 := h.1.v2
  rw [← (show _ = nI (shwY Y t p) from (and16 _ ht).1)]
  congr 1
  refine bsx_congr (fun v hv => ?_) (fun _ _ _ => rfl)
  rw [b_and, h.2.atPlace p hp, bt_bs _ (by omega) (by omega), bt_bs _ (by omega) (by omega)]
  simp [hv, openP]
theorem tb_shw (h : IY Y) {t p k : Nat} (ht : t < 16) : (shwY Y t p).testBit k = true ↔ t.testBit k = true ∧ ∃ v, v < nV Y ∧ (Y 7 v == -4 && Y 4 v == nI p) = true ∧ n32 (Y 3 v) = k := by
  by_cases hk : k < 32
  · rw [← bt_nI _ _ hk, ← (show _ = nI (shwY Y t p) from (and16 _ ht).1), b_and, Bool.and_eq_true, bt_nI _ _ hk, bt_bsx _ _ hk _ (fun i hi _ => by have := (h.song i hi).2; omega)]
    exact And.comm
  · have e1 : (shwY Y t p).testBit k = false := Nat.testBit_lt_two_pow (Nat.lt_of_lt_of_le (shw_lt Y ht p) (Nat.pow_le_pow_right (n := 2) (by decide) (show 4 ≤ k by omega)))
    have e2 : t.testBit k = false := Nat.testBit_lt_two_pow (Nat.lt_of_lt_of_le ht (Nat.pow_le_pow_right (n := 2) (by decide) (show 4 ≤ k by omega)))
    rw [e1, e2]; simp
theorem tb_cov {s : Nat → Nat} {A k : Nat} : ∀ {n : Nat}, (covF s A n).testBit k = true ↔ ∃ q, q < n ∧ A.testBit q = true ∧ (s q).testBit k = true
  | 0 => by
    show (0 : Nat).testBit k = true ↔ _
    rw [Nat.zero_testBit]
    constructor
    · intro e; cases e
    · rintro ⟨q, h, _⟩; omega
  | n + 1 => by
    show (covF s A n ||| (if A.testBit n then s n else 0)).testBit k = true ↔ _
    rw [Nat.testBit_or, Bool.or_eq_true, tb_cov (n := n)]
    constructor
    · rintro (⟨q, h1, h2, h3⟩ | h)
      · exact ⟨q, by omega, h2, h3⟩
      · cases e : A.testBit n with
        | false => rw [e] at h; simp at h
        | true => rw [e] at h; exact ⟨n, by omega, e, h⟩
    · rintro ⟨q, h1, h2, h3⟩
      by_cases e : q = n
      · subst e; rw [h2]; exact Or.inr h3
      · exact Or.inl ⟨q, by omega, h2, h3⟩
/-- what the places A show, as the reference gathers it -/
def shnY (Y : zX) (A : Nat) : Int32 := bsx (fun v => Y 7 v == -4 && bt (nI A) (n32 (Y 4 v))) (fun v => n32 (Y 3 v)) (nV Y)
theorem cov_iff (h : IY Y) {t A : Nat} (ht : t < 16) : (nI t &&& (shnY Y A ^^^ -1)) = 0 ↔ covF (shwY Y t) A (nP Y) = t := by
  have hv2 := h.v2; have hp2 := h.p2
  have bit : ∀ k, k < 32 → (bt (shnY Y A) k = true ↔ ∃ v, v < nV Y ∧ (Y 7 v == -4 && bt (nI A) (n32 (Y 4 v))) = true ∧ n32 (Y 3 v) = k) := fun k hk => bt_bsx _ _ hk _ (fun i hi _ => by have := (h.song i hi).2; omega)
  have cov : ∀ k, k < 32 → ((covF (shwY Y t) A (nP Y)).testBit k = true ↔ t.testBit k = true ∧ bt (shnY Y A) k = true) := fun k hk => by
    rw [tb_cov, bit k hk]
    constructor
    · rintro ⟨q, h1, h2, h3⟩
      obtain ⟨g1, v, g2, g3, g4⟩ := (tb_shw h ht).mp h3
      refine ⟨g1, v, g2, ?_, g4⟩
      rw [Bool.and_eq_true] at g3 ⊢
      refine ⟨g3.1, ?_⟩
      have : Y 4 v = nI q := by simpa using g3.2
      rw [this, n32_nI (by omega), bt_nI _ _ (by omega)]; exact h2
    · rintro ⟨g1, v, g2, g3, g4⟩
      rw [Bool.and_eq_true] at g3
      obtain ⟨e1, e2⟩ := h.at_ v g2
      refine ⟨n32 (Y 4 v), e2, ?_, (tb_shw h ht).mpr ⟨g1, v, g2, ?_, g4⟩⟩
      · have := g3.2; rw [bt_nI _ _ (by omega)] at this; exact this
      · rw [Bool.and_eq_true]; exact ⟨g3.1, beqT e1⟩
  have hc16 := covF_lt (s := shwY Y t) (shw_lt Y ht) A (nP Y)
  constructor
  · intro e
    apply Nat.eq_of_testBit_eq
    intro k
    by_cases hk : k < 32
    · have : bt (nI t &&& (shnY Y A ^^^ -1)) k = false := by rw [e, b_0]
      rw [b_and, bt_not _ hk, bt_nI _ _ hk] at this
      cases et : t.testBit k with
      | false =>
        cases ec : (covF (shwY Y t) A (nP Y)).testBit k with
        | false => rfl
        | true => rw [((cov k hk).mp ec).1] at et; cases et
      | true =>
        rw [et] at this
        refine (cov k hk).mpr ⟨et, ?_⟩
        simpa using this
    · rw [Nat.testBit_lt_two_pow (Nat.lt_of_lt_of_le ht (Nat.pow_le_pow_right (n := 2) (by decide) (show 4 ≤ k by omega))), Nat.testBit_lt_two_pow (Nat.lt_of_lt_of_le hc16 (Nat.pow_le_pow_right (n := 2) (by decide) (show 4 ≤ k by omega)))]
  · intro e
    apply b_ext
    intro k hk
    rw [b_and, bt_not _ hk, bt_nI _ _ hk, b_0]
    cases et : t.testBit k with
    | false => rfl
    | true =>
      rw [← e] at et
      rw [((cov k hk).mp et).2]; rfl
/-- what fewestMarks answers -/
def Best (Y : zX) (t : Nat) (r : Int32) : Prop := (r = -4 ∧ ∀ A, A < 2 ^ nP Y → ¬ covF (shwY Y t) A (nP Y) = t) ∨ ∃ A, A < 2 ^ nP Y ∧ r = nI A ∧ covF (shwY Y t) A (nP Y) = t ∧ ∀ B, B < 2 ^ nP Y → covF (shwY Y t) B (nP Y) = t → wF A (nP Y) ≤ wF B (nP Y)
theorem ct_le (p : Nat → Bool) (n : Nat) : fb_ct p n ≤ n := fb_ct_le p n
theorem w_lt {A n : Nat} (hn : n ≤ 12) (hA : A < 2 ^ n) : wF A n < 53248 := by
  have h1 := ct_le (fun q => A.testBit q) n
  have h2 : 2 ^ n ≤ 4096 := Nat.pow_le_pow_right (n := 2) (by decide) hn
  unfold wF; omega
theorem cX_fewestMarks (h : Rel X Y) {t : Nat} (ht : t < 16) : zPi SX 2 mX0_fewestMarks [.ref 42, .int (nI t), .int (X 1 2)] X (fun r M => Best Y t r ∧ Rel M Y) := by
  have hp := h.1.p; have hp2 := h.1.p2
  have hsz : X 1 2 = nI (nP Y) := h.2.size.trans hp
  rw [hsz]
  have hpow : 2 ^ nP Y ≤ 4096 := Nat.pow_le_pow_right (n := 2) (by decide) hp2
  have main : ∀ p, p ≤ nP Y → ∀ (M : zX) (G : Nat → Nat), Dp (shwY Y t) G p → CM X G M → LX0_fewestMarks_42 (fun r M => Best Y t r ∧ Rel M Y) M (nI t) (nI (nP Y)) (bs (openP Y (-4)) (nV Y)) (nI p) := by
    refine zdown ?_ ?_
    · intro M G d c
      refine bX0_fewestMarks_42 _ M _ _ _ _ ⟨fun _ => ⟨t, rfl, ht, fun e => ⟨t, rfl, ht, ?_⟩, fun e => ?_⟩, fun e => absurd (nI_le (Nat.le_refl _) (by omega)) e⟩
      · have hG := d.1 t ht
        rw [c.2 t ht] at e ⊢
        have e := (nI_ltI (b := 53248) (by omega) (by omega)).mp e
        refine ⟨?_, c.rel h⟩
        rcases d.2.2 t ht with f | ⟨A, hA, f1, f2⟩
        · omega
        · refine Or.inr ⟨A, hA, ?_, f1, fun B hB g => ?_⟩
          · rw [show (4096 : Int32) = nI 4096 from rfl, pk_rem (by omega) (by decide) (by decide), f2]
            unfold wF
            rw [show (4096 * fb_ct (fun q => A.testBit q) (nP Y) + A) % 4096 = A by omega]
          · have := d.2.1 B hB
            rw [g, f2] at this; exact this
      · have hG := d.1 t ht
        rw [c.2 t ht] at e
        have e : ¬ G t < 53248 := fun q => e ((nI_ltI (b := 53248) (by omega) (by omega)).mpr q)
        refine ⟨Or.inl ⟨rfl, fun A hA g => ?_⟩, c.rel h⟩
        have := d.2.1 A hA
        have := w_lt hp2 hA
        rw [g] at *; omega
    · intro p hpn ih M G d c
      refine bX0_fewestMarks_42 _ M _ _ _ _ ⟨fun e => absurd e (nI_ge hpn (by omega)), fun _ => ⟨p, rfl, by omega, _, cX_songsOf (c.rel h) _, ?_⟩⟩
      rw [c.1 18 (by decide), shw_eq h ht (by omega)]
      refine ⟨_, cX_mark (X := X) (by omega) (shw_lt Y ht p) d.1 c, fun M2 ⟨H, m, c2⟩ => ?_⟩
      rw [nI_1]
      exact ih M2 H (d.step (shw_lt Y ht) m) c2
  have ini : ∀ i, i ≤ 16 → ∀ M : zX, (∀ a, a ≠ 43 → M a = X a) → (∀ T, T < i → M 43 T = 53248) → LX0_fewestMarks_2 (fun r M => Best Y t r ∧ Rel M Y) M (nI t) (nI (nP Y)) (nI i) := by
    refine zdown ?_ ?_
    · intro M e1 e2
      have c : CM X (fun T => if T = 0 then 0 else 53248) (zs M 43 0 0) := ⟨fun a ha => by rw [zs_ne ha]; exact e1 a ha, fun T hT => by
        by_cases e : T = 0
        · subst e; rw [zs_eq]; rfl
        · rw [zs_nk e, e2 T hT]; show _ = nI (if T = 0 then 0 else 53248); rw [if_neg e]; rfl⟩
      exact bX0_fewestMarks_2 _ M _ _ _ ⟨fun _ => ⟨0, rfl, by decide, _, cX_openOrHeldBy (c.rel h) _, main 0 (Nat.zero_le _) _ _ (Dp.zero _) c⟩, fun e => absurd (by decide) e⟩
    · intro i hi ih M e1 e2
      refine bX0_fewestMarks_2 _ M _ _ _ ⟨fun e => absurd ((nI_leI (a := 16) (by omega) (by omega)).mp e) (by omega), fun _ => ⟨i, rfl, hi, ?_⟩⟩
      rw [nI_1]
      refine ih _ (fun a ha => by rw [zs_ne ha]; exact e1 a ha) (fun T hT => ?_)
      by_cases e : T = i
      · subst e; rw [zs_eq]
      · rw [zs_nk e]; exact e2 T (by omega)
  exact eX0_fewestMarks _ X _ _ (ini 0 (by omega) X (fun _ _ => rfl) (fun T hT => by omega))
/-- the scan of the reference below i -/
def Scan (Y : zX) (t i : Nat) (r : Int32) : Prop := (r = -4 ∧ ∀ A, A < i → ¬ covF (shwY Y t) A (nP Y) = t) ∨ ∃ A, A < i ∧ r = nI A ∧ covF (shwY Y t) A (nP Y) = t ∧ ∀ B, B < i → covF (shwY Y t) B (nP Y) = t → wF A (nP Y) ≤ wF B (nP Y)
theorem scan_uniq {t : Nat} {r q : Int32} (hp2 : nP Y ≤ 12) (h1 : Best Y t r) (h2 : Scan Y t (2 ^ nP Y) q) : r = q := by
  have hpow : 2 ^ nP Y ≤ 4096 := Nat.pow_le_pow_right (n := 2) (by decide) hp2
  rcases h1 with ⟨e1, n1⟩ | ⟨A, a1, e1, a2, a3⟩
  · rcases h2 with ⟨e2, n2⟩ | ⟨B, b1, e2, b2, b3⟩
    · rw [e1, e2]
    · exact absurd b2 (n1 B b1)
  · rcases h2 with ⟨e2, n2⟩ | ⟨B, b1, e2, b2, b3⟩
    · exact absurd a2 (n2 A a1)
    · have g1 := a3 B b1 b2
      have g2 := b3 A a1 a2
      unfold wF at g1 g2
      have : A = B := by omega
      rw [e1, e2, this]
theorem ct_n (h : IY Y) {A : Nat} (hA : A < 2 ^ nP Y) : nI (fb_ct (bt (nI A)) 24) = nI (fb_ct (fun q => A.testBit q) (nP Y)) := by
  have hp2 := h.p2
  have e := fb_ct_split (bt (nI A)) (nP Y) (24 - nP Y)
  rw [show nP Y + (24 - nP Y) = 24 by omega, fb_ct_zero (p := fun k => bt (nI A) (nP Y + k)).mpr (fun k hk => by rw [bt_nI _ _ (by omega)]; exact Nat.testBit_lt_two_pow (Nat.lt_of_lt_of_le hA (Nat.pow_le_pow_right (n := 2) (by decide) (by omega)))), Nat.add_zero] at e
  rw [e, fb_ct_cg (fun i hi => bt_nI A i (by omega))]
theorem cY_mapScan (h : IY Y) {t : Nat} (ht : t < 16) {a2 v : Int32} (hv : ∀ r, Scan Y t (2 ^ nP Y) r → ((¬ r = (-4)) → (((¬ a2 = 0) → (r = v)) ∧ ((a2 = 0) → nI (fb_ct (bt r) 24) = v))) ∧ ((r = (-4)) → ((-4) = v))) : LX10_map_30 v Y (nI t) a2 (-4) 0 := by
  have hp2 := h.p2; have hv2 := h.v2
  have hpow : 2 ^ nP Y ≤ 4096 := Nat.pow_le_pow_right (n := 2) (by decide) hp2
  have hz : zshl 1 (Y 0 0) = nI (2 ^ nP Y) := by rw [h.p, zshl_pow _ (by omega)]
  have inner : ∀ (r : Int32) (A : Nat), A < 2 ^ nP Y → ((¬ covF (shwY Y t) A (nP Y) = t → LX10_map_30 v Y (nI t) a2 r (nI A + 1)) ∧ (covF (shwY Y t) A (nP Y) = t → LX10_map_30 v Y (nI t) a2 (nI A) (nI A + 1))) → LX10_map_65 v Y (nI t) a2 r (nI A) 0 0 := by
    intro r A hA q
    refine zdown0 (P := fun i => LX10_map_65 v Y (nI t) a2 r (nI A) (bsx (fun v => Y 7 v == -4 && bt (nI A) (n32 (Y 4 v))) (fun v => n32 (Y 3 v)) i) (nI i)) (nV Y) ?_ ?_
    · have ci := cov_iff h (A := A) ht
      refine bX10_map_65 _ Y _ _ _ _ _ _ ⟨fun _ => ⟨fun e => q.1 (fun g => e (ci.mpr g)), fun e => q.2 (ci.mp e)⟩, fun e => absurd (loE h.v (by omega)) e⟩
    · intro i hi ih
      rw [← nI_1 i] at ih
      refine bX10_map_65 _ Y _ _ _ _ _ _ ⟨fun e => absurd e (loB h.v hi (by omega)), fun _ => ⟨i, rfl, by omega, fun e => ?_, fun e => ⟨i, rfl, by omega, fun e2 => ?_, fun e2 => ⟨i, rfl, by omega, ?_⟩⟩⟩⟩
      · rw [bsx_f (p := fun v => Y 7 v == -4 && bt (nI A) (n32 (Y 4 v))) (by rw [beqF e]; rfl)]; exact ih
      · rw [zb1N (h.at_ i hi) (by omega)] at e2
        rw [bsx_f (p := fun v => Y 7 v == -4 && bt (nI A) (n32 (Y 4 v))) (by simp [e2])]; exact ih
      · rw [zb1N (h.at_ i hi) (by omega)] at e2
        have es := (h.song i hi).1
        have := bsx_t (p := fun v => Y 7 v == -4 && bt (nI A) (n32 (Y 4 v))) (g := fun v => n32 (Y 3 v)) (i := i) (by rw [beqT e, e2]; rfl)
        rw [es, this]; exact ih
  have outer : ∀ i, i ≤ 2 ^ nP Y → ∀ r, Scan Y t i r → LX10_map_30 v Y (nI t) a2 r (nI i) := by
    refine zdown ?_ ?_
    · intro r s
      obtain ⟨q1, q2⟩ := hv r s
      exact bX10_map_30 _ Y _ _ _ _ ⟨fun _ => ⟨fun e => ⟨(q1 e).1, fun e2 => ⟨_, cY_countOf Y _, (q1 e).2 e2⟩⟩, q2⟩, fun e => absurd (by rw [hz]; exact nI_le (Nat.le_refl _) (by omega)) e⟩
    · intro i hi ih r s
      have fresh : (∀ A, A < i → covF (shwY Y t) A (nP Y) = t → wF i (nP Y) ≤ wF A (nP Y)) → Scan Y t i r → LX10_map_65 v Y (nI t) a2 r (nI i) 0 0 := fun g s => by
        refine inner r i hi ⟨fun e => ?_, fun e => ?_⟩
        · rw [nI_1]
          refine ih r ?_
          rcases s with ⟨e1, n1⟩ | ⟨A, a1, e1, a2, a3⟩
          · refine Or.inl ⟨e1, fun A hA => ?_⟩
            by_cases q : A = i
            · subst q; exact e
            · exact n1 A (by omega)
          · refine Or.inr ⟨A, by omega, e1, a2, fun B hB hc => ?_⟩
            by_cases q : B = i
            · subst q; exact absurd hc e
            · exact a3 B (by omega) hc
        · rw [nI_1]
          refine ih _ (Or.inr ⟨i, by omega, rfl, e, fun B hB hc => ?_⟩)
          by_cases q : B = i
          · subst q; exact Nat.le_refl _
          · exact g B (by omega) hc
      refine bX10_map_30 _ Y _ _ _ _ ⟨fun e => absurd (by rw [hz] at e; exact e) (nI_ge hi (by omega)), fun _ => ⟨fun e => ?_, fun e => ⟨_, cY_countOf Y _, _, cY_countOf Y _, fun e2 => ?_, fun e2 => ?_⟩⟩⟩
      · rcases s with ⟨e1, n1⟩ | ⟨A, a1, e1, a2, a3⟩
        · exact fresh (fun A hA g => absurd g (n1 A hA)) (Or.inl ⟨e1, n1⟩)
        · exact absurd (e1.symm.trans e) (neg4_ne A (by omega))
      · rcases s with ⟨e1, n1⟩ | ⟨A, a1, e1, a2, a3⟩
        · exact absurd e1 e
        · rw [e1, ct_n h (by omega), ct_n h hi, nI_leI (by have := ct_le (fun q => A.testBit q) (nP Y); omega) (by have := ct_le (fun q => i.testBit q) (nP Y); omega)] at e2
          rw [nI_1]
          refine ih r (Or.inr ⟨A, by omega, e1, a2, fun B hB hc => ?_⟩)
          by_cases q : B = i
          · subst q; unfold wF; omega
          · exact a3 B (by omega) hc
      · rcases s with ⟨e1, n1⟩ | ⟨A, a1, e1, a2, a3⟩
        · exact absurd e1 e
        · rw [e1, ct_n h (by omega), ct_n h hi, nI_leI (by have := ct_le (fun q => A.testBit q) (nP Y); omega) (by have := ct_le (fun q => i.testBit q) (nP Y); omega)] at e2
          refine fresh (fun B hB g => ?_) (Or.inr ⟨A, a1, e1, a2, a3⟩)
          have := a3 B hB g
          unfold wF at this ⊢
          omega
  exact outer 0 (Nat.zero_le _) (-4) (Or.inl ⟨rfl, fun A hA => by omega⟩)
theorem scan_ex (Y : zX) (t : Nat) : ∀ i, ∃ r, Scan Y t i r
  | 0 => ⟨-4, Or.inl ⟨rfl, fun A hA => by omega⟩⟩
  | i + 1 => by
    obtain ⟨r, s⟩ := scan_ex Y t i
    by_cases e : covF (shwY Y t) i (nP Y) = t
    · rcases s with ⟨e1, n1⟩ | ⟨A, a1, e1, a2, a3⟩
      · refine ⟨nI i, Or.inr ⟨i, by omega, rfl, e, fun B hB hc => ?_⟩⟩
        by_cases q : B = i
        · subst q; exact Nat.le_refl _
        · exact absurd hc (n1 B (by omega))
      · by_cases q : wF A (nP Y) ≤ wF i (nP Y)
        · refine ⟨r, Or.inr ⟨A, by omega, e1, a2, fun B hB hc => ?_⟩⟩
          by_cases q2 : B = i
          · subst q2; exact q
          · exact a3 B (by omega) hc
        · refine ⟨nI i, Or.inr ⟨i, by omega, rfl, e, fun B hB hc => ?_⟩⟩
          by_cases q2 : B = i
          · subst q2; exact Nat.le_refl _
          · have := a3 B (by omega) hc; omega
    · refine ⟨r, ?_⟩
      rcases s with ⟨e1, n1⟩ | ⟨A, a1, e1, a2, a3⟩
      · refine Or.inl ⟨e1, fun A hA => ?_⟩
        by_cases q : A = i
        · subst q; exact e
        · exact n1 A (by omega)
      · refine Or.inr ⟨A, by omega, e1, a2, fun B hB hc => ?_⟩
        by_cases q : B = i
        · subst q; exact absurd hc e
        · exact a3 B (by omega) hc
theorem ag_map (h : Rel X Y) (a1 a2 : Int32) : zAg mX9_map mX10_map 3 1 [.int a1, .int a2] X Y := by
  have hp2 := h.1.p2
  have hpow : 2 ^ nP Y ≤ 4096 := Nat.pow_le_pow_right (n := 2) (by decide) hp2
  have ex1 : a1 < 1 ↔ a1.toInt < 1 := Int32.lt_iff_toInt_lt
  have ex2 : 16 ≤ a1 ↔ 16 ≤ a1.toInt := Int32.le_iff_toInt_le
  by_cases c1 : 1 ≤ a1.toInt ∧ a1.toInt ≤ 15
  case neg =>
    refine zAg_b h (-1) (fun P z => eX9_map P X _ _ ⟨fun _ => z, fun e => ⟨fun _ => z, fun e2 => absurd ⟨?_, ?_⟩ c1⟩⟩) (fun P z => (eX10_map (-1) Y _ _ ⟨_, yI_o Y (l := 1) (r := 15) rfl rfl c1, fun _ => rfl, fun e => absurd rfl e⟩).i.mono (fun r Y2 q => by rw [q.1, q.2]; exact z))
    · rw [ex1] at e; omega
    · rw [ex2] at e2; omega
  obtain ⟨t, ht, rfl⟩ : ∃ t, t < 16 ∧ a1 = nI t := ⟨a1.toInt.toNat, by omega, nI_toIntL (by omega)⟩
  have xx : ∀ P : Int32 → zX → Prop, _ → zPi SX 3 mX9_map [.ref 0, .int (nI t), .int a2] X P := fun P q => eX9_map P X _ _ ⟨fun e => absurd (ex1.mp e) (by omega), fun _ => ⟨fun e => absurd (ex2.mp e) (by omega), fun _ => q⟩⟩
  have yy : ∀ v : Int32, _ → zPf SY 1 mX10_map [.ref 0, .int (nI t), .int a2] Y v := fun v q => eX10_map v Y _ _ ⟨_, yI_i Y (l := 1) (r := 15) rfl rfl c1, fun e => absurd e (by decide), fun _ => q⟩
  rcases inR_cases a2 (b := 2) (by decide) with h1 | ⟨k, hk, rfl⟩
  · exact zAg_b h (-1) (fun P z => xx P ⟨_, oC_o X 2 h1 (by decide) rfl, fun e => absurd e (by decide), fun _ => z⟩) (fun P z => (yy (-1) ⟨_, yC_o Y 2 h1 (by decide), fun e => absurd rfl e, fun _ => rfl⟩).i.mono (fun r Y2 q => by rw [q.1, q.2]; exact z))
  obtain ⟨r, hr⟩ := scan_ex Y t (2 ^ nP Y)
  have hc : ¬ r = -4 → nI (fb_ct (bt r) 32) = nI (fb_ct (bt r) 24) := fun e => by
    rcases hr with ⟨e1, n1⟩ | ⟨A, a1, e1, a2, a3⟩
    · exact absurd e1 e
    · rw [e1, ct_24 (fun k k1 k2 => by rw [bt_nI _ _ k2]; exact Nat.testBit_lt_two_pow (Nat.lt_of_lt_of_le a1 (Nat.le_trans hpow (Nat.pow_le_pow_right (n := 2) (i := 12) (by decide) (by omega)))))]
  let v : Int32 := if r = -4 then -4 else if nI k = 0 then nI (fb_ct (bt r) 24) else r
  have v1 : r = -4 → -4 = v := fun e => (if_pos e).symm
  have v2 : ¬ r = -4 → ¬ nI k = 0 → r = v := fun e e2 => by show _ = ite _ _ _; rw [if_neg e, if_neg e2]
  have v3 : ¬ r = -4 → nI k = 0 → nI (fb_ct (bt r) 24) = v := fun e e2 => by show _ = ite _ _ _; rw [if_neg e, if_pos e2]
  refine ⟨v, fun X2 => Rel X2 Y, fun Y2 => Y2 = Y, xx _ ⟨_, oC_i X 2 hk (by decide) rfl, fun _ => ⟨_, cX_fewestMarks h ht, fun r5 M6 ⟨b, g⟩ => ?_⟩, fun e => absurd rfl e⟩, (yy v ⟨_, yC_i Y 2 hk (by decide) (by decide), fun _ => cY_mapScan h.1 ht (fun q sq => ?_), fun e => absurd e (by decide)⟩).i, fun X' Y' q1 q2 => by rw [q2]; exact q1⟩
  · obtain rfl := scan_uniq hp2 b hr
    exact ⟨fun e => ⟨fun e2 => ⟨(v2 e e2), g⟩, fun e2 => ⟨_, cJ_bitCount M6 _, (hc e).trans (v3 e e2), g⟩⟩, fun e => ⟨v1 e, g⟩⟩
  · obtain rfl := scan_uniq (r := q) hp2 sq hr
    exact ⟨fun e => ⟨v2 e, v3 e⟩, v1⟩
end MP
