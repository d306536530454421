section PA
variable {X Y M : zX} {l : Int32}
theorem ct_mono {p q : Nat → Bool} : ∀ {n : Nat}, (∀ i, i < n → p i = true → q i = true) → fb_ct p n ≤ fb_ct q n
  | 0, _ => Nat.le_refl _
  | n + 1, h => by
    rw [fb_ct_succ, fb_ct_succ]
    refine Nat.add_le_add (ct_mono (fun i hi => h i (by omega))) ?_
    cases e : p n with
    | false => exact Nat.zero_le _
    | true => rw [h n (by omega) e]; exact Nat.le_refl _
theorem ct_nn {A n m : Nat} (hm : m ≤ 32) (hn : n ≤ m) (hA : A < 2 ^ n) : fb_ct (bt (nI A)) m = fb_ct (fun q => A.testBit q) n := by
  have e := fb_ct_split (bt (nI A)) n (m - n)
  rw [show n + (m - n) = m by omega, fb_ct_zero (p := fun k => bt (nI A) (n + k)).mpr (fun k hk => by rw [bt_nI _ _ (by omega)]; exact Nat.testBit_lt_two_pow (Nat.lt_of_lt_of_le hA (Nat.pow_le_pow_right (n := 2) (by decide) (by omega)))), Nat.add_zero] at e
  rw [e, fb_ct_cg (fun i hi => bt_nI A i (by omega))]
/-- those who sing any verse -/
def sgY (Y : zX) : Int32 := bs (fun w => !(bs (singY Y w) (nV Y) == 0)) (nN Y)
def VV (Y M : zX) : Prop := Rel M Y ∧ ∀ w, w < nN Y → M 53 w = bs (singY Y w) (nV Y)
theorem VV.vo (v : VV Y M) : VO M Y M := ⟨fun _ _ => rfl, v.2⟩
theorem VV.kx {M2 : zX} (v : VV Y M) (k : KX M M2) : VV Y M2 := ⟨k.rel v.1, fun w hw => by rw [k 53 (by omega)]; exact v.2 w hw⟩
theorem cX_singersOfAny (v : VV Y M) : zPf SX 0 mX9_singersOfAny [.ref 0] M (sgY Y) := by
  have h := v.1
  have hn := h.2.ns.trans h.1.n; have hn2 := h.1.n2
  refine eX9_singersOfAny _ M (zdown0 (P := fun i => LX9_singersOfAny_4 (sgY Y) M (bs (fun w => !(bs (singY Y w) (nV Y) == 0)) i) (nI i)) (nN Y) ?_ ?_)
  · exact bX9_singersOfAny_4 _ M _ _ ⟨fun _ => rfl, fun e => absurd (loE (n := nN Y) hn (by omega)) e⟩
  · intro i hi ih
    rw [← nI_1 i] at ih
    refine bX9_singersOfAny_4 _ M _ _ ⟨fun e => absurd e (loB (n := nN Y) hn hi (by omega)), fun _ => ⟨i, rfl, by omega, fun e => ?_, fun e => ?_⟩⟩
    · rw [v.2 i hi] at e
      rw [bs_f2 (p := fun w => !(bs (singY Y w) (nV Y) == 0)) (i := i) (show (!(bs (singY Y i) (nV Y) == 0)) = false by rw [beqT e]; rfl)] at ih; exact ih
    · rw [v.2 i hi] at e
      rw [bs_t (p := fun w => !(bs (singY Y w) (nV Y) == 0)) (i := i) (show (!(bs (singY Y i) (nV Y) == 0)) = true by rw [beqF e]; rfl)]; exact ih
theorem sg_of (h : IY Y) {w v : Nat} (hw : w < nN Y) (hv : v < nV Y) (hs : singY Y w v = true) : bt (sgY Y) w = true := by
  have hn2 := h.n2; have hv2 := h.v2
  unfold sgY
  rw [bt_bs _ (by omega) (by omega)]
  have : ¬ bs (singY Y w) (nV Y) = 0 := fun e => by
    have : bt (bs (singY Y w) (nV Y)) v = false := by rw [e, b_0]
    rw [bt_bs _ (by omega) (by omega)] at this
    simp [hv, hs] at this
  simp [hw, this]
theorem sung_and (h : IY Y) (x : Int32) : sungY Y (x &&& sgY Y) = sungY Y x := by
  unfold sungY
  refine bs_congr (fun v hv => ?_)
  unfold sungP
  refine anyB_congr (fun w hw => ?_)
  rw [b_and]
  cases e : singY Y w v with
  | false => simp
  | true => rw [sg_of h hw hv e]; simp
theorem sung_mono (h : IY Y) {x y : Int32} (hxy : ∀ w, w < nN Y → bt x w = true → bt y w = true) {v : Nat} (hv : bt (sungY Y x) v = true) : bt (sungY Y y) v = true := by
  have hv2 := h.v2
  have h32 : v < 32 := by
    rcases Nat.lt_or_ge v 32 with q | q
    · exact q
    · rw [b_big q] at hv; cases hv
  unfold sungY at hv ⊢
  rw [bt_bs _ (by omega) h32, Bool.and_eq_true] at hv ⊢
  refine ⟨hv.1, ?_⟩
  obtain ⟨w, hw, g⟩ := anyB_iff.mp hv.2
  rw [Bool.and_eq_true] at g
  refine anyB_iff.mpr ⟨w, hw, ?_⟩
  rw [hxy w hw g.1, g.2]; rfl
theorem led_mono (h : IY Y) {s t : Int32} (hst : ∀ v, bt s v = true → bt t v = true) {v : Nat} (hv : bt (ledW Y s) v = true) : bt (ledW Y t) v = true := by
  have hv2 := h.v2
  have h32 : v < 32 := by
    rcases Nat.lt_or_ge v 32 with q | q
    · exact q
    · rw [b_big q] at hv; cases hv
  unfold ledW at hv ⊢
  rw [bt_bs _ (by omega) h32, Bool.and_eq_true] at hv ⊢
  refine ⟨hv.1, ?_⟩
  have g := hv.2
  unfold ledP at g ⊢
  rw [Bool.and_eq_true, beq_iff_eq] at g ⊢
  refine ⟨hst v g.1, ?_⟩
  apply b_ext
  intro i hi
  have : bt (Y 17 v &&& (s ^^^ -1)) i = false := by rw [g.2, b_0]
  rw [b_and, bt_not _ hi] at this
  rw [b_and, bt_not _ hi, b_0]
  cases e : bt (Y 17 v) i with
  | false => rfl
  | true =>
    rw [e] at this
    rw [hst i (by simpa using this)]; rfl
theorem Rch.mono {k : Int32} (hl : ∀ v, bt l v = true → bt k v = true) {fr to : Nat} (h : Rch Y l fr to) : Rch Y k fr to := by
  obtain ⟨t, d, n, h⟩ := h
  refine ⟨t, d, n, Rn.mono (fun p c q e => ?_) h⟩
  obtain ⟨v, hv, h0, g1, g2, g3⟩ := e
  exact ⟨v, hv, h0, hl _ g1, hl _ g2, g3⟩
def RA (Y : zX) (fr to A : Nat) : Prop := Rch Y (ledY Y (nI A)) fr to
theorem sg_n (h : IY Y) : ∃ g, g < 2 ^ nN Y ∧ sgY Y = nI g := by
  obtain ⟨g, hg, e⟩ := i32_of (sgY Y)
  have hn2 := h.n2
  refine ⟨g, ?_, e⟩
  apply Nat.lt_pow_two_of_testBit
  intro i hi
  by_cases q : i < 32
  · rw [← bt_nI _ _ q, ← e]
    unfold sgY
    rw [bt_bs _ (by omega) q]
    simp; omega
  · exact Nat.testBit_lt_two_pow (Nat.lt_of_lt_of_le hg (Nat.pow_le_pow_right (n := 2) (by decide) (by omega)))
def PQ (Y : zX) (fr to : Nat) (w r : Int32) : Prop := (r = -4 ∧ ∀ A, A < 2 ^ nN Y → ¬ RA Y fr to A) ∨ ∃ A, A < 2 ^ nN Y ∧ RA Y fr to A ∧ (∀ B, B < 2 ^ nN Y → RA Y fr to B → wF A (nN Y) ≤ wF B (nN Y)) ∧ ((w = 0 → r = nI A) ∧ (¬ w = 0 → FDY Y (ledY Y (nI A)) fr to r))
theorem PQ.uniq {fr to : Nat} {w r s : Int32} (hn : nN Y ≤ 8) (h1 : PQ Y fr to w r) (h2 : PQ Y fr to w s) : r = s := by
  have hpow := pow_le hn
  rcases h1 with ⟨e1, n1⟩ | ⟨A, a1, a2, a3, a4, a5⟩
  · rcases h2 with ⟨e2, n2⟩ | ⟨B, b1, b2, b3, b4, b5⟩
    · rw [e1, e2]
    · exact absurd b2 (n1 B b1)
  · rcases h2 with ⟨e2, n2⟩ | ⟨B, b1, b2, b3, b4, b5⟩
    · exact absurd a2 (n2 A a1)
    · have g1 := a3 B b1 b2; have g2 := b3 A a1 a2
      unfold wF at g1 g2
      have : A = B := by omega
      subst this
      by_cases q : w = 0
      · rw [a4 q, b4 q]
      · exact FD.uniq (a5 q) (b5 q)
end PA
