/-! numbers and bits of this claim -/
theorem zdown {P : Nat → Prop} {n : Nat} (hn : P n) (hs : ∀ i, i < n → P (i + 1) → P i) : ∀ i, i ≤ n → P i := by
  intro i hi
  obtain ⟨d, hd⟩ : ∃ d, d = n - i := ⟨_, rfl⟩
  induction d generalizing i with
  | zero => rw [show i = n by omega]; exact hn
  | succ d ih => exact hs i (by omega) (ih (i + 1) (by omega) (by omega))
theorem zdown0 {P : Nat → Prop} (n : Nat) (hn : P n) (hs : ∀ i, i < n → P (i + 1) → P i) : P 0 := zdown hn hs 0 (Nat.zero_le _)
def n32 (x : Int32) : Nat := x.toNatClampNeg
def isN (x : Int32) (b : Nat) : Prop := x = nI (n32 x) ∧ n32 x < b
theorem n32_nI {k : Nat} (h : k < 2 ^ 31) : n32 (nI k) = k := nI_clamp h
theorem isN_nI {k b : Nat} (h : k < b) (hb : b ≤ 2 ^ 31) : isN (nI k) b := ⟨by rw [n32_nI (by omega)], by rw [n32_nI (by omega)]; exact h⟩
def b2i (b : Bool) : Int32 := if b then 1 else 0
theorem b2i_t : b2i true = 1 := rfl
theorem b2i_f : b2i false = 0 := rfl
theorem b2i_0 {b : Bool} : b2i b = 0 ↔ b = false := by cases b <;> decide
theorem b2i_1 {b : Bool} : b2i b = 1 ↔ b = true := by cases b <;> decide
theorem b2i_n {b : Bool} : ¬ b2i b = 0 ↔ b = true := by cases b <;> decide
theorem b2i_nar (b : Bool) : narrow .boolean (.int (b2i b)) = .int (b2i b) := by cases b <;> rfl
def inR (x : Int32) (b : Nat) : Bool := decide (0 ≤ x.toInt ∧ x.toInt < b)
theorem inR_nI {k b : Nat} (h : k < b) (hb : b ≤ 2 ^ 31) : inR (nI k) b = true := by
  unfold inR
  rw [nI_toInt (by omega)]
  simp only [decide_eq_true_eq]
  omega
theorem inR_of {x : Int32} {b : Nat} (h : inR x b = true) (hb : b ≤ 2 ^ 31) : ∃ k, k < b ∧ x = nI k := by
  unfold inR at h
  simp only [decide_eq_true_eq] at h
  refine ⟨x.toInt.toNat, by omega, ?_⟩
  apply Int32.toInt_inj.mp
  rw [nI_toInt (by omega)]
  omega
theorem inR_cases (x : Int32) {b : Nat} (hb : b ≤ 2 ^ 31) : inR x b = false ∨ ∃ k, k < b ∧ x = nI k := by
  cases h : inR x b with
  | false => exact Or.inl rfl
  | true => exact Or.inr (inR_of h hb)
theorem nI_sub1 {n : Nat} (h : n < 2 ^ 30) : (nI n - 1).toInt = (n : Int) - 1 := pk_sub_toInt (a := n) (b := 1) h (by decide)
theorem lg_lt (x y : Int64) : lg_cmp x y < 0 ↔ x < y := by
  unfold lg_cmp
  by_cases h1 : y < x
  · have : ¬ x < y := by rw [fa_lt64] at h1 ⊢; omega
    rw [if_pos h1]
    exact ⟨fun h => absurd h (by decide), fun h => absurd h this⟩
  · rw [if_neg h1]
    by_cases h2 : x = y
    · rw [if_pos h2]
      subst h2
      exact ⟨fun h => absurd h (by decide), fun h => absurd h h1⟩
    · rw [if_neg h2]
      refine ⟨fun _ => ?_, fun _ => by decide⟩
      rw [fa_lt64] at h1 ⊢
      rw [fa_eq64] at h2
      omega
theorem lg_gt (x y : Int64) : 0 < lg_cmp x y ↔ y < x := by
  unfold lg_cmp
  by_cases h1 : y < x
  · rw [if_pos h1]
    exact ⟨fun _ => h1, fun _ => by decide⟩
  · rw [if_neg h1]
    refine ⟨fun h => ?_, fun h => absurd h h1⟩
    by_cases h2 : x = y
    · rw [if_pos h2] at h; exact absurd h (by decide)
    · rw [if_neg h2] at h; exact absurd h (by decide)
theorem bt_1 (i : Nat) : bt 1 i = decide (i = 0) := by
  unfold bt
  show (BitVec.ofNat 32 1).getLsbD i = _
  rw [BitVec.getLsbD_ofNat]
  by_cases h : i = 0
  · subst h; rfl
  · have : Nat.testBit 1 i = false := by
      cases hb : Nat.testBit 1 i with
      | false => rfl
      | true => exact absurd (Nat.testBit_one_eq_true_iff_self_eq_zero.mp hb) h
    simp [this, h]
theorem zb (x : Int32) {k : Nat} (hk : k < 32) : (zshr x (nI k) &&& 1) = b2i (bt x k) := by
  apply b_ext
  intro i hi
  rw [b_and, bt_1]
  unfold zshr
  rw [b_sshr k hk x hi]
  by_cases h : i = 0
  · subst h
    simp only [Nat.add_zero, hk, if_true, decide_true, Bool.and_true]
    cases bt x k <;> rfl
  · simp only [h, decide_false, Bool.and_false]
    cases bt x k
    · exact (b_0 i).symm
    · rw [b2i_t, bt_1]; simp [h]
theorem bt_sh {k : Nat} (hk : k < 32) {i : Nat} (hi : i < 32) : bt (zshl 1 (nI k)) i = decide (i = k) := by
  unfold zshl
  rw [b_shl k hk 1 hi, bt_1]
  by_cases h : i = k
  · subst h; simp
  · by_cases h2 : k ≤ i
    · have : ¬ i - k = 0 := by omega
      simp [h, this]
    · simp [h, h2]
theorem bt_not (x : Int32) {i : Nat} (hi : i < 32) : bt (x ^^^ (-1)) i = !bt x i := by
  rw [b_xor, b_m1 i hi]; cases bt x i <;> rfl
/-- the set of all g i, i below n with p i, as bits -/
def bsx (p : Nat → Bool) (g : Nat → Nat) : Nat → Int32
  | 0 => 0
  | n + 1 => bsx p g n ||| (if p n then zshl 1 (nI (g n)) else 0)
def bs (p : Nat → Bool) (n : Nat) : Int32 := bsx p (fun i => i) n
theorem bt_bsx (p : Nat → Bool) (g : Nat → Nat) {k : Nat} (hk : k < 32) : ∀ n, (∀ i, i < n → p i = true → g i < 32) → (bt (bsx p g n) k = true ↔ ∃ i, i < n ∧ p i = true ∧ g i = k)
  | 0, _ => by
    show bt 0 k = true ↔ _
    rw [b_0]
    constructor
    · intro h; cases h
    · rintro ⟨i, hi, _⟩; omega
  | n + 1, hg => by
    show bt (bsx p g n ||| (if p n then zshl 1 (nI (g n)) else 0)) k = true ↔ _
    rw [b_or, Bool.or_eq_true, bt_bsx p g hk n (fun i hi => hg i (by omega))]
    constructor
    · rintro (⟨i, h1, h2, h3⟩ | h)
      · exact ⟨i, by omega, h2, h3⟩
      · cases hp : p n with
        | false => rw [hp] at h; simp [b_0] at h
        | true =>
          rw [hp] at h
          simp only [if_true] at h
          rw [bt_sh (hg n (by omega) hp) hk, decide_eq_true_eq] at h
          exact ⟨n, by omega, hp, h.symm⟩
    · rintro ⟨i, h1, h2, h3⟩
      by_cases e : i = n
      · subst e
        right
        rw [if_pos h2, bt_sh (hg i (by omega) h2) hk, decide_eq_true_eq]
        exact h3.symm
      · left; exact ⟨i, by omega, h2, h3⟩
theorem bt_bs (p : Nat → Bool) {n : Nat} (hn : n ≤ 32) {k : Nat} (hk : k < 32) : bt (bs p n) k = (decide (k < n) && p k) := by
  have h := bt_bsx p (fun i => i) hk n (fun i hi _ => by show i < 32; omega)
  unfold bs
  cases hp : p k with
  | false =>
    simp only [Bool.and_false]
    cases hb : bt (bsx p (fun i => i) n) k with
    | false => rfl
    | true => obtain ⟨i, h1, h2, rfl⟩ := h.mp hb; rw [hp] at h2; cases h2
  | true =>
    simp only [Bool.and_true]
    by_cases hkn : k < n
    · simp only [hkn, decide_true]
      exact h.mpr ⟨k, hkn, hp, rfl⟩
    · simp only [hkn, decide_false]
      cases hb : bt (bsx p (fun i => i) n) k with
      | false => rfl
      | true => obtain ⟨i, h1, h2, rfl⟩ := h.mp hb; omega
theorem bsx_congr {p q : Nat → Bool} {g h : Nat → Nat} : ∀ {n : Nat}, (∀ i, i < n → p i = q i) → (∀ i, i < n → q i = true → g i = h i) → bsx p g n = bsx q h n
  | 0, _, _ => rfl
  | n + 1, e1, e2 => by
    show bsx p g n ||| _ = bsx q h n ||| _
    rw [bsx_congr (fun i hi => e1 i (by omega)) (fun i hi => e2 i (by omega)), e1 n (by omega)]
    cases hq : q n with
    | false => rfl
    | true => rw [e2 n (by omega) hq]
theorem bs_congr {p q : Nat → Bool} {n : Nat} (h : ∀ i, i < n → p i = q i) : bs p n = bs q n := bsx_congr h (fun _ _ _ => rfl)
theorem bsx_succ (p : Nat → Bool) (g : Nat → Nat) (n : Nat) : bsx p g (n + 1) = bsx p g n ||| (if p n then zshl 1 (nI (g n)) else 0) := rfl
theorem bs_succ (p : Nat → Bool) (n : Nat) : bs p (n + 1) = bs p n ||| (if p n then zshl 1 (nI n) else 0) := rfl
theorem zle {a b : Nat} (ha : a < 2 ^ 31) (hb : b < 2 ^ 31) : nI a ≤ nI b ↔ a ≤ b := nI_leI ha hb
theorem beq_d {x y : Int32} : (x == y) = decide (x = y) := rfl
