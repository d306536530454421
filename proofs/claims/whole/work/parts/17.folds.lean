/-- or over the rows w below n with p w -/
def orx (p : Nat → Bool) (f : Nat → Int32) : Nat → Int32
  | 0 => 0
  | n + 1 => if p n then orx p f n ||| f n else orx p f n
theorem orx_t {p : Nat → Bool} {f : Nat → Int32} {i : Nat} (h : p i = true) : orx p f i ||| f i = orx p f (i + 1) := (if_pos h).symm
theorem orx_f {p : Nat → Bool} {f : Nat → Int32} {i : Nat} (h : p i = false) : orx p f i = orx p f (i + 1) := (if_neg (by rw [h]; decide)).symm
/-- whether some w below n has p w -/
def anyB (p : Nat → Bool) : Nat → Bool
  | 0 => false
  | n + 1 => anyB p n || p n
theorem anyB_iff {p : Nat → Bool} : ∀ {n : Nat}, anyB p n = true ↔ ∃ i, i < n ∧ p i = true
  | 0 => by
    constructor
    · intro h; cases h
    · rintro ⟨i, h, _⟩; omega
  | n + 1 => by
    show (anyB p n || p n) = true ↔ _
    rw [Bool.or_eq_true, anyB_iff]
    constructor
    · rintro (⟨i, h1, h2⟩ | h)
      · exact ⟨i, by omega, h2⟩
      · exact ⟨n, by omega, h⟩
    · rintro ⟨i, h1, h2⟩
      by_cases e : i = n
      · subst e; exact Or.inr h2
      · exact Or.inl ⟨i, by omega, h2⟩
theorem anyB_congr {p q : Nat → Bool} {n : Nat} (h : ∀ i, i < n → p i = q i) : anyB p n = anyB q n := by
  rw [Bool.eq_iff_iff, anyB_iff, anyB_iff]
  constructor
  · rintro ⟨i, a, b⟩; exact ⟨i, a, by rw [← h i a]; exact b⟩
  · rintro ⟨i, a, b⟩; exact ⟨i, a, by rw [h i a]; exact b⟩
theorem bt_orx (p : Nat → Bool) (f : Nat → Int32) (k : Nat) : ∀ n, bt (orx p f n) k = anyB (fun i => p i && bt (f i) k) n
  | 0 => b_0 k
  | n + 1 => by
    show bt (if p n then orx p f n ||| f n else orx p f n) k = (anyB _ n || _)
    cases h : p n
    · simp [h, bt_orx p f k n]
    · simp [h, b_or, bt_orx p f k n]
theorem bt_bsxA (p : Nat → Bool) (g : Nat → Nat) {k n : Nat} (hk : k < 32) (hg : ∀ i, i < n → p i = true → g i < 32) : bt (bsx p g n) k = anyB (fun i => p i && g i == k) n := by
  rw [Bool.eq_iff_iff, bt_bsx p g hk n hg, anyB_iff]
  constructor
  · rintro ⟨i, a, b, c⟩; exact ⟨i, a, by simp [b, c]⟩
  · rintro ⟨i, a, b⟩
    simp only [Bool.and_eq_true, beq_iff_eq] at b
    exact ⟨i, a, b.1, b.2⟩
/-- the first i from i on, d of them, with p; -4 where none is -/
def fstF (p : Nat → Bool) : Nat → Nat → Int32
  | 0, _ => -4
  | d + 1, i => if p i then nI i else fstF p d (i + 1)
theorem fstF_s (p : Nat → Bool) {n i : Nat} (h : i < n) : fstF p (n - i) i = if p i then nI i else fstF p (n - (i + 1)) (i + 1) := by
  rw [show n - i = (n - (i + 1)) + 1 by omega]; rfl
theorem fstF_congr {p q : Nat → Bool} : ∀ (d i : Nat), (∀ j, i ≤ j → j < i + d → p j = q j) → fstF p d i = fstF q d i
  | 0, _, _ => rfl
  | d + 1, i, h => by
    show (if p i then nI i else fstF p d (i + 1)) = (if q i then nI i else fstF q d (i + 1))
    rw [h i (by omega) (by omega), fstF_congr d (i + 1) (fun j a b => h j (by omega) (by omega))]
theorem i_sub_add (a b c : Int32) : a - b + c = a + c - b := by
  rw [Int32.sub_eq_add_neg, Int32.sub_eq_add_neg, Int32.add_assoc, Int32.add_comm (-b) c, Int32.add_assoc]
theorem decide_or_f {x y : Int32} : (x == y) = true ↔ x = y := beq_iff_eq
theorem beqF {x y : Int32} (h : ¬ x = y) : (x == y) = false := by simpa using h
theorem beqT {x y : Int32} (h : x = y) : (x == y) = true := by simpa using h
theorem nI_inj {a b : Nat} (ha : a < 2 ^ 31) (hb : b < 2 ^ 31) (h : nI a = nI b) : a = b := (nI_eq ha hb).mp h
theorem neg4_ne (k : Nat) (hk : k < 2 ^ 31) : ¬ nI k = -4 := fun h => by
  have := congrArg Int32.toInt h
  rw [nI_toInt hk] at this
  have e : (-4 : Int32).toInt = -4 := by decide
  rw [e] at this
  omega
theorem isN_ne4 {x : Int32} {b : Nat} (h : isN x b) (hb : b ≤ 2 ^ 31) : ¬ x = -4 := by rw [h.1]; exact neg4_ne _ (by have := h.2; omega)
/-- the sets that the code speaks of -/
def liveP (Y : zX) : Nat → Bool := fun w => Y 14 w == 0
def sungP (Y : zX) (x : Int32) : Nat → Bool := fun v => anyB (fun w => bt x w && singY Y w v) (nN Y)
def sungY (Y : zX) (x : Int32) : Int32 := bs (sungP Y x) (nV Y)
def ledP (Y : zX) (s : Int32) : Nat → Bool := fun v => bt s v && (Y 17 v &&& (s ^^^ (-1))) == 0
def ledW (Y : zX) (s : Int32) : Int32 := bs (ledP Y s) (nV Y)
def ledY (Y : zX) (x : Int32) : Int32 := ledW Y (sungY Y x)
def lenY (Y : zX) (s : Int32) : Nat := fb_ct (fun v => Y 3 v == s) (nV Y)
def Rel (X Y : zX) : Prop := IY Y ∧ RX X Y
theorem numY {Y : zX} (h : IY Y) {v : Nat} (hv : v < nV Y) : Y 8 v = nI (n32 (Y 8 v)) ∧ n32 (Y 8 v) = fb_ct (fun u => Y 3 u == Y 3 v) v ∧ n32 (Y 8 v) < lenY Y (Y 3 v) := by
  have e := h.number v hv
  have h1 := fb_ct_le (fun u => Y 3 u == Y 3 v) v
  have h2 := h.v2
  have e2 : n32 (Y 8 v) = fb_ct (fun u => Y 3 u == Y 3 v) v := by rw [e, n32_nI (by omega)]
  refine ⟨by rw [e2]; exact e, e2, ?_⟩
  rw [e2]
  have : fb_ct (fun u => Y 3 u == Y 3 v) (v + 1) ≤ fb_ct (fun u => Y 3 u == Y 3 v) (nV Y) := fb_ct_mono _ (by omega)
  rw [fb_ct_succ] at this
  simp at this
  exact this
theorem lenY_le {Y : zX} (h : IY Y) (s : Int32) : lenY Y s ≤ 24 := Nat.le_trans (fb_ct_le _ _) h.v2
/-- a verse by its song and number -/
theorem vby_one {Y : zX} (h : IY Y) {u : Nat} (hu : u < nV Y) : ∀ i, u < i → i ≤ nV Y → vby Y (Y 3 u) (Y 8 u) i = nI u
  | 0, a, _ => by omega
  | i + 1, a, b => by
    show (if Y 3 i = Y 3 u ∧ Y 8 i = Y 8 u then nI i else vby Y (Y 3 u) (Y 8 u) i) = _
    by_cases e : i = u
    · subst e; rw [if_pos ⟨rfl, rfl⟩]
    · rw [if_neg, vby_one h hu i (by omega) (by omega)]
      rintro ⟨e1, e2⟩
      obtain ⟨-, n1, -⟩ := numY h (v := i) (by omega)
      obtain ⟨-, n2, -⟩ := numY h hu
      rw [e1] at n1
      rw [e2, n2] at n1
      exact e (fb_ct_kth_one (p := fun q => Y 3 q == Y 3 u) (by simp [e1]) (by simp) n1.symm)
theorem vby_none {Y : zX} {s n : Int32} : ∀ i, (∀ u, u < i → ¬ (Y 3 u = s ∧ Y 8 u = n)) → vby Y s n i = -4
  | 0, _ => rfl
  | i + 1, hn => by
    show (if _ then _ else _) = _
    rw [if_neg (hn i (by omega))]
    exact vby_none i (fun u hu => hn u (by omega))
theorem vby_at {Y : zX} (h : IY Y) (s : Int32) {k : Nat} (hk : k < lenY Y s) : ∃ u, u < nV Y ∧ Y 3 u = s ∧ n32 (Y 8 u) = k ∧ Y 8 u = nI k ∧ vby Y s (nI k) (nV Y) = nI u := by
  obtain ⟨u, a, b, c⟩ := fb_ct_kth hk
  have b : Y 3 u = s := by simpa using b
  obtain ⟨n1, n2, n3⟩ := numY h a
  rw [b] at n2
  have e : n32 (Y 8 u) = k := n2.trans c
  refine ⟨u, a, b, e, by rw [n1, e], ?_⟩
  have := vby_one h a (nV Y) a (Nat.le_refl _)
  rw [n1, e, b] at this
  exact this
theorem vby_out {Y : zX} (h : IY Y) (s : Int32) {n : Int32} (hn : ∀ k, k < lenY Y s → ¬ n = nI k) : vby Y s n (nV Y) = -4 := by
  refine vby_none _ (fun u hu hh => ?_)
  obtain ⟨n1, n2, n3⟩ := numY h hu
  rw [hh.1] at n3
  exact hn _ n3 (by rw [← n1]; exact hh.2.symm)
