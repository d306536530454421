/-! the text: tokens -/
def runF (f : Nat → Bool) : Nat → Nat → Nat
  | 0, p => p
  | d + 1, p => if f p then runF f d (p + 1) else p
theorem runF_ge (f : Nat → Bool) : ∀ d p, p ≤ runF f d p ∧ runF f d p ≤ p + d
  | 0, p => ⟨Nat.le_refl _, Nat.le_refl _⟩
  | d + 1, p => by
    show p ≤ (if f p then runF f d (p + 1) else p) ∧ (if f p then runF f d (p + 1) else p) ≤ p + (d + 1)
    have := runF_ge f d (p + 1)
    split <;> omega
theorem runF_go {f : Nat → Bool} {L p : Nat} (hp : p < L) (hf : f p = true) : runF f (L - p) p = runF f (L - (p + 1)) (p + 1) := by
  obtain ⟨d, hd⟩ : ∃ d, L - p = d + 1 := ⟨L - p - 1, by omega⟩
  rw [hd, show L - (p + 1) = d by omega]
  exact if_pos hf
theorem runF_st {f : Nat → Bool} {L p : Nat} (hp : p < L) (hf : f p = false) : runF f (L - p) p = p := by
  obtain ⟨d, hd⟩ : ∃ d, L - p = d + 1 := ⟨L - p - 1, by omega⟩
  rw [hd]
  exact if_neg (by rw [hf]; decide)
theorem runF_end {f : Nat → Bool} {L p : Nat} (hp : L ≤ p) : runF f (L - p) p = p := by
  rw [show L - p = 0 by omega]; rfl
section TK
variable {X Y M N : zX}
def bY (Y : zX) (i : Nat) : Nat := n32 (Y 22 i)
def LY (Y : zX) : Nat := n32 (Y 0 33)
def isSp (Y : zX) (i : Nat) : Bool := decide (bY Y i = 32)
def isLt (Y : zX) (i : Nat) : Bool := decide (97 ≤ bY Y i) && decide (bY Y i ≤ 122)
def isFg (Y : zX) (i : Nat) : Bool := decide (48 ≤ bY Y i) && decide (bY Y i ≤ 57)
def tS (Y : zX) (p : Nat) : Nat := runF (isSp Y) (LY Y - p) p
def eLt (Y : zX) (s : Nat) : Nat := runF (isLt Y) (LY Y - s) s
def eFg (Y : zX) (s : Nat) : Nat := runF (isFg Y) (LY Y - s) s
def sp4 (Y : zX) (s e a b c d : Nat) : Bool := decide (e = s + 4) && decide (bY Y s = a) && decide (bY Y (s + 1) = b) && decide (bY Y (s + 2) = c) && decide (bY Y (s + 3) = d)
def cr4 (Y : zX) (s e : Nat) : Bool := decide (e = s + 5) && decide (bY Y s = 99) && decide (bY Y (s + 1) = 97) && decide (bY Y (s + 2) = 114) && decide (bY Y (s + 3) = 114)
def sp3 (Y : zX) (s e : Nat) : Bool := decide (e = s + 3) && decide (bY Y s = 100) && decide (bY Y (s + 1) = 114) && decide (bY Y (s + 2) = 121)
/-- which name stands there; 9 for none -/
def mnV (Y : zX) (s e : Nat) : Nat :=
  if sp4 Y s e 104 101 97 114 then 0 else if sp4 Y s e 115 105 110 103 then 1 else if sp4 Y s e 116 101 108 108 then 2
  else if cr4 Y s e && decide (bY Y (s + 4) = 121) then 3 else if sp3 Y s e then 4 else if sp4 Y s e 112 97 105 114 then 5 else 9
def nvF (Y : zX) (s : Nat) : Nat → Nat
  | 0 => 0
  | k + 1 => nvF Y s k * 10 + (bY Y (s + k) - 48)
def kK (Y : zX) (s : Nat) : Nat := if LY Y ≤ s then 0 else if isLt Y s then (if mnV Y s (eLt Y s) = 9 then 9 else 1) else if isFg Y s then (if eFg Y s ≤ s + 2 then 2 else 9) else if bY Y s = 59 then 3 else 9
def kE (Y : zX) (s : Nat) : Nat := if LY Y ≤ s then s else if isLt Y s then eLt Y s else if isFg Y s then eFg Y s else s + 1
def kV (Y : zX) (s : Nat) : Nat := if isLt Y s then mnV Y s (eLt Y s) else nvF Y s (eFg Y s - s)
theorem by_tab : ∀ n, n < 256 → ((nI n).toInt8.toInt32 = 32 ↔ n = 32) ∧ ((nI n).toInt8.toInt32 = 59 ↔ n = 59) ∧ ((nI n).toInt8.toInt32 < 97 ∨ 122 < (nI n).toInt8.toInt32 ↔ ¬ (97 ≤ n ∧ n ≤ 122)) ∧ ((nI n).toInt8.toInt32 < 48 ∨ 57 < (nI n).toInt8.toInt32 ↔ ¬ (48 ≤ n ∧ n ≤ 57)) ∧ (n < 128 → (nI n).toInt8.toInt32 = nI n) := by decide +kernel
end TK
