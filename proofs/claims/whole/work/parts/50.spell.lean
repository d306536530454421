/-! the class: which name is it -/
section XS
variable {X Y M N D : zX}
theorem cX_meaning (h : IY Y) (hx : M 25 1 = nI (LY Y) ∧ ∀ i, i < LY Y → M 26 i = (nI (bY Y i)).toInt8.toInt32) {s e : Nat} (hs : M 27 2 = nI s) (he : M 27 4 = nI e) (hse : s ≤ e) (heL : e ≤ LY Y) : zPf SX 6 mX3_meaning [.ref 27] M (if mnV Y s e = 9 then -4 else nI (mnV Y s e)) := sorry
end XS
