theorem zPf.eq {sh : List zE} {lv : Nat} {mi : zM} {as : List Value} {X : zX} {v w : Int32} (h : zPf sh lv mi as X v) (e : v = w) : zPf sh lv mi as X w := e ▸ h
theorem oor {a : Int32} {n k : Nat} (h : inR a n = false) (hk : k < n) (hn : n ≤ 2 ^ 31 := by decide) : ¬ a = nI k := fun e => by
  rw [e, inR_nI hk hn] at h; cases h
theorem oor_big {a : Int32} {n : Nat} (h : inR a n = false) : a.toInt < 0 ∨ (n : Int) ≤ a.toInt := by
  unfold inR at h
  rw [decide_eq_false_iff_not] at h
  omega
section IO
variable {X Y : zX}
theorem oN_i (h : Rel X Y) {k : Nat} (hk : k < nN Y) : zPf SX 0 mX9_outside [.int (nI k), .int (X 19 5)] X 0 := (cX_oneOut h (nI k)).eq (by rw [inR_nI hk (by have := h.1.n2; omega)]; rfl)
theorem oN_o (h : Rel X Y) {a : Int32} (ha : inR a (nN Y) = false) : zPf SX 0 mX9_outside [.int a, .int (X 19 5)] X 1 := (cX_oneOut h a).eq (by rw [ha]; rfl)
theorem oV_i (h : Rel X Y) {k : Nat} (hk : k < nV Y) : zPf SX 0 mX9_outside [.int (nI k), .int (X 4 10)] X 0 := (cX_verseOut h (nI k)).eq (by rw [inR_nI hk (by have := h.1.v2; omega)]; rfl)
theorem oV_o (h : Rel X Y) {a : Int32} (ha : inR a (nV Y) = false) : zPf SX 0 mX9_outside [.int a, .int (X 4 10)] X 1 := (cX_verseOut h a).eq (by rw [ha]; rfl)
theorem oP_i (h : Rel X Y) {k : Nat} (hk : k < nP Y) : zPf SX 0 mX9_outside [.int (nI k), .int (X 1 2)] X 0 := (cX_placeOut h (nI k)).eq (by rw [inR_nI hk (by have := h.1.p2; omega)]; rfl)
theorem oP_o (h : Rel X Y) {a : Int32} (ha : inR a (nP Y) = false) : zPf SX 0 mX9_outside [.int a, .int (X 1 2)] X 1 := (cX_placeOut h a).eq (by rw [ha]; rfl)
theorem oS_i (h : Rel X Y) {k : Nat} (hk : k < 2 ^ nN Y) : zPf SX 1 mX9_noSuchPeople [.ref 0, .int (nI k)] X 0 := (cX_noSuchPeople h (nI k)).eq (by rw [inR_nI hk (by have := pow_le h.1.n2; omega)]; rfl)
theorem oS_o (h : Rel X Y) {a : Int32} (ha : inR a (2 ^ nN Y) = false) : zPf SX 1 mX9_noSuchPeople [.ref 0, .int a] X 1 := (cX_noSuchPeople h a).eq (by rw [ha]; rfl)
theorem oQ_i (h : Rel X Y) {k : Nat} (hk : k < 2 ^ nP Y) : zPf SX 0 mX9_outside [.int (nI k), .int (zshl 1 (X 1 2))] X 0 := (cX_outside X (nI k) (2 ^ nP Y) (by rw [h.2.size, h.1.p, zshl_pow _ (by have := h.1.p2; omega)]) (by have := pow_le h.1.p2; omega)).eq (by rw [inR_nI hk (by have := pow_le h.1.p2; omega)]; rfl)
theorem oQ_o (h : Rel X Y) {a : Int32} (ha : inR a (2 ^ nP Y) = false) : zPf SX 0 mX9_outside [.int a, .int (zshl 1 (X 1 2))] X 1 := (cX_outside X a (2 ^ nP Y) (by rw [h.2.size, h.1.p, zshl_pow _ (by have := h.1.p2; omega)]) (by have := pow_le h.1.p2; omega)).eq (by rw [ha]; rfl)
theorem oC_i (X : zX) {k : Nat} (n : Nat) (hk : k < n) (hn : n < 2 ^ 31) {b : Int32} (hb : b = nI n) : zPf SX 0 mX9_outside [.int (nI k), .int b] X 0 := (cX_outside X (nI k) n hb hn).eq (by rw [inR_nI hk (by omega)]; rfl)
theorem oC_o (X : zX) {a : Int32} (n : Nat) (ha : inR a n = false) (hn : n < 2 ^ 31) {b : Int32} (hb : b = nI n) : zPf SX 0 mX9_outside [.int a, .int b] X 1 := (cX_outside X a n hb hn).eq (by rw [ha]; rfl)
theorem yN_i (h : IY Y) {k : Nat} (hk : k < nN Y) : zPf SY 1 mX10_isOne [.ref 0, .int (nI k)] Y 1 := (cY_isOne Y h (nI k)).eq (by rw [inR_nI hk (by have := h.n2; omega)]; rfl)
theorem yN_o (h : IY Y) {a : Int32} (ha : inR a (nN Y) = false) : zPf SY 1 mX10_isOne [.ref 0, .int a] Y 0 := (cY_isOne Y h a).eq (by rw [ha]; rfl)
theorem yV_i (h : IY Y) {k : Nat} (hk : k < nV Y) : zPf SY 1 mX10_isVerse [.ref 0, .int (nI k)] Y 1 := (cY_isVerse Y h (nI k)).eq (by rw [inR_nI hk (by have := h.v2; omega)]; rfl)
theorem yV_o (h : IY Y) {a : Int32} (ha : inR a (nV Y) = false) : zPf SY 1 mX10_isVerse [.ref 0, .int a] Y 0 := (cY_isVerse Y h a).eq (by rw [ha]; rfl)
theorem yP_i (h : IY Y) {k : Nat} (hk : k < nP Y) : zPf SY 1 mX10_isPlace [.ref 0, .int (nI k)] Y 1 := (cY_isPlace Y h (nI k)).eq (by rw [inR_nI hk (by have := h.p2; omega)]; rfl)
theorem yP_o (h : IY Y) {a : Int32} (ha : inR a (nP Y) = false) : zPf SY 1 mX10_isPlace [.ref 0, .int a] Y 0 := (cY_isPlace Y h a).eq (by rw [ha]; rfl)
theorem yS_i (h : IY Y) {k : Nat} (hk : k < 2 ^ nN Y) : zPf SY 1 mX10_arePeople [.ref 0, .int (nI k)] Y 1 := (cY_arePeople h (nI k)).eq (by rw [inR_nI hk (by have := pow_le h.n2; omega)]; rfl)
theorem yS_o (h : IY Y) {a : Int32} (ha : inR a (2 ^ nN Y) = false) : zPf SY 1 mX10_arePeople [.ref 0, .int a] Y 0 := (cY_arePeople h a).eq (by rw [ha]; rfl)
theorem yQ_i (h : IY Y) {k : Nat} (hk : k < 2 ^ nP Y) : zPf SY 1 mX10_arePlaces [.ref 0, .int (nI k)] Y 1 := (cY_arePlaces h (nI k)).eq (by rw [inR_nI hk (by have := pow_le h.p2; omega)]; rfl)
theorem yQ_o (h : IY Y) {a : Int32} (ha : inR a (2 ^ nP Y) = false) : zPf SY 1 mX10_arePlaces [.ref 0, .int a] Y 0 := (cY_arePlaces h a).eq (by rw [ha]; rfl)
theorem yG_i (Y : zX) {k : Nat} (hk : k < 4) : zPf SY 1 mX10_isSong [.int (nI k)] Y 1 := (cY_isSong Y (nI k)).eq (by rw [inR_nI hk (by decide)]; rfl)
theorem yG_o (Y : zX) {a : Int32} (ha : inR a 4 = false) : zPf SY 1 mX10_isSong [.int a] Y 0 := (cY_isSong Y a).eq (by rw [ha]; rfl)
theorem yC_i (Y : zX) {k : Nat} (n : Nat) (hk : k < n) (hn : n ≤ 2 ^ 31) {hi : Int64} (e : hi.toInt = (n : Int) - 1) : zPf SY 0 mX10_in [.long (nI k).toInt64, .long 0, .long hi] Y 1 := (cY_inK Y (nI k) hi n e).eq (by rw [inR_nI hk hn]; rfl)
theorem yC_o (Y : zX) {a : Int32} (n : Nat) (ha : inR a n = false) {hi : Int64} (e : hi.toInt = (n : Int) - 1) : zPf SY 0 mX10_in [.long a.toInt64, .long 0, .long hi] Y 0 := (cY_inK Y a hi n e).eq (by rw [ha]; rfl)
end IO
