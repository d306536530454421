/-! the reference: its small methods -/
theorem cY_in (sh0 : Unit) (X : zX) (a lo hi : Int64) : zPf SY 0 mX10_in [.long a, .long lo, .long hi] X (b2i (decide (lo ≤ a ∧ a ≤ hi))) := by
  refine eX10_in _ X a lo hi ?_
  rw [lg_lt, lg_gt]
  have h1 : a < lo ↔ ¬ lo ≤ a := by rw [fa_lt64, fa_le64]; omega
  have h2 : hi < a ↔ ¬ a ≤ hi := by rw [fa_lt64, fa_le64]; omega
  rw [h1, h2]
  by_cases e1 : lo ≤ a <;> by_cases e2 : a ≤ hi <;> simp [e1, e2, b2i]
theorem ci_long (a : Int32) (k : Int) (b : Int64) (hb : b.toInt = k) : (0 ≤ a.toInt64 ∧ a.toInt64 ≤ b) ↔ (0 ≤ a.toInt ∧ a.toInt ≤ k) := by
  rw [fa_le64, fa_le64, Int32.toInt_toInt64, hb]
  rfl
/-- in(a, 0, n - 1), a constant n -/
theorem cY_inK (X : zX) (a : Int32) (hi : Int64) (n : Nat) (h : hi.toInt = (n : Int) - 1) : zPf SY 0 mX10_in [.long a.toInt64, .long 0, .long hi] X (b2i (inR a n)) := by
  have := cY_in () X a.toInt64 0 hi
  have e : decide ((0 : Int64) ≤ a.toInt64 ∧ a.toInt64 ≤ hi) = inR a n := by
    unfold inR
    rw [decide_eq_decide, ci_long a _ hi h]
    omega
  rw [e] at this
  exact this
theorem cY_inS (X : zX) (a : Int32) (n : Nat) (hn : n < 2 ^ 30) {x : Int32} (hx : x = nI n) : zPf SY 0 mX10_in [.long a.toInt64, .long 0, .long (x - 1).toInt64] X (b2i (inR a n)) :=
  cY_inK X a _ n (by rw [Int32.toInt_toInt64, hx, nI_sub1 hn])
theorem cY_isPlace (Y : zX) (h : IY Y) (a : Int32) : zPf SY 1 mX10_isPlace [.ref 0, .int a] Y (b2i (inR a (nP Y))) :=
  eX10_isPlace _ Y a ⟨_, cY_inS Y a (nP Y) (by have := h.p2; omega) h.p, b2i_nar _, rfl⟩
theorem cY_isVerse (Y : zX) (h : IY Y) (a : Int32) : zPf SY 1 mX10_isVerse [.ref 0, .int a] Y (b2i (inR a (nV Y))) :=
  eX10_isVerse _ Y a ⟨_, cY_inS Y a (nV Y) (by have := h.v2; omega) h.v, b2i_nar _, rfl⟩
theorem cY_isOne (Y : zX) (h : IY Y) (a : Int32) : zPf SY 1 mX10_isOne [.ref 0, .int a] Y (b2i (inR a (nN Y))) :=
  eX10_isOne _ Y a ⟨_, cY_inS Y a (nN Y) (by have := h.n2; omega) h.n, b2i_nar _, rfl⟩
theorem cY_isSong (Y : zX) (a : Int32) : zPf SY 1 mX10_isSong [.int a] Y (b2i (inR a 4)) :=
  eX10_isSong _ Y a ⟨_, cY_inK Y a 3 4 (by decide), b2i_nar _, rfl⟩
theorem cY_flag (Y : zX) (b : Bool) : zPf SY 0 mX10_flag [.int (b2i b)] Y (b2i b) :=
  eX10_flag _ Y _ (by cases b <;> simp [b2i])
theorem cY_lengthOf (Y : zX) (h : IY Y) (s : Int32) : zPf SY 0 mX10_lengthOf [.ref 0, .int s] Y (nI (fb_ct (fun v => Y 3 v == s) (nV Y))) := by
  have hv := h.v; have hv2 := h.v2
  refine eX10_lengthOf _ Y s (zdown0 (P := fun i => LX10_lengthOf_4 _ Y s (nI (fb_ct (fun v => Y 3 v == s) i)) (nI i)) (nV Y) ?_ ?_)
  · refine bX10_lengthOf_4 _ Y s _ _ ⟨fun _ => rfl, fun hc => absurd ?_ hc⟩
    rw [hv]; exact nI_le (Nat.le_refl _) (by omega)
  · intro i hi ih
    refine bX10_lengthOf_4 _ Y s _ _ ⟨fun hc => absurd hc ?_, fun _ => ⟨i, rfl, by omega, fun e => ?_, fun e => ?_⟩⟩
    · rw [hv]; exact nI_ge hi (by omega)
    · rw [nI_1, show nI (fb_ct (fun v => Y 3 v == s) i) + 0 = nI (fb_ct (fun v => Y 3 v == s) (i + 1)) by rw [fb_ct_succ]; simp [e, nI_add _ 0]] 
      exact ih
    · rw [nI_1, nI_1, show fb_ct (fun v => Y 3 v == s) i + 1 = fb_ct (fun v => Y 3 v == s) (i + 1) by rw [fb_ct_succ]; simp [e]]
      exact ih
