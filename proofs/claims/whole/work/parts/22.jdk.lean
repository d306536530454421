/-! three methods of the JDK: bitCount, numberOfTrailingZeros, min -/
theorem and_split (a b : Nat) : a &&& b = 256 * ((a / 256) &&& (b / 256)) + (a % 256 &&& b % 256) := by
  have hlt : (a % 256 &&& b % 256) < 2 ^ 8 := Nat.lt_of_le_of_lt Nat.and_le_left (Nat.mod_lt _ (by decide))
  apply Nat.eq_of_testBit_eq
  intro i
  rw [show (256 : Nat) = 2 ^ 8 from rfl] at hlt ⊢
  rw [Nat.testBit_two_pow_mul_add _ hlt, Nat.testBit_and]
  split
  · rename_i h
    rw [Nat.testBit_and, Nat.testBit_mod_two_pow, Nat.testBit_mod_two_pow]; simp [h]
  · rename_i h
    rw [Nat.testBit_and, Nat.testBit_div_two_pow, Nat.testBit_div_two_pow, show i - 8 + 8 = i by omega]
theorem pc_a : ∀ l : Fin 256, ∀ b : Fin 2, ((l.val / 2 + 128 * b.val) &&& 85) = (l.val / 2 &&& 85) ∧ (l.val / 2 &&& 85) ≤ l.val := by decide +kernel
theorem pc_b : ∀ l : Fin 256, ∀ b : Fin 4, ((l.val / 4 + 64 * b.val) &&& 51) = (l.val / 4 &&& 51) := by decide +kernel
def pc_1 (l : Nat) : Nat := l - (l / 2 &&& 85)
def pc_2 (l : Nat) : Nat := (l &&& 51) + (l / 4 &&& 51)
def pc_3 (l : Nat) : Nat := (l + l / 16) &&& 15
theorem pc_c : ∀ l : Fin 256, pc_1 l.val < 256 ∧ pc_2 (pc_1 l.val) ≤ 68 ∧ pc_2 (pc_1 l.val) % 16 ≤ 4 ∧ pc_3 (pc_2 (pc_1 l.val)) = fb_ct (fun i => Nat.testBit l.val i) 8 := by decide +kernel
theorem pc_d : ∀ l : Fin 69, ∀ b : Fin 5, ((l.val + l.val / 16 + 16 * b.val) &&& 15) = pc_3 l.val := by decide +kernel
theorem pc_s1 {h l M : Nat} (hl : l < 256) : (256 * h + l) - (((256 * h + l) / 2) &&& (256 * M + 85)) = 256 * (h - (h / 2 &&& M)) + pc_1 l := by
  have e := and_split ((256 * h + l) / 2) (256 * M + 85)
  rw [show (256 * h + l) / 2 / 256 = h / 2 by omega, show (256 * M + 85) / 256 = M by omega, show (256 * M + 85) % 256 = 85 by omega, show (256 * h + l) / 2 % 256 = l / 2 + 128 * (h % 2) by omega] at e
  have a := pc_a ⟨l, hl⟩ ⟨h % 2, by omega⟩
  dsimp only at a
  rw [e, a.1]
  have b : (h / 2 &&& M) ≤ h / 2 := Nat.and_le_left
  unfold pc_1
  have := a.2
  omega
theorem pc_s2 {h l M : Nat} (hl : l < 256) : ((256 * h + l) &&& (256 * M + 51)) + (((256 * h + l) / 4) &&& (256 * M + 51)) = 256 * ((h &&& M) + (h / 4 &&& M)) + pc_2 l := by
  have e := and_split ((256 * h + l) / 4) (256 * M + 51)
  have e2 := and_split (256 * h + l) (256 * M + 51)
  rw [show (256 * M + 51) / 256 = M by omega, show (256 * M + 51) % 256 = 51 by omega] at e e2
  rw [show (256 * h + l) / 4 / 256 = h / 4 by omega, show (256 * h + l) / 4 % 256 = l / 4 + 64 * (h % 4) by omega] at e
  rw [show (256 * h + l) / 256 = h by omega, show (256 * h + l) % 256 = l by omega] at e2
  have a := pc_b ⟨l, hl⟩ ⟨h % 4, by omega⟩
  dsimp only at a
  rw [e, e2, a]
  unfold pc_2
  omega
theorem pc_s3 {h l M : Nat} (hl : l ≤ 68) (hh : h % 16 ≤ 4) : (((256 * h + l) + (256 * h + l) / 16) &&& (256 * M + 15)) = 256 * ((h + h / 16) &&& M) + pc_3 l := by
  have e := and_split ((256 * h + l) + (256 * h + l) / 16) (256 * M + 15)
  have q : (256 * h + l) + (256 * h + l) / 16 = 256 * (h + h / 16) + (l + l / 16 + 16 * (h % 16)) := by omega
  have q2 : l + l / 16 + 16 * (h % 16) < 256 := by omega
  rw [q] at e ⊢
  rw [show (256 * M + 15) / 256 = M by omega, show (256 * M + 15) % 256 = 15 by omega, show (256 * (h + h / 16) + (l + l / 16 + 16 * (h % 16))) / 256 = h + h / 16 by omega, show (256 * (h + h / 16) + (l + l / 16 + 16 * (h % 16))) % 256 = l + l / 16 + 16 * (h % 16) by omega] at e
  have a := pc_d ⟨l, by omega⟩ ⟨h % 16, by omega⟩
  dsimp only at a
  rw [e, a]
theorem pc_all (b0 b1 b2 b3 : Nat) (h0 : b0 < 256) (h1 : b1 < 256) (h2 : b2 < 256) (h3 : b3 < 256) :
    let n := 256 * (256 * (256 * b3 + b2) + b1) + b0
    let m := n - ((n / 2) &&& 1431655765)
    let p := (m &&& 858993459) + ((m / 4) &&& 858993459)
    let q := (p + p / 16) &&& 252645135
    m < 2 ^ 32 ∧ ((n / 2) &&& 1431655765) ≤ n ∧ p < 2 ^ 31 ∧ p + p / 16 < 2 ^ 32 ∧ q = 256 * (256 * (256 * fb_ct (fun i => Nat.testBit b3 i) 8 + fb_ct (fun i => Nat.testBit b2 i) 8) + fb_ct (fun i => Nat.testBit b1 i) 8) + fb_ct (fun i => Nat.testBit b0 i) 8 := by
  intro n m p q
  have c0 := pc_c ⟨b0, h0⟩; have c1 := pc_c ⟨b1, h1⟩; have c2 := pc_c ⟨b2, h2⟩; have c3 := pc_c ⟨b3, h3⟩
  dsimp only at c0 c1 c2 c3
  have z2 : ∀ h l, l < 256 → (256 * h + l) - (((256 * h + l) / 2) &&& 85) = (256 * h + l) - (((256 * h + l) / 2) &&& (256 * 0 + 85)) := fun _ _ _ => rfl
  have em : m = 256 * (256 * (256 * pc_1 b3 + pc_1 b2) + pc_1 b1) + pc_1 b0 := by
    show n - ((n / 2) &&& 1431655765) = _
    rw [show (1431655765 : Nat) = 256 * (256 * (256 * 85 + 85) + 85) + 85 from rfl]
    show (256 * (256 * (256 * b3 + b2) + b1) + b0) - _ = _
    rw [pc_s1 h0, pc_s1 h1, pc_s1 h2]; rfl
  have ep : p = 256 * (256 * (256 * pc_2 (pc_1 b3) + pc_2 (pc_1 b2)) + pc_2 (pc_1 b1)) + pc_2 (pc_1 b0) := by
    show (m &&& 858993459) + ((m / 4) &&& 858993459) = _
    rw [em, show (858993459 : Nat) = 256 * (256 * (256 * 51 + 51) + 51) + 51 from rfl]
    rw [pc_s2 c0.1, pc_s2 c1.1, pc_s2 c2.1]; rfl
  have eq : q = 256 * (256 * (256 * ((pc_2 (pc_1 b3) + pc_2 (pc_1 b3) / 16) &&& 15) + pc_3 (pc_2 (pc_1 b2))) + pc_3 (pc_2 (pc_1 b1))) + pc_3 (pc_2 (pc_1 b0)) := by
    show ((p + p / 16) &&& 252645135) = _
    rw [ep, show (252645135 : Nat) = 256 * (256 * (256 * 15 + 15) + 15) + 15 from rfl]
    rw [pc_s3 c0.2.1 (by omega), pc_s3 c1.2.1 (by omega), pc_s3 c2.2.1 (by omega)]
  refine ⟨by rw [em]; omega, ?_, by rw [ep]; omega, by rw [ep]; omega, ?_⟩
  · have : (n / 2 &&& 1431655765) ≤ n / 2 := Nat.and_le_left
    omega
  · rw [eq]
    have e3 : ((pc_2 (pc_1 b3) + pc_2 (pc_1 b3) / 16) &&& 15) = pc_3 (pc_2 (pc_1 b3)) := rfl
    rw [e3, c0.2.2.2, c1.2.2.2, c2.2.2.2, c3.2.2.2]
theorem bt_nI (n i : Nat) (hi : i < 32) : bt (nI n) i = n.testBit i := by
  show (BitVec.ofNat 32 n).getLsbD i = _
  rw [BitVec.getLsbD_ofNat]; simp [hi]
theorem i32_of (x : Int32) : ∃ n, n < 2 ^ 32 ∧ x = nI n := ⟨x.toBitVec.toNat, x.toBitVec.isLt, Int32.toBitVec_inj.mp (by show _ = BitVec.ofNat 32 _; simp)⟩
theorem zu {n : Nat} (hn : n < 2 ^ 32) {k : Nat} (hk : k < 32) : zushr (nI n) (nI k) = nI (n / 2 ^ k) := pk_ushrN hn (nI k) k (s_u k hk)
theorem cJ_bitCount (X : zX) (x : Int32) : zPf SX 0 mJ6_bitCount_0f7a4 [.int x] X (nI (fb_ct (bt x) 32)) := by
  refine eJ6_bitCount_0f7a4 _ X x ?_
  obtain ⟨n, hn, rfl⟩ := i32_of x
  have hA := pc_all (n % 256) (n / 256 % 256) (n / 65536 % 256) (n / 16777216) (by omega) (by omega) (by omega) (by omega)
  have en : 256 * (256 * (256 * (n / 16777216) + n / 65536 % 256) + n / 256 % 256) + n % 256 = n := by omega
  simp only [en] at hA
  obtain ⟨a1, a2, a3, a4, a5⟩ := hA
  have l1 : zushr (nI n) 1 = nI (n / 2) := zu hn (k := 1) (by decide)
  rw [l1, show (1431655765 : Int32) = nI 1431655765 from rfl, fa_and, pk_sub a2]
  generalize n - ((n / 2) &&& 1431655765) = m at *
  have l2 : zushr (nI m) 2 = nI (m / 4) := zu a1 (k := 2) (by decide)
  rw [l2, show (858993459 : Int32) = nI 858993459 from rfl, fa_and, fa_and, nI_add]
  generalize (m &&& 858993459) + ((m / 4) &&& 858993459) = p at *
  have l3 : zushr (nI p) 4 = nI (p / 16) := zu (by omega) (k := 4) (by decide)
  rw [l3, nI_add, show (252645135 : Int32) = nI 252645135 from rfl, fa_and, a5]
  have hb : ∀ b, fb_ct (fun i => Nat.testBit b i) 8 ≤ 8 := fun b => fb_ct_le _ _
  have g0 := hb (n % 256); have g1 := hb (n / 256 % 256); have g2 := hb (n / 65536 % 256); have g3 := hb (n / 16777216)
  have cn : fb_ct (bt (nI n)) 32 = fb_ct (fun i => Nat.testBit (n % 256) i) 8 + fb_ct (fun i => Nat.testBit (n / 256 % 256) i) 8 + fb_ct (fun i => Nat.testBit (n / 65536 % 256) i) 8 + fb_ct (fun i => Nat.testBit (n / 16777216) i) 8 := by
    rw [show (32 : Nat) = 8 + (8 + (8 + 8)) from rfl, fb_ct_split, fb_ct_split, fb_ct_split]
    have k0 : fb_ct (bt (nI n)) 8 = fb_ct (fun i => Nat.testBit (n % 256) i) 8 := fb_ct_cong (fun i hi => by
      rw [bt_nI _ _ (by omega), show (256 : Nat) = 2 ^ 8 from rfl, Nat.testBit_mod_two_pow]; simp [hi])
    have k1 : fb_ct (fun k => bt (nI n) (8 + k)) 8 = fb_ct (fun i => Nat.testBit (n / 256 % 256) i) 8 := fb_ct_cong (fun i hi => by
      rw [bt_nI _ _ (by omega), show (256 : Nat) = 2 ^ 8 from rfl, Nat.testBit_mod_two_pow, Nat.testBit_div_two_pow, Nat.add_comm i 8]; simp [hi])
    have k2 : fb_ct (fun k => bt (nI n) (8 + (8 + k))) 8 = fb_ct (fun i => Nat.testBit (n / 65536 % 256) i) 8 := fb_ct_cong (fun i hi => by
      rw [bt_nI _ _ (by omega), show (256 : Nat) = 2 ^ 8 from rfl, Nat.testBit_mod_two_pow, show (65536 : Nat) = 2 ^ 16 from rfl, Nat.testBit_div_two_pow, show 8 + (8 + i) = i + 16 by omega]; simp [hi])
    have k3 : fb_ct (fun k => bt (nI n) (8 + (8 + (8 + k)))) 8 = fb_ct (fun i => Nat.testBit (n / 16777216) i) 8 := fb_ct_cong (fun i hi => by
      rw [bt_nI _ _ (by omega), show (16777216 : Nat) = 2 ^ 24 from rfl, Nat.testBit_div_two_pow, show 8 + (8 + (8 + i)) = i + 24 by omega])
    rw [k0, k1, k2, k3]
    omega
  rw [cn]
  generalize fb_ct (fun i => Nat.testBit (n % 256) i) 8 = c0 at *
  generalize fb_ct (fun i => Nat.testBit (n / 256 % 256) i) 8 = c1 at *
  generalize fb_ct (fun i => Nat.testBit (n / 65536 % 256) i) 8 = c2 at *
  generalize fb_ct (fun i => Nat.testBit (n / 16777216) i) 8 = c3 at *
  generalize hq : 256 * (256 * (256 * c3 + c2) + c1) + c0 = q
  have l4 : zushr (nI q) 8 = nI (q / 256) := zu (by omega) (k := 8) (by decide)
  rw [l4, nI_add]
  have l5 : zushr (nI (q + q / 256)) 16 = nI ((q + q / 256) / 65536) := zu (by omega) (k := 16) (by decide)
  rw [l5, nI_add, show (63 : Int32) = nI (2 ^ 6 - 1) from rfl, fa_mask]
  congr 1
  have e1 : q / 256 = 256 * (256 * c3 + c2) + c1 := by omega
  have e2 : (q + q / 256) / 65536 = 256 * c3 + c2 + c3 := by rw [e1]; omega
  rw [e2, e1]
  omega
theorem ntz_t {x : Int32} {k : Nat} (hk : k < 32) (h1 : bt x k = true) (h0 : ∀ j, j < k → bt x j = false) : (x ^^^ (-1)) &&& (x - 1) = nI (2 ^ k - 1) := by
  obtain ⟨n, hn, rfl⟩ := i32_of x
  have t1 : n.testBit k = true := by rw [← bt_nI n k hk]; exact h1
  have t0 : ∀ j, j < k → n.testBit j = false := fun j hj => by rw [← bt_nI n j (by omega)]; exact h0 j hj
  have pp : 0 < 2 ^ k := Nat.two_pow_pos k
  have e0 : n % 2 ^ k = 0 := by
    apply Nat.eq_of_testBit_eq
    intro j
    rw [Nat.testBit_mod_two_pow, Nat.zero_testBit]
    by_cases q : j < k
    · simp [t0 j q]
    · simp [q]
  have npos : 0 < n := by
    apply Nat.pos_of_ne_zero
    intro q
    rw [q, Nat.zero_testBit] at t1
    cases t1
  have hd : n = 2 ^ k * (n / 2 ^ k) := by have := Nat.div_add_mod n (2 ^ k); omega
  obtain ⟨d, hd2⟩ : ∃ d, n / 2 ^ k = d := ⟨_, rfl⟩
  rw [hd2] at hd
  have dpos : 0 < d := by
    apply Nat.pos_of_ne_zero
    intro q
    rw [q] at hd
    omega
  have dodd : d.testBit 0 = true := by
    rw [← hd2, Nat.testBit_div_two_pow, Nat.zero_add]; exact t1
  have d1 : n - 1 = 2 ^ k * (d - 1) + (2 ^ k - 1) := by
    have : 2 ^ k * d = 2 ^ k * (d - 1) + 2 ^ k := by
      obtain ⟨c, hc⟩ : ∃ c, d = c + 1 := ⟨d - 1, by omega⟩
      rw [hc, Nat.add_sub_cancel, Nat.mul_add, Nat.mul_one]
    omega
  have m1 : nI n - 1 = nI (n - 1) := pk_sub (b := 1) (by omega)
  rw [m1]
  apply b_ext
  intro i hi
  rw [b_and, b_xor, b_m1 i hi, bt_nI _ _ hi, bt_nI _ _ hi, bt_nI _ _ hi, d1, Nat.testBit_two_pow_mul_add _ (by omega), Nat.testBit_two_pow_sub_one]
  by_cases q : i < k
  · simp [q, t0 i q]
  · rw [if_neg q]
    have e1 : n.testBit i = d.testBit (i - k) := by
      rw [← hd2, Nat.testBit_div_two_pow, show i - k + k = i by omega]
    rw [e1]
    simp only [q, decide_false]
    by_cases q2 : i = k
    · subst q2; rw [Nat.sub_self, dodd]; rfl
    · have e2 : (d - 1).testBit (i - k) = d.testBit (i - k) := by
        obtain ⟨j, hj⟩ : ∃ j, i - k = j + 1 := ⟨i - k - 1, by omega⟩
        rw [hj, Nat.testBit_succ, Nat.testBit_succ]
        congr 1
        have : d % 2 = 1 := by simpa [Nat.testBit_zero] using dodd
        omega
      rw [e2]
      cases d.testBit (i - k) <;> rfl
set_option maxRecDepth 10000 in
theorem cJ_ntz (X : zX) {x : Int32} {k : Nat} (hk : k < 24) (h1 : bt x k = true) (h0 : ∀ j, j < k → bt x j = false) : zPf SX 0 mJ6_numberOfTrailingZeros_0f7a4 [.int x] X (nI k) := by
  refine eJ6_numberOfTrailingZeros_0f7a4 _ X x ?_
  rw [ntz_t (by omega) h1 h0]
  clear h1 h0
  match k, hk with
  | 0, _ => (repeat first | refine br_t (by decide) ?_ | refine br_f (by decide) ?_) <;> decide
  | 1, _ => (repeat first | refine br_t (by decide) ?_ | refine br_f (by decide) ?_) <;> decide
  | 2, _ => (repeat first | refine br_t (by decide) ?_ | refine br_f (by decide) ?_) <;> decide
  | 3, _ => (repeat first | refine br_t (by decide) ?_ | refine br_f (by decide) ?_) <;> decide
  | 4, _ => (repeat first | refine br_t (by decide) ?_ | refine br_f (by decide) ?_) <;> decide
  | 5, _ => (repeat first | refine br_t (by decide) ?_ | refine br_f (by decide) ?_) <;> decide
  | 6, _ => (repeat first | refine br_t (by decide) ?_ | refine br_f (by decide) ?_) <;> decide
  | 7, _ => (repeat first | refine br_t (by decide) ?_ | refine br_f (by decide) ?_) <;> decide
  | 8, _ => (repeat first | refine br_t (by decide) ?_ | refine br_f (by decide) ?_) <;> decide
  | 9, _ => (repeat first | refine br_t (by decide) ?_ | refine br_f (by decide) ?_) <;> decide
  | 10, _ => (repeat first | refine br_t (by decide) ?_ | refine br_f (by decide) ?_) <;> decide
  | 11, _ => (repeat first | refine br_t (by decide) ?_ | refine br_f (by decide) ?_) <;> decide
  | 12, _ => (repeat first | refine br_t (by decide) ?_ | refine br_f (by decide) ?_) <;> decide
  | 13, _ => (repeat first | refine br_t (by decide) ?_ | refine br_f (by decide) ?_) <;> decide
  | 14, _ => (repeat first | refine br_t (by decide) ?_ | refine br_f (by decide) ?_) <;> decide
  | 15, _ => (repeat first | refine br_t (by decide) ?_ | refine br_f (by decide) ?_) <;> decide
  | 16, _ => (repeat first | refine br_t (by decide) ?_ | refine br_f (by decide) ?_) <;> decide
  | 17, _ => (repeat first | refine br_t (by decide) ?_ | refine br_f (by decide) ?_) <;> decide
  | 18, _ => (repeat first | refine br_t (by decide) ?_ | refine br_f (by decide) ?_) <;> decide
  | 19, _ => (repeat first | refine br_t (by decide) ?_ | refine br_f (by decide) ?_) <;> decide
  | 20, _ => (repeat first | refine br_t (by decide) ?_ | refine br_f (by decide) ?_) <;> decide
  | 21, _ => (repeat first | refine br_t (by decide) ?_ | refine br_f (by decide) ?_) <;> decide
  | 22, _ => (repeat first | refine br_t (by decide) ?_ | refine br_f (by decide) ?_) <;> decide
  | 23, _ => (repeat first | refine br_t (by decide) ?_ | refine br_f (by decide) ?_) <;> decide
  | k + 24, h => exact absurd h (by omega)
