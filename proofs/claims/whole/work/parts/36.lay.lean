section LY
variable {X Y : zX}
theorem rel_lay (h : Rel X Y) {k i : Nat} (hk : k < 4) (hi : i < 40) (v : Int32) : Rel (zs X (46 + 2 * k) i v) (zs Y 27 (40 * k + i) v) := by
  refine rel_sh h (fun c hc => zs_ne (by omega)) (fun c hc => zs_ne (by omega)) h.1.lanes h.1.sizes (fun j hj q => ?_) (fun j hj q => ?_)
  · rw [zs_ne (by omega)]; exact h.2.shN j hj q
  · obtain ⟨s1, s2, s3⟩ := h.2.shS j hj q
    rw [zs_ne (by omega)]
    refine ⟨s1, s2, fun t ht => ?_⟩
    have ht : t < n32 (Y 26 j) := ht
    have h41 := (h.1.sizes j hj).2
    have e : zs Y 27 (40 * k + i) v 27 = upd (Y 27) (40 * k + i) v := zs_row _ _ _ _
    rw [e]
    by_cases q1 : j = k
    · subst q1
      rw [zs_row]
      by_cases q2 : t = i
      · subst q2; rw [pk_us, pk_us]
      · rw [pk_un q2, pk_un (by omega)]; exact s3 t ht
    · rw [zs_ne (by omega), pk_un (by omega)]; exact s3 t ht
theorem ag_lay (h : Rel X Y) (a1 a2 a3 : Int32) : zAg mX9_lay mX10_lay 1 2 [.int a1, .int a2, .int a3] X Y := by
  rcases inR_cases a1 (b := 4) (by decide) with h1 | ⟨k, hk, rfl⟩
  · exact zAg_b h (-1) (fun P q => eX9_lay P X _ _ _ ⟨_, oC_o X 4 h1 (by decide) rfl, fun e => absurd e (by decide), fun _ => q⟩) (fun P q => eX10_lay P Y _ _ _ ⟨_, yH_o1 Y h1, fun e => absurd rfl e, fun _ => q⟩)
  have xx : ∀ P : Int32 → zX → Prop, _ → zPi SX 1 mX9_lay [.ref 0, .int (nI k), .int a2, .int a3] X P := fun P q => eX9_lay P X _ _ _ ⟨_, oC_i X 4 hk (by decide) rfl, fun _ => ⟨k, rfl, hk, q⟩, fun e => absurd rfl e⟩
  have yy : ∀ P : Int32 → zX → Prop, _ → zPi SY 2 mX10_lay [.ref 0, .int (nI k), .int a2, .int a3] Y P := fun P q => eX10_lay P Y _ _ _ ⟨_, yH_i Y (l := 0) hk (by decide), fun _ => ⟨k, rfl, hk, q⟩, fun e => absurd e (by decide)⟩
  by_cases c1 : Y 25 k = -4
  · exact zAg_b h (-11) (fun P z => xx P ⟨1, eX5_faultAt _ X k hk _ _ ⟨fun e => absurd (h.2.shN k hk c1) e, fun _ => rfl⟩, fun e => absurd e (by decide), fun _ => (show (-11 : Int32) = -10 - 1 by decide) ▸ z⟩) (fun P z => yy P ⟨fun e => absurd c1 e, fun _ => z⟩)
  obtain ⟨s1, s2, s3⟩ := h.2.shS k hk c1
  obtain ⟨n1, n2⟩ := h.1.sizes k hk
  have hl := (h.1.lanes k hk).resolve_left c1
  generalize en : n32 (Y 26 k) = n at *
  have sx : X (45 + 2 * k) 2 = nI n := s2.trans n1
  have sx4 : ¬ X (45 + 2 * k) 2 = -4 := by rw [sx]; exact neg4_ne n (by omega)
  have e26 : ((Y 26 k) - 1).toInt64.toInt = (n : Int) - 1 := by rw [n1, Int32.toInt_toInt64]; exact nI_sub1 (by omega)
  rcases inR_cases a2 (b := n) (by omega) with h1 | ⟨i, hi, rfl⟩
  · refine zAg_b h (-12) (fun P z => xx P ⟨2, eX5_faultAt _ X k hk _ _ ⟨fun _ => ⟨fun _ => ⟨fun _ => rfl, fun g0 => ⟨fun g1 => ?_, fun _ => rfl⟩⟩, fun e => absurd rfl e⟩, fun e => absurd e sx4⟩, fun e => absurd e (by decide), fun _ => (show (-12 : Int32) = -10 - 2 by decide) ▸ z⟩) (fun P z => yy P ⟨fun _ => ⟨k, rfl, hk, 0, yC_o Y n h1 e26, fun e => absurd rfl e, fun _ => z⟩, fun e => absurd e c1⟩)
    rw [sx] at g1
    rcases oor_big h1 with w | w
    · exact absurd (Int32.lt_iff_toInt_lt.mpr w) g0
    · have := Int32.lt_iff_toInt_lt.mp g1
      rw [nI_toInt (by omega)] at this; omega
  · have f0 : zPf SX 0 mX5_faultAt [.ref (45 + 2 * k), .int (X (45 + 2 * k) 1), .int (nI i)] X 0 := eX5_faultAt _ X k hk _ _ ⟨fun _ => ⟨fun _ => ⟨fun e => absurd e (nI_pos (by omega)), fun _ => ⟨fun _ => rfl, fun e => absurd (by rw [sx]; exact (nI_ltI (by omega) (by omega)).mpr hi) e⟩⟩, fun e => absurd rfl e⟩, fun e => absurd e sx4⟩
    have ej : 40 * nI k + nI i = nI (40 * k + i) := by rw [show (40 : Int32) = nI 40 from rfl, pk_mul, nI_add]
    have yi := yC_i Y (k := i) n hi (by omega) e26
    by_cases l0 : Y 25 k = 0
    · exact zAg_c 1 _ _ (fun P z => xx P ⟨0, f0, fun _ => ⟨P 1, eX5_write (P 1) X k hk _ _ ⟨fun e => absurd (s1.trans l0) e, fun _ => ⟨i, rfl, by omega, z⟩⟩, fun _ z => z⟩, fun e => absurd rfl e⟩) (fun P z => yy P ⟨fun _ => ⟨k, rfl, hk, 1, yi, fun _ => ⟨k, rfl, hk, fun e => absurd l0 e, fun _ => ⟨40 * k + i, ej, by omega, z⟩⟩, fun e => absurd e (by decide)⟩, fun e => absurd e c1⟩) (rel_lay h hk (by omega) _)
    by_cases l1 : Y 25 k = 1
    · exact zAg_c 1 _ _ (fun P z => xx P ⟨0, f0, fun _ => ⟨P 1, eX5_write (P 1) X k hk _ _ ⟨fun _ => ⟨fun e => absurd (s1.trans l1) e, fun _ => ⟨i, rfl, by omega, z⟩⟩, fun e => absurd (s1.symm.trans e) l0⟩, fun _ z => z⟩, fun e => absurd rfl e⟩) (fun P z => yy P ⟨fun _ => ⟨k, rfl, hk, 1, yi, fun _ => ⟨k, rfl, hk, fun _ => ⟨k, rfl, hk, fun e => absurd l1 e, fun _ => ⟨40 * k + i, ej, by omega, z⟩⟩, fun e => absurd e l0⟩, fun e => absurd e (by decide)⟩, fun e => absurd e c1⟩) (rel_lay h hk (by omega) _)
    · exact zAg_c 1 _ _ (fun P z => xx P ⟨0, f0, fun _ => ⟨P 1, eX5_write (P 1) X k hk _ _ ⟨fun _ => ⟨fun _ => ⟨i, rfl, by omega, z⟩, fun e => absurd (s1.symm.trans e) l1⟩, fun e => absurd (s1.symm.trans e) l0⟩, fun _ z => z⟩, fun e => absurd rfl e⟩) (fun P z => yy P ⟨fun _ => ⟨k, rfl, hk, 1, yi, fun _ => ⟨k, rfl, hk, fun _ => ⟨k, rfl, hk, fun _ => ⟨40 * k + i, ej, by omega, z⟩, fun e => absurd e l1⟩, fun e => absurd e l0⟩, fun e => absurd e (by decide)⟩, fun e => absurd e c1⟩) (rel_lay h hk (by omega) _)
theorem rel_torn (h : Rel X Y) (w : Int32) : Rel (zs X 0 12 w) (zs Y 0 45 w) := ⟨⟨h.1.p, h.1.p2, h.1.v, h.1.v2, h.1.n, h.1.n2, h.1.height, h.1.water, h.1.song, h.1.at_, h.1.tongue, h.1.days, h.1.held, h.1.number, h.1.days1, h.1.kin, h.1.age, h.1.came, h.1.tongues, h.1.had, h.1.had0, h.1.dead, h.1.year, h.1.season, h.1.sing, h.1.tell, h.1.carry, h.1.dry, h.1.taped, h.1.tape, h.1.lanes, h.1.sizes⟩, ⟨h.2.size, h.2.yr, h.2.sn, h.2.hgt, h.2.wat, h.2.vs, h.2.sg, h.2.pl, h.2.tg, h.2.dy, h.2.hd, h.2.nb, (fun v hv => by have hs9 := (h.1.song v hv).2; show (_ : zX) (12 + n32 (Y 3 v)) (n32 (Y 8 v)) = nI v; (repeat refine Eq.trans (congrFun (zs_ne (by omega)) _) ?_); exact h.2.order v hv), h.2.length, h.2.ofSong, h.2.atPlace, h.2.ns, h.2.kn, h.2.ag, h.2.tgs, h.2.hadx, h.2.lv, h.2.tl, h.2.tb, h.2.sng, h.2.tll, h.2.cry, h.2.hr, h.2.pr, h.2.drx, h.2.tf, rfl, (fun k hk q => by (repeat refine Eq.trans (congrFun (zs_ne (by omega)) _) ?_); exact h.2.shN k hk q), (fun k hk q => ⟨by (repeat refine Eq.trans (congrFun (zs_ne (by omega)) _) ?_); exact (h.2.shS k hk q).1, by (repeat refine Eq.trans (congrFun (zs_ne (by omega)) _) ?_); exact (h.2.shS k hk q).2.1, fun i hi => by (repeat refine Eq.trans (congrFun (zs_ne (by omega)) _) ?_); exact (h.2.shS k hk q).2.2 i hi⟩)⟩⟩
theorem zs_comm {q q2 k k2 : Nat} {v v2 : Int32} (h : q ≠ q2) : zs (zs X q k v) q2 k2 v2 = zs (zs X q2 k2 v2) q k v := by
  funext a
  by_cases e : a = q
  · subst e; rw [zs_ne h, zs_row, zs_row, zs_ne h]
  · rw [zs_ne e]
    by_cases e2 : a = q2
    · subst e2; rw [zs_row, zs_row, zs_ne e]
    · rw [zs_ne e2, zs_ne e2, zs_ne e]
theorem or_and_not (a b : Int32) : a ||| (b &&& (a ^^^ -1)) = a ||| b := by
  apply b_ext
  intro i hi
  rw [b_or, b_or, b_and, bt_not _ hi]
  cases bt a i <;> cases bt b i <;> rfl
theorem rdX_end (h : Rel X Y) {j k : Nat} (hj : j < nN Y) {acc w : Int32} (ha : ∀ t, t < 32 → nV Y ≤ t → bt acc t = false) {r : Int32} (hr : r = nI (fb_ct (bt (acc &&& (Y 13 j ^^^ -1))) 24)) {P : Int32 → zX → Prop} (z : P r (zs (zs X 0 12 w) 23 j (Y 13 j ||| acc))) : ∃ j13, nI j = nI j13 ∧ j13 < 8 ∧ (∃ j14, nI j = nI j14 ∧ j14 < 8 ∧ (∃ j15, nI j = nI j15 ∧ j15 < 8 ∧ (∃ r16, zPf SX 0 mJ6_bitCount_0f7a4 [.int (acc &&& ((X 23 j13) ^^^ (-1)))] (zs (zs X 0 12 w) 23 j15 ((X 23 j14) ||| (acc &&& ((X 23 j13) ^^^ (-1))))) r16 ∧ (P r16 (zs (zs X 0 12 w) 23 j15 ((X 23 j14) ||| (acc &&& ((X 23 j13) ^^^ (-1))))))))) := by
  have hn2 := h.1.n2; have hv2 := h.1.v2
  refine ⟨j, rfl, by omega, j, rfl, by omega, j, rfl, by omega, r, ?_, ?_⟩
  · rw [h.2.hadx]
    refine (cJ_bitCount _ _).eq ?_
    rw [hr, ct_24 (fun t h1 h2 => by rw [b_and, ha t h2 (by omega)]; rfl)]
  · rw [h.2.hadx, or_and_not]; exact z
theorem rdY_end (h : Rel X Y) {j : Nat} (hj : j < nN Y) {acc w : Int32} {r : Int32} (hr : r = nI (fb_ct (bt (acc &&& (Y 13 j ^^^ -1))) 24)) {P : Int32 → zX → Prop} (z : P r (zs (zs Y 0 45 w) 13 j (Y 13 j ||| acc))) : ∃ j10, nI j = nI j10 ∧ j10 < 8 ∧ (∃ r11, zPf SY 0 mX10_countOf [.int (acc &&& ((Y 13 j10) ^^^ (-1)))] Y r11 ∧ (∃ j12, nI j = nI j12 ∧ j12 < 8 ∧ (∃ j13, nI j = nI j13 ∧ j13 < 8 ∧ (P r11 (zs (zs Y 13 j13 ((Y 13 j12) ||| acc)) 0 45 w))))) := by
  have hn2 := h.1.n2
  refine ⟨j, rfl, by omega, r, (cY_countOf Y _).eq hr.symm, j, rfl, by omega, j, rfl, by omega, ?_⟩
  rw [zs_comm (by decide)]; exact z
theorem rdY_stop (h : Rel X Y) {j : Nat} (hj : j < nN Y) {acc w : Int32} (hw : ¬ w = 0) {r : Int32} (hr : r = nI (fb_ct (bt (acc &&& (Y 13 j ^^^ -1))) 24)) {P : Int32 → zX → Prop} (z : P r (zs (zs Y 0 45 w) 13 j (Y 13 j ||| acc))) (x2 x3 x4 x5 x8 : Int32) : LX10_read_52 P Y (nI j) x2 x3 x4 x5 w acc x8 :=
  bX10_read_52 P Y _ _ _ _ _ _ _ _ ⟨fun _ => rdY_end h hj hr z, fun _ => ⟨fun _ => rdY_end h hj hr z, fun e => absurd e hw⟩⟩
theorem long_add (a : Int32) {i : Nat} (hi : i < 100) : (a.toInt64 + (nI i).toInt64).toInt = a.toInt + i := by
  have h1 := Int32.toInt_lt a; have h2 := Int32.le_toInt a
  rw [Int64.toInt_add, Int32.toInt_toInt64, Int32.toInt_toInt64, nI_toInt (by omega)]
  exact Int.bmod_eq_of_le (by omega) (by omega)
theorem rd_loop (h : Rel X Y) {j k l n : Nat} (hj : j < nN Y) (hk : k < 4) (hl : l < 3) (hn : n < 25) (a4 : Int32) : ∀ d i acc, i + d = n → (∀ t, t < 32 → nV Y ≤ t → bt acc t = false) → ∃ v X2 Y2, (∀ P : Int32 → zX → Prop, P v X2 → LX9_read_74 P X (nI j) (nI l) a4 (nI n) k acc 0 (nI i)) ∧ (∀ P : Int32 → zX → Prop, P v Y2 → LX10_read_52 P Y (nI j) (nI k) (nI l) a4 (nI n) 0 acc (nI i)) ∧ Rel X2 Y2 := by
  have fin : ∀ (w acc : Int32), (∀ t, t < 32 → nV Y ≤ t → bt acc t = false) → Rel (zs (zs X 0 12 w) 23 j (Y 13 j ||| acc)) (zs (zs Y 0 45 w) 13 j (Y 13 j ||| acc)) := fun w acc ha => rel_had (rel_torn h w) (w := j) hj (fun t h1 h2 => by rw [b_or, ha t h1 h2, h.1.had j t hj h2]; rfl)
  intro d
  induction d with
  | zero =>
    intro i acc hi ha
    obtain rfl : i = n := by omega
    have le : nI i ≤ nI i := nI_le (Nat.le_refl _) (by omega)
    exact ⟨_, _, _, fun P z => bX9_read_74 P X _ _ _ _ k _ _ _ hk ⟨fun _ => rdX_end (k := k) h hj ha rfl z, fun e => absurd le e⟩, fun P z => bX10_read_52 P Y _ _ _ _ _ _ _ _ ⟨fun _ => rdY_end h hj rfl z, fun e => absurd le e⟩, fin 0 acc ha⟩
  | succ d ih =>
    intro i acc hi ha
    have nle : ¬ nI n ≤ nI i := fun e => absurd ((nI_leI (by omega) (by omega)).mp e) (by omega)
    have xx : ∀ P : Int32 → zX → Prop, _ → LX9_read_74 P X (nI j) (nI l) a4 (nI n) k acc 0 (nI i) := fun P q => bX9_read_74 P X _ _ _ _ k _ _ _ hk ⟨fun e => absurd e nle, fun _ => q⟩
    have yy : ∀ P : Int32 → zX → Prop, _ → LX10_read_52 P Y (nI j) (nI k) (nI l) a4 (nI n) 0 acc (nI i) := fun P q => bX10_read_52 P Y _ _ _ _ _ _ _ _ ⟨fun e => absurd e nle, fun _ => ⟨fun e => absurd rfl e, fun _ => ⟨k, rfl, hk, q⟩⟩⟩
    by_cases c1 : Y 25 k = -4
    · exact ⟨_, _, _, fun P z => xx P ⟨1, eX5_faultAt _ X k hk _ _ ⟨fun e => absurd (h.2.shN k hk c1) e, fun _ => rfl⟩, fun e => absurd e (by decide), fun _ => rdX_end (k := k) h hj ha rfl z⟩, fun P z => yy P ⟨fun e => absurd c1 e, fun _ => rdY_stop h hj (by decide) rfl z _ _ _ _ _⟩, fin 1 acc ha⟩
    obtain ⟨s1, s2, s3⟩ := h.2.shS k hk c1
    obtain ⟨n1, n2⟩ := h.1.sizes k hk
    generalize en : n32 (Y 26 k) = m at *
    have sx : X (45 + 2 * k) 2 = nI m := s2.trans n1
    have sx4 : ¬ X (45 + 2 * k) 2 = -4 := by rw [sx]; exact neg4_ne m (by omega)
    by_cases c2 : Y 25 k = nI l
    case neg => exact ⟨_, _, _, fun P z => xx P ⟨3, eX5_faultAt _ X k hk _ _ ⟨fun _ => ⟨fun e => absurd (s1.symm.trans e.symm) c2, fun _ => rfl⟩, fun e => absurd e sx4⟩, fun e => absurd e (by decide), fun _ => rdX_end (k := k) h hj ha rfl z⟩, fun P z => yy P ⟨fun _ => ⟨k, rfl, hk, fun e => absurd e c2, fun _ => rdY_stop h hj (by decide) rfl z _ _ _ _ _⟩, fun e => absurd e c1⟩, fin 3 acc ha⟩
    have la := long_add a4 (i := i) (by omega)
    have b1 := Int32.toInt_lt a4; have b2 := Int32.le_toInt a4
    have sa : (a4 + nI i).toInt = (a4.toInt + i).bmod (2 ^ 32) := by rw [Int32.toInt_add, nI_toInt (by omega)]
    have L0 : (lg_cmp (a4.toInt64 + (nI i).toInt64) 0 < 0) ↔ a4.toInt + i < 0 := by rw [lg_lt, fa_lt64, la]; rfl
    have L1 : (lg_cmp (a4.toInt64 + (nI i).toInt64) ((Y 26 k).toInt64) < 0) ↔ a4.toInt + i < m := by rw [lg_lt, fa_lt64, la, Int32.toInt_toInt64, n1, nI_toInt (by omega)]
    by_cases c3 : 0 ≤ a4.toInt + i ∧ a4.toInt + i < m
    · obtain ⟨t, ht⟩ : ∃ t : Nat, a4.toInt + i = t := ⟨(a4.toInt + i).toNat, by omega⟩
      have tm : t < m := by omega
      have ea : a4 + nI i = nI t := nI_toIntL (by rw [sa, ht]; exact Int.bmod_eq_of_le (by omega) (by omega))
      have el : (a4.toInt64 + (nI i).toInt64).toInt32 = nI t := by rw [Int64.toInt32_add, Int32.toInt32_toInt64, Int32.toInt32_toInt64]; exact ea
      have f0 : zPf SX 0 mX5_faultAt [.ref (45 + 2 * k), .int (nI l), .int (a4 + nI i)] X 0 := by
        rw [ea]
        exact eX5_faultAt _ X k hk _ _ ⟨fun _ => ⟨fun _ => ⟨fun e => absurd e (nI_pos (by omega)), fun _ => ⟨fun _ => rfl, fun e => absurd (by rw [sx]; exact (nI_ltI (by omega) (by omega)).mpr tm) e⟩⟩, fun e => absurd (c2.symm.trans s1.symm) e⟩, fun e => absurd e sx4⟩
      have ej : 40 * nI k + (a4.toInt64 + (nI i).toInt64).toInt32 = nI (40 * k + t) := by rw [el, show (40 : Int32) = nI 40 from rfl, pk_mul, nI_add]
      have es := s3 t tm
      rcases inR_cases (Y 27 (40 * k + t)) (b := nV Y) (by have := h.1.v2; omega) with g1 | ⟨u, hu, eu⟩
      · exact ⟨_, X, Y, fun P z => xx P ⟨0, f0, fun _ => ⟨t, ea, by omega, 1, by rw [es]; exact oV_o h g1, fun e => absurd e (by decide), fun _ => z⟩, fun e => absurd rfl e⟩, fun P z => yy P ⟨fun _ => ⟨k, rfl, hk, fun _ => ⟨fun e => absurd (L0.mp e) (by omega), fun _ => ⟨k, rfl, hk, fun _ => ⟨40 * k + t, ej, by omega, 0, yV_o h.1 g1, fun e => absurd rfl e, fun _ => z⟩, fun e => absurd (L1.mpr (by omega)) e⟩⟩, fun e => absurd c2 e⟩, fun e => absurd e c1⟩, h⟩
      · have hv2 := h.1.v2
        obtain ⟨v, X2, Y2, g2, g3, g4⟩ := ih (i + 1) (acc ||| zshl 1 (nI u)) (by omega) (fun s hs hs2 => by rw [bt_set _ (by omega) hs, ha s hs hs2]; simp; omega)
        refine ⟨v, X2, Y2, fun P z => xx P ⟨0, f0, fun _ => ⟨t, ea, by omega, 0, by rw [es, eu]; exact oV_i h hu, fun _ => ?_, fun e => absurd rfl e⟩, fun e => absurd rfl e⟩, fun P z => yy P ⟨fun _ => ⟨k, rfl, hk, fun _ => ⟨fun e => absurd (L0.mp e) (by omega), fun _ => ⟨k, rfl, hk, fun _ => ⟨40 * k + t, ej, by omega, 1, by rw [eu]; exact yV_i h.1 hu, fun _ => ?_, fun e => absurd e (by decide)⟩, fun e => absurd (L1.mpr (by omega)) e⟩⟩, fun e => absurd c2 e⟩, fun e => absurd e c1⟩, g4⟩
        · rw [es, eu, nI_1]; exact g2 P z
        · rw [eu, nI_1]; exact g3 P z
    · refine ⟨_, _, _, fun P z => xx P ⟨2, eX5_faultAt _ X k hk _ _ ⟨fun _ => ⟨fun _ => ⟨fun _ => rfl, fun g0 => ⟨fun g1 => ?_, fun _ => rfl⟩⟩, fun e => absurd (c2.symm.trans s1.symm) e⟩, fun e => absurd e sx4⟩, fun e => absurd e (by decide), fun _ => rdX_end (k := k) h hj ha rfl z⟩, fun P z => yy P ⟨fun _ => ⟨k, rfl, hk, fun _ => ⟨fun _ => rdY_stop h hj (by decide) rfl z _ _ _ _ _, fun g0 => ⟨k, rfl, hk, fun g1 => ?_, fun _ => rdY_stop h hj (by decide) rfl z _ _ _ _ _⟩⟩, fun e => absurd c2 e⟩, fun e => absurd e c1⟩, fin 2 acc ha⟩
      · rw [sx] at g1
        have q1 := Int32.lt_iff_toInt_lt.mp g1
        have q0 : ¬ (a4 + nI i).toInt < 0 := fun e => g0 (Int32.lt_iff_toInt_lt.mpr e)
        rw [nI_toInt (by omega)] at q1
        rw [sa] at q1 q0
        exfalso
        rw [Int.bmod_def] at q1 q0
        omega
      · exfalso
        have q1 := L1.mp g1
        have q0 : ¬ a4.toInt + i < 0 := fun e => g0 (L0.mpr e)
        omega
theorem ag_read (h : Rel X Y) (a1 a2 a3 a4 a5 : Int32) : zAg mX9_read mX10_read 1 2 [.int a1, .int a2, .int a3, .int a4, .int a5] X Y := by
  have hn2 := h.1.n2
  rcases inR_cases a1 (b := nN Y) (by omega) with h1 | ⟨w, hw, rfl⟩
  · exact zAg_b h (-1) (fun P q => eX9_read P X _ _ _ _ _ ⟨_, oN_o h h1, fun _ => q, fun e => absurd e (by decide)⟩) (fun P q => eX10_read P Y _ _ _ _ _ ⟨_, yN_o h.1 h1, fun _ => q, fun e => absurd rfl e⟩)
  rcases inR_cases a2 (b := 4) (by decide) with h1 | ⟨k, hk, rfl⟩
  · exact zAg_b h (-1) (fun P q => eX9_read P X _ _ _ _ _ ⟨_, oN_i h hw, fun e => absurd rfl e, fun _ => ⟨_, oC_o X 4 h1 (by decide) rfl, fun _ => q, fun e => absurd e (by decide)⟩⟩) (fun P q => eX10_read P Y _ _ _ _ _ ⟨_, yN_i h.1 hw, fun e => absurd e (by decide), fun _ => ⟨_, yH_o1 Y h1, fun _ => q, fun e => absurd rfl e⟩⟩)
  rcases inR_cases a3 (b := 3) (by decide) with h1 | ⟨l, hl, rfl⟩
  · exact zAg_b h (-1) (fun P q => eX9_read P X _ _ _ _ _ ⟨_, oN_i h hw, fun e => absurd rfl e, fun _ => ⟨_, oC_i X 4 hk (by decide) rfl, fun e => absurd rfl e, fun _ => ⟨_, oC_o X 3 h1 (by decide) rfl, fun _ => q, fun e => absurd e (by decide)⟩⟩⟩) (fun P q => eX10_read P Y _ _ _ _ _ ⟨_, yN_i h.1 hw, fun e => absurd e (by decide), fun _ => ⟨_, yH_o2 Y hk h1, fun _ => q, fun e => absurd rfl e⟩⟩)
  have xx : ∀ P : Int32 → zX → Prop, _ → zPi SX 1 mX9_read [.ref 0, .int (nI w), .int (nI k), .int (nI l), .int a4, .int a5] X P := fun P q => eX9_read P X _ _ _ _ _ ⟨_, oN_i h hw, fun e => absurd rfl e, fun _ => ⟨_, oC_i X 4 hk (by decide) rfl, fun e => absurd rfl e, fun _ => ⟨_, oC_i X 3 hl (by decide) rfl, fun e => absurd rfl e, fun _ => q⟩⟩⟩
  have yy : ∀ P : Int32 → zX → Prop, _ → zPi SY 2 mX10_read [.ref 0, .int (nI w), .int (nI k), .int (nI l), .int a4, .int a5] Y P := fun P q => eX10_read P Y _ _ _ _ _ ⟨_, yN_i h.1 hw, fun e => absurd e (by decide), fun _ => ⟨_, yH_i Y hk hl, fun e => absurd e (by decide), fun _ => q⟩⟩
  rcases inR_cases a5 (b := 25) (by decide) with h1 | ⟨n, hn, rfl⟩
  · exact zAg_b h (-1) (fun P q => xx P ⟨_, oC_o X 25 h1 (by decide) rfl, fun e => absurd e (by decide), fun _ => q⟩) (fun P q => yy P ⟨_, yC_o Y 25 h1 (by decide), fun e => absurd rfl e, fun _ => q⟩)
  have lw := h.2.lv w hw
  by_cases c : Y 14 w = 0
  · obtain ⟨v, X2, Y2, g1, g2, g3⟩ := rd_loop h hw hk hl hn a4 n 0 0 (by omega) (fun t _ _ => b_0 t)
    exact zAg_c v X2 Y2 (fun P z => xx P ⟨_, oC_i X 25 hn (by decide) rfl, fun _ => ⟨w, rfl, by omega, fun _ => ⟨k, rfl, hk, g1 P z⟩, fun e => absurd e (by rw [lw, beqT c]; decide)⟩, fun e => absurd rfl e⟩) (fun P z => yy P ⟨_, yC_i Y 25 hn (by decide) (by decide), fun _ => ⟨w, rfl, by omega, fun _ => g2 P z, fun e => absurd c e⟩, fun e => absurd e (by decide)⟩) g3
  · exact zAg_b h (-2) (fun P z => xx P ⟨_, oC_i X 25 hn (by decide) rfl, fun _ => ⟨w, rfl, by omega, fun e => absurd (by rw [lw, beqF c]; rfl) e, fun _ => z⟩, fun e => absurd rfl e⟩) (fun P z => yy P ⟨_, yC_i Y 25 hn (by decide) (by decide), fun _ => ⟨w, rfl, by omega, fun e => absurd e c, fun _ => z⟩, fun e => absurd e (by decide)⟩)
end LY
