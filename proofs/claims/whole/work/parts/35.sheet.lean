section SH
variable {X Y : zX}
def zwr (X : zX) (c : Nat) (f : Nat → Int32) : zX := fun a => if a = c then f else X a
theorem zwr_eq (X : zX) (c : Nat) (f : Nat → Int32) : zwr X c f c = f := if_pos rfl
theorem zwr_ne {c a : Nat} {f : Nat → Int32} (h : a ≠ c) : zwr X c f a = X a := if_neg h
theorem zwr_id (X : zX) (c : Nat) : zwr X c (X c) = X := by
  funext a
  by_cases e : a = c
  · subst e; exact zwr_eq _ _ _
  · exact zwr_ne e
theorem zs_zwr (X : zX) (c k : Nat) (f : Nat → Int32) (v : Int32) : zs (zwr X c f) c k v = zwr X c (upd f k v) := by
  funext a
  by_cases e : a = c
  · subst e; rw [zs_row, zwr_eq, zwr_eq]
  · rw [zs_ne e, zwr_ne e, zwr_ne e]
def zrF (f : Nat → Int32) (a b : Nat) : Nat → Int32 := fun j => if a ≤ j ∧ j < b then 0 else f j
theorem zrF_s (f : Nat → Int32) (a i : Nat) : upd (zrF f a (a + i)) (a + i) 0 = zrF f a (a + (i + 1)) := by
  funext j
  by_cases e : j = a + i
  · subst e; rw [pk_us]; unfold zrF; rw [if_pos (by omega)]
  · rw [pk_un e]; unfold zrF
    by_cases q : a ≤ j ∧ j < a + i
    · rw [if_pos q, if_pos (by omega)]
    · rw [if_neg q, if_neg (by omega)]
theorem zrF_0 (f : Nat → Int32) (a : Nat) : zrF f a (a + 0) = f := by
  funext j; unfold zrF; rw [if_neg (by omega)]
theorem shX_loop (P : zX → Prop) (X : zX) {q n : Nat} (hq : q < 4) (hn : n ≤ 40) (z : P (zwr X (46 + 2 * q) (zrF (X (46 + 2 * q)) 0 (0 + n)))) : LX5_renew_12 P X q (nI n) 0 := by
  have key : ∀ d i, i + d = n → LX5_renew_12 P (zwr X (46 + 2 * q) (zrF (X (46 + 2 * q)) 0 (0 + i))) q (nI n) (nI i) := by
    intro d
    induction d with
    | zero => intro i hi; obtain rfl : i = n := by omega
              exact bX5_renew_12 P _ q hq _ _ ⟨fun _ => z, fun e => absurd (nI_leI (by omega) (by omega) |>.mpr (Nat.le_refl _)) e⟩
    | succ d ih =>
      intro i hi
      refine bX5_renew_12 P _ q hq _ _ ⟨fun e => absurd (nI_leI (by omega) (by omega) |>.mp e) (by omega), fun _ => ⟨i, rfl, by omega, ?_⟩⟩
      have := ih (i + 1) (by omega)
      rw [zs_zwr, nI_1]
      have e := zrF_s (X (46 + 2 * q)) 0 i
      rw [show 0 + i = i by omega] at e
      rw [show 0 + i = i by omega, e]
      exact this
  have := key n 0 (by omega)
  rw [zrF_0, zwr_id] at this
  exact this
theorem shY_loop (P : Int32 → zX → Prop) (Y : zX) {q : Nat} (hq : q < 4) (z : P 1 (zwr Y 27 (zrF (Y 27) (40 * q) (40 * q + 40)))) : LX10_sheet_40 P Y (nI q) 0 := by
  have key : ∀ d i, i + d = 40 → LX10_sheet_40 P (zwr Y 27 (zrF (Y 27) (40 * q) (40 * q + i))) (nI q) (nI i) := by
    intro d
    induction d with
    | zero => intro i hi; obtain rfl : i = 40 := by omega
              exact bX10_sheet_40 P _ _ _ ⟨fun _ => z, fun e => absurd (by decide) e⟩
    | succ d ih =>
      intro i hi
      refine bX10_sheet_40 P _ _ _ ⟨fun e => absurd (nI_leI (a := 40) (by omega) (by omega) |>.mp e) (by omega), fun _ => ⟨40 * q + i, ?_, by omega, ?_⟩⟩
      · rw [show (40 : Int32) = nI 40 from rfl, pk_mul, nI_add]
      have := ih (i + 1) (by omega)
      rw [zs_zwr, nI_1, zrF_s]
      exact this
  have := key 40 0 (by omega)
  rw [zrF_0, zwr_id] at this
  exact this
def shX (X f : zX) : zX := fun c => if c < 45 then X c else if c < 53 then f c else X c
def shY (Y g : zX) : zX := fun c => if c < 25 then Y c else if c < 28 then g c else Y c
theorem shX_in (f : zX) {c : Nat} (h1 : 45 ≤ c) (h2 : c < 53) : shX X f c = f c := by unfold shX; rw [if_neg (by omega), if_pos h2]
theorem shX_eq {f : zX} (h : ∀ c, c < 45 ∨ 53 ≤ c → f c = X c) : shX X f = f := by
  funext c; unfold shX
  by_cases q : c < 45
  · rw [if_pos q, h c (Or.inl q)]
  · rw [if_neg q]
    by_cases q2 : c < 53
    · rw [if_pos q2]
    · rw [if_neg q2, h c (Or.inr (by omega))]
theorem shY_eq {f : zX} (h : ∀ c, c < 25 ∨ 28 ≤ c → f c = Y c) : shY Y f = f := by
  funext c; unfold shY
  by_cases q : c < 25
  · rw [if_pos q, h c (Or.inl q)]
  · rw [if_neg q]
    by_cases q2 : c < 28
    · rw [if_pos q2]
    · rw [if_neg q2, h c (Or.inr (by omega))]
theorem rel_sh (h : Rel X Y) {f g : zX} (hf : ∀ c, c < 45 ∨ 53 ≤ c → f c = X c) (hg : ∀ c, c < 25 ∨ 28 ≤ c → g c = Y c) (hl : ∀ k, k < 4 → g 25 k = -4 ∨ isN (g 25 k) 3) (hs : ∀ k, k < 4 → isN (g 26 k) 41) (hN : ∀ k, k < 4 → g 25 k = -4 → f (45 + 2 * k) 2 = -4) (hS : ∀ k, k < 4 → g 25 k ≠ -4 → f (45 + 2 * k) 1 = g 25 k ∧ f (45 + 2 * k) 2 = g 26 k ∧ ∀ i, i < n32 (g 26 k) → f (46 + 2 * k) i = g 27 (40 * k + i)) : Rel f g := by
  have : Rel (shX X f) (shY Y g) := by
    refine ⟨⟨h.1.p, h.1.p2, h.1.v, h.1.v2, h.1.n, h.1.n2, h.1.height, h.1.water, h.1.song, h.1.at_, h.1.tongue, h.1.days, h.1.held, h.1.number, h.1.days1, h.1.kin, h.1.age, h.1.came, h.1.tongues, h.1.had, h.1.had0, h.1.dead, h.1.year, h.1.season, h.1.sing, h.1.tell, h.1.carry, h.1.dry, h.1.taped, h.1.tape, hl, hs⟩, ⟨h.2.size, h.2.yr, h.2.sn, h.2.hgt, h.2.wat, h.2.vs, h.2.sg, h.2.pl, h.2.tg, h.2.dy, h.2.hd, h.2.nb, (fun v hv => ?_), h.2.length, h.2.ofSong, h.2.atPlace, h.2.ns, h.2.kn, h.2.ag, h.2.tgs, h.2.hadx, h.2.lv, h.2.tl, h.2.tb, h.2.sng, h.2.tll, h.2.cry, h.2.hr, h.2.pr, h.2.drx, h.2.tf, h.2.rf, (fun k hk q => ?_), (fun k hk q => ?_)⟩⟩
    · have hs9 := (h.1.song v hv).2
      show (_ : zX) (12 + n32 (Y 3 v)) (n32 (Y 8 v)) = nI v
      unfold shX
      rw [if_pos (by omega)]; exact h.2.order v hv
    · rw [shX_in f (by omega) (by omega)]; exact hN k hk q
    · rw [shX_in f (by omega) (by omega), shX_in f (by omega) (by omega)]; exact hS k hk q
  rwa [shX_eq hf, shY_eq hg] at this
theorem yH_i (Y : zX) {k l : Nat} (hk : k < 4) (hl : l < 3) : zPf SY 1 mX10_isSheet [.int (nI k), .int (nI l)] Y 1 := eX10_isSheet _ Y _ _ ⟨_, yC_i Y 4 hk (by decide) (by decide), fun e => absurd e (by decide), fun _ => ⟨_, yC_i Y 3 hl (by decide) (by decide), fun e => absurd e (by decide), fun _ => rfl⟩⟩
theorem yH_o1 (Y : zX) {a b : Int32} (ha : inR a 4 = false) : zPf SY 1 mX10_isSheet [.int a, .int b] Y 0 := eX10_isSheet _ Y _ _ ⟨_, yC_o Y 4 ha (by decide), fun _ => rfl, fun e => absurd rfl e⟩
theorem yH_o2 (Y : zX) {k : Nat} {b : Int32} (hk : k < 4) (hb : inR b 3 = false) : zPf SY 1 mX10_isSheet [.int (nI k), .int b] Y 0 := eX10_isSheet _ Y _ _ ⟨_, yC_i Y 4 hk (by decide) (by decide), fun e => absurd e (by decide), fun _ => ⟨_, yC_o Y 3 hb (by decide), fun _ => rfl, fun e => absurd rfl e⟩⟩
theorem ag_sheet (h : Rel X Y) (a1 a2 a3 : Int32) : zAg mX9_sheet mX10_sheet 1 2 [.int a1, .int a2, .int a3] X Y := by
  rcases inR_cases a1 (b := 4) (by decide) with h1 | ⟨k, hk, rfl⟩
  · exact zAg_b h (-1) (fun P q => eX9_sheet P X _ _ _ ⟨_, oC_o X 4 h1 (by decide) rfl, fun _ => q, fun e => absurd e (by decide)⟩) (fun P q => eX10_sheet P Y _ _ _ ⟨_, yH_o1 Y h1, fun _ => q, fun e => absurd rfl e⟩)
  rcases inR_cases a2 (b := 3) (by decide) with h1 | ⟨l, hl, rfl⟩
  · exact zAg_b h (-1) (fun P q => eX9_sheet P X _ _ _ ⟨_, oC_i X 4 hk (by decide) rfl, fun e => absurd rfl e, fun _ => ⟨_, oC_o X 3 h1 (by decide) rfl, fun _ => q, fun e => absurd e (by decide)⟩⟩) (fun P q => eX10_sheet P Y _ _ _ ⟨_, yH_o2 Y hk h1, fun _ => q, fun e => absurd rfl e⟩)
  have xx : ∀ P : Int32 → zX → Prop, _ → zPi SX 1 mX9_sheet [.ref 0, .int (nI k), .int (nI l), .int a3] X P := fun P q => eX9_sheet P X _ _ _ ⟨_, oC_i X 4 hk (by decide) rfl, fun e => absurd rfl e, fun _ => ⟨_, oC_i X 3 hl (by decide) rfl, fun e => absurd rfl e, fun _ => q⟩⟩
  have yy : ∀ P : Int32 → zX → Prop, _ → zPi SY 2 mX10_sheet [.ref 0, .int (nI k), .int (nI l), .int a3] Y P := fun P q => eX10_sheet P Y _ _ _ ⟨_, yH_i Y hk hl, fun e => absurd e (by decide), fun _ => q⟩
  by_cases c1 : a3 ≤ 40
  case neg => exact zAg_b h (-1) (fun P z => xx P ⟨fun e => absurd e c1, fun _ => z⟩) (fun P z => yy P ⟨fun e => absurd e c1, fun _ => z⟩)
  by_cases c2 : 0 ≤ a3
  case neg => exact zAg_b h (-14) (fun P z => xx P ⟨fun _ => ⟨fun e => absurd e c2, fun _ => z⟩, fun e => absurd c1 e⟩) (fun P z => yy P ⟨fun _ => ⟨fun e => absurd e c2, fun _ => z⟩, fun e => absurd c1 e⟩)
  obtain ⟨n, hn, rfl⟩ : ∃ n, n ≤ 40 ∧ a3 = nI n := by
    have d1 : a3.toInt ≤ 40 := Int32.le_iff_toInt_le.mp c1
    have d2 : 0 ≤ a3.toInt := Int32.le_iff_toInt_le.mp c2
    exact ⟨a3.toInt.toNat, by omega, nI_toIntL (by omega)⟩
  refine zAg_c 1 (zwr (zs (zs X (45 + 2 * k) 1 (nI l)) (45 + 2 * k) 2 (nI n)) (46 + 2 * k) (zrF (X (46 + 2 * k)) 0 (0 + n))) (zwr (zs (zs Y 25 k (nI l)) 26 k (nI n)) 27 (zrF (Y 27) (40 * k) (40 * k + 40))) (fun P z => xx P ⟨fun _ => ⟨fun _ => ⟨k, rfl, hk, P 1, eX5_renew _ X k hk _ _ ?_, fun _ z => z⟩, fun e => absurd c2 e⟩, fun e => absurd c1 e⟩) (fun P z => yy P ⟨fun _ => ⟨fun _ => ⟨k, rfl, hk, k, rfl, hk, ?_⟩, fun e => absurd c2 e⟩, fun e => absurd c1 e⟩) ?_
  · refine shX_loop _ _ hk hn ?_
    rw [zs_ne (by omega), zs_ne (by omega)]; exact z
  · refine shY_loop _ _ hk ?_
    rw [zs_ne (by omega), zs_ne (by omega)]; exact z
  · refine rel_sh h (fun c hc => ?_) (fun c hc => ?_) (fun j hj => ?_) (fun j hj => ?_) (fun j hj q => ?_) (fun j hj q => ?_)
    · rw [zwr_ne (by omega), zs_ne (by omega), zs_ne (by omega)]
    · rw [zwr_ne (by omega), zs_ne (by omega), zs_ne (by omega)]
    · show upd (Y 25) k (nI l) j = -4 ∨ isN (upd (Y 25) k (nI l) j) 3
      by_cases e : j = k
      · subst e; rw [pk_us]; exact Or.inr (isN_nI hl (by decide))
      · rw [pk_un e]; exact h.1.lanes j hj
    · show isN (upd (Y 26) k (nI n) j) 41
      exact isN_up (isN_nI (by omega) (by decide)) (fun _ => h.1.sizes j hj)
    · have q : upd (Y 25) k (nI l) j = -4 := q
      by_cases e : j = k
      · subst e; rw [pk_us] at q; exact absurd q (neg4_ne l (by omega))
      · rw [pk_un e] at q
        rw [zwr_ne (by omega), zs_ne (by omega), zs_ne (by omega)]; exact h.2.shN j hj q
    · have q : upd (Y 25) k (nI l) j ≠ -4 := q
      show _ = upd (Y 25) k (nI l) j ∧ _ = upd (Y 26) k (nI n) j ∧ ∀ i, i < n32 (upd (Y 26) k (nI n) j) → _ = zrF (Y 27) (40 * k) (40 * k + 40) (40 * j + i)
      by_cases e : j = k
      · subst e
        rw [pk_us, pk_us, n32_nI (by omega), zwr_ne (by omega), zs_nk (by decide), zs_eq, zs_eq]
        refine ⟨rfl, rfl, fun i hi => ?_⟩
        rw [zwr_eq]; unfold zrF
        rw [if_pos (by omega), if_pos (by omega)]
      · rw [pk_un e] at q
        rw [pk_un e, pk_un e, zwr_ne (by omega), zwr_ne (by omega), zs_ne (by omega), zs_ne (by omega), zs_ne (by omega), zs_ne (by omega)]
        obtain ⟨s1, s2, s3⟩ := h.2.shS j hj q
        refine ⟨s1, s2, fun i hi => ?_⟩
        have := (h.1.sizes j hj).2
        rw [s3 i hi]; unfold zrF
        rw [if_neg (by omega)]
end SH
