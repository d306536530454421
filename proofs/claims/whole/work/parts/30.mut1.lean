/-! what changes: both change alike -/
section MU
variable {X Y : zX}
theorem zAg_b {m1 m2 : zM} {l1 l2 : Nat} {as : List Value} (h : Rel X Y) (v : Int32) (h1 : ∀ P : Int32 → zX → Prop, P v X → zPi SX l1 m1 (.ref 0 :: as) X P) (h2 : ∀ P : Int32 → zX → Prop, P v Y → zPi SY l2 m2 (.ref 0 :: as) Y P) : zAg m1 m2 l1 l2 as X Y :=
  zAg_u v X Y (h1 _ ⟨rfl, rfl⟩) (h2 _ ⟨rfl, rfl⟩) h
theorem zAg_c {m1 m2 : zM} {l1 l2 : Nat} {as : List Value} (v : Int32) (X2 Y2 : zX) (h1 : ∀ P : Int32 → zX → Prop, P v X2 → zPi SX l1 m1 (.ref 0 :: as) X P) (h2 : ∀ P : Int32 → zX → Prop, P v Y2 → zPi SY l2 m2 (.ref 0 :: as) Y P) (h : Rel X2 Y2) : zAg m1 m2 l1 l2 as X Y :=
  zAg_u v X2 Y2 (h1 _ ⟨rfl, rfl⟩) (h2 _ ⟨rfl, rfl⟩) h
theorem n32_s {x : Int32} {n : Nat} (hx : x = nI n) (hn : n < 1000) : n32 (x + 1) = n + 1 := by rw [hx, nI_1, n32_nI (by omega)]
theorem isN_up {f : Nat → Int32} {k b j : Nat} {x : Int32} (hx : isN x b) (hf : j ≠ k → isN (f j) b) : isN (upd f k x j) b := by
  by_cases e : j = k
  · subst e; rw [pk_us]; exact hx
  · rw [pk_un e]; exact hf e
theorem isN_le {x : Int32} {a b : Nat} (h : isN x a) (hab : a ≤ b) : isN x b := ⟨h.1, by have := h.2; omega⟩
theorem add_sub1 (x : Int32) : x + 1 - 1 = x := by
  rw [Int32.sub_eq_add_neg, Int32.add_assoc, Int32.add_right_neg, Int32.add_zero]
theorem isN_toInt {x : Int32} {b : Nat} (h : isN x b) (hb : b ≤ 2 ^ 31) : x.toInt = n32 x := by
  obtain ⟨h1, h2⟩ := h
  generalize n32 x = k at h1 h2
  rw [h1, nI_toInt (by omega)]
theorem ag_place (h : Rel X Y) (a1 a2 : Int32) : zAg mX9_place mX10_place 1 1 [.int a1, .int a2] X Y := by
  have hp := h.1.p; have hp2 := h.1.p2
  rcases inR_cases a1 (b := 10) (by decide) with h1 | ⟨c, hc, rfl⟩
  · exact zAg_b h (-1) (fun P q => eX9_place P X _ _ ⟨_, oC_o X 10 h1 (by decide) rfl, fun _ => q, fun e => absurd e (by decide)⟩) (fun P q => eX10_place P Y _ _ ⟨_, yC_o Y 10 h1 (by decide), fun _ => q, fun e => absurd rfl e⟩)
  rcases inR_cases a2 (b := 16) (by decide) with h1 | ⟨d, hd, rfl⟩
  · exact zAg_b h (-1) (fun P q => eX9_place P X _ _ ⟨_, oC_i X 10 hc (by decide) rfl, fun e => absurd rfl e, fun _ => ⟨_, oC_o X 16 h1 (by decide) rfl, fun e => absurd e (by decide), fun _ => q⟩⟩) (fun P q => eX10_place P Y _ _ ⟨_, yC_i Y 10 hc (by decide) (by decide), fun e => absurd e (by decide), fun _ => ⟨_, yC_o Y 16 h1 (by decide), fun e => absurd rfl e, fun _ => q⟩⟩)
  have xx : ∀ P : Int32 → zX → Prop, zPi SX 0 mX1_add [.ref 1, .int (nI c), .int (nI d)] X P → zPi SX 1 mX9_place [.ref 0, .int (nI c), .int (nI d)] X P := fun P q => eX9_place P X _ _ ⟨_, oC_i X 10 hc (by decide) rfl, fun e => absurd rfl e, fun _ => ⟨_, oC_i X 16 hd (by decide) rfl, fun _ => ⟨_, q, fun _ _ z => z⟩, fun e => absurd rfl e⟩⟩
  have yy : ∀ P : Int32 → zX → Prop, _ → zPi SY 1 mX10_place [.ref 0, .int (nI c), .int (nI d)] Y P := fun P q => eX10_place P Y _ _ ⟨_, yC_i Y 10 hc (by decide) (by decide), fun e => absurd e (by decide), fun _ => ⟨_, yC_i Y 16 hd (by decide) (by decide), fun _ => q, fun e => absurd e (by decide)⟩⟩
  have hx := h.2.size.trans hp
  have e12 : X 1 2 < 12 ↔ nP Y < 12 := by rw [hx]; exact nI_ltI (b := 12) (by omega) (by omega)
  have f12 : Y 0 0 = 12 ↔ nP Y = 12 := by rw [hp]; exact nI_eq (b := 12) (by omega) (by omega)
  by_cases q : nP Y = 12
  · exact zAg_b h (-3) (fun P z => xx P (eX1_add P X _ _ ⟨fun e => absurd (e12.mp e) (by omega), fun _ => z⟩)) (fun P z => yy P ⟨fun e => absurd (f12.mpr q) e, fun _ => z⟩)
  · refine zAg_c (nI (nP Y)) (zs (zs (zs X 2 (nP Y) (nI c)) 3 (nP Y) (nI d)) 1 2 (X 1 2 + 1)) (zs (zs (zs Y 1 (nP Y) (nI c)) 2 (nP Y) (nI d)) 0 0 (Y 0 0 + 1)) (fun P z => xx P (eX1_add P X _ _ ⟨fun _ => ⟨nP Y, hx, by omega, nP Y, hx, by omega, ?_⟩, fun e => absurd (e12.mpr (by omega)) e⟩)) (fun P z => yy P ⟨fun _ => ⟨nP Y, hp, by omega, nP Y, hp, by omega, ?_⟩, fun e => absurd (f12.mp e) q⟩) ?_
    · rw [add_sub1, hx]; rw [hx] at z; exact z
    · rw [add_sub1, hp]; rw [hp] at z; exact z
    have eP : nP (zs (zs (zs Y 1 (nP Y) (nI c)) 2 (nP Y) (nI d)) 0 0 (Y 0 0 + 1)) = nP Y + 1 := n32_s hp (by omega)
    refine ⟨⟨(by rw [eP, ← nI_1, ← hp]; rfl), (by rw [eP]; omega), h.1.v, h.1.v2, h.1.n, h.1.n2, (fun i hi => isN_up (isN_nI hc (by decide)) (fun e => h.1.height i (by rw [eP] at hi; omega))), (fun i hi => isN_up (isN_nI hd (by decide)) (fun e => h.1.water i (by rw [eP] at hi; omega))), h.1.song, (fun v hv => isN_le (h.1.at_ v hv) (by rw [eP]; omega)), h.1.tongue, h.1.days, h.1.held, h.1.number, h.1.days1, h.1.kin, h.1.age, h.1.came, h.1.tongues, h.1.had, h.1.had0, h.1.dead, h.1.year, h.1.season, h.1.sing, h.1.tell, h.1.carry, h.1.dry, h.1.taped, h.1.tape, h.1.lanes, h.1.sizes⟩, ⟨(by show X 1 2 + 1 = Y 0 0 + 1; rw [h.2.size]), h.2.yr, h.2.sn, (by show upd (X 2) _ _ = upd (Y 1) _ _; rw [h.2.hgt]), (by show upd (X 3) _ _ = upd (Y 2) _ _; rw [h.2.wat]), h.2.vs, h.2.sg, h.2.pl, h.2.tg, h.2.dy, h.2.hd, h.2.nb, (fun v hv => by have hs9 := (h.1.song v hv).2; show (_ : zX) (12 + n32 (Y 3 v)) (n32 (Y 8 v)) = nI v; (repeat refine Eq.trans (congrFun (zs_ne (by omega)) _) ?_); exact h.2.order v hv), h.2.length, h.2.ofSong, h.2.atPlace, h.2.ns, h.2.kn, h.2.ag, h.2.tgs, h.2.hadx, h.2.lv, h.2.tl, h.2.tb, h.2.sng, h.2.tll, h.2.cry, h.2.hr, h.2.pr, h.2.drx, h.2.tf, h.2.rf, (fun k hk q => by (repeat refine Eq.trans (congrFun (zs_ne (by omega)) _) ?_); exact h.2.shN k hk q), (fun k hk q => ⟨by (repeat refine Eq.trans (congrFun (zs_ne (by omega)) _) ?_); exact (h.2.shS k hk q).1, by (repeat refine Eq.trans (congrFun (zs_ne (by omega)) _) ?_); exact (h.2.shS k hk q).2.1, fun i hi => by (repeat refine Eq.trans (congrFun (zs_ne (by omega)) _) ?_); exact (h.2.shS k hk q).2.2 i hi⟩)⟩⟩
theorem ag_now (h : Rel X Y) (a1 a2 : Int32) : zAg mX9_now mX10_now 1 1 [.int a1, .int a2] X Y := by
  have hy := h.1.year
  have yt : (Y 0 17).toInt = n32 (Y 0 17) := isN_toInt hy (by decide)
  rcases inR_cases a1 (b := 100) (by decide) with h1 | ⟨c, hc, rfl⟩
  · refine zAg_b h (-1) (fun P q => eX9_now P X _ _ ⟨_, oC_o X 100 h1 (by decide) rfl, fun _ => q, fun e => absurd e (by decide)⟩) (fun P q => eX10_now P Y _ _ ⟨_, yI_o Y (l := n32 (Y 0 17)) (r := 99) (by rw [Int32.toInt_toInt64]; exact yt) (by decide) ?_, fun _ => q, fun e => absurd rfl e⟩)
    have := oor_big h1
    omega
  have lt : nI c < X 1 3 ↔ c < n32 (Y 0 17) := by rw [h.2.yr, fa_lt, yt, nI_toInt (by omega)]; omega
  by_cases q : c < n32 (Y 0 17)
  · refine zAg_b h (-1) (fun P z => eX9_now P X _ _ ⟨_, oC_i X 100 hc (by decide) rfl, fun e => absurd rfl e, fun _ => ⟨fun _ => z, fun e => absurd (lt.mpr q) e⟩⟩) (fun P z => eX10_now P Y _ _ ⟨_, yI_o Y (l := n32 (Y 0 17)) (r := 99) (by rw [Int32.toInt_toInt64]; exact yt) (by decide) ?_, fun _ => z, fun e => absurd rfl e⟩)
    rw [nI_toInt (by omega)]; omega
  have yi : zPf SY 0 mX10_in [.long (nI c).toInt64, .long (Y 0 17).toInt64, .long 99] Y 1 := yI_i Y (l := n32 (Y 0 17)) (r := 99) (by rw [Int32.toInt_toInt64]; exact yt) (by decide) (by rw [nI_toInt (by omega)]; omega)
  rcases inR_cases a2 (b := 4) (by decide) with h1 | ⟨d, hd, rfl⟩
  · exact zAg_b h (-1) (fun P z => eX9_now P X _ _ ⟨_, oC_i X 100 hc (by decide) rfl, fun e => absurd rfl e, fun _ => ⟨fun _ => z, fun _ => ⟨_, oC_o X 4 h1 (by decide) rfl, fun e => absurd e (by decide), fun _ => z⟩⟩⟩) (fun P z => eX10_now P Y _ _ ⟨_, yi, fun e => absurd e (by decide), fun _ => ⟨_, yC_o Y 4 h1 (by decide), fun e => absurd rfl e, fun _ => z⟩⟩)
  refine zAg_c (Y 0 17) (zs (zs X 1 3 (nI c)) 1 4 (nI d)) (zs (zs Y 0 17 (nI c)) 0 18 (nI d)) (fun P z => eX9_now P X _ _ ⟨_, oC_i X 100 hc (by decide) rfl, fun e => absurd rfl e, fun _ => ⟨fun e => absurd (lt.mp e) q, fun _ => ⟨_, oC_i X 4 hd (by decide) rfl, fun _ => by rw [h.2.yr]; exact z, fun e => absurd rfl e⟩⟩⟩) (fun P z => eX10_now P Y _ _ ⟨_, yi, fun e => absurd e (by decide), fun _ => ⟨_, yC_i Y 4 hd (by decide) (by decide), fun _ => z, fun e => absurd e (by decide)⟩⟩) ?_
  exact ⟨⟨h.1.p, h.1.p2, h.1.v, h.1.v2, h.1.n, h.1.n2, h.1.height, h.1.water, h.1.song, h.1.at_, h.1.tongue, h.1.days, h.1.held, h.1.number, h.1.days1, h.1.kin, h.1.age, h.1.came, h.1.tongues, h.1.had, h.1.had0, h.1.dead, isN_nI hc (by decide), isN_nI hd (by decide), h.1.sing, h.1.tell, h.1.carry, h.1.dry, h.1.taped, h.1.tape, h.1.lanes, h.1.sizes⟩, ⟨h.2.size, rfl, rfl, h.2.hgt, h.2.wat, h.2.vs, h.2.sg, h.2.pl, h.2.tg, h.2.dy, h.2.hd, h.2.nb, (fun v hv => by have hs9 := (h.1.song v hv).2; show (_ : zX) (12 + n32 (Y 3 v)) (n32 (Y 8 v)) = nI v; (repeat refine Eq.trans (congrFun (zs_ne (by omega)) _) ?_); exact h.2.order v hv), h.2.length, h.2.ofSong, h.2.atPlace, h.2.ns, h.2.kn, h.2.ag, h.2.tgs, h.2.hadx, h.2.lv, h.2.tl, h.2.tb, h.2.sng, h.2.tll, h.2.cry, h.2.hr, h.2.pr, h.2.drx, h.2.tf, h.2.rf, (fun k hk q => by (repeat refine Eq.trans (congrFun (zs_ne (by omega)) _) ?_); exact h.2.shN k hk q), (fun k hk q => ⟨by (repeat refine Eq.trans (congrFun (zs_ne (by omega)) _) ?_); exact (h.2.shS k hk q).1, by (repeat refine Eq.trans (congrFun (zs_ne (by omega)) _) ?_); exact (h.2.shS k hk q).2.1, fun i hi => by (repeat refine Eq.trans (congrFun (zs_ne (by omega)) _) ?_); exact (h.2.shS k hk q).2.2 i hi⟩)⟩⟩
theorem bt_set (x : Int32) {v j : Nat} (hv : v < 32) (hj : j < 32) : bt (x ||| zshl 1 (nI v)) j = (bt x j || decide (j = v)) := by rw [b_or, bt_sh hv hj]
theorem bt_clr (x : Int32) {v j : Nat} (hv : v < 32) (hj : j < 32) : bt (x &&& (zshl 1 (nI v) ^^^ (-1))) j = (bt x j && !decide (j = v)) := by rw [b_and, bt_not _ hj, bt_sh hv hj]
/-- had changes for one of the people -/
theorem rel_had (h : Rel X Y) {w : Nat} (hw : w < nN Y) {x : Int32} (hx : ∀ k, k < 32 → nV Y ≤ k → bt x k = false) : Rel (zs X 23 w x) (zs Y 13 w x) := by
  refine ⟨⟨h.1.p, h.1.p2, h.1.v, h.1.v2, h.1.n, h.1.n2, h.1.height, h.1.water, h.1.song, h.1.at_, h.1.tongue, h.1.days, h.1.held, h.1.number, h.1.days1, h.1.kin, h.1.age, h.1.came, h.1.tongues, (fun u k hu hk => ?_), (fun u hu => ?_), h.1.dead, h.1.year, h.1.season, h.1.sing, h.1.tell, h.1.carry, h.1.dry, h.1.taped, h.1.tape, h.1.lanes, h.1.sizes⟩, ⟨h.2.size, h.2.yr, h.2.sn, h.2.hgt, h.2.wat, h.2.vs, h.2.sg, h.2.pl, h.2.tg, h.2.dy, h.2.hd, h.2.nb, (fun v hv => by have hs9 := (h.1.song v hv).2; show (_ : zX) (12 + n32 (Y 3 v)) (n32 (Y 8 v)) = nI v; (repeat refine Eq.trans (congrFun (zs_ne (by omega)) _) ?_); exact h.2.order v hv), h.2.length, h.2.ofSong, h.2.atPlace, h.2.ns, h.2.kn, h.2.ag, h.2.tgs, (by show upd (X 23) _ _ = upd (Y 13) _ _; rw [h.2.hadx]), h.2.lv, h.2.tl, h.2.tb, h.2.sng, h.2.tll, h.2.cry, h.2.hr, h.2.pr, h.2.drx, h.2.tf, h.2.rf, (fun k hk q => by (repeat refine Eq.trans (congrFun (zs_ne (by omega)) _) ?_); exact h.2.shN k hk q), (fun k hk q => ⟨by (repeat refine Eq.trans (congrFun (zs_ne (by omega)) _) ?_); exact (h.2.shS k hk q).1, by (repeat refine Eq.trans (congrFun (zs_ne (by omega)) _) ?_); exact (h.2.shS k hk q).2.1, fun i hi => by (repeat refine Eq.trans (congrFun (zs_ne (by omega)) _) ?_); exact (h.2.shS k hk q).2.2 i hi⟩)⟩⟩
  · show bt (upd (Y 13) w x u) k = false
    by_cases e : u = w
    · subst e
      rw [pk_us]
      by_cases e2 : k < 32
      · exact hx k e2 hk
      · exact b_big (by omega)
    · rw [pk_un e]; exact h.1.had u k hu hk
  · show upd (Y 13) w x u = 0
    have : nN Y ≤ u := hu
    rw [pk_un (by omega)]; exact h.1.had0 u hu
theorem liveZ (h : Rel X Y) {w : Nat} (hw : w < nN Y) : X 24 w = 0 ↔ ¬ Y 14 w = 0 := by
  rw [liveX h hw]; simp [liveP]
theorem ag_has (h : Rel X Y) (a1 a2 a3 : Int32) : zAg mX9_has mX10_has 1 2 [.int a1, .int a2, .int a3] X Y := by
  have hv2 := h.1.v2; have hn2 := h.1.n2
  rcases inR_cases a1 (b := nN Y) (by omega) with h1 | ⟨w, hw, rfl⟩
  · exact zAg_b h (-1) (fun P q => eX9_has P X _ _ _ ⟨_, oN_o h h1, fun _ => q, fun e => absurd e (by decide)⟩) (fun P q => eX10_has P Y _ _ _ ⟨_, yN_o h.1 h1, fun _ => q, fun e => absurd rfl e⟩)
  rcases inR_cases a2 (b := nV Y) (by omega) with h1 | ⟨v, hv, rfl⟩
  · exact zAg_b h (-1) (fun P q => eX9_has P X _ _ _ ⟨_, oN_i h hw, fun e => absurd rfl e, fun _ => ⟨_, oV_o h h1, fun e => absurd e (by decide), fun _ => q⟩⟩) (fun P q => eX10_has P Y _ _ _ ⟨_, yN_i h.1 hw, fun e => absurd e (by decide), fun _ => ⟨_, yV_o h.1 h1, fun e => absurd rfl e, fun _ => q⟩⟩)
  have xx : ∀ P : Int32 → zX → Prop, _ → zPi SX 1 mX9_has [.ref 0, .int (nI w), .int (nI v), .int a3] X P := fun P q => eX9_has P X _ _ _ ⟨_, oN_i h hw, fun e => absurd rfl e, fun _ => ⟨_, oV_i h hv, fun _ => ⟨w, rfl, by omega, q⟩, fun e => absurd rfl e⟩⟩
  have yy : ∀ P : Int32 → zX → Prop, _ → zPi SY 2 mX10_has [.ref 0, .int (nI w), .int (nI v), .int a3] Y P := fun P q => eX10_has P Y _ _ _ ⟨_, yN_i h.1 hw, fun e => absurd e (by decide), fun _ => ⟨_, yV_i h.1 hv, fun _ => ⟨w, rfl, by omega, q⟩, fun e => absurd e (by decide)⟩⟩
  by_cases q : Y 14 w = 0
  · have lx : ¬ X 24 w = 0 := fun e => (liveZ h hw).mp e q
    by_cases z : a3 = 0
    · refine zAg_c ((zshr (Y 13 w) (nI v)) &&& 1) (zs X 23 w (Y 13 w &&& (zshl 1 (nI v) ^^^ (-1)))) (zs Y 13 w (Y 13 w &&& (zshl 1 (nI v) ^^^ (-1)))) (fun P c => xx P ⟨fun _ => ⟨w, rfl, by omega, fun _ => ⟨w, rfl, by omega, w, rfl, by omega, by rw [h.2.hadx]; exact c⟩, fun e => absurd z e⟩, fun e => absurd e lx⟩) (fun P c => yy P ⟨fun _ => ⟨w, rfl, by omega, fun _ => ⟨w, rfl, by omega, w, rfl, by omega, c⟩, fun e => absurd z e⟩, fun e => absurd q e⟩) (rel_had h hw (fun k k32 hk => by rw [bt_clr _ (by omega) k32, h.1.had w k hw hk]; rfl))
    · refine zAg_c ((zshr (Y 13 w) (nI v)) &&& 1) (zs X 23 w (Y 13 w ||| zshl 1 (nI v))) (zs Y 13 w (Y 13 w ||| zshl 1 (nI v))) (fun P c => xx P ⟨fun _ => ⟨w, rfl, by omega, fun e => absurd e z, fun _ => ⟨w, rfl, by omega, w, rfl, by omega, by rw [h.2.hadx]; exact c⟩⟩, fun e => absurd e lx⟩) (fun P c => yy P ⟨fun _ => ⟨w, rfl, by omega, fun e => absurd e z, fun _ => ⟨w, rfl, by omega, w, rfl, by omega, c⟩⟩, fun e => absurd q e⟩) (rel_had h hw (fun k k32 hk => by rw [bt_set _ (by omega) k32, h.1.had w k hw hk]; simp; omega))
  · have lx : X 24 w = 0 := (liveZ h hw).mpr q
    exact zAg_b h (-2) (fun P c => xx P ⟨fun e => absurd lx e, fun _ => c⟩) (fun P c => yy P ⟨fun e => absurd e q, fun _ => c⟩)
theorem ag_teach (h : Rel X Y) (a b c : Int32) : zAg mX9_teach mX10_teach 3 3 [.int a, .int b, .int c] X Y := by
  have hv2 := h.1.v2; have hn2 := h.1.n2
  have bad : (inR a (nN Y) && inR b (nN Y) && !(a == b) && inR c (nV Y)) = false → ∀ P : Int32 → zX → Prop, P (-1) X → zPi SX 3 mX9_teach [.ref 0, .int a, .int b, .int c] X P := fun q P z => eX9_teach P X _ _ _ ⟨1, (cX_noSuchLesson h a b c).eq (by rw [q]; rfl), fun e => absurd e (by decide), fun _ => z⟩
  rcases inR_cases a (b := nN Y) (by omega) with h1 | ⟨w, hw, rfl⟩
  · exact zAg_b h (-1) (bad (by simp [h1])) (fun P z => eX10_teach P Y _ _ _ ⟨_, yN_o h.1 h1, fun _ => z, fun e => absurd rfl e⟩)
  rcases inR_cases b (b := nN Y) (by omega) with h1 | ⟨u, hu, rfl⟩
  · exact zAg_b h (-1) (bad (by simp [h1])) (fun P z => eX10_teach P Y _ _ _ ⟨_, yN_i h.1 hw, fun e => absurd e (by decide), fun _ => ⟨_, yN_o h.1 h1, fun _ => z, fun e => absurd rfl e⟩⟩)
  by_cases q : nI w = nI u
  · exact zAg_b h (-1) (bad (by simp [q])) (fun P z => eX10_teach P Y _ _ _ ⟨_, yN_i h.1 hw, fun e => absurd e (by decide), fun _ => ⟨_, yN_i h.1 hu, fun e => absurd e (by decide), fun _ => ⟨fun _ => z, fun e => absurd q e⟩⟩⟩)
  rcases inR_cases c (b := nV Y) (by omega) with h1 | ⟨v, hv, rfl⟩
  · exact zAg_b h (-1) (bad (by simp [h1])) (fun P z => eX10_teach P Y _ _ _ ⟨_, yN_i h.1 hw, fun e => absurd e (by decide), fun _ => ⟨_, yN_i h.1 hu, fun e => absurd e (by decide), fun _ => ⟨fun e => absurd e q, fun _ => ⟨_, yV_o h.1 h1, fun e => absurd rfl e, fun _ => z⟩⟩⟩⟩)
  have ok : (inR (nI w) (nN Y) && inR (nI u) (nN Y) && !(nI w == nI u) && inR (nI v) (nV Y)) = true := by
    rw [inR_nI hw (by omega), inR_nI hu (by omega), inR_nI hv (by omega), beqF q]; rfl
  have xx : ∀ P : Int32 → zX → Prop, _ → zPi SX 3 mX9_teach [.ref 0, .int (nI w), .int (nI u), .int (nI v)] X P := fun P q => eX9_teach P X _ _ _ ⟨0, (cX_noSuchLesson h (nI w) (nI u) (nI v)).eq (by rw [ok]; rfl), fun _ => ⟨_, cX_canTell h hw hv, q⟩, fun e => absurd rfl e⟩
  have yy : ∀ P : Int32 → zX → Prop, _ → zPi SY 3 mX10_teach [.ref 0, .int (nI w), .int (nI u), .int (nI v)] Y P := fun P z => eX10_teach P Y _ _ _ ⟨_, yN_i h.1 hw, fun e => absurd e (by decide), fun _ => ⟨_, yN_i h.1 hu, fun e => absurd e (by decide), fun _ => ⟨fun e => absurd e q, fun _ => ⟨_, yV_i h.1 hv, fun _ => ⟨_, cY_canTeach h.1 hw hu hv, z⟩, fun e => absurd e (by decide)⟩⟩⟩⟩
  cases t1 : tellP Y w v with
  | false => exact zAg_b h (-2) (fun P z => xx P ⟨fun _ => z, fun e => absurd (by rw [t1]; rfl) e⟩) (fun P z => yy P ⟨fun e => absurd (by rw [t1]; rfl) e, fun _ => z⟩)
  | true =>
    cases t2 : lrnP Y u v with
    | false => exact zAg_b h (-2) (fun P z => xx P ⟨fun e => absurd e (by rw [t1]; decide), fun _ => ⟨_, cX_canLearn h hu hv, fun e => absurd (by rw [t2]; rfl) e, fun _ => z⟩⟩) (fun P z => yy P ⟨fun e => absurd (by rw [t2, Bool.and_false]; rfl) e, fun _ => z⟩)
    | true =>
      have hr : Rel (zs X 23 u (Y 13 u ||| zshl 1 (nI v))) (zs Y 13 u (Y 13 u ||| zshl 1 (nI v))) := rel_had h hu (fun k k32 hk => by rw [bt_set _ (by omega) k32, h.1.had u k hu hk]; simp; omega)
      refine zAg_c (nI (headsY (zs Y 13 u (Y 13 u ||| zshl 1 (nI v))) v)) (zs X 23 u (Y 13 u ||| zshl 1 (nI v))) (zs Y 13 u (Y 13 u ||| zshl 1 (nI v))) (fun P z => xx P ⟨fun e => absurd e (by rw [t1]; decide), fun _ => ⟨_, cX_canLearn h hu hv, fun _ => ⟨u, rfl, by omega, u, rfl, by omega, (nI (headsY (zs Y 13 u (Y 13 u ||| zshl 1 (nI v))) v)), (by rw [h.2.hadx]; exact cX_heads hr (by omega)), (by rw [h.2.hadx]; exact z)⟩, fun e => absurd e (by rw [t2]; decide)⟩⟩) (fun P z => yy P ⟨fun _ => ⟨u, rfl, by omega, u, rfl, by omega, _, cY_headsOf _ hr.1 (by omega), z⟩, fun e => absurd e (by rw [t1, t2]; decide)⟩) hr
end MU
