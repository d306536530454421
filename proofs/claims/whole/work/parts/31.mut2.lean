section MV
variable {X Y : zX}
theorem ag_led (h : Rel X Y) (a : Int32) : zAg mX9_led mX10_led 4 4 [.int a] X Y := by
  rcases inR_cases a (b := 2 ^ nN Y) (by have := pow_le h.1.n2; omega) with h1 | ⟨c, hc, rfl⟩
  · exact zAg_b h (-1) (fun P q => eX9_led P X _ ⟨_, oS_o h h1, fun e => absurd e (by decide), fun _ => q⟩) (fun P q => (eX10_led (-1) Y _ ⟨_, yS_o h.1 h1, fun _ => rfl, fun e => absurd rfl e⟩).i.mono (fun r Y2 z => by rw [z.1, z.2]; exact q))
  · exact ⟨ledY Y (nI c), VO X Y, (fun Y2 => Y2 = Y), eX9_led _ X _ ⟨_, oS_i h hc, fun _ => ⟨_, cX_ledBy h _, fun r M z => z⟩, fun e => absurd rfl e⟩, (eX10_led _ Y _ ⟨_, yS_i h.1 hc, fun e => absurd e (by decide), fun _ => ⟨_, cY_ledBy h.1 _, rfl⟩⟩).i, fun X' Y' q1 q2 => by rw [q2]; exact q1.rel h⟩
theorem nar0 : vp_nar .boolean 0 = 0 := rfl
theorem nar1 : vp_nar .boolean 1 = 1 := rfl
theorem ag_one (h : Rel X Y) (a1 a2 a3 : Int32) : zAg mX9_one mX10_one 1 1 [.int a1, .int a2, .int a3] X Y := by
  have hn := h.1.n; have hn2 := h.1.n2
  rcases inR_cases a1 (b := 8) (by decide) with h1 | ⟨c, hc, rfl⟩
  · exact zAg_b h (-1) (fun P q => eX9_one P X _ _ _ ⟨_, oC_o X 8 h1 (by decide) rfl, fun _ => q, fun e => absurd e (by decide)⟩) (fun P q => eX10_one P Y _ _ _ ⟨_, yC_o Y 8 h1 (by decide), fun _ => q, fun e => absurd rfl e⟩)
  rcases inR_cases a2 (b := 100) (by decide) with h1 | ⟨d, hd, rfl⟩
  · exact zAg_b h (-1) (fun P q => eX9_one P X _ _ _ ⟨_, oC_i X 8 hc (by decide) rfl, fun e => absurd rfl e, fun _ => ⟨_, oC_o X 100 h1 (by decide) rfl, fun _ => q, fun e => absurd e (by decide)⟩⟩) (fun P q => eX10_one P Y _ _ _ ⟨_, yC_i Y 8 hc (by decide) (by decide), fun e => absurd e (by decide), fun _ => ⟨_, yC_o Y 100 h1 (by decide), fun _ => q, fun e => absurd rfl e⟩⟩)
  rcases inR_cases a3 (b := 512) (by decide) with h1 | ⟨t, ht, rfl⟩
  · exact zAg_b h (-1) (fun P q => eX9_one P X _ _ _ ⟨_, oC_i X 8 hc (by decide) rfl, fun e => absurd rfl e, fun _ => ⟨_, oC_i X 100 hd (by decide) rfl, fun e => absurd rfl e, fun _ => ⟨_, oC_o X 512 h1 (by decide) rfl, fun e => absurd e (by decide), fun _ => q⟩⟩⟩) (fun P q => eX10_one P Y _ _ _ ⟨_, yC_i Y 8 hc (by decide) (by decide), fun e => absurd e (by decide), fun _ => ⟨_, yC_i Y 100 hd (by decide) (by decide), fun e => absurd e (by decide), fun _ => ⟨_, yC_o Y 512 h1 (by decide), fun e => absurd rfl e, fun _ => q⟩⟩⟩)
  have xx : ∀ P : Int32 → zX → Prop, zPi SX 0 mX2_add [.ref 19, .int (nI c), .int (nI d - X 1 3), .int (nI t)] X P → zPi SX 1 mX9_one [.ref 0, .int (nI c), .int (nI d), .int (nI t)] X P := fun P q => eX9_one P X _ _ _ ⟨_, oC_i X 8 hc (by decide) rfl, fun e => absurd rfl e, fun _ => ⟨_, oC_i X 100 hd (by decide) rfl, fun e => absurd rfl e, fun _ => ⟨_, oC_i X 512 ht (by decide) rfl, fun _ => ⟨_, q, fun _ _ z => z⟩, fun e => absurd rfl e⟩⟩⟩
  have yy : ∀ P : Int32 → zX → Prop, _ → zPi SY 1 mX10_one [.ref 0, .int (nI c), .int (nI d), .int (nI t)] Y P := fun P q => eX10_one P Y _ _ _ ⟨_, yC_i Y 8 hc (by decide) (by decide), fun e => absurd e (by decide), fun _ => ⟨_, yC_i Y 100 hd (by decide) (by decide), fun e => absurd e (by decide), fun _ => ⟨_, yC_i Y 512 ht (by decide) (by decide), fun _ => q, fun e => absurd e (by decide)⟩⟩⟩
  have hx := h.2.ns.trans hn
  have e8 : X 19 5 < 8 ↔ nN Y < 8 := by rw [hx]; exact nI_ltI (b := 8) (by omega) (by omega)
  have f8 : Y 0 10 = 8 ↔ nN Y = 8 := by rw [hn]; exact nI_eq (b := 8) (by omega) (by omega)
  by_cases q : nN Y = 8
  · exact zAg_b h (-3) (fun P z => xx P (eX2_add P X _ _ _ ⟨fun e => absurd (e8.mp e) (by omega), fun _ => z⟩)) (fun P z => yy P ⟨fun e => absurd (f8.mpr q) e, fun _ => z⟩)
  · have h8 : nN Y < 8 := by omega
    refine zAg_c (nI (nN Y)) (zs (zs (zs (zs (zs X 20 (nN Y) (nI c)) 21 (nN Y) (nI d - X 1 3)) 22 (nN Y) (nI t)) 24 (nN Y) (vp_nar .boolean 1)) 19 5 (X 19 5 + 1)) (zs (zs (zs (zs (zs (zs (zs Y 9 (nN Y) (nI c)) 10 (nN Y) (nI d)) 11 (nN Y) (Y 0 17)) 12 (nN Y) (nI t)) 13 (nN Y) 0) 14 (nN Y) (vp_nar .boolean 0)) 0 10 (Y 0 10 + 1)) (fun P z => xx P (eX2_add P X _ _ _ ⟨fun _ => ⟨nN Y, hx, by omega, nN Y, hx, by omega, nN Y, hx, by omega, nN Y, hx, by omega, ?_⟩, fun e => absurd (e8.mpr (by omega)) e⟩)) (fun P z => yy P ⟨fun _ => ⟨nN Y, hn, by omega, nN Y, hn, by omega, nN Y, hn, by omega, nN Y, hn, by omega, nN Y, hn, by omega, nN Y, hn, by omega, ?_⟩, fun e => absurd (f8.mp e) q⟩) ?_
    · rw [add_sub1, hx]; rw [hx] at z; exact z
    · rw [add_sub1, hn]; rw [hn] at z; exact z
    have eN : nN (zs (zs (zs (zs (zs (zs (zs Y 9 (nN Y) (nI c)) 10 (nN Y) (nI d)) 11 (nN Y) (Y 0 17)) 12 (nN Y) (nI t)) 13 (nN Y) 0) 14 (nN Y) (vp_nar .boolean 0)) 0 10 (Y 0 10 + 1)) = nN Y + 1 := n32_s hn (by omega)
    have h13 : upd (Y 13) (nN Y) 0 = Y 13 := fa_upd_same (h.1.had0 _ (Nat.le_refl _))
    refine ⟨⟨h.1.p, h.1.p2, h.1.v, h.1.v2, (by rw [eN, ← nI_1, ← hn]; rfl), (by rw [eN]; omega), h.1.height, h.1.water, h.1.song, h.1.at_, h.1.tongue, h.1.days, h.1.held, h.1.number, h.1.days1, (fun i hi => isN_up (isN_nI hc (by decide)) (fun e => h.1.kin i (by rw [eN] at hi; omega))), (fun i hi => isN_up (isN_nI hd (by decide)) (fun e => h.1.age i (by rw [eN] at hi; omega))), (fun i hi => isN_up h.1.year (fun e => h.1.came i (by rw [eN] at hi; omega))), (fun i hi => isN_up (isN_nI ht (by decide)) (fun e => h.1.tongues i (by rw [eN] at hi; omega))), (fun w k hw hk => ?_), (fun w hw => ?_), (fun w hw => ?_), h.1.year, h.1.season, h.1.sing, h.1.tell, h.1.carry, h.1.dry, h.1.taped, h.1.tape, h.1.lanes, h.1.sizes⟩, ⟨h.2.size, h.2.yr, h.2.sn, h.2.hgt, h.2.wat, h.2.vs, h.2.sg, h.2.pl, h.2.tg, h.2.dy, h.2.hd, h.2.nb, (fun v hv => by have hs9 := (h.1.song v hv).2; show (_ : zX) (12 + n32 (Y 3 v)) (n32 (Y 8 v)) = nI v; (repeat refine Eq.trans (congrFun (zs_ne (by omega)) _) ?_); exact h.2.order v hv), h.2.length, h.2.ofSong, h.2.atPlace, (by show X 19 5 + 1 = Y 0 10 + 1; rw [h.2.ns]), (by show upd (X 20) _ _ = upd (Y 9) _ _; rw [h.2.kn]), (fun w hw => ?_), (by show upd (X 22) _ _ = upd (Y 12) _ _; rw [h.2.tgs]), (by show X 23 = upd (Y 13) _ _; rw [h13]; exact h.2.hadx), (fun w hw => ?_), h.2.tl, h.2.tb, h.2.sng, h.2.tll, h.2.cry, h.2.hr, h.2.pr, h.2.drx, h.2.tf, h.2.rf, (fun k hk q => by (repeat refine Eq.trans (congrFun (zs_ne (by omega)) _) ?_); exact h.2.shN k hk q), (fun k hk q => ⟨by (repeat refine Eq.trans (congrFun (zs_ne (by omega)) _) ?_); exact (h.2.shS k hk q).1, by (repeat refine Eq.trans (congrFun (zs_ne (by omega)) _) ?_); exact (h.2.shS k hk q).2.1, fun i hi => by (repeat refine Eq.trans (congrFun (zs_ne (by omega)) _) ?_); exact (h.2.shS k hk q).2.2 i hi⟩)⟩⟩
    · show bt (upd (Y 13) (nN Y) 0 w) k = false
      rw [h13]
      rw [eN] at hw
      by_cases e : w = nN Y
      · rw [h.1.had0 w (by omega), b_0]
      · exact h.1.had w k (by omega) hk
    · show upd (Y 13) (nN Y) 0 w = 0
      rw [h13]
      rw [eN] at hw
      exact h.1.had0 w (by omega)
    · show upd (Y 14) (nN Y) 0 w = 0 ∨ upd (Y 14) (nN Y) 0 w = 1
      rw [eN] at hw
      by_cases e : w = nN Y
      · subst e; rw [pk_us]; exact Or.inl rfl
      · rw [pk_un e]; exact h.1.dead w (by omega)
    · show upd (X 21) (nN Y) (nI d - X 1 3) w = upd (Y 10) (nN Y) (nI d) w - upd (Y 11) (nN Y) (Y 0 17) w
      rw [eN] at hw
      by_cases e : w = nN Y
      · subst e; rw [pk_us, pk_us, pk_us, h.2.yr]
      · rw [pk_un e, pk_un e, pk_un e]; exact h.2.ag w (by omega)
    · show upd (X 24) (nN Y) 1 w = b2i (upd (Y 14) (nN Y) 0 w == 0)
      rw [eN] at hw
      by_cases e : w = nN Y
      · subst e; rw [pk_us, pk_us]; rfl
      · rw [pk_un e, pk_un e]; exact h.2.lv w (by omega)
theorem hz_byLiv (Y : zX) (v : Nat) : decide (headsY Y v = 0) = !bt (byLiv Y) v := by
  have bb : bt (byLiv Y) v = anyB (headP Y v) (nN Y) := by
    unfold byLiv
    rw [bt_orx]; rfl
  rw [bb]
  by_cases z : headsY Y v = 0
  · have z2 := fb_ct_zero.mp z
    rw [decide_eq_true z]
    cases e : anyB (headP Y v) (nN Y) with
    | false => rfl
    | true => obtain ⟨w, hw, c⟩ := anyB_iff.mp e; rw [z2 w hw] at c; cases c
  · have z2 := fb_ct_pos.mp (Nat.pos_of_ne_zero z)
    rw [decide_eq_false z, anyB_iff.mpr z2]; rfl
theorem ag_dies (h : Rel X Y) (a : Int32) : zAg mX9_dies mX10_dies 1 2 [.int a] X Y := by
  have hn2 := h.1.n2; have hv2 := h.1.v2
  rcases inR_cases a (b := nN Y) (by omega) with h1 | ⟨w, hw, rfl⟩
  · exact zAg_b h (-1) (fun P q => eX9_dies P X _ ⟨_, oN_o h h1, fun e => absurd e (by decide), fun _ => q⟩) (fun P q => eX10_dies P Y _ ⟨_, yN_o h.1 h1, fun e => absurd rfl e, fun _ => q⟩)
  have xx : ∀ P : Int32 → zX → Prop, _ → zPi SX 1 mX9_dies [.ref 0, .int (nI w)] X P := fun P q => eX9_dies P X _ ⟨_, oN_i h hw, fun _ => ⟨w, rfl, by omega, q⟩, fun e => absurd rfl e⟩
  have yy : ∀ P : Int32 → zX → Prop, _ → zPi SY 2 mX10_dies [.ref 0, .int (nI w)] Y P := fun P q => eX10_dies P Y _ ⟨_, yN_i h.1 hw, fun _ => ⟨w, rfl, by omega, q⟩, fun e => absurd e (by decide)⟩
  by_cases q : Y 14 w = 0
  · have lx : ¬ X 24 w = 0 := fun e => (liveZ h hw).mp e q
    have hr : Rel (zs X 24 w (vp_nar .boolean 0)) (zs Y 14 w (vp_nar .boolean 1)) := by
      refine ⟨⟨h.1.p, h.1.p2, h.1.v, h.1.v2, h.1.n, h.1.n2, h.1.height, h.1.water, h.1.song, h.1.at_, h.1.tongue, h.1.days, h.1.held, h.1.number, h.1.days1, h.1.kin, h.1.age, h.1.came, h.1.tongues, h.1.had, h.1.had0, (fun u hu => ?_), h.1.year, h.1.season, h.1.sing, h.1.tell, h.1.carry, h.1.dry, h.1.taped, h.1.tape, h.1.lanes, h.1.sizes⟩, ⟨h.2.size, h.2.yr, h.2.sn, h.2.hgt, h.2.wat, h.2.vs, h.2.sg, h.2.pl, h.2.tg, h.2.dy, h.2.hd, h.2.nb, (fun v hv => by have hs9 := (h.1.song v hv).2; show (_ : zX) (12 + n32 (Y 3 v)) (n32 (Y 8 v)) = nI v; (repeat refine Eq.trans (congrFun (zs_ne (by omega)) _) ?_); exact h.2.order v hv), h.2.length, h.2.ofSong, h.2.atPlace, h.2.ns, h.2.kn, h.2.ag, h.2.tgs, h.2.hadx, (fun u hu => ?_), h.2.tl, h.2.tb, h.2.sng, h.2.tll, h.2.cry, h.2.hr, h.2.pr, h.2.drx, h.2.tf, h.2.rf, (fun k hk q => by (repeat refine Eq.trans (congrFun (zs_ne (by omega)) _) ?_); exact h.2.shN k hk q), (fun k hk q => ⟨by (repeat refine Eq.trans (congrFun (zs_ne (by omega)) _) ?_); exact (h.2.shS k hk q).1, by (repeat refine Eq.trans (congrFun (zs_ne (by omega)) _) ?_); exact (h.2.shS k hk q).2.1, fun i hi => by (repeat refine Eq.trans (congrFun (zs_ne (by omega)) _) ?_); exact (h.2.shS k hk q).2.2 i hi⟩)⟩⟩
      · show upd (Y 14) w 1 u = 0 ∨ upd (Y 14) w 1 u = 1
        by_cases e : u = w
        · subst e; rw [pk_us]; exact Or.inr rfl
        · rw [pk_un e]; exact h.1.dead u hu
      · show upd (X 24) w 0 u = b2i (upd (Y 14) w 1 u == 0)
        by_cases e : u = w
        · subst e; rw [pk_us, pk_us]; rfl
        · rw [pk_un e, pk_un e]; exact h.2.lv u hu
    generalize hY2 : zs Y 14 w (vp_nar .boolean 1) = Y2 at hr
    have e13 : Y2 13 = Y 13 := by rw [← hY2]; rfl
    have eV : nV Y2 = nV Y := by rw [← hY2]; rfl
    have e03 : Y2 0 3 = nI (nV Y) := by rw [← eV]; exact hr.1.v
    let lp : Nat → Bool := fun v => bt (Y 13 w) v && decide (headsY Y2 v = 0)
    refine zAg_c (nI (fb_ct lp (nV Y))) (zs X 24 w (vp_nar .boolean 0)) Y2 (fun P z => xx P ⟨fun _ => ⟨w, rfl, by omega, w, rfl, by omega, _, cX_hadByLiving hr, _, cJ_bitCount _ _, ?_⟩, fun e => absurd e lx⟩) (fun P z => yy P ⟨fun _ => ⟨w, rfl, by omega, ?_⟩, fun e => absurd q e⟩) hr
    · have : fb_ct (bt (X 23 w &&& (byLiv Y2 ^^^ (-1)))) 32 = fb_ct lp (nV Y) := by
        have bits : ∀ j, j < 32 → bt (X 23 w &&& (byLiv Y2 ^^^ (-1))) j = lp j := fun j hj => by
          show _ = (bt (Y 13 w) j && decide (headsY Y2 j = 0))
          rw [b_and, bt_not _ hj, h.2.hadx, hz_byLiv]
        rw [ct_cut (n := nV Y) (by omega) (fun k hk h32 => by rw [bits k h32]; show (bt (Y 13 w) k && _) = false; rw [h.1.had w k hw hk]; rfl)]
        exact fb_ct_cong (fun j hj => bits j (by omega))
      rw [this]; exact z
    · rw [hY2]
      refine zdown0 (P := fun i => LX10_dies_33 P Y2 (nI w) (nI (fb_ct lp i)) (nI i)) (nV Y) ?_ ?_
      · exact bX10_dies_33 _ Y2 _ _ _ ⟨fun _ => z, fun hc => absurd (loE e03 (by omega)) hc⟩
      · intro i hi ih
        rw [← nI_1 i] at ih
        have hc := cY_hasIt Y2 (w := w) (v := i) (by omega) (by omega)
        rw [e13] at hc
        refine bX10_dies_33 _ Y2 _ _ _ ⟨fun hc => absurd hc (loB e03 hi (by omega)), fun _ => ⟨_, hc, fun e => ?_, fun e => ⟨_, cY_headsOf Y2 hr.1 (by omega), fun e2 => ?_, fun e2 => ?_⟩⟩⟩
        · rw [ct_f (p := lp) (i := i) (by show (_ && _) = false; rw [b2i_0.mp e]; rfl)]; exact ih
        · have z0 : ¬ headsY Y2 i = 0 := fun z => e2 (by rw [z]; rfl)
          rw [ct_f (p := lp) (i := i) (by show (_ && _) = false; rw [decide_eq_false z0, Bool.and_false])]; exact ih
        · have z0 : headsY Y2 i = 0 := by
            have := headsY_le hr.1 i
            exact (nI_eq (b := 0) (by omega) (by omega)).mp e2
          rw [ct_t (p := lp) (i := i) (by show (_ && _) = true; rw [b2i_n.mp e, decide_eq_true z0]; rfl)]; exact ih
  · have lx : X 24 w = 0 := (liveZ h hw).mpr q
    exact zAg_b h (-2) (fun P c => xx P ⟨fun e => absurd lx e, fun _ => c⟩) (fun P c => yy P ⟨fun e => absurd e q, fun _ => c⟩)
theorem ag_end (h : Rel X Y) (a : Int32) : zAg mX9_end mX10_end 1 1 [.int a] X Y := by
  have ht := h.1.taped
  have tt := isN_toInt ht (by decide)
  have lx : X 25 1 = Y 0 33 := h.2.tl
  have d0 : a < 0 ↔ a.toInt < 0 := fa_lt a 0
  have d1 : a ≤ X 25 1 ↔ a.toInt ≤ n32 (Y 0 33) := by rw [lx, fa_le, tt]
  have xx : ∀ P : Int32 → zX → Prop, _ → zPi SX 1 mX9_end [.ref 0, .int a] X P := fun P q => eX9_end P X _ ⟨P, eX7_shorten P X a (by rw [d0, d1]; exact q), fun _ _ z => z⟩
  by_cases q : 0 ≤ a.toInt ∧ a.toInt ≤ n32 (Y 0 33)
  · have hb := ht.2
    obtain ⟨k, hk⟩ : ∃ k : Nat, a.toInt = (k : Int) := ⟨a.toInt.toNat, by omega⟩
    obtain rfl := nI_toIntL hk
    refine zAg_c (Y 0 33) (zs X 25 1 (nI k)) (zs Y 0 33 (nI k)) (fun P z => xx P ⟨fun e => absurd e (by omega), fun _ => ⟨fun _ => by rw [lx]; exact z, fun e => absurd q.2 e⟩⟩) (fun P z => eX10_end P Y _ ⟨_, yI_i Y (l := 0) (r := n32 (Y 0 33)) (by decide) (by rw [Int32.toInt_toInt64]; exact tt) q, fun _ => z, fun e => absurd e (by decide)⟩) ?_
    have ek : n32 (nI k) = k := n32_nI (by omega)
    refine ⟨⟨h.1.p, h.1.p2, h.1.v, h.1.v2, h.1.n, h.1.n2, h.1.height, h.1.water, h.1.song, h.1.at_, h.1.tongue, h.1.days, h.1.held, h.1.number, h.1.days1, h.1.kin, h.1.age, h.1.came, h.1.tongues, h.1.had, h.1.had0, h.1.dead, h.1.year, h.1.season, h.1.sing, h.1.tell, h.1.carry, h.1.dry, isN_nI (by omega) (by decide), (fun i hi => h.1.tape i ?_), h.1.lanes, h.1.sizes⟩, ⟨h.2.size, h.2.yr, h.2.sn, h.2.hgt, h.2.wat, h.2.vs, h.2.sg, h.2.pl, h.2.tg, h.2.dy, h.2.hd, h.2.nb, (fun v hv => by have hs9 := (h.1.song v hv).2; show (_ : zX) (12 + n32 (Y 3 v)) (n32 (Y 8 v)) = nI v; (repeat refine Eq.trans (congrFun (zs_ne (by omega)) _) ?_); exact h.2.order v hv), h.2.length, h.2.ofSong, h.2.atPlace, h.2.ns, h.2.kn, h.2.ag, h.2.tgs, h.2.hadx, h.2.lv, rfl, (fun i hi => h.2.tb i ?_), h.2.sng, h.2.tll, h.2.cry, h.2.hr, h.2.pr, h.2.drx, h.2.tf, h.2.rf, (fun k hk q => by (repeat refine Eq.trans (congrFun (zs_ne (by omega)) _) ?_); exact h.2.shN k hk q), (fun k hk q => ⟨by (repeat refine Eq.trans (congrFun (zs_ne (by omega)) _) ?_); exact (h.2.shS k hk q).1, by (repeat refine Eq.trans (congrFun (zs_ne (by omega)) _) ?_); exact (h.2.shS k hk q).2.1, fun i hi => by (repeat refine Eq.trans (congrFun (zs_ne (by omega)) _) ?_); exact (h.2.shS k hk q).2.2 i hi⟩)⟩⟩
    · have : i < n32 (nI k) := hi
      omega
    · have : i < n32 (nI k) := hi
      omega
  · refine zAg_b h (-1) (fun P z => xx P ⟨fun _ => z, fun e => ⟨fun e2 => absurd ⟨by omega, e2⟩ q, fun _ => z⟩⟩) (fun P z => eX10_end P Y _ ⟨_, yI_o Y (l := 0) (r := n32 (Y 0 33)) (by decide) (by rw [Int32.toInt_toInt64]; exact tt) q, fun e => absurd rfl e, fun _ => z⟩)
end MV
