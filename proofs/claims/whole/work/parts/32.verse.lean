section MW
variable {X Y : zX}
theorem ct_upd {f : Nat → Int32} {v : Nat} {x y : Int32} : ∀ {n : Nat}, n ≤ v → fb_ct (fun q => upd f v x q == y) n = fb_ct (fun q => f q == y) n := fun {n} hn => fb_ct_cong (fun k hk => by show (upd f v x k == y) = _; rw [pk_un (by omega)])
theorem ct_updS {f : Nat → Int32} {v : Nat} {x y : Int32} : fb_ct (fun q => upd f v x q == y) (v + 1) = fb_ct (fun q => f q == y) v + (if x == y then 1 else 0) := by
  rw [fb_ct_succ, ct_upd (Nat.le_refl _), pk_us]
theorem bs_updS {f : Nat → Int32} {v : Nat} {x y : Int32} : bs (fun q => upd f v x q == y) (v + 1) = bs (fun q => f q == y) v ||| (if x == y then zshl 1 (nI v) else 0) := by
  rw [bs_succ, bs_congr (q := fun q => f q == y) (fun k hk => by show (upd f v x k == y) = _; rw [pk_un (by omega)]), pk_us]
theorem isN_cases {P : Nat → Prop} {v : Nat} (h1 : ∀ u, u < v → P u) (h2 : P v) : ∀ u, u < v + 1 → P u := fun u hu => by
  by_cases e : u = v
  · subst e; exact h2
  · exact h1 u (by omega)
/-- the memories behind a verse -/
abbrev vX (X : zX) (v s p n : Nat) (t d k : Int32) : zX := zs (zs (zs (zs (zs (zs (zs (zs (zs (zs (zs X 5 v (nI s)) 6 v (nI p)) 7 v t) 8 v d) 9 v k) 10 v (nI n)) (12 + s) n (nI v)) 16 s (nI n + 1)) 17 s (X 17 s ||| zshl 1 (nI v))) 18 p (X 18 p ||| zshl 1 (nI v))) 4 10 (nI v + 1)
abbrev vY (Y : zX) (v s p n : Nat) (t d k : Int32) : zX := zs (zs (zs (zs (zs (zs (zs Y 3 v (nI s)) 4 v (nI p)) 5 v t) 6 v d) 7 v k) 8 v (nI n)) 0 3 (nI v + 1)
theorem rel_verse (h : Rel X Y) {s p t : Nat} {d k : Int32} (hs : s < 4) (hp : p < nP Y) (ht : t < 9) (h24 : nV Y < 24) (hd : isN d 10) (hd1 : 0 < lenY Y (nI s) → 0 < n32 d) (hk : k = -4 ∨ isN k 8) : Rel (vX X (nV Y) s p (lenY Y (nI s)) (nI t) d k) (vY Y (nV Y) s p (lenY Y (nI s)) (nI t) d k) := by
  have hv := h.1.v; have hp2 := h.1.p2; have hl := fb_ct_le (fun v => Y 3 v == nI s) (nV Y)
  have hl : lenY Y (nI s) ≤ nV Y := hl
  have eV : nV (vY Y (nV Y) s p (lenY Y (nI s)) (nI t) d k) = nV Y + 1 := by show n32 (nI (nV Y) + 1) = _; exact n32_s rfl (by omega)
  generalize hvv : nV Y = v at *
  have lenE : lenY Y (nI s) = fb_ct (fun u => Y 3 u == nI s) v := by unfold lenY; rw [hvv]
  generalize hn : lenY Y (nI s) = n at *
  have hsong : ∀ u, u < v → isN (Y 3 u) 4 := fun u hu => h.1.song u (by omega)
  have hnum : ∀ u, u < v → Y 8 u = nI (fb_ct (fun q => Y 3 q == Y 3 u) u) := fun u hu => h.1.number u (by omega)
  have un : ∀ {f : Nat → Int32} {x : Int32} {u : Nat}, u < v → upd f v x u = f u := fun hu => pk_un (by omega)
  have ne : ∀ {a b : Nat}, a < 100 → b < 100 → a ≠ b → (nI a == nI b) = false := fun ha hb hab => beqF (fun e => hab (nI_inj (by omega) (by omega) e))
  have hheld : ∀ u, u < v + 1 → upd (Y 7) v k u = -4 ∨ isN (upd (Y 7) v k u) 8 := by
    refine isN_cases (fun u hu => ?_) ?_
    · rw [un hu]; exact h.1.held u (by omega)
    · rw [pk_us]; exact hk
  have hnumE : ∀ u, u < v + 1 → upd (Y 8) v (nI n) u = nI (fb_ct (fun q => upd (Y 3) v (nI s) q == upd (Y 3) v (nI s) u) u) := by
    refine isN_cases (fun u hu => ?_) ?_
    · rw [un hu, un hu, ct_upd (by omega)]; exact hnum u hu
    · rw [pk_us, pk_us, ct_upd (Nat.le_refl _), lenE]
  have hdayE : ∀ u, u < v + 1 → 0 < fb_ct (fun q => upd (Y 3) v (nI s) q == upd (Y 3) v (nI s) u) u → 0 < n32 (upd (Y 6) v d u) := by
    refine isN_cases (fun u hu => ?_) ?_
    · rw [un hu, un hu, ct_upd (by omega)]; exact h.1.days1 u (by omega)
    · rw [pk_us, pk_us, ct_upd (Nat.le_refl _), ← lenE]; exact hd1
  have pIn : isN (nI p) (nP Y) := isN_nI hp (by omega)
  have hatE : ∀ u, u < v + 1 → isN (upd (Y 4) v (nI p) u) (nP Y) := isN_cases (fun u hu => isN_up pIn (fun _ => h.1.at_ u (by omega))) (isN_up pIn (fun e => absurd rfl e))
  have hsE : ∀ u, u < v + 1 → isN (upd (Y 3) v (nI s) u) 4 := isN_cases (fun u hu => isN_up (isN_nI hs (by decide)) (fun _ => hsong u hu)) (isN_up (isN_nI hs (by decide)) (fun e => absurd rfl e))
  have htE : ∀ u, u < v + 1 → isN (upd (Y 5) v (nI t) u) 9 := isN_cases (fun u hu => isN_up (isN_nI ht (by decide)) (fun _ => h.1.tongue u (by omega))) (isN_up (isN_nI ht (by decide)) (fun e => absurd rfl e))
  have hdE : ∀ u, u < v + 1 → isN (upd (Y 6) v d u) 10 := isN_cases (fun u hu => isN_up hd (fun _ => h.1.days u (by omega))) (isN_up hd (fun e => absurd rfl e))
  have hiy : IY (vY Y v s p n (nI t) d k) := ⟨h.1.p, h.1.p2, (by rw [eV]; exact nI_1 v), (by rw [eV]; omega), h.1.n, h.1.n2, h.1.height, h.1.water, (by rw [eV]; exact hsE), (by rw [eV]; exact hatE), (by rw [eV]; exact htE), (by rw [eV]; exact hdE), (by rw [eV]; exact hheld), (by rw [eV]; exact hnumE), (by rw [eV]; exact hdayE), h.1.kin, h.1.age, h.1.came, h.1.tongues, (fun w j hw hj => h.1.had w j hw (by rw [eV] at hj; omega)), h.1.had0, h.1.dead, h.1.year, h.1.season, h.1.sing, h.1.tell, h.1.carry, h.1.dry, h.1.taped, h.1.tape, h.1.lanes, h.1.sizes⟩
  refine ⟨hiy, ?_⟩
  have x16 : ∀ r, r < 4 → upd (X 16) s (nI n + 1) r = nI (fb_ct (fun q => upd (Y 3) v (nI s) q == nI r) (v + 1)) := fun r hr => by
    rw [ct_updS]
    by_cases e : r = s
    · subst e; rw [pk_us, nI_1, lenE, beqT rfl]; rfl
    · rw [pk_un e, h.2.length r hr, hvv, ne (by omega) (by omega) (fun q => e q.symm)]; rfl
  have x17 : ∀ r, r < 4 → upd (X 17) s (X 17 s ||| zshl 1 (nI v)) r = bs (fun q => upd (Y 3) v (nI s) q == nI r) (v + 1) := fun r hr => by
    rw [bs_updS]
    by_cases e : r = s
    · subst e; rw [pk_us, h.2.ofSong r hr, hvv, beqT rfl]; rfl
    · rw [pk_un e, h.2.ofSong r hr, hvv, ne (by omega) (by omega) (fun q => e q.symm)]; exact (or0 _).symm
  have x18 : ∀ r, r < 12 → upd (X 18) p (X 18 p ||| zshl 1 (nI v)) r = bs (fun q => upd (Y 4) v (nI p) q == nI r) (v + 1) := fun r hr => by
    rw [bs_updS]
    by_cases e : r = p
    · subst e; rw [pk_us, h.2.atPlace r hr, hvv, beqT rfl]; rfl
    · rw [pk_un e, h.2.atPlace r hr, hvv, ne (by omega) (by omega) (fun q => e q.symm)]; exact (or0 _).symm
  have ord : ∀ u, u < v + 1 → (if n32 (upd (Y 3) v (nI s) u) = s then upd (X (12 + s)) n (nI v) (n32 (upd (Y 8) v (nI n) u)) else X (12 + n32 (upd (Y 3) v (nI s) u)) (n32 (upd (Y 8) v (nI n) u))) = nI u := by
    refine isN_cases (fun u hu => ?_) ?_
    · rw [un hu, un hu]
      have o := h.2.order u (by omega)
      by_cases e : n32 (Y 3 u) = s
      · rw [if_pos e]
        have hsu := hsong u hu
        have e3 : Y 3 u = nI s := by rw [hsu.1, e]
        have hlt : n32 (Y 8 u) < n := by
          have := (numY h.1 (v := u) (by omega)).2.2
          rw [e3, hn] at this; exact this
        rw [pk_un (by omega), ← e]; exact o
      · rw [if_neg e]; exact o
    · rw [pk_us, pk_us, n32_nI (by omega), n32_nI (by omega), if_pos rfl, pk_us]
  have fin : ∀ (s' : Nat), s' = s → RX (vX X v s' p n (nI t) d k) (vY Y v s p n (nI t) d k) := by
    intro s' es
    have hs' : s' < 4 := by omega
    obtain rfl | rfl | rfl | rfl : s' = 0 ∨ s' = 1 ∨ s' = 2 ∨ s' = 3 := by omega
    all_goals
      subst es
      refine ⟨h.2.size, h.2.yr, h.2.sn, h.2.hgt, h.2.wat, rfl, (by show upd (X 5) _ _ = upd (Y 3) _ _; rw [h.2.sg]), (by show upd (X 6) _ _ = upd (Y 4) _ _; rw [h.2.pl]), (by show upd (X 7) _ _ = upd (Y 5) _ _; rw [h.2.tg]), (by show upd (X 8) _ _ = upd (Y 6) _ _; rw [h.2.dy]), (by show upd (X 9) _ _ = upd (Y 7) _ _; rw [h.2.hd]), (by show upd (X 10) _ _ = upd (Y 8) _ _; rw [h.2.nb]), (fun u hu => ?_), (fun r hr => by rw [eV]; exact x16 r hr), (fun r hr => by rw [eV]; exact x17 r hr), (fun r hr => by rw [eV]; exact x18 r hr), h.2.ns, h.2.kn, h.2.ag, h.2.tgs, h.2.hadx, h.2.lv, h.2.tl, h.2.tb, h.2.sng, h.2.tll, h.2.cry, h.2.hr, h.2.pr, h.2.drx, h.2.tf, h.2.rf, (fun k hk q => by (repeat refine Eq.trans (congrFun (zs_ne (by omega)) _) ?_); exact h.2.shN k hk q), (fun k hk q => ⟨by (repeat refine Eq.trans (congrFun (zs_ne (by omega)) _) ?_); exact (h.2.shS k hk q).1, by (repeat refine Eq.trans (congrFun (zs_ne (by omega)) _) ?_); exact (h.2.shS k hk q).2.1, fun i hi => by (repeat refine Eq.trans (congrFun (zs_ne (by omega)) _) ?_); exact (h.2.shS k hk q).2.2 i hi⟩)⟩
      rw [eV] at hu
      have hr4 := (hsE u hu).2
      have ou := ord u hu
      show (_ : zX) (12 + n32 (upd (Y 3) v _ u)) (n32 (upd (Y 8) v (nI n) u)) = nI u
      generalize n32 (upd (Y 3) v _ u) = r at hr4 ou ⊢
      generalize n32 (upd (Y 8) v (nI n) u) = m at ou ⊢
      obtain rfl | rfl | rfl | rfl : r = 0 ∨ r = 1 ∨ r = 2 ∨ r = 3 := by omega
      all_goals first | exact ou
  exact fin s rfl
end MW
