/-! rules: both agree -/
section AR
variable {X Y X2 Y2 : zX}
theorem IY_tr (h : IY Y) (ea : ∀ a, a ≠ 0 → a < 15 ∨ 21 < a → Y2 a = Y a) (es : ∀ k, k < 19 → Y2 0 k = Y 0 k) (h33 : Y2 0 33 = 0) (hs : isN (Y2 0 19) 100) (ht : isN (Y2 0 20) 100) (hc : isN (Y2 0 21) 21) (hd : ∀ p, p < 12 → Y2 16 p = -4 ∨ isN (Y2 16 p) 100) : IY Y2 := by
  have nPe : nP Y2 = nP Y := by unfold nP; rw [es 0 (by decide)]
  have nVe : nV Y2 = nV Y := by unfold nV; rw [es 3 (by decide)]
  have nNe : nN Y2 = nN Y := by unfold nN; rw [es 10 (by decide)]
  have e1 := ea 1 (by decide) (by omega); have e2 := ea 2 (by decide) (by omega); have e3 := ea 3 (by decide) (by omega); have e4 := ea 4 (by decide) (by omega); have e5 := ea 5 (by decide) (by omega); have e6 := ea 6 (by decide) (by omega); have e7 := ea 7 (by decide) (by omega); have e8 := ea 8 (by decide) (by omega); have e9 := ea 9 (by decide) (by omega); have e10 := ea 10 (by decide) (by omega); have e11 := ea 11 (by decide) (by omega); have e12 := ea 12 (by decide) (by omega); have e13 := ea 13 (by decide) (by omega); have e14 := ea 14 (by decide) (by omega); have e22 := ea 22 (by decide) (by omega); have e25 := ea 25 (by decide) (by omega); have e26 := ea 26 (by decide) (by omega)
  have s0 := es 0 (by decide); have s3 := es 3 (by decide); have s10 := es 10 (by decide); have s17 := es 17 (by decide); have s18 := es 18 (by decide)
  unfold IY
  rw [nPe, nVe, nNe, e1, e2, e3, e4, e5, e6, e7, e8, e9, e10, e11, e12, e13, e14, e22, e25, e26, s0, s3, s10, s17, s18, h33]
  exact ⟨h.p, h.p2, h.v, h.v2, h.n, h.n2, h.height, h.water, h.song, h.at_, h.tongue, h.days, h.held, h.number, h.days1, h.kin, h.age, h.came, h.tongues, h.had, h.had0, h.dead, h.year, h.season, hs, ht, hc, hd, isN_nI (k := 0) (by decide) (by decide), fun i hi => absurd hi (by rw [show n32 (0 : Int32) = 0 from rfl]; omega), h.lanes, h.sizes⟩
theorem RX_tr (hI : IY Y) (h : RX X Y) (xa : ∀ a, a ≠ 0 → a ≠ 25 → a ≠ 27 → a < 54 → X2 a = X a) (ea : ∀ a, a ≠ 0 → a < 15 ∨ 21 < a → Y2 a = Y a) (es : ∀ k, k < 19 → Y2 0 k = Y 0 k) (e45 : Y2 0 45 = Y 0 45) (x12 : X2 0 12 = X 0 12) (x25 : X2 25 1 = 0) (h33 : Y2 0 33 = 0) (g1 : X2 54 3 = Y2 0 19) (g2 : X2 54 4 = Y2 0 20) (g3 : X2 54 5 = Y2 0 21) (g4 : ∀ k, k < 8 → X2 55 k = Y2 15 k) (g5 : ∀ v, v < 24 → X2 56 v = Y2 17 v) (g6 : ∀ p, p < 12 → X2 57 p = Y2 16 p) (g7 : X2 0 11 = Y2 0 38) : RX X2 Y2 := by
  have nVe : nV Y2 = nV Y := by unfold nV; rw [es 3 (by decide)]
  have nNe : nN Y2 = nN Y := by unfold nN; rw [es 10 (by decide)]
  have e1 := ea 1 (by decide) (by omega); have e2 := ea 2 (by decide) (by omega); have e3 := ea 3 (by decide) (by omega); have e4 := ea 4 (by decide) (by omega); have e5 := ea 5 (by decide) (by omega); have e6 := ea 6 (by decide) (by omega); have e7 := ea 7 (by decide) (by omega); have e8 := ea 8 (by decide) (by omega); have e9 := ea 9 (by decide) (by omega); have e10 := ea 10 (by decide) (by omega); have e11 := ea 11 (by decide) (by omega); have e12 := ea 12 (by decide) (by omega); have e13 := ea 13 (by decide) (by omega); have e14 := ea 14 (by decide) (by omega); have e22 := ea 22 (by decide) (by omega); have e25 := ea 25 (by decide) (by omega); have e26 := ea 26 (by decide) (by omega); have e27 := ea 27 (by decide) (by omega)
  have s0 := es 0 (by decide); have s3 := es 3 (by decide); have s10 := es 10 (by decide); have s17 := es 17 (by decide); have s18 := es 18 (by decide)
  have xx : ∀ a, 0 < a → a < 25 → X2 a = X a := fun a h1 h2 => xa a (by omega) (by omega) (by omega) (by omega)
  unfold RX
  rw [nVe, nNe, e1, e2, e3, e4, e5, e6, e7, e8, e9, e10, e11, e12, e13, e14, e22, e25, e26, e27, s0, s3, s10, s17, s18, h33, e45, x12, x25, xx 1 (by omega) (by omega), xx 2 (by omega) (by omega), xx 3 (by omega) (by omega), xx 4 (by omega) (by omega), xx 5 (by omega) (by omega), xx 6 (by omega) (by omega), xx 7 (by omega) (by omega), xx 8 (by omega) (by omega), xx 9 (by omega) (by omega), xx 10 (by omega) (by omega), xx 16 (by omega) (by omega), xx 17 (by omega) (by omega), xx 18 (by omega) (by omega), xx 19 (by omega) (by omega), xx 20 (by omega) (by omega), xx 21 (by omega) (by omega), xx 22 (by omega) (by omega), xx 23 (by omega) (by omega), xx 24 (by omega) (by omega)]
  refine ⟨h.size, h.yr, h.sn, h.hgt, h.wat, h.vs, h.sg, h.pl, h.tg, h.dy, h.hd, h.nb, fun v hv => ?_, h.length, h.ofSong, h.atPlace, h.ns, h.kn, h.ag, h.tgs, h.hadx, h.lv, rfl, fun i hi => absurd hi (by rw [show n32 (0 : Int32) = 0 from rfl]; omega), g1, g2, g3, g4, g5, g6, g7, h.rf, fun k hk q => ?_, fun k hk q => ?_⟩
  · have := (hI.song v hv).2
    rw [xx _ (by omega) (by omega)]; exact h.order v hv
  · rw [xa _ (by omega) (by omega) (by omega) (by omega)]; exact h.shN k hk q
  · rw [xa (45 + 2 * k) (by omega) (by omega) (by omega) (by omega), xa (46 + 2 * k) (by omega) (by omega) (by omega) (by omega)]; exact h.shS k hk q
def zAc (m1 m2 : zM) (l1 l2 : Nat) (as : List Value) (X Y : zX) : Prop := ∃ (v : Int32) (QX QY : zX → Prop), zPc l1 m1 (.ref 0 :: as) X (fun w X' => w = v ∧ QX X') ∧ zPi SY l2 m2 (.ref 0 :: as) Y (fun w Y' => w = v ∧ QY Y') ∧ ∀ X' Y', QX X' → QY Y' → Rel X' Y'
theorem zAg.c {m1 m2 : zM} {l1 l2 : Nat} {as : List Value} (h : zAg m1 m2 l1 l2 as X Y) : zAc m1 m2 l1 l2 as X Y := by
  obtain ⟨v, QX, QY, h1, h2, h3⟩ := h
  exact ⟨v, QX, QY, zPc.of h1, h2, h3⟩
theorem ag_rules (h : Rel X Y) : zAc mX9_rules mX10_rules 10 7 [] X Y := by
  rcases both_text h with ⟨c, s, h1, h4, hs, hx, hy⟩ | ⟨D, n, hid, hx, hy⟩
  · refine ⟨(-10) - nI s, fun X' => ∃ M, KQ X M ∧ M 27 10 = nI c ∧ X' = zs (zs M 0 11 (M 27 10)) 25 1 0, fun Y' => ∃ N, FT Y N c s ∧ Y' = zs N 0 33 0, ?_, ?_, ?_⟩
    · refine c_rules (hx (fun v M => KQ X M ∧ M 27 10 = nI c ∧ M 27 11 = nI s) (fun v M a b d => ⟨a, b, d⟩)) (fun v M q _ => ⟨by rw [q.2.2], M, q.1, q.2.1, rfl⟩) (fun v M q e => ?_)
      rw [q.2.1, show (0 : Int32) = nI 0 from rfl, nI_eq (by omega) (by omega)] at e
      omega
    · exact hy _ (fun N f => ⟨rfl, N, f, rfl⟩)
    · rintro X' Y' ⟨M, kq, m10, rfl⟩ ⟨N, ⟨kz, n38, n39⟩, rfl⟩
      have ea : ∀ a, a ≠ 0 → a < 15 ∨ 21 < a → zs N 0 33 0 a = Y a := fun a h1 h2 => by rw [zs_ne h1]; exact kz.1 a h1 (by omega)
      have es : ∀ k, k < 19 → zs N 0 33 0 0 k = Y 0 k := fun k hk => by rw [zs_nk (by omega)]; exact kz.2 k (by omega)
      have e19 : zs N 0 33 0 0 19 = Y 0 19 := kz.2 19 (by omega)
      have e20 : zs N 0 33 0 0 20 = Y 0 20 := kz.2 20 (by omega)
      have e21 : zs N 0 33 0 0 21 = Y 0 21 := kz.2 21 (by omega)
      have a15 : zs N 0 33 0 15 = Y 15 := kz.1 15 (by decide) (by omega)
      have a16 : zs N 0 33 0 16 = Y 16 := kz.1 16 (by decide) (by omega)
      have a17 : zs N 0 33 0 17 = Y 17 := kz.1 17 (by decide) (by omega)
      have mx : ∀ a, a ≠ 27 → a < 58 → M a = X a := fun a h1 h2 => kq a h1 (by omega)
      refine ⟨IY_tr h.1 ea es rfl (by rw [e19]; exact h.1.sing) (by rw [e20]; exact h.1.tell) (by rw [e21]; exact h.1.carry) (by rw [a16]; exact h.1.dry), RX_tr h.1 h.2 (fun a h0 h25 h27 h54 => ?_) ea es (kz.2 45 (by omega)) ?_ rfl rfl ?_ ?_ ?_ ?_ ?_ ?_ ?_⟩
      · rw [zs_ne h25, zs_ne h0]; exact mx a h27 (by omega)
      · show M 0 12 = X 0 12; rw [mx 0 (by decide) (by decide)]
      · show M 54 3 = _; rw [mx 54 (by decide) (by decide), e19]; exact h.2.sng
      · show M 54 4 = _; rw [mx 54 (by decide) (by decide), e20]; exact h.2.tll
      · show M 54 5 = _; rw [mx 54 (by decide) (by decide), e21]; exact h.2.cry
      · show ∀ k, k < 8 → M 55 k = _; rw [mx 55 (by decide) (by decide), a15]; exact h.2.hr
      · show ∀ k, k < 24 → M 56 k = _; rw [mx 56 (by decide) (by decide), a17]; exact h.2.pr
      · show ∀ k, k < 12 → M 57 k = _; rw [mx 57 (by decide) (by decide), a16]; exact h.2.drx
      · show M 27 10 = N 0 38; rw [m10, n38]
  · refine ⟨nI n, fun X' => ∃ M, KQ X M ∧ PX M D ∧ M 27 10 = 0 ∧ X' = swX (zs (zs M 0 11 (M 27 10)) 25 1 0), fun N => KW Y N D, ?_, ?_, ?_⟩
    · refine c_rules (hx (fun v M => v = nI n ∧ KQ X M ∧ PX M D ∧ M 27 10 = 0) (fun M a b d => ⟨rfl, a, b, d⟩)) (fun v M q e => absurd q.2.2.2 e) (fun v M q _ => ⟨q.1, M, q.2.1, q.2.2.1, q.2.2.2, rfl⟩)
    · exact hy _ (fun N w => ⟨rfl, w⟩)
    · rintro X' N ⟨M, kq, ⟨d1, d2, d3, d4, d5, d6, d7⟩, m10, rfl⟩ ⟨w1, w2, w33, w38, w19, w20, w21, w15, w17, w16⟩
      obtain ⟨i1, i2, i3, i4⟩ := hid
      have ea : ∀ a, a ≠ 0 → a < 15 ∨ 21 < a → N a = Y a := w1
      have es : ∀ k, k < 19 → N 0 k = Y 0 k := fun k hk => w2 k (by omega)
      have mx : ∀ a, a ≠ 27 → a < 58 → M a = X a := fun a h1 h2 => kq a h1 (by omega)
      refine ⟨IY_tr h.1 ea es w33 (by rw [w19]; exact i1) (by rw [w20]; exact i2) (by rw [w21]; exact i3) (fun p hp => by rw [w16 p hp]; exact i4 p hp), RX_tr h.1 h.2 (fun a h0 h25 h27 h54 => ?_) ea es (w2 45 (by omega)) ?_ rfl w33 ?_ ?_ ?_ ?_ ?_ ?_ ?_⟩
      · show (zs (zs M 0 11 (M 27 10)) 25 1 0) (swN a) = X a
        rw [swN_lo h54, zs_ne h25, zs_ne h0]; exact mx a h27 (by omega)
      · show M 0 12 = X 0 12; rw [mx 0 (by decide) (by decide)]
      · show M 58 3 = _; rw [d1, w19]
      · show M 58 4 = _; rw [d2, w20]
      · show M 58 5 = _; rw [d3, w21]
      · show ∀ k, k < 8 → M 59 k = _; rw [d4]; exact fun k hk => (w15 k hk).symm
      · show ∀ k, k < 24 → M 60 k = _; rw [d5]; exact fun k hk => (w17 k hk).symm
      · show ∀ k, k < 12 → M 61 k = _; rw [d6]; exact fun k hk => (w16 k hk).symm
      · show M 27 10 = N 0 38; rw [m10, w38]
end AR
