section YV
variable {X Y M N D : zX}
theorem y_pair {P : zX → Prop} (h : IY Y) {s s2 : Nat} (st : ST Y N D s) (hs : s ≤ LY Y) (e2 : s2 = tS Y (kE Y s))
    (z1 : nF Y 0 23 s ≠ 0 → ∀ N2, FT Y N2 (nF Y 0 23 s) s → P N2) (z2 : nF Y 0 23 s = 0 → nF Y 0 23 s2 ≠ 0 → ∀ N2, FT Y N2 (nF Y 0 23 s2) s2 → P N2)
    (z3 : nF Y 0 23 s = 0 → nF Y 0 23 s2 = 0 → kV Y s2 = kV Y s → ∀ N2, FT Y N2 3 s2 → P N2)
    (z4 : nF Y 0 23 s = 0 → nF Y 0 23 s2 = 0 → kV Y s2 ≠ kV Y s → bt (D 2 (kV Y s)) (kV Y s2) = true → ∀ N2, FT Y N2 4 s2 → P N2)
    (z5 : nF Y 0 23 s = 0 → nF Y 0 23 s2 = 0 → kV Y s2 ≠ kV Y s → bt (D 2 (kV Y s)) (kV Y s2) = false → ∀ N2, ST Y N2 (prD D (kV Y s) (kV Y s2)) (tS Y (kE Y s2)) → P N2) : zPw SY 5 mX10_readPair [.ref 0] N P := by
  have nl := nF_le Y 0 23 s
  have nl2 := nF_le Y 0 23 s2
  have hs2 : s2 ≤ LY Y := by rw [e2]; exact (tS_le Y (kE_le hs).2.1).2
  refine eX10_readPair P N ⟨fun v M2 => (nF Y 0 23 s ≠ 0 ∧ FT Y M2 (nF Y 0 23 s) s) ∨ (nF Y 0 23 s = 0 ∧ v = nI (kV Y s) ∧ ST Y M2 D s2), y_readNum (lo := 0) (hi := 23) h st hs (by decide) (by decide) (fun e v N2 f => Or.inl ⟨e, f⟩) (fun e N2 s2 => Or.inr ⟨e, rfl, by rw [e2]; exact s2⟩), fun v M2 q => ?_⟩
  rcases q with ⟨e, f⟩ | ⟨e, rfl, st2⟩
  · exact ⟨fun M => M = M2, y_isNumF f (by omega) (by omega) _ _ rfl, fun M4 e4 => by subst e4; exact ⟨fun _ => y_nextF f (by omega) (by omega) (z1 e _ f), fun c => absurd c (ft_ne f (by omega) (by omega))⟩⟩
  refine ⟨fun M4 => (nF Y 0 23 s2 ≠ 0 ∧ FT Y M4 (nF Y 0 23 s2) s2) ∨ (nF Y 0 23 s2 = 0 ∧ M4 = M2), y_isNum (lo := 0) (hi := 23) h st2 (by decide) (by decide) (fun e N2 f => Or.inl ⟨e, f⟩) (fun e => Or.inr ⟨e, rfl⟩), fun M4 q => ?_⟩
  rcases q with ⟨e4, f⟩ | ⟨e4, rfl⟩
  · exact ⟨fun _ => y_nextF f (by omega) (by omega) (z2 e e4 _ f), fun c => absurd c (ft_ne f (by omega) (by omega))⟩
  have hv := nF_0 e
  have hv2 := nF_0 e4
  obtain ⟨e35, e38, e36, e34, e37⟩ := st2.tok (by omega)
  obtain ⟨k, dd, -⟩ := st2
  obtain ⟨d1, d2, d3, d4, d5, d6, d7⟩ := dd (by omega)
  have e37 := e37 (Or.inr hv2.1)
  have eb : (zshr (M4 20 (kV Y s)) (M4 0 37) &&& 1 = 0) ↔ bt (D 2 (kV Y s)) (kV Y s2) = false := by rw [d5 _ (by omega), e37]; exact zshl9n _ (by omega)
  have eq : M4 0 37 = nI (kV Y s) ↔ kV Y s2 = kV Y s := by rw [e37]; exact nI_eq (by omega) (by omega)
  refine ⟨fun c => absurd e38 c, fun _ => ⟨fun c => ?_, fun c => ?_⟩⟩
  · exact y_w0 (c := 3) k e35 e38 (fun N2 f => ⟨fun _ => y_nextF f (by decide) (by decide) (z3 e e4 (eq.mp c) _ f), fun c => absurd c (ft_ne f (by decide) (by decide))⟩)
  · have ne : kV Y s2 ≠ kV Y s := fun q => c (eq.mpr q)
    refine y_w1 ⟨fun c => absurd e38 c, fun _ => ⟨kV Y s, rfl, by omega, fun c => ?_, fun c => ?_⟩⟩
    · have b : bt (D 2 (kV Y s)) (kV Y s2) = true := by
        cases q : bt (D 2 (kV Y s)) (kV Y s2) with
        | true => rfl
        | false => exact absurd (eb.mpr q) c
      refine ⟨fun N2 => FT Y N2 4 s2 ∧ N2 0 37 = nI (kV Y s2), nar_wants0 e38 ⟨⟨(k.z0 (by omega)).z0 (by omega), rfl, e35⟩, e37⟩, fun N2 f => ⟨kV Y s, rfl, by omega, kV Y s, rfl, by omega, kV Y s2, f.2, by omega, kV Y s2, f.2, by omega, ?_⟩⟩
      have f2 : FT Y (zs (zs N2 20 (kV Y s) (N2 20 (kV Y s) ||| zshl 1 (N2 0 37))) 20 (kV Y s2) ((zs N2 20 (kV Y s) (N2 20 (kV Y s) ||| zshl 1 (N2 0 37))) 20 (kV Y s2) ||| zshl 1 (nI (kV Y s)))) 4 s2 := ⟨(f.1.1.za (by omega) (by omega)).za (by omega) (by omega), f.1.2⟩
      exact y_nextF f2 (by decide) (by decide) (z4 e e4 ne b _ f2)
    · refine y_w1 ⟨kV Y s, rfl, by omega, kV Y s, rfl, by omega, kV Y s2, e37, by omega, kV Y s2, e37, by omega, ?_⟩
      refine y_next (D := prD D (kV Y s) (kV Y s2)) h (kE_le hs2).2.1 ((k.za (by omega) (by omega)).za (by omega) (by omega)) ⟨d1, d2, d3, d4, fun j hj => ?_, d6, d7⟩ e34 e38 (fun N2 q => z5 e e4 ne (eb.mp c) N2 q)
      show upd (upd (M4 20) (kV Y s) (M4 20 (kV Y s) ||| zshl 1 (M4 0 37))) (kV Y s2) (upd (M4 20) (kV Y s) (M4 20 (kV Y s) ||| zshl 1 (M4 0 37)) (kV Y s2) ||| zshl 1 (nI (kV Y s))) j = upd (upd (D 2) (kV Y s) (D 2 (kV Y s) ||| zshl 1 (nI (kV Y s2)))) (kV Y s2) (upd (D 2) (kV Y s) (D 2 (kV Y s) ||| zshl 1 (nI (kV Y s2))) (kV Y s2) ||| zshl 1 (nI (kV Y s))) j
      have in1 : ∀ t, t < 24 → upd (M4 20) (kV Y s) (M4 20 (kV Y s) ||| zshl 1 (M4 0 37)) t = upd (D 2) (kV Y s) (D 2 (kV Y s) ||| zshl 1 (nI (kV Y s2))) t := fun t ht => by
        rw [d5 _ (by omega), e37]
        by_cases q : t = kV Y s
        · rw [q, pk_us, pk_us]
        · rw [pk_un q, pk_un q]; exact d5 t ht
      by_cases q : j = kV Y s2
      · rw [q, pk_us, pk_us, in1 _ (by omega)]
      · rw [pk_un q, pk_un q]; exact in1 j hj
theorem y_pairF {P : zX → Prop} {c s : Nat} (f : FT Y N c s) (hc : 1 ≤ c) (hc4 : c ≤ 4) (z : P N) : zPw SY 5 mX10_readPair [.ref 0] N P :=
  eX10_readPair P N ⟨fun _ M => M = N, y_readNumF f hc hc4 _ _ (fun _ => rfl), fun v M2 e => by
    subst e
    exact ⟨fun M => M = M2, y_isNumF f hc hc4 _ _ rfl, fun M4 e4 => by subst e4; exact ⟨fun _ => y_nextF f hc hc4 z, fun c => absurd c (ft_ne f hc hc4)⟩⟩⟩
theorem y_tailF {P : zX → Prop} {c s : Nat} (f : FT Y N c s) (hc : 1 ≤ c) (hc4 : c ≤ 4) (z : P N) : LX10_readLine_157 P N := bX10_readLine_157 P N ⟨fun _ => y_nextF f hc hc4 z, fun e => absurd e (ft_ne f hc hc4)⟩
theorem y_tail {P : zX → Prop} (h : IY Y) {s : Nat} (st : ST Y N D s) (hs : s ≤ LY Y) (z1 : sF Y s ≠ 0 → ∀ N2, FT Y N2 (sF Y s) s → P N2) (z2 : sF Y s = 0 → ∀ N2, ST Y N2 D (tS Y (kE Y s)) → P N2) : LX10_readLine_157 P N := by
  obtain ⟨k, d, e35, t⟩ := id st
  have kz := kz9 Y s
  rcases t with ⟨k9, e38, e36, e34, e37⟩ | ⟨k9, e38, e39⟩
  · have three : N 0 36 = 3 ↔ kK Y s = 3 := by rw [e36]; exact nI_eq (b := 3) (by omega) (by omega)
    refine bX10_readLine_157 P N ⟨fun e => absurd e38 e, fun _ => ⟨fun c => ?_, fun c => ?_⟩⟩
    · have : sF Y s = 2 := by unfold sF; rw [if_neg k9, if_neg (fun q => c (three.mpr q))]
      rw [this] at z1
      exact y_w0 (c := 2) k e35 e38 (fun N2 f => y_nextF f (by decide) (by decide) (z1 (by decide) N2 f))
    · have : sF Y s = 0 := by unfold sF; rw [if_neg k9, if_pos (three.mp c)]
      exact y_w1 (y_next h (kE_le hs).2.1 k (d k9) e34 e38 (fun N2 q => z2 this N2 q))
  · have : sF Y s = 1 := by unfold sF; rw [if_pos k9]
    rw [this] at z1
    have f : FT Y N 1 s := ⟨k, e38, e39⟩
    exact y_tailF f (by decide) (by decide) (z1 (by decide) N f)
def ySW (P : zX → Prop) (M13 : zX) (x1 : Int32) : Prop := (((¬ x1 = 0) → (((¬ x1 = 1) → (((¬ x1 = 2) → (((¬ x1 = 3) → (((¬ x1 = 4) → (∃ Qr19 : zX → Prop, zPw SY 5 mX10_readPair [.ref 0] M13 Qr19 ∧ ∀ M20 : zX, Qr19 M20 → (LX10_readLine_157 P M20))) ∧ ((x1 = 4) → (∃ Qr21 : zX → Prop, zPw SY 5 mX10_readDry [.ref 0] M13 Qr21 ∧ ∀ M22 : zX, Qr21 M22 → (LX10_readLine_157 P M22))))) ∧ ((x1 = 3) → (∃ Qr23 : Int32 → zX → Prop, zPi SY 4 mX10_readNumber [.ref 0, .int 1, .int 20] M13 Qr23 ∧ ∀ (r23 : Int32) (M24 : zX), Qr23 r23 M24 → (LX10_readLine_157 P (zs M24 0 27 r23)))))) ∧ ((x1 = 2) → (∃ Qr25 : Int32 → zX → Prop, zPi SY 4 mX10_readNumber [.ref 0, .int 0, .int 99] M13 Qr25 ∧ ∀ (r25 : Int32) (M26 : zX), Qr25 r25 M26 → (LX10_readLine_157 P (zs M26 0 26 r25)))))) ∧ ((x1 = 1) → (∃ Qr27 : Int32 → zX → Prop, zPi SY 4 mX10_readNumber [.ref 0, .int 0, .int 99] M13 Qr27 ∧ ∀ (r27 : Int32) (M28 : zX), Qr27 r27 M28 → (LX10_readLine_157 P (zs M28 0 25 r27)))))) ∧ ((x1 = 0) → (∃ Qr29 : zX → Prop, zPw SY 5 mX10_readHear [.ref 0] M13 Qr29 ∧ ∀ M30 : zX, Qr29 M30 → (LX10_readLine_157 P M30))))
theorem y_swF {P : zX → Prop} {c s : Nat} {x1 : Int32} (f : FT Y N c s) (hc : 1 ≤ c) (hc4 : c ≤ 4) (z : ∀ N2, FT Y N2 c s → P N2) : ySW P N x1 := by
  have t : ∀ N2, FT Y N2 c s → LX10_readLine_157 P N2 := fun N2 f2 => y_tailF f2 hc hc4 (z N2 f2)
  have tn : ∀ {a b : Int32} {k : Nat}, 25 ≤ k → k ≤ 27 → ∃ Qr : Int32 → zX → Prop, zPi SY 4 mX10_readNumber [.ref 0, .int a, .int b] N Qr ∧ ∀ (r : Int32) (M4 : zX), Qr r M4 → LX10_readLine_157 P (zs M4 0 k r) := fun h1 h2 => ⟨fun _ M => M = N, y_readNumF f hc hc4 _ _ (fun _ => rfl), fun r M4 e => by subst e; exact t _ ⟨f.1.z0 (by omega), by rw [zs_nk (by omega)]; exact f.2.1, by rw [zs_nk (by omega)]; exact f.2.2⟩⟩
  exact ⟨fun _ => ⟨fun _ => ⟨fun _ => ⟨fun _ => ⟨fun _ => ⟨LX10_readLine_157 P, y_pairF f hc hc4 (t N f), fun _ q => q⟩, fun _ => ⟨LX10_readLine_157 P, y_dryF f hc hc4 (t N f), fun _ q => q⟩⟩, fun _ => tn (by decide) (by decide)⟩, fun _ => tn (by decide) (by decide)⟩, fun _ => tn (by decide) (by decide)⟩, fun _ => ⟨LX10_readLine_157 P, y_hearF f hc hc4 (t N f), fun _ q => q⟩⟩
theorem y_l58F {P : zX → Prop} {s k : Nat} (hk : k < 6) (kz : KZ Y N) (e35 : N 0 35 = nI s) (e38 : N 0 38 = 0) (z : ∀ N2, FT Y N2 4 s → P N2) : LX10_readLine_58 P N (nI k) 0 := by
  refine bX10_readLine_58 P N _ _ (y_w0 (c := 4) kz e35 e38 (fun N2 f => ⟨k, rfl, hk, ?_⟩))
  have f2 : FT Y (zs N2 21 k (vp_nar .boolean 1)) 4 s := ⟨f.1.za (by omega) (by omega), f.2⟩
  exact y_nextF f2 (by decide) (by decide) (y_swF f2 (by decide) (by decide) z)
theorem y_l58 {P : zX → Prop} (h : IY Y) {s k : Nat} (hk : k < 6) (hs : s ≤ LY Y) (kz : KZ Y N) (d : PY N D) (e34 : N 0 34 = nI (kE Y s)) (e38 : N 0 38 = 0) (z : ∀ N2, ST Y N2 (zs D 0 3 (D 0 3 ||| zshl 1 (nI k))) (tS Y (kE Y s)) → ySW P N2 (nI k)) : LX10_readLine_58 P N (nI k) 1 := by
  refine bX10_readLine_58 P N _ _ (y_w1 ⟨k, rfl, hk, ?_⟩)
  obtain ⟨d1, d2, d3, d4, d5, d6, d7⟩ := d
  refine y_next (D := zs D 0 3 (D 0 3 ||| zshl 1 (nI k))) h (kE_le hs).2.1 (kz.za (by omega) (by omega)) ⟨d1, d2, d3, d4, d5, d6, fun j h1 h3 => ?_⟩ e34 e38 z
  show upd (N 21) k (vp_nar .boolean 1) j = b2i (bt (D 0 3 ||| zshl 1 (nI k)) j)
  rw [bt_set _ (by omega) (by omega)]
  by_cases q : j = k
  · subst q; rw [pk_us, decide_eq_true rfl, Bool.or_true]; rfl
  · rw [pk_un q, decide_eq_false q, Bool.or_false]; exact d7 j h1 h3
def RF (Y N : zX) (c s : Nat) : Prop := ∀ P : zX → Prop, (∀ N2, FT Y N2 c s → P N2) → zPw SY 6 mX10_readLine [.ref 0] N P
def RLn (Y N D : zX) (s : Nat) : Prop := ∀ P : zX → Prop, (∀ N2, ST Y N2 D s → P N2) → zPw SY 6 mX10_readLine [.ref 0] N P
theorem y_begin (h : IY Y) {s : Nat} (st : ST Y N D s) (hs : s ≤ LY Y) (h9 : kK Y s ≠ 9) :
    (kK Y s ≠ 1 → RF Y N 2 s) ∧ (kK Y s = 1 → (isSg (kV Y s) = true → bt (D 0 3) (kV Y s) = true → RF Y N 4 s) ∧ (¬ (isSg (kV Y s) = true ∧ bt (D 0 3) (kV Y s) = true) → ∀ P : zX → Prop, (∀ N2, ST Y N2 (zs D 0 3 (D 0 3 ||| zshl 1 (nI (kV Y s)))) (tS Y (kE Y s)) → ySW P N2 (nI (kV Y s))) → zPw SY 6 mX10_readLine [.ref 0] N P)) := by
  obtain ⟨e35, e38, e36, e34, e37⟩ := st.tok h9
  obtain ⟨k, dd, -⟩ := st
  have d := dd h9
  have kz := kz9 Y s
  have one : N 0 36 = 1 ↔ kK Y s = 1 := by rw [e36]; exact nI_eq (b := 1) (by omega) (by omega)
  refine ⟨fun h1 P z => eX10_readLine P N ⟨fun _ => bX10_readLine_14 P N _ (y_w0 (c := 2) k e35 e38 (fun N2 f => ⟨fun c => absurd c (ft_gt f (by decide) (by decide)), fun _ => z N2 f⟩)), fun c => absurd (one.mp c) h1⟩, fun h1 => ?_⟩
  have hk := kV_le5 h1
  have e37 := e37 (Or.inl h1)
  generalize ev : kV Y s = v at *
  have v64 : (N 0 37).toInt = v := by rw [e37]; exact nI_toInt (by omega)
  have go : ∀ P : zX → Prop, (isSg v = false → LX10_readLine_58 P N (nI v) 1) → (isSg v = true → (bt (D 0 3) v = true → LX10_readLine_58 P N (nI v) 0) ∧ (bt (D 0 3) v = false → LX10_readLine_58 P N (nI v) 1)) → zPw SY 6 mX10_readLine [.ref 0] N P := fun P z0 z1 => by
    refine eX10_readLine P N ⟨fun c => absurd (one.mpr h1) c, fun _ => bX10_readLine_14 P N _ (y_w1 ⟨fun _ => ?_, fun c => absurd (by rw [e38]; decide) c⟩)⟩
    cases sg : isSg v with
    | false =>
      have : ¬ (1 ≤ v ∧ v ≤ 3) := fun q => by
        have : v = 1 ∨ v = 2 ∨ v = 3 := by omega
        rcases this with rfl | rfl | rfl <;> cases sg
      refine ⟨0, yI_o N (l := 1) (r := 3) rfl rfl (by rw [v64]; omega), fun _ => ?_, fun c => absurd rfl c⟩
      rw [e37]; exact z0 sg
    | true =>
      have q : 1 ≤ v ∧ v ≤ 3 := by unfold isSg at sg; simp only [Bool.or_eq_true, decide_eq_true_eq] at sg; omega
      have d7 := d.2.2.2.2.2.2 v q.1 q.2
      refine ⟨1, yI_i N (l := 1) (r := 3) rfl rfl (by rw [v64]; omega), fun c => absurd c (by decide), fun _ => ⟨v, e37, by omega, fun c => ?_, fun c => ?_⟩⟩
      · rw [d7] at c; rw [e37]; exact (z1 sg).1 (b2i_n.mp c)
      · rw [d7] at c; rw [e37]; exact (z1 sg).2 (b2i_0.mp c)
  refine ⟨fun sg b P z => go P (fun c => absurd c (by rw [sg]; decide)) (fun _ => ⟨fun _ => y_l58F (by omega) k e35 e38 z, fun c => absurd c (by rw [b]; decide)⟩), fun nb P z => go P (fun _ => y_l58 h (by omega) hs k d e34 e38 z) (fun sg => ⟨fun b => absurd ⟨sg, b⟩ nb, fun _ => y_l58 h (by omega) hs k d e34 e38 z⟩)⟩
end YV
