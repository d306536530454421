/-! the reference: a line -/
section YU
variable {X Y M N D : zX}
theorem kz9 (Y : zX) (s : Nat) : kK Y s < 10 := by unfold kK; (repeat' split) <;> omega
theorem eLt_gt {s : Nat} (hs : s < LY Y) (hl : isLt Y s = true) : s < eLt Y s ∧ eLt Y s ≤ LY Y := by
  unfold eLt
  rw [runF_go hs hl]
  have := runF_ge (isLt Y) (LY Y - (s + 1)) (s + 1)
  omega
theorem eFg_gt {s : Nat} (hs : s < LY Y) (hl : isFg Y s = true) : s < eFg Y s ∧ eFg Y s ≤ LY Y := by
  unfold eFg
  rw [runF_go hs hl]
  have := runF_ge (isFg Y) (LY Y - (s + 1)) (s + 1)
  omega
theorem kE_le {s : Nat} (hs : s ≤ LY Y) : s ≤ kE Y s ∧ kE Y s ≤ LY Y ∧ (kK Y s ≠ 0 → s < kE Y s) := by
  by_cases c0 : LY Y ≤ s
  · have : kE Y s = s := by unfold kE; rw [if_pos c0]
    have k0 : kK Y s = 0 := by unfold kK; rw [if_pos c0]
    exact ⟨by omega, by omega, fun h => absurd k0 h⟩
  · have key : s < kE Y s ∧ kE Y s ≤ LY Y := by
      unfold kE
      rw [if_neg c0]
      cases c1 : isLt Y s with
      | true => rw [if_pos rfl]; exact eLt_gt (by omega) c1
      | false =>
        rw [if_neg (by decide)]
        cases c2 : isFg Y s with
        | true => rw [if_pos rfl]; exact eFg_gt (by omega) c2
        | false => rw [if_neg (by decide)]; omega
    omega
theorem kE_gt {s : Nat} (hs : s ≤ LY Y) (hk : kK Y s ≠ 0) : s < kE Y s ∧ kE Y s ≤ LY Y := ⟨(kE_le hs).2.2 hk, (kE_le hs).2.1⟩
def TK (Y N : zX) (s : Nat) : Prop := N 0 35 = nI s ∧ ((kK Y s ≠ 9 ∧ N 0 38 = 0 ∧ N 0 36 = nI (kK Y s) ∧ N 0 34 = nI (kE Y s) ∧ (kK Y s = 1 ∨ kK Y s = 2 → N 0 37 = nI (kV Y s))) ∨ (kK Y s = 9 ∧ N 0 38 = 1 ∧ N 0 39 = nI s))
def KZ (Y N : zX) : Prop := (∀ a, a ≠ 0 → a < 18 ∨ 21 < a → N a = Y a) ∧ ∀ k, k < 25 ∨ (27 < k ∧ k < 34) ∨ 39 < k → N 0 k = Y 0 k
theorem KZ.kt {N2 : zX} (o : KZ Y N) (t : KT N N2) : KZ Y N2 := ⟨fun a h1 h2 => by rw [t.1 a h1]; exact o.1 a h1 h2, fun k hk => by rw [t.2 k (by omega)]; exact o.2 k hk⟩
theorem KZ.z0 {k : Nat} {v : Int32} (o : KZ Y N) (hk : (25 ≤ k ∧ k ≤ 27) ∨ (34 ≤ k ∧ k ≤ 39)) : KZ Y (zs N 0 k v) := ⟨fun a h1 h2 => by rw [zs_ne h1]; exact o.1 a h1 h2, fun j hj => by rw [zs_nk (by omega)]; exact o.2 j hj⟩
theorem KZ.za {a k : Nat} {v : Int32} (o : KZ Y N) (ha : 18 ≤ a) (ha2 : a ≤ 21) : KZ Y (zs N a k v) := ⟨fun b h1 h2 => by rw [zs_ne (by omega)]; exact o.1 b h1 h2, fun j hj => by rw [zs_ne (by omega)]; exact o.2 j hj⟩
theorem KZ.hn (h : IY Y) (o : KZ Y N) : HN Y N := ⟨o.1 22 (by decide) (by omega), by rw [o.2 33 (by omega)]; exact h.taped.1⟩
def PY (N D : zX) : Prop := N 0 25 = D 0 0 ∧ N 0 26 = D 0 1 ∧ N 0 27 = D 0 2 ∧ (∀ k, k < 8 → N 18 k = D 1 k) ∧ (∀ v, v < 24 → N 20 v = D 2 v) ∧ (∀ p, p < 12 → N 19 p = D 3 p) ∧ ∀ k, 1 ≤ k → k ≤ 3 → N 21 k = b2i (bt (D 0 3) k)
theorem PY.kt {N2 : zX} (o : PY N D) (t : KT N N2) : PY N2 D := by
  obtain ⟨d1, d2, d3, d4, d5, d6, d7⟩ := o
  refine ⟨by rw [t.2 25 (by omega)]; exact d1, by rw [t.2 26 (by omega)]; exact d2, by rw [t.2 27 (by omega)]; exact d3, ?_, ?_, ?_, ?_⟩
  · rw [t.1 18 (by decide)]; exact d4
  · rw [t.1 20 (by decide)]; exact d5
  · rw [t.1 19 (by decide)]; exact d6
  · rw [t.1 21 (by decide)]; exact d7
def ST (Y N D : zX) (s : Nat) : Prop := KZ Y N ∧ (kK Y s ≠ 9 → PY N D) ∧ TK Y N s
def FT (Y N : zX) (c s : Nat) : Prop := KZ Y N ∧ N 0 38 = nI c ∧ N 0 39 = nI s
theorem ST.ofTY {N2 : zX} {s : Nat} (k : KZ Y N) (p : PY N D) (t : TY Y s N N2) : ST Y N2 D s := ⟨k.kt ⟨t.1, t.2.1⟩, fun _ => p.kt ⟨t.1, t.2.1⟩, t.2.2⟩
theorem ft_ne {c s : Nat} (f : FT Y N c s) (hc : 1 ≤ c) (hc4 : c ≤ 4) : ¬ N 0 38 = 0 := by rw [f.2.1, show (0 : Int32) = nI 0 from rfl, nI_eq (by omega) (by omega)]; omega
theorem ft_gt {c s : Nat} (f : FT Y N c s) (hc : 1 ≤ c) (hc4 : c ≤ 4) : ¬ N 0 38 ≤ 0 := by rw [f.2.1, show (0 : Int32) = nI 0 from rfl, nI_leI (by omega) (by omega)]; omega
theorem y_next {P : zX → Prop} (h : IY Y) {p : Nat} (hp : p ≤ LY Y) (k : KZ Y N) (d : PY N D) (e34 : N 0 34 = nI p) (e38 : N 0 38 = 0) (z : ∀ N2, ST Y N2 D (tS Y p) → P N2) : ∃ Qr : zX → Prop, zPw SY 3 mX10_next [.ref 0] N Qr ∧ ∀ M2 : zX, Qr M2 → P M2 :=
  ⟨_, cY_next h (k.hn h) hp e34 e38, fun N2 t => z N2 (ST.ofTY k d t)⟩
theorem y_nextF {P : zX → Prop} {c s : Nat} (f : FT Y N c s) (hc : 1 ≤ c) (hc4 : c ≤ 4) (z : P N) : ∃ Qr : zX → Prop, zPw SY 3 mX10_next [.ref 0] N Qr ∧ ∀ M2 : zX, Qr M2 → P M2 :=
  ⟨P, cY_nextF (ft_gt f hc hc4) z, fun _ q => q⟩
theorem y_w0 {P : zX → Prop} {s c : Nat} (k : KZ Y N) (e35 : N 0 35 = nI s) (e38 : N 0 38 = 0) (z : ∀ N2, FT Y N2 c s → P N2) : ∃ Qr : zX → Prop, zPw SY 0 mX10_wants [.ref 0, .int 0, .int (nI c)] N Qr ∧ ∀ M2 : zX, Qr M2 → P M2 :=
  ⟨P, nar_wants0 e38 (z _ ⟨(k.z0 (by omega)).z0 (by omega), rfl, e35⟩), fun _ q => q⟩
theorem y_w1 {P : zX → Prop} {a : Int32} (z : P N) : ∃ Qr : zX → Prop, zPw SY 0 mX10_wants [.ref 0, .int 1, .int a] N Qr ∧ ∀ M2 : zX, Qr M2 → P M2 := ⟨P, nar_wants1 z _, fun _ q => q⟩
theorem y_isNum {P : zX → Prop} (h : IY Y) {s lo hi : Nat} (st : ST Y N D s) (hlo : lo < 1000) (hhi : hi < 1000) (z1 : nF Y lo hi s ≠ 0 → ∀ N2, FT Y N2 (nF Y lo hi s) s → P N2) (z2 : nF Y lo hi s = 0 → P N) : zPw SY 1 mX10_isNumber [.ref 0, .int (nI lo), .int (nI hi)] N P := by
  obtain ⟨k, d, e35, t⟩ := st
  have kz := kz9 Y s
  rcases t with ⟨k9, e38, e36, e34, e37⟩ | ⟨k9, e38, e39⟩
  · have two : N 0 36 = 2 ↔ kK Y s = 2 := by rw [e36]; exact nI_eq (b := 2) (by omega) (by omega)
    refine eX10_isNumber P N _ _ ⟨fun e => absurd e38 e, fun _ => ⟨fun e => y_w0 (c := 2) k e35 e38 (fun N2 f => ⟨fun _ => ?_, fun c => absurd c (ft_ne f (by decide) (by decide))⟩), fun e => y_w1 ⟨fun c => absurd e38 c, fun _ => ?_⟩⟩⟩
    · have : nF Y lo hi s = 2 := by unfold nF; rw [if_neg k9, if_neg (fun c => e (two.mpr c))]
      rw [this] at z1
      exact z1 (by decide) N2 f
    · have k2 := two.mp e
      have kv := kV_lt h k2
      have e37 := e37 (Or.inr k2)
      have vi : (N 0 37).toInt = kV Y s := by rw [e37]; exact nI_toInt (by omega)
      have l1 : (nI lo).toInt64.toInt = (lo : Int) := by rw [Int32.toInt_toInt64, nI_toInt (by omega)]
      have l2 : (nI hi).toInt64.toInt = (hi : Int) := by rw [Int32.toInt_toInt64, nI_toInt (by omega)]
      by_cases c : lo ≤ kV Y s ∧ kV Y s ≤ hi
      · exact ⟨1, yI_i N l1 l2 (by rw [vi]; omega), y_w1 (z2 (by unfold nF; rw [if_neg k9, if_pos k2, if_pos c]))⟩
      · refine ⟨0, yI_o N l1 l2 (by rw [vi]; omega), y_w0 (c := 3) k e35 e38 (fun N2 f => ?_)⟩
        have : nF Y lo hi s = 3 := by unfold nF; rw [if_neg k9, if_pos k2, if_neg c]
        rw [this] at z1
        exact z1 (by decide) N2 f
  · have : nF Y lo hi s = 1 := by unfold nF; rw [if_pos k9]
    rw [this] at z1
    have f : FT Y N 1 s := ⟨k, e38, e39⟩
    exact eX10_isNumber P N _ _ ⟨fun _ => z1 (by decide) N f, fun e => absurd e (ft_ne f (by decide) (by decide))⟩
theorem y_isNumF {P : zX → Prop} {c s : Nat} (f : FT Y N c s) (hc : 1 ≤ c) (hc4 : c ≤ 4) (a b : Int32) (z : P N) : zPw SY 1 mX10_isNumber [.ref 0, .int a, .int b] N P := eX10_isNumber P N _ _ ⟨fun _ => z, fun e => absurd e (ft_ne f hc hc4)⟩
theorem y_readNum {P : Int32 → zX → Prop} (h : IY Y) {s lo hi : Nat} (st : ST Y N D s) (hs : s ≤ LY Y) (hlo : lo < 1000) (hhi : hi < 1000) (z1 : nF Y lo hi s ≠ 0 → ∀ v N2, FT Y N2 (nF Y lo hi s) s → P v N2) (z2 : nF Y lo hi s = 0 → ∀ N2, ST Y N2 D (tS Y (kE Y s)) → P (nI (kV Y s)) N2) : zPi SY 4 mX10_readNumber [.ref 0, .int (nI lo), .int (nI hi)] N P := by
  have nl := nF_le Y lo hi s
  refine eX10_readNumber P N _ _ ⟨fun M2 => (nF Y lo hi s ≠ 0 ∧ FT Y M2 (nF Y lo hi s) s) ∨ (nF Y lo hi s = 0 ∧ M2 = N), y_isNum h st hlo hhi (fun e N2 f => Or.inl ⟨e, f⟩) (fun e => Or.inr ⟨e, rfl⟩), fun M2 q => ?_⟩
  rcases q with ⟨e, f⟩ | ⟨e, rfl⟩
  · exact y_nextF f (by omega) (by omega) (z1 e _ _ f)
  · obtain ⟨k, d, e35, t⟩ := st
    have k2 := (nF_0 e).1
    rcases t with ⟨k9, e38, e36, e34, e37⟩ | ⟨k9, e38, e39⟩
    · refine y_next h (kE_le hs).2.1 k (d k9) e34 e38 (fun N2 s2 => ?_)
      rw [e37 (Or.inr k2)]
      exact z2 e N2 s2
    · rw [k2] at k9; cases k9
theorem y_readNumF {P : Int32 → zX → Prop} {c s : Nat} (f : FT Y N c s) (hc : 1 ≤ c) (hc4 : c ≤ 4) (a b : Int32) (z : ∀ v, P v N) : zPi SY 4 mX10_readNumber [.ref 0, .int a, .int b] N P :=
  eX10_readNumber P N _ _ ⟨fun M => M = N, y_isNumF f hc hc4 a b rfl, fun M2 e => by subst e; exact y_nextF f hc hc4 (z _)⟩
/-- what the token of s gives -/
theorem ST.tok {s : Nat} (st : ST Y N D s) (hk : kK Y s ≠ 9) : N 0 35 = nI s ∧ N 0 38 = 0 ∧ N 0 36 = nI (kK Y s) ∧ N 0 34 = nI (kE Y s) ∧ (kK Y s = 1 ∨ kK Y s = 2 → N 0 37 = nI (kV Y s)) := by
  obtain ⟨k, d, e35, t⟩ := st
  rcases t with ⟨k9, e38, e36, e34, e37⟩ | ⟨k9, e38, e39⟩
  · exact ⟨e35, e38, e36, e34, e37⟩
  · exact absurd k9 hk
theorem zshl9n (x : Int32) {k : Nat} (hk : k < 32) : ((zshr x (nI k)) &&& 1 = 0) ↔ bt x k = false := by rw [zb x hk]; exact b2i_0
theorem y_hear {P : zX → Prop} (h : IY Y) {s s2 : Nat} (st : ST Y N D s) (hs : s ≤ LY Y) (e2 : s2 = tS Y (kE Y s))
    (z1 : nF Y 0 7 s ≠ 0 → ∀ N2, FT Y N2 (nF Y 0 7 s) s → P N2) (z2 : nF Y 0 7 s = 0 → nF Y 0 7 s2 ≠ 0 → ∀ N2, FT Y N2 (nF Y 0 7 s2) s2 → P N2)
    (z3 : nF Y 0 7 s = 0 → nF Y 0 7 s2 = 0 → bt (D 1 (kV Y s)) (kV Y s2) = true → ∀ N2, FT Y N2 4 s2 → P N2)
    (z4 : nF Y 0 7 s = 0 → nF Y 0 7 s2 = 0 → bt (D 1 (kV Y s)) (kV Y s2) = false → ∀ N2, ST Y N2 (zs D 1 (kV Y s) (D 1 (kV Y s) ||| zshl 1 (nI (kV Y s2)))) (tS Y (kE Y s2)) → P N2) : zPw SY 5 mX10_readHear [.ref 0] N P := by
  have nl := nF_le Y 0 7 s
  have nl2 := nF_le Y 0 7 s2
  have hs2 : s2 ≤ LY Y := by rw [e2]; exact (tS_le Y (kE_le hs).2.1).2
  refine eX10_readHear P N ⟨fun v M2 => (nF Y 0 7 s ≠ 0 ∧ FT Y M2 (nF Y 0 7 s) s) ∨ (nF Y 0 7 s = 0 ∧ v = nI (kV Y s) ∧ ST Y M2 D s2), y_readNum (lo := 0) (hi := 7) h st hs (by decide) (by decide) (fun e v N2 f => Or.inl ⟨e, f⟩) (fun e N2 s2 => Or.inr ⟨e, rfl, by rw [e2]; exact s2⟩), fun v M2 q => ?_⟩
  rcases q with ⟨e, f⟩ | ⟨e, rfl, st2⟩
  · exact ⟨fun M => M = M2, y_isNumF f (by omega) (by omega) _ _ rfl, fun M4 e4 => by subst e4; exact ⟨fun _ => y_nextF f (by omega) (by omega) (z1 e _ f), fun c => absurd c (ft_ne f (by omega) (by omega))⟩⟩
  · refine ⟨fun M4 => (nF Y 0 7 s2 ≠ 0 ∧ FT Y M4 (nF Y 0 7 s2) s2) ∨ (nF Y 0 7 s2 = 0 ∧ M4 = M2), y_isNum (lo := 0) (hi := 7) h st2 (by decide) (by decide) (fun e N2 f => Or.inl ⟨e, f⟩) (fun e => Or.inr ⟨e, rfl⟩), fun M4 q => ?_⟩
    rcases q with ⟨e4, f⟩ | ⟨e4, rfl⟩
    · exact ⟨fun _ => y_nextF f (by omega) (by omega) (z2 e e4 _ f), fun c => absurd c (ft_ne f (by omega) (by omega))⟩
    · have hv := nF_0 e
      have hv2 := nF_0 e4
      obtain ⟨e35, e38, e36, e34, e37⟩ := st2.tok (by omega)
      obtain ⟨k, dd, -⟩ := st2
      obtain ⟨d1, d2, d3, d4, d5, d6, d7⟩ := dd (by omega)
      have e37 := e37 (Or.inr hv2.1)
      have eb : (zshr (M4 18 (kV Y s)) (M4 0 37) &&& 1 = 0) ↔ bt (D 1 (kV Y s)) (kV Y s2) = false := by rw [d4 _ (by omega), e37]; exact zshl9n _ (by omega)
      refine ⟨fun c => absurd e38 c, fun _ => ⟨kV Y s, rfl, by omega, fun c => ?_, fun c => ?_⟩⟩
      · have b : bt (D 1 (kV Y s)) (kV Y s2) = true := by
          cases q : bt (D 1 (kV Y s)) (kV Y s2) with
          | true => rfl
          | false => exact absurd (eb.mpr q) c
        refine y_w0 (c := 4) k e35 e38 (fun N2 f => ⟨kV Y s, rfl, by omega, kV Y s, rfl, by omega, ?_⟩)
        have f2 : FT Y (zs N2 18 (kV Y s) (N2 18 (kV Y s) ||| zshl 1 (N2 0 37))) 4 s2 := ⟨f.1.za (by omega) (by omega), f.2⟩
        exact y_nextF f2 (by decide) (by decide) (z3 e e4 b _ f2)
      · refine y_w1 ⟨kV Y s, rfl, by omega, kV Y s, rfl, by omega, ?_⟩
        refine y_next (D := zs D 1 (kV Y s) (D 1 (kV Y s) ||| zshl 1 (nI (kV Y s2)))) h (kE_le hs2).2.1 (k.za (by omega) (by omega)) ⟨d1, d2, d3, fun j hj => ?_, d5, d6, d7⟩ e34 e38 (fun N2 q => z4 e e4 (eb.mp c) N2 q)
        show upd (M4 18) (kV Y s) (M4 18 (kV Y s) ||| zshl 1 (M4 0 37)) j = upd (D 1) (kV Y s) (D 1 (kV Y s) ||| zshl 1 (nI (kV Y s2))) j
        rw [d4 _ (by omega), e37]
        by_cases q : j = kV Y s
        · rw [q, pk_us, pk_us]
        · rw [pk_un q, pk_un q]; exact d4 j hj
theorem y_hearF {P : zX → Prop} {c s : Nat} (f : FT Y N c s) (hc : 1 ≤ c) (hc4 : c ≤ 4) (z : P N) : zPw SY 5 mX10_readHear [.ref 0] N P :=
  eX10_readHear P N ⟨fun _ M => M = N, y_readNumF f hc hc4 _ _ (fun _ => rfl), fun v M2 e => by
    subst e
    exact ⟨fun M => M = M2, y_isNumF f hc hc4 _ _ rfl, fun M4 e4 => by subst e4; exact ⟨fun _ => y_nextF f hc hc4 z, fun c => absurd c (ft_ne f hc hc4)⟩⟩⟩
theorem y_dry {P : zX → Prop} (h : IY Y) {s s2 : Nat} (st : ST Y N D s) (hs : s ≤ LY Y) (e2 : s2 = tS Y (kE Y s))
    (z1 : nF Y 0 11 s ≠ 0 → ∀ N2, FT Y N2 (nF Y 0 11 s) s → P N2) (z2 : nF Y 0 11 s = 0 → D 3 (kV Y s) ≠ -4 → ∀ N2, FT Y N2 4 s → P N2)
    (z3 : nF Y 0 11 s = 0 → D 3 (kV Y s) = -4 → nF Y 0 99 s2 ≠ 0 → ∀ N2, FT Y N2 (nF Y 0 99 s2) s2 → P N2)
    (z4 : nF Y 0 11 s = 0 → D 3 (kV Y s) = -4 → nF Y 0 99 s2 = 0 → ∀ N2, ST Y N2 (zs D 3 (kV Y s) (nI (kV Y s2))) (tS Y (kE Y s2)) → P N2) : zPw SY 5 mX10_readDry [.ref 0] N P := by
  have nl := nF_le Y 0 11 s
  have nl2 := nF_le Y 0 99 s2
  have hs2 : s2 ≤ LY Y := by rw [e2]; exact (tS_le Y (kE_le hs).2.1).2
  have idle : ∀ {c : Nat} {M2 M5 : zX}, FT Y M5 c s → 1 ≤ c → c ≤ 4 → P M5 → ∃ Qr6 : Int32 → zX → Prop, zPi SY 4 mX10_readNumber [.ref 0, .int 0, .int 99] M5 Qr6 ∧ ∀ (r6 : Int32) (M7 : zX), Qr6 r6 M7 → (((¬ (M7 0 38) = 0) → (P M7)) ∧ (((M7 0 38) = 0) → (∃ j9 : Nat, (M2 0 37) = nI j9 ∧ j9 < 12 ∧ (P (zs M7 19 j9 r6))))) := fun {c} {M2} {M5} f h1 h4 z => ⟨fun _ M => M = M5, y_readNumF f h1 h4 _ _ (fun _ => rfl), fun v M7 e => by subst e; exact ⟨fun _ => z, fun c => absurd c (ft_ne f h1 h4)⟩⟩
  refine eX10_readDry P N ⟨fun M2 => (nF Y 0 11 s ≠ 0 ∧ FT Y M2 (nF Y 0 11 s) s) ∨ (nF Y 0 11 s = 0 ∧ M2 = N), y_isNum (lo := 0) (hi := 11) h st (by decide) (by decide) (fun e N2 f => Or.inl ⟨e, f⟩) (fun e => Or.inr ⟨e, rfl⟩), fun M2 q => ?_⟩
  rcases q with ⟨e, f⟩ | ⟨e, rfl⟩
  · exact ⟨fun _ => y_nextF f (by omega) (by omega) (idle f (by omega) (by omega) (z1 e _ f)), fun c => absurd c (ft_ne f (by omega) (by omega))⟩
  · have hv := nF_0 e
    obtain ⟨e35, e38, e36, e34, e37⟩ := st.tok (by omega)
    obtain ⟨k, d, -⟩ := id st
    have d := d (by omega)
    have e37 := e37 (Or.inr hv.1)
    refine ⟨fun c => absurd e38 c, fun _ => ⟨kV Y s, e37, by omega, fun c => ?_, fun c => ?_⟩⟩
    · rw [d.2.2.2.2.2.1 _ (by omega)] at c
      exact y_w0 (c := 4) k e35 e38 (fun N2 f => y_nextF f (by decide) (by decide) (idle f (by decide) (by decide) (z2 e c _ f)))
    · rw [d.2.2.2.2.2.1 _ (by omega)] at c
      refine y_w1 (y_next h (kE_le hs).2.1 k d e34 e38 (fun N2 s3 => ⟨fun v M7 => (nF Y 0 99 s2 ≠ 0 ∧ FT Y M7 (nF Y 0 99 s2) s2) ∨ (nF Y 0 99 s2 = 0 ∧ v = nI (kV Y s2) ∧ ST Y M7 D (tS Y (kE Y s2))), y_readNum (lo := 0) (hi := 99) h (by rw [e2]; exact s3) hs2 (by decide) (by decide) (fun e v N2 f => Or.inl ⟨e, f⟩) (fun e N2 s2 => Or.inr ⟨e, rfl, s2⟩), fun v M7 q => ?_⟩))
      rcases q with ⟨e7, f⟩ | ⟨e7, rfl, st7⟩
      · exact ⟨fun _ => z3 e c e7 _ f, fun c => absurd c (ft_ne f (by omega) (by omega))⟩
      · obtain ⟨k7, dd, t7⟩ := st7
        have fin : (kK Y (tS Y (kE Y s2)) ≠ 9) → P (zs M7 19 (kV Y s) (nI (kV Y s2))) := fun k9 => by
          obtain ⟨d1, d2, d3, d4, d5, d6, d7⟩ := dd k9
          refine z4 e c e7 _ ⟨k7.za (by omega) (by omega), fun _ => ⟨d1, d2, d3, d4, d5, fun j hj => ?_, d7⟩, t7⟩
          show upd (M7 19) (kV Y s) (nI (kV Y s2)) j = upd (D 3) (kV Y s) (nI (kV Y s2)) j
          by_cases q : j = kV Y s
          · rw [q, pk_us, pk_us]
          · rw [pk_un q, pk_un q]; exact d6 j hj
        rcases id t7.2 with ⟨k9, e38, -⟩ | ⟨k9, e38, e39⟩
        · exact ⟨fun c7 => absurd e38 c7, fun _ => ⟨kV Y s, e37, by omega, fin k9⟩⟩
        · exact ⟨fun _ => z4 e c e7 _ ⟨k7, fun q => absurd k9 q, t7⟩, fun c7 => absurd c7 (by rw [e38]; decide)⟩
theorem y_dryF {P : zX → Prop} {c s : Nat} (f : FT Y N c s) (hc : 1 ≤ c) (hc4 : c ≤ 4) (z : P N) : zPw SY 5 mX10_readDry [.ref 0] N P :=
  eX10_readDry P N ⟨fun M => M = N, y_isNumF f hc hc4 _ _ rfl, fun M2 e => by
    subst e
    exact ⟨fun _ => y_nextF f hc hc4 ⟨fun _ M => M = M2, y_readNumF f hc hc4 _ _ (fun _ => rfl), fun v M7 e => by subst e; exact ⟨fun _ => z, fun c => absurd c (ft_ne f hc hc4)⟩⟩, fun c => absurd c (ft_ne f hc hc4)⟩⟩
end YU
