/-! both read a line alike -/
section LN
variable {X Y M N D D1 : zX}
def ID (D : zX) : Prop := isN (D 0 0) 100 ∧ isN (D 0 1) 100 ∧ isN (D 0 2) 21 ∧ ∀ p, p < 12 → D 3 p = -4 ∨ isN (D 3 p) 100
def BD (X Y D1 : zX) (p1 n i1 k m : Nat) : Prop :=
  (∃ c s, 1 ≤ c ∧ c ≤ 4 ∧ s ≤ 200 ∧ (∀ M1, LM2 X M1 D1 p1 n k m → CF X M1 i1 c s) ∧ (∀ N1, ST Y N1 D1 (tS Y p1) → ∀ P : zX → Prop, (∀ N2, FT Y N2 c s → LX10_readLine_157 P N2) → ySW P N1 (nI k))) ∨
  (∃ (D3 : zX) (p3 i3 : Nat), p1 ≤ p3 ∧ p3 ≤ LY Y ∧ i3 ≤ p3 ∧ (ID D1 → ID D3) ∧ (∀ M1, LM2 X M1 D1 p1 n k m → CG M1 i1 (fun M2 => LM2 X M2 D3 p3 n k 0) i3) ∧ (∀ N1, ST Y N1 D1 (tS Y p1) → ∀ P : zX → Prop, (∀ N2, ST Y N2 D3 (tS Y p3) → LX10_readLine_157 P N2) → ySW P N1 (nI k)))
theorem sw0 {P : zX → Prop} (z : zPw SY 5 mX10_readHear [.ref 0] N (LX10_readLine_157 P)) : ySW P N (nI 0) := ⟨fun e => absurd rfl e, fun _ => ⟨_, z, fun _ q => q⟩⟩
theorem sw1 {P : zX → Prop} (z : zPi SY 4 mX10_readNumber [.ref 0, .int 0, .int 99] N (fun r M => LX10_readLine_157 P (zs M 0 25 r))) : ySW P N (nI 1) := ⟨fun _ => ⟨fun e => absurd rfl e, fun _ => ⟨_, z, fun _ _ q => q⟩⟩, fun e => absurd e (by decide)⟩
theorem sw2 {P : zX → Prop} (z : zPi SY 4 mX10_readNumber [.ref 0, .int 0, .int 99] N (fun r M => LX10_readLine_157 P (zs M 0 26 r))) : ySW P N (nI 2) := ⟨fun _ => ⟨fun _ => ⟨fun e => absurd rfl e, fun _ => ⟨_, z, fun _ _ q => q⟩⟩, fun e => absurd e (by decide)⟩, fun e => absurd e (by decide)⟩
theorem sw3 {P : zX → Prop} (z : zPi SY 4 mX10_readNumber [.ref 0, .int 1, .int 20] N (fun r M => LX10_readLine_157 P (zs M 0 27 r))) : ySW P N (nI 3) := ⟨fun _ => ⟨fun _ => ⟨fun _ => ⟨fun e => absurd rfl e, fun _ => ⟨_, z, fun _ _ q => q⟩⟩, fun e => absurd e (by decide)⟩, fun e => absurd e (by decide)⟩, fun e => absurd e (by decide)⟩
theorem sw4 {P : zX → Prop} (z : zPw SY 5 mX10_readDry [.ref 0] N (LX10_readLine_157 P)) : ySW P N (nI 4) := ⟨fun _ => ⟨fun _ => ⟨fun _ => ⟨fun _ => ⟨fun e => absurd rfl e, fun _ => ⟨_, z, fun _ q => q⟩⟩, fun e => absurd e (by decide)⟩, fun e => absurd e (by decide)⟩, fun e => absurd e (by decide)⟩, fun e => absurd e (by decide)⟩
theorem sw5 {P : zX → Prop} (z : zPw SY 5 mX10_readPair [.ref 0] N (LX10_readLine_157 P)) : ySW P N (nI 5) := ⟨fun _ => ⟨fun _ => ⟨fun _ => ⟨fun _ => ⟨fun _ => ⟨_, z, fun _ q => q⟩, fun e => absurd e (by decide)⟩, fun e => absurd e (by decide)⟩, fun e => absurd e (by decide)⟩, fun e => absurd e (by decide)⟩, fun e => absurd e (by decide)⟩
theorem LM.m2 {p n k m f : Nat} (l : LM X M D p n k m f) : LM2 X M D p n k m := ⟨l.1, l.2.1, l.2.2.1⟩
theorem FT.z0 {c s k : Nat} {v : Int32} (f : FT Y N c s) (hk : 25 ≤ k) (hk2 : k ≤ 27) : FT Y (zs N 0 k v) c s := ⟨f.1.z0 (by omega), by rw [zs_nk (by omega)]; exact f.2.1, by rw [zs_nk (by omega)]; exact f.2.2⟩
theorem body0 (h : IY Y) (hr : RX X Y) {p1 n i1 : Nat} (hp : p1 ≤ LY Y) (hi : i1 ≤ p1) : BD X Y D1 p1 n i1 0 2 := by
  have hL := LY_le h
  have hs := tS_le Y hp
  have ke := kE_le hs.2
  have hs2 := tS_le Y ke.2.1
  have ke2 := kE_le hs2.2
  by_cases f1 : nF Y 0 7 (tS Y p1) = 0
  case neg =>
    have := nF_le Y 0 7 (tS Y p1)
    exact Or.inl ⟨nF Y 0 7 (tS Y p1), tS Y p1, by omega, by omega, by omega, fun M1 l => x_bad h hr l (by decide) (Or.inr rfl) hp (by omega) f1, fun N1 st P z => sw0 (y_hear h st hs.2 rfl (fun _ => z) (fun c => absurd c f1) (fun c => absurd c f1) (fun c => absurd c f1))⟩
  have g1 := kE_gt hs.2 (Y := Y) (by rw [(nF_0 f1).1]; decide)
  have hv := nF_0 f1
  have c1 : ∀ M1, LM2 X M1 D1 p1 n 0 2 → CG M1 i1 (fun M2 => LM X M2 D1 (kE Y (tS Y p1)) n 0 1 (kV Y (tS Y p1))) (i1 + 1) := fun M1 l => (x_first h hr l (by decide) hp (by omega) f1).2 (fun c => absurd c.1 (by decide))
  by_cases f2 : nF Y 0 7 (tS Y (kE Y (tS Y p1))) = 0
  case neg =>
    have := nF_le Y 0 7 (tS Y (kE Y (tS Y p1)))
    exact Or.inl ⟨nF Y 0 7 (tS Y (kE Y (tS Y p1))), tS Y (kE Y (tS Y p1)), by omega, by omega, by omega, fun M1 l => (c1 M1 l).cf (fun M2 l2 => x_bad h hr l2.m2 (by decide) (Or.inl rfl) ke.2.1 (by omega) f2), fun N1 st P z => sw0 (y_hear h st hs.2 rfl (fun c => absurd f1 c) (fun _ _ => z) (fun _ c => absurd c f2) (fun _ c => absurd c f2))⟩
  have g2 := kE_gt hs2.2 (Y := Y) (by rw [(nF_0 f2).1]; decide)
  cases b : bt (D1 1 (kV Y (tS Y p1))) (kV Y (tS Y (kE Y (tS Y p1)))) with
  | true => exact Or.inl ⟨4, _, by omega, by omega, by omega, fun M1 l => (c1 M1 l).cf (fun M2 l2 => (x_hear h hr l2 (by omega) ke.2.1 (by omega) f2).1 b), fun N1 st P z => sw0 (y_hear h st hs.2 rfl (fun c => absurd f1 c) (fun _ c => absurd f2 c) (fun _ _ _ => z) (fun _ _ c => absurd c (by rw [b]; decide)))⟩
  | false => exact Or.inr ⟨zs D1 1 (kV Y (tS Y p1)) (D1 1 (kV Y (tS Y p1)) ||| zshl 1 (nI (kV Y (tS Y (kE Y (tS Y p1)))))), kE Y (tS Y (kE Y (tS Y p1))), i1 + 1 + 1, by omega, ke2.2.1, by omega, fun q => q, fun M1 l => (c1 M1 l).trans (fun M2 l2 => (x_hear h hr l2 (by omega) ke.2.1 (by omega) f2).2 b), fun N1 st P z => sw0 (y_hear h st hs.2 rfl (fun c => absurd f1 c) (fun _ c => absurd f2 c) (fun _ _ c => absurd c (by rw [b]; decide)) (fun _ _ _ => z))⟩
theorem body5 (h : IY Y) (hr : RX X Y) {p1 n i1 : Nat} (hp : p1 ≤ LY Y) (hi : i1 ≤ p1) : BD X Y D1 p1 n i1 5 2 := by
  have hL := LY_le h
  have hs := tS_le Y hp
  have ke := kE_le hs.2
  have hs2 := tS_le Y ke.2.1
  have ke2 := kE_le hs2.2
  by_cases f1 : nF Y 0 23 (tS Y p1) = 0
  case neg =>
    have := nF_le Y 0 23 (tS Y p1)
    exact Or.inl ⟨nF Y 0 23 (tS Y p1), tS Y p1, by omega, by omega, by omega, fun M1 l => x_bad h hr l (by decide) (Or.inr rfl) hp (by omega) f1, fun N1 st P z => sw5 (y_pair h st hs.2 rfl (fun _ => z) (fun c => absurd c f1) (fun c => absurd c f1) (fun c => absurd c f1) (fun c => absurd c f1))⟩
  have g1 := kE_gt hs.2 (Y := Y) (by rw [(nF_0 f1).1]; decide)
  have hv := nF_0 f1
  have c1 : ∀ M1, LM2 X M1 D1 p1 n 5 2 → CG M1 i1 (fun M2 => LM X M2 D1 (kE Y (tS Y p1)) n 5 1 (kV Y (tS Y p1))) (i1 + 1) := fun M1 l => (x_first h hr l (by decide) hp (by omega) f1).2 (fun c => absurd c.1 (by decide))
  by_cases f2 : nF Y 0 23 (tS Y (kE Y (tS Y p1))) = 0
  case neg =>
    have := nF_le Y 0 23 (tS Y (kE Y (tS Y p1)))
    exact Or.inl ⟨nF Y 0 23 (tS Y (kE Y (tS Y p1))), tS Y (kE Y (tS Y p1)), by omega, by omega, by omega, fun M1 l => (c1 M1 l).cf (fun M2 l2 => x_bad h hr l2.m2 (by decide) (Or.inl rfl) ke.2.1 (by omega) f2), fun N1 st P z => sw5 (y_pair h st hs.2 rfl (fun c => absurd f1 c) (fun _ _ => z) (fun _ c => absurd c f2) (fun _ c => absurd c f2) (fun _ c => absurd c f2))⟩
  have g2 := kE_gt hs2.2 (Y := Y) (by rw [(nF_0 f2).1]; decide)
  by_cases q : kV Y (tS Y (kE Y (tS Y p1))) = kV Y (tS Y p1)
  · exact Or.inl ⟨3, _, by omega, by omega, by omega, fun M1 l => (c1 M1 l).cf (fun M2 l2 => (x_pair h hr l2 (by omega) ke.2.1 (by omega) f2).1 q), fun N1 st P z => sw5 (y_pair h st hs.2 rfl (fun c => absurd f1 c) (fun _ c => absurd f2 c) (fun _ _ _ => z) (fun _ _ c => absurd q c) (fun _ _ c => absurd q c))⟩
  cases b : bt (D1 2 (kV Y (tS Y p1))) (kV Y (tS Y (kE Y (tS Y p1)))) with
  | true => exact Or.inl ⟨4, _, by omega, by omega, by omega, fun M1 l => (c1 M1 l).cf (fun M2 l2 => ((x_pair h hr l2 (by omega) ke.2.1 (by omega) f2).2 q).1 b), fun N1 st P z => sw5 (y_pair h st hs.2 rfl (fun c => absurd f1 c) (fun _ c => absurd f2 c) (fun _ _ c => absurd c q) (fun _ _ _ _ => z) (fun _ _ _ c => absurd c (by rw [b]; decide)))⟩
  | false => exact Or.inr ⟨prD D1 (kV Y (tS Y p1)) (kV Y (tS Y (kE Y (tS Y p1)))), kE Y (tS Y (kE Y (tS Y p1))), i1 + 1 + 1, by omega, ke2.2.1, by omega, fun q => q, fun M1 l => (c1 M1 l).trans (fun M2 l2 => ((x_pair h hr l2 (by omega) ke.2.1 (by omega) f2).2 q).2 b), fun N1 st P z => sw5 (y_pair h st hs.2 rfl (fun c => absurd f1 c) (fun _ c => absurd f2 c) (fun _ _ c => absurd c q) (fun _ _ _ c => absurd c (by rw [b]; decide)) (fun _ _ _ _ => z))⟩
theorem body4 (h : IY Y) (hr : RX X Y) {p1 n i1 : Nat} (hp : p1 ≤ LY Y) (hi : i1 ≤ p1) : BD X Y D1 p1 n i1 4 2 := by
  have hL := LY_le h
  have hs := tS_le Y hp
  have ke := kE_le hs.2
  have hs2 := tS_le Y ke.2.1
  have ke2 := kE_le hs2.2
  by_cases f1 : nF Y 0 11 (tS Y p1) = 0
  case neg =>
    have := nF_le Y 0 11 (tS Y p1)
    exact Or.inl ⟨nF Y 0 11 (tS Y p1), tS Y p1, by omega, by omega, by omega, fun M1 l => x_bad h hr l (by decide) (Or.inr rfl) hp (by omega) f1, fun N1 st P z => sw4 (y_dry h st hs.2 rfl (fun _ => z) (fun c => absurd c f1) (fun c => absurd c f1) (fun c => absurd c f1))⟩
  have g1 := kE_gt hs.2 (Y := Y) (by rw [(nF_0 f1).1]; decide)
  have hv := nF_0 f1
  by_cases q : D1 3 (kV Y (tS Y p1)) = -4
  case neg => exact Or.inl ⟨4, _, by omega, by omega, by omega, fun M1 l => (x_first h hr l (by decide) hp (by omega) f1).1 rfl q, fun N1 st P z => sw4 (y_dry h st hs.2 rfl (fun c => absurd f1 c) (fun _ _ => z) (fun _ c => absurd c q) (fun _ c => absurd c q))⟩
  have c1 : ∀ M1, LM2 X M1 D1 p1 n 4 2 → CG M1 i1 (fun M2 => LM X M2 D1 (kE Y (tS Y p1)) n 4 1 (kV Y (tS Y p1))) (i1 + 1) := fun M1 l => (x_first h hr l (by decide) hp (by omega) f1).2 (fun c => c.2 q)
  by_cases f2 : nF Y 0 99 (tS Y (kE Y (tS Y p1))) = 0
  case neg =>
    have := nF_le Y 0 99 (tS Y (kE Y (tS Y p1)))
    exact Or.inl ⟨nF Y 0 99 (tS Y (kE Y (tS Y p1))), tS Y (kE Y (tS Y p1)), by omega, by omega, by omega, fun M1 l => (c1 M1 l).cf (fun M2 l2 => x_bad h hr l2.m2 (by decide) (Or.inl rfl) ke.2.1 (by omega) f2), fun N1 st P z => sw4 (y_dry h st hs.2 rfl (fun c => absurd f1 c) (fun _ c => absurd q c) (fun _ _ _ => z) (fun _ _ c => absurd c f2))⟩
  have g2 := kE_gt hs2.2 (Y := Y) (by rw [(nF_0 f2).1]; decide)
  have hv2 := nF_0 f2
  refine Or.inr ⟨zs D1 3 (kV Y (tS Y p1)) (nI (kV Y (tS Y (kE Y (tS Y p1))))), kE Y (tS Y (kE Y (tS Y p1))), i1 + 1 + 1, by omega, ke2.2.1, by omega, fun d => ⟨d.1, d.2.1, d.2.2.1, fun p hp => ?_⟩, fun M1 l => (c1 M1 l).trans (fun M2 l2 => x_dry h hr l2 (by omega) ke.2.1 (by omega) f2), fun N1 st P z => sw4 (y_dry h st hs.2 rfl (fun c => absurd f1 c) (fun _ c => absurd q c) (fun _ _ c => absurd f2 c) (fun _ _ _ => z))⟩
  show upd (D1 3) (kV Y (tS Y p1)) (nI (kV Y (tS Y (kE Y (tS Y p1))))) p = -4 ∨ isN (upd (D1 3) (kV Y (tS Y p1)) (nI (kV Y (tS Y (kE Y (tS Y p1))))) p) 100
  by_cases e : p = kV Y (tS Y p1)
  · rw [e, pk_us]; exact Or.inr (isN_nI (by omega) (by decide))
  · rw [pk_un e]; exact d.2.2.2 p hp
theorem ST.sg {s j : Nat} {v : Int32} (st : ST Y N D s) (hj : j < 3) : ST Y (zs N 0 (25 + j) v) (zs D 0 j v) s := by
  obtain ⟨k, dd, e35, t⟩ := st
  have ne : ∀ q, q ≠ 25 + j → zs N 0 (25 + j) v 0 q = N 0 q := fun q hq => zs_nk hq
  refine ⟨k.z0 (by omega), fun k9 => ?_, by rw [ne 35 (by omega)]; exact e35, ?_⟩
  · obtain ⟨d1, d2, d3, d4, d5, d6, d7⟩ := dd k9
    obtain rfl | rfl | rfl : j = 0 ∨ j = 1 ∨ j = 2 := by omega
    · exact ⟨rfl, d2, d3, d4, d5, d6, d7⟩
    · exact ⟨d1, rfl, d3, d4, d5, d6, d7⟩
    · exact ⟨d1, d2, rfl, d4, d5, d6, d7⟩
  · rw [ne 38 (by omega), ne 36 (by omega), ne 34 (by omega), ne 37 (by omega), ne 39 (by omega)]; exact t
theorem bodyS (h : IY Y) (hr : RX X Y) {p1 n i1 k : Nat} (hk : 1 ≤ k) (hk3 : k ≤ 3) (hp : p1 ≤ LY Y) (hi : i1 ≤ p1) : BD X Y D1 p1 n i1 k 1 := by
  have hL := LY_le h
  have hs := tS_le Y hp
  have ke := kE_le hs.2
  have nl := nF_le Y (loK k) (hiK k 1) (tS Y p1)
  by_cases f1 : nF Y (loK k) (hiK k 1) (tS Y p1) = 0
  case neg =>
    refine Or.inl ⟨_, _, by omega, by omega, by omega, fun M1 l => x_bad h hr l (by omega) (Or.inl rfl) hp (by omega) f1, fun N1 st P z => ?_⟩
    obtain rfl | rfl | rfl : k = 1 ∨ k = 2 ∨ k = 3 := by omega
    · exact sw1 (y_readNum (lo := 0) (hi := 99) h st hs.2 (by decide) (by decide) (fun _ v N2 f => z _ (f.z0 (by decide) (by decide))) (fun c => absurd c f1))
    · exact sw2 (y_readNum (lo := 0) (hi := 99) h st hs.2 (by decide) (by decide) (fun _ v N2 f => z _ (f.z0 (by decide) (by decide))) (fun c => absurd c f1))
    · exact sw3 (y_readNum (lo := 1) (hi := 20) h st hs.2 (by decide) (by decide) (fun _ v N2 f => z _ (f.z0 (by decide) (by decide))) (fun c => absurd c f1))
  have g1 := kE_gt hs.2 (Y := Y) (by rw [(nF_0 f1).1]; decide)
  have hv := nF_0 f1
  refine Or.inr ⟨_, _, i1 + 1, by omega, ke.2.1, by omega, fun d => ?_, fun M1 l => x_sing h hr l hk hk3 hp (by omega) f1, fun N1 st P z => ?_⟩
  · obtain ⟨d1, d2, d3, d4⟩ := d
    obtain rfl | rfl | rfl : k = 1 ∨ k = 2 ∨ k = 3 := by omega
    · exact ⟨isN_nI (Nat.lt_of_le_of_lt hv.2.2 (by decide)) (by decide), d2, d3, d4⟩
    · exact ⟨d1, isN_nI (Nat.lt_of_le_of_lt hv.2.2 (by decide)) (by decide), d3, d4⟩
    · exact ⟨d1, d2, isN_nI (Nat.lt_of_le_of_lt hv.2.2 (by decide)) (by decide), d4⟩
  · obtain rfl | rfl | rfl : k = 1 ∨ k = 2 ∨ k = 3 := by omega
    · exact sw1 (y_readNum (lo := 0) (hi := 99) h st hs.2 (by decide) (by decide) (fun c => absurd f1 c) (fun _ N2 s2 => z _ (s2.sg (j := 0) (by decide))))
    · exact sw2 (y_readNum (lo := 0) (hi := 99) h st hs.2 (by decide) (by decide) (fun c => absurd f1 c) (fun _ N2 s2 => z _ (s2.sg (j := 1) (by decide))))
    · exact sw3 (y_readNum (lo := 1) (hi := 20) h st hs.2 (by decide) (by decide) (fun c => absurd f1 c) (fun _ N2 s2 => z _ (s2.sg (j := 2) (by decide))))
theorem bodyA (h : IY Y) (hr : RX X Y) {p1 n i1 k : Nat} (hk : k ≤ 5) (hp : p1 ≤ LY Y) (hi : i1 ≤ p1) : BD X Y D1 p1 n i1 k (if isSg k then 1 else 2) := by
  obtain rfl | rfl | rfl | rfl | rfl | rfl : k = 0 ∨ k = 1 ∨ k = 2 ∨ k = 3 ∨ k = 4 ∨ k = 5 := by omega
  · exact body0 h hr hp hi
  · exact bodyS h hr (by decide) (by decide) hp hi
  · exact bodyS h hr (by decide) (by decide) hp hi
  · exact bodyS h hr (by decide) (by decide) hp hi
  · exact body4 h hr hp hi
  · exact body5 h hr hp hi
theorem line (h : IY Y) (hr : RX X Y) {p n i : Nat} (hp : p ≤ LY Y) (hi : i ≤ p) (hn : n ≤ p) (h9 : kK Y (tS Y p) ≠ 9) (h0 : kK Y (tS Y p) ≠ 0) :
    (∃ c s, 1 ≤ c ∧ c ≤ 4 ∧ s ≤ 200 ∧ (∀ M, LT0 X M D p n → CF X M i c s) ∧ ∀ N, ST Y N D (tS Y p) → RF Y N c s) ∨ (∃ (D2 : zX) (p2 i2 : Nat), p < p2 ∧ p2 ≤ LY Y ∧ i2 ≤ p2 ∧ (ID D → ID D2) ∧ (∀ M, LT0 X M D p n → CG M i (fun M2 => LT0 X M2 D2 p2 (n + 1)) i2) ∧ ∀ N, ST Y N D (tS Y p) → RLn Y N D2 (tS Y p2)) := by
  have hL := LY_le h
  have hs := tS_le Y hp
  have g := kE_gt hs.2 h0
  have xb := fun M (lt : LT0 X M D p n) => x_begin h hr lt hp (i := i) (by omega) h9 h0
  have yb := fun N (st : ST Y N D (tS Y p)) => y_begin h st hs.2 h9
  by_cases k1 : kK Y (tS Y p) = 1
  case neg => exact Or.inl ⟨2, tS Y p, by decide, by decide, by omega, fun M l => (xb M l).1 k1, fun N s => (yb N s).1 k1⟩
  by_cases du : isSg (kV Y (tS Y p)) = true ∧ bt (D 0 3) (kV Y (tS Y p)) = true
  · exact Or.inl ⟨4, tS Y p, by decide, by decide, by omega, fun M l => ((xb M l).2 k1).1 du.1 du.2, fun N s => ((yb N s).2 k1).1 du.1 du.2⟩
  have xb := fun M l => ((xb M l).2 k1).2 du
  have yb := fun N s => ((yb N s).2 k1).2 du
  rcases bodyA (D1 := zs D 0 3 (D 0 3 ||| zshl 1 (nI (kV Y (tS Y p))))) (n := n) h hr (kV_le5 k1) g.2 (i1 := i + 1) (by omega) with ⟨c, s, h1, h4, hs4, bx, by_⟩ | ⟨D3, p3, i3, q1, q2, q3, q4, bx, by_⟩
  · exact Or.inl ⟨c, s, h1, h4, hs4, fun M l => (xb M l).cf bx, fun N s P z => yb N s P (fun N1 st1 => by_ N1 st1 P (fun N2 f => y_tailF f h1 h4 (z N2 f)))⟩
  · have hs3 := tS_le Y q2
    have sl := sF_le Y (tS Y p3)
    have hk := kV_le5 k1
    by_cases sf : sF Y (tS Y p3) = 0
    · have k3 : kK Y (tS Y p3) ≠ 0 := fun c => by unfold sF at sf; rw [c] at sf; cases sf
      have g3 := kE_gt hs3.2 k3
      exact Or.inr ⟨D3, kE Y (tS Y p3), i3 + 1, by omega, g3.2, by omega, fun d => q4 d, fun M l => ((xb M l).trans bx).trans (fun M2 l => (x_stop h hr l (by omega) (by omega) q2 (by omega)).2 sf), fun N s P z => yb N s P (fun N1 st1 => by_ N1 st1 P (fun N2 s2 => y_tail h s2 hs3.2 (fun c => absurd sf c) (fun _ => z)))⟩
    · exact Or.inl ⟨sF Y (tS Y p3), tS Y p3, by omega, by omega, by omega, fun M l => ((xb M l).trans bx).cf (fun M2 l => (x_stop h hr l (by omega) (by omega) q2 (by omega)).1 sf), fun N s P z => yb N s P (fun N1 st1 => by_ N1 st1 P (fun N2 s2 => y_tail h s2 hs3.2 (fun _ => z) (fun c => absurd c sf)))⟩
end LN
