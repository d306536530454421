/-! the law: rows -/
def mL : zM := (yL_law, code, 4, ret)
def lA (s : State) : Nat → Prop := fun q => s.heap.size ≤ q
theorem zC.ads {p : Program} {s : State} {m : MethodId} {args : Array Value} {meth : Method} {c : Code} {mi : zM} {dC : Nat → ClassId} {dI : Nat → Nat → Nat} {cy : Nat → ClassId} {ad ad2 : Nat → Nat} {A : Nat → Prop} (he : ∀ k, 1000 ≤ k → ad2 k = ad k) (C : zC p s m args meth c mi dC dI cy ad A) : zC p s m args meth c mi dC dI cy ad2 A := by
  obtain ⟨hx, hb, hml, hr, hown, hts, hN, hK, hlk, hA, hZ⟩ := C
  exact ⟨hx, hb, hml, hr, hown, hts, hN, hK, hlk, hA, hZ.ads he⟩
theorem va_P.sw2 {D : va_G} {cl : List vw_C} {w1 w2 : va_W} {H : Heap} (h : va_P D cl (w1 ++ w2) H) : va_P D cl (w2 ++ w1) H := by
  intro k q hk
  rcases List.mem_append.mp (List.mem_of_getElem? hk) with h1 | h1
  · obtain ⟨i, hi⟩ := List.getElem?_of_mem (List.mem_append_right w1 h1)
    exact h i q hi
  · obtain ⟨i, hi⟩ := List.getElem?_of_mem (List.mem_append_left w2 h1)
    exact h i q hi
theorem va_P.l {D : va_G} {cl : List vw_C} {w1 w2 : va_W} {H : Heap} (h : va_P D cl (w1 ++ w2) H) : va_P D cl w1 H := fun k q hk => h k q (by rw [List.getElem?_append_left (List.getElem?_eq_some_iff.mp hk).1]; exact hk)
theorem va_D.l {A : Nat → Prop} {w1 w2 : va_W} (h : va_D A (w1 ++ w2)) : va_D A w1 := ⟨fun i j x y hx hy => h.1 i j x y (by rw [List.getElem?_append_left (List.getElem?_eq_some_iff.mp hx).1]; exact hx) (by rw [List.getElem?_append_left (List.getElem?_eq_some_iff.mp hy).1]; exact hy), fun k q hk => h.2 k q (by rw [List.getElem?_append_left (List.getElem?_eq_some_iff.mp hk).1]; exact hk)⟩
theorem ap_r {w1 w2 : va_W} {k : Nat} {q : Nat × va_E} (hk : w2[k]? = some q) : (w1 ++ w2)[w1.length + k]? = some q := by rw [List.getElem?_append_right (by omega), show w1.length + k - w1.length = k by omega]; exact hk
theorem ap_l {w1 w2 : va_W} {k : Nat} {q : Nat × va_E} (hk : w1[k]? = some q) : (w1 ++ w2)[k]? = some q := by rw [List.getElem?_append_left (List.getElem?_eq_some_iff.mp hk).1]; exact hk
/-- two worlds are apart -/
theorem ap_ne {A : Nat → Prop} {w1 w2 : va_W} (h : va_D A (w1 ++ w2)) {i j : Nat} {x y : Nat × va_E} (hx : w1[i]? = some x) (hy : w2[j]? = some y) : x.1 ≠ y.1 := fun e => by
  have := h.1 i (w1.length + j) x y (ap_l hx) (ap_r hy) e
  have := (List.getElem?_eq_some_iff.mp hx).1
  omega
theorem va_D.mk2 {A : Nat → Prop} {w1 w2 : va_W} (h1 : va_D A w1) (h2 : va_D A w2) (hn : ∀ (i j : Nat) (x y : Nat × va_E), w1[i]? = some x → w2[j]? = some y → x.1 ≠ y.1) : va_D A (w1 ++ w2) := by
  have key : ∀ (k : Nat) (x : Nat × va_E), (w1 ++ w2)[k]? = some x → (k < w1.length ∧ w1[k]? = some x) ∨ (w1.length ≤ k ∧ w2[k - w1.length]? = some x) := by
    intro k x hk
    by_cases h : k < w1.length
    · rw [List.getElem?_append_left h] at hk; exact Or.inl ⟨h, hk⟩
    · rw [List.getElem?_append_right (by omega)] at hk; exact Or.inr ⟨by omega, hk⟩
  refine ⟨fun i j x y hx hy hxy => ?_, fun k x hk => ?_⟩
  · rcases key i x hx with ⟨a1, a2⟩ | ⟨a1, a2⟩ <;> rcases key j y hy with ⟨b1, b2⟩ | ⟨b1, b2⟩
    · exact h1.1 i j x y a2 b2 hxy
    · exact absurd hxy (hn i _ x y a2 b2)
    · exact absurd hxy.symm (hn j _ y x b2 a2)
    · have := h2.1 _ _ x y a2 b2 hxy; omega
  · rcases key k x hk with ⟨a1, a2⟩ | ⟨a1, a2⟩
    · exact h1.2 k x a2
    · exact h2.2 _ x a2
theorem va_D.sw2 {A : Nat → Prop} {w1 w2 : va_W} (h : va_D A (w1 ++ w2)) : va_D A (w2 ++ w1) := by
  have h2 : va_D A w2 := ⟨fun i j x y hx hy e => by have := h.1 _ _ x y (ap_r (w1 := w1) hx) (ap_r (w1 := w1) hy) e; omega, fun k q hk => h.2 _ q (ap_r hk)⟩
  exact va_D.mk2 h2 h.l (fun i j x y hx hy e => ap_ne h hy hx e.symm)
/-- the first of two worlds has changed -/
theorem two_join {A : Nat → Prop} {D : va_G} {cl : List vw_C} {w1 w2 w3 : va_W} {H H1 : Heap} (hP : va_P D cl (w1 ++ w2) H) (hD : va_D A (w1 ++ w2)) (hk : ∀ q : Nat, q < H.size → ¬ va_A w1 H.size q → H1[q]? = H[q]?) (hF : ∀ q, va_A w1 H.size q → A q) (hP1 : va_P D cl w3 H1) (hD1 : va_D (va_A w1 H.size) w3) : va_P D cl (w3 ++ w2) H1 ∧ va_D A (w3 ++ w2) := by
  have out : ∀ (j : Nat) (y : Nat × va_E), w2[j]? = some y → y.1 < H.size ∧ ¬ va_A w1 H.size y.1 := fun j y hy => by
    have lt := (hP _ y (ap_r hy)).lt
    refine ⟨lt, fun z => ?_⟩
    rcases z with ⟨k, e, hk2⟩ | z
    · exact ap_ne hD hk2 hy rfl
    · omega
  have h2 : va_D A w2 := hD.sw2.l
  refine ⟨hP1.app (fun k q hq => (hP _ q (ap_r hq)).kept (hk q.1 (out k q hq).1 (out k q hq).2)), va_D.mk2 (hD1.weaken (fun _ q _ h => hF q.1 h)) h2 (fun i j x y hx hy e => (out j y hy).2 (e ▸ hD1.2 i x hx))⟩
section LR
variable {p : Program} {l : Launch} {e : Env} {R : Room} {s : State} {m : MethodId} {args : Array Value} {below : List Frame} {meth : Method} {c : Code} {H : Heap} {locs : List Loc} {cells slots : Nat} {Q : State → Prop}
variable {pc : Nat} {ls : Array Slot} {rest st0 : List Value} {dC : Nat → ClassId} {dI : Nat → Nat → Nat} {cy : Nat → ClassId} {ad0 ax ay : Nat → Nat} {A A0 A1 : Nat → Prop} {X Y : zX} {a : Array Value} {H0 : Heap} {free : Addr → Prop}
def LPw (dC : Nat → ClassId) (dI : Nat → Nat → Nat) (cy : Nat → ClassId) (ad0 : Nat → Nat) (s : State) (qx qy : Nat) (H : Heap) (locs : List Loc) : Prop := ∃ (ax ay : Nat → Nat) (X Y : zX), ax 0 = qx ∧ ay 0 = qy ∧ (∀ k, 1000 ≤ k → ax k = ad0 k) ∧ (∀ k, 1000 ≤ k → ay k = ad0 k) ∧ Rel X Y ∧ va_P (dC, dI) vwCl (zw cy ax X SX ++ zw cy ay Y SY) H ∧ va_D (lA s) (zw cy ax X SX ++ zw cy ay Y SY) ∧ va_S (lA s) s.heap H locs
theorem l_arg {b L i : Nat} {qx qy : Nat} {xs : Nat → Int32} (k : Nat) (hk : k < 6) (C : zC p s m args meth c mL dC dI cy ad0 (lA s)) (hX : va_X b L xs s s.heap) (hbl : b < s.heap.size) (hl : lv_has ls 4 [(0, .ref b), (1, .ref qx), (2, .ref qy), (3, .int (nI i))]) (hi : i + 5 < L ∧ L < 100000) (h1 : decode code pc = .ok (.aload_n 0, 1)) (h2 : decode code (pc + 1) = .ok (.iload_n 3, 1)) (h3 : decode code (pc + 1 + 1) = .ok (.iconst k, 1)) (h4 : decode code (pc + 1 + 1 + 1) = .ok (.iadd, 1)) (h5 : decode code (pc + 1 + 1 + 1 + 1) = .ok (.iaload, 1)) (hS : va_S (lA s) s.heap H locs) (K : W p l e R s m args below meth c H locs cells slots Q (F0 m (pc + 1 + 1 + 1 + 1 + 1) ls (.int (xs (i + k)) :: rest))) : W p l e R s m args below meth c H locs cells slots Q (F0 m pc ls rest) := by
  refine lv_aload_n C.1 C.2.1 h1 rfl (lv_at hl 0 rfl) ?_
  refine lv_iload_n C.1 C.2.1 h2 rfl (lv_at hl 3 rfl) ?_
  refine lv_iconst (v := nI k) C.1 C.2.1 h3 rfl ?_
  refine lv_iadd C.1 C.2.1 h4 ?_
  rw [nI_add]
  refine va_sld (i := nI (i + k)) C.1 C.2.1 hX hbl (show ¬ lA s b from Nat.not_le.mpr hbl) hS (vp_in_nI (by omega) (by omega)) h5 ?_
  rw [nI_clamp (by omega)]
  exact K
theorem c_back {ad : Nat → Nat} {P : Int32 → zX → Prop} (hr : va_Run p l e R s m args below meth c H locs cells slots 0 0 (F0 m pc ls st0) rest (cQ dC dI cy ad P A1 a) free) (hS : va_S A0 H0 H locs) (hA : ∀ q, A1 q → A0 q) (hf : ∀ q, free q → A0 q)
    (kk : ∀ (v : Int32) (X2 : zX) (ad2 : Nat → Nat) (H1 : Heap) (locs1 : List Loc), ad2 0 = ad 0 → (∀ k, 1000 ≤ k → ad2 k = ad k) → P v X2 → va_P (dC, dI) vwCl (zw cy ad2 X2 SX) H1 → va_D A1 (zw cy ad2 X2 SX) → (∀ q : Nat, q < H.size → ¬ A1 q → H1[q]? = H[q]?) → va_S A0 H0 H1 locs1 → W p l e R s m args below meth c H1 locs1 cells slots Q (F0 m (pc + 3) ls (.int v :: rest))) : W p l e R s m args below meth c H locs cells slots Q (F0 m pc ls st0) := by
  intro T hT X
  obtain ⟨v, st₀, t, T', L, h0, X', hL, e1, e2, ⟨⟨r, X2, ad2, g1, g2, hv, hp, hbP, hbD⟩, hz, hk⟩, st⟩ := hr T hT X
  cases hv
  rw [h0] at hz hk
  obtain ⟨t2, a1, b1⟩ := kk r X2 ad2 T'.heap (locs ++ L) g1 g2 hp (by rw [e1]; exact hbP) hbD (fun q h1 h2 => by rw [e1]; exact hk q h1 h2)
    ⟨Nat.le_trans hS.1 (by rw [e1]; exact hz), fun q h1 h2 => by rw [e1, hk q (Nat.lt_of_lt_of_le h1 hS.1) (fun z => h2 (hA q z))]; exact hS.2.1 q h1 h2, fun q hq => by
      rcases List.mem_append.mp hq with h | h
      · exact hS.2.2 q h
      · exact hf _ (hL q h)⟩ T' rfl X'
  exact ⟨t2, st t2 a1, b1⟩
/-- a call of the class -/
theorem l_cx {mc : zM} {n lc idx qx : Nat} {as : List Value} {w2 : va_W} {P : Int32 → zX → Prop} (C : zC p s m args meth c mL dC dI cy ad0 (lA s)) (hd : decode code pc = .ok (.invokevirtual idx, 3)) (hI : zI mc n) (hV : zV mc) (hl : Cond.methodLink RL idx mc.1 ∈ zG) (hcl : mc.1.cls = RX9) (hlv : lc + 1 ≤ room_1.frames ∧ 8 + (mc.2.2.1 + 11) + 36 * lc ≤ room_1.locals) (hn : as.length = n) (has : as.map (zk ax) = as) (hst : st0 = as.reverse ++ .ref qx :: rest) (hW : (rest.map fun v => v.category).sum ≤ 8) (hc : zPc lc mc (.ref 0 :: as) X P) (hP : va_P (dC, dI) vwCl (zw cy ax X SX ++ w2) H) (hD : va_D (lA s) (zw cy ax X SX ++ w2)) (hS : va_S (lA s) s.heap H locs) (hls : ls.size = 4) (hx0 : ax 0 = qx) (hax : ∀ k, 1000 ≤ k → ax k = ad0 k) (hcs : cells ≤ room_1.cells ∧ slots ≤ room_1.slots)
    (kk : ∀ (v : Int32) (X2 : zX) (ax2 : Nat → Nat) (H1 : Heap) (locs1 : List Loc), ax2 0 = qx → (∀ k, 1000 ≤ k → ax2 k = ad0 k) → P v X2 → va_P (dC, dI) vwCl (zw cy ax2 X2 SX ++ w2) H1 → va_D (lA s) (zw cy ax2 X2 SX ++ w2) → va_S (lA s) s.heap H1 locs1 → W p l e room_1 s m args below meth c H1 locs1 cells slots Q (F0 m (pc + 3) ls (.int v :: rest))) : W p l e room_1 s m args below meth c H locs cells slots Q (F0 m pc ls st0) := by
  subst hx0
  obtain ⟨hx, hb, hml, hr, hown, hts, hN, hK, hlk, hA, hZ⟩ := id C
  have hP1 := hP.l
  have hD1 := hD.l
  have hF := zw_free hD1 hS hA
  have hM := hc l dC dI cy ax H.size
  obtain ⟨hini, hcode, hd1, hd2, hd3⟩ := hI
  have hrecv := va_recv hK hP1 (ci := 9) (q0 := 0) rfl (zw_at (sh := SX) (k := 0) rfl)
  have hpre : PreV s H mc.1.cls (ax 0) (va_Pc ((Value.ref 0 :: as).map (zk ax)) (zB dC dI cy ax SX X H.size)) as := ⟨zB_blind dC dI cy ax SX X H.size _, by rw [hcl]; exact hrecv, fun U hU hW => ⟨by show (Value.ref (ax 0) :: as).toArray = (Value.ref (ax 0) :: as.map (zk ax)).toArray; rw [has], by rw [hU], by rw [hU]; exact hP1, va_K.moved hW.alike hK, fun w hw => zN_warm hw hW (hN w hw), hD1.weaken (fun _ _ _ _ => trivial), by rw [hU]; exact (((hZ.ads hax).kept hS.2.1).narrow hF).warm hW⟩⟩
  exact c_back (va_runV (C := mc.1.cls) (n := n) (bytes := mc.2.1) (maxL := mc.2.2.1) (ret := mc.2.2.2) (Ts := zG) ⟨hx, hb, hml, hown, hts⟩ hM ⟨callB_of n hts (zws_good hcode) rfl rfl rfl (hts _ hini) (hts _ hl) ⟨hd1, hd2, hd3⟩ hlv, hts _ hV.1, hts _ hV.2⟩ hpre rfl hn hls (show st0 = _ from hst) (lv_room hW) hd hcs) hS hF hF (fun v X2 ax2 H1 locs1 g1 g2 hp hP2 hD2 hk hS2 => by
    obtain ⟨hP3, hD3⟩ := two_join hP hD hk hF hP2 hD2
    exact kk v X2 ax2 H1 locs1 g1 (fun k hk => (g2 k hk).trans (hax k hk)) hp hP3 hD3 hS2)
/-- a call of the reference -/
theorem l_cy {mc : zM} {n lc idx qy : Nat} {as : List Value} {w1 : va_W} {P : Int32 → zX → Prop} (C : zC p s m args meth c mL dC dI cy ad0 (lA s)) (hd : decode code pc = .ok (.invokevirtual idx, 3)) (hI : zI mc n) (hV : zV mc) (hl : Cond.methodLink RL idx mc.1 ∈ zG) (hcl : mc.1.cls = RX10) (hlv : lc + 1 ≤ room_1.frames ∧ 8 + (mc.2.2.1 + 11) + 36 * lc ≤ room_1.locals) (hn : as.length = n) (has : as.map (zk ay) = as) (hst : st0 = as.reverse ++ .ref qy :: rest) (hW : (rest.map fun v => v.category).sum ≤ 8) (hc : zPi SY lc mc (.ref 0 :: as) Y P) (hay : ∀ k, 1000 ≤ k → ay k = ad0 k) (hP : va_P (dC, dI) vwCl (w1 ++ zw cy ay Y SY) H) (hD : va_D (lA s) (w1 ++ zw cy ay Y SY)) (hS : va_S (lA s) s.heap H locs) (hls : ls.size = 4) (hy0 : ay 0 = qy) (hcs : cells ≤ room_1.cells ∧ slots ≤ room_1.slots)
    (kk : ∀ (v : Int32) (Y2 : zX) (H1 : Heap) (locs1 : List Loc), P v Y2 → va_P (dC, dI) vwCl (w1 ++ zw cy ay Y2 SY) H1 → va_D (lA s) (w1 ++ zw cy ay Y2 SY) → va_S (lA s) s.heap H1 locs1 → W p l e room_1 s m args below meth c H1 locs1 cells slots Q (F0 m (pc + 3) ls (.int v :: rest))) : W p l e room_1 s m args below meth c H locs cells slots Q (F0 m pc ls st0) := by
  subst hy0
  obtain ⟨hx, hb, hml, hr, hown, hts, hN, hK, hlk, hA, hZ⟩ := id C
  have hP1 := hP.sw2.l
  have hD1 := hD.sw2.l
  have hF := zw_free hD1 hS hA
  have hM := hc l dC dI cy ay H.size
  obtain ⟨hini, hcode, hd1, hd2, hd3⟩ := hI
  have hrecv := va_recv hK hP1 (ci := 10) (q0 := 0) rfl (zw_at (sh := SY) (k := 0) rfl)
  have hpre : PreV s H mc.1.cls (ay 0) (va_Pc ((Value.ref 0 :: as).map (zk ay)) (zB dC dI cy ay SY Y H.size)) as := ⟨zB_blind dC dI cy ay SY Y H.size _, by rw [hcl]; exact hrecv, fun U hU hW => ⟨by show (Value.ref (ay 0) :: as).toArray = (Value.ref (ay 0) :: as.map (zk ay)).toArray; rw [has], by rw [hU], by rw [hU]; exact hP1, va_K.moved hW.alike hK, fun w hw => zN_warm hw hW (hN w hw), hD1.weaken (fun _ _ _ _ => trivial), by rw [hU]; exact (((hZ.ads hay).kept hS.2.1).narrow hF).warm hW⟩⟩
  refine z_call (va_runV (C := mc.1.cls) (n := n) (bytes := mc.2.1) (maxL := mc.2.2.1) (ret := mc.2.2.2) (Ts := zG) ⟨hx, hb, hml, hown, hts⟩ hM ⟨callB_of n hts (zws_good hcode) rfl rfl rfl (hts _ hini) (hts _ hl) ⟨hd1, hd2, hd3⟩ hlv, hts _ hV.1, hts _ hV.2⟩ hpre rfl hn hls (show st0 = _ from hst) (lv_room hW) hd hcs) hS hF hF (fun r Y2 H1 locs1 hp hP2 hD2 _ hk hS2 => ?_)
  obtain ⟨v, rfl, hp⟩ := hp
  obtain ⟨hP3, hD3⟩ := two_join hP.sw2 hD.sw2 hk hF hP2 hD2
  exact kk v Y2 H1 locs1 hp hP3.sw2 hD3.sw2 hS2
end LR
