/-! rows for constructors -/
def zmi {α β : Type} (f : Nat → α → β) : Nat → List α → List β
  | _, [] => []
  | n, a :: l => f n a :: zmi f (n + 1) l
theorem zmi_eq {α β : Type} (f : Nat → α → β) : ∀ (l : List α) (n : Nat), l.mapIdx (fun i a => f (n + i) a) = zmi f n l
  | [], n => by simp [zmi]
  | a :: l, n => by
    rw [List.mapIdx_cons]
    show f (n + 0) a :: _ = f n a :: zmi f (n + 1) l
    rw [← zmi_eq f l (n + 1)]
    congr 1
    congr 1
    funext i b
    rw [show n + (i + 1) = n + 1 + i by omega]
def zc2 (cy : Nat → ClassId) (ad : Nat → Nat) (X : zX) (k : Nat) (e : zE) : va_E := match e with
  | .inl (t, n, none) => .inl (cy t, n, .inl (X k))
  | .inl (t, n, some f) => .inl (cy t, n, .inr (.inr (.inr (.inr (fun j => (f j).map ad)))))
  | .inr (ci, fs) => .inr (ci, zmi (fun j f => zv ad X k j f) 0 fs)
theorem zc_eq (cy : Nat → ClassId) (ad : Nat → Nat) (X : zX) (k : Nat) (e : zE) : zc cy ad X k e = zc2 cy ad X k e := by
  match e with
  | .inl (t, n, none) => rfl
  | .inl (t, n, some f) => rfl
  | .inr (ci, fs) =>
    show Sum.inr (ci, fs.mapIdx (fun j f => zv ad X k j f)) = Sum.inr (ci, zmi (fun j f => zv ad X k j f) 0 fs)
    rw [← zmi_eq (fun j f => zv ad X k j f) fs 0]
    simp only [Nat.zero_add]
def zw2 (cy : Nat → ClassId) (ad : Nat → Nat) (X : zX) (sh : List zE) : va_W := zmi (fun k e => (ad k, zc2 cy ad X k e)) 0 sh
theorem zw_eq (cy : Nat → ClassId) (ad : Nat → Nat) (X : zX) (sh : List zE) : zw cy ad X sh = zw2 cy ad X sh := by
  unfold zw zw2
  rw [← zmi_eq (fun k e => (ad k, zc2 cy ad X k e)) sh 0]
  simp only [Nat.zero_add, zc_eq]
def zAO (U : State) : Prop := va_AO "WaysSung$Sheet" U ∧ ∃ (comp cA : ClassId) (kA : Class), U.vm.findClass "[I" = some comp ∧ U.vm.classes[cA]? = some kA ∧ kA.kind = .array comp (.array .int) ∧ U.vm.findClass "[[I" = some cA
theorem zAO.moved {u U : State} (hvm : u.vm.Alike U.vm) (h : zAO u) : zAO U := by
  obtain ⟨h1, comp, cA, kA, h2, h3, h4, h5⟩ := h
  obtain ⟨k2, hk2, he⟩ := hvm.2.2 _ _ h3
  exact ⟨va_AO.moved hvm h1, comp, cA, k2, by rw [hvm.findClass]; exact h2, hk2, by rw [he]; exact h4, by rw [hvm.findClass]; exact h5⟩
theorem zAO.of {A : Array Value} {U : State} (h1 : (Cond.arrayOver (.object "WaysSung$Sheet")).before A U = true) (h2 : (Cond.arrayOver (.array .int)).before A U = true) : zAO U := by
  obtain ⟨comp, cA, kA, hcomp, hidx, hkA, hkindA, hnameA⟩ := arrayOverA_spec h2
  exact ⟨va_AO.of h1, comp, cA, kA, hcomp, hkA, hkindA, hnameA⟩
theorem va_D.one {A : Nat → Prop} {x : Nat × va_E} (h : A x.1) : va_D A [x] := by
  refine ⟨fun a b y z ha hb _ => ?_, fun k q hk => ?_⟩
  · have h1 := (List.getElem?_eq_some_iff.mp ha).1
    have h2 := (List.getElem?_eq_some_iff.mp hb).1
    simp at h1 h2
    omega
  · have h1 := (List.getElem?_eq_some_iff.mp hk).1
    simp at h1
    subst h1
    cases hk
    exact h
section NB
variable {p : Program} {l : Launch} {e : Env} {R : Room} {s : State} {m : MethodId} {args : Array Value} {below : List Frame} {meth : Method} {c : Code} {H : Heap} {locs : List Loc} {cells slots : Nat} {Q : State → Prop}
variable {cc : ByteArray} {pc : Nat} {ls : Array Slot} {rest st0 : List Value} {dC : Nat → ClassId} {dI : Nat → Nat → Nat} {cy : Nat → ClassId} {A A0 A1 : Nat → Prop} {ws : va_W} {H0 : Heap} {free : Addr → Prop} {a : Array Value} {mc ms : Nat}
theorem z_newa (t : Nat) {atype : ArrayType} (hx : p.tables.exec = Jvm.exec) (hb : c.code = cc) (harr : (Cond.arrayClass (newarray.typeOf atype)).before args s = true) (ht : (zt cy)[t]? = some (cy t, newarray.typeOf atype)) (hdef : defaultValue (newarray.typeOf atype) = .int 0) (hK : va_K (dC, dI) vwCl (zt cy) s) (hP : va_P (dC, dI) vwCl ws H) (hD : va_D A ws) (hS : va_S A H0 H locs) (hA : ∀ q, H0.size ≤ q → A q)
    {n : Int32} (N : Nat) (hn : ¬ n < 0) (hN : n.toNatClampNeg = N) (hbytes : N * componentBytes (newarray.typeOf atype) ≤ 536870912) (hcells : cells + 1 ≤ R.cells) (hslots : slots + N ≤ R.slots) (hdg : decode cc pc = .ok (.newarray atype, 2))
    (kk : ∀ (q : Nat) (H1 : Heap), va_P (dC, dI) vwCl (ws ++ [(q, .inl (cy t, N, .inl (fun _ => 0)))]) H1 → va_D A (ws ++ [(q, .inl (cy t, N, .inl (fun _ => 0)))]) → va_S A H0 H1 locs → W p l e R s m args below meth c H1 locs (cells + 1) (slots + N) Q (F0 m (pc + 2) ls (.ref q :: rest))) : W p l e R s m args below meth c H locs cells slots Q (F0 m pc ls (.int n :: rest)) := by
  refine va_newa (a0 := (N, .inl (fun _ => 0))) hx hb harr rfl hK hP hD hS hA (fun cA => by rw [hdef]; rfl) hn hN hbytes hcells hslots hdg (fun q cA H1 hK1 hP1 hD1 hS1 => ?_)
  have h1 := (hK1.2 5 (cA, newarray.typeOf atype) rfl).2
  have h2 := (hK.2 t _ ht).2
  have e : cA = cy t := by cases atype <;> exact Option.some.inj (h1.symm.trans h2)
  subst e
  exact kk q H1 hP1 hD1 hS1
theorem z_anew (hx : p.tables.exec = Jvm.exec) (hb : c.code = cc) {own : String} {index : Nat} (hown : s.vm.findClass own = some m.cls) (hclink : (Cond.classLink own index "WaysSung$Sheet").before args s = true) (hao : zAO s) (hK : va_K (dC, dI) vwCl (zt cy) s) (hP : va_P (dC, dI) vwCl ws H) (hD : va_D A ws) (hS : va_S A H0 H locs) (hA : ∀ q, H0.size ≤ q → A q)
    {n : Int32} (N : Nat) (hn : ¬ n < 0) (hN : n.toNatClampNeg = N) (hbytes : N * 4 ≤ 536870912) (hcells : cells + 1 ≤ R.cells) (hslots : slots + N ≤ R.slots) (hdg : decode cc pc = .ok (.anewarray index, 3))
    (kk : ∀ (q : Nat) (H1 : Heap), va_P (dC, dI) vwCl (ws ++ [(q, .inl (cy 3, N, .inr (.inr (.inr (.inr (fun _ => none))))))]) H1 → va_D A (ws ++ [(q, .inl (cy 3, N, .inr (.inr (.inr (.inr (fun _ => none))))))]) → va_S A H0 H1 locs → W p l e R s m args below meth c H1 locs (cells + 1) (slots + N) Q (F0 m (pc + 3) ls (.ref q :: rest))) : W p l e R s m args below meth c H locs cells slots Q (F0 m pc ls (.int n :: rest)) := by
  refine va_newq hx hb hown hclink hao.1 hK hP hD hS hA hn hN hbytes hcells hslots hdg (fun q cA H1 hK1 hP1 hD1 hS1 => ?_)
  obtain ⟨k1, c1, -, -, -, h1⟩ := (hK1.2 5 (cA, .object "WaysSung$Sheet") rfl).2
  obtain ⟨k2, c2, -, -, -, h2⟩ := (hK.2 3 (cy 3, .object "WaysSung$Sheet") rfl).2
  have e : cA = cy 3 := Option.some.inj (h1.symm.trans h2)
  subst e
  exact kk q H1 hP1 hD1 hS1
theorem va_D.apps {D : va_G} {cl : List vw_C} {w2 : va_W} (hD : va_D A ws) (hP : va_P D cl ws H) (h2 : ∀ (i : Nat) (x : Nat × va_E), w2[i]? = some x → x.1 = H.size + i) (hA : ∀ q, H.size ≤ q → A q) : va_D A (ws ++ w2) := by
  have key : ∀ (k : Nat) (x : Nat × va_E), (ws ++ w2)[k]? = some x → (k < ws.length ∧ ws[k]? = some x ∧ x.1 < H.size) ∨ (ws.length ≤ k ∧ x.1 = H.size + (k - ws.length)) := by
    intro k x hk
    by_cases h : k < ws.length
    · rw [List.getElem?_append_left h] at hk
      exact Or.inl ⟨h, hk, (hP k x hk).lt⟩
    · rw [List.getElem?_append_right (by omega)] at hk
      exact Or.inr ⟨by omega, h2 _ x hk⟩
  refine ⟨fun i j x y hx hy hxy => ?_, fun k x hk => ?_⟩
  · rcases key i x hx with ⟨a1, a2, a3⟩ | ⟨a1, a2⟩ <;> rcases key j y hy with ⟨b1, b2, b3⟩ | ⟨b1, b2⟩
    · exact hD.1 i j x y a2 b2 hxy
    · omega
    · omega
    · omega
  · rcases key k x hk with ⟨a1, a2, a3⟩ | ⟨a1, a2⟩
    · exact hD.2 k x a2
    · exact hA _ (by omega)
def maW (cy : Nat → ClassId) (q N M : Nat) : va_W := (q, .inl (cy 4, N, .inr (.inr (.inr (.inr (fun j => if j < N then some (q + 1 + j) else none)))))) :: (List.range N).map (fun j => (q + 1 + j, .inl (cy 1, M, .inl (fun _ => 0))))
theorem z_multi (hx : p.tables.exec = Jvm.exec) (hb : c.code = cc) {own : String} {index : Nat} (hown : s.vm.findClass own = some m.cls) (hclink : (Cond.classLink own index "[[I").before args s = true) (hao : zAO s) (harr : (Cond.arrayClass .int).before args s = true) (hK : va_K (dC, dI) vwCl (zt cy) s) (hP : va_P (dC, dI) vwCl ws H) (hD : va_D A ws) (hS : va_S A H0 H locs) (hA : ∀ q, H0.size ≤ q → A q)
    (N M : Nat) {n1 n2 : Int32} (e1 : n1 = nI N) (e2 : n2 = nI M) (hN0 : 0 < N) (hN : N < 1000) (hM : M < 1000) (hcells : cells + 1 + N ≤ R.cells) (hslots : slots + N + N * M ≤ R.slots) (hdg : decode cc pc = .ok (.multianewarray index 2, 4))
    (kk : ∀ (q : Nat) (H1 : Heap) (locs1 : List Loc), va_P (dC, dI) vwCl (ws ++ maW cy q N M) H1 → va_D A (ws ++ maW cy q N M) → va_S A H0 H1 locs1 → W p l e R s m args below meth c H1 locs1 (cells + 1 + N) (slots + N + N * M) Q (F0 m (pc + 4) ls (.ref q :: rest))) : W p l e R s m args below meth c H locs cells slots Q (F0 m pc ls (.int n2 :: .int n1 :: rest)) := by
  subst e1; subst e2
  refine W_multi hx hb hown hclink hao.2 harr (g := F0 m pc ls (.int (nI M) :: .int (nI N) :: rest)) rfl hdg (N := N) (M := M) rfl hN0 hN hM hcells hslots (fun H2 locs2 cA comp kA k c2 g1 g2 g3 g4 g5 g6 g7 g8 g9 g10 g11 => ?_)
  have h4 : s.vm.findClass "[[I" = some (cy 4) := (hK.2 4 (cy 4, .array .int) rfl).2
  have h1 : s.vm.findClass "[I" = some (cy 1) := (hK.2 1 (cy 1, .int) rfl).2
  cases g1.symm.trans h4
  cases g4.symm.trans h1
  have at2 : ∀ (i : Nat) (x : Nat × va_E), (maW cy H.size N M)[i]? = some x → x.1 = H.size + i ∧ va_at (dC, dI) vwCl x H2 := by
    intro i x hx2
    match i, hx2 with
    | 0, hx2 => 
      cases hx2
      exact ⟨rfl, g9⟩
    | i + 1, hx2 =>
      have hx3 : ((List.range N).map (fun j => ((H.size + 1 + j, .inl (cy 1, M, .inl (fun _ => 0))) : Nat × va_E)))[i]? = some x := hx2
      rw [List.getElem?_map] at hx3
      by_cases hi : i < N
      · rw [List.getElem?_range hi] at hx3
        cases hx3
        exact ⟨by show H.size + 1 + i = _; omega, g10 i hi⟩
      · rw [List.getElem?_eq_none (by rw [List.length_range]; omega)] at hx3; cases hx3
  refine kk H.size H2 locs2 ((hP.kept (fun k x hk => g8 x.1 ((hP k x hk).lt))).app (fun k x hk => (at2 k x hk).2)) (hD.apps hP (fun i x hk => (at2 i x hk).1) (fun q hq => hA q (Nat.le_trans hS.1 hq))) ⟨Nat.le_trans hS.1 (by rw [g7]; omega), fun q h1 h2 => (g8 q (Nat.lt_of_lt_of_le h1 hS.1)).trans (hS.2.1 q h1 h2), fun q hq => ?_⟩
  rcases g11 q hq with h | h
  · exact hS.2.2 q h
  · rw [h]; exact hA _ hS.1
def zz : zX := fun _ _ => 0
def nQ (dC : Nat → ClassId) (dI : Nat → Nat → Nat) (cy : Nat → ClassId) (ad : Nat → Nat) (sh : List zE) (P1 : zX → Prop) (A : Nat → Prop) : Array Value → State → Outcome → State → Prop := fun _ st oc t =>
  (oc = .returned none ∧ ∃ (ad2 : Nat → Nat) (X : zX), P1 X ∧ ad2 0 = ad 0 ∧ (∀ k, 900 ≤ k → ad2 k = ad k) ∧ va_P (dC, dI) vwCl (zw cy ad2 X sh) t.heap ∧ va_D A (zw cy ad2 X sh)) ∧ va_F A st t
def nR (lv mc ms : Nat) : Room := { frames := lv, cells := mc, slots := ms, locals := 36 * lv }
def nB (dC : Nat → ClassId) (dI : Nat → Nat → Nat) (cy : Nat → ClassId) (ad : Nat → Nat) (sh : List zE) (sz : Nat) : State → Prop := fun U => zB dC dI cy ad sh zz sz U ∧ zAO U
theorem nB_blind (dC : Nat → ClassId) (dI : Nat → Nat → Nat) (cy : Nat → ClassId) (ad : Nat → Nat) (sh : List zE) (sz : Nat) (as : List Value) : FrameBlind (va_Pc as (nB dC dI cy ad sh sz)) := fun a U g mk q => by
  have h := zB_blind dC dI cy ad sh zz sz as a U g mk ⟨q.1, q.2.1⟩
  exact ⟨h.1, h.2, zAO.moved (u := U) (U := U.calling g mk a) (Vm.Alike.refl U.vm) q.2.2⟩
def zNc (mi : zM) (lv mc ms : Nat) (as : List Value) (sh0 sh1 : List zE) (P1 : zX → Prop) : Prop :=
  ∀ (l : Launch) (dC : Nat → ClassId) (dI : Nat → Nat → Nat) (cy : Nat → ClassId) (ad : Nat → Nat) (sz : Nat), Met l mi.1 (zws mi) (nR lv mc ms) (va_Pc (as.map (zk ad)) (nB dC dI cy ad sh0 sz)) (nQ dC dI cy ad sh1 P1 (va_A (zw cy ad zz sh0) sz)) mc ms (va_A (zw cy ad zz sh0) sz)
/-- behind a call of a constructor -/
theorem n_back {ad : Nat → Nat} {sh : List zE} {P1 : zX → Prop} (hr : va_Run p l e R s m args below meth c H locs cells slots mc ms (F0 m pc ls st0) rest (nQ dC dI cy ad sh P1 A1 a) free) (hS : va_S A0 H0 H locs) (hA : ∀ q, A1 q → A0 q) (hf : ∀ q, free q → A0 q)
    (kk : ∀ (ad2 : Nat → Nat) (X1 : zX) (H1 : Heap) (locs1 : List Loc), P1 X1 → ad2 0 = ad 0 → (∀ k, 900 ≤ k → ad2 k = ad k) → va_P (dC, dI) vwCl (zw cy ad2 X1 sh) H1 → va_D A1 (zw cy ad2 X1 sh) → (∀ q : Nat, q < H.size → ¬ A1 q → H1[q]? = H[q]?) → va_S A0 H0 H1 locs1 → W p l e R s m args below meth c H1 locs1 (cells + mc) (slots + ms) Q (F0 m (pc + 3) ls rest)) : W p l e R s m args below meth c H locs cells slots Q (F0 m pc ls st0) := by
  intro T hT X
  obtain ⟨v, st₀, t, T', L, h0, X', hL, e1, e2, ⟨⟨hv, ad2, X1, g0, g1, g2, hbP, hbD⟩, hz, hk⟩, st⟩ := hr T hT X
  cases hv
  rw [h0] at hz hk
  obtain ⟨t2, a1, b1⟩ := kk ad2 X1 T'.heap (locs ++ L) g0 g1 g2 (by rw [e1]; exact hbP) hbD (fun q h1 h2 => by rw [e1]; exact hk q h1 h2)
    ⟨Nat.le_trans hS.1 (by rw [e1]; exact hz), fun q h1 h2 => by rw [e1, hk q (Nat.lt_of_lt_of_le h1 hS.1) (fun z => h2 (hA q z))]; exact hS.2.1 q h1 h2, fun q hq => by
      rcases List.mem_append.mp hq with h | h
      · exact hS.2.2 q h
      · exact hf _ (hL q h)⟩ T' rfl X'
  exact ⟨t2, st t2 a1, b1⟩
theorem n_call {mi mc0 : zM} {n lc idx i h mcC msC : Nat} {as : List Value} {e0 : zE} {sh1 : List zE} {P1 : zX → Prop} {ad : Nat → Nat} (ad0 : Nat → Nat) (C : zC p s m args meth c mi dC dI cy ad A) (hao : zAO s) (hd : decode mi.2.1 pc = .ok (.invokespecial idx, 3)) (hI : zI mc0 n) (hinit : mc0.1.name = "<init>") (hret : mc0.2.2.2 = none) (hinst : Cond.instanceMethod mc0.1 ∈ zG) (hl : zK mi.1.cls idx mc0) (hlv : lc + 1 ≤ R.frames ∧ 8 + (mc0.2.2.1 + 11) + 36 * lc ≤ R.locals) (had0 : ad0 0 = h) (hadS : ∀ k, 1000 ≤ k → ad0 k = ad k) (hw : ws[i]? = some (h, zc cy ad0 zz 0 e0)) (hn : as.length = n) (hst : st0 = (as.map (zk ad0)).reverse ++ .ref h :: rest) (hW : (rest.map fun v => v.category).sum ≤ 8) (hc : zNc mc0 lc mcC msC (.ref 0 :: as) [e0] sh1 P1) (hcells : cells + mcC ≤ R.cells) (hslots : slots + msC ≤ R.slots) (hP : va_P (dC, dI) vwCl ws H) (hD : va_D A ws) (hS : va_S A s.heap H locs) (hls : ls.size = mi.2.2.1)
    (kk : ∀ (ad2 : Nat → Nat) (X1 : zX) (H1 : Heap) (locs1 : List Loc), P1 X1 → ad2 0 = h → (∀ k, 900 ≤ k → ad2 k = ad0 k) → va_P (dC, dI) vwCl (zw cy ad2 X1 sh1) H1 → va_D (va_A [(h, zc cy ad0 zz 0 e0)] H.size) (zw cy ad2 X1 sh1) → (∀ q : Nat, q < H.size → ¬ va_A [(h, zc cy ad0 zz 0 e0)] H.size q → H1[q]? = H[q]?) → (∀ q, va_A [(h, zc cy ad0 zz 0 e0)] H.size q → A q) → va_S A s.heap H1 locs1 → W p l e R s m args below meth c H1 locs1 (cells + mcC) (slots + msC) Q (F0 m (pc + 3) ls rest)) : W p l e R s m args below meth c H locs cells slots Q (F0 m pc ls st0) := by
  obtain ⟨hx, hb, hml, hr, hown, hts, hN, hK, hlk, hA, hZ⟩ := id C
  subst had0
  have hPc : va_P (dC, dI) vwCl (zw cy ad0 zz [e0]) H := fun k q hk => by
    match k, hk with
    | 0, hk => cases hk; exact hP i _ hw
    | k + 1, hk => cases hk
  have hDc : va_D A (zw cy ad0 zz [e0]) := va_D.one (hD.2 i _ hw)
  have hF := zw_free hDc hS hA
  have hM := hc l dC dI cy ad0 H.size
  obtain ⟨hini, hcode, hd1, hd2, hd3⟩ := hI
  have hpre : PreS s H (va_Pc ((Value.ref 0 :: as).map (zk ad0)) (nB dC dI cy ad0 [e0] H.size)) (.ref (ad0 0) :: as.map (zk ad0)) := ⟨nB_blind dC dI cy ad0 [e0] H.size _, fun U hU hW => ⟨rfl, ⟨by rw [hU], by rw [hU]; exact hPc, va_K.moved hW.alike hK, fun w hw => zN_warm hw hW (hN w hw), hDc.weaken (fun _ _ _ _ => trivial), by rw [hU]; exact (((hZ.ads hadS).kept hS.2.1).narrow hF).warm hW⟩, zAO.moved hW.alike hao⟩⟩
  have hroom : 2 * (F0 m pc ls st0).monitorRoom + (rest.map fun v => v.category).sum ≤ 8 := lv_room hW
  rw [hret] at hcode
  rcases hl with hl | ⟨host, hl⟩
  · exact n_back (va_runI (n := n) (bytes := mc0.2.1) (maxL := mc0.2.2.1) (Ts := zG) ⟨hx, hb, hml, hown, hts⟩ hM ⟨callB_of n hts (zws_good (by rw [hret]; exact hcode)) (by unfold zws; rw [hret]) rfl rfl (hts _ hini) (hts _ hl) ⟨hd1, hd2, hd3⟩ hlv, hinit, hts _ hinst⟩ hpre rfl (by rw [List.length_map]; exact hn) hls (show st0 = _ from hst) hroom hd ⟨hcells, hslots⟩) hS hF hF (fun ad2 X1 H1 locs1 g0 g1 g2 g3 g4 g5 g6 => kk ad2 X1 H1 locs1 g0 g1 g2 g3 g4 g5 hF g6)
  · exact n_back (va_runIN (n := n) (bytes := mc0.2.1) (maxL := mc0.2.2.1) (Ts := zG) (host := host) ⟨hx, hb, hml, hown, hts⟩ hM ⟨va_cnB n hts (zws_good (by rw [hret]; exact hcode)) (by unfold zws; rw [hret]) rfl rfl (hN _ hl) (hts _ hini) ⟨hd1, hd2, hd3⟩ hlv, hinit, hts _ hinst⟩ hpre rfl (by rw [List.length_map]; exact hn) hls (show st0 = _ from hst) hroom hd ⟨hcells, hslots⟩) hS hF hF (fun ad2 X1 H1 locs1 g0 g1 g2 g3 g4 g5 g6 => kk ad2 X1 H1 locs1 g0 g1 g2 g3 g4 g5 hF g6)
/-- a call of a method whose world is all that stands here -/
theorem n_callw {mi mc0 : zM} {lc idx q ci : Nat} {fs : List (Option (Option Nat))} {sh : List zE} {X : zX} {P : zX → Prop} {ad : Nat → Nat} (ad1 : Nat → Nat) (C : zC p s m args meth c mi dC dI cy ad A) (hd : decode mi.2.1 pc = .ok (.invokevirtual idx, 3)) (hI : zI mc0 0) (hV : zV mc0) (hl : Cond.methodLink mi.1.cls idx mc0.1 ∈ zG) (hlv : lc + 1 ≤ R.frames ∧ 8 + (mc0.2.2.1 + 11) + 36 * lc ≤ R.locals) (hadS : ∀ k, 1000 ≤ k → ad1 k = ad k) (hs : sh[q]? = some (.inr (ci, fs))) (hcl : (vwCl[ci]?).map (fun r => r.1) = some mc0.1.cls) (hst : st0 = .ref (ad1 q) :: rest) (hW : (rest.map fun v => v.category).sum ≤ 8) (hc : zPw sh lc mc0 [.ref q] X P) (hcells : cells ≤ R.cells) (hslots : slots ≤ R.slots) (hP : va_P (dC, dI) vwCl (zw cy ad1 X sh) H) (hD : va_D A (zw cy ad1 X sh)) (hS : va_S A s.heap H locs) (hls : ls.size = mi.2.2.1)
    (kk : ∀ (X1 : zX) (H1 : Heap) (locs1 : List Loc), P X1 → va_P (dC, dI) vwCl (zw cy ad1 X1 sh) H1 → va_D A (zw cy ad1 X1 sh) → va_S A s.heap H1 locs1 → W p l e R s m args below meth c H1 locs1 cells slots Q (F0 m (pc + 3) ls rest)) : W p l e R s m args below meth c H locs cells slots Q (F0 m pc ls st0) := by
  obtain ⟨hx, hb, hml, hr, hown, hts, hN, hK, hlk, hA, hZ⟩ := id C
  have hF := zw_free hD hS hA
  have hM := hc l dC dI cy ad1 H.size
  obtain ⟨hini, hcode, hd1, hd2, hd3⟩ := hI
  cases hci : vwCl[ci]? with
  | none => rw [hci] at hcl; cases hcl
  | some r =>
    rw [hci] at hcl
    have hcl : r.1 = mc0.1.cls := Option.some.inj hcl
    have hrecv := va_recv hK hP (ci := ci) (q0 := q) hci (zw_at hs)
    rw [hcl] at hrecv
    have hpre : PreV s H mc0.1.cls (ad1 q) (va_Pc ([Value.ref q].map (zk ad1)) (zB dC dI cy ad1 sh X H.size)) [] := ⟨zB_blind dC dI cy ad1 sh X H.size _, hrecv, fun U hU hW => ⟨rfl, by rw [hU], by rw [hU]; exact hP, va_K.moved hW.alike hK, fun w hw => zN_warm hw hW (hN w hw), hD.weaken (fun _ _ _ _ => trivial), by rw [hU]; exact (((hZ.ads hadS).kept hS.2.1).narrow hF).warm hW⟩⟩
    have hroom : 2 * (F0 m pc ls st0).monitorRoom + (rest.map fun v => v.category).sum ≤ 8 := lv_room hW
    refine z_call (va_runV (C := mc0.1.cls) (n := 0) (bytes := mc0.2.1) (maxL := mc0.2.2.1) (ret := mc0.2.2.2) (Ts := zG) ⟨hx, hb, hml, hown, hts⟩ hM ⟨callB_of 0 hts (zws_good hcode) rfl rfl rfl (hts _ hini) (hts _ hl) ⟨hd1, hd2, hd3⟩ hlv, hts _ hV.1, hts _ hV.2⟩ hpre rfl rfl hls (show st0 = [].reverse ++ .ref (ad1 q) :: rest from hst) hroom hd ⟨hcells, hslots⟩) hS hF hF (fun r2 X1 H1 locs1 hp hP1 hD1 _ _ hS1 => ?_)
    obtain ⟨rfl, hp⟩ := hp
    exact kk X1 H1 locs1 hp hP1 (hD1.weaken (fun _ q _ h => hF q.1 h)) hS1
theorem zrow_eq {N b q : Nat} {ad2 : Nat → Nat} (h : ∀ j, j < N → ad2 (b + j) = q + 1 + j) : (fun j => if j < N then some (q + 1 + j) else none) = fun j => ((fun j => if j < N then some (b + j) else none : Nat → Option Nat) j).map ad2 := by
  funext j
  by_cases c : j < N
  · simp [c, h j c]
  · simp [c]
end NB
