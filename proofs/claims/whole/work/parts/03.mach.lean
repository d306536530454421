/-! the small machine: memories, worlds, the judgement zJ -/
abbrev zX : Type := Nat → Nat → Int32
/-- a cell's shape: an array (place in zt, length, its references) or an object (place in vwCl, its fields: none a number, some: a reference or null) -/
abbrev zE : Type := (Nat × Nat × Option (Nat → Option Nat)) ⊕ (Nat × List (Option (Option Nat)))
abbrev zM : Type := MethodName × ByteArray × Nat × Option FieldType
def zt (cy : Nat → ClassId) : List (ClassId × FieldType) := [(cy 0, .byte), (cy 1, .int), (cy 2, .boolean), (cy 3, .object "WaysSung$Sheet"), (cy 4, .array .int)]
def zv (ad : Nat → Nat) (X : zX) (k j : Nat) (f : Option (Option Nat)) : Value := match f with
  | none => .int (X k j)
  | some none => .null
  | some (some q) => .ref (ad q)
def zc (cy : Nat → ClassId) (ad : Nat → Nat) (X : zX) (k : Nat) (e : zE) : va_E := match e with
  | .inl (t, n, none) => .inl (cy t, n, .inl (X k))
  | .inl (t, n, some f) => .inl (cy t, n, .inr (.inr (.inr (.inr (fun j => (f j).map ad)))))
  | .inr (ci, fs) => .inr (ci, fs.mapIdx (fun j f => zv ad X k j f))
def zw (cy : Nat → ClassId) (ad : Nat → Nat) (X : zX) (sh : List zE) : va_W := sh.mapIdx (fun k e => (ad k, zc cy ad X k e))
theorem zw_at {cy : Nat → ClassId} {ad : Nat → Nat} {X : zX} {sh : List zE} {k : Nat} {e : zE} (h : sh[k]? = some e) : (zw cy ad X sh)[k]? = some (ad k, zc cy ad X k e) := by
  unfold zw; rw [List.getElem?_mapIdx, h]; rfl
/-- one number of a cell is written -/
def zs (X : zX) (q k : Nat) (v : Int32) : zX := fun a => if a = q then upd (X a) k v else X a
theorem zs_row (X : zX) (q k : Nat) (v : Int32) : zs X q k v q = upd (X q) k v := if_pos rfl
theorem zs_ne {X : zX} {q k : Nat} {v : Int32} {a : Nat} (h : a ≠ q) : zs X q k v a = X a := if_neg h
theorem zs_eq (X : zX) (q k : Nat) (v : Int32) : zs X q k v q k = v := by rw [zs_row]; exact if_pos rfl
theorem zs_nk {X : zX} {q k : Nat} {v : Int32} {b : Nat} (h : b ≠ k) : zs X q k v q b = X q b := by rw [zs_row]; exact if_neg h
theorem zs_at (X : zX) (q k : Nat) (v : Int32) (a b : Nat) : zs X q k v a b = if a = q ∧ b = k then v else X a b := by
  by_cases h : a = q
  · subst h
    rw [zs_row]; unfold upd
    by_cases h2 : b = k <;> simp [h2]
  · rw [zs_ne h]; simp [h]
theorem zc_ne {cy : Nat → ClassId} {ad : Nat → Nat} {X Y : zX} {k : Nat} {e : zE} (h : X k = Y k) : zc cy ad X k e = zc cy ad Y k e := by
  match e with
  | .inl (t, n, none) => simp only [zc, h]
  | .inl (t, n, some f) => rfl
  | .inr (ci, fs) =>
    simp only [zc]
    congr 3
    funext j f
    match f with
    | none => simp only [zv, h]
    | some none => rfl
    | some (some q) => rfl
/-- a world in which one cell is put anew -/
theorem zw_set {cy : Nat → ClassId} {ad : Nat → Nat} {X : zX} {sh : List zE} {q : Nat} {e : zE} (hs : sh[q]? = some e) {x : va_E} {Y : zX} (hY : ∀ a, a ≠ q → Y a = X a) (hx : x = zc cy ad Y q e) : (zw cy ad X sh).set q (ad q, x) = zw cy ad Y sh := by
  subst hx
  apply List.ext_getElem?
  intro i
  rw [List.getElem?_set]
  by_cases h : q = i
  · subst h
    have hl : q < (zw cy ad X sh).length := by unfold zw; rw [List.length_mapIdx]; exact (List.getElem?_eq_some_iff.mp hs).1
    rw [if_pos rfl, if_pos hl, zw_at hs]
  · rw [if_neg h]
    unfold zw
    rw [List.getElem?_mapIdx, List.getElem?_mapIdx]
    cases hi : sh[i]? with
    | none => rfl
    | some e2 => simp only [Option.map_some]; rw [zc_ne (hY i (fun h2 => h h2.symm)).symm]
def zk (ad : Nat → Nat) (v : Value) : Value := match v with
  | .ref q => .ref (ad q)
  | v => v
theorem zk_cat (ad : Nat → Nat) (v : Value) : (zk ad v).category = v.category := by cases v <;> rfl
/-- the locals, by their places -/
def zL (ad : Nat → Nat) (ls : Array Slot) (nL : Nat) (L : List (Option Value)) : Prop := ls.size = nL ∧ lv_wf ls ∧ ∀ (i : Nat) (v : Value), L[i]? = some (some v) → ls[i]? = some (.val (zk ad v))
def zl (ad : Nat → Nat) (L : List (Option Value)) : List (Nat × Value) := (List.range L.length).filterMap fun i => match L[i]? with
  | some (some v) => some (i, zk ad v)
  | _ => none
theorem zl_mem {ad : Nat → Nat} {L : List (Option Value)} {q : Nat × Value} : q ∈ zl ad L ↔ ∃ v, L[q.1]? = some (some v) ∧ q.2 = zk ad v := by
  unfold zl
  rw [List.mem_filterMap]
  constructor
  · rintro ⟨i, -, h⟩
    split at h
    · rename_i v hv
      cases h
      exact ⟨v, hv, rfl⟩
    · cases h
  · rintro ⟨v, h1, h2⟩
    refine ⟨q.1, List.mem_range.mpr (List.getElem?_eq_some_iff.mp h1).1, ?_⟩
    rw [h1]
    simp only [← h2]
theorem zL.has {ad : Nat → Nat} {ls : Array Slot} {nL : Nat} {L : List (Option Value)} (h : zL ad ls nL L) : lv_has ls nL (zl ad L) := ⟨h.1, h.2.1, fun q hq => by
  obtain ⟨v, h1, h2⟩ := zl_mem.mp hq
  rw [h2]; exact h.2.2 _ _ h1⟩
theorem zL.set1 {ad : Nat → Nat} {ls : Array Slot} {nL i : Nat} {L : List (Option Value)} {v : Value} (h : lv_has ls nL ((i, zk ad v) :: (zl ad L).filter (fun q => !(q.1 == i) && !(q.1 + 1 == i && q.2.category == 2)))) (hc : ∀ (j : Nat) (w : Value), j + 1 = i → L[j]? = some (some w) → w.category = 1) : zL ad ls nL (L.set i (some v)) := by
  refine ⟨h.1, h.2.1, fun j w hj => ?_⟩
  rw [List.getElem?_set] at hj
  by_cases e : i = j
  · subst e
    rw [if_pos rfl] at hj
    split at hj
    · cases hj
      exact h.2.2 (i, zk ad v) List.mem_cons_self
    · cases hj
  · rw [if_neg e] at hj
    refine h.2.2 (j, zk ad w) (List.mem_cons_of_mem _ (List.mem_filter.mpr ⟨zl_mem.mpr ⟨w, hj, rfl⟩, ?_⟩))
    have e1 : (j == i) = false := by simpa using fun h => e h.symm
    by_cases e2 : j + 1 = i
    · have := hc j w e2 hj
      simp [e1, zk_cat, this]
    · simp [e1, e2]
theorem zL.set2 {ad : Nat → Nat} {ls : Array Slot} {nL i : Nat} {L : List (Option Value)} {v : Value} (h : lv_has ls nL ((i, zk ad v) :: (zl ad L).filter (fun q => !(q.1 == i) && (!(q.1 == i + 1) && !(q.1 + 1 == i && q.2.category == 2))))) (hc : ∀ (j : Nat) (w : Value), j + 1 = i → L[j]? = some (some w) → w.category = 1) : zL ad ls nL ((L.set i (some v)).set (i + 1) none) := by
  refine ⟨h.1, h.2.1, fun j w hj => ?_⟩
  rw [List.getElem?_set] at hj
  by_cases e0 : i + 1 = j
  · rw [if_pos e0] at hj
    split at hj <;> cases hj
  · rw [if_neg e0, List.getElem?_set] at hj
    by_cases e : i = j
    · subst e
      rw [if_pos rfl] at hj
      split at hj
      · cases hj
        exact h.2.2 (i, zk ad v) List.mem_cons_self
      · cases hj
    · rw [if_neg e] at hj
      refine h.2.2 (j, zk ad w) (List.mem_cons_of_mem _ (List.mem_filter.mpr ⟨zl_mem.mpr ⟨w, hj, rfl⟩, ?_⟩))
      have e1 : (j == i) = false := by simpa using fun h => e h.symm
      have e3 : (j == i + 1) = false := by simpa using fun h => e0 h.symm
      by_cases e2 : j + 1 = i
      · have := hc j w e2 hj
        simp [e1, e3, zk_cat, this]
      · simp [e1, e2, e3]
/-- a method's end: its answer and the memory behind it -/
def zQ (dC : Nat → ClassId) (dI : Nat → Nat → Nat) (cy : Nat → ClassId) (ad : Nat → Nat) (sh : List zE) (Post : Option Value → zX → Prop) (A : Nat → Prop) : Array Value → State → Outcome → State → Prop := fun _ st oc t =>
  (∃ (r : Option Value) (X : zX), oc = .returned (r.map (zk ad)) ∧ Post r X ∧ va_P (dC, dI) vwCl (zw cy ad X sh) t.heap ∧ va_D A (zw cy ad X sh)) ∧ va_F A st t
def zr (lv : Nat) : Room := { frames := lv, cells := 0, slots := 0, locals := 36 * lv }
/-! the String constants: they lie outside; cell 1000 + 2 i is the i-th, 1001 + 2 i its bytes -/
def zSi : List Nat := [86, 92, 94, 96, 98, 100]
def zTx : List String := ["hear", "sing", "tell", "carry", "dry", "pair"]
def zByt : List (List Int32) := [[104, 101, 97, 114], [115, 105, 110, 103], [116, 101, 108, 108], [99, 97, 114, 114, 121], [100, 114, 121], [112, 97, 105, 114]]
def zLen : List Nat := [4, 4, 4, 5, 3, 4]
def zS (ad : Nat → Nat) (A : Nat → Prop) (U : State) (H : Heap) : Prop := vk_S 6 zLen zByt (fun i => ad (1000 + 2 * i)) (fun i => ad (1001 + 2 * i)) A U H ∧ (∀ i, i < 6 → vk_R "WaysSung$Reader" (zSi.getD i 0) (zTx.getD i "") (ad (1000 + 2 * i)) U) ∧ va_Z "java/lang/String" "COMPACT_STRINGS" "Z" (.int 1) A U H ∧ ∃ v : Value, (v = .null ∨ v = .ref (ad 1012)) ∧ va_Z "jdk/internal/util/Preconditions" "SIOOBE_FORMATTER" "Ljava/util/function/BiFunction;" v A U H
theorem zS.kept {ad : Nat → Nat} {A : Nat → Prop} {U : State} {H H1 : Heap} (h : zS ad A U H) (hq : ∀ a : Nat, a < H.size → ¬ A a → H1[a]? = H[a]?) : zS ad A U H1 := by
  obtain ⟨h1, h2, h3, v, h4, h5⟩ := h
  exact ⟨h1.kept hq, h2, h3.kept hq, v, h4, h5.kept hq⟩
theorem zS.narrow {ad : Nat → Nat} {A B : Nat → Prop} {U : State} {H : Heap} (h : zS ad A U H) (hAB : ∀ q, B q → A q) : zS ad B U H := by
  obtain ⟨h1, h2, h3, v, h4, h5⟩ := h
  exact ⟨h1.narrow hAB, h2, h3.narrow hAB, v, h4, h5.narrow hAB⟩
theorem zS.warm {ad : Nat → Nat} {A : Nat → Prop} {s U : State} {H : Heap} (hW : s.WarmedH U.vm) (h : zS ad A s H) : zS ad A U H := by
  obtain ⟨h1, h2, h3, v, h4, h5⟩ := h
  exact ⟨vk_S.moved hW.alike h1, fun i hi => (h2 i hi).warm hW, va_Z.moved hW.alike h3, v, h4, va_Z.moved hW.alike h5⟩
theorem zS.same {ad : Nat → Nat} {A : Nat → Prop} {s U : State} {H : Heap} (hv : U.vm = s.vm) (h : zS ad A s H) : zS ad A U H := by
  have ha : s.vm.Alike U.vm := hv ▸ Vm.Alike.refl s.vm
  obtain ⟨h1, h2, h3, v, h4, h5⟩ := h
  exact ⟨vk_S.moved ha h1, fun i hi => (h2 i hi).same hv, va_Z.moved ha h3, v, h4, va_Z.moved ha h5⟩
theorem zS.ads {ad ad2 : Nat → Nat} {A : Nat → Prop} {U : State} {H : Heap} (he : ∀ k, 1000 ≤ k → ad2 k = ad k) (h : zS ad A U H) : zS ad2 A U H := by
  have e1 : (fun i => ad2 (1000 + 2 * i)) = fun i => ad (1000 + 2 * i) := funext fun i => he _ (by omega)
  have e2 : (fun i => ad2 (1001 + 2 * i)) = fun i => ad (1001 + 2 * i) := funext fun i => he _ (by omega)
  obtain ⟨h1, h2, h3, v, h4, h5⟩ := h
  refine ⟨by rw [e1, e2]; exact h1, fun i hi => by rw [he _ (by omega)]; exact h2 i hi, h3, v, by rw [he _ (by omega)]; exact h4, h5⟩
def zC (p : Program) (s : State) (m : MethodId) (args : Array Value) (meth : Method) (c : Code) (mi : zM) (dC : Nat → ClassId) (dI : Nat → Nat → Nat) (cy : Nat → ClassId) (ad : Nat → Nat) (A : Nat → Prop) : Prop :=
  p.tables.exec = Jvm.exec ∧ c.code = mi.2.1 ∧ c.maxLocals = mi.2.2.1 ∧ meth.sig.returnType = mi.2.2.2 ∧ s.vm.findClass mi.1.cls = some m.cls ∧ (∀ w ∈ zG, w.before args s = true) ∧ (∀ w ∈ zN, va_Nw w s) ∧ va_K (dC, dI) vwCl (zt cy) s ∧ meth.locks = false ∧ (∀ q, s.heap.size ≤ q → A q) ∧ zS ad A s s.heap
/-- from here the method comes to its end with Post -/
def zJ (sh : List zE) (lv : Nat) (mi : zM) (Post : Option Value → zX → Prop) (pc : Nat) (L : List (Option Value)) (st : List Value) (X : zX) : Prop :=
  ∀ (p : Program) (l : Launch) (e : Env) (s : State) (m : MethodId) (args : Array Value) (below : List Frame) (meth : Method) (c : Code) (dC : Nat → ClassId) (dI : Nat → Nat → Nat) (cy : Nat → ClassId) (ad : Nat → Nat) (A : Nat → Prop), zC p s m args meth c mi dC dI cy ad A →
    ∀ (H : Heap) (locs : List Loc) (ls : Array Slot), va_P (dC, dI) vwCl (zw cy ad X sh) H → va_D A (zw cy ad X sh) → va_S A s.heap H locs → zL ad ls mi.2.2.1 L →
      W p l e (zr lv) s m args below meth c H locs 0 0 (MQ below (zQ dC dI cy ad sh Post A) args s 0 0 A) (F0 m pc ls (st.map (zk ad)))
def zws (mi : zM) : List Cond := .code mi.1 mi.2.1 mi.2.2.1 mi.2.2.2 :: zG
def zB (dC : Nat → ClassId) (dI : Nat → Nat → Nat) (cy : Nat → ClassId) (ad : Nat → Nat) (sh : List zE) (X : zX) (sz : Nat) : State → Prop := fun U => U.heap.size = sz ∧ va_P (dC, dI) vwCl (zw cy ad X sh) U.heap ∧ va_K (dC, dI) vwCl (zt cy) U ∧ (∀ w ∈ zN, va_Nw w U) ∧ va_D (fun _ => True) (zw cy ad X sh) ∧ zS ad (va_A (zw cy ad X sh) sz) U U.heap
/-- a method's contract: from the memory X, with these arguments, it ends with Post -/
def zP (sh : List zE) (lv : Nat) (mi : zM) (as : List Value) (X : zX) (Post : Option Value → zX → Prop) : Prop :=
  ∀ (l : Launch) (dC : Nat → ClassId) (dI : Nat → Nat → Nat) (cy : Nat → ClassId) (ad : Nat → Nat) (sz : Nat), Met l mi.1 (zws mi) (zr lv) (va_Pc (as.map (zk ad)) (zB dC dI cy ad sh X sz)) (zQ dC dI cy ad sh Post (va_A (zw cy ad X sh) sz)) 0 0 (va_A (zw cy ad X sh) sz)
/-- the locals at a method's entry -/
def ze (as : List Value) : List (Option Value) := as.flatMap fun v => if v.category = 2 then [some v, none] else [some v]
theorem ze_args (ad : Nat → Nat) : ∀ (as : List Value) (o i : Nat) (v : Value), (ze as)[i]? = some (some v) → (o + i, zk ad v) ∈ lv_args o (as.map (zk ad))
  | [], o, i, v, h => by simp [ze] at h
  | a :: as, o, i, v, h => by
    have ih := ze_args ad as
    show (o + i, zk ad v) ∈ (o, zk ad a) :: lv_args (if (zk ad a).category = 2 then o + 2 else o + 1) (as.map (zk ad))
    rw [zk_cat]
    by_cases hc : a.category = 2
    · have e : ze (a :: as) = some a :: none :: ze as := by simp [ze, hc]
      rw [e] at h
      rw [if_pos hc]
      match i, h with
      | 0, h => cases h; exact List.mem_cons_self
      | 1, h => cases h
      | i + 2, h => 
        have := ih (o + 2) i v (by simpa using h)
        rw [show o + (i + 2) = o + 2 + i by omega]
        exact List.mem_cons_of_mem _ this
    · have e : ze (a :: as) = some a :: ze as := by simp [ze, hc]
      rw [e] at h
      rw [if_neg hc]
      match i, h with
      | 0, h => cases h; exact List.mem_cons_self
      | i + 1, h => 
        have := ih (o + 1) i v (by simpa using h)
        rw [show o + (i + 1) = o + 1 + i by omega]
        exact List.mem_cons_of_mem _ this
theorem ze_len (ad : Nat → Nat) (as : List Value) : (lg_sl (as.map (zk ad))).length = (ze as).length := by
  induction as with
  | nil => rfl
  | cons a as ih =>
    have e1 : lg_sl ((a :: as).map (zk ad)) = (if (zk ad a).category = 2 then [.val (zk ad a), .second] else [.val (zk ad a)]) ++ lg_sl (as.map (zk ad)) := by simp [lg_sl]
    have e2 : ze (a :: as) = (if a.category = 2 then [some a, none] else [some a]) ++ ze as := by simp [ze]
    rw [e1, e2, List.length_append, List.length_append, ih, zk_cat]
    by_cases hc : a.category = 2 <;> simp [hc]
theorem zP.of {sh : List zE} {lv : Nat} {mi : zM} {as : List Value} {X : zX} {Post : Option Value → zX → Prop} (L : List (Option Value)) (hL : ∀ (i : Nat) (v : Value), L[i]? = some (some v) → (ze as)[i]? = some (some v)) (hy : plainName mi.1.cls = true) (hn : (ze as).length ≤ mi.2.2.1) (h : zJ sh lv mi Post 0 L [] X) : zP sh lv mi as X Post := by
  intro l dC dI cy ad sz
  refine Met.ofW (cc := mi.2.1) (maxL := mi.2.2.1) (ret := mi.2.2.2) hy rfl ?_
  intro p e s m args below meth c s₁ B hml hv
  obtain ⟨rfl, hsz, hP, hK, hN, hD0, hZ⟩ := hv
  have hts := atoms_spec (ws := zws mi) B.pre
  subst hsz
  rw [lg_entry_eq]
  refine h p l e s m _ below meth c dC dI cy ad _ ⟨B.exec, B.bytes, hml, B.returns, findClass_of_methodNamed B.named, fun w hw => hts w (List.mem_cons_of_mem _ hw), hN, hK, B.notSynchronized, fun q hq => Or.inr hq, hZ⟩ s.heap [] _ hP hD0.self va_S.rf ?_
  have hE := lv_entry (as.map (zk ad)) (n := mi.2.2.1) (by rw [ze_len]; exact hn)
  refine ⟨hE.1, hE.2.1, fun i v hi => ?_⟩
  have := ze_args ad as 0 i v (hL i v hi)
  rw [Nat.zero_add] at this
  exact hE.2.2 _ this
