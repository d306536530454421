/-! an array of arrays, made at once -/
section MA
variable {E : CtlPost} {e : Env} {d : Bool} {acts : List Action} {T : State} {f : JFrame}
theorem ma_row {comp c2 : ClassId} {k : Class} {n : Int32} {Q : Addr → Pre} (hs : T.topJava?.isSome) (hk : T.vm.classes[comp]? = some k) (hkind : k.kind = .array c2 .int) (hn : ¬ n < 0) (hlimit : ¬ n.toNatClampNeg > e.platform.arrayLengthLimit) (hheap : ¬ n.toNatClampNeg * componentBytes .int > e.platform.maxHeapBytes) (h1 : T.heap.size < e.platform.maxCells) (h2 : T.slotsUsed + n.toNatClampNeg ≤ e.platform.maxSlots)
    (hq : ∀ d' acts', Q T.heap.size d' acts' ((T.pushCell { cls := comp, slots := Array.replicate n.toNatClampNeg (.int 0), vm := .none }).setTop f)) : Sem.wp (multianewarray.make comp [n]) Q E e d acts (T.setTop f) := by
  have hfit : ∀ i v, (Array.replicate n.toNatClampNeg (Value.int 0))[i]? = some v → T.fitsSlot comp .none i v = true := by
    intro i v hv
    simp only [Array.getElem?_replicate] at hv
    split at hv
    · cases hv; simp [State.fitsSlot, State.slotType?, hk, hkind, fits]
    · cases hv
  simp only [multianewarray.make, wp_bind', _root_.Jvm.W.ite, hn, if_false, wp_pure', _root_.Jvm.W.theClass, State.vm_setTop, hk, hkind, Option.some.injEq, exists_eq_left', Jvm.newArray, Jvm.arrayFits, _root_.Jvm.W.ask, hlimit, hheap, _root_.Jvm.W.alloc, _root_.Jvm.W.stop, defaultValue]
  rw [if_neg (by omega)]
  exact ⟨h1, by rw [Array.size_replicate]; exact h2, hfit, hq _ _⟩
/-- the outer cell with i rows in place -/
def maC (arr : Cell) (a : Nat) : Nat → Cell
  | 0 => arr
  | i + 1 => (maC arr a i).setSlot i (.ref (a + 1 + i))
def maS (T : State) (arr row : Cell) : Nat → State
  | 0 => T.pushCell arr
  | i + 1 => ((maS T arr row i).pushCell row).setCell T.heap.size (maC arr T.heap.size (i + 1))
theorem maC_facts (arr : Cell) (a : Nat) : ∀ i, (maC arr a i).cls = arr.cls ∧ (maC arr a i).vm = arr.vm ∧ (maC arr a i).slots.size = arr.slots.size
  | 0 => ⟨rfl, rfl, rfl⟩
  | i + 1 => by
    obtain ⟨h1, h2, h3⟩ := maC_facts arr a i
    exact ⟨h1, h2, by show ((maC arr a i).setSlot i _).slots.size = _; simp [Cell.setSlot, h3]⟩
theorem maS_size (T : State) (arr row : Cell) : ∀ i, (maS T arr row i).heap.size = T.heap.size + 1 + i
  | 0 => size_pushCell T arr
  | i + 1 => by
    show (((maS T arr row i).pushCell row).setCell _ _).heap.size = _
    rw [size_setCell, size_pushCell, maS_size T arr row i]; omega
theorem maS_at (T : State) (arr row : Cell) : ∀ i, (maS T arr row i).heap[T.heap.size]? = some (maC arr T.heap.size i)
  | 0 => by show (T.pushCell arr).heap[T.heap.size]? = some arr; simp [State.pushCell]
  | i + 1 => by
    show (((maS T arr row i).pushCell row).setCell T.heap.size (maC arr T.heap.size (i + 1))).heap[T.heap.size]? = _
    exact heapAt_setCell_self _ (by rw [size_pushCell, maS_size]; exact Nat.lt_succ_of_le (Nat.le_trans (Nat.le_succ _) (Nat.le_add_right _ _)))
theorem maS_vm (T : State) (arr row : Cell) : ∀ i, (maS T arr row i).vm = T.vm
  | 0 => rfl
  | i + 1 => maS_vm T arr row i
theorem maS_top (T : State) (arr row : Cell) : ∀ i, (maS T arr row i).topJava? = T.topJava?
  | 0 => rfl
  | i + 1 => maS_top T arr row i
theorem maS_used (T : State) (arr row : Cell) : ∀ i, (maS T arr row i).slotsUsed = T.slotsUsed + arr.slots.size + i * row.slots.size
  | 0 => by rw [Nat.zero_mul, Nat.add_zero]; rfl
  | i + 1 => by
    show (maS T arr row i).slotsUsed + row.slots.size = _
    rw [maS_used T arr row i, Nat.succ_mul]; omega
theorem maS_old (T : State) (arr row : Cell) {q : Nat} (hq : q < T.heap.size) : ∀ i, (maS T arr row i).heap[q]? = T.heap[q]?
  | 0 => by show (T.heap.push arr)[q]? = _; rw [Array.getElem?_push, if_neg (by omega)]
  | i + 1 => by
    show (((maS T arr row i).pushCell row).setCell T.heap.size (maC arr T.heap.size (i + 1))).heap[q]? = _
    rw [heapAt_setCell_ne _ (Nat.ne_of_gt hq)]
    show ((maS T arr row i).heap.push row)[q]? = _
    rw [Array.getElem?_push, if_neg (by rw [maS_size]; omega)]
    exact maS_old T arr row hq i
theorem maS_row (T : State) (arr row : Cell) {j : Nat} : ∀ i, j < i → (maS T arr row i).heap[T.heap.size + 1 + j]? = some row
  | 0, h => by omega
  | i + 1, h => by
    show (((maS T arr row i).pushCell row).setCell T.heap.size (maC arr T.heap.size (i + 1))).heap[T.heap.size + 1 + j]? = _
    rw [heapAt_setCell_ne _ (Nat.ne_of_lt (Nat.lt_of_lt_of_le (Nat.lt_succ_self _) (Nat.le_add_right _ _)))]
    show ((maS T arr row i).heap.push row)[T.heap.size + 1 + j]? = _
    rw [Array.getElem?_push, maS_size]
    by_cases e : j = i
    · rw [if_pos (by omega)]
    · rw [if_neg (by omega)]; exact maS_row T arr row i (by omega)
theorem ma_make {cA comp c2 : ClassId} {kA k : Class} {n n2 : Int32} {Q : Addr → Pre} (hs : T.topJava?.isSome) (hkA : T.vm.classes[cA]? = some kA) (hkindA : kA.kind = .array comp (.array .int)) (hk : T.vm.classes[comp]? = some k) (hkind : k.kind = .array c2 .int) (hn : ¬ n < 0) (hn0 : ¬ n = 0) (hn2 : ¬ n2 < 0)
    (hlimit : ¬ n.toNatClampNeg > e.platform.arrayLengthLimit) (hheap : ¬ n.toNatClampNeg * componentBytes (.array .int) > e.platform.maxHeapBytes) (hlimit2 : ¬ n2.toNatClampNeg > e.platform.arrayLengthLimit) (hheap2 : ¬ n2.toNatClampNeg * componentBytes .int > e.platform.maxHeapBytes)
    (h1 : T.heap.size + 1 + n.toNatClampNeg ≤ e.platform.maxCells) (h2 : T.slotsUsed + n.toNatClampNeg + n.toNatClampNeg * n2.toNatClampNeg ≤ e.platform.maxSlots)
    (hq : ∀ d' acts', Q T.heap.size d' acts' ((maS T { cls := cA, slots := Array.replicate n.toNatClampNeg .null, vm := .none } { cls := comp, slots := Array.replicate n2.toNatClampNeg (.int 0), vm := .none } n.toNatClampNeg).setTop f)) : Sem.wp (multianewarray.make cA [n, n2]) Q E e d acts (T.setTop f) := by
  have hfit : ∀ i v, (Array.replicate n.toNatClampNeg Value.null)[i]? = some v → T.fitsSlot cA .none i v = true := by
    intro i v hv
    simp only [Array.getElem?_replicate] at hv
    split at hv
    · cases hv; simp [State.fitsSlot, State.slotType?, hkA, hkindA, fits]
    · cases hv
  rw [multianewarray.make]
  simp only [wp_bind', _root_.Jvm.W.ite, hn, if_false, wp_pure', _root_.Jvm.W.theClass, State.vm_setTop, hkA, hkindA, Option.some.injEq, exists_eq_left', Jvm.newArray, Jvm.arrayFits, _root_.Jvm.W.ask, hlimit, hheap, _root_.Jvm.W.alloc, _root_.Jvm.W.stop, beq_iff_eq, hn0]
  rw [if_neg (by omega)]
  refine ⟨by show T.heap.size < _; omega, by rw [Array.size_replicate]; show T.slotsUsed + _ ≤ _; omega, hfit, ?_⟩
  rw [Std.Legacy.Range.forIn_eq_forIn_range', show (Std.Legacy.Range.size [:n.toNatClampNeg]) = n.toNatClampNeg by simp [Std.Legacy.Range.size]]
  generalize hN : n.toNatClampNeg = N at *
  generalize hM : n2.toNatClampNeg = M at *
  generalize harr : ({ cls := cA, slots := Array.replicate N Value.null, vm := .none } : Cell) = arr at *
  generalize hrow : ({ cls := comp, slots := Array.replicate M (Value.int 0), vm := .none } : Cell) = row at *
  have sarr : arr.slots.size = N := by rw [← harr]; simp
  have srow : row.slots.size = M := by rw [← hrow]; simp
  refine wp_forIn_inv (fun rest s' => ∃ i, i ≤ N ∧ rest = List.range' i (N - i) ∧ s' = (maS T arr row i).setTop f) _ _ ⟨0, Nat.zero_le _, rfl, rfl⟩ ?_ ?_
  · rintro x rest s' d' acts' Q' ⟨i, hi, hr, rfl⟩ hq'
    have hlt : i < N := by
      rcases Nat.lt_or_ge i N with h | h
      · exact h
      · rw [show N - i = 0 by omega] at hr; cases hr
    rw [show N - i = (N - (i + 1)) + 1 by omega, List.range'_succ] at hr
    obtain ⟨rfl, rfl⟩ := List.cons.inj hr
    have mul : (x + 1) * M ≤ N * M := Nat.mul_le_mul_right M hlt
    have mul2 : (x + 1) * M = x * M + M := Nat.succ_mul x M
    have us := maS_used T arr row x
    rw [sarr, srow] at us
    simp only [wp_bind']
    refine ma_row (k := k) (c2 := c2) (by rw [maS_top]; exact hs) (by rw [maS_vm]; exact hk) hkind hn2 (by rw [hM]; exact hlimit2) (by rw [hM]; exact hheap2) (by rw [maS_size]; omega) (by rw [hM]; omega) (fun d1 a1 => ?_)
    rw [hM, hrow]
    simp only [wp_bind', _root_.Jvm.W.writeLoc, wp_pure']
    obtain ⟨c1, c2', c3⟩ := maC_facts arr T.heap.size x
    refine ⟨maC arr T.heap.size x, ?_, ?_, ?_, ?_, ?_⟩
    · show ((maS T arr row x).heap.push row)[T.heap.size]? = _
      rw [Array.getElem?_push, if_neg (by rw [maS_size]; omega)]
      exact maS_at T arr row x
    · rw [c2', ← harr]; intro q; cases q
    · rw [c3, sarr]; exact hlt
    · show State.fitsSlot ((maS T arr row x).pushCell row) _ _ x _ = true
      have e1 : ((maS T arr row x).pushCell row).vm = T.vm := maS_vm T arr row x
      rw [c1, c2', show arr.cls = cA by rw [← harr], show arr.vm = .none by rw [← harr]]
      simp [State.fitsSlot, State.slotType?, maS_vm, hkA, hkindA, fits]
    · refine hq' _ _ _ ⟨x + 1, hlt, rfl, ?_⟩
      show (((maS T arr row x).pushCell row).setCell T.heap.size ((maC arr T.heap.size x).setSlot x (.ref (maS T arr row x).heap.size))).setTop f = _
      rw [maS_size]
      rfl
  · rintro s' d' acts' ⟨i, hi, hr, rfl⟩
    have : i = N := by
      rcases Nat.lt_or_ge i N with h | h
      · rw [show N - i = (N - (i + 1)) + 1 by omega, List.range'_succ] at hr; cases hr
      · omega
    subst this
    exact hq _ _
theorem ma_cold {index c : Nat} {vm' : Vm} {Q : Unit → Pre} (hs : T.topJava?.isSome) (hg : (Jvm.resolveClass f.method.cls index).Gives e.toSetting T.vm (.ok c) vm') (hr : vm'.classReady f.method.cls index c) (hsz : vm'.classes.size ≤ T.vm.classes.size := by no_record) :
    Sem.wp (multianewarray.sem index 2) Q E e d acts (T.setTop f) ↔ Sem.wp (multianewarray.sem index 2) Q E e d acts ((T.setVm vm').setTop f) := by
  simp only [multianewarray.sem, wp_bind']
  exact _root_.Jvm.W.resolveClassAt_transfer (s := T.setTop f) (State.method?_setTop f hs) hg hr
theorem ma_sem {index : Nat} {cA comp c2 : ClassId} {kA k : Class} {n n2 : Int32} {rest : List Value} {Q : Unit → Pre} (hs : T.topJava?.isSome) (hr : T.vm.classReady f.method.cls index cA) (hkA : T.vm.classes[cA]? = some kA) (hkindA : kA.kind = .array comp (.array .int)) (hk : T.vm.classes[comp]? = some k) (hkind : k.kind = .array c2 .int) (hstack : f.stack = .int n2 :: .int n :: rest) (hn : ¬ n < 0) (hn0 : ¬ n = 0) (hn2 : ¬ n2 < 0)
    (hlimit : ¬ n.toNatClampNeg > e.platform.arrayLengthLimit) (hheap : ¬ n.toNatClampNeg * componentBytes (.array .int) > e.platform.maxHeapBytes) (hlimit2 : ¬ n2.toNatClampNeg > e.platform.arrayLengthLimit) (hheap2 : ¬ n2.toNatClampNeg * componentBytes .int > e.platform.maxHeapBytes)
    (h1 : T.heap.size + 1 + n.toNatClampNeg ≤ e.platform.maxCells) (h2 : T.slotsUsed + n.toNatClampNeg + n.toNatClampNeg * n2.toNatClampNeg ≤ e.platform.maxSlots)
    (hq : ∀ d' acts', Q () d' acts' ((maS T { cls := cA, slots := Array.replicate n.toNatClampNeg .null, vm := .none } { cls := comp, slots := Array.replicate n2.toNatClampNeg (.int 0), vm := .none } n.toNatClampNeg).setTop { f with stack := .ref T.heap.size :: rest })) : Sem.wp (multianewarray.sem index 2) Q E e d acts (T.setTop f) := by
  simp only [multianewarray.sem, wp_bind', _root_.Jvm.W.resolveClassAt_ready (State.method?_setTop f hs) hr]
  refine (_root_.Jvm.W.popN 2).mpr ?_
  rw [if_neg (by decide)]
  refine ⟨f, State.topJava?_setTop' _ hs, [.int n, .int n2], rest, rfl, hstack, ?_⟩
  simp only [List.mapM_cons, List.mapM_nil, wp_bind', wp_pure', State.setTop_setTop]
  refine ma_make hs hkA hkindA hk hkind hn hn0 hn2 hlimit hheap hlimit2 hheap2 h1 h2 (fun d1 a1 => ?_)
  simp only [wp_bind', _root_.Jvm.W.mark, _root_.Jvm.W.pushRef]
  exact ⟨_, State.topJava?_setTop' _ (by rw [maS_top]; exact hs), by rw [State.setTop_setTop]; exact hq _ _⟩
theorem maC_arrV (cA : ClassId) (N a : Nat) : ∀ i, maC { cls := cA, slots := Array.replicate N Value.null, vm := .none } a i = arrV cA N (fun j => va_rf (if j < i then some (a + 1 + j) else none))
  | 0 => by
    show ({ cls := cA, slots := Array.replicate N Value.null, vm := .none } : Cell) = _
    rw [arrV_new]
    congr 1
  | i + 1 => by
    show (maC { cls := cA, slots := Array.replicate N Value.null, vm := .none } a i).setSlot i (.ref (a + 1 + i)) = _
    rw [maC_arrV cA N a i, arrV_store]
    congr 1
    funext j
    unfold updV
    by_cases e : j = i
    · subst e; rw [if_pos rfl, if_pos (by omega)]; rfl
    · rw [if_neg e]
      by_cases q : j < i
      · show va_rf (if j < i then some (a + 1 + j) else none) = _; rw [if_pos q, if_pos (by omega)]
      · show va_rf (if j < i then some (a + 1 + j) else none) = _; rw [if_neg q, if_neg (by omega)]
end MA
section MW
variable {p : Program} {l : Launch} {e : Env} {R : Room} {s : State} {m : MethodId} {args : Array Value} {below : List Frame} {meth : Method} {c : Code} {H : Heap} {locs : List Loc} {cells slots : Nat} {Q : State → Prop}
theorem maS_stand {T : State} {arr row : Cell} (X : Stand p l e R s m args below meth c T locs cells slots) : ∀ i, ∃ locs2, Stand p l e R s m args below meth c (maS T arr row i) locs2 (cells + 1 + i) (slots + arr.slots.size + i * row.slots.size) ∧ ∀ q ∈ locs2, q ∈ locs ∨ q.base = T.heap.size
  | 0 => ⟨locs, by have := X.pushed arr; rw [Nat.zero_mul]; exact this, fun q h => Or.inl h⟩
  | i + 1 => by
    obtain ⟨locs2, X2, h2⟩ := maS_stand (arr := arr) (row := row) X i
    have X3 := X2.pushed row
    have hat : ((maS T arr row i).pushCell row).heap[T.heap.size]? = some (maC arr T.heap.size i) := by
      show ((maS T arr row i).heap.push row)[T.heap.size]? = _
      rw [Array.getElem?_push, if_neg (by rw [maS_size]; omega)]
      exact maS_at T arr row i
    have X4 := X3.stored hat i (.ref (T.heap.size + 1 + i))
    refine ⟨locs2 ++ [⟨T.heap.size, i⟩], ?_, fun q hq => ?_⟩
    · rw [show cells + 1 + (i + 1) = cells + 1 + i + 1 by omega, show slots + arr.slots.size + (i + 1) * row.slots.size = slots + arr.slots.size + i * row.slots.size + row.slots.size by rw [Nat.succ_mul]; omega]
      exact X4
    · rcases List.mem_append.mp hq with h | h
      · exact h2 q h
      · rcases List.mem_singleton.mp h with rfl
        exact Or.inr rfl
theorem W_multi {cc : ByteArray} (hexec : p.tables.exec = Jvm.exec) (hb : c.code = cc) {own : String} {index : Nat} (hown : s.vm.findClass own = some m.cls) (hclink : (Cond.classLink own index "[[I").before args s = true) (hao : ∃ (comp cA : ClassId) (kA : Class), s.vm.findClass "[I" = some comp ∧ s.vm.classes[cA]? = some kA ∧ kA.kind = .array comp (.array .int) ∧ s.vm.findClass "[[I" = some cA) (harr : (Cond.arrayClass .int).before args s = true)
    {g : JFrame} (hg : g.method = m) (hdg : decode cc g.pc = .ok (.multianewarray index 2, 4)) {N M : Nat} {rest : List Value} (hstack : g.stack = .int (nI M) :: .int (nI N) :: rest) (hN0 : 0 < N) (hN : N < 1000) (hM : M < 1000) (hcells : cells + 1 + N ≤ R.cells) (hslots : slots + N + N * M ≤ R.slots)
    (kk : ∀ (H2 : Heap) (locs2 : List Loc) (cA comp : ClassId) (kA k : Class) (c2 : ClassId), s.vm.findClass "[[I" = some cA → s.vm.classes[cA]? = some kA → kA.kind = .array comp (.array .int) → s.vm.findClass "[I" = some comp → s.vm.classes[comp]? = some k → k.kind = .array c2 .int → H2.size = H.size + 1 + N → (∀ q, q < H.size → H2[q]? = H[q]?) → H2[H.size]? = some (arrV cA N (fun j => va_rf (if j < N then some (H.size + 1 + j) else none))) → (∀ j, j < N → H2[H.size + 1 + j]? = some (arrV comp M (fun _ => .int 0))) → (∀ q ∈ locs2, q ∈ locs ∨ q.base = H.size) →
      W p l e R s m args below meth c H2 locs2 (cells + 1 + N) (slots + N + N * M) Q { g with pc := g.pc + 4, stack := .ref H.size :: rest }) : W p l e R s m args below meth c H locs cells slots Q g := by
  intro T hT X
  subst hT; subst hb; subst hg
  have hpl : e.platform.magicAccessors = ({} : Platform).magicAccessors := by rw [X.admits.platform]
  obtain ⟨comp, cA, kA, hcomp, hkA, hkindA, hnameA⟩ := hao
  obtain ⟨kComp, hkComp, -⟩ := Vm.findClass_spec hcomp
  obtain ⟨cc', hfcc, hcl⟩ := Cond.classLink_spec hown hclink e.platform hpl
  cases hnameA.symm.trans hfcc
  obtain ⟨hg₁, hwarm₁, hready₁⟩ := State.classEntry (e := e) X.warmed hcl
  generalize T.vm.noted g.method.cls index (.cls cA) = vm₁ at hg₁ hwarm₁ hready₁
  have hal : s.vm.Alike vm₁ := hwarm₁.alike
  obtain ⟨kComp₁, hkComp₁, heC⟩ := hal.2.2 _ _ hkComp
  obtain ⟨kA₁, hkA₁, heA⟩ := hal.2.2 _ _ hkA
  have hkindA₁ : kA₁.kind = .array comp (.array .int) := by rw [heA]; exact hkindA
  obtain ⟨cI, kI, c2, hnameI, hkI, hkindI⟩ := Cond.arrayClass_spec harr
  have hnameI : s.vm.findClass "[I" = some cI := hnameI
  cases hcomp.symm.trans hnameI
  cases hkComp.symm.trans hkI
  have hkind₁ : kComp₁.kind = .array c2 .int := by rw [heC]; exact hkindI
  have eN : (nI N).toNatClampNeg = N := nI_clamp (by omega)
  have eM : (nI M).toNatClampNeg = M := nI_clamp (by omega)
  have X₁ := X.noted hwarm₁
  obtain ⟨hr1, hr2⟩ := X.roomAbove (a := 1 + N) (b := N + N * M) (by omega) (by omega)
  have srow : ({ cls := comp, slots := Array.replicate M (Value.int 0), vm := .none } : Cell) = arrV comp M (fun _ => .int 0) := arrV_new comp M (.int 0)
  obtain ⟨locs2, X2, h2⟩ := maS_stand (arr := { cls := cA, slots := Array.replicate N Value.null, vm := .none }) (row := { cls := comp, slots := Array.replicate M (Value.int 0), vm := .none }) X₁ N
  have sz1 : ({ cls := cA, slots := Array.replicate N Value.null, vm := .none } : Cell).slots.size = N := by simp
  have sz2 : ({ cls := comp, slots := Array.replicate M (Value.int 0), vm := .none } : Cell).slots.size = M := by simp
  rw [sz1, sz2] at X2
  obtain ⟨t', a1, b1⟩ := kk (maS (T.setVm vm₁) { cls := cA, slots := Array.replicate N Value.null, vm := .none } { cls := comp, slots := Array.replicate M (Value.int 0), vm := .none } N).heap locs2 cA comp kA kComp c2 hnameA hkA hkindA hcomp hkComp hkindI (maS_size (T.setVm vm₁) _ _ N) (fun q hq => maS_old (T.setVm vm₁) _ _ hq N)
    (by rw [← maC_arrV]; exact maS_at (T.setVm vm₁) _ _ N) (fun j hj => by rw [← srow]; exact maS_row (T.setVm vm₁) _ _ N hj) h2 _ rfl X2
  refine ⟨t', ?_, b1⟩
  jvm_step X.here [hexec, hdg, ma_cold (e := e) (T := T) (f := g) X.here.top hg₁ hready₁]
  refine ma_sem (T := T.setVm vm₁) (k := kComp₁) (c2 := c2) (kA := kA₁) (comp := comp) X.here.top hready₁ hkA₁ hkindA₁ hkComp₁ hkind₁ hstack (nI_pos (by omega)) ?_ (nI_pos (by omega)) ?_ ?_ ?_ ?_ ?_ ?_ (fun d1 a1' => ?_)
  · intro q; have q2 := congrArg Int32.toNatClampNeg q; rw [eN] at q2; have : (0 : Int32).toNatClampNeg = 0 := rfl; omega
  · rw [eN, Launch.admits_arrayLengthLimit X.admits]; omega
  · rw [eN, Launch.admits_maxHeapBytes X.admits]; show ¬ N * 4 > 536870912; omega
  · rw [eM, Launch.admits_arrayLengthLimit X.admits]; omega
  · rw [eM, Launch.admits_maxHeapBytes X.admits]; show ¬ M * 4 > 536870912; omega
  · rw [eN]; show T.heap.size + 1 + N ≤ _; omega
  · rw [eN, eM]; show T.slotsUsed + N + N * M ≤ _; omega
  · rw [eN, eM]
    intro acts
    have ht : (maS (T.setVm vm₁) { cls := cA, slots := Array.replicate N Value.null, vm := .none } { cls := comp, slots := Array.replicate M (Value.int 0), vm := .none } N).topJava?.isSome = true := by rw [maS_top]; exact X.here.top
    simpa [jvm, ht] using a1
end MW
