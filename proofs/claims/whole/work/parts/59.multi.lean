/-! an array of arrays, made at once -/
section MA
variable {Q : Unit → Pre} {E : CtlPost} {e : Env} {d : Bool} {acts : List Action} {T : State} {f : JFrame}
theorem ma_row {comp c2 : ClassId} {k : Class} {n : Int32} {Q : Addr → Pre} (hs : T.topJava?.isSome) (hk : T.vm.classes[comp]? = some k) (hkind : k.kind = .array c2 .int) (hn : ¬ n < 0) (hlimit : ¬ n.toNatClampNeg > e.platform.arrayLengthLimit) (hheap : ¬ n.toNatClampNeg * componentBytes .int > e.platform.maxHeapBytes) (h1 : T.heap.size < e.platform.maxCells) (h2 : T.slotsUsed + n.toNatClampNeg ≤ e.platform.maxSlots)
    (hq : Q T.heap.size true acts ((T.pushCell { cls := comp, slots := Array.replicate n.toNatClampNeg (.int 0), vm := .none }).setTop f)) : Sem.wp (Op.multianewarray.make comp [n]) Q E e d acts (T.setTop f) := by
  have hfit : ∀ i v, (Array.replicate n.toNatClampNeg (Value.int 0))[i]? = some v → T.fitsSlot comp .none i v = true := by
    intro i v hv
    simp only [Array.getElem?_replicate] at hv
    split at hv
    · cases hv; simp [State.fitsSlot, State.slotType?, hk, hkind, fits]
    · cases hv
  have hdef : allocActs (Array.replicate n.toNatClampNeg (Value.int 0)) T.heap.size acts = acts := by
    have hall : ((Array.replicate n.toNatClampNeg (Value.int 0)).all (·.isDefault)) = true := by
      rw [Array.all_replicate]; split <;> simp [Value.isDefault]
    unfold allocActs; rw [if_pos hall]
  simp only [Op.multianewarray.make, Sem.wp_bind', Sem.W.ite, hn, if_false, Sem.wp_pure', Sem.W.theClass, State.vm_setTop, hk, hkind, Option.some.injEq, exists_eq_left', Jvm.newArray, Jvm.arrayFits, Sem.W.ask, hlimit, hheap, Sem.W.alloc, Sem.W.stop, defaultValue]
  sorry
end MA
