def zshl (x y : Int32) : Int32 := x <<< (y &&& 31)
def zshr (x y : Int32) : Int32 := x >>> (y &&& 31)
section ZR
variable {sh : List zE} {lv : Nat} {mi : zM} {Post : Option Value → zX → Prop} {pc : Nat} {L : List (Option Value)} {st : List Value} {X : zX}
theorem j_iconst {n : Int} {v : Int32} (hd : decode mi.2.1 pc = .ok (.iconst n, 1)) (hv : Int32.ofInt n = v) (K : zJ sh lv mi Post (pc + 1) L (.int v :: st) X) : zJ sh lv mi Post pc L (st) X := by
  intro p l e s m args below meth c dC dI cy ad A C H locs ls hP hD hS hL
  obtain ⟨hx, hb, hml, hr, hown, hts, hN, hK, hlk, hA, hZ⟩ := id C
  exact lv_iconst hx hb hd hv (K p l e s m args below meth c dC dI cy ad A C H locs ls hP hD hS hL)
theorem j_bipush {n : Int} {v : Int32} (hd : decode mi.2.1 pc = .ok (.bipush n, 2)) (hv : (Int8.ofInt n).toInt32 = v) (K : zJ sh lv mi Post (pc + 2) L (.int v :: st) X) : zJ sh lv mi Post pc L (st) X := by
  intro p l e s m args below meth c dC dI cy ad A C H locs ls hP hD hS hL
  obtain ⟨hx, hb, hml, hr, hown, hts, hN, hK, hlk, hA, hZ⟩ := id C
  exact lv_bipush hx hb hd hv (K p l e s m args below meth c dC dI cy ad A C H locs ls hP hD hS hL)
theorem j_sipush {n : Int} {v : Int32} (hd : decode mi.2.1 pc = .ok (.sipush n, 3)) (hv : (Int16.ofInt n).toInt32 = v) (K : zJ sh lv mi Post (pc + 3) L (.int v :: st) X) : zJ sh lv mi Post pc L (st) X := by
  intro p l e s m args below meth c dC dI cy ad A C H locs ls hP hD hS hL
  obtain ⟨hx, hb, hml, hr, hown, hts, hN, hK, hlk, hA, hZ⟩ := id C
  exact lv_sipush hx hb hd hv (K p l e s m args below meth c dC dI cy ad A C H locs ls hP hD hS hL)
theorem j_lconst {n : Fin 2} {v : Int64} (hd : decode mi.2.1 pc = .ok (.lconst n, 1)) (hv : Int64.ofNat (n : Nat) = v) (K : zJ sh lv mi Post (pc + 1) L (.long v :: st) X) : zJ sh lv mi Post pc L (st) X := by
  intro p l e s m args below meth c dC dI cy ad A C H locs ls hP hD hS hL
  obtain ⟨hx, hb, hml, hr, hown, hts, hN, hK, hlk, hA, hZ⟩ := id C
  exact lv_lconst hx hb hd hv (K p l e s m args below meth c dC dI cy ad A C H locs ls hP hD hS hL)
theorem j_ldc2 {i : Nat} {v : Int64} (hd : decode mi.2.1 pc = .ok (.ldc2_w i, 3)) (hc : Cond.constantLong mi.1.cls i v ∈ zG) (K : zJ sh lv mi Post (pc + 3) L (.long v :: st) X) : zJ sh lv mi Post pc L (st) X := by
  intro p l e s m args below meth c dC dI cy ad A C H locs ls hP hD hS hL
  obtain ⟨hx, hb, hml, hr, hown, hts, hN, hK, hlk, hA, hZ⟩ := id C
  exact lv_ldc2 hx hb hown (hts _ hc) hd (K p l e s m args below meth c dC dI cy ad A C H locs ls hP hD hS hL)
theorem j_ldc {i : Nat} {v : Int32} (hd : decode mi.2.1 pc = .ok (.ldc i, 2)) (hc : Cond.constant mi.1.cls i v ∈ zG) (K : zJ sh lv mi Post (pc + 2) L (.int v :: st) X) : zJ sh lv mi Post pc L (st) X := by
  intro p l e s m args below meth c dC dI cy ad A C H locs ls hP hD hS hL
  obtain ⟨hx, hb, hml, hr, hown, hts, hN, hK, hlk, hA, hZ⟩ := id C
  exact lv_ldc hx hb hown (hts _ hc) hd (K p l e s m args below meth c dC dI cy ad A C H locs ls hP hD hS hL)
theorem j_iload_n {k : Fin 4} {x : Int32} (hd : decode mi.2.1 pc = .ok (.iload_n k, 1)) (hl : L[(k : Nat)]? = some (some (.int x))) (K : zJ sh lv mi Post (pc + 1) L (.int x :: st) X) : zJ sh lv mi Post pc L (st) X := by
  intro p l e s m args below meth c dC dI cy ad A C H locs ls hP hD hS hL
  obtain ⟨hx, hb, hml, hr, hown, hts, hN, hK, hlk, hA, hZ⟩ := id C
  exact lv_iload_n hx hb hd rfl (hL.2.2 _ _ hl) (K p l e s m args below meth c dC dI cy ad A C H locs ls hP hD hS hL)
theorem j_iload {i : Nat} {x : Int32} (hd : decode mi.2.1 pc = .ok (.iload i, 2)) (hl : L[i]? = some (some (.int x))) (K : zJ sh lv mi Post (pc + 2) L (.int x :: st) X) : zJ sh lv mi Post pc L (st) X := by
  intro p l e s m args below meth c dC dI cy ad A C H locs ls hP hD hS hL
  obtain ⟨hx, hb, hml, hr, hown, hts, hN, hK, hlk, hA, hZ⟩ := id C
  exact lv_iload hx hb hd (hL.2.2 _ _ hl) (K p l e s m args below meth c dC dI cy ad A C H locs ls hP hD hS hL)
theorem j_lload_n {k : Fin 4} {x : Int64} (hd : decode mi.2.1 pc = .ok (.lload_n k, 1)) (hl : L[(k : Nat)]? = some (some (.long x))) (K : zJ sh lv mi Post (pc + 1) L (.long x :: st) X) : zJ sh lv mi Post pc L (st) X := by
  intro p l e s m args below meth c dC dI cy ad A C H locs ls hP hD hS hL
  obtain ⟨hx, hb, hml, hr, hown, hts, hN, hK, hlk, hA, hZ⟩ := id C
  exact lv_lload_n hx hb hd rfl (hL.2.2 _ _ hl) (K p l e s m args below meth c dC dI cy ad A C H locs ls hP hD hS hL)
theorem j_lload {i : Nat} {x : Int64} (hd : decode mi.2.1 pc = .ok (.lload i, 2)) (hl : L[i]? = some (some (.long x))) (K : zJ sh lv mi Post (pc + 2) L (.long x :: st) X) : zJ sh lv mi Post pc L (st) X := by
  intro p l e s m args below meth c dC dI cy ad A C H locs ls hP hD hS hL
  obtain ⟨hx, hb, hml, hr, hown, hts, hN, hK, hlk, hA, hZ⟩ := id C
  exact lv_lload hx hb hd (hL.2.2 _ _ hl) (K p l e s m args below meth c dC dI cy ad A C H locs ls hP hD hS hL)
theorem j_aload_n {k : Fin 4} {x : Nat} (hd : decode mi.2.1 pc = .ok (.aload_n k, 1)) (hl : L[(k : Nat)]? = some (some (.ref x))) (K : zJ sh lv mi Post (pc + 1) L (.ref x :: st) X) : zJ sh lv mi Post pc L (st) X := by
  intro p l e s m args below meth c dC dI cy ad A C H locs ls hP hD hS hL
  obtain ⟨hx, hb, hml, hr, hown, hts, hN, hK, hlk, hA, hZ⟩ := id C
  exact lv_aload_n hx hb hd rfl (hL.2.2 _ _ hl) (K p l e s m args below meth c dC dI cy ad A C H locs ls hP hD hS hL)
theorem j_aload {i : Nat} {x : Nat} (hd : decode mi.2.1 pc = .ok (.aload i, 2)) (hl : L[i]? = some (some (.ref x))) (K : zJ sh lv mi Post (pc + 2) L (.ref x :: st) X) : zJ sh lv mi Post pc L (st) X := by
  intro p l e s m args below meth c dC dI cy ad A C H locs ls hP hD hS hL
  obtain ⟨hx, hb, hml, hr, hown, hts, hN, hK, hlk, hA, hZ⟩ := id C
  exact lv_aload hx hb hd (hL.2.2 _ _ hl) (K p l e s m args below meth c dC dI cy ad A C H locs ls hP hD hS hL)
theorem j_istore_n {k : Fin 4} {x : Int32} {L2 : List (Option Value)} (hd : decode mi.2.1 pc = .ok (.istore_n k, 1)) (hn : (k : Nat) < mi.2.2.1) (hc : ∀ (j : Nat) (w : Value), j + 1 = (k : Nat) → L[j]? = some (some w) → w.category = 1) (h2 : L.set (k : Nat) (some (.int x)) = L2) (K : zJ sh lv mi Post (pc + 1) L2 (st) X) : zJ sh lv mi Post pc L (.int x :: st) X := by
  intro p l e s m args below meth c dC dI cy ad A C H locs ls hP hD hS hL
  obtain ⟨hx, hb, hml, hr, hown, hts, hN, hK, hlk, hA, hZ⟩ := id C
  exact lv_istore_n hx hb hd rfl hL.has hn rfl (fun ls hl => (K p l e s m args below meth c dC dI cy ad A C H locs ls hP hD hS (h2 ▸ zL.set1 (v := .int x) hl hc)))
theorem j_istore {i : Nat} {x : Int32} {L2 : List (Option Value)} (hd : decode mi.2.1 pc = .ok (.istore i, 2)) (hn : i < mi.2.2.1) (hc : ∀ (j : Nat) (w : Value), j + 1 = i → L[j]? = some (some w) → w.category = 1) (h2 : L.set i (some (.int x)) = L2) (K : zJ sh lv mi Post (pc + 2) L2 (st) X) : zJ sh lv mi Post pc L (.int x :: st) X := by
  intro p l e s m args below meth c dC dI cy ad A C H locs ls hP hD hS hL
  obtain ⟨hx, hb, hml, hr, hown, hts, hN, hK, hlk, hA, hZ⟩ := id C
  exact lv_istore hx hb hd hL.has hn rfl (fun ls hl => (K p l e s m args below meth c dC dI cy ad A C H locs ls hP hD hS (h2 ▸ zL.set1 (v := .int x) hl hc)))
theorem j_astore_n {k : Fin 4} {x : Nat} {L2 : List (Option Value)} (hd : decode mi.2.1 pc = .ok (.astore_n k, 1)) (hn : (k : Nat) < mi.2.2.1) (hc : ∀ (j : Nat) (w : Value), j + 1 = (k : Nat) → L[j]? = some (some w) → w.category = 1) (h2 : L.set (k : Nat) (some (.ref x)) = L2) (K : zJ sh lv mi Post (pc + 1) L2 (st) X) : zJ sh lv mi Post pc L (.ref x :: st) X := by
  intro p l e s m args below meth c dC dI cy ad A C H locs ls hP hD hS hL
  obtain ⟨hx, hb, hml, hr, hown, hts, hN, hK, hlk, hA, hZ⟩ := id C
  exact lv_astore_n hx hb hd rfl hL.has hn rfl (fun ls hl => (K p l e s m args below meth c dC dI cy ad A C H locs ls hP hD hS (h2 ▸ zL.set1 (v := .ref x) hl hc)))
theorem j_astore {i : Nat} {x : Nat} {L2 : List (Option Value)} (hd : decode mi.2.1 pc = .ok (.astore i, 2)) (hn : i < mi.2.2.1) (hc : ∀ (j : Nat) (w : Value), j + 1 = i → L[j]? = some (some w) → w.category = 1) (h2 : L.set i (some (.ref x)) = L2) (K : zJ sh lv mi Post (pc + 2) L2 (st) X) : zJ sh lv mi Post pc L (.ref x :: st) X := by
  intro p l e s m args below meth c dC dI cy ad A C H locs ls hP hD hS hL
  obtain ⟨hx, hb, hml, hr, hown, hts, hN, hK, hlk, hA, hZ⟩ := id C
  exact lv_astore hx hb hd hL.has hn rfl (fun ls hl => (K p l e s m args below meth c dC dI cy ad A C H locs ls hP hD hS (h2 ▸ zL.set1 (v := .ref x) hl hc)))
theorem j_lstore {i : Nat} {x : Int64} {L2 : List (Option Value)} (hd : decode mi.2.1 pc = .ok (.lstore i, 2)) (hn : i + 1 < mi.2.2.1) (hc : ∀ (j : Nat) (w : Value), j + 1 = i → L[j]? = some (some w) → w.category = 1) (h2 : (L.set i (some (.long x))).set (i + 1) none = L2) (K : zJ sh lv mi Post (pc + 2) L2 (st) X) : zJ sh lv mi Post pc L (.long x :: st) X := by
  intro p l e s m args below meth c dC dI cy ad A C H locs ls hP hD hS hL
  obtain ⟨hx, hb, hml, hr, hown, hts, hN, hK, hlk, hA, hZ⟩ := id C
  exact lv_lstore hx hb hd hL.has hn rfl (fun ls hl => (K p l e s m args below meth c dC dI cy ad A C H locs ls hP hD hS (h2 ▸ zL.set2 (v := .long x) hl hc)))
theorem j_iinc {i : Nat} {n : Int} {x v : Int32} {L2 : List (Option Value)} (hd : decode mi.2.1 pc = .ok (.iinc i n, 3)) (hl : L[i]? = some (some (.int x))) (hv : x + Int32.ofInt n = v) (hn : i < mi.2.2.1) (hc : ∀ (j : Nat) (w : Value), j + 1 = i → L[j]? = some (some w) → w.category = 1) (h2 : L.set i (some (.int v)) = L2) (K : zJ sh lv mi Post (pc + 3) L2 st X) : zJ sh lv mi Post pc L st X := by
  intro p l e s m args below meth c dC dI cy ad A C H locs ls hP hD hS hL
  obtain ⟨hx, hb, hml, hr, hown, hts, hN, hK, hlk, hA, hZ⟩ := id C
  obtain ⟨k, hk⟩ := List.getElem?_of_mem (zl_mem (ad := ad) (q := (i, .int x)).mpr ⟨_, hl, rfl⟩)
  exact lv_iinc hx hb hd hL.has hk hv hn rfl (fun ls hl => (K p l e s m args below meth c dC dI cy ad A C H locs ls hP hD hS (h2 ▸ zL.set1 (v := .int v) hl hc)))
theorem j_iadd {x y : Int32} (hd : decode mi.2.1 pc = .ok (.iadd, 1)) (K : zJ sh lv mi Post (pc + 1) L (.int (x + y) :: st) X) : zJ sh lv mi Post pc L (.int y :: .int x :: st) X := by
  intro p l e s m args below meth c dC dI cy ad A C H locs ls hP hD hS hL
  obtain ⟨hx, hb, hml, hr, hown, hts, hN, hK, hlk, hA, hZ⟩ := id C
  exact lv_iadd hx hb hd (K p l e s m args below meth c dC dI cy ad A C H locs ls hP hD hS hL)
theorem j_isub {x y : Int32} (hd : decode mi.2.1 pc = .ok (.isub, 1)) (K : zJ sh lv mi Post (pc + 1) L (.int (x - y) :: st) X) : zJ sh lv mi Post pc L (.int y :: .int x :: st) X := by
  intro p l e s m args below meth c dC dI cy ad A C H locs ls hP hD hS hL
  obtain ⟨hx, hb, hml, hr, hown, hts, hN, hK, hlk, hA, hZ⟩ := id C
  exact lv_isub hx hb hd (K p l e s m args below meth c dC dI cy ad A C H locs ls hP hD hS hL)
theorem j_imul {x y : Int32} (hd : decode mi.2.1 pc = .ok (.imul, 1)) (K : zJ sh lv mi Post (pc + 1) L (.int (x * y) :: st) X) : zJ sh lv mi Post pc L (.int y :: .int x :: st) X := by
  intro p l e s m args below meth c dC dI cy ad A C H locs ls hP hD hS hL
  obtain ⟨hx, hb, hml, hr, hown, hts, hN, hK, hlk, hA, hZ⟩ := id C
  exact lv_imul hx hb hd (K p l e s m args below meth c dC dI cy ad A C H locs ls hP hD hS hL)
theorem j_iand {x y : Int32} (hd : decode mi.2.1 pc = .ok (.iand, 1)) (K : zJ sh lv mi Post (pc + 1) L (.int (x &&& y) :: st) X) : zJ sh lv mi Post pc L (.int y :: .int x :: st) X := by
  intro p l e s m args below meth c dC dI cy ad A C H locs ls hP hD hS hL
  obtain ⟨hx, hb, hml, hr, hown, hts, hN, hK, hlk, hA, hZ⟩ := id C
  exact lv_iand hx hb hd (K p l e s m args below meth c dC dI cy ad A C H locs ls hP hD hS hL)
theorem j_ior {x y : Int32} (hd : decode mi.2.1 pc = .ok (.ior, 1)) (K : zJ sh lv mi Post (pc + 1) L (.int (x ||| y) :: st) X) : zJ sh lv mi Post pc L (.int y :: .int x :: st) X := by
  intro p l e s m args below meth c dC dI cy ad A C H locs ls hP hD hS hL
  obtain ⟨hx, hb, hml, hr, hown, hts, hN, hK, hlk, hA, hZ⟩ := id C
  exact lv_ior hx hb hd (K p l e s m args below meth c dC dI cy ad A C H locs ls hP hD hS hL)
theorem j_ixor {x y : Int32} (hd : decode mi.2.1 pc = .ok (.ixor, 1)) (K : zJ sh lv mi Post (pc + 1) L (.int (x ^^^ y) :: st) X) : zJ sh lv mi Post pc L (.int y :: .int x :: st) X := by
  intro p l e s m args below meth c dC dI cy ad A C H locs ls hP hD hS hL
  obtain ⟨hx, hb, hml, hr, hown, hts, hN, hK, hlk, hA, hZ⟩ := id C
  exact lv_ixor hx hb hd (K p l e s m args below meth c dC dI cy ad A C H locs ls hP hD hS hL)
theorem j_ishl {x y : Int32} (hd : decode mi.2.1 pc = .ok (.ishl, 1)) (K : zJ sh lv mi Post (pc + 1) L (.int (zshl x y) :: st) X) : zJ sh lv mi Post pc L (.int y :: .int x :: st) X := by
  intro p l e s m args below meth c dC dI cy ad A C H locs ls hP hD hS hL
  obtain ⟨hx, hb, hml, hr, hown, hts, hN, hK, hlk, hA, hZ⟩ := id C
  exact lv_ishl hx hb hd (K p l e s m args below meth c dC dI cy ad A C H locs ls hP hD hS hL)
theorem j_ishr {x y : Int32} (hd : decode mi.2.1 pc = .ok (.ishr, 1)) (K : zJ sh lv mi Post (pc + 1) L (.int (zshr x y) :: st) X) : zJ sh lv mi Post pc L (.int y :: .int x :: st) X := by
  intro p l e s m args below meth c dC dI cy ad A C H locs ls hP hD hS hL
  obtain ⟨hx, hb, hml, hr, hown, hts, hN, hK, hlk, hA, hZ⟩ := id C
  exact lv_ishr hx hb hd (K p l e s m args below meth c dC dI cy ad A C H locs ls hP hD hS hL)
theorem j_iushr {x y v : Int32} (hd : decode mi.2.1 pc = .ok (.iushr, 1)) (hv : (x.toUInt32 >>> (y.toUInt32 &&& Int32.toUInt32 31)).toInt32 = v) (K : zJ sh lv mi Post (pc + 1) L (.int v :: st) X) : zJ sh lv mi Post pc L (.int y :: .int x :: st) X := by
  intro p l e s m args below meth c dC dI cy ad A C H locs ls hP hD hS hL
  obtain ⟨hx, hb, hml, hr, hown, hts, hN, hK, hlk, hA, hZ⟩ := id C
  exact lv_iushr hx hb hd hv (K p l e s m args below meth c dC dI cy ad A C H locs ls hP hD hS hL)
theorem j_idiv {x y : Int32} (hd : decode mi.2.1 pc = .ok (.idiv, 1)) (hne : ¬ y = 0) (K : zJ sh lv mi Post (pc + 1) L (.int (x / y) :: st) X) : zJ sh lv mi Post pc L (.int y :: .int x :: st) X := by
  intro p l e s m args below meth c dC dI cy ad A C H locs ls hP hD hS hL
  obtain ⟨hx, hb, hml, hr, hown, hts, hN, hK, hlk, hA, hZ⟩ := id C
  exact lv_idiv hx hb hd hne (K p l e s m args below meth c dC dI cy ad A C H locs ls hP hD hS hL)
theorem j_irem {x y : Int32} (hd : decode mi.2.1 pc = .ok (.irem, 1)) (hne : ¬ y = 0) (K : zJ sh lv mi Post (pc + 1) L (.int (x - x / y * y) :: st) X) : zJ sh lv mi Post pc L (.int y :: .int x :: st) X := by
  intro p l e s m args below meth c dC dI cy ad A C H locs ls hP hD hS hL
  obtain ⟨hx, hb, hml, hr, hown, hts, hN, hK, hlk, hA, hZ⟩ := id C
  exact lv_irem hx hb hd hne (K p l e s m args below meth c dC dI cy ad A C H locs ls hP hD hS hL)
theorem j_ladd {x y : Int64} (hd : decode mi.2.1 pc = .ok (.ladd, 1)) (K : zJ sh lv mi Post (pc + 1) L (.long (x + y) :: st) X) : zJ sh lv mi Post pc L (.long y :: .long x :: st) X := by
  intro p l e s m args below meth c dC dI cy ad A C H locs ls hP hD hS hL
  obtain ⟨hx, hb, hml, hr, hown, hts, hN, hK, hlk, hA, hZ⟩ := id C
  exact lv_ladd hx hb hd (K p l e s m args below meth c dC dI cy ad A C H locs ls hP hD hS hL)
theorem j_land {x y : Int64} (hd : decode mi.2.1 pc = .ok (.land, 1)) (K : zJ sh lv mi Post (pc + 1) L (.long (x &&& y) :: st) X) : zJ sh lv mi Post pc L (.long y :: .long x :: st) X := by
  intro p l e s m args below meth c dC dI cy ad A C H locs ls hP hD hS hL
  obtain ⟨hx, hb, hml, hr, hown, hts, hN, hK, hlk, hA, hZ⟩ := id C
  exact lv_land hx hb hd (K p l e s m args below meth c dC dI cy ad A C H locs ls hP hD hS hL)
theorem j_lor {x y : Int64} (hd : decode mi.2.1 pc = .ok (.lor, 1)) (K : zJ sh lv mi Post (pc + 1) L (.long (x ||| y) :: st) X) : zJ sh lv mi Post pc L (.long y :: .long x :: st) X := by
  intro p l e s m args below meth c dC dI cy ad A C H locs ls hP hD hS hL
  obtain ⟨hx, hb, hml, hr, hown, hts, hN, hK, hlk, hA, hZ⟩ := id C
  exact lv_lor hx hb hd (K p l e s m args below meth c dC dI cy ad A C H locs ls hP hD hS hL)
theorem j_lshl {x : Int64} {y : Int32} (hd : decode mi.2.1 pc = .ok (.lshl, 1)) (K : zJ sh lv mi Post (pc + 1) L (.long (x <<< (y.toInt64 &&& 63)) :: st) X) : zJ sh lv mi Post pc L (.int y :: .long x :: st) X := by
  intro p l e s m args below meth c dC dI cy ad A C H locs ls hP hD hS hL
  obtain ⟨hx, hb, hml, hr, hown, hts, hN, hK, hlk, hA, hZ⟩ := id C
  exact lv_lshl hx hb hd rfl (K p l e s m args below meth c dC dI cy ad A C H locs ls hP hD hS hL)
theorem j_lshr {x : Int64} {y : Int32} (hd : decode mi.2.1 pc = .ok (.lshr, 1)) (K : zJ sh lv mi Post (pc + 1) L (.long (x >>> (y.toInt64 &&& 63)) :: st) X) : zJ sh lv mi Post pc L (.int y :: .long x :: st) X := by
  intro p l e s m args below meth c dC dI cy ad A C H locs ls hP hD hS hL
  obtain ⟨hx, hb, hml, hr, hown, hts, hN, hK, hlk, hA, hZ⟩ := id C
  exact lv_lshr hx hb hd rfl (K p l e s m args below meth c dC dI cy ad A C H locs ls hP hD hS hL)
theorem j_lcmp {x y : Int64} (hd : decode mi.2.1 pc = .ok (.lcmp, 1)) (K : zJ sh lv mi Post (pc + 1) L (.int (lg_cmp x y) :: st) X) : zJ sh lv mi Post pc L (.long y :: .long x :: st) X := by
  intro p l e s m args below meth c dC dI cy ad A C H locs ls hP hD hS hL
  obtain ⟨hx, hb, hml, hr, hown, hts, hN, hK, hlk, hA, hZ⟩ := id C
  exact W.lcmp hx hb hd (K p l e s m args below meth c dC dI cy ad A C H locs ls hP hD hS hL)
theorem j_i2l {x : Int32} (hd : decode mi.2.1 pc = .ok (.i2l, 1)) (K : zJ sh lv mi Post (pc + 1) L (.long (x.toInt64) :: st) X) : zJ sh lv mi Post pc L (.int x :: st) X := by
  intro p l e s m args below meth c dC dI cy ad A C H locs ls hP hD hS hL
  obtain ⟨hx, hb, hml, hr, hown, hts, hN, hK, hlk, hA, hZ⟩ := id C
  exact lv_i2l hx hb hd rfl (K p l e s m args below meth c dC dI cy ad A C H locs ls hP hD hS hL)
theorem j_l2i {x : Int64} (hd : decode mi.2.1 pc = .ok (.l2i, 1)) (K : zJ sh lv mi Post (pc + 1) L (.int (x.toInt32) :: st) X) : zJ sh lv mi Post pc L (.long x :: st) X := by
  intro p l e s m args below meth c dC dI cy ad A C H locs ls hP hD hS hL
  obtain ⟨hx, hb, hml, hr, hown, hts, hN, hK, hlk, hA, hZ⟩ := id C
  exact lv_l2i hx hb hd rfl (K p l e s m args below meth c dC dI cy ad A C H locs ls hP hD hS hL)
theorem j_i2b {x : Int32} (hd : decode mi.2.1 pc = .ok (.i2b, 1)) (K : zJ sh lv mi Post (pc + 1) L (.int (x.toInt8.toInt32) :: st) X) : zJ sh lv mi Post pc L (.int x :: st) X := by
  intro p l e s m args below meth c dC dI cy ad A C H locs ls hP hD hS hL
  obtain ⟨hx, hb, hml, hr, hown, hts, hN, hK, hlk, hA, hZ⟩ := id C
  exact lv_i2b hx hb hd rfl (K p l e s m args below meth c dC dI cy ad A C H locs ls hP hD hS hL)
theorem j_i2s {x : Int32} (hd : decode mi.2.1 pc = .ok (.i2s, 1)) (K : zJ sh lv mi Post (pc + 1) L (.int (x.toInt16.toInt32) :: st) X) : zJ sh lv mi Post pc L (.int x :: st) X := by
  intro p l e s m args below meth c dC dI cy ad A C H locs ls hP hD hS hL
  obtain ⟨hx, hb, hml, hr, hown, hts, hN, hK, hlk, hA, hZ⟩ := id C
  exact lv_i2s hx hb hd rfl (K p l e s m args below meth c dC dI cy ad A C H locs ls hP hD hS hL)
theorem j_dup {v : Value} (hd : decode mi.2.1 pc = .ok (.dup, 1)) (hc : v.category = 1) (K : zJ sh lv mi Post (pc + 1) L (v :: v :: st) X) : zJ sh lv mi Post pc L (v :: st) X := by
  intro p l e s m args below meth c dC dI cy ad A C H locs ls hP hD hS hL
  obtain ⟨hx, hb, hml, hr, hown, hts, hN, hK, hlk, hA, hZ⟩ := id C
  exact lv_dup hx hb hd (by rw [zk_cat]; exact hc) (K p l e s m args below meth c dC dI cy ad A C H locs ls hP hD hS hL)
theorem j_dup2 {v w : Value} (hd : decode mi.2.1 pc = .ok (.dup2, 1)) (hc : v.category = 1) (hw : w.category = 1) (K : zJ sh lv mi Post (pc + 1) L (v :: w :: v :: w :: st) X) : zJ sh lv mi Post pc L (v :: w :: st) X := by
  intro p l e s m args below meth c dC dI cy ad A C H locs ls hP hD hS hL
  obtain ⟨hx, hb, hml, hr, hown, hts, hN, hK, hlk, hA, hZ⟩ := id C
  exact lv_dup2_11 hx hb hd (by rw [zk_cat]; exact hc) (by rw [zk_cat]; exact hw) (K p l e s m args below meth c dC dI cy ad A C H locs ls hP hD hS hL)
theorem j_if_eq {x : Int32} {off : Int} {tgt : Nat} (hd : decode mi.2.1 pc = .ok (.ifCond .eq off, 3)) (ht : (pc : Int) + off = (tgt : Int)) (Kt : x = 0 → zJ sh lv mi Post tgt L st X) (Kf : ¬ (x = 0) → zJ sh lv mi Post (pc + 3) L st X) : zJ sh lv mi Post pc L (.int x :: st) X := by
  intro p l e s m args below meth c dC dI cy ad A C H locs ls hP hD hS hL
  obtain ⟨hx, hb, hml, hr, hown, hts, hN, hK, hlk, hA, hZ⟩ := id C
  exact lv_if_eq hx hb hd ht (fun h => Kt h p l e s m args below meth c dC dI cy ad A C H locs ls hP hD hS hL) (fun h => Kf h p l e s m args below meth c dC dI cy ad A C H locs ls hP hD hS hL)
theorem j_ic_eq {x y : Int32} {off : Int} {tgt : Nat} (hd : decode mi.2.1 pc = .ok (.if_icmp .eq off, 3)) (ht : (pc : Int) + off = (tgt : Int)) (Kt : x = y → zJ sh lv mi Post tgt L st X) (Kf : ¬ (x = y) → zJ sh lv mi Post (pc + 3) L st X) : zJ sh lv mi Post pc L (.int y :: .int x :: st) X := by
  intro p l e s m args below meth c dC dI cy ad A C H locs ls hP hD hS hL
  obtain ⟨hx, hb, hml, hr, hown, hts, hN, hK, hlk, hA, hZ⟩ := id C
  exact lv_icmp_eq hx hb hd ht (fun h => Kt h p l e s m args below meth c dC dI cy ad A C H locs ls hP hD hS hL) (fun h => Kf h p l e s m args below meth c dC dI cy ad A C H locs ls hP hD hS hL)
theorem j_if_ne {x : Int32} {off : Int} {tgt : Nat} (hd : decode mi.2.1 pc = .ok (.ifCond .ne off, 3)) (ht : (pc : Int) + off = (tgt : Int)) (Kt : ¬ x = 0 → zJ sh lv mi Post tgt L st X) (Kf : x = 0 → zJ sh lv mi Post (pc + 3) L st X) : zJ sh lv mi Post pc L (.int x :: st) X := by
  intro p l e s m args below meth c dC dI cy ad A C H locs ls hP hD hS hL
  obtain ⟨hx, hb, hml, hr, hown, hts, hN, hK, hlk, hA, hZ⟩ := id C
  exact lv_if_ne hx hb hd ht (fun h => Kt h p l e s m args below meth c dC dI cy ad A C H locs ls hP hD hS hL) (fun h => Kf h p l e s m args below meth c dC dI cy ad A C H locs ls hP hD hS hL)
theorem j_ic_ne {x y : Int32} {off : Int} {tgt : Nat} (hd : decode mi.2.1 pc = .ok (.if_icmp .ne off, 3)) (ht : (pc : Int) + off = (tgt : Int)) (Kt : ¬ x = y → zJ sh lv mi Post tgt L st X) (Kf : x = y → zJ sh lv mi Post (pc + 3) L st X) : zJ sh lv mi Post pc L (.int y :: .int x :: st) X := by
  intro p l e s m args below meth c dC dI cy ad A C H locs ls hP hD hS hL
  obtain ⟨hx, hb, hml, hr, hown, hts, hN, hK, hlk, hA, hZ⟩ := id C
  exact lv_icmp_ne hx hb hd ht (fun h => Kt h p l e s m args below meth c dC dI cy ad A C H locs ls hP hD hS hL) (fun h => Kf h p l e s m args below meth c dC dI cy ad A C H locs ls hP hD hS hL)
theorem j_if_lt {x : Int32} {off : Int} {tgt : Nat} (hd : decode mi.2.1 pc = .ok (.ifCond .lt off, 3)) (ht : (pc : Int) + off = (tgt : Int)) (Kt : x < 0 → zJ sh lv mi Post tgt L st X) (Kf : ¬ (x < 0) → zJ sh lv mi Post (pc + 3) L st X) : zJ sh lv mi Post pc L (.int x :: st) X := by
  intro p l e s m args below meth c dC dI cy ad A C H locs ls hP hD hS hL
  obtain ⟨hx, hb, hml, hr, hown, hts, hN, hK, hlk, hA, hZ⟩ := id C
  exact lv_if_lt hx hb hd ht (fun h => Kt h p l e s m args below meth c dC dI cy ad A C H locs ls hP hD hS hL) (fun h => Kf h p l e s m args below meth c dC dI cy ad A C H locs ls hP hD hS hL)
theorem j_ic_lt {x y : Int32} {off : Int} {tgt : Nat} (hd : decode mi.2.1 pc = .ok (.if_icmp .lt off, 3)) (ht : (pc : Int) + off = (tgt : Int)) (Kt : x < y → zJ sh lv mi Post tgt L st X) (Kf : ¬ (x < y) → zJ sh lv mi Post (pc + 3) L st X) : zJ sh lv mi Post pc L (.int y :: .int x :: st) X := by
  intro p l e s m args below meth c dC dI cy ad A C H locs ls hP hD hS hL
  obtain ⟨hx, hb, hml, hr, hown, hts, hN, hK, hlk, hA, hZ⟩ := id C
  exact lv_icmp_lt hx hb hd ht (fun h => Kt h p l e s m args below meth c dC dI cy ad A C H locs ls hP hD hS hL) (fun h => Kf h p l e s m args below meth c dC dI cy ad A C H locs ls hP hD hS hL)
theorem j_if_ge {x : Int32} {off : Int} {tgt : Nat} (hd : decode mi.2.1 pc = .ok (.ifCond .ge off, 3)) (ht : (pc : Int) + off = (tgt : Int)) (Kt : 0 ≤ x → zJ sh lv mi Post tgt L st X) (Kf : ¬ (0 ≤ x) → zJ sh lv mi Post (pc + 3) L st X) : zJ sh lv mi Post pc L (.int x :: st) X := by
  intro p l e s m args below meth c dC dI cy ad A C H locs ls hP hD hS hL
  obtain ⟨hx, hb, hml, hr, hown, hts, hN, hK, hlk, hA, hZ⟩ := id C
  exact lv_if_ge hx hb hd ht (fun h => Kt h p l e s m args below meth c dC dI cy ad A C H locs ls hP hD hS hL) (fun h => Kf h p l e s m args below meth c dC dI cy ad A C H locs ls hP hD hS hL)
theorem j_ic_ge {x y : Int32} {off : Int} {tgt : Nat} (hd : decode mi.2.1 pc = .ok (.if_icmp .ge off, 3)) (ht : (pc : Int) + off = (tgt : Int)) (Kt : y ≤ x → zJ sh lv mi Post tgt L st X) (Kf : ¬ (y ≤ x) → zJ sh lv mi Post (pc + 3) L st X) : zJ sh lv mi Post pc L (.int y :: .int x :: st) X := by
  intro p l e s m args below meth c dC dI cy ad A C H locs ls hP hD hS hL
  obtain ⟨hx, hb, hml, hr, hown, hts, hN, hK, hlk, hA, hZ⟩ := id C
  exact lv_icmp_ge hx hb hd ht (fun h => Kt h p l e s m args below meth c dC dI cy ad A C H locs ls hP hD hS hL) (fun h => Kf h p l e s m args below meth c dC dI cy ad A C H locs ls hP hD hS hL)
theorem j_if_gt {x : Int32} {off : Int} {tgt : Nat} (hd : decode mi.2.1 pc = .ok (.ifCond .gt off, 3)) (ht : (pc : Int) + off = (tgt : Int)) (Kt : 0 < x → zJ sh lv mi Post tgt L st X) (Kf : ¬ (0 < x) → zJ sh lv mi Post (pc + 3) L st X) : zJ sh lv mi Post pc L (.int x :: st) X := by
  intro p l e s m args below meth c dC dI cy ad A C H locs ls hP hD hS hL
  obtain ⟨hx, hb, hml, hr, hown, hts, hN, hK, hlk, hA, hZ⟩ := id C
  exact lv_if_gt hx hb hd ht (fun h => Kt h p l e s m args below meth c dC dI cy ad A C H locs ls hP hD hS hL) (fun h => Kf h p l e s m args below meth c dC dI cy ad A C H locs ls hP hD hS hL)
theorem j_ic_gt {x y : Int32} {off : Int} {tgt : Nat} (hd : decode mi.2.1 pc = .ok (.if_icmp .gt off, 3)) (ht : (pc : Int) + off = (tgt : Int)) (Kt : y < x → zJ sh lv mi Post tgt L st X) (Kf : ¬ (y < x) → zJ sh lv mi Post (pc + 3) L st X) : zJ sh lv mi Post pc L (.int y :: .int x :: st) X := by
  intro p l e s m args below meth c dC dI cy ad A C H locs ls hP hD hS hL
  obtain ⟨hx, hb, hml, hr, hown, hts, hN, hK, hlk, hA, hZ⟩ := id C
  exact lv_icmp_gt hx hb hd ht (fun h => Kt h p l e s m args below meth c dC dI cy ad A C H locs ls hP hD hS hL) (fun h => Kf h p l e s m args below meth c dC dI cy ad A C H locs ls hP hD hS hL)
theorem j_if_le {x : Int32} {off : Int} {tgt : Nat} (hd : decode mi.2.1 pc = .ok (.ifCond .le off, 3)) (ht : (pc : Int) + off = (tgt : Int)) (Kt : x ≤ 0 → zJ sh lv mi Post tgt L st X) (Kf : ¬ (x ≤ 0) → zJ sh lv mi Post (pc + 3) L st X) : zJ sh lv mi Post pc L (.int x :: st) X := by
  intro p l e s m args below meth c dC dI cy ad A C H locs ls hP hD hS hL
  obtain ⟨hx, hb, hml, hr, hown, hts, hN, hK, hlk, hA, hZ⟩ := id C
  exact lv_if_le hx hb hd ht (fun h => Kt h p l e s m args below meth c dC dI cy ad A C H locs ls hP hD hS hL) (fun h => Kf h p l e s m args below meth c dC dI cy ad A C H locs ls hP hD hS hL)
theorem j_ic_le {x y : Int32} {off : Int} {tgt : Nat} (hd : decode mi.2.1 pc = .ok (.if_icmp .le off, 3)) (ht : (pc : Int) + off = (tgt : Int)) (Kt : x ≤ y → zJ sh lv mi Post tgt L st X) (Kf : ¬ (x ≤ y) → zJ sh lv mi Post (pc + 3) L st X) : zJ sh lv mi Post pc L (.int y :: .int x :: st) X := by
  intro p l e s m args below meth c dC dI cy ad A C H locs ls hP hD hS hL
  obtain ⟨hx, hb, hml, hr, hown, hts, hN, hK, hlk, hA, hZ⟩ := id C
  exact lv_icmp_le hx hb hd ht (fun h => Kt h p l e s m args below meth c dC dI cy ad A C H locs ls hP hD hS hL) (fun h => Kf h p l e s m args below meth c dC dI cy ad A C H locs ls hP hD hS hL)
theorem j_goto {off : Int} {tgt : Nat} (hd : decode mi.2.1 pc = .ok (.goto off, 3)) (ht : (pc : Int) + off = (tgt : Int)) (K : zJ sh lv mi Post tgt L st X) : zJ sh lv mi Post pc L st X := by
  intro p l e s m args below meth c dC dI cy ad A C H locs ls hP hD hS hL
  obtain ⟨hx, hb, hml, hr, hown, hts, hN, hK, hlk, hA, hZ⟩ := id C
  exact lv_goto hx hb hd ht (K p l e s m args below meth c dC dI cy ad A C H locs ls hP hD hS hL)
/-- a table's targets: x is the first number, or the next .. -/
def zTs (x : Int32) (K : Nat → Prop) : Int → List Nat → Prop
  | _, [] => True
  | i, t :: r => (x = Int32.ofInt i → K t) ∧ zTs x K (i + 1) r
theorem zTs_at {x : Int32} {K : Nat → Prop} : ∀ (tg : List Nat) (lo : Int) (i t : Nat), zTs x K lo tg → tg[i]? = some t → x.toInt = lo + i → K t
  | [], lo, i, t, h, ht, hx => by simp at ht
  | a :: r, lo, 0, t, h, ht, hx => by
    simp at ht
    subst ht
    exact h.1 (by rw [← Int32.ofInt_toInt x, hx]; simp)
  | a :: r, lo, i + 1, t, h, ht, hx => zTs_at r (lo + 1) i t h.2 (by simpa using ht) (by rw [hx]; omega)
theorem j_tsw {dflt lo hi : Int} {offs : Array Int} {len : Nat} {x : Int32} {dt : Nat} (tg : List Nat) (hd : decode mi.2.1 pc = .ok (.tableswitch dflt lo hi offs, len)) (hdt : (pc : Int) + dflt = (dt : Int)) (htg : offs.toList.map (fun o => (pc : Int) + o) = tg.map (fun (t : Nat) => (t : Int))) (hlh : hi + 1 - lo = (tg.length : Int)) (Ki : zTs x (fun t => zJ sh lv mi Post t L st X) lo tg) (Ko : (x.toInt < lo ∨ hi < x.toInt) → zJ sh lv mi Post dt L st X) : zJ sh lv mi Post pc L (.int x :: st) X := by
  by_cases h : x.toInt < lo ∨ hi < x.toInt
  · have K := Ko h
    intro p l e s m args below meth c dC dI cy ad A C H locs ls hP hD hS hL
    obtain ⟨hx, hb, hml, hr, hown, hts, hN, hK, hlk, hA, hZ⟩ := id C
    exact lv_tableOut hx hb hd h hdt (K p l e s m args below meth c dC dI cy ad A C H locs ls hP hD hS hL)
  · obtain ⟨i, hi2⟩ : ∃ i : Nat, x.toInt = lo + i := ⟨(x.toInt - lo).toNat, by omega⟩
    have hlt : i < tg.length := by omega
    have K := zTs_at tg lo i tg[i] Ki (List.getElem?_eq_getElem hlt) hi2
    have e1 : (x.toInt - lo).toNat = i := by omega
    have e2 : (offs.toList.map (fun o => (pc : Int) + o))[i]? = some ((tg[i] : Nat) : Int) := by rw [htg, List.getElem?_map, List.getElem?_eq_getElem hlt]; rfl
    rw [List.getElem?_map] at e2
    cases ho : offs.toList[i]? with
    | none => rw [ho] at e2; cases e2
    | some o =>
      rw [ho] at e2
      have e3 : (pc : Int) + o = ((tg[i] : Nat) : Int) := Option.some.inj e2
      intro p l e s m args below meth c dC dI cy ad A C H locs ls hP hD hS hL
      obtain ⟨hx, hb, hml, hr, hown, hts, hN, hK, hlk, hA, hZ⟩ := id C
      exact lv_tableIn hx hb hd (fun q => h (Or.inl q)) (fun q => h (Or.inr q)) (by rw [e1, ← Array.getElem?_toList]; exact ho) e3 (K p l e s m args below meth c dC dI cy ad A C H locs ls hP hD hS hL)
/-- a field's link: from the class own, by the pool's place idx, to the field k of the class ci -/
def zF (own : String) (idx ci k : Nat) : Prop := ∃ (C : String) (T : u_T) (N : Nat), vwCl[ci]? = some (C, T, N) ∧ k < N ∧ (∀ w ∈ u_ws C T N, w ∈ zG) ∧ (Cond.fieldLink own idx (T k).1 (T k).2.1 (T k).2.2.1 ∈ zG ∨ ∃ host, Cond.fieldLinkNest own idx (T k).1 (T k).2.1 (T k).2.2.1 host ∈ zN)
/-- a field that is an int and not final -/
def zFp (ci k : Nat) : Prop := ∃ (C : String) (T : u_T) (N : Nat) (ty0 : Nat → FieldType), vwCl[ci]? = some (C, T, N) ∧ (∀ k, k < N → parseFieldDescriptor (T k).2.2.1 = some (ty0 k)) ∧ (∀ a, a < N → ∀ b, b < N → a ≠ b → (T a).2.1 ≠ (T b).2.1) ∧ (T k).2.2.2 = false ∧ parseFieldDescriptor (T k).2.2.1 = some .int
theorem j_getv {idx q ci k : Nat} {fs : List (Option (Option Nat))} {f : Option (Option Nat)} {v : Value} (hd : decode mi.2.1 pc = .ok (.getfield idx, 3)) (hF : zF mi.1.cls idx ci k) (hs : sh[q]? = some (.inr (ci, fs))) (hk : fs[k]? = some f) (hv : ∀ ad, zv ad X q k f = zk ad v) (K : zJ sh lv mi Post (pc + 3) L (v :: st) X) : zJ sh lv mi Post pc L (.ref q :: st) X := by
  obtain ⟨C0, T, N, hc, hkN, hin, hl⟩ := hF
  intro p l e s m args below meth c dC dI cy ad A C H locs ls hP hD hS hL
  obtain ⟨hx, hb, hml, hr, hown, hts, hN, hK, hlk, hA, hZ⟩ := id C
  have he := zw_at (cy := cy) (ad := ad) (X := X) hs
  have hfv : (fs.mapIdx (fun j f => zv ad X q j f))[k]? = some (zk ad v) := by rw [List.getElem?_mapIdx, hk, ← hv ad]; rfl
  rcases hl with hl | ⟨host, hl⟩
  · exact va_get hx hb hts hin hown hK hP q he hc k hkN (hts _ hl) (fun _ h9 => h9) hfv hd (K p l e s m args below meth c dC dI cy ad A C H locs ls hP hD hS hL)
  · exact va_getN hx hb hts hin hown hK hP q he hc k hkN ((hN _ hl).use rfl) (fun _ h9 => h9) hfv hd (K p l e s m args below meth c dC dI cy ad A C H locs ls hP hD hS hL)
theorem j_getf {idx q ci k : Nat} {fs : List (Option (Option Nat))} (hd : decode mi.2.1 pc = .ok (.getfield idx, 3)) (hF : zF mi.1.cls idx ci k) (hs : sh[q]? = some (.inr (ci, fs))) (hk : fs[k]? = some none) (K : zJ sh lv mi Post (pc + 3) L (.int (X q k) :: st) X) : zJ sh lv mi Post pc L (.ref q :: st) X := j_getv hd hF hs hk (fun _ => rfl) K
theorem j_getr {idx q ci k r : Nat} {fs : List (Option (Option Nat))} (hd : decode mi.2.1 pc = .ok (.getfield idx, 3)) (hF : zF mi.1.cls idx ci k) (hs : sh[q]? = some (.inr (ci, fs))) (hk : fs[k]? = some (some (some r))) (K : zJ sh lv mi Post (pc + 3) L (.ref r :: st) X) : zJ sh lv mi Post pc L (.ref q :: st) X := j_getv hd hF hs hk (fun _ => rfl) K
theorem j_putf {idx q ci k : Nat} {fs : List (Option (Option Nat))} {v : Int32} (hd : decode mi.2.1 pc = .ok (.putfield idx, 3)) (hF : zF mi.1.cls idx ci k) (hp : zFp ci k) (hs : sh[q]? = some (.inr (ci, fs))) (hk : fs[k]? = some none) (K : zJ sh lv mi Post (pc + 3) L st (zs X q k v)) : zJ sh lv mi Post pc L (.int v :: .ref q :: st) X := by
  obtain ⟨C0, T, N, hc, hkN, hin, hl⟩ := hF
  obtain ⟨C1, T1, N1, ty0, hc1, hty, hnm, hfin, hpd⟩ := hp
  cases hc.symm.trans hc1
  intro p l e s m args below meth c dC dI cy ad A C H locs ls hP hD hS hL
  obtain ⟨hx, hb, hml, hr, hown, hts, hN, hK, hlk, hA, hZ⟩ := id C
  have he := zw_at (cy := cy) (ad := ad) (X := X) hs
  have hlen : k < (fs.mapIdx (fun j f => zv ad X q j f)).length := by rw [List.length_mapIdx]; exact (List.getElem?_eq_some_iff.mp hk).1
  have hw : (zw cy ad X sh).set q (ad q, .inr (ci, (fs.mapIdx (fun j f => zv ad X q j f)).set k (.int v))) = zw cy ad (zs X q k v) sh := by
    refine zw_set hs (fun a ha => zs_ne ha) ?_
    simp only [zc]
    congr 2
    apply List.ext_getElem?
    intro i
    rw [List.getElem?_set]
    by_cases h : k = i
    · subst h
      rw [if_pos rfl, if_pos hlen, List.getElem?_mapIdx, hk]
      simp only [Option.map_some, zv, zs_eq]
    · rw [if_neg h, List.getElem?_mapIdx, List.getElem?_mapIdx]
      cases hi : fs[i]? with
      | none => rfl
      | some f =>
        match f with
        | none => simp only [Option.map_some, zv, zs_nk (fun h2 => h h2.symm)]
        | some none => rfl
        | some (some r) => rfl
  have fin : ∀ (H1 : Heap) (locs1 : List Loc), va_P (dC, dI) vwCl ((zw cy ad X sh).set q (ad q, .inr (ci, (fs.mapIdx (fun j f => zv ad X q j f)).set k (.int v)))) H1 → va_D A ((zw cy ad X sh).set q (ad q, .inr (ci, (fs.mapIdx (fun j f => zv ad X q j f)).set k (.int v)))) → va_S A s.heap H1 locs1 → W p l e (zr lv) s m args below meth c H1 locs1 0 0 (MQ below (zQ dC dI cy ad sh Post A) args s 0 0 A) (F0 m (pc + 3) ls (st.map (zk ad))) := by
    intro H1 locs1 hP1 hD1 hS1
    rw [hw] at hP1 hD1
    exact K p l e s m args below meth c dC dI cy ad A C H1 locs1 ls hP1 hD1 hS1 hL
  rcases hl with hl | ⟨host, hl⟩
  · exact va_put hx hb hts hin ty0 hty hnm hown hK hP hD hS q he hc k hkN (hts _ hl) (fun _ h9 => h9) hfin hpd rfl rfl hlen hd fin
  · exact va_putN hx hb hts hin ty0 hty hnm hown hK hP hD hS q he hc k hkN ((hN _ hl).use rfl) (fun _ h9 => h9) hfin hpd rfl rfl hlen hd fin
theorem j_iald {q n : Nat} {i : Int32} (hd : decode mi.2.1 pc = .ok (.iaload, 1)) (hs : sh[q]? = some (.inl (1, n, none))) (hi : vp_in i n) (K : zJ sh lv mi Post (pc + 1) L (.int (X q i.toNatClampNeg) :: st) X) : zJ sh lv mi Post pc L (.int i :: .ref q :: st) X := by
  intro p l e s m args below meth c dC dI cy ad A C H locs ls hP hD hS hL
  obtain ⟨hx, hb, hml, hr, hown, hts, hN, hK, hlk, hA, hZ⟩ := id C
  exact va_iald hx hb hK hP q 1 (zw_at hs) rfl hi hd (K p l e s m args below meth c dC dI cy ad A C H locs ls hP hD hS hL)
theorem j_bald {q n : Nat} {i : Int32} (hd : decode mi.2.1 pc = .ok (.baload, 1)) (hs : sh[q]? = some (.inl (0, n, none))) (hi : vp_in i n) (K : zJ sh lv mi Post (pc + 1) L (.int (X q i.toNatClampNeg) :: st) X) : zJ sh lv mi Post pc L (.int i :: .ref q :: st) X := by
  intro p l e s m args below meth c dC dI cy ad A C H locs ls hP hD hS hL
  obtain ⟨hx, hb, hml, hr, hown, hts, hN, hK, hlk, hA, hZ⟩ := id C
  exact va_bald hx hb hK hP q 0 (zw_at hs) rfl hi hd (K p l e s m args below meth c dC dI cy ad A C H locs ls hP hD hS hL)
theorem j_zald {q n : Nat} {i : Int32} (hd : decode mi.2.1 pc = .ok (.baload, 1)) (hs : sh[q]? = some (.inl (2, n, none))) (hi : vp_in i n) (K : zJ sh lv mi Post (pc + 1) L (.int (X q i.toNatClampNeg) :: st) X) : zJ sh lv mi Post pc L (.int i :: .ref q :: st) X := by
  intro p l e s m args below meth c dC dI cy ad A C H locs ls hP hD hS hL
  obtain ⟨hx, hb, hml, hr, hown, hts, hN, hK, hlk, hA, hZ⟩ := id C
  exact va_zald hx hb hK hP q 2 (zw_at hs) rfl hi hd (K p l e s m args below meth c dC dI cy ad A C H locs ls hP hD hS hL)
theorem j_iast {q n : Nat} {i x : Int32} (hd : decode mi.2.1 pc = .ok (.iastore, 1)) (hs : sh[q]? = some (.inl (1, n, none))) (hi : vp_in i n) (K : zJ sh lv mi Post (pc + 1) L st (zs X q i.toNatClampNeg (x))) : zJ sh lv mi Post pc L (.int x :: .int i :: .ref q :: st) X := by
  intro p l e s m args below meth c dC dI cy ad A C H locs ls hP hD hS hL
  obtain ⟨hx, hb, hml, hr, hown, hts, hN, hK, hlk, hA, hZ⟩ := id C
  have hw : (zw cy ad X sh).set q (ad q, .inl (cy 1, n, .inl (upd (X q) i.toNatClampNeg (x)))) = zw cy ad (zs X q i.toNatClampNeg (x)) sh := zw_set hs (fun a ha => zs_ne ha) (by simp only [zc, zs_row])
  refine va_iast hx hb hK hP hD hS q 1 (zw_at hs) rfl hi hd (fun H1 locs1 hP1 hD1 hS1 => ?_)
  rw [hw] at hP1 hD1
  exact K p l e s m args below meth c dC dI cy ad A C H1 locs1 ls hP1 hD1 hS1 hL
theorem j_bast {q n : Nat} {i x : Int32} (hd : decode mi.2.1 pc = .ok (.bastore, 1)) (hs : sh[q]? = some (.inl (0, n, none))) (hi : vp_in i n) (K : zJ sh lv mi Post (pc + 1) L st (zs X q i.toNatClampNeg (vp_nar .byte x))) : zJ sh lv mi Post pc L (.int x :: .int i :: .ref q :: st) X := by
  intro p l e s m args below meth c dC dI cy ad A C H locs ls hP hD hS hL
  obtain ⟨hx, hb, hml, hr, hown, hts, hN, hK, hlk, hA, hZ⟩ := id C
  have hw : (zw cy ad X sh).set q (ad q, .inl (cy 0, n, .inl (upd (X q) i.toNatClampNeg (vp_nar .byte x)))) = zw cy ad (zs X q i.toNatClampNeg (vp_nar .byte x)) sh := zw_set hs (fun a ha => zs_ne ha) (by simp only [zc, zs_row])
  refine va_bast hx hb hK hP hD hS q 0 (zw_at hs) rfl hi hd (fun H1 locs1 hP1 hD1 hS1 => ?_)
  rw [hw] at hP1 hD1
  exact K p l e s m args below meth c dC dI cy ad A C H1 locs1 ls hP1 hD1 hS1 hL
theorem j_zast {q n : Nat} {i x : Int32} (hd : decode mi.2.1 pc = .ok (.bastore, 1)) (hs : sh[q]? = some (.inl (2, n, none))) (hi : vp_in i n) (K : zJ sh lv mi Post (pc + 1) L st (zs X q i.toNatClampNeg (vp_nar .boolean x))) : zJ sh lv mi Post pc L (.int x :: .int i :: .ref q :: st) X := by
  intro p l e s m args below meth c dC dI cy ad A C H locs ls hP hD hS hL
  obtain ⟨hx, hb, hml, hr, hown, hts, hN, hK, hlk, hA, hZ⟩ := id C
  have hw : (zw cy ad X sh).set q (ad q, .inl (cy 2, n, .inl (upd (X q) i.toNatClampNeg (vp_nar .boolean x)))) = zw cy ad (zs X q i.toNatClampNeg (vp_nar .boolean x)) sh := zw_set hs (fun a ha => zs_ne ha) (by simp only [zc, zs_row])
  refine va_zast hx hb hK hP hD hS q 2 (zw_at hs) rfl hi hd (fun H1 locs1 hP1 hD1 hS1 => ?_)
  rw [hw] at hP1 hD1
  exact K p l e s m args below meth c dC dI cy ad A C H1 locs1 ls hP1 hD1 hS1 hL
theorem j_aald {q n r : Nat} {i : Int32} {f : Nat → Option Nat} (t : Nat) (ht : t = 3 ∨ t = 4) (hd : decode mi.2.1 pc = .ok (.aaload, 1)) (hs : sh[q]? = some (.inl (t, n, some f))) (hi : vp_in i n) (hf : f i.toNatClampNeg = some r) (K : zJ sh lv mi Post (pc + 1) L (.ref r :: st) X) : zJ sh lv mi Post pc L (.int i :: .ref q :: st) X := by
  intro p l e s m args below meth c dC dI cy ad A C H locs ls hP hD hS hL
  obtain ⟨hx, hb, hml, hr, hown, hts, hN, hK, hlk, hA, hZ⟩ := id C
  have he := zw_at (cy := cy) (ad := ad) (X := X) hs
  have hlt : i.toNatClampNeg < n := Nat.not_le.mp fun q => hi (Or.inr q)
  have hv : va_rf ((f i.toNatClampNeg).map ad) = .ref (ad r) := by rw [hf]; rfl
  have K2 := K p l e s m args below meth c dC dI cy ad A C H locs ls hP hD hS hL
  rcases ht with rfl | rfl
  · refine va_aldq hx hb hK hP q 3 (C := "WaysSung$Sheet") he rfl hi hd ?_
    simp only [hv]; exact K2
  · refine W.aald (v := va_rf ((f i.toNatClampNeg).map ad)) (ty := .array .int) hx hb (hP q _ he) ((hK.2 4 _ rfl).1 n (fun j => va_rf ((f j).map ad))) rfl (fun q => by cases q) (by show ¬ (i < 0 ∨ (arrV _ _ _).slots.size ≤ _); rw [arrV_size]; exact hi) (by show (arrV _ _ _).slots[_]? = _; rw [arrV_read _ _ hlt]) rfl rfl hd ?_
    rw [hv]; exact K2
theorem j_iret {v : Int32} {ty : FieldType} (hd : decode mi.2.1 pc = .ok (.ireturn, 1)) (hty : mi.2.2.2 = some ty) (hn : narrow ty (.int v) = .int v) (K : Post (some (.int v)) X) : zJ sh lv mi Post pc L [.int v] X := by
  intro p l e s m args below meth c dC dI cy ad A C H locs ls hP hD hS hL
  obtain ⟨hx, hb, hml, hr, hown, hts, hN, hK, hlk, hA, hZ⟩ := id C
  exact W.zret (v := v) (ty := ty) hx hb (hr.trans hty) hn (fun t ht _ => ⟨⟨some (.int v), X, rfl, K, by rw [ht]; exact hP, hD⟩, hS.F ht⟩) hS.2.2 hd
theorem j_vret (hd : decode mi.2.1 pc = .ok (.return_, 1)) (hty : mi.2.2.2 = none) (K : Post none X) : zJ sh lv mi Post pc L [] X := by
  intro p l e s m args below meth c dC dI cy ad A C H locs ls hP hD hS hL
  obtain ⟨hx, hb, hml, hr, hown, hts, hN, hK, hlk, hA, hZ⟩ := id C
  exact W.vret hx hb (hr.trans hty) (fun t ht _ => ⟨⟨none, X, rfl, K, by rw [ht]; exact hP, hD⟩, hS.F ht⟩) hS.2.2 hd
end ZR
