def SX : List zE := [.inr (9, [some (some 1), some (some 4), some (some 19), some (some 25), some (some 27), some (some 28), some (some 42), some (some 44), some (some 53), some (some 54), some (some 58), none, none]), .inr (1, [some (some 2), some (some 3), none, none, none]), .inl (1, 12, none), .inl (1, 12, none), .inr (6, [some (some 5), some (some 6), some (some 7), some (some 8), some (some 9), some (some 10), some (some 11), some (some 16), some (some 17), some (some 18), none]), .inl (1, 24, none), .inl (1, 24, none), .inl (1, 24, none), .inl (1, 24, none), .inl (1, 24, none), .inl (1, 24, none), .inl (4, 4, some (fun j => if j < 4 then some (12 + j) else none)), .inl (1, 24, none), .inl (1, 24, none), .inl (1, 24, none), .inl (1, 24, none), .inl (1, 4, none), .inl (1, 4, none), .inl (1, 12, none), .inr (2, [some (some 20), some (some 21), some (some 22), some (some 23), some (some 24), none]), .inl (1, 8, none), .inl (1, 8, none), .inl (1, 8, none), .inl (1, 8, none), .inl (2, 8, none), .inr (7, [some (some 26), none]), .inl (0, 200, none), .inr (3, [some (some 25), none, none, none, none, none, none, none, none, none, none, none]), .inr (8, [some (some 4), some (some 29), some (some 40), some (some 41), none, none, none]), .inl (4, 10, some (fun j => if j < 10 then some (30 + j) else none)), .inl (1, 12, none), .inl (1, 12, none), .inl (1, 12, none), .inl (1, 12, none), .inl (1, 12, none), .inl (1, 12, none), .inl (1, 12, none), .inl (1, 12, none), .inl (1, 12, none), .inl (1, 12, none), .inl (1, 12, none), .inl (1, 12, none), .inr (0, [some (some 4), some (some 43)]), .inl (1, 16, none), .inl (3, 4, some (fun j => if j < 4 then some (45 + 2 * j) else none)), .inr (5, [some (some 46), none, none]), .inl (1, 40, none), .inr (5, [some (some 48), none, none]), .inl (1, 40, none), .inr (5, [some (some 50), none, none]), .inl (1, 40, none), .inr (5, [some (some 52), none, none]), .inl (1, 40, none), .inl (1, 8, none), .inr (4, [some (some 55), some (some 56), some (some 57), none, none, none]), .inl (1, 8, none), .inl (1, 24, none), .inl (1, 12, none), .inr (4, [some (some 59), some (some 60), some (some 61), none, none, none]), .inl (1, 8, none), .inl (1, 24, none), .inl (1, 12, none)]
def SY : List zE := [.inr (10, [none, some (some 1), some (some 2), none, some (some 3), some (some 4), some (some 5), some (some 6), some (some 7), some (some 8), none, some (some 9), some (some 10), some (some 11), some (some 12), some (some 13), some (some 14), none, none, none, none, none, some (some 15), some (some 16), some (some 17), none, none, none, some (some 18), some (some 19), some (some 20), some (some 21), some (some 22), none, none, none, none, none, none, none, some (some 23), some (some 24), some (some 25), some (some 26), some (some 27), none]), .inl (1, 12, none), .inl (1, 12, none), .inl (1, 24, none), .inl (1, 24, none), .inl (1, 24, none), .inl (1, 24, none), .inl (1, 24, none), .inl (1, 24, none), .inl (1, 8, none), .inl (1, 8, none), .inl (1, 8, none), .inl (1, 8, none), .inl (1, 8, none), .inl (2, 8, none), .inl (1, 8, none), .inl (1, 12, none), .inl (1, 24, none), .inl (1, 8, none), .inl (1, 12, none), .inl (1, 24, none), .inl (2, 6, none), .inl (1, 200, none), .inl (1, 252, none), .inl (2, 252, none), .inl (1, 4, none), .inl (1, 4, none), .inl (1, 160, none)]
def SR : List zE := [.inr (4, [some (some 1), some (some 2), some (some 3), none, none, none]), .inl (1, 8, none), .inl (1, 24, none), .inl (1, 12, none)]
theorem sx_order {j : Nat} (h : j < 4) : SX[12 + j]? = some (.inl (1, 24, none)) := by
  match j, h with
  | 0, _ => rfl
  | 1, _ => rfl
  | 2, _ => rfl
  | 3, _ => rfl
  | j + 4, h => exact absurd h (by omega)
theorem sx_coming {j : Nat} (h : j < 10) : SX[30 + j]? = some (.inl (1, 12, none)) := by
  match j, h with
  | 0, _ => rfl
  | 1, _ => rfl
  | 2, _ => rfl
  | 3, _ => rfl
  | 4, _ => rfl
  | 5, _ => rfl
  | 6, _ => rfl
  | 7, _ => rfl
  | 8, _ => rfl
  | 9, _ => rfl
  | j + 10, h => exact absurd h (by omega)
theorem sx_sheet {j : Nat} (h : j < 4) : SX[45 + 2 * j]? = some (.inr (5, [some (some (46 + 2 * j)), none, none])) := by
  match j, h with
  | 0, _ => rfl
  | 1, _ => rfl
  | 2, _ => rfl
  | 3, _ => rfl
  | j + 4, h => exact absurd h (by omega)
theorem sx_cells {j : Nat} (h : j < 4) : SX[46 + 2 * j]? = some (.inl (1, 40, none)) := by
  match j, h with
  | 0, _ => rfl
  | 1, _ => rfl
  | 2, _ => rfl
  | 3, _ => rfl
  | j + 4, h => exact absurd h (by omega)
theorem zJw {sh : List zE} {lv : Nat} {mi : zM} {Post : Option Value → zX → Prop} {pc : Nat} {L L2 : List (Option Value)} {st : List Value} {X : zX} (h : zJ sh lv mi Post pc L st X) (hs : zSub L L2) : zJ sh lv mi Post pc L2 st X := zJ_weak hs h
def zmin (x y : Int32) : Int32 := if y < x then y else x
theorem zMi : Cond.initialized "java/lang/Math" ∈ zG := zGm (zm1 17 rfl) rfl
theorem zMs : Cond.static Lib.Math.min.name ∈ zG := zGm (zm4 76 rfl) rfl
theorem zMc : Cond.code Lib.Math.min.name Lib.Math.min.code 2 (some .int) ∈ zG := zGm (zm4 77 rfl) rfl
theorem zMX9_299 : Cond.methodLink RX9 299 Lib.Math.min.name ∈ zG := zGm (zm4 75 rfl) rfl
theorem zMX0_36 : Cond.methodLink RX0 36 Lib.Math.min.name ∈ zG := zGm (zm4 93 rfl) rfl
theorem j_min {sh : List zE} {lv : Nat} {mi : zM} {Post : Option Value → zX → Prop} {pc : Nat} {L : List (Option Value)} {st : List Value} {X : zX} {i : Nat} {x y : Int32} (hd : decode mi.2.1 pc = .ok (.invokestatic i, 3)) (hl : Cond.methodLink mi.1.cls i Lib.Math.min.name ∈ zG) (hv : 1 ≤ lv) (hW : (st.map fun v => v.category).sum ≤ 8) (K : zJ sh lv mi Post (pc + 3) L (.int (zmin x y) :: st) X) : zJ sh lv mi Post pc L (.int y :: .int x :: st) X := by
  intro p l e s m args below meth c dC dI cy ad A C H locs ls hP hD hS hL
  obtain ⟨hx, hb, hml, hr, hown, hts, hN, hK, hlk, hA, hZ⟩ := id C
  refine va_mmin hx hb (hml.trans hL.1.symm) hown (hts _ hl) (hts _ zMs) (hts _ zMi) (hts _ zMc) hv ?_ (Nat.le_refl _) (Nat.le_refl _) hd (K p l e s m args below meth c dC dI cy ad A C H locs ls hP hD hS hL)
  rw [z_sum]
  show _ ≤ 36 * lv
  omega
theorem zJ_top {sh : List zE} {lv : Nat} {mi : zM} {Post : Option Value → zX → Prop} {pc : Nat} {L : List (Option Value)} {st : List Value} {X : zX} {x v : Int32} (h : x = v) (K : zJ sh lv mi Post pc L (.int v :: st) X) : zJ sh lv mi Post pc L (.int x :: st) X := h ▸ K
theorem j_ldc_w {sh : List zE} {lv : Nat} {mi : zM} {Post : Option Value → zX → Prop} {pc : Nat} {L : List (Option Value)} {st : List Value} {X : zX} {i : Nat} {v : Int32} (hd : decode mi.2.1 pc = .ok (.ldc_w i, 3)) (hc : Cond.constant mi.1.cls i v ∈ zG) (K : zJ sh lv mi Post (pc + 3) L (.int v :: st) X) : zJ sh lv mi Post pc L st X := by
  intro p l e s m args below meth c dC dI cy ad A C H locs ls hP hD hS hL
  obtain ⟨hx, hb, hml, hr, hown, hts, hN, hK, hlk, hA, hZ⟩ := id C
  exact lv_ldcw hx hb hown (hts _ hc) hd (K p l e s m args below meth c dC dI cy ad A C H locs ls hP hD hS hL)
