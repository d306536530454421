/-! WaysSung.rules() -/
section RU
variable {p : Program} {l : Launch} {e : Env} {R : Room} {s : State} {m : MethodId} {args : Array Value} {below : List Frame} {meth : Method} {c : Code} {H : Heap} {locs : List Loc} {cells slots : Nat} {Q : State → Prop}
variable {pc : Nat} {ls : Array Slot} {rest : List Value} {dC : Nat → ClassId} {dI : Nat → Nat → Nat} {cy : Nat → ClassId} {ad : Nat → Nat} {A : Nat → Prop} {mi : zM} {sh : List zE} {X : zX}
theorem w_getv {idx q ci k : Nat} {fs : List (Option (Option Nat))} {f : Option (Option Nat)} {v : Value} (C : zC p s m args meth c mi dC dI cy ad A) (hd : decode mi.2.1 pc = .ok (.getfield idx, 3)) (hF : zF mi.1.cls idx ci k) (hs : sh[q]? = some (.inr (ci, fs))) (hk : fs[k]? = some f) (hv : zv ad X q k f = v) (hP : va_P (dC, dI) vwCl (zw cy ad X sh) H) (K : W p l e R s m args below meth c H locs cells slots Q (F0 m (pc + 3) ls (v :: rest))) : W p l e R s m args below meth c H locs cells slots Q (F0 m pc ls (.ref (ad q) :: rest)) := by
  obtain ⟨C0, T, N, hc, hkN, hin, hl⟩ := hF
  obtain ⟨hx, hb, hml, hr, hown, hts, hN, hK, hlk, hA, hZ⟩ := id C
  have he := zw_at (cy := cy) (ad := ad) (X := X) hs
  have hfv : (fs.mapIdx (fun j f => zv ad X q j f))[k]? = some v := by rw [List.getElem?_mapIdx, hk, ← hv]; rfl
  rcases hl with hl | ⟨host, hl⟩
  · exact va_get hx hb hts hin hown hK hP q he hc k hkN (hts _ hl) (fun _ h9 => h9) hfv hd K
  · exact va_getN hx hb hts hin hown hK hP q he hc k hkN ((hN _ hl).use rfl) (fun _ h9 => h9) hfv hd K
theorem w_putf {idx q ci k : Nat} {fs : List (Option (Option Nat))} {v : Int32} (C : zC p s m args meth c mi dC dI cy ad A) (hd : decode mi.2.1 pc = .ok (.putfield idx, 3)) (hF : zF mi.1.cls idx ci k) (hp : zFp ci k) (hs : sh[q]? = some (.inr (ci, fs))) (hk : fs[k]? = some none) (hP : va_P (dC, dI) vwCl (zw cy ad X sh) H) (hD : va_D A (zw cy ad X sh)) (hS : va_S A s.heap H locs) (K : ∀ (H1 : Heap) (locs1 : List Loc), va_P (dC, dI) vwCl (zw cy ad (zs X q k v) sh) H1 → va_D A (zw cy ad (zs X q k v) sh) → va_S A s.heap H1 locs1 → W p l e R s m args below meth c H1 locs1 cells slots Q (F0 m (pc + 3) ls rest)) : W p l e R s m args below meth c H locs cells slots Q (F0 m pc ls (.int v :: .ref (ad q) :: rest)) := by
  obtain ⟨C0, T, N, hc, hkN, hin, hl⟩ := hF
  obtain ⟨C1, T1, N1, ty0, hc1, hty, hnm, hfin, hpd⟩ := hp
  cases hc.symm.trans hc1
  obtain ⟨hx, hb, hml, hr, hown, hts, hN, hK, hlk, hA, hZ⟩ := id C
  have he := zw_at (cy := cy) (ad := ad) (X := X) hs
  have hlen : k < (fs.mapIdx (fun j f => zv ad X q j f)).length := by rw [List.length_mapIdx]; exact (List.getElem?_eq_some_iff.mp hk).1
  have hw : (zw cy ad X sh).set q (ad q, .inr (ci, (fs.mapIdx (fun j f => zv ad X q j f)).set k (.int v))) = zw cy ad (zs X q k v) sh := by
    refine zw_set hs (fun a ha => zs_ne ha) ?_
    simp only [zc]
    congr 2
    apply List.ext_getElem?
    intro i
    rw [List.getElem?_set]
    by_cases h : k = i
    · subst h
      rw [if_pos rfl, if_pos hlen, List.getElem?_mapIdx, hk]
      simp only [Option.map_some, zv, zs_eq]
    · rw [if_neg h, List.getElem?_mapIdx, List.getElem?_mapIdx]
      cases hi : fs[i]? with
      | none => rfl
      | some f =>
        match f with
        | none => simp only [Option.map_some, zv, zs_nk (fun h2 => h h2.symm)]
        | some none => rfl
        | some (some r) => rfl
  have fin : ∀ (H1 : Heap) (locs1 : List Loc), va_P (dC, dI) vwCl ((zw cy ad X sh).set q (ad q, .inr (ci, (fs.mapIdx (fun j f => zv ad X q j f)).set k (.int v)))) H1 → va_D A ((zw cy ad X sh).set q (ad q, .inr (ci, (fs.mapIdx (fun j f => zv ad X q j f)).set k (.int v)))) → va_S A s.heap H1 locs1 → W p l e R s m args below meth c H1 locs1 cells slots Q (F0 m (pc + 3) ls rest) := by
    intro H1 locs1 hP1 hD1 hS1
    rw [hw] at hP1 hD1
    exact K H1 locs1 hP1 hD1 hS1
  rcases hl with hl | ⟨host, hl⟩
  · exact va_put hx hb hts hin ty0 hty hnm hown hK hP hD hS q he hc k hkN (hts _ hl) (fun _ h9 => h9) hfin hpd rfl rfl hlen hd fin
  · exact va_putN hx hb hts hin ty0 hty hnm hown hK hP hD hS q he hc k hkN ((hN _ hl).use rfl) (fun _ h9 => h9) hfin hpd rfl rfl hlen hd fin
def swN (k : Nat) : Nat := if 54 ≤ k ∧ k ≤ 57 then k + 4 else if 58 ≤ k ∧ k ≤ 61 then k - 4 else k
theorem swN_big {k : Nat} (h : 62 ≤ k) : swN k = k := by unfold swN; rw [if_neg (by omega), if_neg (by omega)]
theorem swN_lo {k : Nat} (h : k < 54) : swN k = k := by unfold swN; rw [if_neg (by omega), if_neg (by omega)]
def swX (X : zX) : zX := fun a => X (swN a)
set_option maxRecDepth 100000 in
theorem zw_sw (cy : Nat → ClassId) (ad : Nat → Nat) (X : zX) : zw cy (fun k => ad (swN k)) (swX X) SX = [(ad 0, .inr (9, [.ref (ad 1), .ref (ad 4), .ref (ad 19), .ref (ad 25), .ref (ad 27), .ref (ad 28), .ref (ad 42), .ref (ad 44), .ref (ad 53), .ref (ad 58), .ref (ad 54), .int (X 0 11), .int (X 0 12)])), (ad 1, .inr (1, [.ref (ad 2), .ref (ad 3), .int (X 1 2), .int (X 1 3), .int (X 1 4)])), (ad 2, .inl (cy 1, 12, .inl (X 2))), (ad 3, .inl (cy 1, 12, .inl (X 3))), (ad 4, .inr (6, [.ref (ad 5), .ref (ad 6), .ref (ad 7), .ref (ad 8), .ref (ad 9), .ref (ad 10), .ref (ad 11), .ref (ad 16), .ref (ad 17), .ref (ad 18), .int (X 4 10)])), (ad 5, .inl (cy 1, 24, .inl (X 5))), (ad 6, .inl (cy 1, 24, .inl (X 6))), (ad 7, .inl (cy 1, 24, .inl (X 7))), (ad 8, .inl (cy 1, 24, .inl (X 8))), (ad 9, .inl (cy 1, 24, .inl (X 9))), (ad 10, .inl (cy 1, 24, .inl (X 10))), (ad 11, .inl (cy 4, 4, .inr (.inr (.inr (.inr (fun j => ((fun j => if j < 4 then some (12 + j) else none : Nat → Option Nat) j).map ad)))))), (ad 12, .inl (cy 1, 24, .inl (X 12))), (ad 13, .inl (cy 1, 24, .inl (X 13))), (ad 14, .inl (cy 1, 24, .inl (X 14))), (ad 15, .inl (cy 1, 24, .inl (X 15))), (ad 16, .inl (cy 1, 4, .inl (X 16))), (ad 17, .inl (cy 1, 4, .inl (X 17))), (ad 18, .inl (cy 1, 12, .inl (X 18))), (ad 19, .inr (2, [.ref (ad 20), .ref (ad 21), .ref (ad 22), .ref (ad 23), .ref (ad 24), .int (X 19 5)])), (ad 20, .inl (cy 1, 8, .inl (X 20))), (ad 21, .inl (cy 1, 8, .inl (X 21))), (ad 22, .inl (cy 1, 8, .inl (X 22))), (ad 23, .inl (cy 1, 8, .inl (X 23))), (ad 24, .inl (cy 2, 8, .inl (X 24))), (ad 25, .inr (7, [.ref (ad 26), .int (X 25 1)])), (ad 26, .inl (cy 0, 200, .inl (X 26))), (ad 27, .inr (3, [.ref (ad 25), .int (X 27 1), .int (X 27 2), .int (X 27 3), .int (X 27 4), .int (X 27 5), .int (X 27 6), .int (X 27 7), .int (X 27 8), .int (X 27 9), .int (X 27 10), .int (X 27 11)])), (ad 28, .inr (8, [.ref (ad 4), .ref (ad 29), .ref (ad 40), .ref (ad 41), .int (X 28 4), .int (X 28 5), .int (X 28 6)])), (ad 29, .inl (cy 4, 10, .inr (.inr (.inr (.inr (fun j => ((fun j => if j < 10 then some (30 + j) else none : Nat → Option Nat) j).map ad)))))), (ad 30, .inl (cy 1, 12, .inl (X 30))), (ad 31, .inl (cy 1, 12, .inl (X 31))), (ad 32, .inl (cy 1, 12, .inl (X 32))), (ad 33, .inl (cy 1, 12, .inl (X 33))), (ad 34, .inl (cy 1, 12, .inl (X 34))), (ad 35, .inl (cy 1, 12, .inl (X 35))), (ad 36, .inl (cy 1, 12, .inl (X 36))), (ad 37, .inl (cy 1, 12, .inl (X 37))), (ad 38, .inl (cy 1, 12, .inl (X 38))), (ad 39, .inl (cy 1, 12, .inl (X 39))), (ad 40, .inl (cy 1, 12, .inl (X 40))), (ad 41, .inl (cy 1, 12, .inl (X 41))), (ad 42, .inr (0, [.ref (ad 4), .ref (ad 43)])), (ad 43, .inl (cy 1, 16, .inl (X 43))), (ad 44, .inl (cy 3, 4, .inr (.inr (.inr (.inr (fun j => ((fun j => if j < 4 then some (45 + 2 * j) else none : Nat → Option Nat) j).map ad)))))), (ad 45, .inr (5, [.ref (ad 46), .int (X 45 1), .int (X 45 2)])), (ad 46, .inl (cy 1, 40, .inl (X 46))), (ad 47, .inr (5, [.ref (ad 48), .int (X 47 1), .int (X 47 2)])), (ad 48, .inl (cy 1, 40, .inl (X 48))), (ad 49, .inr (5, [.ref (ad 50), .int (X 49 1), .int (X 49 2)])), (ad 50, .inl (cy 1, 40, .inl (X 50))), (ad 51, .inr (5, [.ref (ad 52), .int (X 51 1), .int (X 51 2)])), (ad 52, .inl (cy 1, 40, .inl (X 52))), (ad 53, .inl (cy 1, 8, .inl (X 53))), (ad 58, .inr (4, [.ref (ad 59), .ref (ad 60), .ref (ad 61), .int (X 58 3), .int (X 58 4), .int (X 58 5)])), (ad 59, .inl (cy 1, 8, .inl (X 59))), (ad 60, .inl (cy 1, 24, .inl (X 60))), (ad 61, .inl (cy 1, 12, .inl (X 61))), (ad 54, .inr (4, [.ref (ad 55), .ref (ad 56), .ref (ad 57), .int (X 54 3), .int (X 54 4), .int (X 54 5)])), (ad 55, .inl (cy 1, 8, .inl (X 55))), (ad 56, .inl (cy 1, 24, .inl (X 56))), (ad 57, .inl (cy 1, 12, .inl (X 57)))] := by
  have h11 : (fun j => ((fun j => if j < 4 then some (12 + j) else none : Nat → Option Nat) j).map (fun k => ad (swN k))) = fun j => ((fun j => if j < 4 then some (12 + j) else none : Nat → Option Nat) j).map ad := by
    funext j
    by_cases q : j < 4
    · simp only [q, if_true, Option.map_some, swN_lo (k := 12 + j) (by omega)]
    · simp only [q, if_false, Option.map_none]
  have h29 : (fun j => ((fun j => if j < 10 then some (30 + j) else none : Nat → Option Nat) j).map (fun k => ad (swN k))) = fun j => ((fun j => if j < 10 then some (30 + j) else none : Nat → Option Nat) j).map ad := by
    funext j
    by_cases q : j < 10
    · simp only [q, if_true, Option.map_some, swN_lo (k := 30 + j) (by omega)]
    · simp only [q, if_false, Option.map_none]
  have h44 : (fun j => ((fun j => if j < 4 then some (45 + 2 * j) else none : Nat → Option Nat) j).map (fun k => ad (swN k))) = fun j => ((fun j => if j < 4 then some (45 + 2 * j) else none : Nat → Option Nat) j).map ad := by
    funext j
    by_cases q : j < 4
    · simp only [q, if_true, Option.map_some, swN_lo (k := 45 + 2 * j) (by omega)]
    · simp only [q, if_false, Option.map_none]
  rw [zw_eq]
  show ([(ad 0, .inr (9, [.ref (ad 1), .ref (ad 4), .ref (ad 19), .ref (ad 25), .ref (ad 27), .ref (ad 28), .ref (ad 42), .ref (ad 44), .ref (ad 53), .ref (ad 58), .ref (ad 54), .int (X 0 11), .int (X 0 12)])), (ad 1, .inr (1, [.ref (ad 2), .ref (ad 3), .int (X 1 2), .int (X 1 3), .int (X 1 4)])), (ad 2, .inl (cy 1, 12, .inl (X 2))), (ad 3, .inl (cy 1, 12, .inl (X 3))), (ad 4, .inr (6, [.ref (ad 5), .ref (ad 6), .ref (ad 7), .ref (ad 8), .ref (ad 9), .ref (ad 10), .ref (ad 11), .ref (ad 16), .ref (ad 17), .ref (ad 18), .int (X 4 10)])), (ad 5, .inl (cy 1, 24, .inl (X 5))), (ad 6, .inl (cy 1, 24, .inl (X 6))), (ad 7, .inl (cy 1, 24, .inl (X 7))), (ad 8, .inl (cy 1, 24, .inl (X 8))), (ad 9, .inl (cy 1, 24, .inl (X 9))), (ad 10, .inl (cy 1, 24, .inl (X 10))), (ad 11, .inl (cy 4, 4, .inr (.inr (.inr (.inr (fun j => ((fun j => if j < 4 then some (12 + j) else none : Nat → Option Nat) j).map (fun k => ad (swN k)))))))), (ad 12, .inl (cy 1, 24, .inl (X 12))), (ad 13, .inl (cy 1, 24, .inl (X 13))), (ad 14, .inl (cy 1, 24, .inl (X 14))), (ad 15, .inl (cy 1, 24, .inl (X 15))), (ad 16, .inl (cy 1, 4, .inl (X 16))), (ad 17, .inl (cy 1, 4, .inl (X 17))), (ad 18, .inl (cy 1, 12, .inl (X 18))), (ad 19, .inr (2, [.ref (ad 20), .ref (ad 21), .ref (ad 22), .ref (ad 23), .ref (ad 24), .int (X 19 5)])), (ad 20, .inl (cy 1, 8, .inl (X 20))), (ad 21, .inl (cy 1, 8, .inl (X 21))), (ad 22, .inl (cy 1, 8, .inl (X 22))), (ad 23, .inl (cy 1, 8, .inl (X 23))), (ad 24, .inl (cy 2, 8, .inl (X 24))), (ad 25, .inr (7, [.ref (ad 26), .int (X 25 1)])), (ad 26, .inl (cy 0, 200, .inl (X 26))), (ad 27, .inr (3, [.ref (ad 25), .int (X 27 1), .int (X 27 2), .int (X 27 3), .int (X 27 4), .int (X 27 5), .int (X 27 6), .int (X 27 7), .int (X 27 8), .int (X 27 9), .int (X 27 10), .int (X 27 11)])), (ad 28, .inr (8, [.ref (ad 4), .ref (ad 29), .ref (ad 40), .ref (ad 41), .int (X 28 4), .int (X 28 5), .int (X 28 6)])), (ad 29, .inl (cy 4, 10, .inr (.inr (.inr (.inr (fun j => ((fun j => if j < 10 then some (30 + j) else none : Nat → Option Nat) j).map (fun k => ad (swN k)))))))), (ad 30, .inl (cy 1, 12, .inl (X 30))), (ad 31, .inl (cy 1, 12, .inl (X 31))), (ad 32, .inl (cy 1, 12, .inl (X 32))), (ad 33, .inl (cy 1, 12, .inl (X 33))), (ad 34, .inl (cy 1, 12, .inl (X 34))), (ad 35, .inl (cy 1, 12, .inl (X 35))), (ad 36, .inl (cy 1, 12, .inl (X 36))), (ad 37, .inl (cy 1, 12, .inl (X 37))), (ad 38, .inl (cy 1, 12, .inl (X 38))), (ad 39, .inl (cy 1, 12, .inl (X 39))), (ad 40, .inl (cy 1, 12, .inl (X 40))), (ad 41, .inl (cy 1, 12, .inl (X 41))), (ad 42, .inr (0, [.ref (ad 4), .ref (ad 43)])), (ad 43, .inl (cy 1, 16, .inl (X 43))), (ad 44, .inl (cy 3, 4, .inr (.inr (.inr (.inr (fun j => ((fun j => if j < 4 then some (45 + 2 * j) else none : Nat → Option Nat) j).map (fun k => ad (swN k)))))))), (ad 45, .inr (5, [.ref (ad 46), .int (X 45 1), .int (X 45 2)])), (ad 46, .inl (cy 1, 40, .inl (X 46))), (ad 47, .inr (5, [.ref (ad 48), .int (X 47 1), .int (X 47 2)])), (ad 48, .inl (cy 1, 40, .inl (X 48))), (ad 49, .inr (5, [.ref (ad 50), .int (X 49 1), .int (X 49 2)])), (ad 50, .inl (cy 1, 40, .inl (X 50))), (ad 51, .inr (5, [.ref (ad 52), .int (X 51 1), .int (X 51 2)])), (ad 52, .inl (cy 1, 40, .inl (X 52))), (ad 53, .inl (cy 1, 8, .inl (X 53))), (ad 58, .inr (4, [.ref (ad 59), .ref (ad 60), .ref (ad 61), .int (X 58 3), .int (X 58 4), .int (X 58 5)])), (ad 59, .inl (cy 1, 8, .inl (X 59))), (ad 60, .inl (cy 1, 24, .inl (X 60))), (ad 61, .inl (cy 1, 12, .inl (X 61))), (ad 54, .inr (4, [.ref (ad 55), .ref (ad 56), .ref (ad 57), .int (X 54 3), .int (X 54 4), .int (X 54 5)])), (ad 55, .inl (cy 1, 8, .inl (X 55))), (ad 56, .inl (cy 1, 24, .inl (X 56))), (ad 57, .inl (cy 1, 12, .inl (X 57)))] : va_W) = _
  rw [h11, h29, h44]
def cQ (dC : Nat → ClassId) (dI : Nat → Nat → Nat) (cy : Nat → ClassId) (ad : Nat → Nat) (Post : Int32 → zX → Prop) (A : Nat → Prop) : Array Value → State → Outcome → State → Prop := fun _ st oc t =>
  (∃ (r : Int32) (X : zX) (ad2 : Nat → Nat), ad2 0 = ad 0 ∧ (∀ k, 1000 ≤ k → ad2 k = ad k) ∧ oc = .returned (some (.int r)) ∧ Post r X ∧ va_P (dC, dI) vwCl (zw cy ad2 X SX) t.heap ∧ va_D A (zw cy ad2 X SX)) ∧ va_F A st t
def zPc (lv : Nat) (mi : zM) (as : List Value) (X : zX) (Post : Int32 → zX → Prop) : Prop :=
  ∀ (l : Launch) (dC : Nat → ClassId) (dI : Nat → Nat → Nat) (cy : Nat → ClassId) (ad : Nat → Nat) (sz : Nat), Met l mi.1 (zws mi) (zr lv) (va_Pc (as.map (zk ad)) (zB dC dI cy ad SX X sz)) (cQ dC dI cy ad Post (va_A (zw cy ad X SX) sz)) 0 0 (va_A (zw cy ad X SX) sz)
theorem zPc.of {lv : Nat} {mi : zM} {as : List Value} {X : zX} {P : Int32 → zX → Prop} (h : zPi SX lv mi as X P) : zPc lv mi as X P := by
  intro l dC dI cy ad sz p e ha hc hk s m args below hf happ hP hK
  obtain ⟨k, o, h1, h2, h3, ⟨⟨⟨r, Y, e1, ⟨v, e2, e2'⟩, e3⟩, e4⟩, e5⟩⟩ := h l dC dI cy ad sz p e ha hc hk s m args below hf happ hP hK
  subst e2
  exact ⟨k, o, h1, h2, h3, ⟨⟨⟨v, Y, ad, rfl, fun _ _ => rfl, e1, e2', e3⟩, e4⟩, e5⟩⟩
set_option maxRecDepth 100000 in
set_option maxHeartbeats 4000000 in
/-- rules(), from what text() does -/
theorem c_rules {X : zX} {PT P : Int32 → zX → Prop} (ht : zPi SX 9 mX3_text [.ref 27, .ref 58] X PT) (z0 : ∀ v M, PT v M → ¬ M 27 10 = 0 → P ((-10) - M 27 11) (zs (zs M 0 11 (M 27 10)) 25 1 0)) (z1 : ∀ v M, PT v M → M 27 10 = 0 → P v (swX (zs (zs M 0 11 (M 27 10)) 25 1 0))) : zPc 10 mX9_rules [.ref 0] X P := by
  intro l dC dI cy ad sz
  refine Met.ofW (cc := mX9_rules.2.1) (maxL := mX9_rules.2.2.1) (ret := mX9_rules.2.2.2) (by decide) rfl ?_
  intro p e s m args below meth c s₁ B hml hv
  obtain ⟨rfl, hsz, hP, hK, hN, hD0, hZ⟩ := hv
  have hts0 := atoms_spec (ws := zws mX9_rules) B.pre
  subst hsz
  rw [lg_entry_eq]
  have hx := B.exec
  have hb := B.bytes
  have hr := B.returns
  have hown : s.vm.findClass RX9 = some m.cls := findClass_of_methodNamed B.named
  have hlocks := B.notSynchronized
  have hts := fun w (hw : w ∈ zG) => hts0 w (List.mem_cons_of_mem _ hw)
  have hD := hD0.self (sz := s.heap.size)
  generalize hAe : va_A (zw cy ad X SX) s.heap.size = A at hD hZ ⊢
  have hA : ∀ q : Nat, s.heap.size ≤ q → A q := fun q h => by rw [← hAe]; exact Or.inr h
  have C : zC p s m _ meth c mX9_rules dC dI cy ad A := ⟨hx, hb, hml, hr, hown, hts, hN, hK, hlocks, hA, hZ⟩
  have hS : va_S A s.heap s.heap [] := va_S.rf
  have hl := lv_entry (([.ref 0] : List Value).map (zk ad)) (n := mX9_rules.2.2.1) (Nat.le_of_ble_eq_true rfl)
  generalize (lg_sl (([.ref 0] : List Value).map (zk ad)) ++ List.replicate (mX9_rules.2.2.1 - (lg_sl (([.ref 0] : List Value).map (zk ad))).length) Slot.unset).toArray = ls at hl ⊢
  have hl : lv_has ls 3 [(0, .ref (ad 0))] := hl
  refine lv_aload_n hx hb dX9_rules_0 rfl (lv_at hl 0 rfl) ?_
  refine w_getv (sh := SX) (q := 0) (v := .ref (ad 27)) C dX9_rules_1 fX9_42 rfl rfl rfl hP ?_
  refine lv_aload_n hx hb dX9_rules_4 rfl (lv_at hl 0 rfl) ?_
  refine w_getv (sh := SX) (q := 0) (v := .ref (ad 58)) C dX9_rules_5 fX9_79 rfl rfl rfl hP ?_
  have hF := zw_free hD hS hA
  have hM := ht l dC dI cy ad s.heap.size
  obtain ⟨hini, hcode, hd1, hd2, hd3⟩ := iX3_text
  have hrecv := va_recv hK hP (ci := 3) (q0 := 27) rfl (zw_at (sh := SX) (k := 27) rfl)
  have hpre : PreV s s.heap mX3_text.1.cls (ad 27) (va_Pc (([Value.ref 27, .ref 58]).map (zk ad)) (zB dC dI cy ad SX X s.heap.size)) [.ref (ad 58)] := ⟨zB_blind dC dI cy ad SX X s.heap.size _, hrecv, fun U hU hW => ⟨rfl, by rw [hU], by rw [hU]; exact hP, va_K.moved hW.alike hK, fun w hw => zN_warm hw hW (hN w hw), hD.weaken (fun _ _ _ _ => trivial), by rw [hU]; exact ((hZ.kept hS.2.1).narrow hF).warm hW⟩⟩
  obtain ⟨host, hl9⟩ : ∃ host, Cond.methodLinkNest RX9 185 mX3_text.1 host ∈ zN := ⟨_, zNm (zm2 208 rfl) rfl⟩
  refine z_call (va_runVN (C := mX3_text.1.cls) (n := 1) (bytes := mX3_text.2.1) (maxL := mX3_text.2.2.1) (ret := mX3_text.2.2.2) (Ts := zG) (host := host) ⟨hx, hb, hml, hown, hts⟩ hM ⟨va_cnB 1 hts (zws_good hcode) rfl rfl rfl (hN _ hl9) (hts _ hini) ⟨hd1, hd2, hd3⟩ ⟨Nat.le_of_ble_eq_true rfl, Nat.le_of_ble_eq_true rfl⟩, hts _ vX3_text.1, hts _ vX3_text.2⟩ hpre rfl rfl hl.1 rfl (lv_room (Nat.le_of_ble_eq_true rfl)) dX9_rules_8 ⟨Nat.le_refl _, Nat.le_refl _⟩) hS hF hF ?_
  rintro r M H1 locs1 ⟨v, rfl, hp⟩ hP hD1 _ _ hS
  have hD := hD1.weaken (fun _ q _ h => hF q.1 h)
  generalize H1 = H at hP hS ⊢
  refine lv_istore_n (lv' := [(1, .int v), (0, .ref (ad 0))]) hx hb dX9_rules_11 rfl hl (by decide) rfl (fun ls hl => ?_)
  refine lv_aload_n hx hb dX9_rules_12 rfl (lv_at hl 1 rfl) ?_
  refine lv_aload_n hx hb dX9_rules_13 rfl (lv_at hl 1 rfl) ?_
  refine w_getv (sh := SX) (q := 0) (v := .ref (ad 27)) C dX9_rules_14 fX9_42 rfl rfl rfl hP ?_
  refine w_getv (sh := SX) (q := 27) (v := .int (M 27 10)) C dX9_rules_17 fX9_189 rfl rfl rfl hP ?_
  refine w_putf (sh := SX) (q := 0) (v := M 27 10) C dX9_rules_20 fX9_192 pX9_11 rfl rfl hP hD hS (fun H locs hP hD hS => ?_)
  refine lv_aload_n hx hb dX9_rules_23 rfl (lv_at hl 1 rfl) ?_
  refine w_getv (sh := SX) (q := 0) (v := .ref (ad 25)) C dX9_rules_24 fX9_33 rfl rfl rfl hP ?_
  refine lv_iconst (v := 0) hx hb dX9_rules_27 rfl ?_
  refine w_putf (sh := SX) (q := 25) (v := 0) C dX9_rules_28 fX9_195 pX7_1 rfl rfl hP hD hS (fun H locs hP hD hS => ?_)
  refine lv_aload_n hx hb dX9_rules_31 rfl (lv_at hl 1 rfl) ?_
  refine w_getv (sh := SX) (q := 0) (v := .int (M 27 10)) C dX9_rules_32 fX9_192 rfl rfl rfl hP ?_
  generalize hM2 : zs (zs M 0 11 (M 27 10)) 25 1 0 = M2 at hP hD
  have e11 : M2 27 11 = M 27 11 := by rw [← hM2]; rfl
  refine lv_if_eq (tgt := 49) hx hb dX9_rules_35 (by decide) (fun q => ?_) (fun q => ?_)
  · refine lv_aload_n hx hb dX9_rules_49 rfl (lv_at hl 1 rfl) ?_
    refine w_getv (sh := SX) (q := 0) (v := .ref (ad 54)) C dX9_rules_50 fX9_75 rfl rfl rfl hP ?_
    refine lv_astore_n (lv' := [(2, .ref (ad 54)), (1, .int v), (0, .ref (ad 0))]) hx hb dX9_rules_53 rfl hl (by decide) rfl (fun ls hl => ?_)
    refine lv_aload_n hx hb dX9_rules_54 rfl (lv_at hl 2 rfl) ?_
    refine lv_aload_n hx hb dX9_rules_55 rfl (lv_at hl 2 rfl) ?_
    refine w_getv (sh := SX) (q := 0) (v := .ref (ad 58)) C dX9_rules_56 fX9_79 rfl rfl rfl hP ?_
    rw [zw_eq] at hP hD
    refine va_put (D := (dC, dI)) (ci := 9) (v := .ref (ad 58)) (ty := .object "WaysSung$Rules") (C := RX9) (T := TX9) (N := 13) hx hb hts lyX9 tyX9 tyX9_ok nmX9 hown hK hP hD hS 0 rfl rfl 9 (by decide) (hts _ (zGm (zm2 80 rfl) rfl)) (fun _ h9 => h9) rfl (by decide +kernel) rfl rfl (Nat.le_of_ble_eq_true rfl) dX9_rules_59 (fun H locs hP hD hS => ?_)
    refine lv_aload_n hx hb dX9_rules_62 rfl (lv_at hl 2 rfl) ?_
    refine lv_aload_n hx hb dX9_rules_63 rfl (lv_at hl 0 rfl) ?_
    refine va_put (D := (dC, dI)) (ci := 9) (v := .ref (ad 54)) (ty := .object "WaysSung$Rules") (C := RX9) (T := TX9) (N := 13) hx hb hts lyX9 tyX9 tyX9_ok nmX9 hown hK hP hD hS 0 rfl rfl 10 (by decide) (hts _ (zGm (zm2 81 rfl) rfl)) (fun _ h9 => h9) rfl (by decide +kernel) rfl rfl (Nat.le_of_ble_eq_true rfl) dX9_rules_64 (fun H locs hP hD hS => ?_)
    refine lv_iload_n hx hb dX9_rules_67 rfl (lv_at hl 1 rfl) ?_
    have hP := hP.sub (ws' := zw cy (fun k => ad (swN k)) (swX M2) SX) [0, 1, 2, 3, 4, 5, 6, 7, 8, 9, 10, 11, 12, 13, 14, 15, 16, 17, 18, 19, 20, 21, 22, 23, 24, 25, 26, 27, 28, 29, 30, 31, 32, 33, 34, 35, 36, 37, 38, 39, 40, 41, 42, 43, 44, 45, 46, 47, 48, 49, 50, 51, 52, 53, 58, 59, 60, 61, 54, 55, 56, 57] (by rw [zw_sw]; rfl)
    have hD := hD.sub (ws' := zw cy (fun k => ad (swN k)) (swX M2) SX) [0, 1, 2, 3, 4, 5, 6, 7, 8, 9, 10, 11, 12, 13, 14, 15, 16, 17, 18, 19, 20, 21, 22, 23, 24, 25, 26, 27, 28, 29, 30, 31, 32, 33, 34, 35, 36, 37, 38, 39, 40, 41, 42, 43, 44, 45, 46, 47, 48, 49, 50, 51, 52, 53, 58, 59, 60, 61, 54, 55, 56, 57] (by decide) (by rw [zw_sw]; rfl)
    refine W.zret (v := v) (ty := .int) hx hb hr rfl (fun t ht _ => ⟨⟨v, swX M2, fun k => ad (swN k), rfl, fun k hk => congrArg ad (swN_big (by omega)), rfl, by rw [← hM2]; exact z1 v M hp q, by rw [ht]; exact hP, hD⟩, hS.F ht⟩) hS.2.2 dX9_rules_68
  · refine lv_bipush (v := -10) hx hb dX9_rules_38 rfl ?_
    refine lv_aload_n hx hb dX9_rules_40 rfl (lv_at hl 1 rfl) ?_
    refine w_getv (sh := SX) (q := 0) (v := .ref (ad 27)) C dX9_rules_41 fX9_42 rfl rfl rfl hP ?_
    refine w_getv (sh := SX) (q := 27) (v := .int (M2 27 11)) C dX9_rules_44 fX9_197 rfl rfl rfl hP ?_
    refine lv_isub hx hb dX9_rules_47 ?_
    refine W.zret (v := -10 - M2 27 11) (ty := .int) hx hb hr rfl (fun t ht _ => ⟨⟨_, M2, ad, rfl, fun _ _ => rfl, rfl, by rw [e11, ← hM2]; exact z0 v M hp q, by rw [ht]; exact hP, hD⟩, hS.F ht⟩) hS.2.2 dX9_rules_48
end RU
