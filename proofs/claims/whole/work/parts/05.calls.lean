/-! calls in the small machine -/
def zI (mc : zM) (n : Nat) : Prop := Cond.initialized mc.1.cls ∈ zG ∧ Cond.code mc.1 mc.2.1 mc.2.2.1 mc.2.2.2 ∈ zG ∧ mc.1.cls ≠ "java/lang/invoke/MethodHandle" ∧ mc.1.cls ≠ "java/lang/invoke/VarHandle" ∧ (parseMethodDescriptor mc.1.desc).map (fun d => d.parameters.length) = some n
def zV (mc : zM) : Prop := Cond.instanceMethod mc.1 ∈ zG ∧ Cond.selects mc.1.cls mc.1 mc.1 ∈ zG
def zK (own : String) (idx : Nat) (mc : zM) : Prop := Cond.methodLink own idx mc.1 ∈ zG ∨ ∃ host, Cond.methodLinkNest own idx mc.1 host ∈ zN
theorem zG_good {w : Cond} (h : w ∈ zG) : (w.onTables && w.keeps) = true ∨ ∃ ty, w = .arrayClass ty := good_of_word (List.mem_filter.mp h).2
theorem zws_good {mc : zM} (h : Cond.code mc.1 mc.2.1 mc.2.2.1 mc.2.2.2 ∈ zG) : GoodIn zG (zws mc) := fun w hw => by
  rcases List.mem_cons.mp hw with rfl | hw
  · exact ⟨h, zG_good h⟩
  · exact ⟨hw, zG_good hw⟩
theorem zN_tab {w : Cond} (h : w ∈ zN) : w.onTables = true := by
  have h := (List.mem_filter.mp h).2
  unfold zn at h
  split at h
  · rfl
  · rfl
  · cases h
theorem zN_warm {w : Cond} (h : w ∈ zN) {s U : State} (hW : s.WarmedH U.vm) (hz : va_Nw w s) : va_Nw w U := by
  have h := (List.mem_filter.mp h).2
  unfold zn at h
  split at h
  · exact va_Nw.warmF hW hz
  · exact va_Nw.warmM hW hz
  · cases h
theorem zB_blind (dC : Nat → ClassId) (dI : Nat → Nat → Nat) (cy : Nat → ClassId) (ad : Nat → Nat) (sh : List zE) (X : zX) (sz : Nat) (as : List Value) : FrameBlind (va_Pc as (zB dC dI cy ad sh X sz)) := fun a U g mk q => by
  obtain ⟨q0, q1, qP, qK, qN, qD, qZ⟩ := q
  exact ⟨q0, q1, qP, va_K.moved (u := U) (U := U.calling g mk a) (Vm.Alike.refl U.vm) qK, fun w hw => va_Nw.same (zN_tab hw) (u := U) (U := U.calling g mk a) rfl (qN w hw), qD, zS.same (s := U) (U := U.calling g mk a) rfl qZ⟩
section ZC
variable {p : Program} {l : Launch} {e : Env} {R : Room} {s : State} {m : MethodId} {args : Array Value} {below : List Frame} {meth : Method} {c : Code} {H : Heap} {locs : List Loc} {cells slots : Nat} {Q : State → Prop}
variable {pc : Nat} {ls : Array Slot} {rest st0 : List Value} {a : Array Value} {A0 A1 : Nat → Prop} {H0 : Heap} {free : Addr → Prop}
/-- behind a call of a method with a contract -/
theorem z_call {dC : Nat → ClassId} {dI : Nat → Nat → Nat} {cy : Nat → ClassId} {ad : Nat → Nat} {sh : List zE} {P : Option Value → zX → Prop} (hr : va_Run p l e R s m args below meth c H locs cells slots 0 0 (F0 m pc ls st0) rest (zQ dC dI cy ad sh P A1 a) free) (hS : va_S A0 H0 H locs) (hA : ∀ q, A1 q → A0 q) (hf : ∀ q, free q → A0 q)
    (kk : ∀ (r : Option Value) (X : zX) (H1 : Heap) (locs1 : List Loc), P r X → va_P (dC, dI) vwCl (zw cy ad X sh) H1 → va_D A1 (zw cy ad X sh) → H.size ≤ H1.size → (∀ q : Nat, q < H.size → ¬ A1 q → H1[q]? = H[q]?) → va_S A0 H0 H1 locs1 → W p l e R s m args below meth c H1 locs1 cells slots Q (F0 m (pc + 3) ls ((r.map (zk ad)).toList ++ rest))) : W p l e R s m args below meth c H locs cells slots Q (F0 m pc ls st0) := by
  intro T hT X
  obtain ⟨v, st₀, t, T', L, h0, X', hL, e1, e2, ⟨⟨r, u, hv, hp, hbP, hbD⟩, hz, hk⟩, st⟩ := hr T hT X
  cases hv
  rw [h0] at hz hk
  obtain ⟨t2, a1, b1⟩ := kk r u T'.heap (locs ++ L) hp (by rw [e1]; exact hbP) hbD (by rw [e1]; exact hz) (fun q h1 h2 => by rw [e1]; exact hk q h1 h2)
    ⟨Nat.le_trans hS.1 (by rw [e1]; exact hz), fun q h1 h2 => by rw [e1, hk q (Nat.lt_of_lt_of_le h1 hS.1) (fun z => h2 (hA q z))]; exact hS.2.1 q h1 h2, fun q hq => by
      rcases List.mem_append.mp hq with h | h
      · exact hS.2.2 q h
      · exact hf _ (hL q h)⟩ T' rfl X'
  exact ⟨t2, st t2 a1, b1⟩
end ZC
theorem zw_free {cy : Nat → ClassId} {ad : Nat → Nat} {X : zX} {sh : List zE} {A : Nat → Prop} {H0 H : Heap} {locs : List Loc} (hD : va_D A (zw cy ad X sh)) (hS : va_S A H0 H locs) (hA : ∀ q, H0.size ≤ q → A q) : ∀ q, va_A (zw cy ad X sh) H.size q → A q := fun q h => by
  rcases h with ⟨k, e, h⟩ | h
  · exact hD.2 k (q, e) h
  · exact hA q (Nat.le_trans hS.1 h)
theorem z_sum (ad : Nat → Nat) (st : List Value) : ((st.map (zk ad)).map fun v => v.category).sum = (st.map fun v => v.category).sum := by
  rw [List.map_map]
  congr 1
  apply List.map_congr_left
  intro v _
  exact zk_cat ad v
section ZR
variable {sh : List zE} {lv : Nat} {mi : zM} {Post : Option Value → zX → Prop} {pc : Nat} {L : List (Option Value)} {st : List Value} {X : zX}
/-- a call of an instance's method -/
theorem j_cv {mc : zM} {n lc idx q ci : Nat} {fs : List (Option (Option Nat))} {as s0 : List Value} {P : Option Value → zX → Prop} (hd : decode mi.2.1 pc = .ok (.invokevirtual idx, 3)) (hI : zI mc n) (hV : zV mc) (hl : zK mi.1.cls idx mc) (hlv : lc + 1 ≤ lv ∧ 8 + (mc.2.2.1 + 11) + 36 * lc ≤ 36 * lv) (hs : sh[q]? = some (.inr (ci, fs))) (hcl : (vwCl[ci]?).map (fun r => r.1) = some mc.1.cls) (hn : as.length = n) (hst : s0 = as.reverse ++ .ref q :: st) (hW : (st.map fun v => v.category).sum ≤ 8) (hc : zP sh lc mc (.ref q :: as) X P) (K : ∀ r X', P r X' → zJ sh lv mi Post (pc + 3) L (r.toList ++ st) X') : zJ sh lv mi Post pc L s0 X := by
  intro p l e s m args below meth c dC dI cy ad A C H locs ls hP hD hS hL
  obtain ⟨hx, hb, hml, hr, hown, hts, hN, hK, hlk, hA, hZ⟩ := id C
  have hF := zw_free hD hS hA
  have hM := hc l dC dI cy ad H.size
  obtain ⟨hini, hcode, hd1, hd2, hd3⟩ := hI
  cases hci : vwCl[ci]? with
  | none => rw [hci] at hcl; cases hcl
  | some r =>
    rw [hci] at hcl
    have hcl : r.1 = mc.1.cls := Option.some.inj hcl
    have hrecv := va_recv hK hP (ci := ci) (q0 := q) hci (zw_at hs)
    rw [hcl] at hrecv
    have hpre : PreV s H mc.1.cls (ad q) (va_Pc ((Value.ref q :: as).map (zk ad)) (zB dC dI cy ad sh X H.size)) (as.map (zk ad)) := ⟨zB_blind dC dI cy ad sh X H.size _, hrecv, fun U hU hW => ⟨rfl, by rw [hU], by rw [hU]; exact hP, va_K.moved hW.alike hK, fun w hw => zN_warm hw hW (hN w hw), hD.weaken (fun _ _ _ _ => trivial), by rw [hU]; exact ((hZ.kept hS.2.1).narrow hF).warm hW⟩⟩
    have hstk : (F0 m pc ls (s0.map (zk ad))).stack = (as.map (zk ad)).reverse ++ .ref (ad q) :: (st.map (zk ad)) := by
      show s0.map (zk ad) = _
      rw [hst, List.map_append, List.map_reverse]; rfl
    have hroom : 2 * (F0 m pc ls (s0.map (zk ad))).monitorRoom + ((st.map (zk ad)).map fun v => v.category).sum ≤ 8 := lv_room (by rw [z_sum]; exact hW)
    have fin : ∀ (r : Option Value) (X' : zX) (H1 : Heap) (locs1 : List Loc), P r X' → va_P (dC, dI) vwCl (zw cy ad X' sh) H1 → va_D (va_A (zw cy ad X sh) H.size) (zw cy ad X' sh) → H.size ≤ H1.size → (∀ q : Nat, q < H.size → ¬ va_A (zw cy ad X sh) H.size q → H1[q]? = H[q]?) → va_S A s.heap H1 locs1 → W p l e (zr lv) s m args below meth c H1 locs1 0 0 (MQ below (zQ dC dI cy ad sh Post A) args s 0 0 A) (F0 m (pc + 3) ls ((r.map (zk ad)).toList ++ st.map (zk ad))) := by
      intro r X' H1 locs1 hp hP1 hD1 _ _ hS1
      have := K r X' hp p l e s m args below meth c dC dI cy ad A C H1 locs1 ls hP1 (hD1.weaken (fun _ q _ h => hF q.1 h)) hS1 hL
      cases r <;> exact this
    rcases hl with hl | ⟨host, hl⟩
    · exact z_call (va_runV (C := mc.1.cls) (n := n) (bytes := mc.2.1) (maxL := mc.2.2.1) (ret := mc.2.2.2) (Ts := zG) ⟨hx, hb, hml, hown, hts⟩ hM ⟨callB_of n hts (zws_good hcode) rfl rfl rfl (hts _ hini) (hts _ hl) ⟨hd1, hd2, hd3⟩ hlv, hts _ hV.1, hts _ hV.2⟩ hpre rfl (by rw [List.length_map]; exact hn) hL.1 hstk hroom hd ⟨Nat.le_refl _, Nat.le_refl _⟩) hS hF hF fin
    · exact z_call (va_runVN (C := mc.1.cls) (n := n) (bytes := mc.2.1) (maxL := mc.2.2.1) (ret := mc.2.2.2) (Ts := zG) (host := host) ⟨hx, hb, hml, hown, hts⟩ hM ⟨va_cnB n hts (zws_good hcode) rfl rfl rfl (hN _ hl) (hts _ hini) ⟨hd1, hd2, hd3⟩ hlv, hts _ hV.1, hts _ hV.2⟩ hpre rfl (by rw [List.length_map]; exact hn) hL.1 hstk hroom hd ⟨Nat.le_refl _, Nat.le_refl _⟩) hS hF hF fin
/-- a call of a static method -/
theorem j_cs {mc : zM} {n lc idx : Nat} {as s0 : List Value} {P : Option Value → zX → Prop} (hd : decode mi.2.1 pc = .ok (.invokestatic idx, 3)) (hI : zI mc n) (hV : Cond.static mc.1 ∈ zG) (hl : zK mi.1.cls idx mc) (hlv : lc + 1 ≤ lv ∧ 8 + (mc.2.2.1 + 11) + 36 * lc ≤ 36 * lv) (hn : as.length = n) (hst : s0 = as.reverse ++ st) (hW : (st.map fun v => v.category).sum ≤ 8) (hc : zP sh lc mc as X P) (K : ∀ r X', P r X' → zJ sh lv mi Post (pc + 3) L (r.toList ++ st) X') : zJ sh lv mi Post pc L s0 X := by
  intro p l e s m args below meth c dC dI cy ad A C H locs ls hP hD hS hL
  obtain ⟨hx, hb, hml, hr, hown, hts, hN, hK, hlk, hA, hZ⟩ := id C
  have hF := zw_free hD hS hA
  have hM := hc l dC dI cy ad H.size
  obtain ⟨hini, hcode, hd1, hd2, hd3⟩ := hI
  have hpre : PreS s H (va_Pc (as.map (zk ad)) (zB dC dI cy ad sh X H.size)) (as.map (zk ad)) := ⟨zB_blind dC dI cy ad sh X H.size _, fun U hU hW => ⟨rfl, by rw [hU], by rw [hU]; exact hP, va_K.moved hW.alike hK, fun w hw => zN_warm hw hW (hN w hw), hD.weaken (fun _ _ _ _ => trivial), by rw [hU]; exact ((hZ.kept hS.2.1).narrow hF).warm hW⟩⟩
  have hstk : (F0 m pc ls (s0.map (zk ad))).stack = (as.map (zk ad)).reverse ++ st.map (zk ad) := by
    show s0.map (zk ad) = _
    rw [hst, List.map_append, List.map_reverse]
  have hroom : 2 * (F0 m pc ls (s0.map (zk ad))).monitorRoom + ((st.map (zk ad)).map fun v => v.category).sum ≤ 8 := lv_room (by rw [z_sum]; exact hW)
  have fin : ∀ (r : Option Value) (X' : zX) (H1 : Heap) (locs1 : List Loc), P r X' → va_P (dC, dI) vwCl (zw cy ad X' sh) H1 → va_D (va_A (zw cy ad X sh) H.size) (zw cy ad X' sh) → H.size ≤ H1.size → (∀ q : Nat, q < H.size → ¬ va_A (zw cy ad X sh) H.size q → H1[q]? = H[q]?) → va_S A s.heap H1 locs1 → W p l e (zr lv) s m args below meth c H1 locs1 0 0 (MQ below (zQ dC dI cy ad sh Post A) args s 0 0 A) (F0 m (pc + 3) ls ((r.map (zk ad)).toList ++ st.map (zk ad))) := by
    intro r X' H1 locs1 hp hP1 hD1 _ _ hS1
    have := K r X' hp p l e s m args below meth c dC dI cy ad A C H1 locs1 ls hP1 (hD1.weaken (fun _ q _ h => hF q.1 h)) hS1 hL
    cases r <;> exact this
  rcases hl with hl | ⟨host, hl⟩
  · exact z_call (va_runS (n := n) (bytes := mc.2.1) (maxL := mc.2.2.1) (ret := mc.2.2.2) (Ts := zG) ⟨hx, hb, hml, hown, hts⟩ hM ⟨callB_of n hts (zws_good hcode) rfl rfl rfl (hts _ hini) (hts _ hl) ⟨hd1, hd2, hd3⟩ hlv, hts _ hV⟩ hpre rfl (by rw [List.length_map]; exact hn) hL.1 hstk hroom hd ⟨Nat.le_refl _, Nat.le_refl _⟩) hS hF hF fin
  · exact z_call (va_runSN (n := n) (bytes := mc.2.1) (maxL := mc.2.2.1) (ret := mc.2.2.2) (Ts := zG) (host := host) ⟨hx, hb, hml, hown, hts⟩ hM ⟨va_cnB n hts (zws_good hcode) rfl rfl rfl (hN _ hl) (hts _ hini) ⟨hd1, hd2, hd3⟩ hlv, hts _ hV, trivial⟩ hpre rfl (by rw [List.length_map]; exact hn) hL.1 hstk hroom hd ⟨Nat.le_refl _, Nat.le_refl _⟩) hS hF hF fin
end ZR
def zRf (v : Int32) (X : zX) : Option Value → zX → Prop := fun r Y => r = some (.int v) ∧ Y = X
def zRi (P : Int32 → zX → Prop) : Option Value → zX → Prop := fun r Y => ∃ v, r = some (.int v) ∧ P v Y
def zRw (P : zX → Prop) : Option Value → zX → Prop := fun r Y => r = none ∧ P Y
/-- an int comes back, the memory as it was -/
def zPf (sh : List zE) (lv : Nat) (mi : zM) (as : List Value) (X : zX) (v : Int32) : Prop := zP sh lv mi as X (zRf v X)
/-- an int comes back, and a memory -/
def zPi (sh : List zE) (lv : Nat) (mi : zM) (as : List Value) (X : zX) (P : Int32 → zX → Prop) : Prop := zP sh lv mi as X (zRi P)
/-- a memory comes back -/
def zPw (sh : List zE) (lv : Nat) (mi : zM) (as : List Value) (X : zX) (P : zX → Prop) : Prop := zP sh lv mi as X (zRw P)
section ZR
variable {sh : List zE} {lv : Nat} {mi : zM} {Post : Option Value → zX → Prop} {pc : Nat} {L : List (Option Value)} {st : List Value} {X : zX}
theorem j_cvf {mc : zM} {n lc idx q ci : Nat} {fs : List (Option (Option Nat))} {as s0 : List Value} {v : Int32} (hd : decode mi.2.1 pc = .ok (.invokevirtual idx, 3)) (hI : zI mc n) (hV : zV mc) (hl : zK mi.1.cls idx mc) (hlv : lc + 1 ≤ lv ∧ 8 + (mc.2.2.1 + 11) + 36 * lc ≤ 36 * lv) (hs : sh[q]? = some (.inr (ci, fs))) (hcl : (vwCl[ci]?).map (fun r => r.1) = some mc.1.cls) (hn : as.length = n) (hst : s0 = as.reverse ++ .ref q :: st) (hW : (st.map fun v => v.category).sum ≤ 8) (hc : zPf sh lc mc (.ref q :: as) X v) (K : zJ sh lv mi Post (pc + 3) L (.int v :: st) X) : zJ sh lv mi Post pc L s0 X := j_cv hd hI hV hl hlv hs hcl hn hst hW hc (fun r Y hr => by
  obtain ⟨rfl, rfl⟩ := hr
  exact K)
theorem j_cvi {mc : zM} {n lc idx q ci : Nat} {fs : List (Option (Option Nat))} {as s0 : List Value} {P : Int32 → zX → Prop} (hd : decode mi.2.1 pc = .ok (.invokevirtual idx, 3)) (hI : zI mc n) (hV : zV mc) (hl : zK mi.1.cls idx mc) (hlv : lc + 1 ≤ lv ∧ 8 + (mc.2.2.1 + 11) + 36 * lc ≤ 36 * lv) (hs : sh[q]? = some (.inr (ci, fs))) (hcl : (vwCl[ci]?).map (fun r => r.1) = some mc.1.cls) (hn : as.length = n) (hst : s0 = as.reverse ++ .ref q :: st) (hW : (st.map fun v => v.category).sum ≤ 8) (hc : zPi sh lc mc (.ref q :: as) X P) (K : ∀ v Y, P v Y → zJ sh lv mi Post (pc + 3) L (.int v :: st) Y) : zJ sh lv mi Post pc L s0 X := j_cv hd hI hV hl hlv hs hcl hn hst hW hc (fun r Y hr => by
  obtain ⟨v, rfl, h⟩ := hr
  exact K v Y h)
theorem j_cvw {mc : zM} {n lc idx q ci : Nat} {fs : List (Option (Option Nat))} {as s0 : List Value} {P : zX → Prop} (hd : decode mi.2.1 pc = .ok (.invokevirtual idx, 3)) (hI : zI mc n) (hV : zV mc) (hl : zK mi.1.cls idx mc) (hlv : lc + 1 ≤ lv ∧ 8 + (mc.2.2.1 + 11) + 36 * lc ≤ 36 * lv) (hs : sh[q]? = some (.inr (ci, fs))) (hcl : (vwCl[ci]?).map (fun r => r.1) = some mc.1.cls) (hn : as.length = n) (hst : s0 = as.reverse ++ .ref q :: st) (hW : (st.map fun v => v.category).sum ≤ 8) (hc : zPw sh lc mc (.ref q :: as) X P) (K : ∀ Y, P Y → zJ sh lv mi Post (pc + 3) L st Y) : zJ sh lv mi Post pc L s0 X := j_cv hd hI hV hl hlv hs hcl hn hst hW hc (fun r Y hr => by
  obtain ⟨rfl, h⟩ := hr
  exact K Y h)
theorem j_csf {mc : zM} {n lc idx : Nat} {as s0 : List Value} {v : Int32} (hd : decode mi.2.1 pc = .ok (.invokestatic idx, 3)) (hI : zI mc n) (hV : Cond.static mc.1 ∈ zG) (hl : zK mi.1.cls idx mc) (hlv : lc + 1 ≤ lv ∧ 8 + (mc.2.2.1 + 11) + 36 * lc ≤ 36 * lv) (hn : as.length = n) (hst : s0 = as.reverse ++ st) (hW : (st.map fun v => v.category).sum ≤ 8) (hc : zPf sh lc mc as X v) (K : zJ sh lv mi Post (pc + 3) L (.int v :: st) X) : zJ sh lv mi Post pc L s0 X := j_cs hd hI hV hl hlv hn hst hW hc (fun r Y hr => by
  obtain ⟨rfl, rfl⟩ := hr
  exact K)
theorem j_csi {mc : zM} {n lc idx : Nat} {as s0 : List Value} {P : Int32 → zX → Prop} (hd : decode mi.2.1 pc = .ok (.invokestatic idx, 3)) (hI : zI mc n) (hV : Cond.static mc.1 ∈ zG) (hl : zK mi.1.cls idx mc) (hlv : lc + 1 ≤ lv ∧ 8 + (mc.2.2.1 + 11) + 36 * lc ≤ 36 * lv) (hn : as.length = n) (hst : s0 = as.reverse ++ st) (hW : (st.map fun v => v.category).sum ≤ 8) (hc : zPi sh lc mc as X P) (K : ∀ v Y, P v Y → zJ sh lv mi Post (pc + 3) L (.int v :: st) Y) : zJ sh lv mi Post pc L s0 X := j_cs hd hI hV hl hlv hn hst hW hc (fun r Y hr => by
  obtain ⟨v, rfl, h⟩ := hr
  exact K v Y h)
theorem j_csw {mc : zM} {n lc idx : Nat} {as s0 : List Value} {P : zX → Prop} (hd : decode mi.2.1 pc = .ok (.invokestatic idx, 3)) (hI : zI mc n) (hV : Cond.static mc.1 ∈ zG) (hl : zK mi.1.cls idx mc) (hlv : lc + 1 ≤ lv ∧ 8 + (mc.2.2.1 + 11) + 36 * lc ≤ 36 * lv) (hn : as.length = n) (hst : s0 = as.reverse ++ st) (hW : (st.map fun v => v.category).sum ≤ 8) (hc : zPw sh lc mc as X P) (K : ∀ Y, P Y → zJ sh lv mi Post (pc + 3) L st Y) : zJ sh lv mi Post pc L s0 X := j_cs hd hI hV hl hlv hn hst hW hc (fun r Y hr => by
  obtain ⟨rfl, h⟩ := hr
  exact K Y h)
end ZR
def zSub : List (Option Value) → List (Option Value) → Prop
  | [], _ => True
  | none :: r, [] => zSub r []
  | none :: r, _ :: s => zSub r s
  | some _ :: _, [] => False
  | some v :: r, w :: s => w = some v ∧ zSub r s
theorem zSub_at : ∀ (a b : List (Option Value)), zSub a b → ∀ (i : Nat) (v : Value), a[i]? = some (some v) → b[i]? = some (some v)
  | [], _, _, i, v, hi => by simp at hi
  | none :: r, [], h, 0, v, hi => by simp at hi
  | none :: r, [], h, i + 1, v, hi => by
    have := zSub_at r [] h i v (by simpa using hi)
    simp at this
  | none :: r, _ :: s, h, 0, v, hi => by simp at hi
  | none :: r, _ :: s, h, i + 1, v, hi => by
    have := zSub_at r s h i v (by simpa using hi)
    simpa using this
  | some _ :: _, [], h, _, _, _ => absurd h id
  | some w :: r, x :: s, h, 0, v, hi => by
    have : w = v := by simpa using hi
    subst this
    simpa using h.1
  | some w :: r, x :: s, h, i + 1, v, hi => by
    have := zSub_at r s h.2 i v (by simpa using hi)
    simpa using this
theorem zJ_weak {sh : List zE} {lv : Nat} {mi : zM} {Post : Option Value → zX → Prop} {pc : Nat} {L L2 : List (Option Value)} {st : List Value} {X : zX} (hs : zSub L L2) (h : zJ sh lv mi Post pc L st X) : zJ sh lv mi Post pc L2 st X :=
  fun p l e s m args below meth c dC dI cy ad A C H locs ls hP hD hS hL => h p l e s m args below meth c dC dI cy ad A C H locs ls hP hD hS ⟨hL.1, hL.2.1, fun i v hi => hL.2.2 i v (zSub_at L L2 hs i v hi)⟩
theorem zP_in {sh : List zE} {lv : Nat} {mi : zM} {as : List Value} {X : zX} {Post : Option Value → zX → Prop} (L : List (Option Value)) (hL : zSub L (ze as)) (hy : plainName mi.1.cls = true) (hn : (ze as).length ≤ mi.2.2.1) (h : zJ sh lv mi Post 0 L [] X) : zP sh lv mi as X Post := zP.of L (zSub_at _ _ hL) hy hn h
theorem zno {L : List (Option Value)} {i : Nat} (h : (match L[i]? with | some (some w) => w.category | _ => 1) = 1) : ∀ (j : Nat) (w : Value), j + 1 = i + 1 → L[j]? = some (some w) → w.category = 1 := by
  intro j w hj hw
  obtain rfl : j = i := by omega
  rw [hw] at h
  exact h
theorem zno0 {L : List (Option Value)} : ∀ (j : Nat) (w : Value), j + 1 = 0 → L[j]? = some (some w) → w.category = 1 := by
  intro j w hj; omega
theorem zin {i : Int32} {j n : Nat} (e : i = nI j) (h : j < n) (hn : n < 2 ^ 31) : vp_in i n := by rw [e]; exact vp_in_nI h hn
theorem zcl {i : Int32} {j n : Nat} (e : i = nI j) (h : j < n) (hn : n < 2 ^ 31) : i.toNatClampNeg = j := by rw [e]; exact nI_clamp (by omega)
def zushr (x y : Int32) : Int32 := (x.toUInt32 >>> (y.toUInt32 &&& Int32.toUInt32 31)).toInt32
theorem zP.mono {sh : List zE} {lv : Nat} {mi : zM} {as : List Value} {X : zX} {P P2 : Option Value → zX → Prop} (h : zP sh lv mi as X P) (hp : ∀ r Y, P r Y → P2 r Y) : zP sh lv mi as X P2 := by
  intro l dC dI cy ad sz p e ha hc hk s m args below hf happ hP hK
  obtain ⟨k, o, h1, h2, h3, ⟨⟨⟨r, Y, e1, e2, e3⟩, e4⟩, e5⟩⟩ := h l dC dI cy ad sz p e ha hc hk s m args below hf happ hP hK
  exact ⟨k, o, h1, h2, h3, ⟨⟨⟨r, Y, e1, hp r Y e2, e3⟩, e4⟩, e5⟩⟩
