/-! THE CLAIM OUT OF ONE WALK OF THE LAW'S BODY. Your part is whole_start (and what it stands on); all else here is the same for every law, but numbers. -/
def R_law : String := "WaysSungLaw"
def lw_P (b : Addr) (xs : List Int32) (args : Array Value) (s : State) : Prop := args = #[.ref b] ∧ s.IntsAt b xs ∧ xs.length ≤ 3072 ∧ (Jvm.Cond.and given_1 narrow_1).before args s = true
def lw_Q (_ : Array Value) (s : State) (o : Outcome) (t : State) : Prop := o = .returned (some (.int 1)) ∧ Framed s o t [] 600000 7302250
def lw_Z (below : List Frame) (a : Array Value) (s : State) : State → Prop := fun t => ∃ o, t.status = .running ∧ Ended t below o ∧ lw_Q a s o t
/-- the law's own end, with 1 on the stack, nothing written that was there before, its room as the claim has it -/
theorem lw_ret {p : Program} {l : Launch} {e : Env} {s : State} {m : MethodId} {below : List Frame} {meth : Method} {c : Code} {b : Nat} (hx : p.tables.exec = Jvm.exec) (hb : c.code = code) (hr : meth.sig.returnType = ret) (hlocks : meth.locks = false) {pc : Nat} {H : Heap} {ls : Array Slot} (hdg : decode code pc = .ok (.ireturn, 1)) : W p l e room_1 s m #[Value.ref b] below meth c H [] 600000 7302250 (lw_Z below #[Value.ref b] s) (F0 m pc ls [.int 1]) := by
  intro T hT X
  obtain ⟨fs, hret, hrun, hended, hW, hframe⟩ := X.leave (v := some (.int 1)) (hlocks := hlocks) (fun h => by rw [hr] at h; cases h)
  have hmeth' : T.vm.method? m = some meth := X.method'
  refine ⟨T.setFrames fs, ?_, .returned (some (.int 1)), hrun, hended, rfl, ⟨_, rfl⟩, hW, hframe⟩
  jvm_step X.here [X.here.top, hx, hb, hdg, hmeth', hr, ret, narrow_b1]
  (try refine ⟨rfl, ?_⟩); (try refine ⟨rfl, ?_⟩)
  first | (intro acts; rw [hret _ acts rfl rfl rfl]) | rw [hret _ _ rfl rfl rfl]
  exact Steps.refl _
/-- what holds at the law's entry: the machine, the code, the tables' words (any of lw_tbl by 'hts w (by decide +kernel)'), the script of L ints xs at the cell b, what the Statement gives of the start (any of its parts by flat_of_before) -/
def lw_At (p : Program) (s : State) (m : MethodId) (meth : Method) (c : Code) (b L : Nat) (xs : Nat → Int32) : Prop :=
  p.tables.exec = Jvm.exec ∧ c.code = code ∧ meth.sig.returnType = ret ∧ c.maxLocals = 4 ∧ s.vm.findClass R_law = some m.cls ∧ (∀ w ∈ lw_tbl, w.before #[Value.ref b] s = true) ∧ va_X b L xs s s.heap ∧ b < s.heap.size ∧ meth.locks = false ∧ (Jvm.Cond.and given_1 narrow_1).before #[Value.ref b] s = true

set_option maxHeartbeats 4000000 in
set_option maxRecDepth 100000 in
theorem law_loop {p : Program} {l : Launch} {e : Env} {s : State} {m : MethodId} {below : List Frame} {meth : Method} {c : Code} {dC : Nat → ClassId} {dI : Nat → Nat → Nat} {cy : Nat → ClassId} {ad0 : Nat → Nat} {b L qx qy : Nat} {xs : Nat → Int32} (hL : L ≤ 3072) (C : zC p s m #[Value.ref b] meth c mL dC dI cy ad0 (lA s)) (hX : va_X b L xs s s.heap) (hbl : b < s.heap.size) : ∀ (d i : Nat), L ≤ i + d → i ≤ L + 6 → ∀ (H : Heap) (locs : List Loc) (ls : Array Slot), LPw dC dI cy ad0 s qx qy H locs → lv_has ls 4 [(0, .ref b), (1, .ref qx), (2, .ref qy), (3, .int (nI i))] → W p l e room_1 s m #[Value.ref b] below meth c H locs 90 2268 (lw_Z below #[Value.ref b] s) (F0 m 18 ls []) := by
  intro d
  have hbA : ¬ lA s b := Nat.not_le.mpr hbl
  have fin : ∀ (H : Heap) (locs : List Loc) (ls : Array Slot), va_S (lA s) s.heap H locs → W p l e room_1 s m #[Value.ref b] below meth c H locs 90 2268 (lw_Z below #[Value.ref b] s) (F0 m 1573 ls []) := fun H locs ls hS => by
    refine va_forget (fun q hq => hS.2.2 q hq) ?_
    refine lv_iconst (v := 1) C.1 C.2.1 dL_1573 rfl ?_
    refine W.widen (k := 600000) (n := 7302250) (by omega) (by omega) ?_
    refine W.widen (Nat.le_refl 600000) (Nat.le_refl 7302250) ?_
    exact lw_ret C.1 C.2.1 C.2.2.2.1 C.2.2.2.2.2.2.2.2.1 dL_1574
  have hd : ∀ i, i ≤ L + 6 → (Int32.ofNat L - 6 < nI i ↔ (L : Int) - 6 < i) := fun i hi => by
    rw [Int32.lt_iff_toInt_lt, show Int32.ofNat L - 6 = nI L - nI 6 from rfl, pk_sub_toInt (by omega) (by omega), nI_toInt (by omega)]
    omega
  induction d with
  | zero =>
    intro i h1 h2 H locs ls hp hl
    obtain ⟨ax, ay, X, Y, hx0, hy0, hax, hay, hR, hP, hD, hS⟩ := hp
    refine lv_iload_n C.1 C.2.1 dL_18 rfl (lv_at hl 3 rfl) ?_
    refine lv_aload_n C.1 C.2.1 dL_19 rfl (lv_at hl 0 rfl) ?_
    refine va_slen C.1 C.2.1 hX hbl hbA hS dL_20 ?_
    refine lv_bipush (v := 6) C.1 C.2.1 dL_21 rfl ?_
    refine lv_isub C.1 C.2.1 dL_23 ?_
    exact lv_icmp_gt (tgt := 1573) C.1 C.2.1 dL_24 rfl (fun _ => fin H locs ls hS) (fun q => absurd ((hd i h2).mpr (by omega)) q)
  | succ d ih =>
    intro i h1 h2 H locs ls hp hl
    obtain ⟨ax, ay, X, Y, hx0, hy0, hax, hay, hR, hP, hD, hS⟩ := id hp
    refine lv_iload_n C.1 C.2.1 dL_18 rfl (lv_at hl 3 rfl) ?_
    refine lv_aload_n C.1 C.2.1 dL_19 rfl (lv_at hl 0 rfl) ?_
    refine va_slen C.1 C.2.1 hX hbl hbA hS dL_20 ?_
    refine lv_bipush (v := 6) C.1 C.2.1 dL_21 rfl ?_
    refine lv_isub C.1 C.2.1 dL_23 ?_
    refine lv_icmp_gt (tgt := 1573) C.1 C.2.1 dL_24 rfl (fun _ => fin H locs ls hS) (fun q => ?_)
    have q : i + 6 ≤ L := Nat.not_lt.mp fun c => q ((hd i h2).mpr (by omega))
    have nx : ∀ (H : Heap) (locs : List Loc) (ls : Array Slot), LPw dC dI cy ad0 s qx qy H locs → lv_has ls 4 [(0, .ref b), (1, .ref qx), (2, .ref qy), (3, .int (nI i))] → W p l e room_1 s m #[Value.ref b] below meth c H locs 90 2268 (lw_Z below #[Value.ref b] s) (F0 m 1567 ls []) := fun H locs ls hp hl => by
      refine lv_iinc (v := nI (i + 6)) (lv' := [(3, .int (nI (i + 6))), (0, .ref b), (1, .ref qx), (2, .ref qy)]) C.1 C.2.1 dL_1567 hl (k := 3) rfl (nI_add i 6) (by decide) rfl (fun ls hl => ?_)
      refine lv_goto (tgt := 18) C.1 C.2.1 dL_1570 rfl ?_
      exact ih (i + 6) (by omega) (by omega) H locs ls hp (lv_sub hl [1, 2, 3, 0] rfl)
    refine lv_aload_n C.1 C.2.1 dL_27 rfl (lv_at hl 0 rfl) ?_
    refine lv_iload_n C.1 C.2.1 dL_28 rfl (lv_at hl 3 rfl) ?_
    refine va_sld (i := nI i) C.1 C.2.1 hX hbl hbA hS (vp_in_nI (by omega) (by omega)) dL_29 ?_
    refine lv_bipush (v := 63) C.1 C.2.1 dL_30 rfl ?_
    refine lv_iand C.1 C.2.1 dL_32 ?_
    obtain ⟨n, hn, en⟩ := pk_andE (xs (nI i).toNatClampNeg) (m := 63) 6 (by decide)
    rw [en]
    have hn : n < 64 := hn
    by_cases h39 : n < 39
    · obtain rfl | rfl | rfl | rfl | rfl | rfl | rfl | rfl | rfl | rfl | rfl | rfl | rfl | rfl | rfl | rfl | rfl | rfl | rfl | rfl | rfl | rfl | rfl | rfl | rfl | rfl | rfl | rfl | rfl | rfl | rfl | rfl | rfl | rfl | rfl | rfl | rfl | rfl | rfl : n = 0 ∨ n = 1 ∨ n = 2 ∨ n = 3 ∨ n = 4 ∨ n = 5 ∨ n = 6 ∨ n = 7 ∨ n = 8 ∨ n = 9 ∨ n = 10 ∨ n = 11 ∨ n = 12 ∨ n = 13 ∨ n = 14 ∨ n = 15 ∨ n = 16 ∨ n = 17 ∨ n = 18 ∨ n = 19 ∨ n = 20 ∨ n = 21 ∨ n = 22 ∨ n = 23 ∨ n = 24 ∨ n = 25 ∨ n = 26 ∨ n = 27 ∨ n = 28 ∨ n = 29 ∨ n = 30 ∨ n = 31 ∨ n = 32 ∨ n = 33 ∨ n = 34 ∨ n = 35 ∨ n = 36 ∨ n = 37 ∨ n = 38 := by omega
      · exact lv_tableIn (off := 171) (tgt := 204) C.1 C.2.1 dL_33 (by decide) (by decide) rfl rfl (lc_0 C hX hbl ⟨by omega, by omega⟩ ⟨Nat.le_of_ble_eq_true rfl, Nat.le_of_ble_eq_true rfl⟩ hl nx hp)
      · exact lv_tableIn (off := 204) (tgt := 237) C.1 C.2.1 dL_33 (by decide) (by decide) rfl rfl (lc_1 C hX hbl ⟨by omega, by omega⟩ ⟨Nat.le_of_ble_eq_true rfl, Nat.le_of_ble_eq_true rfl⟩ hl nx hp)
      · exact lv_tableIn (off := 267) (tgt := 300) C.1 C.2.1 dL_33 (by decide) (by decide) rfl rfl (lc_2 C hX hbl ⟨by omega, by omega⟩ ⟨Nat.le_of_ble_eq_true rfl, Nat.le_of_ble_eq_true rfl⟩ hl nx hp)
      · exact lv_tableIn (off := 310) (tgt := 343) C.1 C.2.1 dL_33 (by decide) (by decide) rfl rfl (lc_3 C hX hbl ⟨by omega, by omega⟩ ⟨Nat.le_of_ble_eq_true rfl, Nat.le_of_ble_eq_true rfl⟩ hl nx hp)
      · exact lv_tableIn (off := 369) (tgt := 402) C.1 C.2.1 dL_33 (by decide) (by decide) rfl rfl (lc_4 C hX hbl ⟨by omega, by omega⟩ ⟨Nat.le_of_ble_eq_true rfl, Nat.le_of_ble_eq_true rfl⟩ hl nx hp)
      · exact lv_tableIn (off := 392) (tgt := 425) C.1 C.2.1 dL_33 (by decide) (by decide) rfl rfl (lc_5 C hX hbl ⟨by omega, by omega⟩ ⟨Nat.le_of_ble_eq_true rfl, Nat.le_of_ble_eq_true rfl⟩ hl nx hp)
      · exact lv_tableIn (off := 425) (tgt := 458) C.1 C.2.1 dL_33 (by decide) (by decide) rfl rfl (lc_6 C hX hbl ⟨by omega, by omega⟩ ⟨Nat.le_of_ble_eq_true rfl, Nat.le_of_ble_eq_true rfl⟩ hl nx hp)
      · exact lv_tableIn (off := 458) (tgt := 491) C.1 C.2.1 dL_33 (by decide) (by decide) rfl rfl (lc_7 C hX hbl ⟨by omega, by omega⟩ ⟨Nat.le_of_ble_eq_true rfl, Nat.le_of_ble_eq_true rfl⟩ hl nx hp)
      · exact lv_tableIn (off := 491) (tgt := 524) C.1 C.2.1 dL_33 (by decide) (by decide) rfl rfl (lc_8 C hX hbl ⟨by omega, by omega⟩ ⟨Nat.le_of_ble_eq_true rfl, Nat.le_of_ble_eq_true rfl⟩ hl nx hp)
      · exact lv_tableIn (off := 524) (tgt := 557) C.1 C.2.1 dL_33 (by decide) (by decide) rfl rfl (lc_9 C hX hbl ⟨by omega, by omega⟩ ⟨Nat.le_of_ble_eq_true rfl, Nat.le_of_ble_eq_true rfl⟩ hl nx hp)
      · exact lv_tableIn (off := 577) (tgt := 610) C.1 C.2.1 dL_33 (by decide) (by decide) rfl rfl (lc_10 C hX hbl ⟨by omega, by omega⟩ ⟨Nat.le_of_ble_eq_true rfl, Nat.le_of_ble_eq_true rfl⟩ hl nx hp)
      · exact lv_tableIn (off := 600) (tgt := 633) C.1 C.2.1 dL_33 (by decide) (by decide) rfl rfl (lc_11 C hX hbl ⟨by omega, by omega⟩ ⟨Nat.le_of_ble_eq_true rfl, Nat.le_of_ble_eq_true rfl⟩ hl nx hp)
      · exact lv_tableIn (off := 613) (tgt := 646) C.1 C.2.1 dL_33 (by decide) (by decide) rfl rfl (lc_12 C hX hbl ⟨by omega, by omega⟩ ⟨Nat.le_of_ble_eq_true rfl, Nat.le_of_ble_eq_true rfl⟩ hl nx hp)
      · exact lv_tableIn (off := 626) (tgt := 659) C.1 C.2.1 dL_33 (by decide) (by decide) rfl rfl (lc_13 C hX hbl ⟨by omega, by omega⟩ ⟨Nat.le_of_ble_eq_true rfl, Nat.le_of_ble_eq_true rfl⟩ hl nx hp)
      · exact lv_tableIn (off := 649) (tgt := 682) C.1 C.2.1 dL_33 (by decide) (by decide) rfl rfl (lc_14 C hX hbl ⟨by omega, by omega⟩ ⟨Nat.le_of_ble_eq_true rfl, Nat.le_of_ble_eq_true rfl⟩ hl nx hp)
      · exact lv_tableIn (off := 682) (tgt := 715) C.1 C.2.1 dL_33 (by decide) (by decide) rfl rfl (lc_15 C hX hbl ⟨by omega, by omega⟩ ⟨Nat.le_of_ble_eq_true rfl, Nat.le_of_ble_eq_true rfl⟩ hl nx hp)
      · exact lv_tableIn (off := 725) (tgt := 758) C.1 C.2.1 dL_33 (by decide) (by decide) rfl rfl (lc_16 C hX hbl ⟨by omega, by omega⟩ ⟨Nat.le_of_ble_eq_true rfl, Nat.le_of_ble_eq_true rfl⟩ hl nx hp)
      · exact lv_tableIn (off := 748) (tgt := 781) C.1 C.2.1 dL_33 (by decide) (by decide) rfl rfl (lc_17 C hX hbl ⟨by omega, by omega⟩ ⟨Nat.le_of_ble_eq_true rfl, Nat.le_of_ble_eq_true rfl⟩ hl nx hp)
      · exact lv_tableIn (off := 771) (tgt := 804) C.1 C.2.1 dL_33 (by decide) (by decide) rfl rfl (lc_18 C hX hbl ⟨by omega, by omega⟩ ⟨Nat.le_of_ble_eq_true rfl, Nat.le_of_ble_eq_true rfl⟩ hl nx hp)
      · exact lv_tableIn (off := 814) (tgt := 847) C.1 C.2.1 dL_33 (by decide) (by decide) rfl rfl (lc_19 C hX hbl ⟨by omega, by omega⟩ ⟨Nat.le_of_ble_eq_true rfl, Nat.le_of_ble_eq_true rfl⟩ hl nx hp)
      · exact lv_tableIn (off := 857) (tgt := 890) C.1 C.2.1 dL_33 (by decide) (by decide) rfl rfl (lc_20 C hX hbl ⟨by omega, by omega⟩ ⟨Nat.le_of_ble_eq_true rfl, Nat.le_of_ble_eq_true rfl⟩ hl nx hp)
      · exact lv_tableIn (off := 890) (tgt := 923) C.1 C.2.1 dL_33 (by decide) (by decide) rfl rfl (lc_21 C hX hbl ⟨by omega, by omega⟩ ⟨Nat.le_of_ble_eq_true rfl, Nat.le_of_ble_eq_true rfl⟩ hl nx hp)
      · exact lv_tableIn (off := 933) (tgt := 966) C.1 C.2.1 dL_33 (by decide) (by decide) rfl rfl (lc_22 C hX hbl ⟨by omega, by omega⟩ ⟨Nat.le_of_ble_eq_true rfl, Nat.le_of_ble_eq_true rfl⟩ hl nx hp)
      · exact lv_tableIn (off := 966) (tgt := 999) C.1 C.2.1 dL_33 (by decide) (by decide) rfl rfl (lc_23 C hX hbl ⟨by omega, by omega⟩ ⟨Nat.le_of_ble_eq_true rfl, Nat.le_of_ble_eq_true rfl⟩ hl nx hp)
      · exact lv_tableIn (off := 1009) (tgt := 1042) C.1 C.2.1 dL_33 (by decide) (by decide) rfl rfl (lc_24 C hX hbl ⟨by omega, by omega⟩ ⟨Nat.le_of_ble_eq_true rfl, Nat.le_of_ble_eq_true rfl⟩ hl nx hp)
      · exact lv_tableIn (off := 1032) (tgt := 1065) C.1 C.2.1 dL_33 (by decide) (by decide) rfl rfl (lc_25 C hX hbl ⟨by omega, by omega⟩ ⟨Nat.le_of_ble_eq_true rfl, Nat.le_of_ble_eq_true rfl⟩ hl nx hp)
      · exact lv_tableIn (off := 1075) (tgt := 1108) C.1 C.2.1 dL_33 (by decide) (by decide) rfl rfl (lc_26 C hX hbl ⟨by omega, by omega⟩ ⟨Nat.le_of_ble_eq_true rfl, Nat.le_of_ble_eq_true rfl⟩ hl nx hp)
      · exact lv_tableIn (off := 1098) (tgt := 1131) C.1 C.2.1 dL_33 (by decide) (by decide) rfl rfl (lc_27 C hX hbl ⟨by omega, by omega⟩ ⟨Nat.le_of_ble_eq_true rfl, Nat.le_of_ble_eq_true rfl⟩ hl nx hp)
      · exact lv_tableIn (off := 1141) (tgt := 1174) C.1 C.2.1 dL_33 (by decide) (by decide) rfl rfl (lc_28 C hX hbl ⟨by omega, by omega⟩ ⟨Nat.le_of_ble_eq_true rfl, Nat.le_of_ble_eq_true rfl⟩ hl nx hp)
      · exact lv_tableIn (off := 1184) (tgt := 1217) C.1 C.2.1 dL_33 (by decide) (by decide) rfl rfl (lc_29 C hX hbl ⟨by omega, by omega⟩ ⟨Nat.le_of_ble_eq_true rfl, Nat.le_of_ble_eq_true rfl⟩ hl nx hp)
      · exact lv_tableIn (off := 1207) (tgt := 1240) C.1 C.2.1 dL_33 (by decide) (by decide) rfl rfl (lc_30 C hX hbl ⟨by omega, by omega⟩ ⟨Nat.le_of_ble_eq_true rfl, Nat.le_of_ble_eq_true rfl⟩ hl nx hp)
      · exact lv_tableIn (off := 1250) (tgt := 1283) C.1 C.2.1 dL_33 (by decide) (by decide) rfl rfl (lc_31 C hX hbl ⟨by omega, by omega⟩ ⟨Nat.le_of_ble_eq_true rfl, Nat.le_of_ble_eq_true rfl⟩ hl nx hp)
      · exact lv_tableIn (off := 1293) (tgt := 1326) C.1 C.2.1 dL_33 (by decide) (by decide) rfl rfl (lc_32 C hX hbl ⟨by omega, by omega⟩ ⟨Nat.le_of_ble_eq_true rfl, Nat.le_of_ble_eq_true rfl⟩ hl nx hp)
      · exact lv_tableIn (off := 1316) (tgt := 1349) C.1 C.2.1 dL_33 (by decide) (by decide) rfl rfl (lc_33 C hX hbl ⟨by omega, by omega⟩ ⟨Nat.le_of_ble_eq_true rfl, Nat.le_of_ble_eq_true rfl⟩ hl nx hp)
      · exact lv_tableIn (off := 1349) (tgt := 1382) C.1 C.2.1 dL_33 (by decide) (by decide) rfl rfl (lc_34 C hX hbl ⟨by omega, by omega⟩ ⟨Nat.le_of_ble_eq_true rfl, Nat.le_of_ble_eq_true rfl⟩ hl nx hp)
      · exact lv_tableIn (off := 1392) (tgt := 1425) C.1 C.2.1 dL_33 (by decide) (by decide) rfl rfl (lc_35 C hX hbl ⟨by omega, by omega⟩ ⟨Nat.le_of_ble_eq_true rfl, Nat.le_of_ble_eq_true rfl⟩ hl nx hp)
      · exact lv_tableIn (off := 1435) (tgt := 1468) C.1 C.2.1 dL_33 (by decide) (by decide) rfl rfl (lc_36 C hX hbl ⟨by omega, by omega⟩ ⟨Nat.le_of_ble_eq_true rfl, Nat.le_of_ble_eq_true rfl⟩ hl nx hp)
      · exact lv_tableIn (off := 1498) (tgt := 1531) C.1 C.2.1 dL_33 (by decide) (by decide) rfl rfl (lc_37 C hX hbl ⟨by omega, by omega⟩ ⟨Nat.le_of_ble_eq_true rfl, Nat.le_of_ble_eq_true rfl⟩ hl nx hp)
      · exact lv_tableIn (off := 1511) (tgt := 1544) C.1 C.2.1 dL_33 (by decide) (by decide) rfl rfl (lc_38 C hX hbl ⟨by omega, by omega⟩ ⟨Nat.le_of_ble_eq_true rfl, Nat.le_of_ble_eq_true rfl⟩ hl nx hp)
    · exact lv_tableOut (tgt := 1567) C.1 C.2.1 dL_33 (Or.inr (by rw [nI_toInt (by omega)]; omega)) rfl (nx H locs ls hp hl)
