/-! String constants in the small machine; which name is it -/
section ZST
variable {sh : List zE} {lv : Nat} {mi : zM} {Post : Option Value → zX → Prop} {pc : Nat} {L : List (Option Value)} {st : List Value} {X : zX}
theorem j_ldcS {i k : Nat} (hd : decode mi.2.1 pc = .ok (.ldc i, 2)) (hc : mi.1.cls = "WaysSung$Reader") (hk : k < 6) (hi : zSi.getD k 0 = i) (K : zJ sh lv mi Post (pc + 2) L (.ref (1000 + 2 * k) :: st) X) : zJ sh lv mi Post pc L st X := by
  intro p l e s m args below meth c dC dI cy ad A C H locs ls hP hD hS hL
  obtain ⟨hx, hb, hml, hr, hown, hts, hN, hK, hlk, hA, hZ⟩ := id C
  subst hi
  rw [hc] at hown
  exact va_ldcS hx hb hown (hZ.2.1 k hk) hd (K p l e s m args below meth c dC dI cy ad A C H locs ls hP hD hS hL)
theorem j_sval {idx k : Nat} (hd : decode mi.2.1 pc = .ok (.getfield idx, 3)) (hl : Cond.fieldLink mi.1.cls idx "java/lang/String" "value" "[B" ∈ zG) (hk : k < 6) (K : zJ sh lv mi Post (pc + 3) L (.ref (1001 + 2 * k) :: st) X) : zJ sh lv mi Post pc L (.ref (1000 + 2 * k) :: st) X := by
  intro p l e s m args below meth c dC dI cy ad A C H locs ls hP hD hS hL
  obtain ⟨hx, hb, hml, hr, hown, hts, hN, hK, hlk, hA, hZ⟩ := id C
  exact vk_getf hx hb (hZ.1.1 k hk).2.2.1 hS hown (hts _ hl) (fun _ h => h) hd (K p l e s m args below meth c dC dI cy ad A C H locs ls hP hD hS hL)
theorem j_scod {idx k : Nat} (hd : decode mi.2.1 pc = .ok (.getfield idx, 3)) (hl : Cond.fieldLink mi.1.cls idx "java/lang/String" "coder" "B" ∈ zG) (hk : k < 6) (K : zJ sh lv mi Post (pc + 3) L (.int 0 :: st) X) : zJ sh lv mi Post pc L (.ref (1000 + 2 * k) :: st) X := by
  intro p l e s m args below meth c dC dI cy ad A C H locs ls hP hD hS hL
  obtain ⟨hx, hb, hml, hr, hown, hts, hN, hK, hlk, hA, hZ⟩ := id C
  exact vk_getf hx hb (hZ.1.1 k hk).2.1 hS hown (hts _ hl) (fun _ h => h) hd (K p l e s m args below meth c dC dI cy ad A C H locs ls hP hD hS hL)
theorem j_slen {k : Nat} (hd : decode mi.2.1 pc = .ok (.arraylength, 1)) (hk : k < 6) (K : zJ sh lv mi Post (pc + 1) L (.int (nI (zLen.getD k 0)) :: st) X) : zJ sh lv mi Post pc L (.ref (1001 + 2 * k) :: st) X := by
  intro p l e s m args below meth c dC dI cy ad A C H locs ls hP hD hS hL
  obtain ⟨hx, hb, hml, hr, hown, hts, hN, hK, hlk, hA, hZ⟩ := id C
  exact va_tlen hx hb (hZ.1.1 k hk).2.2.2 hS rfl hd (K p l e s m args below meth c dC dI cy ad A C H locs ls hP hD hS hL)
theorem j_sbld {k j : Nat} (hd : decode mi.2.1 pc = .ok (.baload, 1)) (hk : k < 6) (hj : j < zLen.getD k 0) (hj2 : j < 100) (K : zJ sh lv mi Post (pc + 1) L (.int ((zByt.getD k []).getD j 0) :: st) X) : zJ sh lv mi Post pc L (.int (nI j) :: .ref (1001 + 2 * k) :: st) X := by
  intro p l e s m args below meth c dC dI cy ad A C H locs ls hP hD hS hL
  obtain ⟨hx, hb, hml, hr, hown, hts, hN, hK, hlk, hA, hZ⟩ := id C
  refine va_tb (v := .int ((zByt.getD k []).getD j 0)) hx hb (hZ.1.1 k hk).2.2.2 hS ?_ (by rw [nI_clamp (by omega)]) hd (K p l e s m args below meth c dC dI cy ad A C H locs ls hP hD hS hL)
  unfold vp_in
  rw [nI_clamp (by omega)]
  intro q
  rcases q with q | q
  · exact nI_pos (by omega) q
  · omega
theorem j_gets {idx : Nat} (hd : decode mi.2.1 pc = .ok (.getstatic idx, 3)) (hl : Cond.fieldLink mi.1.cls idx "java/lang/String" "COMPACT_STRINGS" "Z" ∈ zG) (K : zJ sh lv mi Post (pc + 3) L (.int 1 :: st) X) : zJ sh lv mi Post pc L st X := by
  intro p l e s m args below meth c dC dI cy ad A C H locs ls hP hD hS hL
  obtain ⟨hx, hb, hml, hr, hown, hts, hN, hK, hlk, hA, hZ⟩ := id C
  exact va_gets hx hb hZ.2.2.1 hS hown (hts _ hl) (fun _ h => h) hd (K p l e s m args below meth c dC dI cy ad A C H locs ls hP hD hS hL)
theorem j_getsQ {idx : Nat} (hd : decode mi.2.1 pc = .ok (.getstatic idx, 3)) (hl : Cond.fieldLink mi.1.cls idx "jdk/internal/util/Preconditions" "SIOOBE_FORMATTER" "Ljava/util/function/BiFunction;" ∈ zG) (K : ∀ v : Value, v = .null ∨ v = .ref 1012 → zJ sh lv mi Post (pc + 3) L (v :: st) X) : zJ sh lv mi Post pc L st X := by
  intro p l e s m args below meth c dC dI cy ad A C H locs ls hP hD hS hL
  obtain ⟨hx, hb, hml, hr, hown, hts, hN, hK, hlk, hA, hZ⟩ := id C
  obtain ⟨v, hv, h5⟩ := hZ.2.2.2
  rcases hv with rfl | rfl
  · exact va_gets hx hb h5 hS hown (hts _ hl) (fun _ h => h) hd (K .null (Or.inl rfl) p l e s m args below meth c dC dI cy ad A C H locs ls hP hD hS hL)
  · exact va_gets hx hb h5 hS hown (hts _ hl) (fun _ h => h) hd (K (.ref 1012) (Or.inr rfl) p l e s m args below meth c dC dI cy ad A C H locs ls hP hD hS hL)
theorem j_pop {v : Value} (hd : decode mi.2.1 pc = .ok (.pop, 1)) (hv : v.category = 1) (K : zJ sh lv mi Post (pc + 1) L st X) : zJ sh lv mi Post pc L (v :: st) X := by
  intro p l e s m args below meth c dC dI cy ad A C H locs ls hP hD hS hL
  obtain ⟨hx, hb, hml, hr, hown, hts, hN, hK, hlk, hA, hZ⟩ := id C
  exact lv_pop hx hb hd (by rw [zk_cat]; exact hv) (K p l e s m args below meth c dC dI cy ad A C H locs ls hP hD hS hL)
theorem j_i2c {x v : Int32} (hd : decode mi.2.1 pc = .ok (.i2c, 1)) (hv : (x.toUInt32 % 65536).toInt32 = v) (K : zJ sh lv mi Post (pc + 1) L (.int v :: st) X) : zJ sh lv mi Post pc L (.int x :: st) X := by
  intro p l e s m args below meth c dC dI cy ad A C H locs ls hP hD hS hL
  obtain ⟨hx, hb, hml, hr, hown, hts, hN, hK, hlk, hA, hZ⟩ := id C
  exact lv_i2c hx hb hd hv (K p l e s m args below meth c dC dI cy ad A C H locs ls hP hD hS hL)
/-- a call of a String constant's method -/
theorem j_cvS {mc : zM} {n lc idx k : Nat} {as s0 : List Value} {v : Int32} (hd : decode mi.2.1 pc = .ok (.invokevirtual idx, 3)) (hI : zI mc n) (hV : zV mc) (hl : Cond.methodLink mi.1.cls idx mc.1 ∈ zG) (hlv : lc + 1 ≤ lv ∧ 8 + (mc.2.2.1 + 11) + 36 * lc ≤ 36 * lv) (hk : k < 6) (hcl : mc.1.cls = "java/lang/String") (hn : as.length = n) (hst : s0 = as.reverse ++ .ref (1000 + 2 * k) :: st) (hW : (st.map fun v => v.category).sum ≤ 8) (hc : zPf sh lc mc (.ref (1000 + 2 * k) :: as) X v) (K : zJ sh lv mi Post (pc + 3) L (.int v :: st) X) : zJ sh lv mi Post pc L s0 X := by
  intro p l e s m args below meth c dC dI cy ad A C H locs ls hP hD hS hL
  obtain ⟨hx, hb, hml, hr, hown, hts, hN, hK, hlk, hA, hZ⟩ := id C
  have hF := zw_free hD hS hA
  have hM := hc l dC dI cy ad H.size
  obtain ⟨hini, hcode, hd1, hd2, hd3⟩ := hI
  have hrecv := vk_recv hZ.1 hk hS
  have hpre : PreV s H mc.1.cls (ad (1000 + 2 * k)) (va_Pc ((Value.ref (1000 + 2 * k) :: as).map (zk ad)) (zB dC dI cy ad sh X H.size)) (as.map (zk ad)) := ⟨zB_blind dC dI cy ad sh X H.size _, by rw [hcl]; exact hrecv, fun U hU hW => ⟨rfl, by rw [hU], by rw [hU]; exact hP, va_K.moved hW.alike hK, fun w hw => zN_warm hw hW (hN w hw), hD.weaken (fun _ _ _ _ => trivial), by rw [hU]; exact ((hZ.kept hS.2.1).narrow hF).warm hW⟩⟩
  have hstk : (F0 m pc ls (s0.map (zk ad))).stack = (as.map (zk ad)).reverse ++ .ref (ad (1000 + 2 * k)) :: (st.map (zk ad)) := by
    show s0.map (zk ad) = _
    rw [hst, List.map_append, List.map_reverse]; rfl
  have hroom : 2 * (F0 m pc ls (s0.map (zk ad))).monitorRoom + ((st.map (zk ad)).map fun v => v.category).sum ≤ 8 := lv_room (by rw [z_sum]; exact hW)
  refine z_call (va_runV (C := mc.1.cls) (n := n) (bytes := mc.2.1) (maxL := mc.2.2.1) (ret := mc.2.2.2) (Ts := zG) ⟨hx, hb, hml, hown, hts⟩ hM ⟨callB_of n hts (zws_good hcode) rfl rfl rfl (hts _ hini) (hts _ hl) ⟨hd1, hd2, hd3⟩ hlv, hts _ hV.1, hts _ hV.2⟩ hpre rfl (by rw [List.length_map]; exact hn) hL.1 hstk hroom hd ⟨Nat.le_refl _, Nat.le_refl _⟩) hS hF hF ?_
  intro r X' H1 locs1 hp hP1 hD1 _ _ hS1
  obtain ⟨rfl, rfl⟩ := hp
  exact K p l e s m args below meth c dC dI cy ad A C H1 locs1 ls hP1 (hD1.weaken (fun _ q _ h => hF q.1 h)) hS1 hL
theorem lkV : Cond.fieldLink "java/lang/String" 9 "java/lang/String" "value" "[B" ∈ zG := zGm (zm6 143 rfl) rfl
theorem lkC : Cond.fieldLink "java/lang/String" 15 "java/lang/String" "coder" "B" ∈ zG := zGm (zm6 144 rfl) rfl
theorem lkZ : Cond.fieldLink "java/lang/String" 38 "java/lang/String" "COMPACT_STRINGS" "Z" ∈ zG := zGm (zm3 2 rfl) rfl
theorem lkQ : Cond.fieldLink "java/lang/String" 1053 "jdk/internal/util/Preconditions" "SIOOBE_FORMATTER" "Ljava/util/function/BiFunction;" ∈ zG := zGm (zm3 18 rfl) rfl
theorem zk_m {own : String} {i : Nat} {mc : zM} (h : zK own i mc) (hn : ∀ host, Cond.methodLinkNest own i mc.1 host ∉ zN) : Cond.methodLink own i mc.1 ∈ zG := h.elim id (fun ⟨host, q⟩ => absurd q (hn host))
theorem c_coder {k : Nat} (hk : k < 6) : zPf sh 0 mJ0_coder_7d493 [.ref (1000 + 2 * k)] X 0 := by
  refine zP_in [some (.ref (1000 + 2 * k))] ⟨rfl, trivial⟩ (by decide) (Nat.le_of_ble_eq_true rfl) ?_
  refine j_gets dJ0_coder_7d493_0 lkZ ?_
  refine j_if_eq (tgt := 13) dJ0_coder_7d493_3 (by decide) (fun q => absurd q (by decide)) (fun _ => ?_)
  refine j_aload_n dJ0_coder_7d493_6 rfl ?_
  refine j_scod dJ0_coder_7d493_7 lkC hk ?_
  refine j_goto (tgt := 14) dJ0_coder_7d493_10 (by decide) ?_
  exact j_iret dJ0_coder_7d493_14 rfl (by decide) ⟨rfl, rfl⟩
theorem c_isLatin1 {k : Nat} (hk : k < 6) : zPf sh 0 mJ0_isLatin1_aae02 [.ref (1000 + 2 * k)] X 1 := by
  refine zP_in [some (.ref (1000 + 2 * k))] ⟨rfl, trivial⟩ (by decide) (Nat.le_of_ble_eq_true rfl) ?_
  refine j_gets dJ0_isLatin1_aae02_0 lkZ ?_
  refine j_if_eq (tgt := 17) dJ0_isLatin1_aae02_3 (by decide) (fun q => absurd q (by decide)) (fun _ => ?_)
  refine j_aload_n dJ0_isLatin1_aae02_6 rfl ?_
  refine j_scod dJ0_isLatin1_aae02_7 lkC hk ?_
  refine j_if_ne (tgt := 17) dJ0_isLatin1_aae02_10 (by decide) (fun q => absurd rfl q) (fun _ => ?_)
  refine j_iconst (v := 1) dJ0_isLatin1_aae02_13 rfl ?_
  refine j_goto (tgt := 18) dJ0_isLatin1_aae02_14 (by decide) ?_
  exact j_iret dJ0_isLatin1_aae02_18 rfl (by decide) ⟨rfl, rfl⟩
theorem len_tab : ∀ k, k < 6 → zshr (nI (zLen.getD k 0)) 0 = nI (zLen.getD k 0) ∧ zLen.getD k 0 < 6 := by decide
theorem ch_tab : ∀ k, k < 6 → ∀ j, j < 6 → j < zLen.getD k 0 → (((((zByt.getD k []).getD j 0) &&& 255).toUInt32 % 65536).toInt32 = (zByt.getD k []).getD j 0) ∧ narrow .char (.int ((zByt.getD k []).getD j 0)) = .int ((zByt.getD k []).getD j 0) := by decide
theorem c_slength {k : Nat} (hk : k < 6) : zPf sh 1 mJ0_length_8abf5 [.ref (1000 + 2 * k)] X (nI (zLen.getD k 0)) := by
  refine zP_in [some (.ref (1000 + 2 * k))] ⟨rfl, trivial⟩ (by decide) (Nat.le_of_ble_eq_true rfl) ?_
  refine j_aload_n dJ0_length_8abf5_0 rfl ?_
  refine j_sval dJ0_length_8abf5_1 lkV hk ?_
  refine j_slen dJ0_length_8abf5_4 hk ?_
  refine j_aload_n dJ0_length_8abf5_5 rfl ?_
  refine j_cvS (as := []) (lc := 0) (k := k) (mc := mJ0_coder_7d493) dJ0_length_8abf5_6 iJ0_coder_7d493 vJ0_coder_7d493 (zGm (zm2 238 rfl) rfl) ⟨by decide, by decide⟩ hk rfl rfl rfl (Nat.le_of_ble_eq_true rfl) (c_coder hk) ?_
  refine j_ishr dJ0_length_8abf5_9 ?_
  rw [(len_tab k hk).1]
  exact j_iret dJ0_length_8abf5_10 rfl rfl ⟨rfl, rfl⟩
theorem c_prec {j n : Nat} (hj : j < n) (hn : n < 1000) {v : Value} (hv : v = .null ∨ v = .ref 1012) : zPf sh 0 mJ3_checkIndex_8e157 [.int (nI j), .int (nI n), v] X (nI j) := by
  refine zP_in [some (.int (nI j)), some (.int (nI n)), none] ⟨rfl, rfl, ?_⟩ (by decide) ?_ ?_
  · rcases hv with rfl | rfl <;> exact trivial
  · rcases hv with rfl | rfl <;> exact Nat.le_of_ble_eq_true rfl
  refine j_iload_n dJ3_checkIndex_8e157_0 rfl ?_
  refine j_if_lt (tgt := 9) dJ3_checkIndex_8e157_1 (by decide) (fun q => absurd q (nI_pos (by omega))) (fun _ => ?_)
  refine j_iload_n dJ3_checkIndex_8e157_4 rfl ?_
  refine j_iload_n dJ3_checkIndex_8e157_5 rfl ?_
  refine j_ic_lt (tgt := 16) dJ3_checkIndex_8e157_6 (by decide) (fun _ => ?_) (fun q => absurd ((nI_ltI (by omega) (by omega)).mpr hj) q)
  refine j_iload_n dJ3_checkIndex_8e157_16 rfl ?_
  exact j_iret dJ3_checkIndex_8e157_17 rfl rfl ⟨rfl, rfl⟩
theorem c_chk {j n : Nat} (hj : j < n) (hn : n < 1000) : zPw sh 1 mJ0_checkIndex_df160 [.int (nI j), .int (nI n)] X (fun Y => Y = X) := by
  refine zP_in [some (.int (nI j)), some (.int (nI n))] ⟨rfl, rfl, trivial⟩ (by decide) (Nat.le_of_ble_eq_true rfl) ?_
  refine j_iload_n dJ0_checkIndex_df160_0 rfl ?_
  refine j_iload_n dJ0_checkIndex_df160_1 rfl ?_
  refine j_getsQ dJ0_checkIndex_df160_2 lkQ (fun v hv => ?_)
  refine j_csf (lc := 0) (as := [.int (nI j), .int (nI n), v]) dJ0_checkIndex_df160_5 iJ3_checkIndex_8e157 sJ3_checkIndex_8e157 kJ0_1059 ⟨by decide, by decide⟩ rfl rfl (by decide) (c_prec hj hn hv) ?_
  refine j_pop dJ0_checkIndex_df160_8 rfl ?_
  exact j_vret dJ0_checkIndex_df160_9 rfl ⟨rfl, rfl⟩
theorem c_charL {k j : Nat} (hk : k < 6) (hj : j < zLen.getD k 0) : zPf sh 2 mJ1_charAt_3b067 [.ref (1001 + 2 * k), .int (nI j)] X ((zByt.getD k []).getD j 0) := by
  have hl := (len_tab k hk).2
  have ct := ch_tab k hk j (by omega) hj
  refine zP_in [some (.ref (1001 + 2 * k)), some (.int (nI j))] ⟨rfl, rfl, trivial⟩ (by decide) (Nat.le_of_ble_eq_true rfl) ?_
  refine j_iload_n dJ1_charAt_3b067_0 rfl ?_
  refine j_aload_n dJ1_charAt_3b067_1 rfl ?_
  refine j_slen dJ1_charAt_3b067_2 hk ?_
  refine j_csw (lc := 1) (as := [.int (nI j), .int (nI (zLen.getD k 0))]) dJ1_charAt_3b067_3 iJ0_checkIndex_df160 sJ0_checkIndex_df160 kJ1_9 ⟨by decide, by decide⟩ rfl rfl (by decide) (c_chk hj (by omega)) (fun Y e => ?_)
  subst e
  refine j_aload_n dJ1_charAt_3b067_6 rfl ?_
  refine j_iload_n dJ1_charAt_3b067_7 rfl ?_
  refine j_sbld dJ1_charAt_3b067_8 hk hj (by omega) ?_
  refine j_sipush (v := 255) dJ1_charAt_3b067_9 rfl ?_
  refine j_iand dJ1_charAt_3b067_12 ?_
  refine j_i2c dJ1_charAt_3b067_13 ct.1 ?_
  exact j_iret dJ1_charAt_3b067_14 rfl ct.2 ⟨rfl, rfl⟩
theorem c_charAt {k j : Nat} (hk : k < 6) (hj : j < zLen.getD k 0) : zPf sh 3 mJ0_charAt_5068e [.ref (1000 + 2 * k), .int (nI j)] X ((zByt.getD k []).getD j 0) := by
  have hl := (len_tab k hk).2
  have ct := ch_tab k hk j (by omega) hj
  refine zP_in [some (.ref (1000 + 2 * k)), some (.int (nI j))] ⟨rfl, rfl, trivial⟩ (by decide) (Nat.le_of_ble_eq_true rfl) ?_
  refine j_aload_n dJ0_charAt_5068e_0 rfl ?_
  refine j_cvS (as := []) (lc := 0) (k := k) (mc := mJ0_isLatin1_aae02) dJ0_charAt_5068e_1 iJ0_isLatin1_aae02 vJ0_isLatin1_aae02 (zGm (zm3 8 rfl) rfl) ⟨by decide, by decide⟩ hk rfl rfl rfl (Nat.le_of_ble_eq_true rfl) (c_isLatin1 hk) ?_
  refine j_if_eq (tgt := 16) dJ0_charAt_5068e_4 (by decide) (fun q => absurd q (by decide)) (fun _ => ?_)
  refine j_aload_n dJ0_charAt_5068e_7 rfl ?_
  refine j_sval dJ0_charAt_5068e_8 lkV hk ?_
  refine j_iload_n dJ0_charAt_5068e_11 rfl ?_
  refine j_csf (lc := 2) (as := [.ref (1001 + 2 * k), .int (nI j)]) dJ0_charAt_5068e_12 iJ1_charAt_3b067 sJ1_charAt_3b067 kJ0_495 ⟨by decide, by decide⟩ rfl rfl (by decide) (c_charL hk hj) ?_
  exact j_iret dJ0_charAt_5068e_15 rfl ct.2 ⟨rfl, rfl⟩
end ZST
section XS
variable {X Y M N D : zX}
def zNb : List (List Nat) := [[104, 101, 97, 114], [115, 105, 110, 103], [116, 101, 108, 108], [99, 97, 114, 114, 121], [100, 114, 121], [112, 97, 105, 114]]
def cN (k j : Nat) : Nat := (zNb.getD k []).getD j 0
theorem cN_tab : ∀ k, k < 6 → ∀ j, j < 6 → j < zLen.getD k 0 → (zByt.getD k []).getD j 0 = nI (cN k j) ∧ cN k j < 128 := by decide
theorem by_tab2 : ∀ n, n < 256 → (128 ≤ n → (nI n).toInt8.toInt32 < 0) := by decide +kernel
theorem by_eqc {n c : Nat} (hn : n < 256) (hc : c < 128) : (nI n).toInt8.toInt32 = nI c ↔ n = c := by
  by_cases q : n < 128
  · rw [(by_tab n hn).2.2.2.2 q]; exact nI_eq (by omega) (by omega)
  · constructor
    · intro e
      have := by_tab2 n hn (by omega)
      rw [e] at this
      exact absurd this (nI_pos (by omega))
    · intro e; omega
def spR (Y : zX) (s k : Nat) : Nat → Nat → Bool
  | 0, _ => true
  | d + 1, t => decide (bY Y (s + t) = cN k t) && spR Y s k d (t + 1)
theorem c_spells (h : IY Y) (hx : M 25 1 = nI (LY Y) ∧ ∀ i, i < LY Y → M 26 i = (nI (bY Y i)).toInt8.toInt32) {s e k : Nat} (hse : s ≤ e) (heL : e ≤ LY Y) (hk : k < 6) : zPf SX 5 mX7_spells [.ref 25, .int (nI s), .int (nI e), .ref (1000 + 2 * k)] M (b2i (decide (e = s + zLen.getD k 0) && spR Y s k (zLen.getD k 0) 0)) := by
  have hL := LY_le h
  have hl := (len_tab k hk).2
  have sub : ∀ {a b : Nat}, a ≤ b → b ≤ 200 → nI b - nI a = nI (b - a) := fun h1 h2 => by
    apply Int32.toInt_inj.mp
    rw [pk_sub_toInt (by omega) (by omega), nI_toInt (by omega)]; omega
  refine zP_in [some (.ref 25), some (.int (nI s)), some (.int (nI e)), some (.ref (1000 + 2 * k)), none] ⟨rfl, rfl, rfl, rfl, trivial⟩ (by decide) (Nat.le_of_ble_eq_true rfl) ?_
  refine j_iload_n dX7_spells_0 rfl ?_
  refine j_iload_n dX7_spells_1 rfl ?_
  refine j_isub dX7_spells_2 ?_
  rw [sub hse (by omega)]
  refine j_aload_n dX7_spells_3 rfl ?_
  refine j_cvS (as := []) (lc := 1) (k := k) (mc := mJ0_length_8abf5) dX7_spells_4 iJ0_length_8abf5 vJ0_length_8abf5 (zGm (zm2 234 rfl) rfl) ⟨by decide, by decide⟩ hk rfl rfl rfl (Nat.le_of_ble_eq_true rfl) (c_slength hk) ?_
  refine j_ic_eq (tgt := 12) dX7_spells_7 (by decide) (fun q => ?_) (fun q => ?_)
  case refine_2 =>
    rw [nI_eq (by omega) (by omega)] at q
    refine j_iconst (v := 0) dX7_spells_10 rfl ?_
    refine j_iret dX7_spells_11 rfl (by decide) ⟨?_, rfl⟩
    rw [decide_eq_false (by omega)]; rfl
  rw [nI_eq (by omega) (by omega)] at q
  have q' : e = s + zLen.getD k 0 := by omega
  rw [decide_eq_true q', Bool.true_and]
  refine j_iload_n dX7_spells_12 rfl ?_
  refine j_istore (L2 := [some (.ref 25), some (.int (nI s)), some (.int (nI e)), some (.ref (1000 + 2 * k)), some (.int (nI s))]) dX7_spells_13 (by decide) (zno rfl) rfl ?_
  have loop : ∀ d t, t + d = zLen.getD k 0 → spR Y s k (zLen.getD k 0) 0 = spR Y s k d t → zJ SX 5 mX7_spells (zRf (b2i (spR Y s k (zLen.getD k 0) 0)) M) 15 [some (.ref 25), some (.int (nI s)), some (.int (nI e)), some (.ref (1000 + 2 * k)), some (.int (nI (s + t)))] [] M := by
    intro d
    induction d with
    | zero =>
      intro t ht hv
      refine j_iload dX7_spells_15 rfl ?_
      refine j_iload_n dX7_spells_17 rfl ?_
      refine j_ic_ge (tgt := 47) dX7_spells_18 (by decide) (fun _ => ?_) (fun c => absurd ((nI_leI (by omega) (by omega)).mpr (by omega)) c)
      refine j_iconst (v := 1) dX7_spells_47 rfl ?_
      exact j_iret dX7_spells_48 rfl (by decide) ⟨by rw [hv]; rfl, rfl⟩
    | succ d ih =>
      intro t ht hv
      have hs : s + t < LY Y := by omega
      have hb := (bY_ok h hs).2
      have ct := cN_tab k hk t (by omega) (by omega)
      refine j_iload dX7_spells_15 rfl ?_
      refine j_iload_n dX7_spells_17 rfl ?_
      refine j_ic_ge (tgt := 47) dX7_spells_18 (by decide) (fun c => absurd ((nI_leI (by omega) (by omega)).mp c) (by omega)) (fun _ => ?_)
      refine j_aload_n dX7_spells_21 rfl ?_
      refine j_getr dX7_spells_22 fX7_11 rfl rfl ?_
      refine j_iload dX7_spells_25 rfl ?_
      refine j_bald dX7_spells_27 rfl (zin (j := s + t) (n := 200) rfl (by omega) (by decide)) ?_
      rw [zcl (j := s + t) (n := 200) rfl (by omega) (by decide), hx.2 _ hs]
      refine j_aload_n dX7_spells_28 rfl ?_
      refine j_iload dX7_spells_29 rfl ?_
      refine j_iload_n dX7_spells_31 rfl ?_
      refine j_isub dX7_spells_32 ?_
      rw [sub (by omega) (by omega), show s + t - s = t by omega]
      refine j_cvS (as := [.int (nI t)]) (lc := 3) (k := k) (mc := mJ0_charAt_5068e) dX7_spells_33 iJ0_charAt_5068e vJ0_charAt_5068e (zGm (zm3 4 rfl) rfl) ⟨by decide, by decide⟩ hk rfl rfl rfl (Nat.le_of_ble_eq_true rfl) (c_charAt hk (by omega)) ?_
      rw [ct.1]
      refine j_ic_eq (tgt := 41) dX7_spells_36 (by decide) (fun c => ?_) (fun c => ?_)
      · rw [by_eqc hb ct.2] at c
        refine j_iinc (v := nI (s + (t + 1))) (L2 := [some (.ref 25), some (.int (nI s)), some (.int (nI e)), some (.ref (1000 + 2 * k)), some (.int (nI (s + (t + 1))))]) dX7_spells_41 rfl (by rw [show Int32.ofInt 1 = (1 : Int32) from rfl, nI_1]; rfl) (by decide) (zno rfl) rfl ?_
        refine j_goto (tgt := 15) dX7_spells_44 (by decide) ?_
        refine ih (t + 1) (by omega) ?_
        rw [hv]
        show (decide (bY Y (s + t) = cN k t) && spR Y s k d (t + 1)) = _
        rw [decide_eq_true c, Bool.true_and]
      · rw [by_eqc hb ct.2] at c
        refine j_iconst (v := 0) dX7_spells_39 rfl ?_
        refine j_iret dX7_spells_40 rfl (by decide) ⟨?_, rfl⟩
        rw [hv]
        show _ = some (Value.int (b2i (decide (bY Y (s + t) = cN k t) && spR Y s k d (t + 1))))
        rw [decide_eq_false c]; rfl
  exact loop _ 0 (by omega) rfl
theorem cX_meaning (h : IY Y) (hx : M 25 1 = nI (LY Y) ∧ ∀ i, i < LY Y → M 26 i = (nI (bY Y i)).toInt8.toInt32) {s e : Nat} (hs : M 27 2 = nI s) (he : M 27 4 = nI e) (hse : s ≤ e) (heL : e ≤ LY Y) : zPf SX 6 mX3_meaning [.ref 27] M (if mnV Y s e = 9 then -4 else nI (mnV Y s e)) := by
  have sp := fun k (hk : k < 6) => c_spells h hx hse heL hk
  have q0 : (decide (e = s + zLen.getD 0 0) && spR Y s 0 (zLen.getD 0 0) 0) = sp4 Y s e 104 101 97 114 := by simp [sp4, spR, zLen, cN, zNb, Bool.and_assoc]
  have q1 : (decide (e = s + zLen.getD 1 0) && spR Y s 1 (zLen.getD 1 0) 0) = sp4 Y s e 115 105 110 103 := by simp [sp4, spR, zLen, cN, zNb, Bool.and_assoc]
  have q2 : (decide (e = s + zLen.getD 2 0) && spR Y s 2 (zLen.getD 2 0) 0) = sp4 Y s e 116 101 108 108 := by simp [sp4, spR, zLen, cN, zNb, Bool.and_assoc]
  have q3 : (decide (e = s + zLen.getD 3 0) && spR Y s 3 (zLen.getD 3 0) 0) = (cr4 Y s e && decide (bY Y (s + 4) = 121)) := by simp [cr4, spR, zLen, cN, zNb, Bool.and_assoc]
  have q4 : (decide (e = s + zLen.getD 4 0) && spR Y s 4 (zLen.getD 4 0) 0) = sp3 Y s e := by simp [sp3, spR, zLen, cN, zNb, Bool.and_assoc]
  have q5 : (decide (e = s + zLen.getD 5 0) && spR Y s 5 (zLen.getD 5 0) 0) = sp4 Y s e 112 97 105 114 := by simp [sp4, spR, zLen, cN, zNb, Bool.and_assoc]
  have s0 := sp 0 (by decide); rw [q0] at s0
  have s1 := sp 1 (by decide); rw [q1] at s1
  have s2 := sp 2 (by decide); rw [q2] at s2
  have s3 := sp 3 (by decide); rw [q3] at s3
  have s4 := sp 4 (by decide); rw [q4] at s4
  have s5 := sp 5 (by decide); rw [q5] at s5
  refine zP_in [some (.ref 27)] ⟨rfl, trivial⟩ (by decide) (Nat.le_of_ble_eq_true rfl) ?_
  refine j_aload_n dX3_meaning_0 rfl ?_
  refine j_getr dX3_meaning_1 fX3_9 rfl rfl ?_
  refine j_aload_n dX3_meaning_4 rfl ?_
  refine j_getf dX3_meaning_5 fX3_56 rfl rfl ?_
  rw [hs]
  refine j_aload_n dX3_meaning_8 rfl ?_
  refine j_getf dX3_meaning_9 fX3_20 rfl rfl ?_
  rw [he]
  refine j_ldcS (k := 0) dX3_meaning_12 rfl (by decide) rfl ?_
  refine j_cvf (lc := 5) (as := [.int (nI s), .int (nI e), .ref (1000 + 2 * 0)]) dX3_meaning_14 iX7_spells vX7_spells kX3_88 ⟨by decide, by decide⟩ rfl rfl rfl rfl (by decide) s0 ?_
  refine j_if_eq (tgt := 22) dX3_meaning_17 (by decide) (fun e0 => ?_) (fun e0 => ?_)
  case refine_2 =>
    have m : mnV Y s e = 0 := by unfold mnV; rw [b2i_n.mp e0]; rfl
    refine j_iconst (v := 0) dX3_meaning_20 rfl ?_
    exact j_iret dX3_meaning_21 rfl rfl ⟨by rw [m]; rfl, rfl⟩
  have e0 := b2i_0.mp e0
  refine j_aload_n dX3_meaning_22 rfl ?_
  refine j_getr dX3_meaning_23 fX3_9 rfl rfl ?_
  refine j_aload_n dX3_meaning_26 rfl ?_
  refine j_getf dX3_meaning_27 fX3_56 rfl rfl ?_
  rw [hs]
  refine j_aload_n dX3_meaning_30 rfl ?_
  refine j_getf dX3_meaning_31 fX3_20 rfl rfl ?_
  rw [he]
  refine j_ldcS (k := 1) dX3_meaning_34 rfl (by decide) rfl ?_
  refine j_cvf (lc := 5) (as := [.int (nI s), .int (nI e), .ref (1000 + 2 * 1)]) dX3_meaning_36 iX7_spells vX7_spells kX3_88 ⟨by decide, by decide⟩ rfl rfl rfl rfl (by decide) s1 ?_
  refine j_if_eq (tgt := 44) dX3_meaning_39 (by decide) (fun e1 => ?_) (fun e1 => ?_)
  case refine_2 =>
    have m : mnV Y s e = 1 := by unfold mnV; rw [e0, b2i_n.mp e1]; rfl
    refine j_iconst (v := 1) dX3_meaning_42 rfl ?_
    exact j_iret dX3_meaning_43 rfl rfl ⟨by rw [m]; rfl, rfl⟩
  have e1 := b2i_0.mp e1
  refine j_aload_n dX3_meaning_44 rfl ?_
  refine j_getr dX3_meaning_45 fX3_9 rfl rfl ?_
  refine j_aload_n dX3_meaning_48 rfl ?_
  refine j_getf dX3_meaning_49 fX3_56 rfl rfl ?_
  rw [hs]
  refine j_aload_n dX3_meaning_52 rfl ?_
  refine j_getf dX3_meaning_53 fX3_20 rfl rfl ?_
  rw [he]
  refine j_ldcS (k := 2) dX3_meaning_56 rfl (by decide) rfl ?_
  refine j_cvf (lc := 5) (as := [.int (nI s), .int (nI e), .ref (1000 + 2 * 2)]) dX3_meaning_58 iX7_spells vX7_spells kX3_88 ⟨by decide, by decide⟩ rfl rfl rfl rfl (by decide) s2 ?_
  refine j_if_eq (tgt := 66) dX3_meaning_61 (by decide) (fun e2 => ?_) (fun e2 => ?_)
  case refine_2 =>
    have m : mnV Y s e = 2 := by unfold mnV; rw [e0, e1, b2i_n.mp e2]; rfl
    refine j_iconst (v := 2) dX3_meaning_64 rfl ?_
    exact j_iret dX3_meaning_65 rfl rfl ⟨by rw [m]; rfl, rfl⟩
  have e2 := b2i_0.mp e2
  refine j_aload_n dX3_meaning_66 rfl ?_
  refine j_getr dX3_meaning_67 fX3_9 rfl rfl ?_
  refine j_aload_n dX3_meaning_70 rfl ?_
  refine j_getf dX3_meaning_71 fX3_56 rfl rfl ?_
  rw [hs]
  refine j_aload_n dX3_meaning_74 rfl ?_
  refine j_getf dX3_meaning_75 fX3_20 rfl rfl ?_
  rw [he]
  refine j_ldcS (k := 3) dX3_meaning_78 rfl (by decide) rfl ?_
  refine j_cvf (lc := 5) (as := [.int (nI s), .int (nI e), .ref (1000 + 2 * 3)]) dX3_meaning_80 iX7_spells vX7_spells kX3_88 ⟨by decide, by decide⟩ rfl rfl rfl rfl (by decide) s3 ?_
  refine j_if_eq (tgt := 88) dX3_meaning_83 (by decide) (fun e3 => ?_) (fun e3 => ?_)
  case refine_2 =>
    have m : mnV Y s e = 3 := by unfold mnV; rw [e0, e1, e2, b2i_n.mp e3]; rfl
    refine j_iconst (v := 3) dX3_meaning_86 rfl ?_
    exact j_iret dX3_meaning_87 rfl rfl ⟨by rw [m]; rfl, rfl⟩
  have e3 := b2i_0.mp e3
  refine j_aload_n dX3_meaning_88 rfl ?_
  refine j_getr dX3_meaning_89 fX3_9 rfl rfl ?_
  refine j_aload_n dX3_meaning_92 rfl ?_
  refine j_getf dX3_meaning_93 fX3_56 rfl rfl ?_
  rw [hs]
  refine j_aload_n dX3_meaning_96 rfl ?_
  refine j_getf dX3_meaning_97 fX3_20 rfl rfl ?_
  rw [he]
  refine j_ldcS (k := 4) dX3_meaning_100 rfl (by decide) rfl ?_
  refine j_cvf (lc := 5) (as := [.int (nI s), .int (nI e), .ref (1000 + 2 * 4)]) dX3_meaning_102 iX7_spells vX7_spells kX3_88 ⟨by decide, by decide⟩ rfl rfl rfl rfl (by decide) s4 ?_
  refine j_if_eq (tgt := 110) dX3_meaning_105 (by decide) (fun e4 => ?_) (fun e4 => ?_)
  case refine_2 =>
    have m : mnV Y s e = 4 := by unfold mnV; rw [e0, e1, e2, e3, b2i_n.mp e4]; rfl
    refine j_iconst (v := 4) dX3_meaning_108 rfl ?_
    exact j_iret dX3_meaning_109 rfl rfl ⟨by rw [m]; rfl, rfl⟩
  have e4 := b2i_0.mp e4
  refine j_aload_n dX3_meaning_110 rfl ?_
  refine j_getr dX3_meaning_111 fX3_9 rfl rfl ?_
  refine j_aload_n dX3_meaning_114 rfl ?_
  refine j_getf dX3_meaning_115 fX3_56 rfl rfl ?_
  rw [hs]
  refine j_aload_n dX3_meaning_118 rfl ?_
  refine j_getf dX3_meaning_119 fX3_20 rfl rfl ?_
  rw [he]
  refine j_ldcS (k := 5) dX3_meaning_122 rfl (by decide) rfl ?_
  refine j_cvf (lc := 5) (as := [.int (nI s), .int (nI e), .ref (1000 + 2 * 5)]) dX3_meaning_124 iX7_spells vX7_spells kX3_88 ⟨by decide, by decide⟩ rfl rfl rfl rfl (by decide) s5 ?_
  refine j_if_eq (tgt := 134) dX3_meaning_127 (by decide) (fun e5 => ?_) (fun e5 => ?_)
  case refine_2 =>
    have m : mnV Y s e = 5 := by unfold mnV; rw [e0, e1, e2, e3, e4, b2i_n.mp e5]; rfl
    refine j_iconst (v := 5) dX3_meaning_130 rfl ?_
    refine j_goto (tgt := 136) dX3_meaning_131 (by decide) ?_
    exact j_iret dX3_meaning_136 rfl rfl ⟨by rw [m]; rfl, rfl⟩
  have e5 := b2i_0.mp e5
  have m : mnV Y s e = 9 := by unfold mnV; rw [e0, e1, e2, e3, e4, e5]; rfl
  refine j_bipush (v := -4) dX3_meaning_134 rfl ?_
  exact j_iret dX3_meaning_136 rfl rfl ⟨by rw [m]; rfl, rfl⟩
end XS
