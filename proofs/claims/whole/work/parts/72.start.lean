/-! the law from its entry; written by mkend.py -/
set_option maxHeartbeats 4000000 in
set_option maxRecDepth 100000 in
/-- the String constants and the statics, at the law's entry -/
theorem law_zS {p : Program} {s : State} {m : MethodId} {meth : Method} {c : Code} {b L : Nat} {xs : Nat → Int32} (C0 : lw_At p s m meth c b L xs) : ∃ ad : Nat → Nat, zS ad (lA s) s s.heap := by
  obtain ⟨hx, hb, hr, hml, hown, hts, hX, hbl, hlocks, hgv⟩ := C0
  have hg := flat_of_before _ hgv
  have hA : ∀ a : Nat, a < s.heap.size → ¬ lA s a := fun a h => Nat.not_le.mpr h
  obtain ⟨adK, adV, hS, hev⟩ := vk_Sof (N := 6) (tm := fun i => Term.string "WaysSung$Reader" (zSi.getD i 0)) (len := zLen) (byt := zByt) (A := lA s) (args := #[Value.ref b]) (s := s)
    (by decide)
    (fun i hi => by match i, hi with | 0, _ => exact hg _ (by decide +kernel) | 1, _ => exact hg _ (by decide +kernel) | 2, _ => exact hg _ (by decide +kernel) | 3, _ => exact hg _ (by decide +kernel) | 4, _ => exact hg _ (by decide +kernel) | 5, _ => exact hg _ (by decide +kernel) | i + 6, h => exact absurd h (by omega))
    (fun i hi => by match i, hi with | 0, _ => exact hg _ (by decide +kernel) | 1, _ => exact hg _ (by decide +kernel) | 2, _ => exact hg _ (by decide +kernel) | 3, _ => exact hg _ (by decide +kernel) | 4, _ => exact hg _ (by decide +kernel) | 5, _ => exact hg _ (by decide +kernel) | i + 6, h => exact absurd h (by omega))
    (fun i hi => by match i, hi with | 0, _ => exact hg _ (by decide +kernel) | 1, _ => exact hg _ (by decide +kernel) | 2, _ => exact hg _ (by decide +kernel) | 3, _ => exact hg _ (by decide +kernel) | 4, _ => exact hg _ (by decide +kernel) | 5, _ => exact hg _ (by decide +kernel) | i + 6, h => exact absurd h (by omega))
    (fun i hi => by match i, hi with | 0, _ => exact hg _ (by decide +kernel) | 1, _ => exact hg _ (by decide +kernel) | 2, _ => exact hg _ (by decide +kernel) | 3, _ => exact hg _ (by decide +kernel) | 4, _ => exact hg _ (by decide +kernel) | 5, _ => exact hg _ (by decide +kernel) | i + 6, h => exact absurd h (by omega))
    (fun i hi j hj => by
      have hj6 : j < 6 := Nat.lt_of_lt_of_le hj ((by decide : ∀ i, i < 6 → zLen.getD i 0 ≤ 6) i hi)
      match i, hi, j, hj, hj6 with | 0, _, 0, _, _ => exact hg _ (by decide +kernel) | 0, _, 1, _, _ => exact hg _ (by decide +kernel) | 0, _, 2, _, _ => exact hg _ (by decide +kernel) | 0, _, 3, _, _ => exact hg _ (by decide +kernel) | 1, _, 0, _, _ => exact hg _ (by decide +kernel) | 1, _, 1, _, _ => exact hg _ (by decide +kernel) | 1, _, 2, _, _ => exact hg _ (by decide +kernel) | 1, _, 3, _, _ => exact hg _ (by decide +kernel) | 2, _, 0, _, _ => exact hg _ (by decide +kernel) | 2, _, 1, _, _ => exact hg _ (by decide +kernel) | 2, _, 2, _, _ => exact hg _ (by decide +kernel) | 2, _, 3, _, _ => exact hg _ (by decide +kernel) | 3, _, 0, _, _ => exact hg _ (by decide +kernel) | 3, _, 1, _, _ => exact hg _ (by decide +kernel) | 3, _, 2, _, _ => exact hg _ (by decide +kernel) | 3, _, 3, _, _ => exact hg _ (by decide +kernel) | 3, _, 4, _, _ => exact hg _ (by decide +kernel) | 4, _, 0, _, _ => exact hg _ (by decide +kernel) | 4, _, 1, _, _ => exact hg _ (by decide +kernel) | 4, _, 2, _, _ => exact hg _ (by decide +kernel) | 5, _, 0, _, _ => exact hg _ (by decide +kernel) | 5, _, 1, _, _ => exact hg _ (by decide +kernel) | 5, _, 2, _, _ => exact hg _ (by decide +kernel) | 5, _, 3, _, _ => exact hg _ (by decide +kernel) | 0, _, j + 4, h, _ => exact absurd h (by show ¬ j + 4 < 4; omega) | 1, _, j + 4, h, _ => exact absurd h (by show ¬ j + 4 < 4; omega) | 2, _, j + 4, h, _ => exact absurd h (by show ¬ j + 4 < 4; omega) | 3, _, j + 5, h, _ => exact absurd h (by show ¬ j + 5 < 5; omega) | 4, _, j + 3, h, _ => exact absurd h (by show ¬ j + 3 < 3; omega) | 5, _, j + 4, h, _ => exact absurd h (by show ¬ j + 4 < 4; omega) | i + 6, h, _, _, _ => exact absurd h (by omega))
    (fun i j hi hj hij => by
      have hs1 : ∀ i, i < 6 → ∀ j, j < 6 → i < j → (Cond.not (Cond.eq (Term.string "WaysSung$Reader" (zSi.getD i 0)) (Term.string "WaysSung$Reader" (zSi.getD j 0)))).before #[Value.ref b] s = true := by
        intro i hi j hj h
        match i, hi, j, hj, h with | 0, _, 1, _, _ => exact hg _ (by decide +kernel) | 0, _, 2, _, _ => exact hg _ (by decide +kernel) | 0, _, 3, _, _ => exact hg _ (by decide +kernel) | 0, _, 4, _, _ => exact hg _ (by decide +kernel) | 0, _, 5, _, _ => exact hg _ (by decide +kernel) | 1, _, 2, _, _ => exact hg _ (by decide +kernel) | 1, _, 3, _, _ => exact hg _ (by decide +kernel) | 1, _, 4, _, _ => exact hg _ (by decide +kernel) | 1, _, 5, _, _ => exact hg _ (by decide +kernel) | 2, _, 3, _, _ => exact hg _ (by decide +kernel) | 2, _, 4, _, _ => exact hg _ (by decide +kernel) | 2, _, 5, _, _ => exact hg _ (by decide +kernel) | 3, _, 4, _, _ => exact hg _ (by decide +kernel) | 3, _, 5, _, _ => exact hg _ (by decide +kernel) | 4, _, 5, _, _ => exact hg _ (by decide +kernel) | 0, _, 0, _, h => exact absurd h (by decide) | 1, _, 0, _, h => exact absurd h (by decide) | 1, _, 1, _, h => exact absurd h (by decide) | 2, _, 0, _, h => exact absurd h (by decide) | 2, _, 1, _, h => exact absurd h (by decide) | 2, _, 2, _, h => exact absurd h (by decide) | 3, _, 0, _, h => exact absurd h (by decide) | 3, _, 1, _, h => exact absurd h (by decide) | 3, _, 2, _, h => exact absurd h (by decide) | 3, _, 3, _, h => exact absurd h (by decide) | 4, _, 0, _, h => exact absurd h (by decide) | 4, _, 1, _, h => exact absurd h (by decide) | 4, _, 2, _, h => exact absurd h (by decide) | 4, _, 3, _, h => exact absurd h (by decide) | 4, _, 4, _, h => exact absurd h (by decide) | 5, _, 0, _, h => exact absurd h (by decide) | 5, _, 1, _, h => exact absurd h (by decide) | 5, _, 2, _, h => exact absurd h (by decide) | 5, _, 3, _, h => exact absurd h (by decide) | 5, _, 4, _, h => exact absurd h (by decide) | 5, _, 5, _, h => exact absurd h (by decide) | i + 6, h, _, _, _ => exact absurd h (by omega) | _, _, j + 6, h, _ => exact absurd h (by omega)
      rcases Nat.lt_or_gt_of_ne hij with h | h
      · exact Or.inl (hs1 i hi j hj h)
      · exact Or.inr (hs1 j hj i hi h)) hA
  have hz := va_Zof (A := lA s) (hts _ (List.mem_append_right _ (zm3 3 rfl))) (hts _ (List.mem_append_right _ (zm1 13 rfl))) (va_eqi (z := 1) (hg _ (by decide +kernel))) hA
  have hq := va_Zqof (A := lA s) (C := "jdk/internal/util/Preconditions") (n := "SIOOBE_FORMATTER") (d := "Ljava/util/function/BiFunction;") (hts _ (List.mem_append_right _ (zm3 19 rfl))) (hts _ (List.mem_append_right _ (zm1 15 rfl))) (hg _ (by decide +kernel)) hA
  obtain ⟨tq, htq⟩ : ∃ tq : Nat, ∃ v : Value, (v = .null ∨ v = .ref tq) ∧ va_Z "jdk/internal/util/Preconditions" "SIOOBE_FORMATTER" "Ljava/util/function/BiFunction;" v (lA s) s s.heap := by
    rcases hq with h | ⟨t, h⟩
    · exact ⟨0, _, Or.inl rfl, h⟩
    · exact ⟨t, _, Or.inr rfl, h⟩
  refine ⟨fun k => if k = 1012 then tq else if k % 2 = 0 then adK ((k - 1000) / 2) else adV ((k - 1001) / 2), ⟨fun i hi => ?_, fun i j hi hj e => ?_⟩, fun i hi => ?_, hz, ?_⟩
  · have e1 : (if 1000 + 2 * i = 1012 then tq else if (1000 + 2 * i) % 2 = 0 then adK ((1000 + 2 * i - 1000) / 2) else adV ((1000 + 2 * i - 1001) / 2)) = adK i := by
      rw [if_neg (by omega), if_pos (by omega), show (1000 + 2 * i - 1000) / 2 = i by omega]
    have e2 : (if 1001 + 2 * i = 1012 then tq else if (1001 + 2 * i) % 2 = 0 then adK ((1001 + 2 * i - 1000) / 2) else adV ((1001 + 2 * i - 1001) / 2)) = adV i := by
      rw [if_neg (by omega), if_neg (by omega), show (1001 + 2 * i - 1001) / 2 = i by omega]
    simp only [e1, e2]
    exact hS.1 i hi
  · have e1 : ∀ i, i < 6 → (if 1000 + 2 * i = 1012 then tq else if (1000 + 2 * i) % 2 = 0 then adK ((1000 + 2 * i - 1000) / 2) else adV ((1000 + 2 * i - 1001) / 2)) = adK i := fun i hi => by
      rw [if_neg (by omega), if_pos (by omega), show (1000 + 2 * i - 1000) / 2 = i by omega]
    simp only [e1 i hi, e1 j hj] at e
    exact hS.2 i j hi hj e
  · have e1 : (if 1000 + 2 * i = 1012 then tq else if (1000 + 2 * i) % 2 = 0 then adK ((1000 + 2 * i - 1000) / 2) else adV ((1000 + 2 * i - 1001) / 2)) = adK i := by
      rw [if_neg (by omega), if_pos (by omega), show (1000 + 2 * i - 1000) / 2 = i by omega]
    simp only [e1]
    refine vk_R.of (A := #[Value.ref b]) ?_ (by rw [← hev i hi])
    match i, hi with
    | 0, _ => exact hts _ (List.mem_append_right _ (zm2 229 rfl))
    | 1, _ => exact hts _ (List.mem_append_right _ (zm3 42 rfl))
    | 2, _ => exact hts _ (List.mem_append_right _ (zm3 43 rfl))
    | 3, _ => exact hts _ (List.mem_append_right _ (zm3 44 rfl))
    | 4, _ => exact hts _ (List.mem_append_right _ (zm3 45 rfl))
    | 5, _ => exact hts _ (List.mem_append_right _ (zm3 46 rfl))
    | i + 6, h => exact absurd h (by omega)
  · exact htq
set_option maxHeartbeats 4000000 in
set_option maxRecDepth 100000 in
/-- THE LAW, from its entry -/
theorem whole_start {p : Program} {e : Env} {s : State} {m : MethodId} {below : List Frame} {meth : Method} {c : Code} (l : Launch) {b L : Nat} {xs : Nat → Int32} (hL : L ≤ 3072) (C0 : lw_At p s m meth c b L xs) : W p l e room_1 s m #[Value.ref b] below meth c s.heap [] 0 0 (lw_Z below #[Value.ref b] s) (entryFrame m ([Value.ref b] : List Value).toArray 4) := by
  obtain ⟨ad, hZ⟩ := law_zS C0
  obtain ⟨hx, hb, hr, hml, hown, hts, hX, hbl, hlocks, hgv⟩ := id C0
  have hA : ∀ q : Nat, s.heap.size ≤ q → lA s q := fun _ h => h
  have htz : ∀ w ∈ zG, w.before #[Value.ref b] s = true := fun w hw => hts w (List.mem_filter.mp hw).1
  have hN : ∀ w ∈ zN, va_Nw w s := fun w hw => va_Nw.of (zN_tab hw) (hts w (List.mem_append_right _ (List.mem_filter.mp hw).1))
  have ao1 := hts _ (List.mem_append_right _ (zm2 10 rfl))
  have ao2 := hts _ (List.mem_append_right _ (zm1 61 rfl))
  have hao : zAO s := zAO.of ao1 ao2
  obtain ⟨c0, iS0, hKn0⟩ := u_known (C := RX0) (T := TX0) (N := 2) (n := 2) htz lyX0 (htz _ (zGm (zm1 237 rfl) rfl))
  obtain ⟨c1, iS1, hKn1⟩ := u_known (C := RX1) (T := TX1) (N := 5) (n := 5) htz lyX1 (htz _ (zGm (zm1 27 rfl) rfl))
  obtain ⟨c2, iS2, hKn2⟩ := u_known (C := RX2) (T := TX2) (N := 6) (n := 6) htz lyX2 (htz _ (zGm (zm1 113 rfl) rfl))
  obtain ⟨c3, iS3, hKn3⟩ := u_known (C := RX3) (T := TX3) (N := 12) (n := 12) htz lyX3 (htz _ (zGm (zm1 162 rfl) rfl))
  obtain ⟨c4, iS4, hKn4⟩ := u_known (C := RX4) (T := TX4) (N := 6) (n := 6) htz lyX4 (htz _ (zGm (zm2 12 rfl) rfl))
  obtain ⟨c5, iS5, hKn5⟩ := u_known (C := RX5) (T := TX5) (N := 3) (n := 3) htz lyX5 (htz _ (zGm (zm2 53 rfl) rfl))
  obtain ⟨c6, iS6, hKn6⟩ := u_known (C := RX6) (T := TX6) (N := 11) (n := 11) htz lyX6 (htz _ (zGm (zm1 55 rfl) rfl))
  obtain ⟨c7, iS7, hKn7⟩ := u_known (C := RX7) (T := TX7) (N := 2) (n := 2) htz lyX7 (htz _ (zGm (zm1 145 rfl) rfl))
  obtain ⟨c8, iS8, hKn8⟩ := u_known (C := RX8) (T := TX8) (N := 7) (n := 7) htz lyX8 (htz _ (zGm (zm1 207 rfl) rfl))
  obtain ⟨c9, iS9, hKn9⟩ := u_known (C := RX9) (T := TX9) (N := 13) (n := 13) htz lyX9 (htz _ (zGm (zm1 19 rfl) rfl))
  obtain ⟨c10, iS10, hKn10⟩ := u_known (C := RX10) (T := TX10) (N := 46) (n := 46) htz lyX10 (htz _ (zGm (zm4 131 rfl) rfl))
  obtain ⟨dC, dI, hKc⟩ : ∃ (dC : Nat → ClassId) (dI : Nat → Nat → Nat), ∀ (k : Nat) (q : vw_C), vwCl[k]? = some q → u_Kn s q.1 q.2.1 q.2.2 (dC k) (dI k) := by
    refine ⟨fun k => if k = 0 then c0 else if k = 1 then c1 else if k = 2 then c2 else if k = 3 then c3 else if k = 4 then c4 else if k = 5 then c5 else if k = 6 then c6 else if k = 7 then c7 else if k = 8 then c8 else if k = 9 then c9 else c10, fun k => if k = 0 then iS0 else if k = 1 then iS1 else if k = 2 then iS2 else if k = 3 then iS3 else if k = 4 then iS4 else if k = 5 then iS5 else if k = 6 then iS6 else if k = 7 then iS7 else if k = 8 then iS8 else if k = 9 then iS9 else iS10, ?_⟩
    intro k q hq
    match k, hq with
    | 0, hq => cases hq; exact hKn0
    | 1, hq => cases hq; exact hKn1
    | 2, hq => cases hq; exact hKn2
    | 3, hq => cases hq; exact hKn3
    | 4, hq => cases hq; exact hKn4
    | 5, hq => cases hq; exact hKn5
    | 6, hq => cases hq; exact hKn6
    | 7, hq => cases hq; exact hKn7
    | 8, hq => cases hq; exact hKn8
    | 9, hq => cases hq; exact hKn9
    | 10, hq => cases hq; exact hKn10
    | k + 11, hq => simp [vwCl] at hq
  obtain ⟨y0, k0, m0, h01, h02, h03⟩ := Cond.arrayClass_spec (hts _ (List.mem_append_right _ (zm1 160 rfl)))
  obtain ⟨y1, k1, m1, h11, h12, h13⟩ := Cond.arrayClass_spec (hts _ (List.mem_append_right _ (zm1 53 rfl)))
  obtain ⟨y2, k2, m2, h21, h22, h23⟩ := Cond.arrayClass_spec (hts _ (List.mem_append_right _ (zm1 143 rfl)))
  obtain ⟨m3, y3, k3, h31, h32, h33, h34, h35⟩ := Cond.arrayOver_spec ao1
  obtain ⟨m4, y4, k4, h41, h42, h43, h44, h45⟩ := arrayOverA_spec ao2
  obtain ⟨cy, hcy⟩ : ∃ cy : Nat → ClassId, cy = fun k => if k = 0 then y0 else if k = 1 then y1 else if k = 2 then y2 else if k = 3 then y3 else y4 := ⟨_, rfl⟩
  have hK : va_K (dC, dI) vwCl (zt cy) s := by
    refine ⟨hKc, fun k q hq => ?_⟩
    rw [hcy] at hq
    match k, hq with
    | 0, hq => cases hq; exact ⟨fun n z => ⟨fun k h => (by cases h), k0, h02, m0, h03⟩, h01⟩
    | 1, hq => cases hq; exact ⟨fun n z => ⟨fun k h => (by cases h), k1, h12, m1, h13⟩, h11⟩
    | 2, hq => cases hq; exact ⟨fun n z => ⟨fun k h => (by cases h), k2, h22, m2, h23⟩, h21⟩
    | 3, hq => cases hq; exact ⟨fun n z => ⟨fun k h => (by cases h), k3, h33, m3, h34⟩, k3, m3, h33, h34, h31, h35⟩
    | 4, hq => cases hq; exact ⟨fun n z => ⟨fun k h => (by cases h), k4, h43, m4, h44⟩, h45⟩
    | k + 5, hq => simp [zt] at hq
  have C : zC p s m #[Value.ref b] meth c mL dC dI cy ad (lA s) := ⟨hx, hb, hml, hr, hown, htz, hN, hK, hlocks, hA, hZ⟩
  have hS : va_S (lA s) s.heap s.heap [] := va_S.rf
  have hP : va_P (dC, dI) vwCl [] s.heap := fun k q h => by simp at h
  have hD : va_D (lA s) [] := ⟨fun i j p q h => by simp at h, fun k q h => by simp at h⟩
  have hl := lv_entry ([.ref b]) (n := 4) (Nat.le_of_ble_eq_true rfl)
  rw [lg_entry_eq]
  generalize (lg_sl ([.ref b]) ++ List.replicate (4 - (lg_sl ([.ref b])).length) Slot.unset).toArray = ls at hl ⊢
  have hl : lv_has ls 4 [(0, .ref b)] := hl
  refine va_new (ci := 9) (fs := [.null, .null, .null, .null, .null, .null, .null, .null, .null, .null, .null, .int 0, .int 0]) (C := RX9) (T := TX9) (N := 13) hx hb htz lyX9 tyX9 tyX9_ok (own := RL) hown (htz _ (zGm (zm1 18 rfl) rfl)) (htz _ (zGm (zm1 19 rfl) rfl)) (htz _ (zGm (zm1 1 rfl) rfl)) hK hP hD hS hA rfl (by decide) (Nat.le_of_ble_eq_true rfl) (Nat.le_of_ble_eq_true rfl) dL_0 (fun qx H hP hD hS => ?_)
  refine W.widen (k := 1) (n := 13) (by omega) (by omega) ?_
  refine lv_dup hx hb dL_3 rfl ?_
  refine n_call (i := 0) (lc := 2) (as := []) (fun k => if k = 0 then qx else ad k) C hao dL_4 iX9_init rfl rfl (zGm (zm1 21 rfl) rfl) kL_9 ⟨Nat.le_of_ble_eq_true rfl, Nat.le_of_ble_eq_true rfl⟩ rfl (fun k hk => by rw [if_neg (by omega)]) rfl rfl rfl (Nat.le_of_ble_eq_true rfl) n_X9z (Nat.le_of_ble_eq_true rfl) (Nat.le_of_ble_eq_true rfl) hP hD hS hl.1 (fun ax X H locs wx gx1 gx2 hPx hDx _ hFx hS => ?_)
  refine W.widen (k := 62) (n := 1040) (by omega) (by omega) ?_
  have hDx := hDx.weaken (fun _ q _ h => hFx q.1 h)
  refine lv_astore_n (lv' := [(1, .ref qx), (0, .ref b)]) hx hb dL_7 rfl hl (by decide) rfl (fun ls hl => ?_)
  refine va_new (ci := 10) (fs := [.int 0, .null, .null, .int 0, .null, .null, .null, .null, .null, .null, .int 0, .null, .null, .null, .null, .null, .null, .int 0, .int 0, .int 0, .int 0, .int 0, .null, .null, .null, .int 0, .int 0, .int 0, .null, .null, .null, .null, .null, .int 0, .int 0, .int 0, .int 0, .int 0, .int 0, .int 0, .null, .null, .null, .null, .null, .int 0]) (C := RX10) (T := TX10) (N := 46) hx hb htz lyX10 tyX10 tyX10_ok (own := RL) hown (htz _ (zGm (zm4 130 rfl) rfl)) (htz _ (zGm (zm4 131 rfl) rfl)) (htz _ (zGm (zm1 11 rfl) rfl)) hK hPx hDx hS hA rfl (by decide) (Nat.le_of_ble_eq_true rfl) (Nat.le_of_ble_eq_true rfl) dL_8 (fun qy H hP hD hS => ?_)
  refine W.widen (k := 63) (n := 1086) (by omega) (by omega) ?_
  refine lv_dup hx hb dL_11 rfl ?_
  have hP := hP.sw2
  have hD := hD.sw2
  refine n_call (i := 0) (lc := 1) (as := []) (e0 := .inr (10, [none, some none, some none, none, some none, some none, some none, some none, some none, some none, none, some none, some none, some none, some none, some none, some none, none, none, none, none, none, some none, some none, some none, none, none, none, some none, some none, some none, some none, some none, none, none, none, none, none, none, none, some none, some none, some none, some none, some none, none])) (fun k => if k = 0 then qy else ad k) C hao dL_12 iX10_init rfl rfl (zGm (zm4 133 rfl) rfl) kL_12 ⟨Nat.le_of_ble_eq_true rfl, Nat.le_of_ble_eq_true rfl⟩ rfl (fun k hk => by rw [if_neg (by omega)]) (by rw [zc_eq]; rfl) rfl rfl (Nat.le_of_ble_eq_true rfl) n_X10z (Nat.le_of_ble_eq_true rfl) (Nat.le_of_ble_eq_true rfl) hP hD hS hl.1 (fun ay Y H locs wy gy1 gy2 hPy hDy hky hFy hS => ?_)
  refine W.widen (k := 90) (n := 2268) (by omega) (by omega) ?_
  obtain ⟨hP, hD⟩ := two_join (w1 := [(qy, zc cy (fun k => if k = 0 then qy else ad k) zz 0 (.inr (10, [none, some none, some none, none, some none, some none, some none, some none, some none, some none, none, some none, some none, some none, some none, some none, some none, none, none, none, none, none, some none, some none, some none, none, none, none, some none, some none, some none, some none, some none, none, none, none, none, none, none, none, some none, some none, some none, some none, some none, none])))]) (by rw [zc_eq]; exact hP) (by rw [zc_eq]; exact hD) hky hFy hPy hDy
  refine lv_astore_n (lv' := [(2, .ref qy), (1, .ref qx), (0, .ref b)]) hx hb dL_15 rfl hl (by decide) rfl (fun ls hl => ?_)
  refine lv_iconst (v := 0) hx hb dL_16 rfl ?_
  refine lv_istore_n (lv' := [(3, .int 0), (2, .ref qy), (1, .ref qx), (0, .ref b)]) hx hb dL_17 rfl hl (by decide) rfl (fun ls hl => ?_)
  exact law_loop hL C hX hbl L 0 (by omega) (by omega) H locs ls ⟨ax, ay, X, Y, gx1, gy1, fun k hk => (gx2 k (by omega)).trans (if_neg (by omega)), fun k hk => (gy2 k (by omega)).trans (if_neg (by omega)), rel0 wx wy, hP.sw2, hD.sw2, hS⟩ (lv_sub hl [3, 2, 1, 0] rfl)
