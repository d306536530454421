/-! the questions: both answer alike -/
section Q1
variable {X Y : zX}
theorem ag_fault (h : Rel X Y) : zAg mX9_fault mX10_fault 0 0 [] X Y := zAg_q h (Y 0 38) (eX9_fault _ X h.2.tf) (eX10_fault _ Y rfl)
theorem ag_torn (h : Rel X Y) : zAg mX9_torn mX10_torn 0 0 [] X Y := zAg_q h (Y 0 45) (eX9_torn _ X h.2.rf) (eX10_torn _ Y rfl)
/-- songs that come by a place -/
theorem songs_at (h : Rel X Y) {p : Nat} (hp : p < 12) : bsx (bt (X 18 p)) (fun v => n32 (Y 3 v)) (nV Y) = bsx (fun v => Y 4 v == nI p) (fun v => n32 (Y 3 v)) (nV Y) := by
  have hv2 := h.1.v2
  refine bsx_congr (fun v hv => ?_) (fun _ _ _ => rfl)
  rw [h.2.atPlace p hp, bt_bs _ (by omega) (by omega)]; simp [hv]
theorem ag_placeOf (h : Rel X Y) (a1 a2 : Int32) : zAg mX9_placeOf mX10_placeOf 1 2 [.int a1, .int a2] X Y := by
  have hp2 := h.1.p2; have hv := h.1.v; have hv2 := h.1.v2
  rcases inR_cases a1 (b := nP Y) (by omega) with h1 | ⟨p, hp, rfl⟩
  · exact zAg_q h (-1) (eX9_placeOf _ X _ _ ⟨_, oP_o h h1, fun e => absurd e (by decide), fun _ => rfl⟩) (eX10_placeOf _ Y _ _ ⟨_, yP_o h.1 h1, fun _ => rfl, fun e => absurd rfl e⟩)
  · rcases inR_cases a2 (b := 5) (by decide) with h2 | ⟨k, hk, rfl⟩
    · exact zAg_q h (-1) (eX9_placeOf _ X _ _ ⟨_, oP_i h hp, fun _ => ⟨fun e => absurd e (oor h2 (k := 0) (by decide)), fun e => absurd e (oor h2 (k := 1) (by decide)), fun e => absurd e (oor h2 (k := 2) (by decide)), fun e => absurd e (oor h2 (k := 3) (by decide)), fun e => absurd e (oor h2 (k := 4) (by decide)), fun _ => rfl⟩, fun e => absurd rfl e⟩) (eX10_placeOf _ Y _ _ ⟨_, yP_i h.1 hp, fun e => absurd e (by decide), fun _ => ⟨_, yC_o Y 5 h2 (by decide), fun e => absurd rfl e, fun _ => rfl⟩⟩)
    · have yy : ∀ v, (∀ x3, x3 = bsx (fun v => Y 4 v == nI p) (fun v => n32 (Y 3 v)) (nV Y) → LX10_placeOf_27 v Y (nI p) (nI k) x3 (nI (nV Y))) → zPf SY 2 mX10_placeOf [.ref 0, .int (nI p), .int (nI k)] Y v := by
        intro v hx
        refine eX10_placeOf _ Y _ _ ⟨_, yP_i h.1 hp, fun e => absurd e (by decide), fun _ => ⟨_, yC_i Y 5 hk (by decide) (by decide), fun _ => ?_, fun e => absurd e (by decide)⟩⟩
        refine zdown0 (P := fun i => LX10_placeOf_27 v Y (nI p) (nI k) (bsx (fun v => Y 4 v == nI p) (fun v => n32 (Y 3 v)) i) (nI i)) (nV Y) (hx _ rfl) ?_
        intro i hi ih
        rw [← nI_1] at ih
        refine bX10_placeOf_27 _ Y _ _ _ _ ⟨fun hc => absurd hc (loB (n := nV Y) hv hi (by omega)), fun _ => ⟨i, rfl, by omega, fun e => ?_, fun e => ⟨i, rfl, by omega, ?_⟩⟩⟩
        · rw [bsx_f (p := fun v => Y 4 v == nI p) (i := i) (beqF e)]; exact ih
        · have e3 := bsx_t (p := fun v => Y 4 v == nI p) (g := fun v => n32 (Y 3 v)) (i := i) (beqT e)
          rw [← (h.1.song i hi).1] at e3
          rw [e3]; exact ih
      have lo := loE (n := nV Y) hv (by omega)
      have fin : ∀ v x3, (((¬ nI k = 0) → (((¬ nI k = 1) → (((¬ nI k = 2) → (((¬ nI k = 3) → (x3 = v)) ∧ ((nI k = 3) → (∃ j10 : Nat, nI p = nI j10 ∧ j10 < 12 ∧ ((Y 16 j10) = v))))) ∧ ((nI k = 2) → (∃ r11 : Int32, zPf SY 0 mX10_hasWater [.ref 0, .int (nI p)] Y r11 ∧ (∃ r12 : Int32, zPf SY 0 mX10_flag [.int r11] Y r12 ∧ (r12 = v)))))) ∧ ((nI k = 1) → (∃ j13 : Nat, nI p = nI j13 ∧ j13 < 12 ∧ ((Y 2 j13) = v))))) ∧ ((nI k = 0) → (∃ j14 : Nat, nI p = nI j14 ∧ j14 < 12 ∧ ((Y 1 j14) = v)))) → LX10_placeOf_27 v Y (nI p) (nI k) x3 (nI (nV Y)) := fun v x3 q =>
        bX10_placeOf_27 _ Y _ _ _ _ ⟨fun _ => q, fun hc => absurd lo hc⟩
      have xx : ∀ v, _ → zPf SX 1 mX9_placeOf [.ref 0, .int (nI p), .int (nI k)] X v := fun v q => eX9_placeOf v X (nI p) (nI k) ⟨_, oP_i h hp, fun _ => q, fun e => absurd rfl e⟩
      obtain rfl | rfl | rfl | rfl | rfl : k = 0 ∨ k = 1 ∨ k = 2 ∨ k = 3 ∨ k = 4 := by omega
      · refine zAg_q h (Y 1 p) (xx _ ⟨fun _ => ⟨p, rfl, by omega, by rw [h.2.hgt]⟩, fun e => absurd e (by decide), fun e => absurd e (by decide), fun e => absurd e (by decide), fun e => absurd e (by decide), fun e => absurd e (by decide)⟩) (yy _ fun x3 e3 => fin _ _ ⟨fun e => absurd rfl e, fun _ => ⟨p, rfl, by omega, rfl⟩⟩)
      · refine zAg_q h (Y 2 p) (xx _ ⟨fun e => absurd e (by decide), fun _ => ⟨p, rfl, by omega, by rw [h.2.wat]⟩, fun e => absurd e (by decide), fun e => absurd e (by decide), fun e => absurd e (by decide), fun e => absurd e (by decide)⟩) (yy _ fun x3 e3 => fin _ _ ⟨fun _ => ⟨fun e => absurd rfl e, fun _ => ⟨p, rfl, by omega, rfl⟩⟩, fun e => absurd e (by decide)⟩)
      · refine zAg_q h (b2i (wetY Y p)) (xx _ ⟨fun e => absurd e (by decide), fun e => absurd e (by decide), fun _ => ⟨_, cX_isWet h (by omega), by cases wetY Y p <;> decide⟩, fun e => absurd e (by decide), fun e => absurd e (by decide), fun e => absurd e (by decide)⟩) (yy _ fun x3 e3 => fin _ _ ⟨fun _ => ⟨fun _ => ⟨fun e => absurd rfl e, fun _ => ⟨_, cY_hasWater Y h.1 (by omega), _, cY_flag Y _, rfl⟩⟩, fun e => absurd e (by decide)⟩, fun e => absurd e (by decide)⟩)
      · refine zAg_q h (Y 16 p) (xx _ ⟨fun e => absurd e (by decide), fun e => absurd e (by decide), fun e => absurd e (by decide), fun _ => ⟨p, rfl, by omega, h.2.drx p (by omega)⟩, fun e => absurd e (by decide), fun e => absurd e (by decide)⟩) (yy _ fun x3 e3 => fin _ _ ⟨fun _ => ⟨fun _ => ⟨fun _ => ⟨fun e => absurd rfl e, fun _ => ⟨p, rfl, by omega, rfl⟩⟩, fun e => absurd e (by decide)⟩, fun e => absurd e (by decide)⟩, fun e => absurd e (by decide)⟩)
      · refine zAg_q h (bsx (fun v => Y 4 v == nI p) (fun v => n32 (Y 3 v)) (nV Y)) (xx _ ⟨fun e => absurd e (by decide), fun e => absurd e (by decide), fun e => absurd e (by decide), fun e => absurd e (by decide), fun _ => ⟨p, rfl, by omega, _, cX_songsOf h _, songs_at h (by omega)⟩, fun e => absurd e (by decide)⟩) (yy _ fun x3 e3 => fin _ _ ⟨fun _ => ⟨fun _ => ⟨fun _ => ⟨fun _ => e3, fun e => absurd e (by decide)⟩, fun e => absurd e (by decide)⟩, fun e => absurd e (by decide)⟩, fun e => absurd e (by decide)⟩)
theorem ag_verseOf (h : Rel X Y) (a1 a2 : Int32) : zAg mX9_verseOf mX10_verseOf 1 2 [.int a1, .int a2] X Y := by
  have hv2 := h.1.v2
  rcases inR_cases a1 (b := nV Y) (by omega) with h1 | ⟨p, hp, rfl⟩
  · exact zAg_q h (-1) (eX9_verseOf _ X _ _ ⟨_, oV_o h h1, fun e => absurd e (by decide), fun _ => rfl⟩) (eX10_verseOf _ Y _ _ ⟨_, yV_o h.1 h1, fun _ => rfl, fun e => absurd rfl e⟩)
  · rcases inR_cases a2 (b := 7) (by decide) with h2 | ⟨k, hk, rfl⟩
    · exact zAg_q h (-1) (eX9_verseOf _ X _ _ ⟨_, oV_i h hp, fun _ => ⟨fun e => absurd e (oor h2 (k := 0) (by decide)), fun e => absurd e (oor h2 (k := 1) (by decide)), fun e => absurd e (oor h2 (k := 2) (by decide)), fun e => absurd e (oor h2 (k := 3) (by decide)), fun e => absurd e (oor h2 (k := 4) (by decide)), fun e => absurd e (oor h2 (k := 5) (by decide)), fun e => absurd e (oor h2 (k := 6) (by decide)), fun _ => rfl⟩, fun e => absurd rfl e⟩) (eX10_verseOf _ Y _ _ ⟨_, yV_i h.1 hp, fun e => absurd e (by decide), fun _ => ⟨_, yC_o Y 7 h2 (by decide), fun e => absurd rfl e, fun _ => rfl⟩⟩)
    · have xx : ∀ v, _ → zPf SX 1 mX9_verseOf [.ref 0, .int (nI p), .int (nI k)] X v := fun v q => eX9_verseOf v X (nI p) (nI k) ⟨_, oV_i h hp, fun _ => q, fun e => absurd rfl e⟩
      have yy : ∀ v, _ → zPf SY 2 mX10_verseOf [.ref 0, .int (nI p), .int (nI k)] Y v := fun v q => eX10_verseOf v Y (nI p) (nI k) ⟨_, yV_i h.1 hp, fun e => absurd e (by decide), fun _ => ⟨_, yC_i Y 7 hk (by decide) (by decide), fun _ => q, fun e => absurd e (by decide)⟩⟩
      obtain rfl | rfl | rfl | rfl | rfl | rfl | rfl : k = 0 ∨ k = 1 ∨ k = 2 ∨ k = 3 ∨ k = 4 ∨ k = 5 ∨ k = 6 := by omega
      · exact zAg_q h (Y 3 p) (xx _ ⟨fun _ => ⟨p, rfl, by omega, by rw [h.2.sg]⟩, fun e => absurd e (by decide), fun e => absurd e (by decide), fun e => absurd e (by decide), fun e => absurd e (by decide), fun e => absurd e (by decide), fun e => absurd e (by decide), fun e => absurd e (by decide)⟩) (yy _ ⟨fun _ => ⟨p, rfl, by omega, rfl⟩, fun e => absurd e (by decide), fun e => absurd e (by decide), fun e => absurd e (by decide), fun e => absurd e (by decide), fun e => absurd e (by decide), fun e => absurd e (by decide)⟩)
      · exact zAg_q h (Y 4 p) (xx _ ⟨fun e => absurd e (by decide), fun _ => ⟨p, rfl, by omega, by rw [h.2.pl]⟩, fun e => absurd e (by decide), fun e => absurd e (by decide), fun e => absurd e (by decide), fun e => absurd e (by decide), fun e => absurd e (by decide), fun e => absurd e (by decide)⟩) (yy _ ⟨fun e => absurd e (by decide), fun _ => ⟨p, rfl, by omega, rfl⟩, fun e => absurd e (by decide), fun e => absurd e (by decide), fun e => absurd e (by decide), fun e => absurd e (by decide), fun e => absurd e (by decide)⟩)
      · exact zAg_q h (Y 5 p) (xx _ ⟨fun e => absurd e (by decide), fun e => absurd e (by decide), fun _ => ⟨p, rfl, by omega, by rw [h.2.tg]⟩, fun e => absurd e (by decide), fun e => absurd e (by decide), fun e => absurd e (by decide), fun e => absurd e (by decide), fun e => absurd e (by decide)⟩) (yy _ ⟨fun e => absurd e (by decide), fun e => absurd e (by decide), fun _ => ⟨p, rfl, by omega, rfl⟩, fun e => absurd e (by decide), fun e => absurd e (by decide), fun e => absurd e (by decide), fun e => absurd e (by decide)⟩)
      · exact zAg_q h (Y 6 p) (xx _ ⟨fun e => absurd e (by decide), fun e => absurd e (by decide), fun e => absurd e (by decide), fun _ => ⟨p, rfl, by omega, by rw [h.2.dy]⟩, fun e => absurd e (by decide), fun e => absurd e (by decide), fun e => absurd e (by decide), fun e => absurd e (by decide)⟩) (yy _ ⟨fun e => absurd e (by decide), fun e => absurd e (by decide), fun e => absurd e (by decide), fun _ => ⟨p, rfl, by omega, rfl⟩, fun e => absurd e (by decide), fun e => absurd e (by decide), fun e => absurd e (by decide)⟩)
      · exact zAg_q h (Y 7 p) (xx _ ⟨fun e => absurd e (by decide), fun e => absurd e (by decide), fun e => absurd e (by decide), fun e => absurd e (by decide), fun _ => ⟨p, rfl, by omega, by rw [h.2.hd]⟩, fun e => absurd e (by decide), fun e => absurd e (by decide), fun e => absurd e (by decide)⟩) (yy _ ⟨fun e => absurd e (by decide), fun e => absurd e (by decide), fun e => absurd e (by decide), fun e => absurd e (by decide), fun _ => ⟨p, rfl, by omega, rfl⟩, fun e => absurd e (by decide), fun e => absurd e (by decide)⟩)
      · exact zAg_q h (Y 8 p) (xx _ ⟨fun e => absurd e (by decide), fun e => absurd e (by decide), fun e => absurd e (by decide), fun e => absurd e (by decide), fun e => absurd e (by decide), fun _ => ⟨p, rfl, by omega, by rw [h.2.nb]⟩, fun e => absurd e (by decide), fun e => absurd e (by decide)⟩) (yy _ ⟨fun e => absurd e (by decide), fun e => absurd e (by decide), fun e => absurd e (by decide), fun e => absurd e (by decide), fun e => absurd e (by decide), fun _ => ⟨p, rfl, by omega, rfl⟩, fun e => absurd e (by decide)⟩)
      · exact zAg_q h (nI (headsY Y p)) (xx _ ⟨fun e => absurd e (by decide), fun e => absurd e (by decide), fun e => absurd e (by decide), fun e => absurd e (by decide), fun e => absurd e (by decide), fun e => absurd e (by decide), fun _ => ⟨_, cX_heads h (by omega), rfl⟩, fun e => absurd e (by decide)⟩) (yy _ ⟨fun e => absurd e (by decide), fun e => absurd e (by decide), fun e => absurd e (by decide), fun e => absurd e (by decide), fun e => absurd e (by decide), fun e => absurd e (by decide), fun _ => ⟨_, cY_headsOf Y h.1 (by omega), rfl⟩⟩)
theorem ag_oneOf (h : Rel X Y) (a1 a2 : Int32) : zAg mX9_oneOf mX10_oneOf 1 2 [.int a1, .int a2] X Y := by
  have hn2 := h.1.n2
  rcases inR_cases a1 (b := nN Y) (by omega) with h1 | ⟨w, hw, rfl⟩
  · exact zAg_q h (-1) (eX9_oneOf _ X _ _ ⟨_, oN_o h h1, fun e => absurd e (by decide), fun _ => rfl⟩) (eX10_oneOf _ Y _ _ ⟨_, yN_o h.1 h1, fun _ => rfl, fun e => absurd rfl e⟩)
  · rcases inR_cases a2 (b := 4) (by decide) with h2 | ⟨k, hk, rfl⟩
    · exact zAg_q h (-1) (eX9_oneOf _ X _ _ ⟨_, oN_i h hw, fun _ => ⟨fun e => absurd e (oor h2 (k := 0) (by decide)), fun e => absurd e (oor h2 (k := 1) (by decide)), fun e => absurd e (oor h2 (k := 2) (by decide)), fun e => absurd e (oor h2 (k := 3) (by decide)), fun _ => rfl⟩, fun e => absurd rfl e⟩) (eX10_oneOf _ Y _ _ ⟨_, yN_i h.1 hw, fun e => absurd e (by decide), fun _ => ⟨_, yC_o Y 4 h2 (by decide), fun e => absurd rfl e, fun _ => rfl⟩⟩)
    · have xx : ∀ v, _ → zPf SX 1 mX9_oneOf [.ref 0, .int (nI w), .int (nI k)] X v := fun v q => eX9_oneOf v X (nI w) (nI k) ⟨_, oN_i h hw, fun _ => q, fun e => absurd rfl e⟩
      have yy : ∀ v, _ → zPf SY 2 mX10_oneOf [.ref 0, .int (nI w), .int (nI k)] Y v := fun v q => eX10_oneOf v Y (nI w) (nI k) ⟨_, yN_i h.1 hw, fun e => absurd e (by decide), fun _ => ⟨_, yC_i Y 4 hk (by decide) (by decide), fun _ => q, fun e => absurd e (by decide)⟩⟩
      obtain rfl | rfl | rfl | rfl : k = 0 ∨ k = 1 ∨ k = 2 ∨ k = 3 := by omega
      · exact zAg_q h (Y 9 w) (xx _ ⟨fun _ => ⟨w, rfl, by omega, by rw [h.2.kn]⟩, fun e => absurd e (by decide), fun e => absurd e (by decide), fun e => absurd e (by decide), fun e => absurd e (by decide)⟩) (yy _ ⟨fun e => absurd rfl e, fun _ => ⟨w, rfl, by omega, rfl⟩⟩)
      · refine zAg_q h (if Y 14 w = 0 then ageY Y w else -4) (xx _ ⟨fun e => absurd e (by decide), fun _ => ⟨w, rfl, by omega, fun e => ?_, fun e => ⟨_, cX_ageNow h hw, ?_⟩⟩, fun e => absurd e (by decide), fun e => absurd e (by decide), fun e => absurd e (by decide)⟩) (yy _ ⟨fun _ => ⟨fun e => absurd rfl e, fun _ => ⟨w, rfl, by omega, fun e => ⟨_, cY_ageOf Y (by omega), ?_⟩, fun e => ?_⟩⟩, fun e => absurd e (by decide)⟩)
        · have := (liveX h hw).mp e
          rw [if_neg (by simpa [liveP] using this)]
        · have := liveT h hw e
          rw [if_pos (by simpa [liveP] using this)]
        · rw [if_pos e]
        · rw [if_neg e]
      · exact zAg_q h (Y 12 w) (xx _ ⟨fun e => absurd e (by decide), fun e => absurd e (by decide), fun _ => ⟨w, rfl, by omega, by rw [h.2.tgs]⟩, fun e => absurd e (by decide), fun e => absurd e (by decide)⟩) (yy _ ⟨fun _ => ⟨fun _ => ⟨fun e => absurd rfl e, fun _ => ⟨w, rfl, by omega, rfl⟩⟩, fun e => absurd e (by decide)⟩, fun e => absurd e (by decide)⟩)
      · exact zAg_q h (Y 13 w) (xx _ ⟨fun e => absurd e (by decide), fun e => absurd e (by decide), fun e => absurd e (by decide), fun _ => ⟨w, rfl, by omega, by rw [h.2.hadx]⟩, fun e => absurd e (by decide)⟩) (yy _ ⟨fun _ => ⟨fun _ => ⟨fun _ => ⟨w, rfl, by omega, rfl⟩, fun e => absurd e (by decide)⟩, fun e => absurd e (by decide)⟩, fun e => absurd e (by decide)⟩)
end Q1
