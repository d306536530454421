section MX
variable {X Y : zX}
theorem cX_add (h : Rel X Y) {s p : Nat} {t d k : Int32} (hs : s < 4) (hp : p < nP Y) (h24 : nV Y < 24) (P : Int32 → zX → Prop) (z : P (nI (nV Y)) (vX X (nV Y) s p (lenY Y (nI s)) t d k)) : zPi SX 0 mX6_add [.ref 4, .int (nI s), .int (nI p), .int t, .int d, .int k] X P := by
  have hx := h.2.vs.trans h.1.v; have hp2 := h.1.p2
  have hl : lenY Y (nI s) ≤ nV Y := fb_ct_le _ _
  have h16 : X 16 s = nI (lenY Y (nI s)) := h.2.length s hs
  refine eX6_add P X _ _ _ _ _ ⟨fun _ => ⟨nV Y, hx, h24, nV Y, hx, h24, nV Y, hx, h24, nV Y, hx, h24, nV Y, hx, h24, s, rfl, hs, nV Y, hx, h24, s, rfl, hs, s, rfl, hs, lenY Y (nI s), h16, by omega, s, rfl, hs, s, rfl, hs, s, rfl, hs, s, rfl, hs, p, rfl, by omega, p, rfl, by omega, ?_⟩, fun e => absurd ?_ e⟩
  · have r : ∀ (c j : Nat), c ≠ 5 → c ≠ 6 → c ≠ 7 → c ≠ 8 → c ≠ 9 → c ≠ 10 → c ≠ 12 + s → (zs (zs (zs (zs (zs (zs (zs X 5 (nV Y) (nI s)) 6 (nV Y) (nI p)) 7 (nV Y) t) 8 (nV Y) d) 9 (nV Y) k) 10 (nV Y) (X 16 s)) (12 + s) (lenY Y (nI s)) (X 4 10)) c j = X c j := fun c j a1 a2 a3 a4 a5 a6 a7 => by
      rw [zs_ne a7, zs_ne a6, zs_ne a5, zs_ne a4, zs_ne a3, zs_ne a2, zs_ne a1]
    rw [r 16 s (by decide) (by decide) (by decide) (by decide) (by decide) (by decide) (by omega), r 17 s (by decide) (by decide) (by decide) (by decide) (by decide) (by decide) (by omega), r 18 p (by decide) (by decide) (by decide) (by decide) (by decide) (by decide) (by omega), r 4 10 (by decide) (by decide) (by decide) (by decide) (by decide) (by decide) (by omega), h16, hx]
    exact z
  · rw [hx]; exact nI_lt (b := 24) h24 (by decide)
theorem cX_addF (h : Rel X Y) (h24 : nV Y = 24) (a b c d e : Int32) (P : Int32 → zX → Prop) (z : P (-3) X) : zPi SX 0 mX6_add [.ref 4, .int a, .int b, .int c, .int d, .int e] X P := by
  refine eX6_add P X _ _ _ _ _ ⟨fun q => absurd q ?_, fun _ => z⟩
  rw [h.2.vs, h.1.v, h24]; decide
theorem ag_verse (h : Rel X Y) (a1 a2 a3 a4 a5 : Int32) : zAg mX9_verse mX10_verse 1 2 [.int a1, .int a2, .int a3, .int a4, .int a5] X Y := by
  have hv := h.1.v; have hv2 := h.1.v2; have hp2 := h.1.p2
  rcases inR_cases a1 (b := 4) (by decide) with h1 | ⟨s, hs, rfl⟩
  · exact zAg_b h (-1) (fun P q => eX9_verse P X _ _ _ _ _ ⟨_, oC_o X 4 h1 (by decide) rfl, fun _ => q, fun e => absurd e (by decide)⟩) (fun P q => eX10_verse P Y _ _ _ _ _ ⟨_, yG_o Y h1, fun _ => q, fun e => absurd rfl e⟩)
  rcases inR_cases a2 (b := nP Y) (by omega) with h1 | ⟨p, hp, rfl⟩
  · exact zAg_b h (-1) (fun P q => eX9_verse P X _ _ _ _ _ ⟨_, oC_i X 4 hs (by decide) rfl, fun e => absurd rfl e, fun _ => ⟨_, oP_o h h1, fun _ => q, fun e => absurd e (by decide)⟩⟩) (fun P q => eX10_verse P Y _ _ _ _ _ ⟨_, yG_i Y hs, fun e => absurd e (by decide), fun _ => ⟨_, yP_o h.1 h1, fun _ => q, fun e => absurd rfl e⟩⟩)
  rcases inR_cases a3 (b := 9) (by decide) with h1 | ⟨t, ht, rfl⟩
  · exact zAg_b h (-1) (fun P q => eX9_verse P X _ _ _ _ _ ⟨_, oC_i X 4 hs (by decide) rfl, fun e => absurd rfl e, fun _ => ⟨_, oP_i h hp, fun e => absurd rfl e, fun _ => ⟨_, oC_o X 9 h1 (by decide) rfl, fun e => absurd e (by decide), fun _ => q⟩⟩⟩) (fun P q => eX10_verse P Y _ _ _ _ _ ⟨_, yG_i Y hs, fun e => absurd e (by decide), fun _ => ⟨_, yP_i h.1 hp, fun e => absurd e (by decide), fun _ => ⟨_, yC_o Y 9 h1 (by decide), fun _ => q, fun e => absurd rfl e⟩⟩⟩)
  have hl : lenY Y (nI s) ≤ nV Y := fb_ct_le _ _
  have h16 : X 16 s = nI (lenY Y (nI s)) := h.2.length s hs
  have z16 : X 16 s = 0 ↔ lenY Y (nI s) = 0 := by rw [h16]; exact nI_eq (b := 0) (by omega) (by omega)
  have zl : nI (lenY Y (nI s)) = 0 ↔ lenY Y (nI s) = 0 := nI_eq (b := 0) (by omega) (by omega)
  have zle0 : nI (lenY Y (nI s)) ≤ 0 ↔ lenY Y (nI s) = 0 := by rw [show (0 : Int32) = nI 0 from rfl, nI_leI (by omega) (by omega)]; omega
  have d1 : a4 < 1 ↔ a4.toInt < 1 := fa_lt a4 1
  have d2 : a4 ≤ 9 ↔ a4.toInt ≤ 9 := fa_le a4 9
  have f24 : Y 0 3 = 24 ↔ nV Y = 24 := by rw [hv]; exact nI_eq (b := 24) (by omega) (by omega)
  have xx : ∀ P : Int32 → zX → Prop, _ → zPi SX 1 mX9_verse [.ref 0, .int (nI s), .int (nI p), .int (nI t), .int a4, .int a5] X P := fun P q => eX9_verse P X _ _ _ _ _ ⟨_, oC_i X 4 hs (by decide) rfl, fun e => absurd rfl e, fun _ => ⟨_, oP_i h hp, fun e => absurd rfl e, fun _ => ⟨_, oC_i X 9 ht (by decide) rfl, fun _ => ⟨s, rfl, hs, by rw [z16, d1, d2]; exact q⟩, fun e => absurd rfl e⟩⟩⟩
  have yy : ∀ P : Int32 → zX → Prop, _ → zPi SY 2 mX10_verse [.ref 0, .int (nI s), .int (nI p), .int (nI t), .int a4, .int a5] Y P := fun P q => eX10_verse P Y _ _ _ _ _ ⟨_, yG_i Y hs, fun e => absurd e (by decide), fun _ => ⟨_, yP_i h.1 hp, fun e => absurd e (by decide), fun _ => ⟨_, yC_i Y 9 ht (by decide) (by decide), fun e => absurd e (by decide), fun _ => q⟩⟩⟩
  by_cases kk : a5 = -4 ∨ inR a5 8 = true
  · by_cases dd : lenY Y (nI s) = 0 ∨ (1 ≤ a4.toInt ∧ a4.toInt ≤ 9)
    · have ho : ¬ a5 = -4 → zPf SX 0 mX9_outside [.int a5, .int 8] X 0 := fun e => (cX_outside X a5 8 rfl (by decide)).eq (by rw [kk.resolve_left e]; rfl)
      have hy : ¬ a5 = -4 → zPf SY 0 mX10_in [.long a5.toInt64, .long 0, .long 7] Y 1 := fun e => (cY_inK Y a5 7 8 (by decide)).eq (by rw [kk.resolve_left e]; rfl)
      have hi9 : ¬ lenY Y (nI s) = 0 → zPf SY 0 mX10_in [.long a4.toInt64, .long 1, .long 9] Y 1 := fun e => yI_i Y (l := 1) (r := 9) (by decide) (by decide) (dd.resolve_left e)
      -- what comes of the days
      let d : Int32 := if lenY Y (nI s) = 0 then 0 else a4
      have xadd : ∀ P : Int32 → zX → Prop, zPi SX 0 mX6_add [.ref 4, .int (nI s), .int (nI p), .int (nI t), .int d, .int a5] X P → zPi SX 1 mX9_verse [.ref 0, .int (nI s), .int (nI p), .int (nI t), .int a4, .int a5] X P := fun P q => xx P (by
        by_cases e0 : lenY Y (nI s) = 0
        · have ed : d = 0 := if_pos e0
          rw [ed] at q
          exact ⟨fun e => absurd e0 e, fun _ => ⟨fun _ => ⟨_, q, fun _ _ z => z⟩, fun e => ⟨_, ho e, fun _ => ⟨_, q, fun _ _ z => z⟩, fun e => absurd rfl e⟩⟩⟩
        · have ed : d = a4 := if_neg e0
          rw [ed] at q
          have dd := dd.resolve_left e0
          exact ⟨fun _ => ⟨fun e => by omega, fun _ => ⟨fun _ => ⟨fun _ => ⟨_, q, fun _ _ z => z⟩, fun e => ⟨_, ho e, fun _ => ⟨_, q, fun _ _ z => z⟩, fun e => absurd rfl e⟩⟩, fun e => by omega⟩⟩, fun e => absurd e e0⟩)
      by_cases q24 : nV Y = 24
      · refine zAg_b h (-3) (fun P z => xadd P (cX_addF h q24 _ _ _ _ _ P z)) (fun P z => yy P ?_)
        refine ⟨fun _ => ⟨_, cY_lengthOf Y h.1 _, ?_⟩, fun e => ⟨_, hy e, fun _ => ⟨_, cY_lengthOf Y h.1 _, ?_⟩, fun e => absurd e (by decide)⟩⟩
        all_goals exact ⟨fun _ => ⟨fun e => absurd (f24.mpr q24) e, fun _ => z⟩, fun e => ⟨_, hi9 (fun e2 => e (zle0.mpr e2)), fun _ => ⟨fun e => absurd (f24.mpr q24) e, fun _ => z⟩, fun e => absurd e (by decide)⟩⟩
      · have h24 : nV Y < 24 := by omega
        refine zAg_c (nI (nV Y)) (vX X (nV Y) s p (lenY Y (nI s)) (nI t) d a5) (vY Y (nV Y) s p (lenY Y (nI s)) (nI t) d a5) (fun P z => xadd P (cX_add h hs hp h24 P z)) (fun P z => yy P ?_) ?_
        · have leaf : P (Y 0 3 + 1 - 1) (vY Y (nV Y) s p (lenY Y (nI s)) (nI t) d a5) := by rw [add_sub1, hv]; exact z
          have e03 : nI (nV Y) + 1 = Y 0 3 + 1 := by rw [hv]
          unfold vY at leaf
          rw [e03] at leaf
          refine ⟨fun _ => ⟨_, cY_lengthOf Y h.1 _, ?_⟩, fun e => ⟨_, hy e, fun _ => ⟨_, cY_lengthOf Y h.1 _, ?_⟩, fun e => absurd e (by decide)⟩⟩
          all_goals
            refine ⟨fun e => ⟨fun _ => ⟨nV Y, hv, h24, nV Y, hv, h24, nV Y, hv, h24, fun e2 => absurd (zl.mpr (zle0.mp e)) e2, fun _ => ⟨nV Y, hv, h24, nV Y, hv, h24, nV Y, hv, h24, ?_⟩⟩, fun e => absurd (f24.mp e) q24⟩, fun e => ⟨_, hi9 (fun e2 => e (zle0.mpr e2)), fun _ => ⟨fun _ => ⟨nV Y, hv, h24, nV Y, hv, h24, nV Y, hv, h24, fun _ => ⟨nV Y, hv, h24, nV Y, hv, h24, nV Y, hv, h24, ?_⟩, fun e2 => absurd (zle0.mpr (zl.mp e2)) e⟩, fun e => absurd (f24.mp e) q24⟩, fun e => absurd e (by decide)⟩⟩
            · have ed : d = 0 := if_pos (zle0.mp e)
              rw [ed] at leaf; exact leaf
            · have ed : d = a4 := if_neg (fun e2 => e (zle0.mpr e2))
              rw [ed] at leaf; exact leaf
        · refine rel_verse h hs hp ht h24 ?_ ?_ ?_
          · show isN (if lenY Y (nI s) = 0 then 0 else a4) 10
            split
            · exact isN_nI (k := 0) (by decide) (by decide)
            · rename_i e0
              have dd := dd.resolve_left e0
              obtain ⟨m, hm⟩ : ∃ m : Nat, a4.toInt = (m : Int) := ⟨a4.toInt.toNat, by omega⟩
              rw [nI_toIntL hm]; exact isN_nI (by omega) (by decide)
          · intro q
            show 0 < n32 (if lenY Y (nI s) = 0 then 0 else a4)
            rw [if_neg (by omega)]
            have dd := dd.resolve_left (by omega)
            obtain ⟨m, hm⟩ : ∃ m : Nat, a4.toInt = (m : Int) := ⟨a4.toInt.toNat, by omega⟩
            rw [nI_toIntL hm, n32_nI (by omega)]; omega
          · rcases kk with e | e
            · exact Or.inl e
            · obtain ⟨m, hm, rfl⟩ := inR_of e (by decide)
              exact Or.inr (isN_nI hm (by decide))
    · have n0 : ¬ lenY Y (nI s) = 0 := fun e => dd (Or.inl e)
      have nd : ¬ (1 ≤ a4.toInt ∧ a4.toInt ≤ 9) := fun e => dd (Or.inr e)
      have hy : ¬ a5 = -4 → zPf SY 0 mX10_in [.long a5.toInt64, .long 0, .long 7] Y 1 := fun e => (cY_inK Y a5 7 8 (by decide)).eq (by rw [kk.resolve_left e]; rfl)
      refine zAg_b h (-1) (fun P z => xx P ⟨fun _ => ⟨fun _ => z, fun e => ⟨fun e2 => absurd ⟨by omega, e2⟩ nd, fun _ => z⟩⟩, fun e => absurd e n0⟩) (fun P z => yy P ?_)
      refine ⟨fun _ => ⟨_, cY_lengthOf Y h.1 _, ?_⟩, fun e => ⟨_, hy e, fun _ => ⟨_, cY_lengthOf Y h.1 _, ?_⟩, fun e => absurd e (by decide)⟩⟩
      all_goals exact ⟨fun e => absurd (zle0.mp e) n0, fun e => ⟨_, yI_o Y (l := 1) (r := 9) (by decide) (by decide) nd, fun e => absurd rfl e, fun _ => z⟩⟩
  · have k4 : ¬ a5 = -4 := fun e => kk (Or.inl e)
    have k8 : inR a5 8 = false := by
      cases e : inR a5 8 with
      | false => rfl
      | true => exact absurd (Or.inr e) kk
    have ho := oC_o X 8 k8 (by decide) (b := 8) rfl
    exact zAg_b h (-1) (fun P z => xx P ⟨fun _ => ⟨fun _ => z, fun _ => ⟨fun _ => ⟨fun e => absurd e k4, fun _ => ⟨_, ho, fun e => absurd e (by decide), fun _ => z⟩⟩, fun _ => z⟩⟩, fun _ => ⟨fun e => absurd e k4, fun _ => ⟨_, ho, fun e => absurd e (by decide), fun _ => z⟩⟩⟩) (fun P z => yy P ⟨fun e => absurd e k4, fun _ => ⟨_, yC_o Y 8 k8 (by decide), fun e => absurd rfl e, fun _ => z⟩⟩)
end MX
