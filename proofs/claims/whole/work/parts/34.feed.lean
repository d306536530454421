section FE
variable {X Y : zX}
def shF (a : Int64) (j : Nat) : Int64 := a >>> ((nI (56 - 8 * j)).toInt64 &&& 63)
def byX (a : Int64) (j : Nat) : Int32 := vp_nar .byte ((shF a j).toInt32.toInt8.toInt32)
def byY (a : Int64) (j : Nat) : Int32 := (shF a j &&& 255).toInt32
theorem byY_and (a : Int64) (j : Nat) : byY a j = (shF a j).toInt32 &&& 255 := by
  unfold byY
  rw [Int64.toInt32_and]
  rfl
theorem by_eq (a : Int64) (j : Nat) : byX a j = (byY a j).toInt8.toInt32 := by
  unfold byX
  rw [pk_vb, byY_and, fa_byte_low]
theorem byY_lt (a : Int64) (j : Nat) : isN (byY a j) 256 := by
  rw [byY_and]
  obtain ⟨k, hk, e⟩ := pk_andE (shF a j).toInt32 (m := 255) 8 (by decide)
  rw [e]; exact isN_nI hk (by decide)
def fbX (X : zX) (a : Int64) (L t : Nat) : zX := fun c => if c = 26 then (fun i => if L ≤ i ∧ i < L + t then byX a (i - L) else X 26 i) else if c = 25 then upd (X 25) 1 (nI (L + t)) else X c
def fbY (Y : zX) (a : Int64) (L t : Nat) : zX := fun c => if c = 22 then (fun i => if L ≤ i ∧ i < L + t then byY a (i - L) else Y 22 i) else if c = 0 then upd (Y 0) 33 (nI (L + t)) else Y c
theorem fbX_ne {a : Int64} {L t c : Nat} (h1 : c ≠ 26) (h2 : c ≠ 25) : fbX X a L t c = X c := by unfold fbX; rw [if_neg h1, if_neg h2]
theorem fbX_s {a : Int64} {L t : Nat} : zs (zs (fbX X a L t) 26 (L + t) (byX a t)) 25 1 (nI (L + t) + 1) = fbX X a L (t + 1) := by
  funext c
  by_cases e : c = 25
  · subst e
    rw [zs_row, zs_ne (by decide)]
    show upd (upd (X 25) 1 (nI (L + t))) 1 _ = upd (X 25) 1 (nI (L + (t + 1)))
    rw [fa_upd_twice, nI_1]; rfl
  · rw [zs_ne e]
    by_cases e2 : c = 26
    · subst e2
      rw [zs_row]
      funext i
      show upd (fun i => if L ≤ i ∧ i < L + t then byX a (i - L) else X 26 i) (L + t) (byX a t) i = if L ≤ i ∧ i < L + (t + 1) then byX a (i - L) else X 26 i
      by_cases q : i = L + t
      · subst q; rw [pk_us, if_pos (by omega), show L + t - L = t by omega]
      · rw [pk_un q]
        by_cases q2 : L ≤ i ∧ i < L + t
        · rw [if_pos q2, if_pos (by omega)]
        · rw [if_neg q2, if_neg (by omega)]
    · rw [zs_ne e2, fbX_ne e2 e, fbX_ne e2 e]
theorem fbY_s {a : Int64} {L t : Nat} : zs (zs (fbY Y a L t) 22 (L + t) (byY a t)) 0 33 (nI (L + t) + 1) = fbY Y a L (t + 1) := by
  funext c
  by_cases e : c = 0
  · subst e
    rw [zs_row, zs_ne (by decide)]
    show upd (upd (Y 0) 33 (nI (L + t))) 33 _ = upd (Y 0) 33 (nI (L + (t + 1)))
    rw [fa_upd_twice, nI_1]; rfl
  · rw [zs_ne e]
    by_cases e2 : c = 22
    · subst e2
      rw [zs_row]
      funext i
      show upd (fun i => if L ≤ i ∧ i < L + t then byY a (i - L) else Y 22 i) (L + t) (byY a t) i = if L ≤ i ∧ i < L + (t + 1) then byY a (i - L) else Y 22 i
      by_cases q : i = L + t
      · subst q; rw [pk_us, if_pos (by omega), show L + t - L = t by omega]
      · rw [pk_un q]
        by_cases q2 : L ≤ i ∧ i < L + t
        · rw [if_pos q2, if_pos (by omega)]
        · rw [if_neg q2, if_neg (by omega)]
    · rw [zs_ne e2]; unfold fbY; rw [if_neg e2, if_neg e2, if_neg e, if_neg e]
theorem fbX_0 {a : Int64} {L : Nat} (hL : X 25 1 = nI L) : fbX X a L 0 = X := by
  funext c
  unfold fbX
  split
  · rename_i e
    subst e
    funext i
    rw [if_neg (by omega)]
  · split
    · rename_i e
      subst e
      exact fa_upd_same hL
    · rfl
theorem fbY_0 {a : Int64} {L : Nat} (hL : Y 0 33 = nI L) : fbY Y a L 0 = Y := by
  funext c
  unfold fbY
  split
  · rename_i e
    subst e
    funext i
    rw [if_neg (by omega)]
  · split
    · rename_i e
      subst e
      exact fa_upd_same hL
    · rfl
theorem x3_neg : ∀ t, t < 8 → ¬ nI (56 - 8 * t) < 0 := fun t ht => nI_pos (by omega)
theorem x3_s : ∀ t, t < 7 → nI (56 - 8 * t) + (-8) = nI (56 - 8 * (t + 1)) := by decide
theorem ag_feed (h : Rel X Y) (a : Int64) : zAg mX9_feed mX10_feed 1 0 [.long a] X Y := by
  have ht := h.1.taped
  have hx : X 25 1 = nI (n32 (Y 0 33)) := h.2.tl.trans ht.1
  have hy : Y 0 33 = nI (n32 (Y 0 33)) := ht.1
  have hb := ht.2
  generalize n32 (Y 0 33) = L at hx hy hb
  have le : nI L + 8 ≤ 200 ↔ L + 8 ≤ 200 := by
    rw [show (8 : Int32) = nI 8 from rfl, nI_add]; exact nI_leI (b := 200) (by omega) (by omega)
  have xx : ∀ P : Int32 → zX → Prop, _ → zPi SX 1 mX9_feed [.ref 0, .long a] X P := fun P q => eX9_feed P X _ ⟨P, eX7_append P X a (by rw [hx, le]; exact q), fun _ _ z => z⟩
  have yy : ∀ P : Int32 → zX → Prop, _ → zPi SY 0 mX10_feed [.ref 0, .long a] Y P := fun P q => eX10_feed P Y a (by rw [hy, le]; exact q)
  by_cases q : L + 8 ≤ 200
  · refine zAg_c (nI (L + 8)) (fbX X a L 8) (fbY Y a L 8) (fun P z => xx P ⟨fun _ => ?_, fun e => absurd q e⟩) (fun P z => yy P ⟨fun _ => ?_, fun e => absurd q e⟩) ?_
    · have last : LX7_append_19 P (fbX X a L 8) a (-8) := bX7_append_19 P _ _ _ ⟨fun _ => z, fun e => absurd (by decide) e⟩
      have step : ∀ t x4, t < 8 → nI (56 - 8 * t) + (-8) = x4 → LX7_append_19 P (fbX X a L (t + 1)) a x4 → LX7_append_19 P (fbX X a L t) a (nI (56 - 8 * t)) := fun t x4 ht e q => by
        refine bX7_append_19 P _ _ _ ⟨fun e => absurd e (x3_neg t ht), fun _ => ⟨L + t, rfl, by omega, ?_⟩⟩
        have : LX7_append_19 P (zs (zs (fbX X a L t) 26 (L + t) (byX a t)) 25 1 (nI (L + t) + 1)) a (nI (56 - 8 * t) + (-8)) := by rw [fbX_s, e]; exact q
        exact this
      have h7 := step 7 _ (by decide) (by decide) last
      have h6 := step 6 _ (by decide) (x3_s 6 (by decide)) h7
      have h5 := step 5 _ (by decide) (x3_s 5 (by decide)) h6
      have h4 := step 4 _ (by decide) (x3_s 4 (by decide)) h5
      have h3 := step 3 _ (by decide) (x3_s 3 (by decide)) h4
      have h2 := step 2 _ (by decide) (x3_s 2 (by decide)) h3
      have h1 := step 1 _ (by decide) (x3_s 1 (by decide)) h2
      have h0 := step 0 _ (by decide) (x3_s 0 (by decide)) h1
      rw [fbX_0 hx] at h0
      exact h0
    · have last : LX10_feed_19 P (fbY Y a L 8) a (-8) := bX10_feed_19 P _ _ _ ⟨fun _ => z, fun e => absurd (by decide) e⟩
      have step : ∀ t x4, t < 8 → nI (56 - 8 * t) + (-8) = x4 → LX10_feed_19 P (fbY Y a L (t + 1)) a x4 → LX10_feed_19 P (fbY Y a L t) a (nI (56 - 8 * t)) := fun t x4 ht e q => by
        refine bX10_feed_19 P _ _ _ ⟨fun e => absurd e (x3_neg t ht), fun _ => ⟨L + t, rfl, by omega, ?_⟩⟩
        have : LX10_feed_19 P (zs (zs (fbY Y a L t) 22 (L + t) (byY a t)) 0 33 (nI (L + t) + 1)) a (nI (56 - 8 * t) + (-8)) := by rw [fbY_s, e]; exact q
        exact this
      have h7 := step 7 _ (by decide) (by decide) last
      have h6 := step 6 _ (by decide) (x3_s 6 (by decide)) h7
      have h5 := step 5 _ (by decide) (x3_s 5 (by decide)) h6
      have h4 := step 4 _ (by decide) (x3_s 4 (by decide)) h5
      have h3 := step 3 _ (by decide) (x3_s 3 (by decide)) h4
      have h2 := step 2 _ (by decide) (x3_s 2 (by decide)) h3
      have h1 := step 1 _ (by decide) (x3_s 1 (by decide)) h2
      have h0 := step 0 _ (by decide) (x3_s 0 (by decide)) h1
      rw [fbY_0 hy] at h0
      exact h0
    · have eL : n32 (Y 0 33) = L := by rw [hy]; exact n32_nI (by omega)
      have e33 : n32 (fbY Y a L 8 0 33) = L + 8 := by show n32 (nI (L + 8)) = _; exact n32_nI (by omega)
      refine ⟨⟨h.1.p, h.1.p2, h.1.v, h.1.v2, h.1.n, h.1.n2, h.1.height, h.1.water, h.1.song, h.1.at_, h.1.tongue, h.1.days, h.1.held, h.1.number, h.1.days1, h.1.kin, h.1.age, h.1.came, h.1.tongues, h.1.had, h.1.had0, h.1.dead, h.1.year, h.1.season, h.1.sing, h.1.tell, h.1.carry, h.1.dry, isN_nI (by omega) (by decide), (fun i hi => ?_), h.1.lanes, h.1.sizes⟩, ⟨h.2.size, h.2.yr, h.2.sn, h.2.hgt, h.2.wat, h.2.vs, h.2.sg, h.2.pl, h.2.tg, h.2.dy, h.2.hd, h.2.nb, (fun v hv => ?_), h.2.length, h.2.ofSong, h.2.atPlace, h.2.ns, h.2.kn, h.2.ag, h.2.tgs, h.2.hadx, h.2.lv, rfl, (fun i hi => ?_), h.2.sng, h.2.tll, h.2.cry, h.2.hr, h.2.pr, h.2.drx, h.2.tf, h.2.rf, (fun k hk q => ?_), (fun k hk q => ?_)⟩⟩
      · rw [e33] at hi
        show isN (if L ≤ i ∧ i < L + 8 then byY a (i - L) else Y 22 i) 256
        by_cases c : L ≤ i ∧ i < L + 8
        · rw [if_pos c]; exact byY_lt a _
        · rw [if_neg c]; exact h.1.tape i (by omega)
      · have hs9 := (h.1.song v hv).2
        show (_ : zX) (12 + n32 (Y 3 v)) (n32 (Y 8 v)) = nI v
        rw [fbX_ne (by omega) (by omega)]; exact h.2.order v hv
      · rw [e33] at hi
        show (if L ≤ i ∧ i < L + 8 then byX a (i - L) else X 26 i) = (if L ≤ i ∧ i < L + 8 then byY a (i - L) else Y 22 i).toInt8.toInt32
        by_cases c : L ≤ i ∧ i < L + 8
        · rw [if_pos c, if_pos c]; exact by_eq a _
        · rw [if_neg c, if_neg c]; exact h.2.tb i (by omega)
      · rw [fbX_ne (by omega) (by omega)]; exact h.2.shN k hk q
      · rw [fbX_ne (by omega) (by omega), fbX_ne (by omega) (by omega)]; exact h.2.shS k hk q
  · exact zAg_b h (-3) (fun P z => xx P ⟨fun e => absurd e q, fun _ => z⟩) (fun P z => yy P ⟨fun e => absurd e q, fun _ => z⟩)
end FE
