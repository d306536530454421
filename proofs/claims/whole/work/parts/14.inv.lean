def nP (Y : zX) : Nat := n32 (Y 0 0)
def nV (Y : zX) : Nat := n32 (Y 0 3)
def nN (Y : zX) : Nat := n32 (Y 0 10)
def IY (Y : zX) : Prop := (Y 0 0 = nI (nP Y)) ∧ (nP Y ≤ 12) ∧ (Y 0 3 = nI (nV Y)) ∧ (nV Y ≤ 24) ∧ (Y 0 10 = nI (nN Y)) ∧ (nN Y ≤ 8) ∧ (∀ i, i < nP Y → isN (Y 1 i) 10) ∧ (∀ i, i < nP Y → isN (Y 2 i) 16) ∧ (∀ v, v < nV Y → isN (Y 3 v) 4) ∧ (∀ v, v < nV Y → isN (Y 4 v) (nP Y)) ∧ (∀ v, v < nV Y → isN (Y 5 v) 9) ∧ (∀ v, v < nV Y → isN (Y 6 v) 10) ∧ (∀ v, v < nV Y → Y 7 v = -4 ∨ isN (Y 7 v) 8) ∧ (∀ v, v < nV Y → Y 8 v = nI (fb_ct (fun u => Y 3 u == Y 3 v) v)) ∧ (∀ v, v < nV Y → 0 < fb_ct (fun u => Y 3 u == Y 3 v) v → 0 < n32 (Y 6 v)) ∧ (∀ w, w < nN Y → isN (Y 9 w) 8) ∧ (∀ w, w < nN Y → isN (Y 10 w) 100) ∧ (∀ w, w < nN Y → isN (Y 11 w) 100) ∧ (∀ w, w < nN Y → isN (Y 12 w) 512) ∧ (∀ w k, w < nN Y → nV Y ≤ k → bt (Y 13 w) k = false) ∧ (∀ w, nN Y ≤ w → Y 13 w = 0) ∧ (∀ w, w < nN Y → Y 14 w = 0 ∨ Y 14 w = 1) ∧ (isN (Y 0 17) 100) ∧ (isN (Y 0 18) 4) ∧ (isN (Y 0 19) 100) ∧ (isN (Y 0 20) 100) ∧ (isN (Y 0 21) 21) ∧ (∀ p, p < 12 → Y 16 p = -4 ∨ isN (Y 16 p) 100) ∧ (isN (Y 0 33) 201) ∧ (∀ i, i < n32 (Y 0 33) → isN (Y 22 i) 256) ∧ (∀ k, k < 4 → Y 25 k = -4 ∨ isN (Y 25 k) 3) ∧ (∀ k, k < 4 → isN (Y 26 k) 41)
theorem IY.p {Y : zX} (h : IY Y) : Y 0 0 = nI (nP Y) := h.1
theorem IY.p2 {Y : zX} (h : IY Y) : nP Y ≤ 12 := h.2.1
theorem IY.v {Y : zX} (h : IY Y) : Y 0 3 = nI (nV Y) := h.2.2.1
theorem IY.v2 {Y : zX} (h : IY Y) : nV Y ≤ 24 := h.2.2.2.1
theorem IY.n {Y : zX} (h : IY Y) : Y 0 10 = nI (nN Y) := h.2.2.2.2.1
theorem IY.n2 {Y : zX} (h : IY Y) : nN Y ≤ 8 := h.2.2.2.2.2.1
theorem IY.height {Y : zX} (h : IY Y) : ∀ i, i < nP Y → isN (Y 1 i) 10 := h.2.2.2.2.2.2.1
theorem IY.water {Y : zX} (h : IY Y) : ∀ i, i < nP Y → isN (Y 2 i) 16 := h.2.2.2.2.2.2.2.1
theorem IY.song {Y : zX} (h : IY Y) : ∀ v, v < nV Y → isN (Y 3 v) 4 := h.2.2.2.2.2.2.2.2.1
theorem IY.at_ {Y : zX} (h : IY Y) : ∀ v, v < nV Y → isN (Y 4 v) (nP Y) := h.2.2.2.2.2.2.2.2.2.1
theorem IY.tongue {Y : zX} (h : IY Y) : ∀ v, v < nV Y → isN (Y 5 v) 9 := h.2.2.2.2.2.2.2.2.2.2.1
theorem IY.days {Y : zX} (h : IY Y) : ∀ v, v < nV Y → isN (Y 6 v) 10 := h.2.2.2.2.2.2.2.2.2.2.2.1
theorem IY.held {Y : zX} (h : IY Y) : ∀ v, v < nV Y → Y 7 v = -4 ∨ isN (Y 7 v) 8 := h.2.2.2.2.2.2.2.2.2.2.2.2.1
theorem IY.number {Y : zX} (h : IY Y) : ∀ v, v < nV Y → Y 8 v = nI (fb_ct (fun u => Y 3 u == Y 3 v) v) := h.2.2.2.2.2.2.2.2.2.2.2.2.2.1
theorem IY.days1 {Y : zX} (h : IY Y) : ∀ v, v < nV Y → 0 < fb_ct (fun u => Y 3 u == Y 3 v) v → 0 < n32 (Y 6 v) := h.2.2.2.2.2.2.2.2.2.2.2.2.2.2.1
theorem IY.kin {Y : zX} (h : IY Y) : ∀ w, w < nN Y → isN (Y 9 w) 8 := h.2.2.2.2.2.2.2.2.2.2.2.2.2.2.2.1
theorem IY.age {Y : zX} (h : IY Y) : ∀ w, w < nN Y → isN (Y 10 w) 100 := h.2.2.2.2.2.2.2.2.2.2.2.2.2.2.2.2.1
theorem IY.came {Y : zX} (h : IY Y) : ∀ w, w < nN Y → isN (Y 11 w) 100 := h.2.2.2.2.2.2.2.2.2.2.2.2.2.2.2.2.2.1
theorem IY.tongues {Y : zX} (h : IY Y) : ∀ w, w < nN Y → isN (Y 12 w) 512 := h.2.2.2.2.2.2.2.2.2.2.2.2.2.2.2.2.2.2.1
theorem IY.had {Y : zX} (h : IY Y) : ∀ w k, w < nN Y → nV Y ≤ k → bt (Y 13 w) k = false := h.2.2.2.2.2.2.2.2.2.2.2.2.2.2.2.2.2.2.2.1
theorem IY.had0 {Y : zX} (h : IY Y) : ∀ w, nN Y ≤ w → Y 13 w = 0 := h.2.2.2.2.2.2.2.2.2.2.2.2.2.2.2.2.2.2.2.2.1
theorem IY.dead {Y : zX} (h : IY Y) : ∀ w, w < nN Y → Y 14 w = 0 ∨ Y 14 w = 1 := h.2.2.2.2.2.2.2.2.2.2.2.2.2.2.2.2.2.2.2.2.2.1
theorem IY.year {Y : zX} (h : IY Y) : isN (Y 0 17) 100 := h.2.2.2.2.2.2.2.2.2.2.2.2.2.2.2.2.2.2.2.2.2.2.1
theorem IY.season {Y : zX} (h : IY Y) : isN (Y 0 18) 4 := h.2.2.2.2.2.2.2.2.2.2.2.2.2.2.2.2.2.2.2.2.2.2.2.1
theorem IY.sing {Y : zX} (h : IY Y) : isN (Y 0 19) 100 := h.2.2.2.2.2.2.2.2.2.2.2.2.2.2.2.2.2.2.2.2.2.2.2.2.1
theorem IY.tell {Y : zX} (h : IY Y) : isN (Y 0 20) 100 := h.2.2.2.2.2.2.2.2.2.2.2.2.2.2.2.2.2.2.2.2.2.2.2.2.2.1
theorem IY.carry {Y : zX} (h : IY Y) : isN (Y 0 21) 21 := h.2.2.2.2.2.2.2.2.2.2.2.2.2.2.2.2.2.2.2.2.2.2.2.2.2.2.1
theorem IY.dry {Y : zX} (h : IY Y) : ∀ p, p < 12 → Y 16 p = -4 ∨ isN (Y 16 p) 100 := h.2.2.2.2.2.2.2.2.2.2.2.2.2.2.2.2.2.2.2.2.2.2.2.2.2.2.2.1
theorem IY.taped {Y : zX} (h : IY Y) : isN (Y 0 33) 201 := h.2.2.2.2.2.2.2.2.2.2.2.2.2.2.2.2.2.2.2.2.2.2.2.2.2.2.2.2.1
theorem IY.tape {Y : zX} (h : IY Y) : ∀ i, i < n32 (Y 0 33) → isN (Y 22 i) 256 := h.2.2.2.2.2.2.2.2.2.2.2.2.2.2.2.2.2.2.2.2.2.2.2.2.2.2.2.2.2.1
theorem IY.lanes {Y : zX} (h : IY Y) : ∀ k, k < 4 → Y 25 k = -4 ∨ isN (Y 25 k) 3 := h.2.2.2.2.2.2.2.2.2.2.2.2.2.2.2.2.2.2.2.2.2.2.2.2.2.2.2.2.2.2.1
theorem IY.sizes {Y : zX} (h : IY Y) : ∀ k, k < 4 → isN (Y 26 k) 41 := h.2.2.2.2.2.2.2.2.2.2.2.2.2.2.2.2.2.2.2.2.2.2.2.2.2.2.2.2.2.2.2
def RX (X Y : zX) : Prop := (X 1 2 = Y 0 0) ∧ (X 1 3 = Y 0 17) ∧ (X 1 4 = Y 0 18) ∧ (X 2 = Y 1) ∧ (X 3 = Y 2) ∧ (X 4 10 = Y 0 3) ∧ (X 5 = Y 3) ∧ (X 6 = Y 4) ∧ (X 7 = Y 5) ∧ (X 8 = Y 6) ∧ (X 9 = Y 7) ∧ (X 10 = Y 8) ∧ (∀ v, v < nV Y → X (12 + n32 (Y 3 v)) (n32 (Y 8 v)) = nI v) ∧ (∀ s, s < 4 → X 16 s = nI (fb_ct (fun v => Y 3 v == nI s) (nV Y))) ∧ (∀ s, s < 4 → X 17 s = bs (fun v => Y 3 v == nI s) (nV Y)) ∧ (∀ p, p < 12 → X 18 p = bs (fun v => Y 4 v == nI p) (nV Y)) ∧ (X 19 5 = Y 0 10) ∧ (X 20 = Y 9) ∧ (∀ w, w < nN Y → X 21 w = Y 10 w - Y 11 w) ∧ (X 22 = Y 12) ∧ (X 23 = Y 13) ∧ (∀ w, w < nN Y → X 24 w = b2i (Y 14 w == 0)) ∧ (X 25 1 = Y 0 33) ∧ (∀ i, i < n32 (Y 0 33) → X 26 i = (Y 22 i).toInt8.toInt32) ∧ (X 54 3 = Y 0 19) ∧ (X 54 4 = Y 0 20) ∧ (X 54 5 = Y 0 21) ∧ (∀ k, k < 8 → X 55 k = Y 15 k) ∧ (∀ v, v < 24 → X 56 v = Y 17 v) ∧ (∀ p, p < 12 → X 57 p = Y 16 p) ∧ (X 0 11 = Y 0 38) ∧ (X 0 12 = Y 0 45) ∧ (∀ k, k < 4 → Y 25 k = -4 → X (45 + 2 * k) 2 = -4) ∧ (∀ k, k < 4 → Y 25 k ≠ -4 → X (45 + 2 * k) 1 = Y 25 k ∧ X (45 + 2 * k) 2 = Y 26 k ∧ ∀ i, i < n32 (Y 26 k) → X (46 + 2 * k) i = Y 27 (40 * k + i))
theorem RX.size {X Y : zX} (h : RX X Y) : X 1 2 = Y 0 0 := h.1
theorem RX.yr {X Y : zX} (h : RX X Y) : X 1 3 = Y 0 17 := h.2.1
theorem RX.sn {X Y : zX} (h : RX X Y) : X 1 4 = Y 0 18 := h.2.2.1
theorem RX.hgt {X Y : zX} (h : RX X Y) : X 2 = Y 1 := h.2.2.2.1
theorem RX.wat {X Y : zX} (h : RX X Y) : X 3 = Y 2 := h.2.2.2.2.1
theorem RX.vs {X Y : zX} (h : RX X Y) : X 4 10 = Y 0 3 := h.2.2.2.2.2.1
theorem RX.sg {X Y : zX} (h : RX X Y) : X 5 = Y 3 := h.2.2.2.2.2.2.1
theorem RX.pl {X Y : zX} (h : RX X Y) : X 6 = Y 4 := h.2.2.2.2.2.2.2.1
theorem RX.tg {X Y : zX} (h : RX X Y) : X 7 = Y 5 := h.2.2.2.2.2.2.2.2.1
theorem RX.dy {X Y : zX} (h : RX X Y) : X 8 = Y 6 := h.2.2.2.2.2.2.2.2.2.1
theorem RX.hd {X Y : zX} (h : RX X Y) : X 9 = Y 7 := h.2.2.2.2.2.2.2.2.2.2.1
theorem RX.nb {X Y : zX} (h : RX X Y) : X 10 = Y 8 := h.2.2.2.2.2.2.2.2.2.2.2.1
theorem RX.order {X Y : zX} (h : RX X Y) : ∀ v, v < nV Y → X (12 + n32 (Y 3 v)) (n32 (Y 8 v)) = nI v := h.2.2.2.2.2.2.2.2.2.2.2.2.1
theorem RX.length {X Y : zX} (h : RX X Y) : ∀ s, s < 4 → X 16 s = nI (fb_ct (fun v => Y 3 v == nI s) (nV Y)) := h.2.2.2.2.2.2.2.2.2.2.2.2.2.1
theorem RX.ofSong {X Y : zX} (h : RX X Y) : ∀ s, s < 4 → X 17 s = bs (fun v => Y 3 v == nI s) (nV Y) := h.2.2.2.2.2.2.2.2.2.2.2.2.2.2.1
theorem RX.atPlace {X Y : zX} (h : RX X Y) : ∀ p, p < 12 → X 18 p = bs (fun v => Y 4 v == nI p) (nV Y) := h.2.2.2.2.2.2.2.2.2.2.2.2.2.2.2.1
theorem RX.ns {X Y : zX} (h : RX X Y) : X 19 5 = Y 0 10 := h.2.2.2.2.2.2.2.2.2.2.2.2.2.2.2.2.1
theorem RX.kn {X Y : zX} (h : RX X Y) : X 20 = Y 9 := h.2.2.2.2.2.2.2.2.2.2.2.2.2.2.2.2.2.1
theorem RX.ag {X Y : zX} (h : RX X Y) : ∀ w, w < nN Y → X 21 w = Y 10 w - Y 11 w := h.2.2.2.2.2.2.2.2.2.2.2.2.2.2.2.2.2.2.1
theorem RX.tgs {X Y : zX} (h : RX X Y) : X 22 = Y 12 := h.2.2.2.2.2.2.2.2.2.2.2.2.2.2.2.2.2.2.2.1
theorem RX.hadx {X Y : zX} (h : RX X Y) : X 23 = Y 13 := h.2.2.2.2.2.2.2.2.2.2.2.2.2.2.2.2.2.2.2.2.1
theorem RX.lv {X Y : zX} (h : RX X Y) : ∀ w, w < nN Y → X 24 w = b2i (Y 14 w == 0) := h.2.2.2.2.2.2.2.2.2.2.2.2.2.2.2.2.2.2.2.2.2.1
theorem RX.tl {X Y : zX} (h : RX X Y) : X 25 1 = Y 0 33 := h.2.2.2.2.2.2.2.2.2.2.2.2.2.2.2.2.2.2.2.2.2.2.1
theorem RX.tb {X Y : zX} (h : RX X Y) : ∀ i, i < n32 (Y 0 33) → X 26 i = (Y 22 i).toInt8.toInt32 := h.2.2.2.2.2.2.2.2.2.2.2.2.2.2.2.2.2.2.2.2.2.2.2.1
theorem RX.sng {X Y : zX} (h : RX X Y) : X 54 3 = Y 0 19 := h.2.2.2.2.2.2.2.2.2.2.2.2.2.2.2.2.2.2.2.2.2.2.2.2.1
theorem RX.tll {X Y : zX} (h : RX X Y) : X 54 4 = Y 0 20 := h.2.2.2.2.2.2.2.2.2.2.2.2.2.2.2.2.2.2.2.2.2.2.2.2.2.1
theorem RX.cry {X Y : zX} (h : RX X Y) : X 54 5 = Y 0 21 := h.2.2.2.2.2.2.2.2.2.2.2.2.2.2.2.2.2.2.2.2.2.2.2.2.2.2.1
theorem RX.hr {X Y : zX} (h : RX X Y) : ∀ k, k < 8 → X 55 k = Y 15 k := h.2.2.2.2.2.2.2.2.2.2.2.2.2.2.2.2.2.2.2.2.2.2.2.2.2.2.2.1
theorem RX.pr {X Y : zX} (h : RX X Y) : ∀ v, v < 24 → X 56 v = Y 17 v := h.2.2.2.2.2.2.2.2.2.2.2.2.2.2.2.2.2.2.2.2.2.2.2.2.2.2.2.2.1
theorem RX.drx {X Y : zX} (h : RX X Y) : ∀ p, p < 12 → X 57 p = Y 16 p := h.2.2.2.2.2.2.2.2.2.2.2.2.2.2.2.2.2.2.2.2.2.2.2.2.2.2.2.2.2.1
theorem RX.tf {X Y : zX} (h : RX X Y) : X 0 11 = Y 0 38 := h.2.2.2.2.2.2.2.2.2.2.2.2.2.2.2.2.2.2.2.2.2.2.2.2.2.2.2.2.2.2.1
theorem RX.rf {X Y : zX} (h : RX X Y) : X 0 12 = Y 0 45 := h.2.2.2.2.2.2.2.2.2.2.2.2.2.2.2.2.2.2.2.2.2.2.2.2.2.2.2.2.2.2.2.1
theorem RX.shN {X Y : zX} (h : RX X Y) : ∀ k, k < 4 → Y 25 k = -4 → X (45 + 2 * k) 2 = -4 := h.2.2.2.2.2.2.2.2.2.2.2.2.2.2.2.2.2.2.2.2.2.2.2.2.2.2.2.2.2.2.2.2.1
theorem RX.shS {X Y : zX} (h : RX X Y) : ∀ k, k < 4 → Y 25 k ≠ -4 → X (45 + 2 * k) 1 = Y 25 k ∧ X (45 + 2 * k) 2 = Y 26 k ∧ ∀ i, i < n32 (Y 26 k) → X (46 + 2 * k) i = Y 27 (40 * k + i) := h.2.2.2.2.2.2.2.2.2.2.2.2.2.2.2.2.2.2.2.2.2.2.2.2.2.2.2.2.2.2.2.2.2
