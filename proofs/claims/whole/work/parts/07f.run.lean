/-! A run's cells, and what a run is: the functions that class and reference are both held against. -/
def pRu (sh : tw_Sh) (P : Nat → Nat → Option Nat) (a s : Nat) : Prop := (sh a = some (5, 12) ∧ P a 0 = some (a + 1) ∧ P a 1 = some (a + 8) ∧ P a 2 = some (a + 9) ∧ P a 3 = some (a + 10) ∧ P a 4 = some (a + 13) ∧ P a 5 = some (a + 16) ∧ P a 6 = some s ∧ P a 7 = some (a + 19) ∧ P a 8 = some (a + 20) ∧ P a 9 = some (a + 23) ∧ P a 10 = some (a + 24)) ∧ (sh (a + 1) = some (26, 2) ∧ sh (a + 8) = some (20, 2) ∧ sh (a + 9) = some (20, 2) ∧ sh (a + 10) = some (23, 2) ∧ sh (a + 13) = some (23, 2) ∧ sh (a + 16) = some (23, 2) ∧ sh (a + 19) = some (20, 2) ∧ sh (a + 20) = some (23, 2) ∧ sh (a + 23) = some (20, 2) ∧ sh (a + 24) = some (20, 2)) ∧
  ∀ t, t < 2 → (P (a + 1) t = some (a + 2 + 3 * t) ∧ P (a + 10) t = some (a + 11 + t) ∧ P (a + 13) t = some (a + 14 + t) ∧ P (a + 16) t = some (a + 17 + t) ∧ P (a + 20) t = some (a + 21 + t)) ∧ pPa sh P (a + 2 + 3 * t) ∧ sh (a + 11 + t) = some (20, 100) ∧ sh (a + 14 + t) = some (20, 100) ∧ sh (a + 17 + t) = some (20, 5) ∧ sh (a + 21 + t) = some (20, 4)
section TPU
variable {n : Nat} {sh : tw_Sh} {P : Nat → Nat → Option Nat} {I : Nat → Nat → Int32} {a s t j : Nat} {x : Int32}
theorem r_is (h : pRu sh P a s) : tw_is (n, sh, P, I) 5 a = some () := e_is h.1.1
theorem r_P0 (h : pRu sh P a s) : tw_gP (n, sh, P, I) 5 a 0 = some (a + 1) := (e_gP h.1.1).trans h.1.2.1
theorem r_P1 (h : pRu sh P a s) : tw_gP (n, sh, P, I) 5 a 1 = some (a + 8) := (e_gP h.1.1).trans h.1.2.2.1
theorem r_P2 (h : pRu sh P a s) : tw_gP (n, sh, P, I) 5 a 2 = some (a + 9) := (e_gP h.1.1).trans h.1.2.2.2.1
theorem r_P3 (h : pRu sh P a s) : tw_gP (n, sh, P, I) 5 a 3 = some (a + 10) := (e_gP h.1.1).trans h.1.2.2.2.2.1
theorem r_P4 (h : pRu sh P a s) : tw_gP (n, sh, P, I) 5 a 4 = some (a + 13) := (e_gP h.1.1).trans h.1.2.2.2.2.2.1
theorem r_P5 (h : pRu sh P a s) : tw_gP (n, sh, P, I) 5 a 5 = some (a + 16) := (e_gP h.1.1).trans h.1.2.2.2.2.2.2.1
theorem r_P6 (h : pRu sh P a s) : tw_gP (n, sh, P, I) 5 a 6 = some (s) := (e_gP h.1.1).trans h.1.2.2.2.2.2.2.2.1
theorem r_P7 (h : pRu sh P a s) : tw_gP (n, sh, P, I) 5 a 7 = some (a + 19) := (e_gP h.1.1).trans h.1.2.2.2.2.2.2.2.2.1
theorem r_P8 (h : pRu sh P a s) : tw_gP (n, sh, P, I) 5 a 8 = some (a + 20) := (e_gP h.1.1).trans h.1.2.2.2.2.2.2.2.2.2.1
theorem r_P9 (h : pRu sh P a s) : tw_gP (n, sh, P, I) 5 a 9 = some (a + 23) := (e_gP h.1.1).trans h.1.2.2.2.2.2.2.2.2.2.2.1
theorem r_P10 (h : pRu sh P a s) : tw_gP (n, sh, P, I) 5 a 10 = some (a + 24) := (e_gP h.1.1).trans h.1.2.2.2.2.2.2.2.2.2.2.2
theorem r_P11 (h : pRu sh P a s) : tw_gI (n, sh, P, I) 5 a 11 = some (I a 11) := e_gI h.1.1
theorem r_pI11 (h : pRu sh P a s) : tw_pI (n, sh, P, I) 5 a 11 x = some (n, sh, P, tw_up I a 11 x) := e_pI h.1.1
theorem r_a8 (h : pRu sh P a s) (ht : t < 2) : tw_aI (n, sh, P, I) 20 (a + 8) (nI t) = some (I (a + 8) t) := e_aI h.2.1.2.1 ht (by decide)
theorem r_w8 (h : pRu sh P a s) (ht : t < 2) : tw_wI (n, sh, P, I) 20 (a + 8) (nI t) x = some (n, sh, P, tw_up I (a + 8) t x) := e_wI h.2.1.2.1 ht (by decide)
theorem r_a9 (h : pRu sh P a s) (ht : t < 2) : tw_aI (n, sh, P, I) 20 (a + 9) (nI t) = some (I (a + 9) t) := e_aI h.2.1.2.2.1 ht (by decide)
theorem r_w9 (h : pRu sh P a s) (ht : t < 2) : tw_wI (n, sh, P, I) 20 (a + 9) (nI t) x = some (n, sh, P, tw_up I (a + 9) t x) := e_wI h.2.1.2.2.1 ht (by decide)
theorem r_a19 (h : pRu sh P a s) (ht : t < 2) : tw_aI (n, sh, P, I) 20 (a + 19) (nI t) = some (I (a + 19) t) := e_aI h.2.1.2.2.2.2.2.2.1 ht (by decide)
theorem r_w19 (h : pRu sh P a s) (ht : t < 2) : tw_wI (n, sh, P, I) 20 (a + 19) (nI t) x = some (n, sh, P, tw_up I (a + 19) t x) := e_wI h.2.1.2.2.2.2.2.2.1 ht (by decide)
theorem r_a23 (h : pRu sh P a s) (ht : t < 2) : tw_aI (n, sh, P, I) 20 (a + 23) (nI t) = some (I (a + 23) t) := e_aI h.2.1.2.2.2.2.2.2.2.2.1 ht (by decide)
theorem r_w23 (h : pRu sh P a s) (ht : t < 2) : tw_wI (n, sh, P, I) 20 (a + 23) (nI t) x = some (n, sh, P, tw_up I (a + 23) t x) := e_wI h.2.1.2.2.2.2.2.2.2.2.1 ht (by decide)
theorem r_a24 (h : pRu sh P a s) (ht : t < 2) : tw_aI (n, sh, P, I) 20 (a + 24) (nI t) = some (I (a + 24) t) := e_aI h.2.1.2.2.2.2.2.2.2.2.2 ht (by decide)
theorem r_w24 (h : pRu sh P a s) (ht : t < 2) : tw_wI (n, sh, P, I) 20 (a + 24) (nI t) x = some (n, sh, P, tw_up I (a + 24) t x) := e_wI h.2.1.2.2.2.2.2.2.2.2.2 ht (by decide)
theorem r_p1 (h : pRu sh P a s) (ht : t < 2) : tw_aP (n, sh, P, I) 26 (a + 1) (nI t) = some (a + 2 + 3 * t) := (e_aP h.2.1.1 ht (by decide)).trans (h.2.2 t ht).1.1
theorem r_p10 (h : pRu sh P a s) (ht : t < 2) : tw_aP (n, sh, P, I) 23 (a + 10) (nI t) = some (a + 11 + t) := (e_aP h.2.1.2.2.2.1 ht (by decide)).trans (h.2.2 t ht).1.2.1
theorem r_p13 (h : pRu sh P a s) (ht : t < 2) : tw_aP (n, sh, P, I) 23 (a + 13) (nI t) = some (a + 14 + t) := (e_aP h.2.1.2.2.2.2.1 ht (by decide)).trans (h.2.2 t ht).1.2.2.1
theorem r_p16 (h : pRu sh P a s) (ht : t < 2) : tw_aP (n, sh, P, I) 23 (a + 16) (nI t) = some (a + 17 + t) := (e_aP h.2.1.2.2.2.2.2.1 ht (by decide)).trans (h.2.2 t ht).1.2.2.2.1
theorem r_p20 (h : pRu sh P a s) (ht : t < 2) : tw_aP (n, sh, P, I) 23 (a + 20) (nI t) = some (a + 21 + t) := (e_aP h.2.1.2.2.2.2.2.2.2.1 ht (by decide)).trans (h.2.2 t ht).1.2.2.2.2
theorem r_r11 (h : pRu sh P a s) (ht : t < 2) (hj : j < 100) : tw_aI (n, sh, P, I) 20 (a + 11 + t) (nI j) = some (I (a + 11 + t) j) := e_aI (h.2.2 t ht).2.2.1 hj (by decide)
theorem r_x11 (h : pRu sh P a s) (ht : t < 2) (hj : j < 100) : tw_wI (n, sh, P, I) 20 (a + 11 + t) (nI j) x = some (n, sh, P, tw_up I (a + 11 + t) j x) := e_wI (h.2.2 t ht).2.2.1 hj (by decide)
theorem r_r14 (h : pRu sh P a s) (ht : t < 2) (hj : j < 100) : tw_aI (n, sh, P, I) 20 (a + 14 + t) (nI j) = some (I (a + 14 + t) j) := e_aI (h.2.2 t ht).2.2.2.1 hj (by decide)
theorem r_x14 (h : pRu sh P a s) (ht : t < 2) (hj : j < 100) : tw_wI (n, sh, P, I) 20 (a + 14 + t) (nI j) x = some (n, sh, P, tw_up I (a + 14 + t) j x) := e_wI (h.2.2 t ht).2.2.2.1 hj (by decide)
theorem r_r17 (h : pRu sh P a s) (ht : t < 2) (hj : j < 5) : tw_aI (n, sh, P, I) 20 (a + 17 + t) (nI j) = some (I (a + 17 + t) j) := e_aI (h.2.2 t ht).2.2.2.2.1 hj (by decide)
theorem r_x17 (h : pRu sh P a s) (ht : t < 2) (hj : j < 5) : tw_wI (n, sh, P, I) 20 (a + 17 + t) (nI j) x = some (n, sh, P, tw_up I (a + 17 + t) j x) := e_wI (h.2.2 t ht).2.2.2.2.1 hj (by decide)
theorem r_r21 (h : pRu sh P a s) (ht : t < 2) (hj : j < 4) : tw_aI (n, sh, P, I) 20 (a + 21 + t) (nI j) = some (I (a + 21 + t) j) := e_aI (h.2.2 t ht).2.2.2.2.2 hj (by decide)
theorem r_x21 (h : pRu sh P a s) (ht : t < 2) (hj : j < 4) : tw_wI (n, sh, P, I) 20 (a + 21 + t) (nI j) x = some (n, sh, P, tw_up I (a + 21 + t) j x) := e_wI (h.2.2 t ht).2.2.2.2.2 hj (by decide)
theorem r_K (h : pRu sh P a s) (ht : t < 2) : tw_gI (n, sh, P, I) 2 (a + 2 + 3 * t) 0 = some (I (a + 2 + 3 * t) 0) := e_gI (h.2.2 t ht).2.1.1
theorem r_od (h : pRu sh P a s) (ht : t < 2) : tw_gP (n, sh, P, I) 2 (a + 2 + 3 * t) 2 = some (a + 2 + 3 * t + 1) := (e_gP (h.2.2 t ht).2.1.1).trans (h.2.2 t ht).2.1.2.1
theorem r_odj (h : pRu sh P a s) (ht : t < 2) (hj : j < 100) : tw_aI (n, sh, P, I) 20 (a + 2 + 3 * t + 1) (nI j) = some (I (a + 2 + 3 * t + 1) j) := e_aI (h.2.2 t ht).2.1.2.2.2.1 hj (by decide)
theorem r_sP1 {sw : Nat} (h : pSt sh P s sw) : tw_gP (n, sh, P, I) 6 s 1 = some (s + 2) := (e_gP h.2.1).trans h.2.2.2.1
theorem r_sP2 {sw : Nat} (h : pSt sh P s sw) : tw_gP (n, sh, P, I) 6 s 2 = some (s + 7) := (e_gP h.2.1).trans h.2.2.2.2.1
theorem r_sP0 {sw : Nat} (h : pSt sh P s sw) : tw_gP (n, sh, P, I) 6 s 0 = some (s + 1) := (e_gP h.2.1).trans h.2.2.1
theorem r_spg {sw : Nat} (h : pSt sh P s sw) (ht : t < 2) : tw_aP (n, sh, P, I) 25 (s + 2) (nI t) = some (pPg s sw t) := (e_aP h.2.2.2.2.2.2.1 ht (by decide)).trans (h.2.2.2.2.2.2.2.2 t ht).1
theorem r_sfv {sw : Nat} (h : pSt sh P s sw) (ht : t < 2) : tw_aP (n, sh, P, I) 23 (s + 7) (nI t) = some (pFv s sw t) := (e_aP h.2.2.2.2.2.2.2.1 ht (by decide)).trans (h.2.2.2.2.2.2.2.2 t ht).2.2.1
theorem r_sse {sw : Nat} (h : pSt sh P s sw) (hj : j < 3) : tw_aI (n, sh, P, I) 20 (s + 1) (nI j) = some (I (s + 1) j) := e_aI h.2.2.2.2.2.1 hj (by decide)
end TPU
/-- a run: steps, their starts and ends, waits, ready registers, rooms free at, their users, lengths -/
abbrev tp_R : Type := (Nat → Nat) × (Nat → Nat → Nat) × (Nat → Nat → Nat) × (Nat → Nat → Nat) × (Nat → Nat → Nat) × (Nat → Nat) × (Nat → Nat) × (Nat → Nat)
def tp_od (S : tp_S) (t j : Nat) : Nat := (tp_pn (S.2.2.1 t) (S.2.2.2 t) j).1
/-- field c of the order of step j -/
def tp_of (S : tp_S) (t j c : Nat) : Int32 := S.2.2.1 t (tp_od S t j) c
def tp_rdy (R : tp_R) (t : Nat) (x : Int32) (tick : Nat) : Bool := if x = -nI 6 then true else decide (R.2.2.2.2.1 t (tp_n x) ≤ tick)
def tp_hind (S : tp_S) (K : Nat → Nat) (R : tp_R) (wo t tick : Nat) : Nat :=
  if R.1 t < K t then
    (if tp_rdy R t (tp_of S t (R.1 t) 1) tick = true ∧ tp_rdy R t (tp_of S t (R.1 t) 2) tick = true ∧ tp_rdy R t (tp_of S t (R.1 t) 3) tick = true then
      (if tp_room (tp_of S t (R.1 t) 0) = 2 ∨ tp_room (tp_of S t (R.1 t) 0) = wo ∨ R.2.2.2.2.2.1 (tp_room (tp_of S t (R.1 t) 0)) ≤ tick then 0
       else if R.2.2.2.2.2.2.1 (tp_room (tp_of S t (R.1 t) 0)) = t then 2 else 3)
     else 1)
  else 5
def tp_lt (R : tp_R) (x y : Nat) : Bool := decide (0 < R.1 y) && (decide (R.1 x = 0) || decide (R.2.1 x (R.1 x - 1) < R.2.1 y (R.1 y - 1)))
def tp_starter (R : tp_R) (turns tick : Nat) (h : Nat → Nat) : Nat :=
  if h (tick % 2) = 0 then (if h (1 - tick % 2) = 0 ∧ turns = 2 ∧ tp_lt R (1 - tick % 2) (tick % 2) = true then 1 - tick % 2 else tick % 2)
  else if h (1 - tick % 2) = 0 ∧ turns ≠ 0 then 1 - tick % 2 else 2
def tp_wait (K : Nat → Nat) (R : tp_R) (h : Nat → Nat) (st t : Nat) : tp_R :=
  if t ≠ st ∧ R.1 t < K t then (R.1, R.2.1, R.2.2.1, tw_up R.2.2.2.1 t (if h t = 0 then 4 else h t) (R.2.2.2.1 t (if h t = 0 then 4 else h t) + 1), R.2.2.2.2) else R
def tp_dur (S : tp_S) (r : Nat) : Nat := if r = 0 then S.1 1 else if r = 1 then S.1 2 else 1
def tp_gives (S : tp_S) (t j : Nat) : Bool := !(decide (tp_of S t j 0 = nI 5) || decide (tp_of S t j 0 = nI 6))
def tp_start (S : tp_S) (R : tp_R) (t tick : Nat) : tp_R :=
  (tp_u R.1 t (R.1 t + 1), tw_up R.2.1 t (R.1 t) tick, tw_up R.2.2.1 t (R.1 t) (tick + tp_dur S (tp_room (tp_of S t (R.1 t) 0))), R.2.2.2.1,
   (if tp_gives S t (R.1 t) = true then tw_up R.2.2.2.2.1 t (tp_n (tp_of S t (R.1 t) 1)) (tick + tp_dur S (tp_room (tp_of S t (R.1 t) 0))) else R.2.2.2.2.1),
   (if tp_room (tp_of S t (R.1 t) 0) = 2 then R.2.2.2.2.2.1 else tp_u R.2.2.2.2.2.1 (tp_room (tp_of S t (R.1 t) 0)) (tick + tp_dur S (tp_room (tp_of S t (R.1 t) 0)))),
   (if tp_room (tp_of S t (R.1 t) 0) = 2 then R.2.2.2.2.2.2.1 else tp_u R.2.2.2.2.2.2.1 (tp_room (tp_of S t (R.1 t) 0)) t),
   tp_u R.2.2.2.2.2.2.2 t (if R.2.2.2.2.2.2.2 t < tick + tp_dur S (tp_room (tp_of S t (R.1 t) 0)) then tick + tp_dur S (tp_room (tp_of S t (R.1 t) 0)) else R.2.2.2.2.2.2.2 t))
def tp_tick (S : tp_S) (K : Nat → Nat) (wo turns tick : Nat) (R : tp_R) : tp_R :=
  let h := fun t => tp_hind S K R wo t tick
  let st := tp_starter R turns tick h
  let R2 := tp_wait K (tp_wait K R h st 0) h st 1
  if st = 2 then R2 else tp_start S R2 st tick
def tp_R0 : tp_R := (fun _ => 0, fun _ _ => 0, fun _ _ => 0, fun _ _ => 0, fun _ _ => 0, fun _ => 0, fun _ => 0, fun _ => 0)
/-- what a run's own cells hold; K: how many steps each path has -/
def pFo (I : Nat → Nat → Int32) (a : Nat) (S : tp_S) (K : Nat → Nat) : Prop := ∀ t, t < 2 → pK (S.2.1 t) (S.2.2.1 t) (S.2.2.2 t) (K t) ∧ I (a + 2 + 3 * t) 0 = nI (K t) ∧ I (a + 2 + 3 * t) 1 = nI (if tp_od S t (K t) < S.2.1 t then 1 else 0) ∧ (∀ j, j < K t → I (a + 2 + 3 * t + 1) j = nI (tp_od S t j)) ∧ ∀ j, j < 12 → I (a + 2 + 3 * t + 2) j = nI ((tp_pn (S.2.2.1 t) (S.2.2.2 t) (K t)).2 j)
def pRI (I : Nat → Nat → Int32) (a : Nat) (R : tp_R) : Prop := ∀ t, t < 2 → I (a + 8) t = nI (R.1 t) ∧ I (a + 9) t = nI (R.2.2.2.2.2.2.2 t) ∧ (∀ j, j < R.1 t → I (a + 11 + t) j = nI (R.2.1 t j) ∧ I (a + 14 + t) j = nI (R.2.2.1 t j)) ∧ (∀ k, 1 ≤ k → k < 5 → I (a + 17 + t) k = nI (R.2.2.2.1 t k)) ∧ (∀ r, r < 4 → I (a + 21 + t) r = nI (R.2.2.2.2.1 t r)) ∧ I (a + 23) t = nI (R.2.2.2.2.2.1 t) ∧ (0 < R.2.2.2.2.2.1 t → I (a + 24) t = nI (R.2.2.2.2.2.2.1 t))
/-- how large its numbers are at the head of a tick -/
def pRB (K : Nat → Nat) (R : tp_R) (tick : Nat) : Prop := ∀ t, t < 2 → R.1 t ≤ K t ∧ R.2.2.2.2.2.2.2 t ≤ tick + 9 ∧ (∀ j, j < R.1 t → R.2.1 t j < tick ∧ R.2.2.1 t j ≤ tick + 9) ∧ (∀ k, R.2.2.2.1 t k ≤ tick) ∧ (∀ r, r < 4 → R.2.2.2.2.1 t r ≤ tick + 9) ∧ R.2.2.2.2.2.1 t ≤ tick + 9 ∧ R.2.2.2.2.2.2.1 t < 2
