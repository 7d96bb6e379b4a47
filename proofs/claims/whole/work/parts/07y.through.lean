/-! The reference's whole run is tp_run. -/
theorem tp_mx_eq {R R' : tp_R} {t : Nat} : ∀ (k : Nat), (∀ j, j < k → R'.2.2.1 t j = R.2.2.1 t j) → tp_mx R' t k = tp_mx R t k
  | 0, _ => rfl
  | k + 1, h => by
    unfold tp_mx
    rw [tp_mx_eq k (fun j hj => h j (by omega)), h k (by omega)]
theorem pMI.wt {S : tp_S} {R : tp_R} (h : pMI S R) (w : Nat → Nat → Nat) : pMI S (R.1, R.2.1, R.2.2.1, w, R.2.2.2.2) := fun t ht => ⟨(h t ht).1, (h t ht).2.trans (tp_mx_eq _ (fun _ _ => rfl))⟩
theorem pMI.start {S : tp_S} {R : tp_R} (h : pMI S R) (t tick : Nat) : pMI S (tp_start S R t tick) := by
  intro t' ht'
  obtain ⟨h1, h2⟩ := h t' ht'
  have n2 : ∀ j, (tp_start S R t tick).2.1 t' j = if t' = t ∧ j = R.1 t then tick else R.2.1 t' j := fun _ => rfl
  have n3 : ∀ j, (tp_start S R t tick).2.2.1 t' j = if t' = t ∧ j = R.1 t then tick + tp_dur S (tp_room (tp_of S t (R.1 t) 0)) else R.2.2.1 t' j := fun _ => rfl
  by_cases e : t' = t
  · subst e
    have n1 : (tp_start S R t' tick).1 t' = R.1 t' + 1 := by show tp_u R.1 t' (R.1 t' + 1) t' = _; unfold tp_u; rw [if_pos rfl]
    refine ⟨fun j hj => ?_, ?_⟩
    · rw [n1] at hj
      rw [n2, n3]
      by_cases ej : j = R.1 t'
      · rw [if_pos ⟨rfl, ej⟩, if_pos ⟨rfl, ej⟩, ej]
      · rw [if_neg (fun z => ej z.2), if_neg (fun z => ej z.2)]
        exact h1 j (by omega)
    · rw [n1]
      have h3 : tp_mx (tp_start S R t' tick) t' (R.1 t') = tp_mx R t' (R.1 t') := tp_mx_eq _ (fun j hj => by rw [n3, if_neg (fun z => by omega)])
      show tp_u R.2.2.2.2.2.2.2 t' _ t' = if tp_mx (tp_start S R t' tick) t' (R.1 t') < (tp_start S R t' tick).2.2.1 t' (R.1 t') then (tp_start S R t' tick).2.2.1 t' (R.1 t') else tp_mx (tp_start S R t' tick) t' (R.1 t')
      have n3' : (tp_start S R t' tick).2.2.1 t' (R.1 t') = tick + tp_dur S (tp_room (tp_of S t' (R.1 t') 0)) := by rw [n3, if_pos ⟨rfl, rfl⟩]
      rw [h3, n3', ← h2]
      unfold tp_u
      rw [if_pos rfl]
  · have n1 : (tp_start S R t tick).1 t' = R.1 t' := by show tp_u R.1 t (R.1 t + 1) t' = _; unfold tp_u; rw [if_neg e]
    refine ⟨fun j hj => ?_, ?_⟩
    · rw [n1] at hj
      rw [n2, n3, if_neg (fun z => e z.1), if_neg (fun z => e z.1)]
      exact h1 j hj
    · rw [n1, tp_mx_eq (R := R) _ (fun j hj => by rw [n3, if_neg (fun z => e z.1)]), ← h2]
      show tp_u R.2.2.2.2.2.2.2 t _ t' = _
      unfold tp_u
      rw [if_neg e]
theorem pMI.tick {S : tp_S} {K : Nat → Nat} {R : tp_R} (h : pMI S R) (wo turns tick : Nat) : pMI S (tp_tick S K wo turns tick R) := by
  unfold tp_tick
  dsimp only
  generalize tp_starter R turns tick (fun t => tp_hind S K R wo t tick) = st
  obtain ⟨w, ew, -⟩ := tp_wait2 (K := K) R (fun t => tp_hind S K R wo t tick) st
  rw [ew]
  split
  · exact h.wt w
  · exact (h.wt w).start st tick
theorem pMI_0 {S : tp_S} : pMI S tp_R0 := fun t ht => ⟨fun j hj => absurd hj (Nat.not_lt_zero j), rfl⟩
theorem pRB.tick {S : tp_S} {K : Nat → Nat} {R : tp_R} {wo turns tick : Nat} (hok : pSok S) (hB : pRB K R tick) : pRB K (tp_tick S K wo turns tick R) (tick + 1) := by
  unfold tp_tick
  dsimp only
  generalize hst : tp_starter R turns tick (fun t => tp_hind S K R wo t tick) = st
  obtain ⟨w, ew, hw⟩ := tp_wait2 (K := K) R (fun t => tp_hind S K R wo t tick) st
  have hwb : ∀ t, t < 2 → ∀ k, w t k ≤ tick + 1 := fun t ht k => Nat.le_trans (hw t k) (Nat.succ_le_succ ((hB t ht).2.2.2.1 k))
  rw [ew]
  by_cases e : st = 2
  · rw [if_pos e]; exact hB.more.wt hwb
  · rw [if_neg e]
    have hlt : st < 3 := by rw [← hst]; exact tp_starter_lt _ _ _ _
    have hcan := @tp_starter_can R turns tick (fun t => tp_hind S K R wo t tick)
    rw [hst] at hcan
    have := hB.start (tick := tick) hok (show st < 2 by omega) (tp_hind_0 (hcan e))
    exact pRB.wt this hwb
section TPY
variable {n : Nat} {sh : tw_Sh} {P : Nat → Nat → Option Nat} {I : Nat → Nat → Int32} {m t k ab tick wo turns : Nat} {S : tp_S} {K : Nat → Nat} {R : tp_R} {tau : Nat → Nat}
theorem pMG.tau' {tau' : Nat → Nat} (h : pMG I m S K R ab tau) (e : ∀ t, t < 2 → tau t = tau' t) : pMG I m S K R ab tau' := by
  intro t ht
  obtain ⟨h1, h2, h3, h4, h5, h6, p, h7, h8⟩ := h t ht
  exact ⟨h1, h2, h3, h4, h5, h6, p, h7, by rw [← e t ht]; exact h8⟩
theorem q_tick (k183 : (tw_St → Nat → Int32 → Int32 → Int32 → Option (Int32 × tw_St))) (hm : pMo sh P m) (hok : pSok S) (hS : pMS I (m + 1) 0 S) (hK : pMK S K ab) (hB : pRw K R tick) (hG : pMG I m S K R ab (fun _ => tick)) (hE : pMI S R) (hk : tick ≤ 4096) (hwo : wo < 3) (htu : turns ≤ 2) :
    ∃ I', fX8_goThrough_b199 k183 (n, sh, P, I) m (nI turns) (tp_rI wo) (nI tick) = k183 (n, sh, P, I') m (nI turns) (tp_rI wo) (nI (tick + 1)) ∧ pMG I' m S K (tp_tick S K wo turns tick R) ab (fun _ => tick + 1) ∧ ∀ c, (c < m + 7 ∨ m + 19 ≤ c) → I' c = I c := by
  unfold fX8_goThrough_b199
  rw [q_starter hm hok hS hK hB hG hE hk hwo htu, Option.bind_some]
  have htick : tp_tick S K wo turns tick R = if tp_starter R turns tick (fun t => tp_hind S K R wo t tick) = 2 then tp_wait K (tp_wait K R (fun t => tp_hind S K R wo t tick) (tp_starter R turns tick (fun t => tp_hind S K R wo t tick)) 0) (fun t => tp_hind S K R wo t tick) (tp_starter R turns tick (fun t => tp_hind S K R wo t tick)) 1 else tp_start S (tp_wait K (tp_wait K R (fun t => tp_hind S K R wo t tick) (tp_starter R turns tick (fun t => tp_hind S K R wo t tick)) 0) (fun t => tp_hind S K R wo t tick) (tp_starter R turns tick (fun t => tp_hind S K R wo t tick)) 1) (tp_starter R turns tick (fun t => tp_hind S K R wo t tick)) tick := rfl
  rw [htick]
  have hlt : tp_starter R turns tick (fun t => tp_hind S K R wo t tick) < 3 := tp_starter_lt _ _ _ _
  have hcan := @tp_starter_can R turns tick (fun t => tp_hind S K R wo t tick)
  generalize tp_starter R turns tick (fun t => tp_hind S K R wo t tick) = st at *
  obtain ⟨I1, e1, g1, f1⟩ := q_wait (n := n) k183 (nI turns) hm hok hS hK hB hG hE hk hwo (show 0 < 2 by decide) hlt rfl (99997 + 1 + 1)
  obtain ⟨w1, ew1, -, -⟩ := tp_wait1 (K := K) R (fun t => tp_hind S K R wo t tick) st 0
  rw [ew1] at g1 ⊢
  have hh : (fun t => tp_hind S K (R.1, R.2.1, R.2.2.1, w1, R.2.2.2.2) wo t tick) = (fun t => tp_hind S K R wo t tick) := rfl
  obtain ⟨I2, e2, g2, f2⟩ := q_wait (n := n) k183 (nI turns) hm hok (hS.keep (f1 _ (by omega))) hK (hB.wt w1) g1 (hE.wt w1) hk hwo (show 1 < 2 by decide) hlt (by rw [if_neg (fun z => absurd z.1 (by decide))]) (99997 + 1)
  rw [hh] at g2
  obtain ⟨w2, ew2, -, -⟩ := tp_wait1 (K := K) (R.1, R.2.1, R.2.2.1, w1, R.2.2.2.2) (fun t => tp_hind S K R wo t tick) st 1
  rw [ew2] at g2 ⊢
  have hloop : fX8_goThrough_l212 k183 tw_F (n, sh, P, I) m (nI turns) (tp_rI wo) (nI tick) (tp_rI st) 0 = fX8_goThrough_b276 k183 (n, sh, P, I2) m (nI turns) (tp_rI wo) (nI tick) (tp_rI st) := by
    rw [show tw_F = 99997 + 1 + 1 + 1 from rfl, tp_0, e1, e2]
    show fX8_goThrough_h212 k183 (fX8_goThrough_l212 k183 99997) (n, sh, P, I2) m (nI turns) (tp_rI wo) (nI tick) (tp_rI st) (nI 2) = _
    unfold fX8_goThrough_h212
    rw [if_pos (by decide)]
  rw [hloop]
  unfold fX8_goThrough_b276 fX8_goThrough_b289
  have f2' : ∀ c, c ≠ m + 16 → I2 c = I c := fun c hc => by rw [f2 c hc, f1 c hc]
  by_cases e : st = 2
  · rw [if_pos (show tp_rI st < 0 by rw [e]; decide), if_pos e]
    refine ⟨I2, by rw [tp_1, nI_add], g2.tau' (fun t ht => ?_), fun c hc => f2' c (by omega)⟩
    rcases (show t = 0 ∨ t = 1 by omega) with rfl | rfl
    · rw [if_neg (fun z => absurd z.1 (by decide)), if_pos ⟨rfl, by omega⟩]
    · rw [if_pos ⟨rfl, by omega⟩, if_neg (fun z => absurd z.1 (by decide))]
  · have hst2 : st < 2 := by omega
    have hri : tp_rI st = nI st := by unfold tp_rI; rw [if_neg e]
    rw [hri, if_neg (show ¬ nI st < 0 from nI_neg (by omega)), if_neg e]
    have hsince : tp_since R st ≤ tick := tp_since_le hB hst2
    obtain ⟨I3, e3, g3, f3⟩ := q_begin (n := n) (tb := tick) hm hok (hS.keep (f2' _ (by omega))) hK ((hB.wt w1).wt w2) (by omega) g2 hk hst2 (tp_hind_0 (hcan e)) (by
      rcases (show st = 0 ∨ st = 1 by omega) with rfl | rfl
      · rw [if_neg (fun z => absurd z.1 (by decide)), if_neg (fun z => z.2 rfl)]
      · rw [if_neg (fun z => z.2 rfl), if_neg (fun z => absurd z.1 (by decide))]) hsince
    rw [e3, Option.bind_some]
    refine ⟨I3, by rw [tp_1, nI_add], g3.tau' (fun t ht => ?_), fun c hc => by rw [f3 c hc, f2' c (by omega)]⟩
    by_cases et : t = st
    · rw [if_pos et]
    · rw [if_neg et]
      rcases (show t = 0 ∨ t = 1 by omega) with rfl | rfl
      · rw [if_neg (fun z => absurd z.1 (by decide)), if_pos ⟨rfl, et⟩]
      · rw [if_pos ⟨rfl, et⟩, if_neg (fun z => absurd z.1 (by decide))]
end TPY
