section TPV
variable {n : Nat} {sh : tw_Sh} {P : Nat → Nat → Option Nat} {I : Nat → Nat → Int32} {m t k ab tick wo turns : Nat} {S : tp_S} {K : Nat → Nat} {R : tp_R} {tau : Nat → Nat}
def tp_lat1 (R : tp_R) (t : Nat) : Int32 := if R.1 t = 0 then -nI 1 else nI (R.2.1 t (R.1 t - 1))
theorem q_latest (hm : pMo sh P m) (hK : pMK S K ab) (hB : pRw K R tick) (hG : pMG I m S K R ab tau) (ht : t < 2) : fX8_latest (n, sh, P, I) m (nI t) = some (tp_lat1 R t) := by
  obtain ⟨g1, -, g3, -⟩ := hG t ht
  have hb := (hB t ht).1
  have hk := (hK t ht).1
  unfold fX8_latest tp_lat1
  rw [tp_1, tp_0, show (100 : Int32) = nI 100 from rfl]
  simp (disch := omega) only [q_is hm, q_P17 hm, q_a13 hm, g1, nI_eq, Option.bind_some]
  by_cases e : R.1 t = 0
  · rw [if_pos e, if_pos e]
  · rw [if_neg e, if_neg e]
    have h1 := (g3 (R.1 t - 1) (by omega)).1
    rw [show (nI 100 * nI t + nI (R.1 t)) - nI 1 = nI (100 * t + (R.1 t - 1)) by rw [pk_mul, nI_add, pk_sub (by omega)]; congr 1; omega]
    simp (disch := omega) only [q_P13 hm, q_a9 hm, h1, Option.bind_some]
theorem tp_lat1_le (hB : pRw K R tick) (hk : tick ≤ 4096) {x y : Nat} (hx : x < 2) (hy : y < 2) : (tp_lat1 R x ≤ tp_lat1 R y) ↔ ¬ tp_lt R y x = true := by
  have bx := hB x hx
  have by' := hB y hy
  have m6 : ∀ k, k < 5000 → (-nI 1 ≤ nI k) ∧ ¬ (nI k ≤ -nI 1) := by
    intro k hk
    rw [Int32.le_iff_toInt_le, Int32.le_iff_toInt_le, nI_toInt (by omega), show (-nI 1).toInt = -1 by decide]
    omega
  unfold tp_lat1 tp_lt
  by_cases ex : R.1 x = 0
  · rw [if_pos ex]
    have : ¬ (0 < R.1 x) := by omega
    simp only [decide_eq_false this, Bool.false_and, Bool.false_eq_true, not_false_eq_true, iff_true]
    by_cases ey : R.1 y = 0
    · rw [if_pos ey]; exact Int32.le_refl _
    · rw [if_neg ey]
      have := (by'.2.2.1 (R.1 y - 1) (by omega)).1
      exact (m6 _ (by omega)).1
  · have hx1 := (bx.2.2.1 (R.1 x - 1) (by omega)).1
    rw [if_neg ex]
    simp only [decide_eq_true (show 0 < R.1 x by omega), Bool.true_and, Bool.or_eq_true, decide_eq_true_eq]
    by_cases ey : R.1 y = 0
    · rw [if_pos ey]
      exact ⟨fun h => absurd h (m6 _ (by omega)).2, fun h => absurd (Or.inl ey) h⟩
    · have hy1 := (by'.2.2.1 (R.1 y - 1) (by omega)).1
      rw [if_neg ey, nI_leI (by omega) (by omega)]
      omega
theorem q_starter (hm : pMo sh P m) (hok : pSok S) (hS : pMS I (m + 1) 0 S) (hK : pMK S K ab) (hB : pRw K R tick) (hG : pMG I m S K R ab tau) (hE : pMI S R) (hk : tick ≤ 4096) (hwo : wo < 3) (htu : turns ≤ 2) : fX8_starter (n, sh, P, I) m (nI tick) (nI turns) (tp_rI wo) = some (tp_rI (tp_starter R turns tick (fun t => tp_hind S K R wo t tick))) := by
  have hx : tick % 2 < 2 := by omega
  have hy : 1 - tick % 2 < 2 := by omega
  have hrI : ∀ q, q < 2 → nI q = tp_rI q := fun q hq => by unfold tp_rI; rw [if_neg (by omega)]
  have h103 : ∀ c1 c2 : Nat, c1 < 2 → c2 < 2 → fX8_starter_b103 (n, sh, P, I) (nI turns) (nI (tick % 2)) (nI (1 - tick % 2)) (nI c1) (nI c2) = some (tp_rI (if c1 = 1 then tick % 2 else if c2 = 1 ∧ turns ≠ 0 then 1 - tick % 2 else 2)) := by
    intro c1 c2 h1 h2
    unfold fX8_starter_b103
    rw [tp_0]
    simp (disch := omega) only [nI_eq, nI_leI]
    (repeat' split) <;> first | (exfalso; omega) | rfl | exact congrArg some (hrI _ hx) | exact congrArg some (hrI _ hy)
  have h63 : ∀ c1 c2 : Nat, c1 < 2 → c2 < 2 → fX8_starter_b63 (n, sh, P, I) m (nI turns) (nI (tick % 2)) (nI (1 - tick % 2)) (nI c1) (nI c2) = some (tp_rI (if c1 = 1 then (if c2 = 1 ∧ turns = 2 ∧ tp_lt R (1 - tick % 2) (tick % 2) = true then 1 - tick % 2 else tick % 2) else if c2 = 1 ∧ turns ≠ 0 then 1 - tick % 2 else 2)) := by
    intro c1 c2 h1 h2
    have hl0 := q_latest (n := n) hm hK hB hG hx
    have hl1 := q_latest (n := n) hm hK hB hG hy
    have h3 := h103 c1 c2 h1 h2
    unfold fX8_starter_b63
    rw [tp_0, show (2 : Int32) = nI 2 from rfl, h3]
    simp (disch := omega) only [nI_eq]
    by_cases e1 : turns = 2
    · rw [if_pos e1]
      by_cases e2 : c1 = 0
      · rw [if_pos e2, if_neg (show ¬ c1 = 1 by omega), if_neg (show ¬ c1 = 1 by omega)]
      · rw [if_neg e2, if_pos (show c1 = 1 by omega), if_pos (show c1 = 1 by omega)]
        by_cases e3 : c2 = 0
        · rw [if_pos e3, if_neg (by omega)]
        · rw [if_neg e3, hl1, Option.bind_some, hl0, Option.bind_some]
          by_cases e4 : tp_lt R (1 - tick % 2) (tick % 2) = true
          · rw [if_neg (fun z => ((tp_lat1_le hB hk hx hy).mp z) e4), if_pos ⟨by omega, e1, e4⟩, hrI _ hy]
          · rw [if_pos ((tp_lat1_le hB hk hx hy).mpr e4), if_neg (fun z => e4 z.2.2), hrI _ hx]
    · rw [if_neg e1]
      by_cases e2 : c1 = 1
      · rw [if_pos e2, if_pos e2, if_neg (fun z => e1 z.2.1)]
      · rw [if_neg e2, if_neg e2]
  have hcan : ∀ t, t < 2 → ∀ (A B : Option Int32), ((fX8_isOpen (n, sh, P, I) m (nI t)).bind fun v => if v = 0 then A else (fX8_whyNot (n, sh, P, I) m (nI t) (nI tick) (tp_rI wo)).bind fun w => if w = 0 then B else A) = if tp_hind S K R wo t tick = 0 then B else A := by
    intro t ht A B
    rw [q_isOpen hm hok hS hK hB hG ht, Option.bind_some, tp_0]
    have h6 := tp_hind_lt S K R wo t tick
    by_cases e : R.1 t < K t
    · rw [if_pos e, if_neg (by decide), q_whyNot hm hok hS hK hB hG hE hk hwo ht e, Option.bind_some]
      simp (disch := omega) only [nI_eq]
    · rw [if_neg e, if_pos rfl, if_neg (fun z => e (tp_hind_0 z))]
  have h36 : ∀ c1 : Nat, c1 < 2 → fX8_starter_b36 (n, sh, P, I) m (nI tick) (nI turns) (tp_rI wo) (nI (tick % 2)) (nI (1 - tick % 2)) (nI c1) = fX8_starter_b63 (n, sh, P, I) m (nI turns) (nI (tick % 2)) (nI (1 - tick % 2)) (nI c1) (nI (if tp_hind S K R wo (1 - tick % 2) tick = 0 then 1 else 0)) := by
    intro c1 h1
    unfold fX8_starter_b36 fX8_starter_b62
    rw [hcan _ hy]
    split <;> rfl
  unfold fX8_starter fX8_starter_b35
  rw [q_is hm, Option.bind_some, show (2 : Int32) = nI 2 from rfl, tp_1, tp_rem (by omega) (by decide) (by decide), pk_sub (by omega), hcan _ hx]
  rw [show (0 : Int32) = nI 0 from rfl, h36 1 (by decide), h36 0 (by decide), h63 1 _ (by decide) (tp_b01 _), h63 0 _ (by decide) (tp_b01 _)]
  unfold tp_starter
  dsimp only
  by_cases e1 : tp_hind S K R wo (tick % 2) tick = 0
  · rw [if_pos e1, if_pos e1, if_pos rfl]
    by_cases e2 : tp_hind S K R wo (1 - tick % 2) tick = 0
    · rw [if_pos e2]; simp [e2]
    · rw [if_neg e2]; simp [e2]
  · rw [if_neg e1, if_neg e1, if_neg (by decide)]
    by_cases e2 : tp_hind S K R wo (1 - tick % 2) tick = 0
    · rw [if_pos e2]; simp [e2]
    · rw [if_neg e2]; simp [e2]
theorem q_value (hm : pMo sh P m) {v : Nat → Nat} (hv : ∀ j, j < 12 → I (m + 7) (12 * t + j) = nI (v j)) (ht : t < 2) {j : Nat} (hj : j < 12) : fX8_value (n, sh, P, I) m (nI t) (nI j) = some (nI (v j)) := by
  have := hv j hj
  unfold fX8_value
  rw [show (12 : Int32) = nI 12 from rfl]
  simp (disch := omega) only [q_is hm, q_P11 hm, pk_mul, nI_add, q_a7 hm, this, Option.bind_some]
theorem q_does (hm : pMo sh P m) (hok : pSok S) (hS : pMS I (m + 1) 0 S) (ht : t < 2) (hk : k < S.2.1 t) {v : Nat → Nat} (hv : ∀ j, j < 12 → I (m + 7) (12 * t + j) = nI (v j)) (hv2 : ∀ j, j < 12 → v j < 1000) :
    ∃ I', fX8_does (n, sh, P, I) m (nI t) (nI k) = some (nI (tp_step (S.2.2.1 t) v k).1, (n, sh, P, I')) ∧ (∀ j, j < 12 → I' (m + 7) (12 * t + j) = nI ((tp_step (S.2.2.1 t) v k).2 j)) ∧ (∀ j, (j < 12 * t ∨ 12 * t + 12 ≤ j) → I' (m + 7) j = I (m + 7) j) ∧ ∀ c, c ≠ m + 7 → I' c = I c := by
  have hz : ∀ t, t < 2 → S.2.1 t ≤ 12 := fun t ht => (hok.2.2.2 t ht).1
  have h12 := hz t ht
  have t0 := q_of (n := n) (c := 0) hm hS hz ht hk (by decide)
  have t1 := q_of (n := n) (c := 1) hm hS hz ht hk (by decide)
  have t2 := q_of (n := n) (c := 2) hm hS hz ht hk (by decide)
  have t3 := q_of (n := n) (c := 3) hm hS hz ht hk (by decide)
  have t4 := q_of (n := n) (c := 4) hm hS hz ht hk (by decide)
  have hval := fun j hj => q_value (n := n) (t := t) (j := j) hm hv ht hj
  have hfin : ∀ (r x : Nat), r < 12 → ∃ I', some (nI (k + 1), ((n, sh, P, tw_up I (m + 7) (12 * t + r) (nI x)) : tw_St)) = some (nI (k + 1), (n, sh, P, I')) ∧ (∀ j, j < 12 → I' (m + 7) (12 * t + j) = nI (tp_u v r x j)) ∧ (∀ j, (j < 12 * t ∨ 12 * t + 12 ≤ j) → I' (m + 7) j = I (m + 7) j) ∧ ∀ c, c ≠ m + 7 → I' c = I c := by
    intro r x hr
    refine ⟨_, rfl, fun j hj => ?_, fun j hj => tw_up_k (by omega), fun c hc => tw_up_a hc⟩
    unfold tp_u
    by_cases e : j = r
    · rw [if_pos e, e, tw_up_at]
    · rw [if_neg e, tw_up_k (by omega), hv j hj]
  unfold fX8_does fX8_does_b275 tp_step
  rw [show (4 : Int32) = nI 4 from rfl, show (0 : Int32) = nI 0 from rfl, tp_1, show (2 : Int32) = nI 2 from rfl, show (3 : Int32) = nI 3 from rfl, show (5 : Int32) = nI 5 from rfl, show (12 : Int32) = nI 12 from rfl, show (8 : Int32) = nI 8 from rfl, show (1000 : Int32) = nI 1000 from rfl]
  rcases (hok.2.2.2 t ht).2.1 k hk with ⟨r, w, hr, hw, h0, h1, h2, h3, h4⟩ | ⟨q, r, x, y, hq, hr, hx, hy, h0, h1, h2, h3, h4⟩ | ⟨q, r, x, hq, hr, hx, h0, h1, h2, h3, h4⟩ | ⟨r, w, hr, hw, h0, h1, h2, h3, h4⟩
  · rw [h0] at t0; rw [h1] at t1; rw [h2] at t2; rw [h3] at t3; rw [h4] at t4
    rw [h0, h1, h4]
    rw [q_is hm, Option.bind_some, t0, Option.bind_some, t1, Option.bind_some, t2, Option.bind_some, t3, Option.bind_some, if_pos rfl]
    simp (disch := omega) only [t4, q_P11 hm, hval, tp_sub1000, pk_mul, nI_add, tp_rem, q_w7 hm, Option.bind_some, tp_n_nI, if_true]
    exact hfin r w (by omega)
  · rw [h0] at t0; rw [h1] at t1; rw [h2] at t2; rw [h3] at t3
    have hvx := hv2 x (by omega)
    have hvy := hv2 y (by omega)
    have hmul : v x * v y < 2 ^ 31 := Nat.lt_of_le_of_lt (Nat.mul_le_mul (show v x ≤ 1000 by omega) (show v y ≤ 1000 by omega)) (by decide)
    rw [h0, h1, h2, h3]
    rcases hq with rfl | rfl | rfl
    · rw [q_is hm, Option.bind_some, t0, Option.bind_some, t1, Option.bind_some, t2, Option.bind_some, t3, Option.bind_some, if_neg (show ¬ nI 1 = nI 0 by decide), if_pos rfl]
      simp (disch := omega) only [q_P11 hm, hval, tp_sub1000, pk_mul, nI_add, tp_rem, q_w7 hm, Option.bind_some, tp_n_nI, if_true, if_neg]
      exact hfin r _ (by omega)
    · rw [q_is hm, Option.bind_some, t0, Option.bind_some, t1, Option.bind_some, t2, Option.bind_some, t3, Option.bind_some, if_neg (show ¬ nI 2 = nI 0 by decide), if_neg (show ¬ nI 2 = nI 1 by decide), if_pos rfl]
      simp (disch := omega) only [q_P11 hm, hval, tp_sub1000, pk_mul, nI_add, tp_rem, q_w7 hm, Option.bind_some, tp_n_nI, if_true, if_neg]
      exact hfin r _ (by omega)
    · rw [q_is hm, Option.bind_some, t0, Option.bind_some, t1, Option.bind_some, t2, Option.bind_some, t3, Option.bind_some, if_neg (show ¬ nI 3 = nI 0 by decide), if_neg (show ¬ nI 3 = nI 1 by decide), if_neg (show ¬ nI 3 = nI 2 by decide), if_pos rfl]
      simp (disch := omega) only [q_P11 hm, hval, tp_sub1000, pk_mul, nI_add, tp_rem, q_w7 hm, Option.bind_some, tp_n_nI, if_true, if_neg]
      exact hfin r _ (by omega)
  · rw [h0] at t0; rw [h1] at t1; rw [h2] at t2; rw [h3] at t3
    have hvx := hv2 x (by omega)
    have hvr := hv2 r (by omega)
    rw [h0, h1, h2]
    rcases hq with rfl | rfl
    · rw [q_is hm, Option.bind_some, t0, Option.bind_some, t1, Option.bind_some, t2, Option.bind_some, t3, Option.bind_some, if_neg (show ¬ nI 4 = nI 0 by decide), if_neg (show ¬ nI 4 = nI 1 by decide), if_neg (show ¬ nI 4 = nI 2 by decide), if_neg (show ¬ nI 4 = nI 3 by decide), if_pos rfl]
      simp (disch := omega) only [q_P11 hm, hval, tp_sub1000, pk_mul, nI_add, tp_rem, q_w7 hm, Option.bind_some, tp_n_nI, if_true, if_neg]
      exact hfin r _ (by omega)
    · rw [q_is hm, Option.bind_some, t0, Option.bind_some, t1, Option.bind_some, t2, Option.bind_some, t3, Option.bind_some, if_neg (show ¬ nI 5 = nI 0 by decide), if_neg (show ¬ nI 5 = nI 1 by decide), if_neg (show ¬ nI 5 = nI 2 by decide), if_neg (show ¬ nI 5 = nI 3 by decide), if_neg (show ¬ nI 5 = nI 4 by decide), if_pos rfl]
      simp (disch := omega) only [q_P11 hm, hval, tp_sub1000, pk_mul, nI_add, tp_rem, q_w7 hm, Option.bind_some, tp_n_nI, if_true, if_neg]
      rw [Nat.add_assoc]
      exact hfin _ _ (by omega)
  · rw [h0] at t0; rw [h1] at t1; rw [h2] at t2; rw [h3] at t3; rw [h4] at t4
    rw [h0, h1, h4]
    rw [q_is hm, Option.bind_some, t0, Option.bind_some, t1, Option.bind_some, t2, Option.bind_some, t3, Option.bind_some, if_neg (show ¬ nI 6 = nI 0 by decide), if_neg (show ¬ nI 6 = nI 1 by decide), if_neg (show ¬ nI 6 = nI 2 by decide), if_neg (show ¬ nI 6 = nI 3 by decide), if_neg (show ¬ nI 6 = nI 4 by decide), if_neg (show ¬ nI 6 = nI 5 by decide)]
    have hvr := hv2 r (by omega)
    simp (disch := omega) only [t4, hval, nI_eq, nI_add, Option.bind_some, tp_n_nI, if_neg]
    by_cases e : v r = 0
    · rw [if_pos e, if_pos e]
      exact ⟨I, rfl, hv, fun _ _ => rfl, fun _ _ => rfl⟩
    · rw [if_neg e, if_neg e]
      exact ⟨I, rfl, hv, fun _ _ => rfl, fun _ _ => rfl⟩
end TPV
