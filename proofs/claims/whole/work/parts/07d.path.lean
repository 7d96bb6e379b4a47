/-! A thread's steps, one by one: what an order does. -/
def tp_n (x : Int32) : Nat := x.toNatClampNeg
def tp_u (v : Nat → Nat) (r x : Nat) : Nat → Nat := fun j => if j = r then x else v j
def tp_step (o : Nat → Nat → Int32) (v : Nat → Nat) (k : Nat) : Nat × (Nat → Nat) :=
  if tp_n (o k 0) = 0 then (k + 1, tp_u v (tp_n (o k 1)) (tp_n (o k 4)))
  else if tp_n (o k 0) = 1 then (k + 1, tp_u v (tp_n (o k 1)) ((v (tp_n (o k 2)) + v (tp_n (o k 3))) % 1000))
  else if tp_n (o k 0) = 2 then (k + 1, tp_u v (tp_n (o k 1)) ((v (tp_n (o k 2)) + 1000 - v (tp_n (o k 3))) % 1000))
  else if tp_n (o k 0) = 3 then (k + 1, tp_u v (tp_n (o k 1)) ((v (tp_n (o k 2)) * v (tp_n (o k 3))) % 1000))
  else if tp_n (o k 0) = 4 then (k + 1, tp_u v (tp_n (o k 1)) (v (4 + v (tp_n (o k 2)) % 8)))
  else if tp_n (o k 0) = 5 then (k + 1, tp_u v (4 + v (tp_n (o k 1)) % 8) (v (tp_n (o k 2))))
  else (if v (tp_n (o k 1)) = 0 then k + 1 else tp_n (o k 4), v)
theorem tp_n_nI {k : Nat} (h : k < 2 ^ 31) : tp_n (nI k) = k := nI_clamp h
theorem tp_step_ok {o : Nat → Nat → Int32} {v : Nat → Nat} {k : Nat} (ho : pOrd (o k)) (hk : k < 100) (hv : ∀ j, j < 12 → v j < 1000) : (tp_step o v k).1 < 101 ∧ ∀ j, j < 12 → (tp_step o v k).2 j < 1000 := by
  have hu : ∀ r x, x < 1000 → ∀ j, j < 12 → tp_u v r x j < 1000 := fun r x hx j hj => by unfold tp_u; split; exact hx; exact hv j hj
  rcases ho with ⟨r, w, hr, hw, h0, h1, h2, h3, h4⟩ | ⟨q, r, x, y, hq, hr, hx, hy, h0, h1, h2, h3, h4⟩ | ⟨q, r, x, hq, hr, hx, h0, h1, h2, h3, h4⟩ | ⟨r, w, hr, hw, h0, h1, h2, h3, h4⟩
  · unfold tp_step; rw [h0, h1, h4]; simp (disch := omega) only [tp_n_nI, if_true]
    exact ⟨by omega, hu _ _ (by omega)⟩
  · have := Nat.mod_lt (v x * v y) (show 0 < 1000 by decide)
    rcases hq with rfl | rfl | rfl <;> (unfold tp_step; rw [h0, h1, h2, h3]; simp (disch := omega) only [tp_n_nI, if_true, if_neg]; exact ⟨by omega, hu _ _ (by omega)⟩)
  · have h6 := hv (4 + v x % 8) (by omega)
    have h7 := hv x (by omega)
    rcases hq with rfl | rfl <;> (unfold tp_step; rw [h0, h1, h2]; simp (disch := omega) only [tp_n_nI, if_true, if_neg]; exact ⟨by omega, hu _ _ (by omega)⟩)
  · unfold tp_step; rw [h0, h1, h4]; simp (disch := omega) only [tp_n_nI, if_true, if_neg]
    exact ⟨by split <;> omega, hv⟩
/-- a path's three cells -/
def pPa (sh : tw_Sh) (P : Nat → Nat → Option Nat) (a : Nat) : Prop := sh a = some (2, 4) ∧ P a 2 = some (a + 1) ∧ P a 3 = some (a + 2) ∧ sh (a + 1) = some (20, 100) ∧ sh (a + 2) = some (20, 12)
section TPA
variable {n : Nat} {sh : tw_Sh} {P : Nat → Nat → Option Nat} {I : Nat → Nat → Int32} {a p z k : Nat} {v : Nat → Nat} {o : Nat → Nat → Int32}
theorem p_valueOf (h : pPa sh P a) {r : Nat} (hr : r < 4) : fX2_valueOf (n, sh, P, I) a (nI r) = some (I (a + 2) r) := by
  obtain ⟨h1, h2, h3, h4, h5⟩ := h
  unfold fX2_valueOf
  simp (disch := omega) only [e_is h1, e_gP h1, h3, e_aI h5, tp_lit, nI_add, pk_mul, nI_ltI, nI_leI, nI_eq, nI_clamp, tp_nn, pk_sub, tp_m6, tp_m6n, if_pos, if_neg, Option.bind_some, Option.map_some]
theorem p_valueOfN (h : pPa sh P a) : fX2_valueOf (n, sh, P, I) a (-nI 6) = some (nI 0) := by
  obtain ⟨h1, h2, h3, h4, h5⟩ := h
  unfold fX2_valueOf
  rw [e_is h1, Option.bind_some, if_pos (by decide)]
  rfl
theorem p_give (h : pPa sh P a) {r : Nat} (hr : r < 4) {x : Int32} {y : Nat} (hx : ∀ σ, fJ9_floorMod σ x (nI 1000) = some (nI y)) : fX2_give (n, sh, P, I) a (nI r) x = some (n, sh, P, tw_up I (a + 2) r (nI y)) := by
  obtain ⟨h1, h2, h3, h4, h5⟩ := h
  unfold fX2_give
  simp (disch := omega) only [e_is h1, e_gP h1, h3, e_wI h5, hx, tp_lit, nI_add, pk_mul, nI_ltI, nI_leI, nI_eq, nI_clamp, tp_nn, pk_sub, tp_m6, tp_m6n, if_pos, if_neg, Option.bind_some, Option.map_some]
theorem p_place {x : Nat} (hx : x < 1000) : fX2_placeOfCell (n, sh, P, I) (nI x) = some (nI (4 + x % 8)) := by
  unfold fX2_placeOfCell
  rw [show (8 : Int32) = nI 8 from rfl, tp_mod _ (by omega) (by decide) (by decide), Option.bind_some, tp_lit, nI_add]
theorem p_upv (hv : ∀ j, j < 12 → I (a + 2) j = nI (v j)) (r x : Nat) : ∀ j, j < 12 → tw_up I (a + 2) r (nI x) (a + 2) j = nI (tp_u v r x j) := by
  intro j hj
  unfold tp_u
  by_cases e : j = r
  · rw [if_pos e, e, tw_up_at]
  · rw [if_neg e, tw_up_k e, hv j hj]
theorem p_stepOver (h : pPa sh P a) (hp : pPr sh P p) (hz : I p 0 = nI z) (h12 : z ≤ 12) (hk : k < z) (hc : ∀ c, c < 5 → I (p + 1) (k * 5 + c) = o k c) (ho : pOrd (o k)) (hv : ∀ j, j < 12 → I (a + 2) j = nI (v j)) (hv2 : ∀ j, j < 12 → v j < 1000) :
    ∃ I', fX2_stepOver (n, sh, P, I) a p (nI k) = some (nI (tp_step o v k).1, (n, sh, P, I')) ∧ (∀ j, j < 12 → I' (a + 2) j = nI ((tp_step o v k).2 j)) ∧ ∀ c, c ≠ a + 2 → I' c = I c := by
  have t0 := p_told (n := n) (c := 0) hp hz h12 hk (by decide)
  have t1 := p_told (n := n) (c := 1) hp hz h12 hk (by decide)
  have t2 := p_told (n := n) (c := 2) hp hz h12 hk (by decide)
  have t3 := p_told (n := n) (c := 3) hp hz h12 hk (by decide)
  have t4 := p_told (n := n) (c := 4) hp hz h12 hk (by decide)
  rw [hc 0 (by decide)] at t0
  rw [hc 1 (by decide)] at t1
  rw [hc 2 (by decide)] at t2
  rw [hc 3 (by decide)] at t3
  rw [hc 4 (by decide)] at t4
  have hq := h
  obtain ⟨g1, g2, g3, g4, g5⟩ := h
  unfold fX2_stepOver fX2_stepOver_b190
  simp only [e_is g1, tp_lit, t0, t1, t2, t3, t4, Option.bind_some]
  rcases ho with ⟨r, w, hr, hw, h0, h1, h2, h3, h4⟩ | ⟨q, r, x, y, hq', hr, hx, hy, h0, h1, h2, h3, h4⟩ | ⟨q, r, x, hq', hr, hx, h0, h1, h2, h3, h4⟩ | ⟨r, w, hr, hw, h0, h1, h2, h3, h4⟩
  · have hm : ∀ σ, fJ9_floorMod σ (nI w) (nI 1000) = some (nI w) := fun σ => by
      rw [tp_mod σ (by omega) (by decide) (by decide), Nat.mod_eq_of_lt (by omega)]
    simp (disch := omega) only [h0, h1, h2, h3, h4, p_valueOfN hq, p_give hq hr hm, tp_step, tp_n_nI, nI_add, if_true, Option.bind_some]
    exact ⟨_, rfl, p_upv hv r w, fun c hc => tw_up_a hc⟩
  · have e1 := hv x (by omega)
    have e2 := hv y (by omega)
    have b1 := hv2 x (by omega)
    have b2 := hv2 y (by omega)
    have b3 : v x * v y < 1000 * 1000 := Nat.mul_lt_mul'' b1 b2
    rcases hq' with rfl | rfl | rfl
    · have hm : ∀ σ, fJ9_floorMod σ (nI (v x + v y)) (nI 1000) = some (nI ((v x + v y) % 1000)) := fun σ => tp_mod σ (by omega) (by decide) (by decide)
      simp (disch := omega) only [h0, h1, h2, h3, h4, p_valueOf hq hx, p_valueOf hq hy, e1, e2, p_give hq hr hm, tp_step, tp_n_nI, nI_add, nI_eq, if_true, if_neg, Option.bind_some]
      exact ⟨_, rfl, p_upv hv r _, fun c hc => tw_up_a hc⟩
    · have hm : ∀ σ, fJ9_floorMod σ (nI (v x) - nI (v y)) (nI 1000) = some (nI ((v x + 1000 - v y) % 1000)) := fun σ => tp_modsub σ b1 b2
      simp (disch := omega) only [h0, h1, h2, h3, h4, p_valueOf hq hx, p_valueOf hq hy, e1, e2, p_give hq hr hm, tp_step, tp_n_nI, nI_add, nI_eq, if_true, if_neg, Option.bind_some]
      exact ⟨_, rfl, p_upv hv r _, fun c hc => tw_up_a hc⟩
    · have hm : ∀ σ, fJ9_floorMod σ (nI (v x * v y)) (nI 1000) = some (nI ((v x * v y) % 1000)) := fun σ => tp_mod σ (by omega) (by decide) (by decide)
      simp (disch := omega) only [h0, h1, h2, h3, h4, p_valueOf hq hx, p_valueOf hq hy, e1, e2, pk_mul, p_give hq hr hm, tp_step, tp_n_nI, nI_add, nI_eq, if_true, if_neg, Option.bind_some]
      exact ⟨_, rfl, p_upv hv r _, fun c hc => tw_up_a hc⟩
  · have e1 := hv x (by omega)
    have e2 := hv r (by omega)
    have b1 := hv2 x (by omega)
    have b2 := hv2 r (by omega)
    rcases hq' with rfl | rfl
    · have e3 := hv (4 + v x % 8) (by omega)
      have b3 := hv2 (4 + v x % 8) (by omega)
      have hm : ∀ σ, fJ9_floorMod σ (nI (v (4 + v x % 8))) (nI 1000) = some (nI (v (4 + v x % 8))) := fun σ => by
        rw [tp_mod σ (by omega) (by decide) (by decide), Nat.mod_eq_of_lt b3]
      simp (disch := omega) only [h0, h1, h2, h3, h4, p_valueOf hq hx, p_valueOfN hq, e1, e3, e_gP g1, g3, p_place b1, e_aI g5, p_give hq hr hm, tp_step, tp_n_nI, nI_add, nI_eq, if_true, if_neg, Option.bind_some]
      exact ⟨_, rfl, p_upv hv r _, fun c hc => tw_up_a hc⟩
    · simp (disch := omega) only [h0, h1, h2, h3, h4, p_valueOf hq hx, p_valueOf hq hr, p_valueOfN hq, e1, e2, e_gP g1, g3, p_place b2, e_wI g5, tp_step, tp_n_nI, nI_add, nI_eq, if_true, if_neg, Option.bind_some]
      exact ⟨_, rfl, p_upv hv _ _, fun c hc => tw_up_a hc⟩
  · have e2 := hv r (by omega)
    have b2 := hv2 r (by omega)
    simp (disch := omega) only [h0, h1, h2, h3, h4, p_valueOf hq hr, p_valueOfN hq, e2, tp_step, tp_n_nI, nI_add, nI_eq, if_true, if_neg, Option.bind_some]
    by_cases e : v r = 0
    · rw [if_pos e, if_pos e]
      exact ⟨I, rfl, hv, fun c _ => rfl⟩
    · rw [if_neg e, if_neg e]
      exact ⟨I, rfl, hv, fun c _ => rfl⟩
end TPA
