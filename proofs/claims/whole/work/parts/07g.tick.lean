/-! The class' tick does what tp_tick says. -/
section TPK
variable {n : Nat} {sh : tw_Sh} {P : Nat → Nat → Option Nat} {I : Nat → Nat → Int32} {a s sw t tick wo turns : Nat} {S : tp_S} {K : Nat → Nat} {R : tp_R}
theorem tp_step_in (hok : pSok S) (hF : pFo I a S K) (ht : t < 2) {j : Nat} (hj : j < K t) : tp_od S t j < S.2.1 t ∧ S.2.1 t ≤ 12 ∧ pOrd (S.2.2.1 t (tp_od S t j)) := by
  have h1 := (hF t ht).1.2.1 j hj
  have h2 := hok.2.2.2 t ht
  exact ⟨h1, h2.1, h2.2.1 _ h1⟩
theorem p_hasStep (hr : pRu sh P a s) (ht : t < 2) (hF : pFo I a S K) (hI : pRI I a R) (hB : pRB K R tick) : fX5_hasStep (n, sh, P, I) a (nI t) = some (nI (if R.1 t < K t then 1 else 0)) := by
  have h1 := (hI t ht).1
  have h2 := (hF t ht).2.1
  have h3 := (hF t ht).1.1
  have h4 := (hB t ht).1
  unfold fX5_hasStep
  simp (disch := omega) only [r_is hr, r_P1 hr, r_a8 hr, r_P0 hr, r_p1 hr, r_K hr, h1, h2, nI_leI, Option.bind_some]
  by_cases e : R.1 t < K t
  · rw [if_neg (by omega), if_pos e]; rfl
  · rw [if_pos (by omega), if_neg e]; rfl
theorem p_isReady (hr : pRu sh P a s) (ht : t < 2) (hI : pRI I a R) (hB : pRB K R tick) (hk : tick ≤ 4096) {x : Int32} (hx : x = -nI 6 ∨ ∃ r, r < 4 ∧ x = nI r) : fX5_isReady (n, sh, P, I) a (nI t) x (nI tick) = some (nI (if tp_rdy R t x tick = true then 1 else 0)) := by
  unfold fX5_isReady fX5_isReady_b21 tp_rdy
  rcases hx with rfl | ⟨r, h4, rfl⟩
  · simp only [r_is hr, Option.bind_some, if_true]
    rw [if_pos (by decide)]
    rfl
  · have h1 := (hI t ht).2.2.2.2.1 r h4
    have h2 := (hB t ht).2.2.2.2.1 r h4
    simp (disch := omega) only [r_is hr, r_P8 hr, r_p20 hr, r_r21 hr, h1, tp_n_nI, decide_eq_true_eq, tp_lit, nI_add, pk_mul, nI_ltI, nI_leI, nI_eq, nI_clamp, tp_nn, pk_sub, tp_m6, tp_m6n, if_pos, if_neg, Option.bind_some, Option.map_some, if_false]
    by_cases e : R.2.2.2.2.1 t r ≤ tick
    · rw [if_neg (by omega), if_pos e]
    · rw [if_pos (by omega), if_neg e]
theorem pOrd.reg {o : Nat → Int32} (h : pOrd o) : (∀ c, (c = 1 ∨ c = 2 ∨ c = 3) → (o c = -nI 6 ∨ ∃ r, r < 4 ∧ o c = nI r)) ∧ ∃ r, r < 4 ∧ o 1 = nI r := by
  rcases h with ⟨r, v, h1, h2, h3, h4, h5, h6, h7⟩ | ⟨k, r, x, y, h1, h2, h3, h4, h5, h6, h7, h8, h9⟩ | ⟨k, r, x, h1, h2, h3, h4, h5, h6, h7, h8⟩ | ⟨r, v, h1, h2, h3, h4, h5, h6, h7⟩
  · exact ⟨fun c hc => by rcases hc with rfl | rfl | rfl; exact Or.inr ⟨r, h1, h4⟩; exact Or.inl h5; exact Or.inl h6, r, h1, h4⟩
  · exact ⟨fun c hc => by rcases hc with rfl | rfl | rfl; exact Or.inr ⟨r, h2, h6⟩; exact Or.inr ⟨x, h3, h7⟩; exact Or.inr ⟨y, h4, h8⟩, r, h2, h6⟩
  · exact ⟨fun c hc => by rcases hc with rfl | rfl | rfl; exact Or.inr ⟨r, h2, h5⟩; exact Or.inr ⟨x, h3, h6⟩; exact Or.inl h7, r, h2, h5⟩
  · exact ⟨fun c hc => by rcases hc with rfl | rfl | rfl; exact Or.inr ⟨r, h1, h4⟩; exact Or.inl h5; exact Or.inl h6, r, h1, h4⟩
theorem tp_room_lt (x : Int32) : tp_room x < 3 := by
  unfold tp_room
  split
  · decide
  · split
    · decide
    · split <;> decide
theorem tp_rI_eq {x y : Nat} (hx : x < 3) (hy : y < 3) : tp_rI x = tp_rI y ↔ x = y := by
  have : ∀ x, x < 3 → ∀ y, y < 3 → (tp_rI x = tp_rI y ↔ x = y) := by decide +kernel
  exact this x hx y hy
theorem p_hind (hr : pRu sh P a s) (hs : pSt sh P s sw) (hok : pSok S) (hSI : pStI I s sw S) (hF : pFo I a S K) (hI : pRI I a R) (hB : pRB K R tick) (hk : tick ≤ 4096) (hwo : wo < 3) (ho : I a 11 = tp_rI wo) (ht : t < 2) :
    fX5_hindranceOf (n, sh, P, I) a (nI t) (nI tick) = some (nI (tp_hind S K R wo t tick)) := by
  unfold fX5_hindranceOf tp_hind
  simp only [r_is hr, p_hasStep hr ht hF hI hB, Option.bind_some]
  by_cases hst : R.1 t < K t
  · obtain ⟨g1, g2, g3⟩ := tp_step_in hok hF ht hst
    obtain ⟨j1, j2, j3, j4, j5, j6, j7⟩ := hI t ht
    obtain ⟨b1, b2, b3, b4, b5, b6, b7⟩ := hB t ht
    obtain ⟨f1, f2, f3, f4, f5⟩ := hF t ht
    obtain ⟨c1, c2, c3⟩ := hSI.2 t ht
    have hpr := (hs.2.2.2.2.2.2.2.2 t ht).2.1
    have hK := f1.1
    have hod := f4 _ hst
    have hof : ∀ c, c < 5 → I (pPg s sw t + 1) (tp_od S t (R.1 t) * 5 + c) = tp_of S t (R.1 t) c := fun c hc => c2 _ g1 c hc
    have hroom : fX3_roomOf (n, sh, P, I) (pPg s sw t) (nI (tp_od S t (R.1 t))) = some (tp_rI (tp_room (tp_of S t (R.1 t) 0))) := by
      have := p_roomOf (n := n) hpr c1 g2 g1
      rw [show tp_od S t (R.1 t) * 5 = tp_od S t (R.1 t) * 5 + 0 from rfl, hof 0 (by decide)] at this
      exact this
    have hb72 : fX5_hindranceOf_b72 (n, sh, P, I) a (nI t) (nI tick) (pPg s sw t) (nI (tp_od S t (R.1 t))) = some (nI (if tp_room (tp_of S t (R.1 t) 0) = 2 ∨ tp_room (tp_of S t (R.1 t) 0) = wo ∨ R.2.2.2.2.2.1 (tp_room (tp_of S t (R.1 t) 0)) ≤ tick then 0
       else if R.2.2.2.2.2.2.1 (tp_room (tp_of S t (R.1 t) 0)) = t then 2 else 3)) := by
      unfold fX5_hindranceOf_b72
      rw [hroom, Option.bind_some]
      have hrl := tp_room_lt (tp_of S t (R.1 t) 0)
      generalize tp_room (tp_of S t (R.1 t) 0) = rm at hrl
      by_cases e2 : rm = 2
      · subst e2
        rw [if_pos (by rfl), if_pos (Or.inl rfl)]; rfl
      · have hrm : rm < 2 := by omega
        rw [if_neg (show ¬ tp_rI rm = -6 from fun z => e2 ((tp_rI_eq hrl (by decide)).mp z)), r_P11 hr, Option.bind_some, ho]
        by_cases e3 : rm = wo
        · rw [if_pos ((tp_rI_eq hrl hwo).mpr e3), if_pos (Or.inr (Or.inl e3))]; rfl
        · rw [if_neg (fun z => e3 ((tp_rI_eq hrl hwo).mp z))]
          have hri : tp_rI rm = nI rm := by unfold tp_rI; rw [if_neg e2]
          obtain ⟨k1, k2, k3, k4, k5, k6, k7⟩ := hI rm hrm
          obtain ⟨d1, d2, d3, d4, d5, d6, d7⟩ := hB rm hrm
          simp (disch := omega) only [hri, r_P9 hr, r_a23 hr, k6, nI_ltI, Option.bind_some]
          by_cases e4 : R.2.2.2.2.2.1 rm ≤ tick
          · rw [if_neg (by omega), if_pos (Or.inr (Or.inr e4))]; rfl
          · rw [if_pos (by omega), if_neg (by simp [e2, e3, e4])]
            have k8 := k7 (by omega)
            simp (disch := omega) only [r_P10 hr, r_a24 hr, k8, nI_eq, Option.bind_some]
            by_cases e5 : R.2.2.2.2.2.2.1 rm = t
            · rw [if_pos e5, if_pos e5]; rfl
            · rw [if_neg e5, if_neg e5]; rfl
    rw [if_pos hst, if_neg (by decide), if_pos hst]
    simp (disch := omega) only [r_P6 hr, r_sP1 hs, r_spg hs, r_P0 hr, r_p1 hr, r_od hr, r_P1 hr, r_a8 hr, j1, r_odj hr, hod, Option.bind_some]
    have hstep : ∀ m c, (c = 1 ∨ c = 2 ∨ c = 3) → fX5_hindranceOf_l41 (m + 1) (n, sh, P, I) a (nI t) (nI tick) (pPg s sw t) (nI (tp_od S t (R.1 t))) (nI c) = if tp_rdy R t (tp_of S t (R.1 t) c) tick = true then fX5_hindranceOf_l41 m (n, sh, P, I) a (nI t) (nI tick) (pPg s sw t) (nI (tp_od S t (R.1 t))) (nI (c + 1)) else some 1 := by
      intro m c hc
      show fX5_hindranceOf_h41 (fX5_hindranceOf_l41 m) (n, sh, P, I) a (nI t) (nI tick) (pPg s sw t) (nI (tp_od S t (R.1 t))) (nI c) = _
      unfold fX5_hindranceOf_h41
      have hto := p_told (n := n) (c := c) hpr c1 g2 g1 (by omega)
      rw [hof c (by omega)] at hto
      have hir := p_isReady (n := n) hr ht hI hB hk (g3.reg.1 c hc)
      have hir2 : fX5_isReady (n, sh, P, I) a (nI t) (tp_of S t (R.1 t) c) (nI tick) = some (nI (if tp_rdy R t (tp_of S t (R.1 t) c) tick = true then 1 else 0)) := hir
      simp (disch := omega) only [hto, tp_lit, nI_add, pk_mul, nI_ltI, nI_leI, nI_eq, nI_clamp, tp_nn, pk_sub, tp_m6, tp_m6n, if_pos, if_neg, Option.bind_some, Option.map_some]
      rw [hir2, Option.bind_some]
      cases e : tp_rdy R t (tp_of S t (R.1 t) c) tick
      · rw [if_pos (by decide), if_neg (by decide)]
      · rw [if_neg (by decide), if_pos rfl]
    rw [show tw_F = 99996 + 1 + 1 + 1 + 1 from rfl, tp_lit, hstep _ 1 (by decide)]
    cases e1 : tp_rdy R t (tp_of S t (R.1 t) 1) tick
    · simp; rfl
    · rw [if_pos rfl, hstep _ 2 (by decide)]
      cases e2 : tp_rdy R t (tp_of S t (R.1 t) 2) tick
      · simp; rfl
      · rw [if_pos rfl, hstep _ 3 (by decide)]
        cases e3 : tp_rdy R t (tp_of S t (R.1 t) 3) tick
        · simp; rfl
        · rw [if_pos rfl, if_pos (by simp)]
          show fX5_hindranceOf_h41 (fX5_hindranceOf_l41 99996) (n, sh, P, I) a (nI t) (nI tick) (pPg s sw t) (nI (tp_od S t (R.1 t))) (nI (3 + 1)) = _
          unfold fX5_hindranceOf_h41
          rw [if_pos (by decide)]
          exact hb72
  · rw [if_neg hst, if_neg hst]
    rfl
end TPK
