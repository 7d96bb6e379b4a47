section TPN
variable {n : Nat} {sh : tw_Sh} {P : Nat → Nat → Option Nat} {I : Nat → Nat → Int32} {a s sw t tick wo turns : Nat} {S : tp_S} {K : Nat → Nat} {R : tp_R}
theorem pRB.more (hB : pRB K R tick) : pRB K R (tick + 1) := by
  intro t ht
  obtain ⟨b1, b2, b3, b4, b5, b6, b7⟩ := hB t ht
  exact ⟨b1, by omega, fun j hj => by have := b3 j hj; omega, fun k => by have := b4 k; omega, fun r hr => by have := b5 r hr; omega, by omega, b7⟩
theorem tp_wait1 (R : tp_R) (h : Nat → Nat) (st t0 : Nat) : ∃ w, tp_wait K R h st t0 = (R.1, R.2.1, R.2.2.1, w, R.2.2.2.2) ∧ (∀ t k, t ≠ t0 → w t k = R.2.2.2.1 t k) ∧ ∀ t k, w t k ≤ R.2.2.2.1 t k + 1 := by
  unfold tp_wait
  generalize (if h t0 = 0 then 4 else h t0) = k0
  split
  · refine ⟨_, rfl, fun t k ht => ?_, fun t k => ?_⟩
    · rw [tw_up_a ht]
    · unfold tw_up
      split
      · rename_i e; rw [e.1, e.2]; exact Nat.le_refl _
      · omega
  · exact ⟨R.2.2.2.1, rfl, fun _ _ _ => rfl, fun _ _ => Nat.le_succ _⟩
theorem tp_wait2 (R : tp_R) (h : Nat → Nat) (st : Nat) : ∃ w, tp_wait K (tp_wait K R h st 0) h st 1 = (R.1, R.2.1, R.2.2.1, w, R.2.2.2.2) ∧ ∀ t k, w t k ≤ R.2.2.2.1 t k + 1 := by
  obtain ⟨w1, e1, a1, b1⟩ := tp_wait1 (K := K) R h st 0
  rw [e1]
  obtain ⟨w2, e2, a2, b2⟩ := tp_wait1 (K := K) (R.1, R.2.1, R.2.2.1, w1, R.2.2.2.2) h st 1
  refine ⟨w2, e2, fun t k => ?_⟩
  by_cases e : t = 1
  · have h1 : w2 t k ≤ w1 t k + 1 := b2 t k
    rw [a1 t k (by omega)] at h1
    exact h1
  · have h1 : w2 t k = w1 t k := a2 t k e
    rw [h1]
    exact b1 t k
theorem pRB.wt (hB : pRB K R (tick + 1)) {w : Nat → Nat → Nat} (hw : ∀ t, t < 2 → ∀ k, w t k ≤ tick + 1) : pRB K (R.1, R.2.1, R.2.2.1, w, R.2.2.2.2) (tick + 1) := by
  intro t ht
  obtain ⟨b1, b2, b3, b4, b5, b6, b7⟩ := hB t ht
  exact ⟨b1, b2, b3, fun k => hw t ht k, b5, b6, b7⟩
theorem tp_wait_0 (h : Nat → Nat) (st t0 : Nat) : (tp_wait K R h st t0).1 = R.1 := by
  unfold tp_wait
  split <;> rfl
theorem p_wait (hr : pRu sh P a s) (hF : pFo I a S K) (hI : pRI I a R) {tb : Nat} (hB : pRB K R tb) (hk : tick ≤ 4096) (ht : t < 2) {h : Nat → Nat} (hh : ∀ t, t < 2 → I (a + 19) t = nI (h t) ∧ (R.1 t < K t → h t < 4)) {st : Nat} (hst : st < 3) (m : Nat) :
    ∃ I', fX5_playTick_l33 (m + 1) (n, sh, P, I) a (nI tick) (tp_rI st) (nI t) = fX5_playTick_l33 m (n, sh, P, I') a (nI tick) (tp_rI st) (nI (t + 1)) ∧ pRI I' a (tp_wait K R h st t) ∧ ∀ c, (c < a + 17 ∨ a + 19 ≤ c) → I' c = I c := by
  have hne : (nI t = tp_rI st) ↔ t = st := by
    have := tp_rI_eq (show t < 3 by omega) hst
    rw [← this]
    unfold tp_rI
    rw [if_neg (show ¬ t = 2 by omega)]
  show ∃ I', fX5_playTick_h33 (fX5_playTick_l33 m) (n, sh, P, I) a (nI tick) (tp_rI st) (nI t) = _ ∧ _
  unfold fX5_playTick_h33 fX5_playTick_b81
  rw [if_neg (show ¬ (2 : Int32) ≤ nI t from nI_ge (by omega) (by decide))]
  by_cases e : t = st
  · rw [if_pos (hne.mpr e)]
    refine ⟨I, by rw [tp_lit, nI_add], ?_, fun _ _ => rfl⟩
    unfold tp_wait
    rw [if_neg (fun z => z.1 e)]; exact hI
  · rw [if_neg (fun z => e (hne.mp z)), p_hasStep hr ht hF hI hB, Option.bind_some]
    by_cases e2 : R.1 t < K t
    · obtain ⟨h1, h2⟩ := hh t ht
      have h3 := h2 e2
      obtain ⟨j1, j2, j3, j4, j5, j6, j7⟩ := hI t ht
      have hb : ∀ k, 1 ≤ k → k < 5 → fX5_playTick_b76 (fX5_playTick_l33 m) (n, sh, P, I) a (nI tick) (tp_rI st) (nI t) (nI k) (a + 17 + t) = fX5_playTick_l33 m (n, sh, P, tw_up I (a + 17 + t) k (nI (R.2.2.2.1 t k + 1))) a (nI tick) (tp_rI st) (nI (t + 1)) := by
        intro k hk1 hk2
        unfold fX5_playTick_b76 fX5_playTick_b81
        simp (disch := omega) only [r_r17 hr, r_x17 hr, j4 k hk1 hk2, tp_lit, nI_add, Option.bind_some]
      have hfin : ∀ k, 1 ≤ k → k < 5 → k = (if h t = 0 then 4 else h t) → pRI (tw_up I (a + 17 + t) k (nI (R.2.2.2.1 t k + 1))) a (tp_wait K R h st t) := by
        intro k hk1 hk2 hkk
        have hw : tp_wait K R h st t = (R.1, R.2.1, R.2.2.1, tw_up R.2.2.2.1 t k (R.2.2.2.1 t k + 1), R.2.2.2.2) := by
          unfold tp_wait
          rw [if_pos ⟨e, e2⟩, ← hkk]
        rw [hw]
        intro t' ht'
        obtain ⟨m1, m2, m3, m4, m5, m6, m7⟩ := hI t' ht'
        refine ⟨by rw [tw_up_a (by omega)]; exact m1, by rw [tw_up_a (by omega)]; exact m2, fun j hj => ⟨by rw [tw_up_a (by omega)]; exact (m3 j hj).1, by rw [tw_up_a (by omega)]; exact (m3 j hj).2⟩, fun k' hk'1 hk'2 => ?_, fun r hr => by rw [tw_up_a (by omega)]; exact m5 r hr, by rw [tw_up_a (by omega)]; exact m6, fun z => by rw [tw_up_a (by omega)]; exact m7 z⟩
        show tw_up I (a + 17 + t) k _ (a + 17 + t') k' = nI (tw_up R.2.2.2.1 t k _ t' k')
        by_cases ee : t' = t ∧ k' = k
        · rw [ee.1, ee.2, tw_up_at, tw_up_at]
        · have e1 : tw_up R.2.2.2.1 t k (R.2.2.2.1 t k + 1) t' k' = R.2.2.2.1 t' k' := by unfold tw_up; rw [if_neg ee]
          have e2 : tw_up I (a + 17 + t) k (nI (R.2.2.2.1 t k + 1)) (a + 17 + t') k' = I (a + 17 + t') k' := by
            unfold tw_up; rw [if_neg (fun z => ee ⟨by omega, z.2⟩)]
          rw [e1, e2]; exact m4 k' hk'1 hk'2
      rw [if_pos e2, if_neg (show ¬ nI 1 = 0 by decide)]
      simp (disch := omega) only [r_P7 hr, r_a19 hr, h1, r_P5 hr, r_p16 hr, Option.bind_some]
      by_cases e3 : h t = 0
      · rw [if_pos (by rw [e3]; rfl), tp_lit, hb 4 (by decide) (by decide)]
        exact ⟨_, rfl, hfin 4 (by decide) (by decide) (by rw [if_pos e3]), fun c hc => tw_up_a (by omega)⟩
      · rw [if_neg (show ¬ nI (h t) = 0 from fun z => e3 ((nI_eq (by omega) (by decide)).mp (z.trans (show (0 : Int32) = nI 0 from rfl)))), hb (h t) (by omega) (by omega)]
        exact ⟨_, rfl, hfin (h t) (by omega) (by omega) (by rw [if_neg e3]), fun c hc => tw_up_a (by omega)⟩
    · rw [if_neg e2, if_pos (show nI 0 = 0 from rfl)]
      refine ⟨I, by rw [tp_lit, nI_add], ?_, fun _ _ => rfl⟩
      unfold tp_wait
      rw [if_neg (fun z => e2 z.2)]; exact hI
theorem p_playTick (hr : pRu sh P a s) (hs : pSt sh P s sw) (hd : s + 10 ≤ a ∨ a + 25 ≤ s) (hok : pSok S) (hSI : pStI I s sw S) (hF : pFo I a S K) (hI : pRI I a R) (hB : pRB K R tick) (hk : tick ≤ 4096) (hwo : wo < 3) (ho : I a 11 = tp_rI wo) :
    ∃ I', fX5_playTick (n, sh, P, I) a (nI tick) = some (n, sh, P, I') ∧ pRI I' a (tp_tick S K wo (S.1 0) tick R) ∧ pRB K (tp_tick S K wo (S.1 0) tick R) (tick + 1) ∧ ∀ c, (c < a + 8 ∨ a + 25 ≤ c) → I' c = I c := by
  have hK : ∀ t, t < 2 → K t ≤ 100 := fun t ht => (hF t ht).1.1
  -- the two hindrances
  let h := fun t => tp_hind S K R wo t tick
  have hstep : ∀ (m t : Nat) (J : Nat → Nat → Int32), t < 2 → (∀ c, c ≠ a + 19 → J c = I c) → fX5_playTick_l2 (m + 1) (n, sh, P, J) a (nI tick) (nI t) = fX5_playTick_l2 m (n, sh, P, tw_up J (a + 19) t (nI (h t))) a (nI tick) (nI (t + 1)) := by
    intro m t J ht hJ
    show fX5_playTick_h2 (fX5_playTick_l2 m) (n, sh, P, J) a (nI tick) (nI t) = _
    unfold fX5_playTick_h2
    have hh := p_hind (n := n) hr hs hok (hSI.kept (fun c h1 h2 => hJ c (by omega))) (hF.kept (fun c h1 h2 => hJ c (by omega))) (hI.kept (fun c h1 h2 h3 => hJ c h3)) hB hk hwo (by rw [hJ a (by omega)]; exact ho) ht
    rw [if_neg (show ¬ (2 : Int32) ≤ nI t from nI_ge (by omega) (by decide))]
    simp (disch := omega) only [r_P7 hr, hh, r_w19 hr, tp_lit, nI_add, Option.bind_some]
    rfl
  have hlt : ∀ t, h t < 6 := fun t => tp_hind_lt S K R wo t tick
  let I2 := tw_up (tw_up I (a + 19) 0 (nI (h 0))) (a + 19) 1 (nI (h 1))
  have q2 : ∀ c, c ≠ a + 19 → I2 c = I c := fun c hc => by
    show tw_up _ _ _ _ c = _
    rw [tw_up_a hc, tw_up_a hc]
  have hh : ∀ t, t < 2 → I2 (a + 19) t = nI (h t) ∧ h t < 6 := by
    intro t ht
    refine ⟨?_, hlt t⟩
    show tw_up (tw_up I (a + 19) 0 (nI (h 0))) (a + 19) 1 (nI (h 1)) (a + 19) t = _
    rcases (show t = 0 ∨ t = 1 by omega) with rfl | rfl
    · rw [tw_up_k (by decide), tw_up_at]
    · rw [tw_up_at]
  have hSI2 : pStI I2 s sw S := hSI.kept (fun c h1 h2 => q2 c (by omega))
  have hF2 : pFo I2 a S K := hF.kept (fun c h1 h2 => q2 c (by omega))
  have hI2 : pRI I2 a R := hI.kept (fun c h1 h2 h3 => q2 c h3)
  have hst := p_starter (n := n) hr hs hSI2 hok hI2 hB hK hk hh
  have hsl := tp_starter_lt R (S.1 0) tick h
  have hcan := @tp_starter_can R (S.1 0) tick h
  generalize hstv : tp_starter R (S.1 0) tick h = st at hst hsl hcan
  have hh4 : ∀ t, t < 2 → I2 (a + 19) t = nI (h t) ∧ (R.1 t < K t → h t < 4) := fun t ht => ⟨(hh t ht).1, fun e => tp_hind_st e⟩
  obtain ⟨I3, e3, r3, f3⟩ := p_wait (n := n) hr hF2 hI2 hB hk (show 0 < 2 by decide) hh4 hsl (99997 + 1 + 1)
  obtain ⟨w1, ew1, -, hw1⟩ := tp_wait1 (K := K) R h st 0
  have hB3 : pRB K (tp_wait K R h st 0) (tick + 1) := by
    rw [ew1]
    exact hB.more.wt (fun t ht k => Nat.le_trans (hw1 t k) (Nat.succ_le_succ ((hB t ht).2.2.2.1 k)))
  have hh5 : ∀ t, t < 2 → I3 (a + 19) t = nI (h t) ∧ ((tp_wait K R h st 0).1 t < K t → h t < 4) := fun t ht => ⟨by rw [f3 _ (by omega)]; exact (hh t ht).1, fun e => by rw [tp_wait_0] at e; exact tp_hind_st e⟩
  have hF3 : pFo I3 a S K := hF2.kept (fun c h1 h2 => f3 c (by omega))
  obtain ⟨I4, e4, r4, f4⟩ := p_wait (n := n) hr hF3 r3 hB3 hk (show 1 < 2 by decide) hh5 hsl (99997 + 1)
  obtain ⟨w, ew, hw⟩ := tp_wait2 (K := K) R h st
  have g4 : ∀ c, (c < a + 8 ∨ a + 25 ≤ c) → I4 c = I c := fun c hc => by rw [f4 _ (by omega), f3 _ (by omega), q2 _ (by omega)]
  have hstart : fX5_playTick (n, sh, P, I) a (nI tick) = fX5_playTick_b87 (n, sh, P, I4) a (nI tick) (tp_rI st) := by
    unfold fX5_playTick
    rw [r_is hr, Option.bind_some, show tw_F = 99997 + 1 + 1 + 1 from rfl, tp_lit, hstep _ 0 I (by decide) (fun _ _ => rfl), hstep _ 1 _ (by decide) (fun c hc => tw_up_a hc)]
    show fX5_playTick_h2 (fX5_playTick_l2 99997) (n, sh, P, I2) a (nI tick) (nI 2) = _
    unfold fX5_playTick_h2 fX5_playTick_b25
    rw [if_pos (by decide), hst, Option.bind_some, show tw_F = 99997 + 1 + 1 + 1 from rfl, tp_lit, e3, e4]
    show fX5_playTick_h33 (fX5_playTick_l33 99997) (n, sh, P, I4) a (nI tick) (tp_rI st) (nI 2) = _
    unfold fX5_playTick_h33
    rw [if_pos (by decide)]
  rw [hstart]
  unfold fX5_playTick_b87
  have htick : tp_tick S K wo (S.1 0) tick R = if st = 2 then tp_wait K (tp_wait K R h st 0) h st 1 else tp_start S (tp_wait K (tp_wait K R h st 0) h st 1) st tick := by
    unfold tp_tick
    simp only []
    rw [show tp_starter R (S.1 0) tick (fun t => tp_hind S K R wo t tick) = st from hstv]
  rw [htick]
  have hwb : ∀ t, t < 2 → ∀ k, w t k ≤ tick + 1 := fun t ht k => Nat.le_trans (hw t k) (Nat.succ_le_succ ((hB t ht).2.2.2.1 k))
  by_cases e : st = 2
  · rw [if_pos (by rw [e]; rfl), if_pos e]
    exact ⟨I4, rfl, r4, by rw [ew]; exact hB.more.wt hwb, g4⟩
  · have hst2 : st < 2 := by omega
    have hlt2 : R.1 st < K st := tp_hind_0 (hcan e)
    have hri : tp_rI st = nI st := by unfold tp_rI; rw [if_neg e]
    rw [if_neg (show ¬ tp_rI st = -6 from fun z => e ((tp_rI_eq hsl (by decide)).mp z)), if_neg e, hri]
    have hb2 : pRB K (tp_wait K (tp_wait K R h st 0) h st 1) (tick + 1) := by rw [ew]; exact hB.more.wt hwb
    obtain ⟨I5, e5, r5, f5⟩ := p_start (n := n) hr hs hd hok (hSI.kept (fun c h1 h2 => g4 c (by omega))) (hF3.kept (fun c h1 h2 => f4 c (by omega))) r4 hb2 (by omega) hk hst2 (by rw [tp_wait_0, tp_wait_0]; exact hlt2)
    rw [e5, Option.bind_some]
    refine ⟨I5, rfl, r5, ?_, fun c hc => by rw [f5 c hc, g4 c hc]⟩
    rw [ew]
    have := hB.start hok hst2 hlt2
    exact pRB.wt this hwb
end TPN
