/-! A run is cleared and played to its end: what a run's ticks come to, and that they come to an end. -/
abbrev tp_left (K : Nat → Nat) (R : tp_R) : Prop := R.1 0 < K 0 ∨ R.1 1 < K 1
def tp_sched (S : tp_S) (K : Nat → Nat) (wo turns : Nat) : Nat → Nat → tp_R → tp_R
  | 0, _, R => R
  | d + 1, tick, R => if tp_left K R then tp_sched S K wo turns d (tick + 1) (tp_tick S K wo turns tick R) else R
/-- the whole run -/
def tp_run (S : tp_S) (K : Nat → Nat) (wo turns : Nat) : tp_R := tp_sched S K wo turns 4096 0 tp_R0
section TPL
variable {n : Nat} {sh : tw_Sh} {P : Nat → Nat → Option Nat} {I : Nat → Nat → Int32} {a s sw t tick wo turns : Nat} {S : tp_S} {K : Nat → Nat} {R : tp_R}
theorem p_clear43 (hr : pRu sh P a s) (ht : t < 2) (k22 : (tw_St → Nat → Int32 → Option (tw_St))) :
    ∃ I', fX5_clear_l43 k22 tw_F (n, sh, P, I) a (nI t) 0 = fX5_clear_b63 k22 (n, sh, P, I') a (nI t) ∧ (∀ k, k < 5 → I' (a + 17 + t) k = nI 0) ∧ ∀ c, c ≠ a + 17 + t → I' c = I c := by
  have key := tp_it (S := (Nat → Nat → Int32) × Nat) (fun _ _ _ _ => none) (fX5_clear_h43 k22) (fun f s => f (n, sh, P, s.1) a (nI t) (nI s.2))
    (fun s => s.2 ≤ 5 ∧ (∀ k, k < s.2 → s.1 (a + 17 + t) k = nI 0) ∧ ∀ c, c ≠ a + 17 + t → s.1 c = I c) (fun s => 5 - s.2)
    (fun s r => ∃ I', r = fX5_clear_b63 k22 (n, sh, P, I') a (nI t) ∧ (∀ k, k < 5 → I' (a + 17 + t) k = nI 0) ∧ ∀ c, c ≠ a + 17 + t → I' c = I c)
    (by
      rintro m ⟨J, j⟩ ⟨i1, i2, i3⟩ ih
      dsimp only at i1 i2 i3 ih ⊢
      unfold fX5_clear_h43
      by_cases e : 5 ≤ j
      · rw [if_pos (show (5 : Int32) ≤ nI j from nI_le e (by omega))]
        exact ⟨J, rfl, fun k hk => i2 k (by omega), i3⟩
      · rw [if_neg (show ¬ (5 : Int32) ≤ nI j from nI_ge (show j < 5 by omega) (by decide))]
        simp (disch := omega) only [r_P5 hr, r_p16 hr, r_x17 hr, tp_lit, nI_add, Option.bind_some]
        refine ih (tw_up J (a + 17 + t) j (nI 0), j + 1) ⟨by dsimp only; omega, fun k hk => ?_, fun c hc => ?_⟩ (by dsimp only; omega)
        · dsimp only at hk ⊢
          by_cases e2 : k = j
          · rw [e2, tw_up_at]
          · rw [tw_up_k e2]; exact i2 k (by omega)
        · dsimp only
          rw [tw_up_a hc]; exact i3 c hc)
  exact key tw_F (I, 0) ⟨Nat.zero_le _, fun k hk => absurd hk (Nat.not_lt_zero k), fun _ _ => rfl⟩ (tw_F_big (by dsimp only; omega))
theorem p_clear65 (hr : pRu sh P a s) (ht : t < 2) (k22 : (tw_St → Nat → Int32 → Option (tw_St))) :
    ∃ I', fX5_clear_l65 k22 tw_F (n, sh, P, I) a (nI t) 0 = fX5_clear_b85 k22 (n, sh, P, I') a (nI t) ∧ (∀ k, k < 4 → I' (a + 21 + t) k = nI 0) ∧ ∀ c, c ≠ a + 21 + t → I' c = I c := by
  have key := tp_it (S := (Nat → Nat → Int32) × Nat) (fun _ _ _ _ => none) (fX5_clear_h65 k22) (fun f s => f (n, sh, P, s.1) a (nI t) (nI s.2))
    (fun s => s.2 ≤ 4 ∧ (∀ k, k < s.2 → s.1 (a + 21 + t) k = nI 0) ∧ ∀ c, c ≠ a + 21 + t → s.1 c = I c) (fun s => 4 - s.2)
    (fun s r => ∃ I', r = fX5_clear_b85 k22 (n, sh, P, I') a (nI t) ∧ (∀ k, k < 4 → I' (a + 21 + t) k = nI 0) ∧ ∀ c, c ≠ a + 21 + t → I' c = I c)
    (by
      rintro m ⟨J, j⟩ ⟨i1, i2, i3⟩ ih
      dsimp only at i1 i2 i3 ih ⊢
      unfold fX5_clear_h65
      by_cases e : 4 ≤ j
      · rw [if_pos (show (4 : Int32) ≤ nI j from nI_le e (by omega))]
        exact ⟨J, rfl, fun k hk => i2 k (by omega), i3⟩
      · rw [if_neg (show ¬ (4 : Int32) ≤ nI j from nI_ge (show j < 4 by omega) (by decide))]
        simp (disch := omega) only [r_P8 hr, r_p20 hr, r_x21 hr, tp_lit, nI_add, Option.bind_some]
        refine ih (tw_up J (a + 21 + t) j (nI 0), j + 1) ⟨by dsimp only; omega, fun k hk => ?_, fun c hc => ?_⟩ (by dsimp only; omega)
        · dsimp only at hk ⊢
          by_cases e2 : k = j
          · rw [e2, tw_up_at]
          · rw [tw_up_k e2]; exact i2 k (by omega)
        · dsimp only
          rw [tw_up_a hc]; exact i3 c hc)
  exact key tw_F (I, 0) ⟨Nat.zero_le _, fun k hk => absurd hk (Nat.not_lt_zero k), fun _ _ => rfl⟩ (tw_F_big (by dsimp only; omega))
theorem p_clear22 (hr : pRu sh P a s) (m : Nat) (ht : t < 2) :
    ∃ I', fX5_clear_l22 (m + 1) (n, sh, P, I) a (nI t) = fX5_clear_l22 m (n, sh, P, I') a (nI (t + 1)) ∧ (I' (a + 8) t = nI 0 ∧ I' (a + 9) t = nI 0 ∧ (∀ k, k < 5 → I' (a + 17 + t) k = nI 0) ∧ ∀ k, k < 4 → I' (a + 21 + t) k = nI 0) ∧ (∀ c, c ≠ a + 8 → c ≠ a + 9 → c ≠ a + 17 + t → c ≠ a + 21 + t → I' c = I c) ∧ (∀ c j, j ≠ t → (c = a + 8 ∨ c = a + 9) → I' c j = I c j) := by
  show ∃ I', fX5_clear_h22 (fX5_clear_l22 m) (n, sh, P, I) a (nI t) = _ ∧ _
  unfold fX5_clear_h22
  rw [if_neg (show ¬ (2 : Int32) ≤ nI t from nI_ge (by omega) (by decide))]
  simp (disch := omega) only [r_P1 hr, r_w8 hr, r_P2 hr, r_w9 hr, Option.bind_some]
  obtain ⟨I1, e1, z1, f1⟩ := p_clear43 (n := n) (I := tw_up (tw_up I (a + 8) t 0) (a + 9) t 0) hr ht (fX5_clear_l22 m)
  obtain ⟨I2, e2, z2, f2⟩ := p_clear65 (n := n) (I := I1) hr ht (fX5_clear_l22 m)
  rw [e1]
  unfold fX5_clear_b63
  rw [e2]
  unfold fX5_clear_b85
  refine ⟨I2, by rw [tp_lit, nI_add], ⟨?_, ?_, ?_, z2⟩, ?_, ?_⟩
  · rw [f2 _ (by omega), f1 _ (by omega), tw_up_a (by omega), tw_up_at]; rfl
  · rw [f2 _ (by omega), f1 _ (by omega), tw_up_at]; rfl
  · intro k hk; rw [f2 _ (by omega)]; exact z1 k hk
  · intro c h1 h2 h3 h4
    rw [f2 _ h4, f1 _ h3, tw_up_a h2, tw_up_a h1]
  · rintro c j hj (rfl | rfl)
    · rw [f2 _ (by omega), f1 _ (by omega), tw_up_a (by omega), tw_up_k hj]
    · rw [f2 _ (by omega), f1 _ (by omega), tw_up_k hj, tw_up_a (by omega)]
theorem p_clear (hr : pRu sh P a s) : ∃ I', fX5_clear (n, sh, P, I) a = some (n, sh, P, I') ∧ pRI I' a tp_R0 ∧ ∀ c, (c < a + 8 ∨ a + 25 ≤ c) → I' c = I c := by
  have h2 : ∀ (m t : Nat) (J : Nat → Nat → Int32), t < 2 → fX5_clear_l2 (m + 1) (n, sh, P, J) a (nI t) = fX5_clear_l2 m (n, sh, P, tw_up J (a + 23) t (nI 0)) a (nI (t + 1)) := by
    intro m t J ht
    show fX5_clear_h2 (fX5_clear_l2 m) (n, sh, P, J) a (nI t) = _
    unfold fX5_clear_h2
    rw [if_neg (show ¬ (2 : Int32) ≤ nI t from nI_ge (by omega) (by decide))]
    simp (disch := omega) only [r_P9 hr, r_w23 hr, tp_lit, nI_add, Option.bind_some]
  obtain ⟨I1, e1, z1, f1, g1⟩ := p_clear22 (n := n) (I := tw_up (tw_up I (a + 23) 0 (nI 0)) (a + 23) 1 (nI 0)) hr (99997 + 1 + 1) (show 0 < 2 by decide)
  obtain ⟨I2, e2, z2, f2, g2⟩ := p_clear22 (n := n) (I := I1) hr (99997 + 1) (show 1 < 2 by decide)
  refine ⟨I2, ?_, ?_, ?_⟩
  · unfold fX5_clear
    rw [r_is hr, Option.bind_some, show tw_F = 99997 + 1 + 1 + 1 from rfl, tp_lit, h2 _ 0 I (by decide), h2 _ 1 _ (by decide)]
    show fX5_clear_h2 (fX5_clear_l2 99997) (n, sh, P, _) a (nI 2) = _
    unfold fX5_clear_h2 fX5_clear_b20
    rw [if_pos (by decide), show tw_F = 99997 + 1 + 1 + 1 from rfl, tp_lit, e1, e2]
    show fX5_clear_h22 (fX5_clear_l22 99997) (n, sh, P, I2) a (nI 2) = _
    unfold fX5_clear_h22
    rw [if_pos (by decide)]
  · intro t ht
    obtain ⟨y1, y2, y3, y4⟩ := z1
    obtain ⟨x1, x2, x3, x4⟩ := z2
    rcases (show t = 0 ∨ t = 1 by omega) with rfl | rfl
    · refine ⟨?_, ?_, fun j hj => absurd hj (Nat.not_lt_zero j), fun k h1 h2 => ?_, fun r hr => ?_, ?_, fun z => absurd z (Nat.not_lt_zero _)⟩
      · rw [g2 _ 0 (by decide) (Or.inl rfl)]; exact y1
      · rw [g2 _ 0 (by decide) (Or.inr rfl)]; exact y2
      · rw [f2 _ (by omega) (by omega) (by omega) (by omega)]; exact y3 k h2
      · rw [f2 _ (by omega) (by omega) (by omega) (by omega)]; exact y4 r hr
      · rw [f2 _ (by omega) (by omega) (by omega) (by omega), f1 _ (by omega) (by omega) (by omega) (by omega), tw_up_k (by decide), tw_up_at]; rfl
    · refine ⟨x1, x2, fun j hj => absurd hj (Nat.not_lt_zero j), fun k h1 h2 => x3 k h2, fun r hr => x4 r hr, ?_, fun z => absurd z (Nat.not_lt_zero _)⟩
      rw [f2 _ (by omega) (by omega) (by omega) (by omega), f1 _ (by omega) (by omega) (by omega) (by omega), tw_up_at]; rfl
  · intro c hc
    rw [f2 _ (by omega) (by omega) (by omega) (by omega), f1 _ (by omega) (by omega) (by omega) (by omega), tw_up_a (by omega), tw_up_a (by omega)]
theorem pRB_0 : pRB K tp_R0 0 := fun t ht => ⟨Nat.zero_le _, Nat.zero_le _, fun j hj => absurd hj (Nat.not_lt_zero j), fun _ => Nat.zero_le _, fun _ _ => Nat.zero_le _, Nat.zero_le _, Nat.zero_lt_succ _⟩
theorem p_sched (hr : pRu sh P a s) (hs : pSt sh P s sw) (hd : s + 10 ≤ a ∨ a + 25 ≤ s) (hok : pSok S) (hwo : wo < 3) : ∀ (d m tick : Nat) (R : tp_R) (I : Nat → Nat → Int32), tick + d = 4096 → d < m → pStI I s sw S → pFo I a S K → pRI I a R → pRB K R tick → I a 11 = tp_rI wo →
    ∃ I' tk, fX5_schedule_l11 m (n, sh, P, I) a (nI tick) = some (n, sh, P, I') ∧ pRI I' a (tp_sched S K wo (S.1 0) d tick R) ∧ pRB K (tp_sched S K wo (S.1 0) d tick R) tk ∧ tk ≤ 4096 ∧ ∀ c, (c < a + 8 ∨ a + 25 ≤ c) → I' c = I c
  | d, 0, _, _, _, _, hm, _, _, _, _, _ => absurd hm (Nat.not_lt_zero d)
  | d, m + 1, tick, R, I, hk, hm, hSI, hF, hI, hB, ho => by
    show ∃ I' tk, fX5_schedule_h11 (fX5_schedule_l11 m) (n, sh, P, I) a (nI tick) = _ ∧ _
    unfold fX5_schedule_h11
    have hs0 := p_hasStep (n := n) hr (show 0 < 2 by decide) hF hI hB
    have hs1 := p_hasStep (n := n) hr (show 1 < 2 by decide) hF hI hB
    match d with
    | 0 =>
      rw [if_pos (show (4096 : Int32) ≤ nI tick from nI_le (show 4096 ≤ tick by omega) (by omega))]
      exact ⟨I, tick, rfl, hI, hB, by omega, fun _ _ => rfl⟩
    | d + 1 =>
      rw [if_neg (show ¬ (4096 : Int32) ≤ nI tick from nI_ge (show tick < 4096 by omega) (by decide))]
      have hgo : tp_left K R → ∃ I' tk, fX5_schedule_b34 (fX5_schedule_l11 m) (n, sh, P, I) a (nI tick) = some (n, sh, P, I') ∧ pRI I' a (tp_sched S K wo (S.1 0) (d + 1) tick R) ∧ pRB K (tp_sched S K wo (S.1 0) (d + 1) tick R) tk ∧ tk ≤ 4096 ∧ ∀ c, (c < a + 8 ∨ a + 25 ≤ c) → I' c = I c := by
        intro hl
        obtain ⟨I1, e1, r1, b1, f1⟩ := p_playTick (n := n) hr hs hd hok hSI hF hI hB (by omega) hwo ho
        obtain ⟨I2, tk, e2, r2, b2, k2, f2⟩ := p_sched hr hs hd hok hwo d m (tick + 1) (tp_tick S K wo (S.1 0) tick R) I1 (by omega) (by omega) (hSI.kept (fun c h1 h2 => f1 c (by omega))) (hF.kept (fun c h1 h2 => f1 c (by omega))) r1 b1 (by rw [f1 a (by omega)]; exact ho)
        unfold fX5_schedule_b34
        rw [e1, Option.bind_some, tp_lit, nI_add]
        unfold tp_sched
        rw [if_pos hl]
        exact ⟨I2, tk, e2, r2, b2, k2, fun c hc => by rw [f2 c hc, f1 c hc]⟩
      rw [show (0 : Int32) = nI 0 from rfl, hs0, Option.bind_some]
      by_cases e0 : R.1 0 < K 0
      · rw [if_pos e0, if_neg (by decide)]
        exact hgo (Or.inl e0)
      · rw [if_neg e0, if_pos rfl, show (1 : Int32) = nI 1 from rfl, hs1, Option.bind_some]
        by_cases e1 : R.1 1 < K 1
        · rw [if_pos e1, if_neg (by decide)]
          exact hgo (Or.inr e1)
        · rw [if_neg e1, if_pos rfl]
          have : ¬ tp_left K R := fun z => z.elim e0 e1
          unfold tp_sched
          rw [if_neg this]
          exact ⟨I, tick, rfl, hI, hB, by omega, fun _ _ => rfl⟩
end TPL
