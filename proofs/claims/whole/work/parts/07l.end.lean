theorem pK_ex (z : Nat) (o : Nat → Nat → Int32) (v : Nat → Nat) : ∃ K, pK z o v K := by
  have h : ∀ k, (∃ K, K ≤ k ∧ (∀ j, j < K → (tp_pn o v j).1 < z) ∧ z ≤ (tp_pn o v K).1) ∨ (∀ j, j < k → (tp_pn o v j).1 < z) := by
    intro k
    induction k with
    | zero => exact Or.inr (fun j hj => absurd hj (Nat.not_lt_zero j))
    | succ k ih =>
      rcases ih with ⟨K, h1, h2, h3⟩ | h
      · exact Or.inl ⟨K, by omega, h2, h3⟩
      · by_cases e : (tp_pn o v k).1 < z
        · refine Or.inr (fun j hj => ?_)
          by_cases e2 : j = k
          · rw [e2]; exact e
          · exact h j (by omega)
        · exact Or.inl ⟨k, by omega, h, by omega⟩
  rcases h 100 with ⟨K, h1, h2, h3⟩ | h
  · exact ⟨K, h1, h2, fun _ => h3⟩
  · exact ⟨100, Nat.le_refl _, h, fun z => absurd z (by decide)⟩
/-- how many steps each thread's path has; thread ab has none -/
noncomputable def tp_Kf (S : tp_S) (ab : Nat) : Nat → Nat := fun t => if t = 0 then Classical.choose (pK_ex (if 0 = ab then 0 else S.2.1 0) (S.2.2.1 0) (S.2.2.2 0)) else Classical.choose (pK_ex (if 1 = ab then 0 else S.2.1 1) (S.2.2.1 1) (S.2.2.2 1))
theorem tp_Kf_K {S : tp_S} {ab t : Nat} (ht : t < 2) : pK (if t = ab then 0 else S.2.1 t) (S.2.2.1 t) (S.2.2.2 t) (tp_Kf S ab t) := by
  rcases (show t = 0 ∨ t = 1 by omega) with rfl | rfl
  · exact Classical.choose_spec (pK_ex (if 0 = ab then 0 else S.2.1 0) (S.2.2.1 0) (S.2.2.2 0))
  · exact Classical.choose_spec (pK_ex (if 1 = ab then 0 else S.2.1 1) (S.2.2.1 1) (S.2.2.2 1))
theorem tp_Kf_one {S : tp_S} {t k : Nat} (ht : t < 2) (h : pK (S.2.1 t) (S.2.2.1 t) (S.2.2.2 t) k) : tp_Kf S 2 t = k := by
  have h2 := tp_Kf_K (S := S) (ab := 2) ht
  rw [if_neg (by omega)] at h2
  exact h2.one h
noncomputable def tp_res (S : tp_S) (wo : Nat) : tp_R := tp_run S (tp_Kf S 2) wo (S.1 0)
section TPE
variable {n : Nat} {sh : tw_Sh} {P : Nat → Nat → Option Nat} {I : Nat → Nat → Int32} {a s sw t tick wo turns : Nat} {S : tp_S} {K : Nat → Nat} {R : tp_R}
/-- no run is long: a step starts within ten ticks of the one before it -/
def tp_J (K : Nat → Nat) (R : tp_R) (tick : Nat) : Prop := (∀ t r, R.2.2.2.2.1 t r ≤ 10 * (R.1 0 + R.1 1)) ∧ (∀ r, R.2.2.2.2.2.1 r ≤ 10 * (R.1 0 + R.1 1)) ∧ (tp_left K R → tick ≤ 10 * (R.1 0 + R.1 1) + 1 ∧ (tick = 10 * (R.1 0 + R.1 1) + 1 → ¬ R.1 0 < K 0))
theorem tp_J_0 : tp_J K tp_R0 0 := ⟨fun _ _ => Nat.zero_le _, fun _ => Nat.zero_le _, fun _ => ⟨Nat.zero_le _, fun h => absurd h (by show ¬ 0 = 10 * (0 + 0) + 1; omega)⟩⟩
theorem tp_J.free (hJ : tp_J K R tick) (hk : 10 * (R.1 0 + R.1 1) ≤ tick) (ht : R.1 t < K t) : tp_hind S K R wo t tick = 0 := by
  have hr : ∀ x, tp_rdy R t x tick = true := by
    intro x
    unfold tp_rdy
    split
    · rfl
    · exact decide_eq_true (Nat.le_trans (hJ.1 _ _) hk)
  unfold tp_hind
  rw [if_pos ht, if_pos ⟨hr _, hr _, hr _⟩, if_pos (Or.inr (Or.inr (Nat.le_trans (hJ.2.1 _) hk)))]
theorem tp_starter_go {h : Nat → Nat} (h0 : h (tick % 2) = 0) : tp_starter R turns tick h ≠ 2 := by
  unfold tp_starter
  rw [if_pos h0]
  split <;> omega
theorem tp_J.step (hok : pSok S) (hJ : tp_J K R tick) (hl : tp_left K R) : tp_J K (tp_tick S K wo turns tick R) (tick + 1) := by
  obtain ⟨hb1, hb2⟩ := hJ.2.2 hl
  unfold tp_tick
  dsimp only
  generalize hst : tp_starter R turns tick (fun t => tp_hind S K R wo t tick) = st
  have hlt : st < 3 := by rw [← hst]; exact tp_starter_lt _ _ _ _
  obtain ⟨w, ew, -⟩ := tp_wait2 (K := K) R (fun t => tp_hind S K R wo t tick) st
  rw [ew]
  by_cases e : st = 2
  · rw [if_pos e]
    refine ⟨hJ.1, hJ.2.1, fun _ => ?_⟩
    show tick + 1 ≤ 10 * (R.1 0 + R.1 1) + 1 ∧ (tick + 1 = 10 * (R.1 0 + R.1 1) + 1 → ¬ R.1 0 < K 0)
    rcases Nat.lt_trichotomy tick (10 * (R.1 0 + R.1 1)) with e1 | e1 | e1
    · exact ⟨by omega, fun z => by omega⟩
    · refine ⟨by omega, fun _ z => ?_⟩
      refine tp_starter_go (R := R) (turns := turns) (tick := tick) (h := fun t => tp_hind S K R wo t tick) ?_ (hst.trans e)
      have : tick % 2 = 0 := by omega
      rw [this]
      exact hJ.free (by omega) z
    · exfalso
      refine tp_starter_go (R := R) (turns := turns) (tick := tick) (h := fun t => tp_hind S K R wo t tick) ?_ (hst.trans e)
      have : tick % 2 = 1 := by omega
      rw [this]
      exact hJ.free (by omega) (hl.resolve_left (hb2 (by omega)))
  · rw [if_neg e]
    have hT : (tp_start S (R.1, R.2.1, R.2.2.1, w, R.2.2.2.2) st tick).1 0 + (tp_start S (R.1, R.2.1, R.2.2.1, w, R.2.2.2.2) st tick).1 1 = R.1 0 + R.1 1 + 1 := by
      show tp_u R.1 st (R.1 st + 1) 0 + tp_u R.1 st (R.1 st + 1) 1 = _
      rcases (show st = 0 ∨ st = 1 by omega) with rfl | rfl <;> simp [tp_u] <;> omega
    have hdur := fun r => (tp_dur_lt hok r).2
    refine ⟨fun t r => ?_, fun r => ?_, fun _ => ?_⟩
    · rw [hT]
      show (if tp_gives S st (R.1 st) = true then tw_up R.2.2.2.2.1 st (tp_n (tp_of S st (R.1 st) 1)) (tick + tp_dur S (tp_room (tp_of S st (R.1 st) 0))) else R.2.2.2.2.1) t r ≤ _
      have h1 := hJ.1 t r
      have h2 := hdur (tp_room (tp_of S st (R.1 st) 0))
      split
      · unfold tw_up
        split <;> omega
      · omega
    · rw [hT]
      show (if tp_room (tp_of S st (R.1 st) 0) = 2 then R.2.2.2.2.2.1 else tp_u R.2.2.2.2.2.1 (tp_room (tp_of S st (R.1 st) 0)) (tick + tp_dur S (tp_room (tp_of S st (R.1 st) 0)))) r ≤ _
      have h1 := hJ.2.1 r
      have h2 := hdur (tp_room (tp_of S st (R.1 st) 0))
      split
      · omega
      · unfold tp_u
        split <;> omega
    · rw [hT]
      exact ⟨by omega, fun z => by omega⟩
theorem tp_J.end (hK : ∀ t, t < 2 → K t ≤ 100) (hB : pRB K R 4096) (hJ : tp_J K R 4096) : ¬ tp_left K R := by
  intro h
  have h0 := (hB 0 (by decide)).1
  have h1 := (hB 1 (by decide)).1
  have k0 := hK 0 (by decide)
  have k1 := hK 1 (by decide)
  have := (hJ.2.2 h).1
  omega
theorem p_follow1 (hr : pRu sh P a s) (hs : pSt sh P s sw) (hd : s + 10 ≤ a ∨ a + 25 ≤ s) (hok : pSok S) (hSI : pStI I s sw S) (ht : t < 2) (m : Nat) :
    ∃ I' Kt, fX5_follow_l2 (m + 1) (n, sh, P, I) a (nI t) = fX5_follow_l2 m (n, sh, P, I') a (nI (t + 1)) ∧ (pK (S.2.1 t) (S.2.2.1 t) (S.2.2.2 t) Kt ∧ I' (a + 2 + 3 * t) 0 = nI Kt ∧ I' (a + 2 + 3 * t) 1 = nI (if tp_od S t Kt < S.2.1 t then 1 else 0) ∧ (∀ j, j < Kt → I' (a + 2 + 3 * t + 1) j = nI (tp_od S t j)) ∧ ∀ j, j < 12 → I' (a + 2 + 3 * t + 2) j = nI ((tp_pn (S.2.2.1 t) (S.2.2.2 t) Kt).2 j)) ∧ ∀ c, (c < a + 2 + 3 * t ∨ a + 2 + 3 * t + 3 ≤ c) → I' c = I c := by
  show ∃ I' Kt, fX5_follow_h2 (fX5_follow_l2 m) (n, sh, P, I) a (nI t) = _ ∧ _
  unfold fX5_follow_h2
  rw [if_neg (show ¬ (2 : Int32) ≤ nI t from nI_ge (by omega) (by decide))]
  simp (disch := omega) only [r_P0 hr, r_p1 hr, r_P6 hr, r_sP1 hs, r_spg hs, r_sP2 hs, r_sfv hs, Option.bind_some]
  obtain ⟨q1, q2, q3⟩ := hSI.2 t ht
  obtain ⟨o1, o2, o3⟩ := hok.2.2.2 t ht
  obtain ⟨s1, s2, s3, s4⟩ := hs.2.2.2.2.2.2.2.2 t ht
  have hsw := hs.1
  obtain ⟨I', Kt, e1, e2, e3, e4, e5, e6, e7⟩ := p_follow (n := n) (I := I) (a := a + 2 + 3 * t) (p := pPg s sw t) (f := pFv s sw t) (hr.2.2 t ht).2.1 s2 s4 (by unfold pPg; omega) (by unfold pFv; omega) q1 o1 q2 o2 q3 o3
  rw [e1, Option.bind_some]
  exact ⟨I', Kt, by rw [tp_lit, nI_add], ⟨e2, e3, e4, e5, e6⟩, e7⟩
theorem p_runFollow (hr : pRu sh P a s) (hs : pSt sh P s sw) (hd : s + 10 ≤ a ∨ a + 25 ≤ s) (hok : pSok S) (hSI : pStI I s sw S) :
    ∃ I', fX5_follow (n, sh, P, I) a = some (n, sh, P, I') ∧ pFo I' a S (tp_Kf S 2) ∧ ∀ c, (c < a + 2 ∨ a + 8 ≤ c) → I' c = I c := by
  obtain ⟨I1, K0, e1, r1, f1⟩ := p_follow1 (n := n) hr hs hd hok hSI (show 0 < 2 by decide) (99997 + 1 + 1)
  obtain ⟨I2, K1, e2, r2, f2⟩ := p_follow1 (n := n) hr hs hd hok (hSI.kept (fun c h1 h2 => f1 c (by omega))) (show 1 < 2 by decide) (99997 + 1)
  refine ⟨I2, ?_, ?_, fun c hc => by rw [f2 c (by omega), f1 c (by omega)]⟩
  · unfold fX5_follow
    rw [r_is hr, Option.bind_some, show tw_F = 99997 + 1 + 1 + 1 from rfl, tp_lit, e1, e2]
    show fX5_follow_h2 (fX5_follow_l2 99997) (n, sh, P, I2) a (nI 2) = _
    unfold fX5_follow_h2
    rw [if_pos (by decide)]
  · intro t ht
    rcases (show t = 0 ∨ t = 1 by omega) with rfl | rfl
    · obtain ⟨x1, x2, x3, x4, x5⟩ := r1
      rw [tp_Kf_one (by decide) x1]
      exact ⟨x1, by rw [f2 _ (by omega)]; exact x2, by rw [f2 _ (by omega)]; exact x3, fun j hj => by rw [f2 _ (by omega)]; exact x4 j hj, fun j hj => by rw [f2 _ (by omega)]; exact x5 j hj⟩
    · rw [tp_Kf_one (by decide) r2.1]
      exact r2
/-- the run's cells hold the whole run of S -/
def pDone (I : Nat → Nat → Int32) (a : Nat) (S : tp_S) (wo : Nat) : Prop := ∃ tk, pFo I a S (tp_Kf S 2) ∧ pRI I a (tp_res S wo) ∧ pRB (tp_Kf S 2) (tp_res S wo) tk ∧ tk ≤ 4096
theorem p_schedule (hr : pRu sh P a s) (hs : pSt sh P s sw) (hd : s + 10 ≤ a ∨ a + 25 ≤ s) (hok : pSok S) (hSI : pStI I s sw S) (hF : pFo I a S (tp_Kf S 2)) (hwo : wo < 3) :
    ∃ I', fX5_schedule (n, sh, P, I) a (tp_rI wo) = some (n, sh, P, I') ∧ pDone I' a S wo ∧ ∀ c, (c < a ∨ a + 25 ≤ c) → I' c = I c := by
  unfold fX5_schedule
  obtain ⟨I1, e1, r1, f1⟩ := p_clear (n := n) (I := tw_up I a 11 (tp_rI wo)) hr
  rw [r_is hr, Option.bind_some, r_pI11 hr, Option.bind_some, e1, Option.bind_some]
  have g1 : ∀ c, c ≠ a → (c < a + 8 ∨ a + 25 ≤ c) → I1 c = I c := fun c h1 h2 => by rw [f1 c h2, tw_up_a h1]
  have hF1 : pFo I1 a S (tp_Kf S 2) := hF.kept (fun c h1 h2 => g1 c (by omega) (by omega))
  obtain ⟨I2, tk, e2, r2, b2, k2, f2⟩ := p_sched (n := n) hr hs hd hok hwo 4096 tw_F 0 tp_R0 I1 (by omega) (by decide) (hSI.kept (fun c h1 h2 => g1 c (by omega) (by omega))) hF1 r1 pRB_0 (by rw [f1 a (by omega), tw_up_at])
  exact ⟨I2, e2, ⟨tk, hF1.kept (fun c h1 h2 => f2 c (by omega)), r2, b2, k2⟩, fun c hc => by rw [f2 c (by omega), g1 c (by omega) (by omega)]⟩
theorem p_play (hr : pRu sh P a s) (hs : pSt sh P s sw) (hd : s + 10 ≤ a ∨ a + 25 ≤ s) (hok : pSok S) (hSI : pStI I s sw S) (hwo : wo < 3) :
    ∃ I', fX5_play (n, sh, P, I) a (tp_rI wo) = some (n, sh, P, I') ∧ pDone I' a S wo ∧ ∀ c, (c < a ∨ a + 25 ≤ c) → I' c = I c := by
  obtain ⟨I1, e1, r1, f1⟩ := p_runFollow (n := n) hr hs hd hok hSI
  obtain ⟨I2, e2, r2, f2⟩ := p_schedule (n := n) hr hs hd hok (hSI.kept (fun c h1 h2 => f1 c (by omega))) r1 hwo
  unfold fX5_play
  rw [r_is hr, Option.bind_some, e1, Option.bind_some, e2, Option.bind_some]
  exact ⟨I2, rfl, r2, fun c hc => by rw [f2 c hc, f1 c (by omega)]⟩
end TPE
