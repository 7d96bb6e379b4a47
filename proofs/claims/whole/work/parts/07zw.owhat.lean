/-! What if: alone, lengthWith, bestTurns, lengthWithout. -/
theorem tp_of_eq {S S' : tp_S} (h3 : S'.2.2 = S.2.2) (t j c : Nat) : tp_of S' t j c = tp_of S t j c := by
  unfold tp_of tp_od
  rw [h3]
theorem tp_dur_eq {S S' : tp_S} (h1 : S'.1 1 = S.1 1) (h2 : S'.1 2 = S.1 2) (r : Nat) : tp_dur S' r = tp_dur S r := by
  unfold tp_dur
  rw [h1, h2]
theorem tp_tick_eq {S S' : tp_S} {K : Nat → Nat} {wo turns tick : Nat} {R : tp_R} (h1 : S'.1 1 = S.1 1) (h2 : S'.1 2 = S.1 2) (h3 : S'.2.2 = S.2.2) : tp_tick S' K wo turns tick R = tp_tick S K wo turns tick R := by
  have hh : ∀ t, tp_hind S' K R wo t tick = tp_hind S K R wo t tick := by
    intro t
    unfold tp_hind
    simp only [tp_of_eq h3]
  have hs : ∀ R st, tp_start S' R st tick = tp_start S R st tick := by
    intro R st
    unfold tp_start tp_gives
    simp only [tp_of_eq h3, tp_dur_eq h1 h2]
  unfold tp_tick
  simp only [hh, hs]
theorem tp_sched_eq {S S' : tp_S} {K : Nat → Nat} {wo turns : Nat} (h1 : S'.1 1 = S.1 1) (h2 : S'.1 2 = S.1 2) (h3 : S'.2.2 = S.2.2) : ∀ (d tick : Nat) (R : tp_R), tp_sched S' K wo turns d tick R = tp_sched S K wo turns d tick R
  | 0, _, _ => rfl
  | d + 1, tick, R => by
    unfold tp_sched
    rw [tp_tick_eq h1 h2 h3, tp_sched_eq h1 h2 h3 d (tick + 1)]
theorem tp_Kf_eq {S S' : tp_S} {ab ab' : Nat} (h3 : S'.2.2 = S.2.2) (hz : ∀ t, t < 2 → (if t = ab' then 0 else S'.2.1 t) = (if t = ab then 0 else S.2.1 t)) : tp_Kf S' ab' = tp_Kf S ab := by
  have k : ∀ t, t < 2 → tp_Kf S' ab' t = tp_Kf S ab t := by
    intro t ht
    have a := tp_Kf_K (S := S') (ab := ab') ht
    rw [hz t ht, h3] at a
    exact a.one (tp_Kf_K ht)
  have l : ∀ (S : tp_S) (ab t : Nat), ¬ t = 0 → tp_Kf S ab t = tp_Kf S ab 1 := by
    intro S ab t ht
    exact if_neg ht
  funext t
  by_cases e : t = 0
  · rw [e]; exact k 0 (by decide)
  · rw [l S' ab' t e, l S ab t e]; exact k 1 (by decide)
theorem tp_len_b {K : Nat → Nat} {R : tp_R} {tk : Nat} (hB : pRB K R tk) (hk : tk ≤ 4096) : tp_len R < 5000 := by
  have h0 := (hB 0 (by decide)).2.1
  have h1 := (hB 1 (by decide)).2.1
  unfold tp_len
  split <;> omega
section TPW
variable {n : Nat} {sh : tw_Sh} {P : Nat → Nat → Option Nat} {I J : Nat → Nat → Int32} {b m sw wo turns ab k q : Nat} {C : tp_C} {S : tp_S}
theorem pCI.trial {I' : Nat → Nat → Int32} (h : pCI I b sw C) (f : ∀ c, (c < b + 36 ∨ b + 71 ≤ c) → I' c = I c) : pCI I' b sw C := by
  obtain ⟨i1, i2, i3, i4, i5⟩ := h
  exact ⟨i1.kept (fun c x y => f c (by omega)), i2.kept (fun c x y _ => f c (by omega)), i3.kept (f _ (by omega)) (f _ (by omega)), i4.kept (fun c x y => f c (by omega)), fun i hi => ⟨by rw [f _ (by omega)]; exact (i5 i hi).1, fun z => ((i5 i hi).2 z).kept (fun c x y => f c (by omega))⟩⟩
theorem pMc.run {I' : Nat → Nat → Int32} (h : pMc I m C) (f : ∀ c, (c < m + 7 ∨ m + 19 ≤ c) → I' c = I c) : pMc I' m C := by
  obtain ⟨m1, m2, m3, m4, m5⟩ := h
  exact ⟨m1.keep (f _ (by omega)), m2.kept (by rw [f _ (by omega)]) (f _ (by omega)), fun i hi => ⟨by rw [f _ (by omega)]; exact (m3 i hi).1, fun z => ((m3 i hi).2 z).keep (f _ (by omega))⟩, fun j hj => by rw [f _ (by omega)]; exact m4 j hj, by rw [f _ (by omega)]; exact m5⟩
theorem c_trialPlay (hl : pCl sh P b sw) (hS : pSok S) (hSI : pStI J (b + 36) 0 S) (hwo : wo < 3) : ∃ J', fX5_play (n, sh, P, J) (b + 46) (tp_rI wo) = some (n, sh, P, J') ∧ fX5_length (n, sh, P, J') (b + 46) = some (nI (tp_len (tp_res S wo))) ∧ tp_len (tp_res S wo) < 5000 ∧ ∀ c, (c < b + 46 ∨ b + 71 ≤ c) → J' c = J c := by
  obtain ⟨J', e, ⟨tk, d1, d2, d3, d4⟩, f⟩ := p_play (n := n) hl.2.2.2.2.1 hl.2.2.2.1 (by omega) hS hSI hwo
  exact ⟨J', e, p_len hl.2.2.2.2.1 d2 d3 d4, tp_len_b d3 d4, fun c hc => f c (by omega)⟩
theorem c_copy (hl : pCl sh P b sw) (hok : pOk C) (hI : pCI I b sw C) : ∃ J, fX6_copyFrom (n, sh, P, I) (b + 36) (b + 1) = some (n, sh, P, J) ∧ pStI J (b + 36) 0 C.1 ∧ ∀ c, (c < b + 36 ∨ b + 46 ≤ c) → J c = I c := by
  obtain ⟨J, e, s, f⟩ := p_copyState (n := n) hl.2.2.2.1 hl.2.1 (by omega) (fun t ht => (hok.1.2.2.2 t ht).1) hI.1
  exact ⟨J, e, s, fun c hc => f c (by omega)⟩
theorem q_goC (hm : pMo sh P m) (hok : pOk C) (hM : pMc I m C) (hab : ab < 3) (hwo : wo < 3) (htu : turns ≤ 2) : ∃ I', fX8_goThrough (n, sh, P, I) m (nI turns) (tp_rI wo) (tp_al ab) = some (nI (tp_len (tp_run C.1 (tp_Kf C.1 ab) wo turns)), (n, sh, P, I')) ∧ pMc I' m C ∧ ∀ c, (c < m + 7 ∨ m + 19 ≤ c) → I' c = I c := by
  obtain ⟨I', e, -, f⟩ := q_go (n := n) hm hok.1 hM.1 hab hwo htu
  exact ⟨I', e, hM.run f, f⟩
theorem tp_st_run (S : tp_S) (k : Nat) : tp_res (tp_st S 0 k) 2 = tp_run S (tp_Kf S 2) 2 k := by
  unfold tp_res tp_run
  rw [tp_sched_eq (S := S) (S' := tp_st S 0 k) rfl rfl rfl, tp_Kf_eq (S := S) (S' := tp_st S 0 k) (ab := 2) rfl (fun _ _ => rfl)]
  rfl
theorem c_byTurns (hl : pCl sh P b sw) (hok : pOk C) (hI : pCI I b sw C) (hk : k ≤ 2) : ∃ J, fX7_lengthByTurns (n, sh, P, I) b (nI k) = some (nI (tp_len (tp_run C.1 (tp_Kf C.1 2) 2 k)), (n, sh, P, J)) ∧ tp_len (tp_run C.1 (tp_Kf C.1 2) 2 k) < 5000 ∧ pCI J b sw C ∧ ∀ c, (c < b + 36 ∨ b + 71 ≤ c) → J c = I c := by
  obtain ⟨J1, e1, s1, f1⟩ := c_copy (n := n) hl hok hI
  have hst := hl.2.2.2.1
  have hS2 : pSok (tp_st C.1 0 k) := ⟨hk, hok.1.2.1, hok.1.2.2.1, hok.1.2.2.2⟩
  obtain ⟨J2, e2, l2, b2, f2⟩ := c_trialPlay (n := n) (wo := 2) (J := tw_up J1 (b + 36 + 1) 0 (nI k)) hl hS2 s1.set (by decide)
  rw [tp_st_run] at l2 b2
  have f3 : ∀ c, (c < b + 36 ∨ b + 71 ≤ c) → J2 c = I c := fun c hc => by rw [f2 c (by omega), tw_up_a (by omega), f1 c (by omega)]
  refine ⟨J2, ?_, b2, hI.trial f3, f3⟩
  unfold fX7_lengthByTurns
  rw [c_is hl, Option.bind_some, c_P2 hl, Option.bind_some, c_P0 hl, Option.bind_some, e1, Option.bind_some, c_P2 hl, Option.bind_some, r_sP0 hst, Option.bind_some, tp_0, e_wI hst.2.2.2.2.2.1 (show 0 < 3 by decide) (by decide), Option.bind_some, c_P3 hl, Option.bind_some, show (-6 : Int32) = tp_rI 2 from rfl, e2, Option.bind_some, c_P3 hl, Option.bind_some, l2, Option.bind_some]
end TPW
section TPWO
variable {b : Nat} {σ : tw_St}
theorem o_alone (h : pV b σ) (x1 : Int32) : ∃ y σ1 σ2, fX7_alone σ b x1 = some (y, σ1) ∧ fX8_alone σ1 (b + 160) x1 = some (y, σ2) ∧ pV b σ2 := by
  obtain ⟨n, sh, P, I⟩ := σ
  obtain ⟨C, sw, hok, hl, hm, hI, hM⟩ := h
  dsimp only at hl hm hI hM
  have hv := pV.same (n := n) hok hl hm hI hM
  have hst := hl.2.2.2.1
  rcases tp_th x1 with ⟨t, ht, rfl⟩ | hno
  · obtain ⟨J1, e1, s1, f1⟩ := c_copy (n := n) hl hok hI
    have h1t : 1 - t < 2 := by omega
    have hpr := (hst.2.2.2.2.2.2.2.2 (1 - t) h1t).2.1
    have hpg : b + 39 ≤ pPg (b + 36) 0 (1 - t) ∧ pPg (b + 36) 0 (1 - t) < b + 43 := by unfold pPg; omega
    have hS2 : pSok (tp_pg C.1 (1 - t) 0 (C.1.2.2.1 (1 - t))) := tp_pg_ok hok.1 (by decide) (fun k hk => absurd hk (Nat.not_lt_zero k))
    obtain ⟨J2, e2, l2, b2, f2⟩ := c_trialPlay (n := n) (wo := 2) (J := tw_up J1 (pPg (b + 36) 0 (1 - t)) 0 (nI 0)) hl hS2 (s1.pg h1t tw_up_at (fun k hk => absurd hk (Nat.not_lt_zero k)) (fun c _ _ c3 _ => tw_up_a c3)) (by decide)
    have f3 : ∀ c, (c < b + 36 ∨ b + 71 ≤ c) → J2 c = I c := fun c hc => by rw [f2 c (by omega), tw_up_a (by omega), f1 c (by omega)]
    have hI2 := hI.trial f3
    have hM2 : pMc J2 (b + 160) C := hM.kept (fun c hc => f3 c (by omega))
    obtain ⟨J4, e4, hM4, f4⟩ := q_goC (n := n) (ab := 1 - t) (wo := 2) (turns := C.1.1 0) hm hok hM2 (by omega) (by decide) hok.1.1
    have h3 : (tp_pg C.1 (1 - t) 0 (C.1.2.2.1 (1 - t))).2.2 = C.1.2.2 := by
      unfold tp_pg
      dsimp only
      refine Prod.ext ?_ rfl
      funext s
      dsimp only
      split
      · rename_i e; rw [e]
      · rfl
    have hrun : tp_res (tp_pg C.1 (1 - t) 0 (C.1.2.2.1 (1 - t))) 2 = tp_run C.1 (tp_Kf C.1 (1 - t)) 2 (C.1.1 0) := by
      unfold tp_res tp_run
      rw [tp_sched_eq (S := C.1) (S' := tp_pg C.1 (1 - t) 0 (C.1.2.2.1 (1 - t))) rfl rfl h3, tp_Kf_eq (S := C.1) (ab := 1 - t) h3 (fun s hs => ?_)]
      · rfl
      · unfold tp_pg tp_u
        dsimp only
        rw [if_neg (by omega)]
    rw [hrun] at l2
    have hal : nI t = tp_al (1 - t) := by
      rcases (show t = 0 ∨ t = 1 by omega) with rfl | rfl <;> rfl
    refine ⟨nI (tp_len (tp_run C.1 (tp_Kf C.1 (1 - t)) 2 (C.1.1 0))), (n, sh, P, J2), (n, sh, P, J4), ?_, ?_, pV.same hok hl hm (hI2.kept (fun c hc => f4 c (by omega))) hM4⟩
    · unfold fX7_alone
      rw [c_is hl, Option.bind_some, c_thread _ ht, Option.bind_some, if_neg (show ¬ nI 1 = 0 by decide), c_P2 hl, Option.bind_some, c_P0 hl, Option.bind_some, e1, Option.bind_some, c_P2 hl, Option.bind_some, r_sP1 hst, Option.bind_some, tp_1, pk_sub (show t ≤ 1 by omega), r_spg hst h1t, Option.bind_some, tp_0, e_pI hpr.1, Option.bind_some, c_P3 hl, Option.bind_some, show (-6 : Int32) = tp_rI 2 from rfl, e2, Option.bind_some, c_P3 hl, Option.bind_some, l2, Option.bind_some]
    · unfold fX8_alone
      have v0 := hM2.1.1 0 (by decide)
      rw [Nat.zero_add] at v0
      rw [q_is hm, Option.bind_some, q_thread _ ht, Option.bind_some, if_neg (show ¬ nI 1 = 0 by decide), q_P0 hm, Option.bind_some, tp_0, q_a1 hm (show 0 < 210 by decide), Option.bind_some, v0, show (-6 : Int32) = tp_rI 2 from rfl, hal, e4, Option.bind_some]
  · refine ⟨-1, (n, sh, P, I), (n, sh, P, I), ?_, ?_, hv⟩
    · unfold fX7_alone
      rw [c_is hl, Option.bind_some, c_noThread _ hno, Option.bind_some, if_pos (show nI 0 = 0 from rfl)]
    · unfold fX8_alone
      rw [q_is hm, Option.bind_some, q_noThread _ hno, Option.bind_some, if_pos (show nI 0 = 0 from rfl)]
theorem tw_lo0 : tw_lo 0 = some (nI 0) := rfl
theorem tw_hi0 : tw_hi 0 = some (nI 2) := rfl
theorem o_lengthWith (h : pV b σ) (x1 : Int32) : ∃ y σ1 σ2, fX7_lengthWith σ b x1 = some (y, σ1) ∧ fX8_lengthWith σ1 (b + 160) x1 = some (y, σ2) ∧ pV b σ2 := by
  obtain ⟨n, sh, P, I⟩ := σ
  obtain ⟨C, sw, hok, hl, hm, hI, hM⟩ := h
  dsimp only at hl hm hI hM
  have hv := pV.same (n := n) hok hl hm hI hM
  rcases tp_x x1 3 with hneg | ⟨k, hk, hk2, rfl⟩ | ⟨k, hk, hk2, rfl⟩
  · refine ⟨-2, (n, sh, P, I), (n, sh, P, I), ?_, ?_, hv⟩
    · unfold fX7_lengthWith
      rw [c_is hl, Option.bind_some, tw_lo0, Option.bind_some, if_pos (show x1 < nI 0 from hneg)]
    · unfold fX8_lengthWith
      rw [q_is hm, Option.bind_some, tp_0, q_in_neg _ hneg (by decide), Option.bind_some, if_pos rfl]
  · obtain ⟨J2, e2, b2, hI2, f2⟩ := c_byTurns (n := n) hl hok hI (show k ≤ 2 by omega)
    have hM2 : pMc J2 (b + 160) C := hM.kept (fun c hc => f2 c (by omega))
    obtain ⟨J4, e4, hM4, f4⟩ := q_goC (n := n) (ab := 2) (wo := 2) (turns := k) hm hok hM2 (by decide) (by decide) (by omega)
    refine ⟨nI (tp_len (tp_run C.1 (tp_Kf C.1 2) 2 k)), (n, sh, P, J2), (n, sh, P, J4), ?_, ?_, pV.same hok hl hm (hI2.kept (fun c hc => f4 c (by omega))) hM4⟩
    · unfold fX7_lengthWith
      rw [c_is hl, Option.bind_some, tw_lo0, Option.bind_some, if_neg (show ¬ nI k < nI 0 from nI_neg hk2), tw_hi0, Option.bind_some, if_pos (show nI k ≤ nI 2 from nI_le (by omega) (by decide)), e2, Option.bind_some]
    · unfold fX8_lengthWith
      rw [q_is hm, Option.bind_some, show fX8_in (n, sh, P, J2) (nI k) 0 2 = _ from q_in _ hk2 (show 0 < 2 ^ 31 by decide) (show 2 < 2 ^ 31 by decide), if_pos (show 0 ≤ k ∧ k ≤ 2 by omega), Option.bind_some, if_neg (show ¬ nI 1 = 0 by decide)]
      have : fX8_goThrough (n, sh, P, J2) (b + 160) (nI k) (-6) (-6) = fX8_goThrough (n, sh, P, J2) (b + 160) (nI k) (tp_rI 2) (tp_al 2) := rfl
      rw [this, e4, Option.bind_some]
  · refine ⟨-2, (n, sh, P, I), (n, sh, P, I), ?_, ?_, hv⟩
    · unfold fX7_lengthWith
      rw [c_is hl, Option.bind_some, tw_lo0, Option.bind_some, if_neg (show ¬ nI k < nI 0 from nI_neg hk2), tw_hi0, Option.bind_some, if_neg (show ¬ nI k ≤ nI 2 from nI_ge (show 2 < k by omega) hk2)]
    · unfold fX8_lengthWith
      rw [q_is hm, Option.bind_some, show fX8_in (n, sh, P, I) (nI k) 0 2 = _ from q_in _ hk2 (show 0 < 2 ^ 31 by decide) (show 2 < 2 ^ 31 by decide), if_neg (show ¬ (0 ≤ k ∧ k ≤ 2) by omega), Option.bind_some, if_pos (show nI 0 = 0 from rfl)]
theorem o_lengthWithout (h : pV b σ) (x1 : Int32) : ∃ y σ1 σ2, fX7_lengthWithout σ b x1 = some (y, σ1) ∧ fX8_lengthWithout σ1 (b + 160) x1 = some (y, σ2) ∧ pV b σ2 := by
  obtain ⟨n, sh, P, I⟩ := σ
  obtain ⟨C, sw, hok, hl, hm, hI, hM⟩ := h
  dsimp only at hl hm hI hM
  have hv := pV.same (n := n) hok hl hm hI hM
  rcases tp_x x1 2 with hneg | ⟨k, hk, hk2, rfl⟩ | ⟨k, hk, hk2, rfl⟩
  · have hne : ∀ k : Int32, ¬ k < 0 → ¬ x1 = k := fun k hk z => hk (z ▸ hneg)
    refine ⟨-2, (n, sh, P, I), (n, sh, P, I), ?_, ?_, hv⟩
    · unfold fX7_lengthWithout
      rw [c_is hl, Option.bind_some, if_neg (hne 0 (by decide)), if_neg (hne 1 (by decide))]
    · unfold fX8_lengthWithout
      rw [q_is hm, Option.bind_some, tp_0, q_in_neg _ hneg (by decide), Option.bind_some, if_pos rfl]
  · have hri : nI k = tp_rI k := by unfold tp_rI; rw [if_neg (by omega)]
    obtain ⟨J1, e1, s1, f1⟩ := c_copy (n := n) hl hok hI
    obtain ⟨J2, e2, l2, b2, f2⟩ := c_trialPlay (n := n) (wo := k) hl hok.1 s1 (by omega)
    have f3 : ∀ c, (c < b + 36 ∨ b + 71 ≤ c) → J2 c = I c := fun c hc => by rw [f2 c (by omega), f1 c (by omega)]
    have hI2 := hI.trial f3
    have hM2 : pMc J2 (b + 160) C := hM.kept (fun c hc => f3 c (by omega))
    obtain ⟨J4, e4, hM4, f4⟩ := q_goC (n := n) (ab := 2) (wo := k) (turns := C.1.1 0) hm hok hM2 (by decide) (by omega) hok.1.1
    have hb12 : fX7_lengthWithout_b12 (n, sh, P, I) b (nI k) = some (nI (tp_len (tp_res C.1 k)), (n, sh, P, J2)) := by
      unfold fX7_lengthWithout_b12
      rw [c_P2 hl, Option.bind_some, c_P0 hl, Option.bind_some, e1, Option.bind_some, c_P3 hl, Option.bind_some, hri, e2, Option.bind_some, c_P3 hl, Option.bind_some, l2, Option.bind_some]
    refine ⟨nI (tp_len (tp_res C.1 k)), (n, sh, P, J2), (n, sh, P, J4), ?_, ?_, pV.same hok hl hm (hI2.kept (fun c hc => f4 c (by omega))) hM4⟩
    · unfold fX7_lengthWithout
      rcases (show k = 0 ∨ k = 1 by omega) with rfl | rfl
      · rw [c_is hl, Option.bind_some, if_pos (show nI 0 = 0 from rfl), hb12]
      · rw [c_is hl, Option.bind_some, if_neg (show ¬ nI 1 = 0 by decide), if_pos (show nI 1 = 1 from rfl), hb12]
    · unfold fX8_lengthWithout
      have v0 := hM2.1.1 0 (by decide)
      rw [Nat.zero_add] at v0
      rw [q_is hm, Option.bind_some, show fX8_in (n, sh, P, J2) (nI k) 0 1 = _ from q_in _ hk2 (show 0 < 2 ^ 31 by decide) (show 1 < 2 ^ 31 by decide), if_pos (show 0 ≤ k ∧ k ≤ 1 by omega), Option.bind_some, if_neg (show ¬ nI 1 = 0 by decide), q_P0 hm, Option.bind_some, tp_0, q_a1 hm (show 0 < 210 by decide), Option.bind_some, v0, hri]
      have : fX8_goThrough (n, sh, P, J2) (b + 160) (nI (C.1.1 0)) (tp_rI k) (-6) = fX8_goThrough (n, sh, P, J2) (b + 160) (nI (C.1.1 0)) (tp_rI k) (tp_al 2) := rfl
      rw [this, e4, Option.bind_some]
      rfl
  · have hne : ∀ j : Nat, j < 2 → ¬ nI k = nI j := fun j hj z => by have := (nI_eq hk2 (by omega)).mp z; omega
    refine ⟨-2, (n, sh, P, I), (n, sh, P, I), ?_, ?_, hv⟩
    · unfold fX7_lengthWithout
      rw [c_is hl, Option.bind_some, if_neg (show ¬ nI k = 0 from hne 0 (by decide)), if_neg (show ¬ nI k = 1 from hne 1 (by decide))]
    · unfold fX8_lengthWithout
      rw [q_is hm, Option.bind_some, show fX8_in (n, sh, P, I) (nI k) 0 1 = _ from q_in _ hk2 (show 0 < 2 ^ 31 by decide) (show 1 < 2 ^ 31 by decide), if_neg (show ¬ (0 ≤ k ∧ k ≤ 1) by omega), Option.bind_some, if_pos (show nI 0 = 0 from rfl)]
/-- one more way to give turns is tried: class -/
theorem c_bt {n : Nat} {sh : tw_Sh} {P : Nat → Nat → Option Nat} {I : Nat → Nat → Int32} {sw k q x y : Nat} {C : tp_C} (hl : pCl sh P b sw) (hok : pOk C) (hI : pCI I b sw C) (hk : k ≤ 2) (hy : y < 5000) : ∃ J, fX7_bestTurns_l16 (q + 1) (n, sh, P, I) b (nI x) (nI y) (nI k) = fX7_bestTurns_l16 q (n, sh, P, J) b (nI (if y ≤ tp_len (tp_run C.1 (tp_Kf C.1 2) 2 k) then x else k)) (nI (if y ≤ tp_len (tp_run C.1 (tp_Kf C.1 2) 2 k) then y else tp_len (tp_run C.1 (tp_Kf C.1 2) 2 k))) (nI (k + 1)) ∧ pCI J b sw C ∧ ∀ c, (c < b + 36 ∨ b + 71 ≤ c) → J c = I c := by
  obtain ⟨J, e, bb, hJ, f⟩ := c_byTurns (n := n) hl hok hI hk
  refine ⟨J, ?_, hJ, f⟩
  show fX7_bestTurns_h16 (fX7_bestTurns_l16 q) (n, sh, P, I) b (nI x) (nI y) (nI k) = _
  unfold fX7_bestTurns_h16 fX7_bestTurns_b43
  rw [tw_hi0, Option.bind_some, if_neg (show ¬ nI 2 < nI k from nI_nlt hk (by decide)), e, Option.bind_some, tp_1, nI_add]
  dsimp only
  by_cases d : y ≤ tp_len (tp_run C.1 (tp_Kf C.1 2) 2 k)
  · rw [if_pos (show nI y ≤ nI (tp_len (tp_run C.1 (tp_Kf C.1 2) 2 k)) from nI_le d (by omega)), if_pos d, if_pos d]
  · rw [if_neg (show ¬ nI y ≤ nI (tp_len (tp_run C.1 (tp_Kf C.1 2) 2 k)) from nI_ge (Nat.not_le.mp d) (by omega)), if_neg d, if_neg d]
theorem q_bt {n : Nat} {sh : tw_Sh} {P : Nat → Nat → Option Nat} {I : Nat → Nat → Int32} {m k q x y : Nat} {C : tp_C} (hm : pMo sh P m) (hok : pOk C) (hM : pMc I m C) (hk : k ≤ 2) (hy : y < 5000) (hb : tp_len (tp_run C.1 (tp_Kf C.1 2) 2 k) < 5000) : ∃ J, fX8_bestTurns_l14 (q + 1) (n, sh, P, I) m (nI x) (nI y) (nI k) = fX8_bestTurns_l14 q (n, sh, P, J) m (nI (if y ≤ tp_len (tp_run C.1 (tp_Kf C.1 2) 2 k) then x else k)) (nI (if y ≤ tp_len (tp_run C.1 (tp_Kf C.1 2) 2 k) then y else tp_len (tp_run C.1 (tp_Kf C.1 2) 2 k))) (nI (k + 1)) ∧ pMc J m C ∧ ∀ c, (c < m + 7 ∨ m + 19 ≤ c) → J c = I c := by
  obtain ⟨J, e, hJ, f⟩ := q_goC (n := n) (ab := 2) (wo := 2) (turns := k) hm hok hM (by decide) (by decide) hk
  refine ⟨J, ?_, hJ, f⟩
  show fX8_bestTurns_h14 (fX8_bestTurns_l14 q) (n, sh, P, I) m (nI x) (nI y) (nI k) = _
  unfold fX8_bestTurns_h14 fX8_bestTurns_b41 fX8_bestTurns_b54
  have : fX8_goThrough (n, sh, P, I) m (nI k) (-6) (-6) = fX8_goThrough (n, sh, P, I) m (nI k) (tp_rI 2) (tp_al 2) := rfl
  rw [if_neg (show ¬ (3 : Int32) ≤ nI k from nI_ge (show k < 3 by omega) (by decide)), this, e, Option.bind_some, tp_1, nI_add]
  dsimp only
  by_cases d : y ≤ tp_len (tp_run C.1 (tp_Kf C.1 2) 2 k)
  · have d' : nI y ≤ nI (tp_len (tp_run C.1 (tp_Kf C.1 2) 2 k)) := nI_le d (by omega)
    rw [if_pos d', if_pos d', if_pos d, if_pos d]
  · have d' : ¬ nI y ≤ nI (tp_len (tp_run C.1 (tp_Kf C.1 2) 2 k)) := nI_ge (Nat.not_le.mp d) (by omega)
    rw [if_neg d', if_neg d', if_neg d, if_neg d]
theorem c_btEnd (q : Nat) (σ : tw_St) (a : Nat) (x y : Int32) : fX7_bestTurns_l16 (q + 1) σ a x y (nI (1 + 1 + 1)) = some (x, σ) := by
  show fX7_bestTurns_h16 (fX7_bestTurns_l16 q) σ a x y (nI (1 + 1 + 1)) = _
  unfold fX7_bestTurns_h16
  rw [tw_hi0, Option.bind_some, if_pos (show nI 2 < nI (1 + 1 + 1) from nI_lt (show 2 < 1 + 1 + 1 by decide) (by decide))]
theorem q_btEnd (q : Nat) (σ : tw_St) (a : Nat) (x y : Int32) : fX8_bestTurns_l14 (q + 1) σ a x y (nI (1 + 1 + 1)) = some (x, σ) := by
  show fX8_bestTurns_h14 (fX8_bestTurns_l14 q) σ a x y (nI (1 + 1 + 1)) = _
  unfold fX8_bestTurns_h14
  rw [if_pos (show (3 : Int32) ≤ nI (1 + 1 + 1) from nI_le (show 3 ≤ 1 + 1 + 1 by decide) (by decide))]
theorem o_bestTurns (h : pV b σ) : ∃ y σ1 σ2, fX7_bestTurns σ b = some (y, σ1) ∧ fX8_bestTurns σ1 (b + 160) = some (y, σ2) ∧ pV b σ2 := by
  obtain ⟨n, sh, P, I⟩ := σ
  obtain ⟨C, sw, hok, hl, hm, hI, hM⟩ := h
  dsimp only at hl hm hI hM
  obtain ⟨q, hq⟩ : ∃ q, tw_F = q + 1 + 1 + 1 := ⟨99997, rfl⟩
  obtain ⟨J0, e0, b0, hI0, f0⟩ := c_byTurns (n := n) hl hok hI (show 0 ≤ 2 by decide)
  obtain ⟨-, -, b1, -, -⟩ := c_byTurns (n := n) hl hok hI (show 1 ≤ 2 by decide)
  obtain ⟨-, -, b2, -, -⟩ := c_byTurns (n := n) hl hok hI (show 2 ≤ 2 by decide)
  obtain ⟨y1, hy1⟩ : ∃ y1, y1 = (if tp_len (tp_run C.1 (tp_Kf C.1 2) 2 0) ≤ tp_len (tp_run C.1 (tp_Kf C.1 2) 2 1) then tp_len (tp_run C.1 (tp_Kf C.1 2) 2 0) else tp_len (tp_run C.1 (tp_Kf C.1 2) 2 1)) := ⟨_, rfl⟩
  have hb1 : y1 < 5000 := by rw [hy1]; split <;> assumption
  obtain ⟨J1, e1, hI1, f1⟩ := c_bt (n := n) (q := q + 1 + 1) (x := 0) hl hok hI0 (show 1 ≤ 2 by decide) b0
  rw [← hy1] at e1
  obtain ⟨J2, e2, hI2, f2⟩ := c_bt (n := n) (q := q + 1) (x := if tp_len (tp_run C.1 (tp_Kf C.1 2) 2 0) ≤ tp_len (tp_run C.1 (tp_Kf C.1 2) 2 1) then 0 else 1) hl hok hI1 (show 1 + 1 ≤ 2 by decide) hb1
  have hM2 : pMc J2 (b + 160) C := hM.kept (fun c hc => by rw [f2 c (by omega), f1 c (by omega), f0 c (by omega)])
  obtain ⟨G0, g0, hM3, u0⟩ := q_goC (n := n) (ab := 2) (wo := 2) (turns := 0) hm hok hM2 (by decide) (by decide) (by decide)
  obtain ⟨G1, g1, hM4, u1⟩ := q_bt (n := n) (q := q + 1 + 1) (x := 0) hm hok hM3 (show 1 ≤ 2 by decide) b0 b1
  rw [← hy1] at g1
  obtain ⟨G2, g2, hM5, u2⟩ := q_bt (n := n) (q := q + 1) (x := if tp_len (tp_run C.1 (tp_Kf C.1 2) 2 0) ≤ tp_len (tp_run C.1 (tp_Kf C.1 2) 2 1) then 0 else 1) hm hok hM4 (show 1 + 1 ≤ 2 by decide) hb1 b2
  refine ⟨nI (if y1 ≤ tp_len (tp_run C.1 (tp_Kf C.1 2) 2 (1 + 1)) then (if tp_len (tp_run C.1 (tp_Kf C.1 2) 2 0) ≤ tp_len (tp_run C.1 (tp_Kf C.1 2) 2 1) then 0 else 1) else 1 + 1), (n, sh, P, J2), (n, sh, P, G2), ?_, ?_, pV.same hok hl hm (hI2.kept (fun c hc => by rw [u2 c (by omega), u1 c (by omega), u0 c (by omega)])) hM5⟩
  · unfold fX7_bestTurns
    rw [c_is hl, Option.bind_some, tw_lo0, Option.bind_some, e0, Option.bind_some, tp_1, nI_add, hq]
    dsimp only
    rw [show nI (0 + 1) = nI 1 from rfl, e1, e2]
    exact c_btEnd _ _ _ _ _
  · unfold fX8_bestTurns
    have : fX8_goThrough (n, sh, P, J2) (b + 160) 0 (-6) (-6) = fX8_goThrough (n, sh, P, J2) (b + 160) (nI 0) (tp_rI 2) (tp_al 2) := rfl
    rw [q_is hm, Option.bind_some, this, g0, Option.bind_some, hq]
    dsimp only
    rw [tp_0, tp_1, g1, g2]
    exact q_btEnd _ _ _ _ _
end TPWO
