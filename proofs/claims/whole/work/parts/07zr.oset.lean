section TPOS
variable {b : Nat} {σ : tw_St}
theorem o_set (h : pV b σ) (x1 x2 : Int32) : ∃ y σ1 σ2, fX7_set σ b x1 x2 = some (y, σ1) ∧ fX8_set σ1 (b + 160) x1 x2 = some (y, σ2) ∧ pV b σ2 := by
  obtain ⟨n, sh, P, I⟩ := σ
  obtain ⟨C, sw, hok, hl, hm, hI, hM⟩ := h
  dsimp only at hl hm hI hM
  have hv := pV.same (n := n) hok hl hm hI hM
  have hst := hl.2.1
  have h5 := hst.2.2.2.2.2.1
  have main : ∀ j lo hi : Nat, j < 3 → hi < 10 → tw_lo (nI j) = some (nI lo) → tw_hi (nI j) = some (nI hi) → (∀ a, lo ≤ a → a ≤ hi → pSok (tp_st C.1 j a)) → lo ≤ hi → (∀ J, fX8_set (n, sh, P, J) (b + 160) (nI j) x2 = fX8_set_b29 (n, sh, P, J) (b + 160) (nI j) x2 (nI hi) (nI lo) x2) → ∃ y σ1 σ2, fX7_set (n, sh, P, I) b (nI j) x2 = some (y, σ1) ∧ fX8_set σ1 (b + 160) (nI j) x2 = some (y, σ2) ∧ pV b σ2 := by
    intro j lo hi hj hhi elo ehi hS' hlo eq
    have bad : (∀ J, fX8_in (n, sh, P, J) x2 (nI lo) (nI hi) = some (nI 0)) → fX7_set (n, sh, P, I) b (nI j) x2 = some (-2, (n, sh, P, I)) → ∃ y σ1 σ2, fX7_set (n, sh, P, I) b (nI j) x2 = some (y, σ1) ∧ fX8_set σ1 (b + 160) (nI j) x2 = some (y, σ2) ∧ pV b σ2 :=
      fun hq hc => ⟨-2, (n, sh, P, I), (n, sh, P, I), hc, by rw [eq]; unfold fX8_set_b29; rw [hq, Option.bind_some, if_pos (show nI 0 = 0 from rfl)], hv⟩
    have hj0 : ¬ nI j < 0 := nI_neg (by omega)
    have hj3 : ¬ (3 : Int32) ≤ nI j := nI_ge hj (by decide)
    rcases tp_x x2 (hi + 1) with hneg | ⟨a, ha, ha2, rfl⟩ | ⟨a, ha, ha2, rfl⟩
    · refine bad (fun J => q_in_neg _ hneg (by omega)) ?_
      unfold fX7_set
      rw [c_is hl, Option.bind_some, if_neg hj0, if_neg hj3, elo, Option.bind_some, if_pos (show x2 < nI lo from tp_ltn hneg (by omega))]
    · by_cases e : a < lo
      · refine bad (fun J => by rw [q_in _ ha2 (by omega) (by omega), if_neg (by omega)]) ?_
        unfold fX7_set
        rw [c_is hl, Option.bind_some, if_neg hj0, if_neg hj3, elo, Option.bind_some, if_pos (show nI a < nI lo from nI_lt e (by omega))]
      · have hS2 := hS' a (by omega) (by omega)
        obtain ⟨J1, e1, r1, f1⟩ := c_rec (n := n) hl hok hI
        have s1 : pStI J1 (b + 1) sw C.1 := hI.1.kept (fun c x y => f1 c (by omega))
        obtain ⟨J3, e3, i3, f3, -⟩ := c_play (n := n) (J2 := tw_up J1 (b + 1 + 1) j (nI a)) hl hI hS2 (r1.kept (fun c x y => tw_up_a (by omega))) s1.set (fun c c1 c2 => by rw [tw_up_a (by omega)]; exact f1 c (by omega))
        have hM3 := hM.kept (fun c hc => f3 c hc)
        obtain ⟨J4, e4, r4, f4, k4⟩ := q_recC (n := n) hm hok hM3
        have v1 : I (b + 1 + 1) j = nI (C.1.1 j) := hI.1.1 j hj
        have v2 : J4 (b + 160 + 1) j = nI (C.1.1 j) := by
          rw [f4 _ (by omega) (by omega)]
          have := hM3.1.1 j hj
          rw [Nat.zero_add] at this
          exact this
        refine ⟨nI (C.1.1 j), (n, sh, P, J3), (n, sh, P, tw_up J4 (b + 160 + 1) j (nI a)), ?_, ?_, pV.chg hok hS2 hl hm i3 (hM3.chg (r4.kept (by rw [tw_up_a (by omega)]) (tw_up_a (by omega))) ((hM3.1.keep (f4 _ (by omega) (by omega))).set hj) (fun c c1 c2 c3 _ _ => by rw [tw_up_a c2]; exact f4 c c1 c3) (by rw [tw_up_a (by omega)]; exact k4 6 (by decide))) (fun c hc => by rw [tw_up_a (by omega)]; exact f4 c (by omega) (by omega))⟩
        · unfold fX7_set
          rw [c_is hl, Option.bind_some, if_neg hj0, if_neg hj3, elo, Option.bind_some, if_neg (show ¬ nI a < nI lo from nI_nlt (by omega) ha2), ehi, Option.bind_some, if_pos (show nI a ≤ nI hi from nI_le (by omega) (by omega)), c_P0 hl, Option.bind_some, r_sP0 hst, Option.bind_some, r_sse hst hj, Option.bind_some, c_P6 hl, Option.bind_some, Option.bind_some, e1, Option.bind_some, c_P0 hl, Option.bind_some, r_sP0 hst, Option.bind_some, e_wI h5 hj (by decide), Option.bind_some, c_P1 hl, Option.bind_some, e3, Option.bind_some, v1]
        · rw [eq]
          unfold fX8_set_b29
          rw [q_in _ ha2 (by omega) (by omega), if_pos (show lo ≤ a ∧ a ≤ hi by omega), Option.bind_some, if_neg (show ¬ nI 1 = 0 by decide), e4, Option.bind_some, q_P0 hm, Option.bind_some, q_a1 hm (by omega), Option.bind_some, Option.bind_some, q_w1 hm (by omega), Option.bind_some, v2]
    · refine bad (fun J => by rw [q_in _ ha2 (by omega) (by omega), if_neg (by omega)]) ?_
      unfold fX7_set
      rw [c_is hl, Option.bind_some, if_neg hj0, if_neg hj3, elo, Option.bind_some, if_neg (show ¬ nI a < nI lo from nI_nlt (by omega) ha2), ehi, Option.bind_some, if_neg (show ¬ nI a ≤ nI hi from nI_ge (by omega) ha2)]
  obtain ⟨hok0, hok1, hok2, hok3⟩ := hok.1
  have q3 : ∀ (J : Nat → Nat → Int32) (j : Nat), 1 ≤ j → j < 3 → fX8_set (n, sh, P, J) (b + 160) (nI j) x2 = fX8_set_b29 (n, sh, P, J) (b + 160) (nI j) x2 (nI 9) (nI 1) x2 := by
    intro J j h1 h2
    have hne : ¬ nI j = 0 := nI_ne0 (by omega) (by omega)
    unfold fX8_set fX8_set_b19
    rw [q_is hm, Option.bind_some, show fX8_in (n, sh, P, J) (nI j) 0 2 = _ from q_in _ (by omega) (show 0 < 2 ^ 31 by decide) (show 2 < 2 ^ 31 by decide), if_pos (show 0 ≤ j ∧ j ≤ 2 by omega), Option.bind_some, if_neg (show ¬ nI 1 = 0 by decide), if_neg hne, if_neg hne]
    rfl
  rcases tp_x x1 3 with hneg | ⟨j, hj, hj2, rfl⟩ | ⟨j, hj, hj2, rfl⟩
  · refine ⟨-2, (n, sh, P, I), (n, sh, P, I), ?_, ?_, hv⟩
    · unfold fX7_set
      rw [c_is hl, Option.bind_some, if_pos hneg]
    · unfold fX8_set
      rw [q_is hm, Option.bind_some, tp_0, q_in_neg _ hneg (by decide), Option.bind_some, if_pos rfl]
  · rcases (show j = 0 ∨ j = 1 ∨ j = 2 by omega) with rfl | rfl | rfl
    · refine main 0 0 2 (by decide) (by decide) rfl rfl (fun a h1 h2 => ⟨h2, hok1, hok2, hok3⟩) (by decide) (fun J => ?_)
      unfold fX8_set fX8_set_b19
      rw [q_is hm, Option.bind_some, show fX8_in (n, sh, P, J) (nI 0) 0 2 = _ from q_in _ (by omega) (show 0 < 2 ^ 31 by decide) (show 2 < 2 ^ 31 by decide), if_pos (show 0 ≤ 0 ∧ 0 ≤ 2 by omega), Option.bind_some, if_neg (show ¬ nI 1 = 0 by decide), if_pos (show nI 0 = 0 from rfl), if_pos (show nI 0 = 0 from rfl)]
      rfl
    · exact main 1 1 9 (by decide) (by decide) rfl rfl (fun a h1 h2 => ⟨hok0, ⟨h1, h2⟩, hok2, hok3⟩) (by decide) (fun J => q3 J 1 (by decide) (by decide))
    · exact main 2 1 9 (by decide) (by decide) rfl rfl (fun a h1 h2 => ⟨hok0, hok1, ⟨h1, h2⟩, hok3⟩) (by decide) (fun J => q3 J 2 (by decide) (by decide))
  · refine ⟨-2, (n, sh, P, I), (n, sh, P, I), ?_, ?_, hv⟩
    · unfold fX7_set
      rw [c_is hl, Option.bind_some, if_neg (show ¬ nI j < 0 from nI_neg hj2), if_pos (show (3 : Int32) ≤ nI j from nI_le hj hj2)]
    · unfold fX8_set
      rw [q_is hm, Option.bind_some, show fX8_in (n, sh, P, I) (nI j) 0 2 = _ from q_in _ hj2 (show 0 < 2 ^ 31 by decide) (show 2 < 2 ^ 31 by decide), if_neg (show ¬ (0 ≤ j ∧ j ≤ 2) by omega), Option.bind_some, if_pos (show nI 0 = 0 from rfl)]
theorem o_drop (h : pV b σ) (x1 : Int32) : ∃ y σ1 σ2, fX7_drop σ b x1 = some (y, σ1) ∧ fX8_drop σ1 (b + 160) x1 = some (y, σ2) ∧ pV b σ2 := by
  obtain ⟨n, sh, P, I⟩ := σ
  obtain ⟨C, sw, hok, hl, hm, hI, hM⟩ := h
  dsimp only at hl hm hI hM
  have hv := pV.same (n := n) hok hl hm hI hM
  have hst := hl.2.1
  have hz : ∀ t, t < 2 → C.1.2.1 t ≤ 12 := fun t ht => (hok.1.2.2.2 t ht).1
  rcases tp_th x1 with ⟨t, ht, rfl⟩ | hno
  · have hpr := (hst.2.2.2.2.2.2.2.2 t ht).2.1
    have hpg : b + 4 ≤ pPg (b + 1) sw t ∧ pPg (b + 1) sw t < b + 8 := by unfold pPg; omega
    obtain ⟨c1, c2, c3⟩ := hI.1.2 t ht
    have hS2 : pSok (tp_pg C.1 t 0 (C.1.2.2.1 t)) := tp_pg_ok hok.1 (by decide) (fun k hk => absurd hk (Nat.not_lt_zero k))
    obtain ⟨J1, e1, r1, f1⟩ := c_rec (n := n) hl hok hI
    have s1 : pStI J1 (b + 1) sw C.1 := hI.1.kept (fun c x y => f1 c (by omega))
    obtain ⟨J3, e3, i3, f3, -⟩ := c_play (n := n) (J2 := tw_up J1 (pPg (b + 1) sw t) 0 (nI 0)) hl hI hS2 (r1.kept (fun c x y => tw_up_a (by omega))) (s1.pg ht tw_up_at (fun k hk => absurd hk (Nat.not_lt_zero k)) (fun c _ _ c3 _ => tw_up_a c3)) (fun c c1 c2 => by rw [tw_up_a (by omega)]; exact f1 c (by omega))
    have hM3 := hM.kept (fun c hc => f3 c hc)
    obtain ⟨J4, e4, r4, f4, k4⟩ := q_recC (n := n) hm hok hM3
    have hM4 := hM3.1.keep (f4 _ (by omega) (by omega))
    refine ⟨nI (C.1.2.1 t), (n, sh, P, J3), (n, sh, P, tw_up J4 (b + 160 + 1) (10 + 100 * t) (nI 0)), ?_, ?_, pV.chg hok hS2 hl hm i3 (hM3.chg (r4.kept (by rw [tw_up_a (by omega)]) (tw_up_a (by omega))) (hM4.pg hz ht (by decide) tw_up_at (fun k hk => absurd hk (Nat.not_lt_zero k)) (fun q hq => tw_up_k (by omega))) (fun c c1 c2 c3 _ _ => by rw [tw_up_a c2]; exact f4 c c1 c3) (by rw [tw_up_a (by omega)]; exact k4 6 (by decide))) (fun c hc => by rw [tw_up_a (by omega)]; exact f4 c (by omega) (by omega))⟩
    · unfold fX7_drop
      rw [c_is hl, Option.bind_some, c_thread _ ht, Option.bind_some, if_neg (show ¬ nI 1 = 0 by decide), c_P0 hl, Option.bind_some, r_sP1 hst, Option.bind_some, r_spg hst ht, Option.bind_some, e_gI hpr.1, Option.bind_some, c_P6 hl, Option.bind_some, Option.bind_some, e1, Option.bind_some, c_P0 hl, Option.bind_some, r_sP1 hst, Option.bind_some, r_spg hst ht, Option.bind_some, tp_0, e_pI hpr.1, Option.bind_some, c_P1 hl, Option.bind_some, e3, Option.bind_some, c1]
    · unfold fX8_drop
      rw [q_is hm, Option.bind_some, q_thread _ ht, Option.bind_some, if_neg (show ¬ nI 1 = 0 by decide), e4, Option.bind_some, q_many hm hM4 ht, Option.bind_some, q_P0 hm, Option.bind_some, show (10 : Int32) = nI 10 from rfl, show (100 : Int32) = nI 100 from rfl, pk_mul, nI_add, tp_0, q_w1 hm (by omega), Option.bind_some]
  · refine ⟨-1, (n, sh, P, I), (n, sh, P, I), ?_, ?_, hv⟩
    · unfold fX7_drop
      rw [c_is hl, Option.bind_some, c_noThread _ hno, Option.bind_some, if_pos (show nI 0 = 0 from rfl)]
    · unfold fX8_drop
      rw [q_is hm, Option.bind_some, q_noThread _ hno, Option.bind_some, if_pos (show nI 0 = 0 from rfl)]
theorem o_first (h : pV b σ) (x1 x2 x3 : Int32) : ∃ y σ1 σ2, fX7_first σ b x1 x2 x3 = some (y, σ1) ∧ fX8_first σ1 (b + 160) x1 x2 x3 = some (y, σ2) ∧ pV b σ2 := by
  obtain ⟨n, sh, P, I⟩ := σ
  obtain ⟨C, sw, hok, hl, hm, hI, hM⟩ := h
  dsimp only at hl hm hI hM
  have hv := pV.same (n := n) hok hl hm hI hM
  have hst := hl.2.1
  have hz : ∀ t, t < 2 → C.1.2.1 t ≤ 12 := fun t ht => (hok.1.2.2.2 t ht).1
  rcases tp_th x1 with ⟨t, ht, rfl⟩ | hno
  · have hfc := (hst.2.2.2.2.2.2.2.2 t ht).2.2.2
    have hfv : b + 9 ≤ pFv (b + 1) sw t ∧ pFv (b + 1) sw t < b + 11 := by unfold pFv; omega
    obtain ⟨c1, c2, c3⟩ := hI.1.2 t ht
    have hx7 : ∀ v, fX7_first (n, sh, P, I) b (nI t) x2 x3 = v ↔ (if x2 < 0 then some ((-1), (n, sh, P, I)) else if x2 < 12 then if x3 < 0 then some ((-2), (n, sh, P, I)) else if x3 < 1000 then fX7_first (n, sh, P, I) b (nI t) x2 x3 else some ((-2), (n, sh, P, I)) else some ((-1), (n, sh, P, I))) = v := by
      intro v
      unfold fX7_first
      rw [c_is hl, Option.bind_some, c_thread _ ht, Option.bind_some, if_neg (show ¬ nI 1 = 0 by decide)]
      by_cases d1 : x2 < 0
      · rw [if_pos d1, if_pos d1]
      · rw [if_neg d1, if_neg d1]
        by_cases d2 : x2 < 12
        · rw [if_pos d2, if_pos d2]
          by_cases d3 : x3 < 0
          · rw [if_pos d3, if_pos d3]
          · rw [if_neg d3, if_neg d3]
            by_cases d4 : x3 < 1000
            · rw [if_pos d4, if_pos d4]
            · rw [if_neg d4, if_neg d4]
        · rw [if_neg d2, if_neg d2]
    rcases tp_x x2 12 with hneg | ⟨d, hd, hd2, rfl⟩ | ⟨d, hd, hd2, rfl⟩
    · refine ⟨-1, (n, sh, P, I), (n, sh, P, I), ?_, ?_, hv⟩
      · rw [hx7, if_pos hneg]
      · unfold fX8_first
        rw [q_is hm, Option.bind_some, q_thread _ ht, Option.bind_some, if_neg (show ¬ nI 1 = 0 by decide), tp_0, q_in_neg _ hneg (by decide), Option.bind_some, if_pos rfl]
    · have hq8 : ∀ J, fX8_first (n, sh, P, J) (b + 160) (nI t) (nI d) x3 = (fX8_in (n, sh, P, J) x3 0 999).bind fun v24 =>
          if v24 = 0 then some ((-2), (n, sh, P, J))
          else (fX8_record (n, sh, P, J) (b + 160)).bind fun σ34 => (tw_gP σ34 8 (b + 160) 0).bind fun v52 => (tw_aI σ34 20 v52 (((10 + (100 * nI t)) + 70) + nI d)).bind fun v57 => (tw_gP σ34 8 (b + 160) 0).bind fun v61 => (tw_wI σ34 20 v61 (((10 + (100 * nI t)) + 70) + nI d) x3).bind fun σ67 => some (v57, σ67) := by
        intro J
        unfold fX8_first
        rw [q_is hm, Option.bind_some, q_thread _ ht, Option.bind_some, if_neg (show ¬ nI 1 = 0 by decide), show fX8_in (n, sh, P, J) (nI d) 0 11 = _ from q_in _ hd2 (show 0 < 2 ^ 31 by decide) (show 11 < 2 ^ 31 by decide), if_pos (show 0 ≤ d ∧ d ≤ 11 by omega), Option.bind_some, if_neg (show ¬ nI 1 = 0 by decide)]
      have hd0 : ¬ nI d < 0 := nI_neg hd2
      have hd12 : nI d < 12 := nI_lt hd (by decide)
      rcases tp_x x3 1000 with hneg | ⟨x, hx, hx2, rfl⟩ | ⟨x, hx, hx2, rfl⟩
      · refine ⟨-2, (n, sh, P, I), (n, sh, P, I), ?_, ?_, hv⟩
        · rw [hx7, if_neg hd0, if_pos hd12, if_pos hneg]
        · rw [hq8, tp_0, q_in_neg _ hneg (by decide), Option.bind_some, if_pos rfl]
      · have hS2 : pSok (tp_fv C.1 t d x) := tp_fv_ok hok.1 hx
        obtain ⟨J1, e1, r1, f1⟩ := c_rec (n := n) hl hok hI
        have s1 : pStI J1 (b + 1) sw C.1 := hI.1.kept (fun c x y => f1 c (by omega))
        obtain ⟨J3, e3, i3, f3, -⟩ := c_play (n := n) (J2 := tw_up J1 (pFv (b + 1) sw t) d (nI x)) hl hI hS2 (r1.kept (fun c x y => tw_up_a (by omega))) (s1.fv ht) (fun c c1 c2 => by rw [tw_up_a (by omega)]; exact f1 c (by omega))
        have hM3 := hM.kept (fun c hc => f3 c hc)
        obtain ⟨J4, e4, r4, f4, k4⟩ := q_recC (n := n) hm hok hM3
        have hM4 := hM3.1.keep (f4 _ (by omega) (by omega))
        have v1 := c3 d hd
        have v2 : J4 (b + 160 + 1) (10 + 100 * t + 70 + d) = nI (C.1.2.2.2 t d) := by
          have := (hM4.2 t ht).2.2 d hd
          rw [Nat.zero_add] at this
          exact this
        refine ⟨nI (C.1.2.2.2 t d), (n, sh, P, J3), (n, sh, P, tw_up J4 (b + 160 + 1) (10 + 100 * t + 70 + d) (nI x)), ?_, ?_, pV.chg hok hS2 hl hm i3 (hM3.chg (r4.kept (by rw [tw_up_a (by omega)]) (tw_up_a (by omega))) (hM4.fv hz ht hd) (fun c c1 c2 c3 _ _ => by rw [tw_up_a c2]; exact f4 c c1 c3) (by rw [tw_up_a (by omega)]; exact k4 6 (by decide))) (fun c hc => by rw [tw_up_a (by omega)]; exact f4 c (by omega) (by omega))⟩
        · unfold fX7_first
          rw [c_is hl, Option.bind_some, c_thread _ ht, Option.bind_some, if_neg (show ¬ nI 1 = 0 by decide), if_neg hd0, if_pos hd12, if_neg (show ¬ nI x < 0 from nI_neg hx2), if_pos (show nI x < 1000 from nI_lt hx (by decide)), c_P0 hl, Option.bind_some, r_sP2 hst, Option.bind_some, r_sfv hst ht, Option.bind_some, e_aI hfc hd (by decide), Option.bind_some, c_P6 hl, Option.bind_some, Option.bind_some, e1, Option.bind_some, c_P0 hl, Option.bind_some, r_sP2 hst, Option.bind_some, r_sfv hst ht, Option.bind_some, e_wI hfc hd (by decide), Option.bind_some, c_P1 hl, Option.bind_some, e3, Option.bind_some, v1]
        · rw [hq8, show fX8_in (n, sh, P, J3) (nI x) 0 999 = _ from q_in _ hx2 (show 0 < 2 ^ 31 by decide) (show 999 < 2 ^ 31 by decide), if_pos (show 0 ≤ x ∧ x ≤ 999 by omega), Option.bind_some, if_neg (show ¬ nI 1 = 0 by decide), e4, Option.bind_some, q_P0 hm, Option.bind_some, show (10 : Int32) = nI 10 from rfl, show (100 : Int32) = nI 100 from rfl, show (70 : Int32) = nI 70 from rfl, pk_mul, nI_add, nI_add, nI_add, q_a1 hm (by omega), Option.bind_some, Option.bind_some, q_w1 hm (by omega), Option.bind_some, v2]
      · refine ⟨-2, (n, sh, P, I), (n, sh, P, I), ?_, ?_, hv⟩
        · rw [hx7, if_neg hd0, if_pos hd12, if_neg (show ¬ nI x < 0 from nI_neg hx2), if_neg (show ¬ nI x < 1000 from nI_nlt hx hx2)]
        · rw [hq8, show fX8_in (n, sh, P, I) (nI x) 0 999 = _ from q_in _ hx2 (show 0 < 2 ^ 31 by decide) (show 999 < 2 ^ 31 by decide), if_neg (show ¬ (0 ≤ x ∧ x ≤ 999) by omega), Option.bind_some, if_pos (show nI 0 = 0 from rfl)]
    · refine ⟨-1, (n, sh, P, I), (n, sh, P, I), ?_, ?_, hv⟩
      · rw [hx7, if_neg (show ¬ nI d < 0 from nI_neg hd2), if_neg (show ¬ nI d < 12 from nI_nlt hd hd2)]
      · unfold fX8_first
        rw [q_is hm, Option.bind_some, q_thread _ ht, Option.bind_some, if_neg (show ¬ nI 1 = 0 by decide), show fX8_in (n, sh, P, I) (nI d) 0 11 = _ from q_in _ hd2 (show 0 < 2 ^ 31 by decide) (show 11 < 2 ^ 31 by decide), if_neg (show ¬ (0 ≤ d ∧ d ≤ 11) by omega), Option.bind_some, if_pos (show nI 0 = 0 from rfl)]
  · refine ⟨-1, (n, sh, P, I), (n, sh, P, I), ?_, ?_, hv⟩
    · unfold fX7_first
      rw [c_is hl, Option.bind_some, c_noThread _ hno, Option.bind_some, if_pos (show nI 0 = 0 from rfl)]
    · unfold fX8_first
      rw [q_is hm, Option.bind_some, q_noThread _ hno, Option.bind_some, if_pos (show nI 0 = 0 from rfl)]
end TPOS
