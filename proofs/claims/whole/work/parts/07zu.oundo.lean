section TPOU
variable {b : Nat} {σ : tw_St}
theorem o_exchange (h : pV b σ) : ∃ y σ1 σ2, fX7_exchange σ b = some (y, σ1) ∧ fX8_exchange σ1 (b + 160) = some (y, σ2) ∧ pV b σ2 := by
  obtain ⟨n, sh, P, I⟩ := σ
  obtain ⟨C, sw, hok, hl, hm, hI, hM⟩ := h
  dsimp only at hl hm hI hM
  have hz : ∀ t, t < 2 → C.1.2.1 t ≤ 12 := fun t ht => (hok.1.2.2.2 t ht).1
  have hS2 : pSok (tp_xS C.1) := tp_xS_ok hok.1
  obtain ⟨J1, e1, r1, f1⟩ := c_rec (n := n) hl hok hI
  obtain ⟨P', e2, s2, i2, f2⟩ := p_exchangeThreads (n := n) (I := J1) hl.2.1 (hI.1.kept (fun c x y => f1 c (by omega)))
  have hl2 : pCl sh P' b (1 - sw) := hl.keptP s2 f2
  have hm2 : pMo sh P' (b + 160) := hm.keptP (f2 _ (by omega))
  obtain ⟨J3, e3, i3, f3, -⟩ := c_play (n := n) (J2 := J1) hl2 hI hS2 r1 i2 (fun c c1 c2 => f1 c (by omega))
  have hM3 := hM.kept (fun c hc => f3 c hc)
  obtain ⟨J4, e4, r4, f4, k4⟩ := q_recC (n := n) hm2 hok hM3
  have hM4 := hM3.1.keep (f4 _ (by omega) (by omega))
  obtain ⟨J5, e5, x5, y5, f5⟩ := q_exchLoop (n := n) (I := J4) hm2
  have hM5 : pMc J5 (b + 160) (tp_xS C.1, tp_rec C.2.1 C.1, C.2.2) := hM3.chg (r4.kept (by rw [f5 _ (by omega)]) (f5 _ (by omega))) (hM4.xS hz x5 y5) (fun c c1 c2 c3 _ _ => by rw [f5 c c2]; exact f4 c c1 c3) (by rw [f5 _ (by omega)]; exact k4 6 (by decide))
  obtain ⟨J6, e6, -, hM6, f6⟩ := q_runC (n := n) hm2 (hok.rec hS2) hM5
  have hlen := c_len (n := n) hl2 i3
  refine ⟨nI (tp_len (tp_res (tp_xS C.1) 2)), (n, sh, P', J3), (n, sh, P', J6), ?_, ?_, pV.chg hok hS2 hl2 hm2 i3 hM6 (fun c hc => by rw [f6 c (by omega), f5 c (by omega), f4 c (by omega) (by omega)])⟩
  · unfold fX7_exchange
    rw [c_is hl, Option.bind_some, c_P6 hl, Option.bind_some, c_P0 hl, Option.bind_some, e1, Option.bind_some, c_P0 hl, Option.bind_some, e2, Option.bind_some, c_P1 hl2, Option.bind_some, e3, Option.bind_some, c_P1 hl2, Option.bind_some, hlen, Option.bind_some]
  · unfold fX8_exchange
    rw [q_is hm2, Option.bind_some, e4, Option.bind_some, show (10 : Int32) = nI 10 from rfl, e5]
    unfold fX8_exchange_b51
    rw [e6, Option.bind_some]
    rfl
theorem o_undo (h : pV b σ) : ∃ y σ1 σ2, fX7_undo σ b = some (y, σ1) ∧ fX8_undo σ1 (b + 160) = some (y, σ2) ∧ pV b σ2 := by
  obtain ⟨n, sh, P, I⟩ := σ
  obtain ⟨C, sw, hok, hl, hm, hI, hM⟩ := h
  dsimp only at hl hm hI hM
  have hv := pV.same (n := n) hok hl hm hI hM
  have hhi := hl.2.2.2.2.2.2.1
  obtain ⟨ol, o1, o2, o3, o4, o5⟩ := hI.2.2.2.1
  obtain ⟨h1, h2, h3⟩ := hM.2.1
  by_cases e0 : C.2.1.1 = 0
  · refine ⟨-5, (n, sh, P, I), (n, sh, P, I), ?_, ?_, hv⟩
    · unfold fX7_undo
      rw [c_is hl, Option.bind_some, c_P6 hl, Option.bind_some, e_gI hhi.1, Option.bind_some, o3, if_pos (show nI C.2.1.1 = 0 by rw [e0]; rfl)]
    · unfold fX8_undo
      rw [q_is hm, Option.bind_some, q_gI hm, Option.bind_some, h2, if_pos (show nI C.2.1.1 = 0 by rw [e0]; rfl)]
  · have hne : ¬ nI C.2.1.1 = 0 := nI_ne0 (by omega) (by omega)
    have hS2 : pSok (C.2.1.2 (C.2.1.1 - 1)) := hok.2.1.2 _ (by omega)
    have hz2 : ∀ t, t < 2 → (C.2.1.2 (C.2.1.1 - 1)).2.1 t ≤ 12 := fun t ht => (hS2.2.2.2 t ht).1
    obtain ⟨J2, e2, r2, s2, f2⟩ := p_takeBack (n := n) hhi hl.2.1 (by omega) (fun i hi t ht => ((hok.2.1.2 i hi).2.2.2 t ht).1) hI.2.2.2.1 (by omega)
    obtain ⟨J3, e3, i3, f3, -⟩ := c_play (n := n) (J2 := J2) hl hI hS2 r2 s2 (fun c c1 c2 => f2 c (by omega) (by omega))
    have hM3 := hM.kept (fun c hc => f3 c hc)
    obtain ⟨g1, g2, g3⟩ := hM3.2.1
    obtain ⟨J4, e4, x4, f4⟩ := q_undoLoop (n := n) (I := tw_up J3 (b + 160) 2 (nI (C.2.1.1 - 1))) (u := C.2.1.1 - 1) hm (by omega) tw_up_at
    have hM4 : pMc J4 (b + 160) (C.2.1.2 (C.2.1.1 - 1), (C.2.1.1 - 1, C.2.1.2), C.2.2) := by
      refine hM3.chg ⟨by dsimp only; omega, by rw [f4 _ (by omega), tw_up_at], fun i hi => (g3 i (by dsimp only at hi; omega)).keep (by rw [f4 _ (by omega), tw_up_a (by omega)])⟩ ((g3 (C.2.1.1 - 1) (by omega)).copy hz2 (fun k hk => by rw [Nat.zero_add, x4 k hk, tw_up_a (by omega)])) (fun c c1 c2 c3 _ _ => by rw [f4 c c2, tw_up_a c1]) (by rw [f4 _ (by omega), tw_up_k (by decide)])
    have hcnt : J3 (b + 76) 0 = nI (C.2.1.1 - 1) := by
      obtain ⟨ol', -, -, p3, -⟩ := i3.2.2.2.1
      exact p3
    refine ⟨nI (C.2.1.1 - 1), (n, sh, P, J3), (n, sh, P, J4), ?_, ?_, pV.same (C := (C.2.1.2 (C.2.1.1 - 1), (C.2.1.1 - 1, C.2.1.2), C.2.2)) (sw := sw) ⟨hS2, ⟨by dsimp only; omega, fun i hi => hok.2.1.2 i (by dsimp only at hi; omega)⟩, hok.2.2⟩ hl hm (i3.kept (fun c hc => by rw [f4 c (by omega), tw_up_a (by omega)])) hM4⟩
    · unfold fX7_undo
      rw [c_is hl, Option.bind_some, c_P6 hl, Option.bind_some, e_gI hhi.1, Option.bind_some, o3, if_neg hne, Option.bind_some, c_P0 hl, Option.bind_some, e2, Option.bind_some, c_P1 hl, Option.bind_some, e3, Option.bind_some, c_P6 hl, Option.bind_some, e_gI hhi.1, Option.bind_some, hcnt]
    · unfold fX8_undo
      rw [q_is hm, Option.bind_some, q_gI hm, Option.bind_some, g2, if_neg hne, Option.bind_some, tp_1, pk_sub (by omega), q_pI hm, Option.bind_some, tp_0, e4]
theorem o_save (h : pV b σ) (x1 : Int32) : ∃ y σ1 σ2, fX7_save σ b x1 = some (y, σ1) ∧ fX8_save σ1 (b + 160) x1 = some (y, σ2) ∧ pV b σ2 := by
  obtain ⟨n, sh, P, I⟩ := σ
  obtain ⟨C, sw, hok, hl, hm, hI, hM⟩ := h
  dsimp only at hl hm hI hM
  have hv := pV.same (n := n) hok hl hm hI hM
  have hz : ∀ t, t < 2 → C.1.2.1 t ≤ 12 := fun t ht => (hok.1.2.2.2 t ht).1
  have l7 := hl.2.2.2.2.2.2.2.1
  have l8 := hl.2.2.2.2.2.2.2.2
  rcases tp_x x1 2 with hneg | ⟨i, hi, hi2, rfl⟩ | ⟨i, hi, hi2, rfl⟩
  · refine ⟨-2, (n, sh, P, I), (n, sh, P, I), ?_, ?_, hv⟩
    · unfold fX7_save
      rw [c_is hl, Option.bind_some, if_pos hneg]
    · unfold fX8_save
      rw [q_is hm, Option.bind_some, tp_0, q_in_neg _ hneg (by decide), Option.bind_some, if_pos rfl]
  · obtain ⟨J1, e1, s1, f1⟩ := p_copyState (n := n) (l7.2 i hi).2 hl.2.1 (by omega) hz hI.1
    have hok2 : pOk (C.1, C.2.1, tp_u C.2.2.1 i 1, (fun j => if j = i then C.1 else C.2.2.2.1 j), C.2.2.2.2) := by
      refine ⟨hok.1, hok.2.1, fun j hj => ?_, hok.2.2.2⟩
      unfold tp_u
      dsimp only
      by_cases e : j = i
      · rw [if_pos e, if_pos e]; exact ⟨by decide, fun _ => hok.1⟩
      · rw [if_neg e, if_neg e]; exact hok.2.2.1 j hj
    have hI2 : pCI (tw_up J1 (b + 159) i 1) b sw (C.1, C.2.1, tp_u C.2.2.1 i 1, (fun j => if j = i then C.1 else C.2.2.2.1 j), C.2.2.2.2) := by
      obtain ⟨i1, i2, i3, i4, i5⟩ := hI
      refine ⟨i1.kept (fun c x y => by rw [tw_up_a (by omega)]; exact f1 c (by omega)), i2.kept (fun c x y _ => by rw [tw_up_a (by omega)]; exact f1 c (by omega)), i3.kept (by rw [tw_up_a (by omega)]; exact f1 _ (by omega)) (by rw [tw_up_a (by omega)]; exact f1 _ (by omega)), i4.kept (fun c x y => by rw [tw_up_a (by omega)]; exact f1 c (by omega)), fun j hj => ?_⟩
      unfold tp_u
      dsimp only
      by_cases e : j = i
      · rw [if_pos e, if_pos e, e]
        exact ⟨tw_up_at, fun _ => s1.kept (fun c x y => tw_up_a (by omega))⟩
      · rw [if_neg e, if_neg e]
        exact ⟨by rw [tw_up_k e, f1 _ (by omega)]; exact (i5 j hj).1, fun z => ((i5 j hj).2 z).kept (fun c x y => by rw [tw_up_a (by omega)]; exact f1 c (by omega))⟩
    have hM3 : pMc (tw_up J1 (b + 159) i 1) (b + 160) C := hM.kept (fun c hc => by rw [tw_up_a (by omega)]; exact f1 c (by omega))
    obtain ⟨J4, e4, x4, y4, f4⟩ := q_saveLoop (n := n) (I := tw_up J1 (b + 159) i 1) hm hi
    have hM5 : pMc (tw_up J4 (b + 160 + 4) i 1) (b + 160) (C.1, C.2.1, tp_u C.2.2.1 i 1, (fun j => if j = i then C.1 else C.2.2.2.1 j), C.2.2.2.2) := by
      obtain ⟨m1, m2, m3, m4, m5⟩ := hM3
      have f5 : ∀ c, c ≠ b + 160 + 3 → c ≠ b + 160 + 4 → tw_up J4 (b + 160 + 4) i 1 c = tw_up J1 (b + 159) i 1 c := fun c c1 c2 => by rw [tw_up_a c2, f4 c c1]
      refine ⟨m1.keep (f5 _ (by omega) (by omega)), m2.kept (by rw [f5 _ (by omega) (by omega)]) (f5 _ (by omega) (by omega)), fun j hj => ?_, fun j hj => by rw [f5 _ (by omega) (by omega)]; exact m4 j hj, by rw [f5 _ (by omega) (by omega)]; exact m5⟩
      unfold tp_u
      dsimp only
      by_cases e : j = i
      · rw [if_pos e, if_pos e, e]
        exact ⟨tw_up_at, fun _ => m1.copy hz (fun k hk => by rw [tw_up_a (by omega), x4 k hk, Nat.zero_add])⟩
      · rw [if_neg e, if_neg e]
        refine ⟨by rw [tw_up_k e, f4 _ (by omega)]; exact (m3 j hj).1, fun z => ((m3 j hj).2 z).copy (fun t ht => (((hok.2.2.1 j hj).2 z).2.2.2 t ht).1) (fun k hk => by rw [tw_up_a (by omega), y4 _ (by omega)])⟩
    obtain ⟨J6, e6, -, hM6, f6⟩ := q_runC (n := n) hm hok2 hM5
    have hlen := c_len (n := n) hl hI2
    refine ⟨nI (tp_len (tp_res C.1 2)), (n, sh, P, tw_up J1 (b + 159) i 1), (n, sh, P, J6), ?_, ?_, pV.same hok2 hl hm (hI2.kept (fun c hc => by rw [f6 c (by omega), tw_up_a (by omega), f4 c (by omega)])) hM6⟩
    · unfold fX7_save
      rw [c_is hl, Option.bind_some, if_neg (show ¬ nI i < 0 from nI_neg hi2), if_pos (show nI i < 2 from nI_lt hi (by decide)), c_P7 hl, Option.bind_some, (e_aP l7.1 hi (by decide)).trans (l7.2 i hi).1, Option.bind_some, c_P0 hl, Option.bind_some, e1, Option.bind_some, c_P8 hl, Option.bind_some, tw_bz1, Option.bind_some, e_wI l8 hi (by decide), Option.bind_some, c_P1 hl, Option.bind_some, hlen, Option.bind_some]
    · unfold fX8_save
      rw [q_is hm, Option.bind_some, show fX8_in (n, sh, P, tw_up J1 (b + 159) i 1) (nI i) 0 1 = _ from q_in _ hi2 (show 0 < 2 ^ 31 by decide) (show 1 < 2 ^ 31 by decide), if_pos (show 0 ≤ i ∧ i ≤ 1 by omega), Option.bind_some, if_neg (show ¬ nI 1 = 0 by decide), tp_0, e4]
      unfold fX8_save_b45
      rw [q_P4 hm, Option.bind_some, tw_bz1, Option.bind_some, e_wI hm.2.1.2 hi (by decide), Option.bind_some, e6, Option.bind_some]
  · refine ⟨-2, (n, sh, P, I), (n, sh, P, I), ?_, ?_, hv⟩
    · unfold fX7_save
      rw [c_is hl, Option.bind_some, if_neg (show ¬ nI i < 0 from nI_neg hi2), if_neg (show ¬ nI i < 2 from nI_nlt hi hi2)]
    · unfold fX8_save
      rw [q_is hm, Option.bind_some, show fX8_in (n, sh, P, I) (nI i) 0 1 = _ from q_in _ hi2 (show 0 < 2 ^ 31 by decide) (show 1 < 2 ^ 31 by decide), if_neg (show ¬ (0 ≤ i ∧ i ≤ 1) by omega), Option.bind_some, if_pos (show nI 0 = 0 from rfl)]
theorem o_restore (h : pV b σ) (x1 : Int32) : ∃ y σ1 σ2, fX7_restore σ b x1 = some (y, σ1) ∧ fX8_restore σ1 (b + 160) x1 = some (y, σ2) ∧ pV b σ2 := by
  obtain ⟨n, sh, P, I⟩ := σ
  obtain ⟨C, sw, hok, hl, hm, hI, hM⟩ := h
  dsimp only at hl hm hI hM
  have hv := pV.same (n := n) hok hl hm hI hM
  have l7 := hl.2.2.2.2.2.2.2.1
  have l8 := hl.2.2.2.2.2.2.2.2
  rcases tp_x x1 2 with hneg | ⟨i, hi, hi2, rfl⟩ | ⟨i, hi, hi2, rfl⟩
  · refine ⟨-2, (n, sh, P, I), (n, sh, P, I), ?_, ?_, hv⟩
    · unfold fX7_restore
      rw [c_is hl, Option.bind_some, if_pos hneg]
    · unfold fX8_restore
      rw [q_is hm, Option.bind_some, tp_0, q_in_neg _ hneg (by decide), Option.bind_some, if_pos rfl]
  · have g1 := (hI.2.2.2.2 i hi).1
    have g2 := (hM.2.2.1 i hi).1
    obtain ⟨g3, g4⟩ := hok.2.2.1 i hi
    have hc7 : fX7_restore (n, sh, P, I) b (nI i) = if nI (C.2.2.1 i) = 0 then some ((-5), (n, sh, P, I)) else fX7_restore (n, sh, P, I) b (nI i) := by
      by_cases d : nI (C.2.2.1 i) = 0
      · rw [if_pos d]
        unfold fX7_restore
        rw [c_is hl, Option.bind_some, if_neg (show ¬ nI i < 0 from nI_neg hi2), if_pos (show nI i < 2 from nI_lt hi (by decide)), c_P8 hl, Option.bind_some, e_aI l8 hi (by decide), Option.bind_some, g1, if_pos d]
      · rw [if_neg d]
    have hq8 : ∀ J, pMc J (b + 160) C → fX8_restore (n, sh, P, J) (b + 160) (nI i) = if nI (C.2.2.1 i) = 0 then some ((-5), (n, sh, P, J)) else (fX8_record (n, sh, P, J) (b + 160)).bind fun σ25 => fX8_restore_l30 tw_F σ25 (b + 160) (nI i) 0 := by
      intro J hJ
      unfold fX8_restore
      rw [q_is hm, Option.bind_some, show fX8_in (n, sh, P, J) (nI i) 0 1 = _ from q_in _ hi2 (show 0 < 2 ^ 31 by decide) (show 1 < 2 ^ 31 by decide), if_pos (show 0 ≤ i ∧ i ≤ 1 by omega), Option.bind_some, if_neg (show ¬ nI 1 = 0 by decide), q_P4 hm, Option.bind_some, e_aI hm.2.1.2 hi (by decide), Option.bind_some, (hJ.2.2.1 i hi).1]
    by_cases e : C.2.2.1 i = 1
    · have hne : ¬ nI (C.2.2.1 i) = 0 := nI_ne0 (by omega) (by omega)
      have hS2 := g4 e
      have hz2 : ∀ t, t < 2 → (C.2.2.2.1 i).2.1 t ≤ 12 := fun t ht => (hS2.2.2.2 t ht).1
      obtain ⟨J1, e1, r1, f1⟩ := c_rec (n := n) hl hok hI
      obtain ⟨J2, e2, s2, f2⟩ := p_copyState (n := n) (I := J1) hl.2.1 (l7.2 i hi).2 (by omega) hz2 (((hI.2.2.2.2 i hi).2 e).kept (fun c x y => f1 c (by omega)))
      obtain ⟨J3, e3, i3, f3, -⟩ := c_play (n := n) (J2 := J2) hl hI hS2 (r1.kept (fun c x y => f2 c (by omega))) s2 (fun c c1 c2 => by rw [f2 c (by omega)]; exact f1 c (by omega))
      have hM3 := hM.kept (fun c hc => f3 c hc)
      obtain ⟨J4, e4, r4, f4, k4⟩ := q_recC (n := n) hm hok hM3
      obtain ⟨J5, e5, x5, f5⟩ := q_restLoop (n := n) (I := J4) hm hi
      have hM5 : pMc J5 (b + 160) (C.2.2.2.1 i, tp_rec C.2.1 C.1, C.2.2) := hM3.chg (r4.kept (by rw [f5 _ (by omega)]) (f5 _ (by omega))) (((hM3.2.2.1 i hi).2 e).copy hz2 (fun k hk => by rw [Nat.zero_add, x5 k hk, f4 _ (by omega) (by omega)])) (fun c c1 c2 c3 _ _ => by rw [f5 c c2]; exact f4 c c1 c3) (by rw [f5 _ (by omega)]; exact k4 6 (by decide))
      obtain ⟨J6, e6, -, hM6, f6⟩ := q_runC (n := n) hm (hok.rec hS2) hM5
      have hlen := c_len (n := n) hl i3
      refine ⟨nI (tp_len (tp_res (C.2.2.2.1 i) 2)), (n, sh, P, J3), (n, sh, P, J6), ?_, ?_, pV.chg hok hS2 hl hm i3 hM6 (fun c hc => by rw [f6 c (by omega), f5 c (by omega), f4 c (by omega) (by omega)])⟩
      · unfold fX7_restore
        rw [c_is hl, Option.bind_some, if_neg (show ¬ nI i < 0 from nI_neg hi2), if_pos (show nI i < 2 from nI_lt hi (by decide)), c_P8 hl, Option.bind_some, e_aI l8 hi (by decide), Option.bind_some, g1, if_neg hne, c_P6 hl, Option.bind_some, c_P0 hl, Option.bind_some, e1, Option.bind_some, c_P0 hl, Option.bind_some, c_P7 hl, Option.bind_some, (e_aP l7.1 hi (by decide)).trans (l7.2 i hi).1, Option.bind_some, e2, Option.bind_some, c_P1 hl, Option.bind_some, e3, Option.bind_some, c_P1 hl, Option.bind_some, hlen, Option.bind_some]
      · rw [hq8 J3 hM3, if_neg hne, e4, Option.bind_some, tp_0, e5]
        unfold fX8_restore_b61
        rw [e6, Option.bind_some]
        rfl
    · have h0 : nI (C.2.2.1 i) = 0 := by rw [show C.2.2.1 i = 0 by omega]; rfl
      exact ⟨-5, (n, sh, P, I), (n, sh, P, I), by rw [hc7, if_pos h0], by rw [hq8 I hM, if_pos h0], hv⟩
  · refine ⟨-2, (n, sh, P, I), (n, sh, P, I), ?_, ?_, hv⟩
    · unfold fX7_restore
      rw [c_is hl, Option.bind_some, if_neg (show ¬ nI i < 0 from nI_neg hi2), if_neg (show ¬ nI i < 2 from nI_nlt hi hi2)]
    · unfold fX8_restore
      rw [q_is hm, Option.bind_some, show fX8_in (n, sh, P, I) (nI i) 0 1 = _ from q_in _ hi2 (show 0 < 2 ^ 31 by decide) (show 1 < 2 ^ 31 by decide), if_neg (show ¬ (0 ≤ i ∧ i ≤ 1) by omega), Option.bind_some, if_pos (show nI 0 = 0 from rfl)]
end TPOU
