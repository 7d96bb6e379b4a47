section TPOO
variable {b : Nat} {σ : tw_St}
theorem q_inz' (σ : tw_St) {a z : Nat} (ha : a < 2 ^ 31) (hz : z < 1000) : fX8_in σ (nI a) (nI 0) (nI z - nI 1) = some (nI (if a < z then 1 else 0)) := by
  match z with
  | 0 =>
    unfold fX8_in
    rw [if_neg (show ¬ nI a < nI 0 from nI_neg ha), if_pos, if_neg (by omega)]
    · rfl
    · rw [Int32.lt_iff_toInt_lt, nI_toInt ha, show (nI 0 - nI 1).toInt = -1 by decide]
      omega
  | z + 1 =>
    rw [pk_sub (by omega), Nat.add_sub_cancel, q_in σ ha (by omega) (by omega)]
    congr 2
    by_cases e : a < z + 1
    · rw [if_pos e, if_pos (by omega)]
    · rw [if_neg e, if_neg (by omega)]
theorem o_ofOrder (h : pV b σ) (x1 x2 x3 : Int32) : ∃ r, fX7_ofOrder σ b x1 x2 x3 = some r ∧ fX8_ofOrder σ (b + 160) x1 x2 x3 = some r := by
  obtain ⟨n, sh, P, I⟩ := σ
  obtain ⟨C, sw, hok, hl, hm, hI, hM⟩ := h
  dsimp only at hl hm hI hM
  have hz : ∀ t, t < 2 → C.1.2.1 t ≤ 12 := fun t ht => (hok.1.2.2.2 t ht).1
  have hst := hl.2.1
  unfold fX7_ofOrder fX8_ofOrder
  rw [c_is hl, Option.bind_some, q_is hm, Option.bind_some, tp_0, tp_1, show (4 : Int32) = nI 4 from rfl, show (5 : Int32) = nI 5 from rfl]
  rcases tp_th x1 with ⟨t, ht, rfl⟩ | hno
  · obtain ⟨c1, c2, c3⟩ := hI.1.2 t ht
    have hpr := (hst.2.2.2.2.2.2.2.2 t ht).2.1
    have h12 := hz t ht
    rw [c_thread _ ht, q_thread _ ht, Option.bind_some, Option.bind_some, if_neg (show ¬ nI 1 = nI 0 by decide), if_neg (show ¬ nI 1 = nI 0 by decide), q_many hm hM.1 ht, Option.bind_some]
    rcases tp_x x2 (C.1.2.1 t) with hneg | ⟨a, ha, ha2, rfl⟩ | ⟨a, ha, ha2, rfl⟩
    · rw [if_pos (show x2 < nI 0 from hneg), q_in_neg _ hneg (by decide), Option.bind_some, if_pos rfl]
      exact ⟨_, rfl, rfl⟩
    · rw [if_neg (show ¬ nI a < nI 0 from nI_neg ha2), c_P0 hl, Option.bind_some, r_sP1 hst, Option.bind_some, r_spg hst ht, Option.bind_some, e_gI hpr.1, Option.bind_some, c1, if_pos (show nI a < nI (C.1.2.1 t) from (nI_ltI ha2 (by omega)).mpr ha), q_inz' _ ha2 (by omega), if_pos ha]
      simp (disch := omega) only [Option.bind_some, r_sP1 hst, r_spg hst]
      rw [if_neg (show ¬ nI 1 = nI 0 by decide)]
      rcases tp_x x3 5 with hneg | ⟨d, hd, hd2, rfl⟩ | ⟨d, hd, hd2, rfl⟩
      · rw [if_pos (show x3 < nI 0 from hneg), q_in_neg _ hneg (by decide), Option.bind_some, if_pos rfl]
        exact ⟨_, rfl, rfl⟩
      · rw [if_neg (show ¬ nI d < nI 0 from nI_neg hd2), if_pos ((nI_ltI hd2 (by decide)).mpr hd), q_in _ hd2 (by decide) (by decide), if_pos (by omega), Option.bind_some, if_neg (show ¬ nI 1 = nI 0 by decide), q_of hm hM.1 hz ht ha hd, p_told hpr c1 h12 ha hd]
        simp only [Option.bind_some, c2 a ha d hd]
        exact ⟨_, rfl, rfl⟩
      · rw [if_neg (show ¬ nI d < nI 0 from nI_neg hd2), if_neg (fun z => by have := (nI_ltI hd2 (by decide)).mp z; omega), q_in _ hd2 (by decide) (by decide), if_neg (by omega), Option.bind_some, if_pos rfl]
        exact ⟨_, rfl, rfl⟩
    · rw [if_neg (show ¬ nI a < nI 0 from nI_neg ha2), c_P0 hl, Option.bind_some, r_sP1 hst, Option.bind_some, r_spg hst ht, Option.bind_some, e_gI hpr.1, Option.bind_some, c1, if_neg (show ¬ nI a < nI (C.1.2.1 t) from fun z => by have := (nI_ltI ha2 (by omega)).mp z; omega), q_inz' _ ha2 (by omega), if_neg (by omega), Option.bind_some, if_pos rfl]
      exact ⟨_, rfl, rfl⟩
  · rw [c_noThread _ hno, q_noThread _ hno, Option.bind_some, Option.bind_some, if_pos rfl, if_pos rfl]
    exact ⟨_, rfl, rfl⟩
end TPOO
