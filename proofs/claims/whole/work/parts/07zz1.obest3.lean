section TPBZ
variable {n : Nat} {sh : tw_Sh} {P : Nat → Nat → Option Nat} {I J : Nat → Nat → Int32} {b m t k q : Nat} {C : tp_C} {S : tp_S} {x1 x2 x3 x4 : Int32}
theorem pMc.low {I' : Nat → Nat → Int32} (h : pMc I m C) (f : ∀ c, m ≤ c → c < m + 7 → I' c = I c) : pMc I' m C := by
  obtain ⟨m1, m2, m3, m4, m5⟩ := h
  exact ⟨m1.keep (f _ (by omega) (by omega)), m2.kept (by rw [f _ (by omega) (by omega)]) (f _ (by omega) (by omega)), fun i hi => ⟨by rw [f _ (by omega) (by omega)]; exact (m3 i hi).1, fun z => ((m3 i hi).2 z).keep (f _ (by omega) (by omega))⟩, fun j hj => by rw [f _ (by omega) (by omega)]; exact m4 j hj, by rw [f _ (by omega) (by omega)]; exact m5⟩
theorem q_best33 (hm : pMo sh P m) : ∃ J, fX8_bestExchange_l33 tw_F (n, sh, P, I) m x1 x2 x3 x4 (nI 0) = fX8_bestExchange_b60 (n, sh, P, J) m x1 x2 x3 x4 ∧ (∀ j, j < 24 → J (m + 19) j = I (m + 7) j) ∧ ∀ c, c ≠ m + 19 → J c = I c := by
  exact tp_it (S := (Nat → Nat → Int32) × Nat) (fun _ _ _ _ _ _ _ => none) fX8_bestExchange_h33 (fun f s => f (n, sh, P, s.1) m x1 x2 x3 x4 (nI s.2))
    (fun s => s.2 ≤ 24 ∧ (∀ j, j < s.2 → s.1 (m + 19) j = I (m + 7) j) ∧ ∀ c, c ≠ m + 19 → s.1 c = I c) (fun s => 24 - s.2)
    (fun _ r => ∃ J, r = fX8_bestExchange_b60 (n, sh, P, J) m x1 x2 x3 x4 ∧ (∀ j, j < 24 → J (m + 19) j = I (m + 7) j) ∧ ∀ c, c ≠ m + 19 → J c = I c)
    (by
      rintro f ⟨J, k⟩ ⟨i1, i2, i3⟩ ih
      dsimp only at i1 i2 i3 ih ⊢
      unfold fX8_bestExchange_h33
      by_cases e : 24 ≤ k
      · rw [if_pos (show (24 : Int32) ≤ nI k from nI_le e (by omega))]
        exact ⟨J, rfl, fun j hj => i2 j (by omega), i3⟩
      · rw [if_neg (show ¬ (24 : Int32) ≤ nI k from nI_ge (show k < 24 by omega) (by decide)), q_P23 hm, Option.bind_some, q_P11 hm, Option.bind_some, q_a7 hm (by omega), Option.bind_some, q_w19 hm (by omega), Option.bind_some, tp_1, nI_add]
        refine ih (tw_up J (m + 19) k (J (m + 7) k), k + 1) ⟨by dsimp only; omega, fun j hj => ?_, fun c hc => ?_⟩ (by dsimp only; omega)
        · dsimp only at hj ⊢
          by_cases e3 : j = k
          · rw [e3, tw_up_at, i3 _ (by omega)]
          · rw [tw_up_k e3]; exact i2 j (by omega)
        · dsimp only
          rw [tw_up_a hc]; exact i3 c hc) tw_F (I, 0) ⟨Nat.zero_le _, fun j hj => absurd hj (Nat.not_lt_zero j), fun _ _ => rfl⟩ (tw_F_big (by dsimp only; omega))
theorem q_bestLoop (hm : pMo sh P m) (hok : pOk C) (hM : pMc I m C) (ht : t < 2) (hV : ∀ j, j < 24 → I (m + 19) j = nI (tp_vs C.1 (j / 12) (j % 12))) : ∃ J, fX8_bestExchange_l63 tw_F (n, sh, P, I) m (nI t) x2 (nI (tp_len (tp_res C.1 2))) (-nI 6) (nI 0) = some (tp_bxv x2 (tp_bx C.1 t (C.1.2.1 t - 1)), (n, sh, P, J)) ∧ pMc J m C ∧ ∀ c, c < m → J c = I c := by
  have h12 := (hok.1.2.2.2 t ht).1
  exact tp_it (S := (Nat → Nat → Int32) × Nat) (fun _ _ _ _ _ _ _ => none) fX8_bestExchange_h63 (fun f s => f (n, sh, P, s.1) m (nI t) x2 (nI (tp_bx C.1 t s.2).2) (tp_bx C.1 t s.2).1 (nI s.2))
    (fun s => s.2 ≤ C.1.2.1 t - 1 ∧ pMc s.1 m C ∧ (∀ j, j < 24 → s.1 (m + 19) j = nI (tp_vs C.1 (j / 12) (j % 12))) ∧ ∀ c, c < m → s.1 c = I c) (fun s => C.1.2.1 t - s.2)
    (fun _ r => ∃ J, r = some (tp_bxv x2 (tp_bx C.1 t (C.1.2.1 t - 1)), (n, sh, P, J)) ∧ pMc J m C ∧ ∀ c, c < m → J c = I c)
    (by
      rintro f ⟨J, k⟩ ⟨i1, i2, i3, i4⟩ ih
      dsimp only at i1 i2 i3 i4 ih ⊢
      obtain ⟨bb, b6⟩ := tp_bx_b hok.1 ht k (by omega)
      unfold fX8_bestExchange_h63
      rw [q_many hm i2.1 ht, Option.bind_some, tp_1, nI_add]
      by_cases e : C.1.2.1 t ≤ k + 1
      · have ek : k = C.1.2.1 t - 1 := by omega
        rw [if_pos (show nI (C.1.2.1 t) ≤ nI (k + 1) from nI_le e (by omega))]
        unfold fX8_bestExchange_b169 fX8_bestExchange_b178
        refine ⟨J, ?_, i2, i4⟩
        rw [← ek]
        unfold tp_bxv
        rcases b6 with b6 | ⟨j, hj, b6⟩
        · rw [b6, if_pos (show -nI 6 < 0 by decide), if_pos (show -nI 6 = -6 from rfl)]
          rfl
        · rw [b6, if_neg (show ¬ nI j < 0 from nI_neg (by omega)), if_neg (show ¬ nI j = -6 from fun z => Eq.mp (tp_m6 (show j < 2 ^ 31 by omega)) z)]
          split <;> rfl
      · have hk : k + 1 < C.1.2.1 t := by omega
        have hS2 := tp_sw_ok hok.1 ht hk
        have hbx : tp_bx C.1 t (k + 1) = if tp_fx (C.1.2.2.1 t) k (C.1.2.1 t) = true ∨ tp_fx (C.1.2.2.1 t) (k + 1) (C.1.2.1 t) = true then tp_bx C.1 t k else if tp_same (tp_vs (tp_sw C.1 t k) t) (tp_vs C.1 t) = true ∧ tp_len (tp_res (tp_sw C.1 t k) 2) < (tp_bx C.1 t k).2 then (nI k, tp_len (tp_res (tp_sw C.1 t k) 2)) else tp_bx C.1 t k := rfl
        have hstay : tp_bx C.1 t (k + 1) = tp_bx C.1 t k → ∀ J', pMc J' m C → (∀ j, j < 24 → J' (m + 19) j = nI (tp_vs C.1 (j / 12) (j % 12))) → (∀ c, c < m → J' c = I c) → ∃ J, f (n, sh, P, J') m (nI t) x2 (nI (tp_bx C.1 t k).2) (tp_bx C.1 t k).1 (nI (k + 1)) = some (tp_bxv x2 (tp_bx C.1 t (C.1.2.1 t - 1)), (n, sh, P, J)) ∧ pMc J m C ∧ ∀ c, c < m → J c = I c := by
          intro hst' J' hJ' vJ' fJ'
          have := ih (J', k + 1) ⟨by dsimp only; omega, hJ', vJ', fJ'⟩ (by dsimp only; omega)
          dsimp only at this
          rw [hst'] at this
          exact this
        rw [if_neg (show ¬ nI (C.1.2.1 t) ≤ nI (k + 1) from nI_ge (show k + 1 < C.1.2.1 t by omega) (by omega)), q_isFixed hm hok.1 i2.1 ht (show k < C.1.2.1 t by omega), Option.bind_some]
        unfold fX8_bestExchange_b163
        rw [tp_1, nI_add]
        by_cases e1 : tp_fx (C.1.2.2.1 t) k (C.1.2.1 t) = true
        · rw [if_pos e1, if_neg (show ¬ nI 1 = 0 by decide)]
          exact hstay (by rw [hbx, if_pos (Or.inl e1)]) J i2 i3 i4
        · rw [if_neg e1, if_pos (show nI 0 = 0 from rfl), q_isFixed hm hok.1 i2.1 ht hk, Option.bind_some]
          by_cases e2 : tp_fx (C.1.2.2.1 t) (k + 1) (C.1.2.1 t) = true
          · rw [if_pos e2, if_neg (show ¬ nI 1 = 0 by decide)]
            exact hstay (by rw [hbx, if_pos (Or.inr e2)]) J i2 i3 i4
          · rw [if_neg e2, if_pos (show nI 0 = 0 from rfl)]
            rw [if_neg (show ¬ (tp_fx (C.1.2.2.1 t) k (C.1.2.1 t) = true ∨ tp_fx (C.1.2.2.1 t) (k + 1) (C.1.2.1 t) = true) from fun z => z.elim e1 e2)] at hbx
            obtain ⟨J1, g1, w1, y1, f1⟩ := q_swap (n := n) (I := J) hm ht (show k < 11 by omega)
            have hS1 : pMS J1 (m + 1) 0 (tp_sw C.1 t k) := i2.1.swp hok.1 ht hk w1 y1
            obtain ⟨J2, g2, hD, f2⟩ := q_run (n := n) hm hS2 hS1
            obtain ⟨J3, g3, w3, y3, f3⟩ := q_swap (n := n) (I := J2) hm ht (show k < 11 by omega)
            have hback : J3 (m + 1) = J (m + 1) := by
              funext j
              have e12 : J2 (m + 1) = J1 (m + 1) := f2 _ (by omega)
              by_cases c1 : j < 10 + 100 * t + 1 + 5 * k ∨ 10 + 100 * t + 1 + 5 * k + 10 ≤ j
              · rw [y3 j c1, e12, y1 j c1]
              · by_cases c2 : j < 10 + 100 * t + 1 + 5 * k + 5
                · obtain ⟨i, hi, rfl⟩ : ∃ i, i < 5 ∧ j = 10 + 100 * t + 1 + 5 * k + i := ⟨j - (10 + 100 * t + 1 + 5 * k), by omega, by omega⟩
                  rw [(w3 i hi).1, e12, (w1 i hi).2]
                · obtain ⟨i, hi, rfl⟩ : ∃ i, i < 5 ∧ j = 10 + 100 * t + 1 + 5 * k + i + 5 := ⟨j - (10 + 100 * t + 1 + 5 * k + 5), by omega, by omega⟩
                  rw [(w3 i hi).2, e12, (w1 i hi).1]
            have f4 : ∀ c, (c < m + 7 ∨ m + 19 ≤ c) → J3 c = J c := by
              intro c hc
              by_cases c1 : c = m + 1
              · rw [c1]; exact hback
              · rw [f3 c c1, f2 c hc, f1 c c1]
            have hM3 : pMc J3 m C := i2.run f4
            have hV3 : ∀ j, j < 24 → J3 (m + 19) j = nI (tp_vs C.1 (j / 12) (j % 12)) := fun j hj => by rw [f4 _ (by omega)]; exact i3 j hj
            have f5 : ∀ c, c < m → J3 c = I c := fun c hc => by rw [f4 c (by omega)]; exact i4 c hc
            have hlb := tp_res_b hS2 2
            have hb128 : ∀ z0 : Int32, fX8_bestExchange_b128 f (n, sh, P, J2) m (nI t) x2 (nI (tp_bx C.1 t k).2) (tp_bx C.1 t k).1 (nI k) (nI (tp_len (tp_res (tp_sw C.1 t k) 2))) z0 = if z0 = 0 then f (n, sh, P, J3) m (nI t) x2 (nI (tp_bx C.1 t k).2) (tp_bx C.1 t k).1 (nI (k + 1)) else f (n, sh, P, J3) m (nI t) x2 (nI (tp_len (tp_res (tp_sw C.1 t k) 2))) (nI k) (nI (k + 1)) := by
              intro z0
              unfold fX8_bestExchange_b128 fX8_bestExchange_b149 fX8_bestExchange_b162 fX8_bestExchange_b163
              rw [g3, Option.bind_some, tp_1, nI_add]
              by_cases c : z0 = 0
              · rw [if_pos c, if_pos c, if_pos c]
              · rw [if_neg c, if_neg c, if_neg c]
            have hu : ∀ j, j < 24 → J2 (m + 7) j = nI (tp_vs (tp_sw C.1 t k) (j / 12) (j % 12)) ∧ tp_vs (tp_sw C.1 t k) (j / 12) (j % 12) < 1000 := fun j hj => ⟨q_vals hD j hj, tp_vs_b hS2 (by omega) _ (Nat.mod_lt _ (by decide))⟩
            have hv : ∀ j, j < 24 → J2 (m + 19) j = nI (tp_vs C.1 (j / 12) (j % 12)) ∧ tp_vs C.1 (j / 12) (j % 12) < 1000 := fun j hj => ⟨by rw [f2 _ (by omega), f1 _ (by omega)]; exact i3 j hj, tp_vs_b hok.1 (by omega) _ (Nat.mod_lt _ (by decide))⟩
            have hsame := q_same (n := n) (sh := sh) (P := P) hm (u := fun j => tp_vs (tp_sw C.1 t k) (j / 12) (j % 12)) (v := fun j => tp_vs C.1 (j / 12) (j % 12)) hu hv
            rw [tp_same24 hok.1 ht] at hsame
            rw [g1, Option.bind_some, g2, Option.bind_some]
            unfold fX8_bestExchange_b127
            dsimp only
            rw [hsame, hb128, hb128]
            by_cases e4 : tp_len (tp_res (tp_sw C.1 t k) 2) < (tp_bx C.1 t k).2
            · rw [if_neg (show ¬ nI (tp_bx C.1 t k).2 ≤ nI (tp_len (tp_res (tp_sw C.1 t k) 2)) from nI_ge e4 (by omega)), Option.bind_some]
              by_cases e3 : tp_same (tp_vs (tp_sw C.1 t k) t) (tp_vs C.1 t) = true
              · rw [if_pos e3, if_neg (show ¬ nI 1 = 0 by decide), if_neg (show ¬ nI 1 = 0 by decide)]
                rw [if_pos ⟨e3, e4⟩] at hbx
                have := ih (J3, k + 1) ⟨by dsimp only; omega, hM3, hV3, f5⟩ (by dsimp only; omega)
                dsimp only at this
                rw [hbx] at this
                exact this
              · rw [if_neg e3, if_pos (show nI 0 = 0 from rfl), if_pos rfl]
                exact hstay (by rw [hbx, if_neg (fun z => e3 z.1)]) J3 hM3 hV3 f5
            · rw [if_pos (show nI (tp_bx C.1 t k).2 ≤ nI (tp_len (tp_res (tp_sw C.1 t k) 2)) from nI_le (by omega) (by omega)), if_pos rfl]
              exact hstay (by rw [hbx, if_neg (fun z => e4 z.2)]) J3 hM3 hV3 f5) tw_F (I, 0) ⟨Nat.zero_le _, hM, hV, fun _ _ => rfl⟩ (tw_F_big (by dsimp only; omega))
end TPBZ
section TPBW
variable {b : Nat} {σ : tw_St}
theorem o_bestExchange (h : pV b σ) (x1 x2 : Int32) : ∃ y σ1 σ2, fX7_bestExchange σ b x1 x2 = some (y, σ1) ∧ fX8_bestExchange σ1 (b + 160) x1 x2 = some (y, σ2) ∧ pV b σ2 := by
  obtain ⟨n, sh, P, I⟩ := σ
  obtain ⟨C, sw, hok, hl, hm, hI, hM⟩ := h
  dsimp only at hl hm hI hM
  have hv := pV.same (n := n) hok hl hm hI hM
  have hst := hl.2.1
  rcases tp_th x1 with ⟨t, ht, rfl⟩ | hno
  · have bad : (∀ k : Int32, k = 0 ∨ k = 1 → ¬ x2 = k) → fX8_in (n, sh, P, I) x2 0 1 = some (nI 0) → ∃ y σ1 σ2, fX7_bestExchange (n, sh, P, I) b (nI t) x2 = some (y, σ1) ∧ fX8_bestExchange σ1 (b + 160) (nI t) x2 = some (y, σ2) ∧ pV b σ2 := by
      intro hne hin
      refine ⟨-2, (n, sh, P, I), (n, sh, P, I), ?_, ?_, hv⟩
      · unfold fX7_bestExchange
        rw [c_is hl, Option.bind_some, c_thread _ ht, Option.bind_some, if_neg (show ¬ nI 1 = 0 by decide), if_neg (hne 0 (Or.inl rfl)), if_neg (hne 1 (Or.inr rfl))]
      · unfold fX8_bestExchange
        rw [q_is hm, Option.bind_some, q_thread _ ht, Option.bind_some, if_neg (show ¬ nI 1 = 0 by decide), hin, Option.bind_some, if_pos (show nI 0 = 0 from rfl)]
    rcases tp_x x2 2 with hneg | ⟨k, hk, hk2, rfl⟩ | ⟨k, hk, hk2, rfl⟩
    · refine bad (fun k hk z => ?_) (q_in_neg _ hneg (show 0 < 2 ^ 31 by decide))
      rw [z] at hneg
      rcases hk with rfl | rfl <;> exact absurd hneg (by decide)
    · obtain ⟨J1, e1, hI1, f1⟩ := c_bestLoop (n := n) (x2 := nI k) hl hok hI ht
      have hlen := c_len (n := n) hl hI
      have hM1 : pMc J1 (b + 160) C := hM.kept (fun c hc => f1 c (by omega))
      obtain ⟨J2, e2, hD, hM2, f2⟩ := q_runC (n := n) hm hok hM1
      obtain ⟨J3, e3, v3, f3⟩ := q_best33 (n := n) (I := J2) (x1 := nI t) (x2 := nI k) (x3 := nI (tp_len (tp_res C.1 2))) (x4 := -6) hm
      have hM3 : pMc J3 (b + 160) C := hM2.low (fun c c1 c2 => f3 c (by omega))
      obtain ⟨J4, e4, hM4, f4⟩ := q_bestLoop (n := n) (x2 := nI k) hm hok hM3 ht (fun j hj => by rw [v3 j hj]; exact q_vals hD j hj)
      have hb21 : fX7_bestExchange_b21 (n, sh, P, I) b (nI t) (nI k) = some (tp_bxv (nI k) (tp_bx C.1 t (C.1.2.1 t - 1)), (n, sh, P, J1)) := by
        unfold fX7_bestExchange_b21
        rw [c_P0 hl, Option.bind_some, r_sP1 hst, Option.bind_some, r_spg hst ht, Option.bind_some, c_P1 hl, Option.bind_some, hlen, Option.bind_some]
        exact e1
      refine ⟨tp_bxv (nI k) (tp_bx C.1 t (C.1.2.1 t - 1)), (n, sh, P, J1), (n, sh, P, J4), ?_, ?_, pV.same hok hl hm (hI1.kept (fun c hc => by rw [f4 c hc, f3 c (by omega), f2 c (by omega)])) hM4⟩
      · unfold fX7_bestExchange
        rw [c_is hl, Option.bind_some, c_thread _ ht, Option.bind_some, if_neg (show ¬ nI 1 = 0 by decide), hb21]
        rcases (show k = 0 ∨ k = 1 by omega) with rfl | rfl
        · rw [if_pos (show nI 0 = 0 from rfl)]
        · rw [if_neg (show ¬ nI 1 = 0 by decide), if_pos (show nI 1 = 1 from rfl)]
      · unfold fX8_bestExchange
        rw [q_is hm, Option.bind_some, q_thread _ ht, Option.bind_some, if_neg (show ¬ nI 1 = 0 by decide), show fX8_in (n, sh, P, J1) (nI k) 0 1 = _ from q_in _ hk2 (show 0 < 2 ^ 31 by decide) (show 1 < 2 ^ 31 by decide), if_pos (show 0 ≤ k ∧ k ≤ 1 by omega), Option.bind_some, if_neg (show ¬ nI 1 = 0 by decide), e2, Option.bind_some]
        dsimp only
        rw [tp_0, e3]
        unfold fX8_bestExchange_b60
        exact e4
    · refine bad (fun j hj z => ?_) ?_
      · rcases hj with rfl | rfl
        · have := (nI_eq hk2 (show 0 < 2 ^ 31 by decide)).mp z; omega
        · have := (nI_eq hk2 (show 1 < 2 ^ 31 by decide)).mp z; omega
      · rw [show fX8_in (n, sh, P, I) (nI k) 0 1 = _ from q_in _ hk2 (show 0 < 2 ^ 31 by decide) (show 1 < 2 ^ 31 by decide), if_neg (show ¬ (0 ≤ k ∧ k ≤ 1) by omega)]
  · refine ⟨-1, (n, sh, P, I), (n, sh, P, I), ?_, ?_, hv⟩
    · unfold fX7_bestExchange
      rw [c_is hl, Option.bind_some, c_noThread _ hno, Option.bind_some, if_pos (show nI 0 = 0 from rfl)]
    · unfold fX8_bestExchange
      rw [q_is hm, Option.bind_some, q_noThread _ hno, Option.bind_some, if_pos (show nI 0 = 0 from rfl)]
end TPBW
