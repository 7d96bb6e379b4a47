/-! bestExchange: what it is, and the class' side. -/
theorem pRB.sched {S : tp_S} {K : Nat → Nat} {wo turns : Nat} (hok : pSok S) : ∀ (d tick : Nat) (R : tp_R), pRB K R tick → ∃ tk, tk ≤ tick + d ∧ pRB K (tp_sched S K wo turns d tick R) tk
  | 0, tick, _, h => ⟨tick, Nat.le_refl _, h⟩
  | d + 1, tick, R, h => by
    unfold tp_sched
    split
    · obtain ⟨tk, h1, h2⟩ := pRB.sched hok d (tick + 1) _ (h.tick hok)
      exact ⟨tk, by omega, h2⟩
    · exact ⟨tick, by omega, h⟩
theorem tp_res_b {S : tp_S} (hok : pSok S) (wo : Nat) : tp_len (tp_res S wo) < 5000 := by
  obtain ⟨tk, h1, h2⟩ := pRB.sched (K := tp_Kf S 2) (wo := wo) (turns := S.1 0) hok 4096 0 tp_R0 pRB_0
  exact tp_len_b (R := tp_res S wo) h2 (by omega)
def tp_sw (S : tp_S) (t k : Nat) : tp_S := tp_pg S t (S.2.1 t) (tp_xo (S.2.2.1 t) k)
noncomputable def tp_vs (S : tp_S) (t : Nat) : Nat → Nat := (tp_pn (S.2.2.1 t) (S.2.2.2 t) (tp_Kf S 2 t)).2
noncomputable def tp_bx (S : tp_S) (t : Nat) : Nat → Int32 × Nat
  | 0 => (-nI 6, tp_len (tp_res S 2))
  | k + 1 => if tp_fx (S.2.2.1 t) k (S.2.1 t) = true ∨ tp_fx (S.2.2.1 t) (k + 1) (S.2.1 t) = true then tp_bx S t k
    else if tp_same (tp_vs (tp_sw S t k) t) (tp_vs S t) = true ∧ tp_len (tp_res (tp_sw S t k) 2) < (tp_bx S t k).2 then (nI k, tp_len (tp_res (tp_sw S t k) 2)) else tp_bx S t k
def tp_bxv (x2 : Int32) (B : Int32 × Nat) : Int32 := if B.1 = -6 then -6 else if x2 = 0 then B.1 else nI B.2
theorem tp_sw_ok {S : tp_S} {t k : Nat} (h : pSok S) (ht : t < 2) (hk : k + 1 < S.2.1 t) : pSok (tp_sw S t k) := by
  obtain ⟨h1, h2, h3⟩ := h.2.2.2 t ht
  refine tp_pg_ok h h1 (fun j hj => ?_)
  have e : tp_xo (S.2.2.1 t) k j = S.2.2.1 t (if j = k then k + 1 else if j = k + 1 then k else j) := by
    funext c
    unfold tp_xo
    split
    · rfl
    · split <;> rfl
  rw [e]
  refine h2 _ ?_
  split
  · omega
  · split <;> omega
theorem tp_bx_b {S : tp_S} {t : Nat} (hok : pSok S) (ht : t < 2) : ∀ k, k < S.2.1 t ∨ k = 0 → (tp_bx S t k).2 < 5000 ∧ ((tp_bx S t k).1 = -nI 6 ∨ ∃ j, j < k ∧ (tp_bx S t k).1 = nI j)
  | 0, _ => ⟨tp_res_b hok 2, Or.inl rfl⟩
  | k + 1, hk => by
    have hk' : k + 1 < S.2.1 t := by omega
    obtain ⟨h1, h2⟩ := tp_bx_b hok ht k (Or.inl (by omega))
    have h3 : (tp_bx S t k).1 = -nI 6 ∨ ∃ j, j < k + 1 ∧ (tp_bx S t k).1 = nI j := by
      rcases h2 with h2 | ⟨j, hj, h2⟩
      · exact Or.inl h2
      · exact Or.inr ⟨j, by omega, h2⟩
    unfold tp_bx
    split
    · exact ⟨h1, h3⟩
    · split
      · exact ⟨tp_res_b (tp_sw_ok hok ht hk') 2, Or.inr ⟨k, by omega, rfl⟩⟩
      · exact ⟨h1, h3⟩
theorem tp_vs_b {S : tp_S} {t : Nat} (hok : pSok S) (ht : t < 2) : ∀ j, j < 12 → tp_vs S t j < 1000 := by
  obtain ⟨h1, h2, h3⟩ := hok.2.2.2 t ht
  have hK := tp_Kf_K (S := S) (ab := 2) ht
  rw [if_neg (by omega)] at hK
  exact (tp_pn_ok h1 h2 h3 _ hK.2.1).2
section TPBX
variable {n : Nat} {sh : tw_Sh} {P : Nat → Nat → Option Nat} {I J : Nat → Nat → Int32} {b m sw t k q : Nat} {C : tp_C} {S : tp_S} {x1 x2 : Int32}
/-- the length with two orders exchanged, in the class -/
theorem c_exch (hl : pCl sh P b sw) (hok : pOk C) (hI : pCI I b sw C) (ht : t < 2) (hk : k + 1 < C.1.2.1 t) : ∃ J, fX7_lengthExchanged (n, sh, P, I) b (nI t) (nI k) = some (if tp_same (tp_vs (tp_sw C.1 t k) t) (tp_vs C.1 t) = true then nI (tp_len (tp_res (tp_sw C.1 t k) 2)) else -6, (n, sh, P, J)) ∧ ∀ c, (c < b + 36 ∨ b + 71 ≤ c) → J c = I c := by
  have hst := hl.2.2.2.1
  have hrt := hl.2.2.2.2.1
  have hru := hl.2.2.1
  have hpr := (hst.2.2.2.2.2.2.2.2 t ht).2.1
  have h12 := (hok.1.2.2.2 t ht).1
  have hS2 := tp_sw_ok hok.1 ht hk
  have hpg : b + 39 ≤ pPg (b + 36) 0 t ∧ pPg (b + 36) 0 t < b + 43 := by unfold pPg; omega
  obtain ⟨J1, e1, s1, f1⟩ := c_copy (n := n) hl hok hI
  obtain ⟨c1, c2, -⟩ := s1.2 t ht
  obtain ⟨J2, e2, r2, f2⟩ := p_exchangeWithNext (n := n) hpr c1 h12 c2 hk
  have s2 : pStI J2 (b + 36) 0 (tp_sw C.1 t k) := s1.pg ht (by rw [f2 _ (by omega)]; exact c1) r2 (fun c _ _ _ c4 => f2 c c4)
  obtain ⟨J3, e3, r3, f3⟩ := p_runFollow (n := n) hrt hst (by omega) hS2 s2
  have f4 : ∀ c, (c < b + 36 ∨ b + 71 ≤ c) → J3 c = I c := fun c hc => by rw [f3 c (by omega), f2 c (by omega), f1 c (by omega)]
  obtain ⟨tk, hF, -⟩ := hI.2.1
  have hv : ∀ j, j < 12 → J3 (b + 46 + 2 + 3 * t + 2) j = nI (tp_vs (tp_sw C.1 t k) t j) := (r3 t ht).2.2.2.2
  have hw : ∀ j, j < 12 → J3 (b + 11 + 2 + 3 * t + 2) j = nI (tp_vs C.1 t j) := fun j hj => by rw [f4 _ (by omega)]; exact (hF t ht).2.2.2.2 j hj
  have hsame := p_same (n := n) (hrt.2.2 t ht).2.1 (hru.2.2 t ht).2.1 hv hw (tp_vs_b hS2 ht) (tp_vs_b hok.1 ht)
  have hall : fX7_lengthExchanged (n, sh, P, I) b (nI t) (nI k) = if nI (if tp_same (tp_vs (tp_sw C.1 t k) t) (tp_vs C.1 t) = true then 1 else 0) = 0 then some ((-6), (n, sh, P, J3)) else (tw_gP (n, sh, P, J3) 7 b 3).bind fun v59 => (fX5_schedule (n, sh, P, J3) v59 (-6)).bind fun σ64 => (tw_gP σ64 7 b 3).bind fun v68 => (fX5_length σ64 v68).bind fun v71 => some (v71, σ64) := by
    unfold fX7_lengthExchanged
    rw [c_is hl, Option.bind_some, c_P2 hl, Option.bind_some, c_P0 hl, Option.bind_some, e1, Option.bind_some, c_P2 hl, Option.bind_some, r_sP1 hst, Option.bind_some, r_spg hst ht, Option.bind_some, e2, Option.bind_some, c_P3 hl, Option.bind_some, e3, Option.bind_some, c_P3 hl]
    rw [Option.bind_some, r_P0 hrt, Option.bind_some, r_p1 hrt ht, Option.bind_some, c_P1 hl, Option.bind_some, r_P0 hru, Option.bind_some, r_p1 hru ht, Option.bind_some, hsame, Option.bind_some]
  rw [hall]
  by_cases e : tp_same (tp_vs (tp_sw C.1 t k) t) (tp_vs C.1 t) = true
  · obtain ⟨J4, e4, ⟨tk4, d1, d2, d3, d4⟩, f5⟩ := p_schedule (n := n) (wo := 2) hrt hst (by omega) hS2 (s2.kept (fun c x y => f3 c (by omega))) r3 (by decide)
    refine ⟨J4, ?_, fun c hc => by rw [f5 c (by omega), f4 c hc]⟩
    rw [if_pos e, if_pos e, if_neg (show ¬ nI 1 = 0 by decide), c_P3 hl, Option.bind_some, show (-6 : Int32) = tp_rI 2 from rfl, e4, Option.bind_some, c_P3 hl, Option.bind_some, p_len hrt d2 d3 d4, Option.bind_some]
  · refine ⟨J3, ?_, f4⟩
    rw [if_neg e, if_neg e, if_pos (show nI 0 = 0 from rfl)]
theorem c_bestLoop (hl : pCl sh P b sw) (hok : pOk C) (hI : pCI I b sw C) (ht : t < 2) : ∃ J, fX7_bestExchange_l47 tw_F (n, sh, P, I) b (nI t) x2 (pPg (b + 1) sw t) (-nI 6) (nI (tp_len (tp_res C.1 2))) (nI 0) = some (tp_bxv x2 (tp_bx C.1 t (C.1.2.1 t - 1)), (n, sh, P, J)) ∧ pCI J b sw C ∧ ∀ c, (c < b + 36 ∨ b + 71 ≤ c) → J c = I c := by
  have hst := hl.2.1
  have hpr := (hst.2.2.2.2.2.2.2.2 t ht).2.1
  have h12 := (hok.1.2.2.2 t ht).1
  exact tp_it (S := (Nat → Nat → Int32) × Nat) (fun _ _ _ _ _ _ _ _ => none) fX7_bestExchange_h47 (fun f s => f (n, sh, P, s.1) b (nI t) x2 (pPg (b + 1) sw t) (tp_bx C.1 t s.2).1 (nI (tp_bx C.1 t s.2).2) (nI s.2))
    (fun s => s.2 ≤ C.1.2.1 t - 1 ∧ pCI s.1 b sw C ∧ ∀ c, (c < b + 36 ∨ b + 71 ≤ c) → s.1 c = I c) (fun s => C.1.2.1 t - s.2)
    (fun _ r => ∃ J, r = some (tp_bxv x2 (tp_bx C.1 t (C.1.2.1 t - 1)), (n, sh, P, J)) ∧ pCI J b sw C ∧ ∀ c, (c < b + 36 ∨ b + 71 ≤ c) → J c = I c)
    (by
      rintro f ⟨J, k⟩ ⟨i1, i2, i3⟩ ih
      dsimp only at i1 i2 i3 ih ⊢
      obtain ⟨c1, c2, -⟩ := i2.1.2 t ht
      unfold fX7_bestExchange_h47 fX7_bestExchange_b109
      rw [e_gI hpr.1, Option.bind_some, c1, tp_1, nI_add]
      by_cases e : C.1.2.1 t ≤ k + 1
      · have ek : k = C.1.2.1 t - 1 := by omega
        rw [if_pos (show nI (C.1.2.1 t) ≤ nI (k + 1) from nI_le e (by omega))]
        unfold fX7_bestExchange_b115
        refine ⟨J, ?_, i2, i3⟩
        rw [← ek]
        unfold tp_bxv
        split
        · rfl
        · split <;> rfl
      · have hk : k + 1 < C.1.2.1 t := by omega
        obtain ⟨bb, -⟩ := tp_bx_b hok.1 ht k (Or.inl (by omega))
        have hbx : tp_bx C.1 t (k + 1) = if tp_fx (C.1.2.2.1 t) k (C.1.2.1 t) = true ∨ tp_fx (C.1.2.2.1 t) (k + 1) (C.1.2.1 t) = true then tp_bx C.1 t k else if tp_same (tp_vs (tp_sw C.1 t k) t) (tp_vs C.1 t) = true ∧ tp_len (tp_res (tp_sw C.1 t k) 2) < (tp_bx C.1 t k).2 then (nI k, tp_len (tp_res (tp_sw C.1 t k) 2)) else tp_bx C.1 t k := rfl
        have hstay : tp_bx C.1 t (k + 1) = tp_bx C.1 t k → ∀ J', pCI J' b sw C → (∀ c, (c < b + 36 ∨ b + 71 ≤ c) → J' c = I c) → ∃ J, f (n, sh, P, J') b (nI t) x2 (pPg (b + 1) sw t) (tp_bx C.1 t k).1 (nI (tp_bx C.1 t k).2) (nI (k + 1)) = some (tp_bxv x2 (tp_bx C.1 t (C.1.2.1 t - 1)), (n, sh, P, J)) ∧ pCI J b sw C ∧ ∀ c, (c < b + 36 ∨ b + 71 ≤ c) → J c = I c := by
          intro hst' J' hJ' fJ'
          have := ih (J', k + 1) ⟨by dsimp only; omega, hJ', fJ'⟩ (by dsimp only; omega)
          dsimp only at this
          rw [hst'] at this
          exact this
        rw [if_neg (show ¬ nI (C.1.2.1 t) ≤ nI (k + 1) from nI_ge (show k + 1 < C.1.2.1 t by omega) (by omega)), p_mayMove hpr c1 h12 c2 (show k < C.1.2.1 t by omega), Option.bind_some]
        by_cases e1 : tp_fx (C.1.2.2.1 t) k (C.1.2.1 t) = true
        · rw [if_pos e1, if_pos (show nI 0 = 0 from rfl)]
          exact hstay (by rw [hbx, if_pos (Or.inl e1)]) J i2 i3
        · rw [if_neg e1, if_neg (show ¬ nI 1 = 0 by decide), p_mayMove hpr c1 h12 c2 hk, Option.bind_some]
          by_cases e2 : tp_fx (C.1.2.2.1 t) (k + 1) (C.1.2.1 t) = true
          · rw [if_pos e2, if_pos (show nI 0 = 0 from rfl)]
            exact hstay (by rw [hbx, if_pos (Or.inr e2)]) J i2 i3
          · rw [if_neg e2, if_neg (show ¬ nI 1 = 0 by decide)]
            rw [if_neg (show ¬ (tp_fx (C.1.2.2.1 t) k (C.1.2.1 t) = true ∨ tp_fx (C.1.2.2.1 t) (k + 1) (C.1.2.1 t) = true) from fun z => z.elim e1 e2)] at hbx
            obtain ⟨J2, g2, f2⟩ := c_exch (n := n) hl hok i2 ht hk
            have i2' : pCI J2 b sw C := i2.trial f2
            have i3' : ∀ c, (c < b + 36 ∨ b + 71 ≤ c) → J2 c = I c := fun c hc => by rw [f2 c hc, i3 c hc]
            have hlb := tp_res_b (tp_sw_ok hok.1 ht hk) 2
            rw [g2, Option.bind_some]
            dsimp only
            by_cases e3 : tp_same (tp_vs (tp_sw C.1 t k) t) (tp_vs C.1 t) = true
            · rw [if_pos e3, if_neg (show ¬ nI (tp_len (tp_res (tp_sw C.1 t k) 2)) = -6 from fun z => Eq.mp (tp_m6 (show tp_len (tp_res (tp_sw C.1 t k) 2) < 2 ^ 31 by omega)) z)]
              by_cases e4 : tp_len (tp_res (tp_sw C.1 t k) 2) < (tp_bx C.1 t k).2
              · rw [if_neg (show ¬ nI (tp_bx C.1 t k).2 ≤ nI (tp_len (tp_res (tp_sw C.1 t k) 2)) from nI_ge e4 (by omega))]
                rw [if_pos ⟨e3, e4⟩] at hbx
                have := ih (J2, k + 1) ⟨by dsimp only; omega, i2', i3'⟩ (by dsimp only; omega)
                dsimp only at this
                rw [hbx] at this
                exact this
              · rw [if_pos (show nI (tp_bx C.1 t k).2 ≤ nI (tp_len (tp_res (tp_sw C.1 t k) 2)) from nI_le (by omega) (by omega))]
                exact hstay (by rw [hbx, if_neg (fun z => e4 z.2)]) J2 i2' i3'
            · rw [if_neg e3, if_pos (show (-6 : Int32) = -6 from rfl)]
              exact hstay (by rw [hbx, if_neg (fun z => e3 z.1)]) J2 i2' i3') tw_F (I, 0) ⟨Nat.zero_le _, hI, fun _ _ => rfl⟩ (tw_F_big (by dsimp only; omega))
end TPBX
