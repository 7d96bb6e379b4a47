/-- what reading an order leaves in the reference -/
def pMO (m : Nat) (J J' : Nat → Nat → Int32) (r : tp_RO) (q : Nat) : Prop := J' m 9 = nI r.1 ∧ J' m 10 = nI (if r.2 = none then 1 else 0) ∧ (∀ k, k ≠ 8 → k ≠ 9 → k ≠ 10 → J' m k = J m k) ∧ (∀ c, c ≠ m → c ≠ m + 6 → J' c = J c) ∧ (∀ k, k < 5 * q → J' (m + 6) k = J (m + 6) k) ∧ ∀ o, r.2 = some o → J' m 8 = nI (q + 1) ∧ ∀ c, c < 5 → J' (m + 6) (5 * q + c) = o c
section TPE3
variable {n : Nat} {sh : tw_Sh} {P : Nat → Nat → Option Nat} {I J : Nat → Nat → Int32} {m i w c q L r : Nat} {T : Nat → Nat}
theorem q_layRO (hm : pMo sh P m) (hq : J m 8 = nI q) (hb : q < 30) {x1 x2 x3 x4 x5 : Int32} (r : tp_RO) {j w : Nat} (hj : j = r.1) (hw : w = if r.2 = none then 1 else 0) (hr : ∀ o, r.2 = some o → o = tp_o5 x1 x2 x3 x4 x5) : ∃ J', fX8_lay (n, sh, P, tp_rho J m j w) m x1 x2 x3 x4 x5 = some (n, sh, P, J') ∧ pMO m J J' r q := by
  obtain ⟨J', e, h1, h2, h3, h4, h5⟩ := q_lay (n := n) (I := tp_rho J m j w) (x1 := x1) (x2 := x2) (x3 := x3) (x4 := x4) (x5 := x5) hm (by rw [tp_rho_k (by decide) (by decide)]; exact hq) hb
  refine ⟨J', e, ?_, ?_, fun k k8 k9 k10 => ?_, fun c c1 c2 => ?_, fun k hk => ?_, fun o ho => ⟨h1, fun c hc => ?_⟩⟩
  · rw [h2 9 (by decide), tp_rho_9, hj]
  · rw [h2 10 (by decide), tp_rho_10, hw]
  · rw [h2 k k8, tp_rho_k k9 k10]
  · rw [h5 c c1 c2, tp_rho_a c1]
  · rw [h4 k hk, tp_rho_a (by omega)]
  · rw [hr o ho]; exact h3 c hc
theorem pMO.none' : pMO m J (tp_rho J m i 1) (i, none) q := ⟨tp_rho_9, tp_rho_10, fun k _ k9 k10 => tp_rho_k k9 k10, fun c c1 _ => tp_rho_a c1, fun k _ => by rw [tp_rho_a (by omega)], fun o ho => absurd ho (by simp)⟩
theorem q_b113W (hm : pMo sh P m) (x1 x2 z0 : Int32) : fX8_readValue_b113 (n, sh, P, tp_rho J m i 1) m x1 x2 z0 = fX8_readValue_b172 (n, sh, P, tp_rho J m i 1) m x1 x2 z0 0 := by
  unfold fX8_readValue_b113 fX8_readValue_b128 fX8_readValue_b133 fX8_readValue_b153
  rw [tp_0, tp_1, q_gI hm, Option.bind_some, tp_rho_10, if_neg (show ¬ nI 1 = nI 0 by decide), show tw_bz (nI 1) = some (nI 1) from rfl, Option.bind_some, q_pI hm, Option.bind_some, q_gI hm, Option.bind_some, q_gI hm, Option.bind_some, tw_up_at, if_neg (show ¬ nI 1 = nI 0 by decide), q_pI hm, Option.bind_some, q_gI hm, Option.bind_some]
  simp only [tw_up_k (show 9 ≠ 10 by decide), tw_up_k (show 10 ≠ 9 by decide), tw_up_at, tp_rho_9, nI_add, tp_rho_up]
  rw [if_neg (show ¬ nI 1 = nI 0 by decide)]
  rfl
theorem q_b113N (hm : pMo sh P m) (x1 x2 : Int32) : fX8_readValue_b113 (n, sh, P, tp_rho J m i 0) m x1 x2 (-6) = fX8_readValue_b172 (n, sh, P, tp_rho J m i 1) m x1 x2 (-6) 0 := by
  unfold fX8_readValue_b113 fX8_readValue_b128 fX8_readValue_b133 fX8_readValue_b153
  rw [tp_0, tp_1, q_gI hm, Option.bind_some, tp_rho_10, if_pos rfl, if_neg (show ¬ nI 0 ≤ -6 by decide), show tw_bz (nI 1) = some (nI 1) from rfl, Option.bind_some, q_pI hm, Option.bind_some, q_gI hm, Option.bind_some, q_gI hm, Option.bind_some, tw_up_at, if_neg (show ¬ nI 1 = nI 0 by decide), q_pI hm, Option.bind_some, q_gI hm, Option.bind_some]
  simp only [tw_up_k (show 9 ≠ 10 by decide), tw_up_k (show 10 ≠ 9 by decide), tw_up_at, tp_rho_9, nI_add, tp_rho_up]
  rw [if_neg (show ¬ nI 1 = nI 0 by decide)]
  rfl
theorem q_b113 (hm : pMo sh P m) (x1 x2 : Int32) {k : Nat} (hk : k < 10) : fX8_readValue_b113 (n, sh, P, tp_rho J m i 0) m x1 x2 (nI k) = (fX8_register (n, sh, P, tp_rho J m (i + 1) 0) m).bind fun q => fX8_readValue_b172 q.2 m x1 x2 (nI k) q.1 := by
  unfold fX8_readValue_b113 fX8_readValue_b133 fX8_readValue_b153
  rw [tp_0, tp_1, q_gI hm, Option.bind_some, tp_rho_10, if_pos rfl, if_pos (show nI 0 ≤ nI k from nI_le (Nat.zero_le _) (by omega)), show tw_bz (nI 0) = some (nI 0) from rfl, Option.bind_some, q_pI hm, Option.bind_some, q_gI hm, Option.bind_some, q_gI hm, Option.bind_some, tw_up_at, if_pos rfl, q_pI hm, Option.bind_some, q_gI hm, Option.bind_some]
  simp only [tw_up_k (show 9 ≠ 10 by decide), tw_up_k (show 10 ≠ 9 by decide), tw_up_at, tp_rho_9, nI_add, tp_rho_up, if_true]
theorem q_readValue (hm : pMo sh P m) (hx : pTx T L) (hT : pMT J m T L) (hi : i < 170) (hq : J m 8 = nI q) (hb : q < 30) : ∃ J', fX8_readValue (n, sh, P, tp_rho J m i 0) m (nI r) = some (n, sh, P, J') ∧ pMO m J J' (tp_giv (tp_ch T L) r i) q := by
  have hs := q_sign (n := n) (w := 0) hm hx hT (show i < 200 by omega)
  have hl := tp_ch_lt hx i
  unfold fX8_readValue
  rw [tp_0, tp_1, show (48 : Int32) = nI 48 from rfl, show (57 : Int32) = nI 57 from rfl, q_is hm, Option.bind_some, hs, Option.bind_some, q_in _ (by omega) (by decide) (by decide), Option.bind_some]
  by_cases ed : tp_dig (tp_ch T L i)
  · rw [if_pos (show 48 ≤ tp_ch T L i ∧ tp_ch T L i ≤ 57 by omega), if_neg (show ¬ nI 1 = nI 0 by decide)]
    have hg : tp_giv (tp_ch T L) r i = tp_num (tp_ch T L) 0 r i := by unfold tp_giv; rw [if_neg (by omega), if_neg (by omega)]
    obtain ⟨x, e1, h1⟩ := q_number (n := n) hm hx hT (show i < 180 by omega) 0 r
    obtain ⟨J', e2, h2⟩ := q_layRO (n := n) (J := J) (x1 := nI 0) (x2 := nI r) (x3 := -nI 6) (x4 := -nI 6) (x5 := x) hm hq hb (tp_num (tp_ch T L) 0 r i) rfl rfl h1
    rw [e1, Option.bind_some, hg]
    dsimp only
    rw [show (-6 : Int32) = -nI 6 from rfl, e2, Option.bind_some]
    exact ⟨J', rfl, h2⟩
  · rw [if_neg (show ¬ (48 ≤ tp_ch T L i ∧ tp_ch T L i ≤ 57) by omega), if_pos rfl, Option.bind_some, show (91 : Int32) = nI 91 from rfl, show (93 : Int32) = nI 93 from rfl, show (4 : Int32) = nI 4 from rfl]
    by_cases e0 : tp_ch T L i = 91
    · rw [if_pos (by rw [e0]), q_gI hm, Option.bind_some, tp_rho_9, nI_add, q_pI hm, Option.bind_some, tp_rho_9up]
      have hr := q_register (n := n) hm hx hT (show i + 1 < 200 by omega)
      have hl1 := tp_ch_lt hx (i + 1)
      unfold tp_giv tp_load
      rw [if_pos e0, hr, Option.bind_some]
      dsimp only
      by_cases e1 : tp_reg (tp_ch T L (i + 1))
      · rw [if_pos e1, if_pos e1, q_between hm hx hT (by omega) (by decide), Option.bind_some, pk_sub (by omega)]
        by_cases e2 : tp_ch T L (i + 1 + 1) = 93
        · rw [if_pos e2, if_pos e2]
          obtain ⟨J', e3, h3⟩ := q_layRO (n := n) (J := J) (x1 := nI 4) (x2 := nI r) (x3 := nI (tp_ch T L (i + 1) - 97)) (x4 := -nI 6) (x5 := -nI 6) hm hq hb (i + 1 + 2, some (tp_o5 (nI 4) (nI r) (nI (tp_ch T L (i + 1) - 97)) (-nI 6) (-nI 6))) (j := i + 1 + 1 + 1) (w := 0) rfl (by rw [if_neg (show ¬ (some _ = none) from fun z => by cases z)]) (fun o ho => (Option.some.inj ho).symm)
          rw [show (-6 : Int32) = -nI 6 from rfl, e3, Option.bind_some]
          exact ⟨J', rfl, h3⟩
        · rw [if_neg e2, if_neg e2]
          obtain ⟨J', e3, h3⟩ := q_layRO (n := n) (J := J) (x1 := nI 4) (x2 := nI r) (x3 := nI (tp_ch T L (i + 1) - 97)) (x4 := -6) (x5 := -6) hm hq hb (i + 1 + 1, none) (j := i + 1 + 1) (w := 1) rfl (by rw [if_pos rfl]) (fun o ho => absurd ho (by simp))
          rw [e3, Option.bind_some]
          exact ⟨J', rfl, h3⟩
      · rw [if_neg e1, if_neg e1, q_betweenW hm, Option.bind_some]
        obtain ⟨J', e3, h3⟩ := q_layRO (n := n) (J := J) (x1 := nI 4) (x2 := nI r) (x3 := nI (tp_ch T L (i + 1)) - nI 97) (x4 := -6) (x5 := -6) hm hq hb (i + 1, none) (j := i + 1) (w := 1) rfl (by rw [if_pos rfl]) (fun o ho => absurd ho (by simp))
        rw [e3, Option.bind_some]
        exact ⟨J', rfl, h3⟩
    · rw [if_neg (fun z => e0 ((nI_eq (by omega) (by decide)).mp z))]
      have hr := q_register (n := n) hm hx hT (show i < 200 by omega)
      unfold tp_giv
      rw [if_neg e0, hr, Option.bind_some, show (43 : Int32) = nI 43 from rfl, show (45 : Int32) = nI 45 from rfl, show (42 : Int32) = nI 42 from rfl, show (2 : Int32) = nI 2 from rfl, show (3 : Int32) = nI 3 from rfl]
      dsimp only
      by_cases e1 : tp_reg (tp_ch T L i)
      · rw [if_pos e1, if_pos e1, q_sign hm hx hT (by omega), Option.bind_some]
        have hl1 := tp_ch_lt hx (i + 1)
        have hl2 := tp_ch_lt hx (i + 2)
        have hgo : ∀ k, k < 10 → k ≠ 0 → tp_sg (tp_ch T L (i + 1)) = k → ∃ J', fX8_readValue_b113 (n, sh, P, tp_rho J m (i + 1) 0) m (nI r) (nI (tp_ch T L i) - nI 97) (nI k) = some (n, sh, P, J') ∧ pMO m J J' (if tp_sg (tp_ch T L (i + 1)) = 0 then (i + 1, none) else if tp_reg (tp_ch T L (i + 2)) then (i + 3, some (tp_o5 (nI (tp_sg (tp_ch T L (i + 1)))) (nI r) (nI (tp_ch T L i - 97)) (nI (tp_ch T L (i + 2) - 97)) (-nI 6))) else (i + 2, none)) q := by
          intro k hk hk0 hsg
          rw [hsg, if_neg hk0, q_b113 hm _ _ hk, q_register hm hx hT (by omega), Option.bind_some]
          unfold fX8_readValue_b172
          dsimp only
          rw [pk_sub (show 97 ≤ tp_ch T L i by omega)]
          by_cases e2 : tp_reg (tp_ch T L (i + 2))
          · rw [if_pos (show tp_reg (tp_ch T L (i + 1 + 1)) from e2), if_pos e2, pk_sub (show 97 ≤ tp_ch T L (i + 1 + 1) from e2.1)]
            obtain ⟨J', e3, h3⟩ := q_layRO (n := n) (J := J) (x1 := nI k) (x2 := nI r) (x3 := nI (tp_ch T L i - 97)) (x4 := nI (tp_ch T L (i + 1 + 1) - 97)) (x5 := -nI 6) hm hq hb (i + 3, some (tp_o5 (nI k) (nI r) (nI (tp_ch T L i - 97)) (nI (tp_ch T L (i + 2) - 97)) (-nI 6))) (j := i + 1 + 1 + 1) (w := 0) rfl (by rw [if_neg (show ¬ (some _ = none) from fun z => by cases z)]) (fun o ho => (Option.some.inj ho).symm)
            rw [show (-6 : Int32) = -nI 6 from rfl, e3, Option.bind_some]
            exact ⟨J', rfl, h3⟩
          · rw [if_neg (show ¬ tp_reg (tp_ch T L (i + 1 + 1)) from e2), if_neg e2]
            obtain ⟨J', e3, h3⟩ := q_layRO (n := n) (J := J) (x1 := nI k) (x2 := nI r) (x3 := nI (tp_ch T L i - 97)) (x4 := nI (tp_ch T L (i + 1 + 1)) - nI 97) (x5 := -6) hm hq hb (i + 2, none) (j := i + 1 + 1) (w := 1) rfl (by rw [if_pos rfl]) (fun o ho => absurd ho (by simp))
            rw [e3, Option.bind_some]
            exact ⟨J', rfl, h3⟩
        by_cases s1 : tp_ch T L (i + 1) = 43
        · rw [if_pos (by rw [s1])]
          exact hgo 1 (by decide) (by decide) (by unfold tp_sg; rw [if_pos s1])
        · rw [if_neg (fun z => s1 ((nI_eq (by omega) (by decide)).mp z))]
          by_cases s2 : tp_ch T L (i + 1) = 45
          · rw [if_pos (by rw [s2])]
            exact hgo 2 (by decide) (by decide) (by unfold tp_sg; rw [if_neg s1, if_pos s2])
          · rw [if_neg (fun z => s2 ((nI_eq (by omega) (by decide)).mp z))]
            by_cases s3 : tp_ch T L (i + 1) = 42
            · rw [if_pos (by rw [s3])]
              exact hgo 3 (by decide) (by decide) (by unfold tp_sg; rw [if_neg s1, if_neg s2, if_pos s3])
            · rw [if_neg (fun z => s3 ((nI_eq (by omega) (by decide)).mp z)), if_pos (show tp_sg (tp_ch T L (i + 1)) = 0 by unfold tp_sg; rw [if_neg s1, if_neg s2, if_neg s3]), q_b113N hm]
              unfold fX8_readValue_b172
              obtain ⟨J', e3, h3⟩ := q_layRO (n := n) (J := J) (x1 := -6) (x2 := nI r) (x3 := nI (tp_ch T L i) - nI 97) (x4 := 0) (x5 := -6) hm hq hb (i + 1, none) (j := i + 1) (w := 1) rfl (by rw [if_pos rfl]) (fun o ho => absurd ho (by simp))
              rw [e3, Option.bind_some]
              exact ⟨J', rfl, h3⟩
      · rw [if_neg e1, if_neg e1, q_sign hm hx hT (by omega), Option.bind_some]
        have hnum : tp_num (tp_ch T L) 0 r i = (i, none) := by unfold tp_num; rw [if_neg ed]
        rw [hnum]
        have hfin : ∀ z0, ∃ J', fX8_readValue_b113 (n, sh, P, tp_rho J m i 1) m (nI r) (nI (tp_ch T L i) - nI 97) z0 = some (n, sh, P, J') ∧ pMO m J J' (i, none) q := by
          intro z0
          rw [q_b113W hm]
          unfold fX8_readValue_b172
          obtain ⟨J', e3, h3⟩ := q_layRO (n := n) (J := J) (x1 := z0) (x2 := nI r) (x3 := nI (tp_ch T L i) - nI 97) (x4 := 0) (x5 := -6) hm hq hb (i, none) (j := i) (w := 1) rfl (by rw [if_pos rfl]) (fun o ho => absurd ho (by simp))
          rw [e3, Option.bind_some]
          exact ⟨J', rfl, h3⟩
        split
        · exact hfin _
        · split
          · exact hfin _
          · split
            · exact hfin _
            · exact hfin _
end TPE3
