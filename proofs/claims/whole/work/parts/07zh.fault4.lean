section TPE4
variable {n : Nat} {sh : tw_Sh} {P : Nat → Nat → Option Nat} {I J : Nat → Nat → Int32} {m i w c q L r : Nat} {T : Nat → Nat}
theorem q_b51 (hm : pMo sh P m) (hq : J m 8 = nI q) (hb : q < 30) {x1 z0 : Int32} (r : tp_RO) {j w : Nat} (hj : j = r.1) (hw : w = if r.2 = none then 1 else 0) (hr : ∀ o, r.2 = some o → o = tp_o5 (nI 5) x1 z0 (-nI 6) (-nI 6)) : ∃ J', fX8_readOne_b51 (n, sh, P, tp_rho J m j w) m x1 z0 = some (n, sh, P, J') ∧ pMO m J J' r q := by
  obtain ⟨J', e, h⟩ := q_layRO (n := n) (J := J) hm hq hb r hj hw hr
  unfold fX8_readOne_b51
  rw [show (5 : Int32) = nI 5 from rfl, show (-6 : Int32) = -nI 6 from rfl, e, Option.bind_some]
  exact ⟨J', rfl, h⟩
theorem q_readOne (hm : pMo sh P m) (hx : pTx T L) (hT : pMT J m T L) (hi : i < 160) (hq : J m 8 = nI q) (hb : q < 30) : ∃ J', fX8_readOne (n, sh, P, tp_rho J m i 0) m = some (n, sh, P, J') ∧ pMO m J J' (tp_ordr (tp_ch T L) i) q := by
  have hs := q_sign (n := n) (w := 0) hm hx hT (show i < 200 by omega)
  have hl := tp_ch_lt hx i
  unfold fX8_readOne tp_ordr
  rw [tp_0, tp_1, q_is hm, Option.bind_some, hs, Option.bind_some, show (91 : Int32) = nI 91 from rfl, show (93 : Int32) = nI 93 from rfl, show (61 : Int32) = nI 61 from rfl, show (63 : Int32) = nI 63 from rfl]
  by_cases e0 : tp_ch T L i = 91
  · rw [if_pos (by rw [e0]), if_pos e0, q_gI hm, Option.bind_some, tp_rho_9, nI_add, q_pI hm, Option.bind_some, tp_rho_9up, q_register hm hx hT (by omega), Option.bind_some]
    dsimp only
    unfold tp_store
    have hl1 := tp_ch_lt hx (i + 1)
    by_cases e1 : tp_reg (tp_ch T L (i + 1))
    · rw [if_pos e1, if_pos e1, q_between hm hx hT (by omega) (by decide), Option.bind_some, pk_sub (show 97 ≤ tp_ch T L (i + 1) by omega)]
      by_cases e2 : tp_ch T L (i + 1 + 1) = 93
      · rw [if_pos e2, if_pos e2, q_between hm hx hT (by omega) (by decide), Option.bind_some]
        by_cases e3 : tp_ch T L (i + 1 + 2) = 61
        · rw [if_pos (show tp_ch T L (i + 1 + 1 + 1) = 61 from e3), if_pos e3, q_gI hm, Option.bind_some, tp_rho_10, if_pos rfl, q_register hm hx hT (by omega), Option.bind_some]
          dsimp only
          by_cases e4 : tp_reg (tp_ch T L (i + 1 + 3))
          · rw [if_pos (show tp_reg (tp_ch T L (i + 1 + 1 + 1 + 1)) from e4), if_pos e4, pk_sub (show 97 ≤ tp_ch T L (i + 1 + 1 + 1 + 1) from e4.1)]
            exact q_b51 hm hq hb (i + 1 + 4, some _) rfl (by rw [if_neg (show ¬ (some _ = none) from fun z => by cases z)]) (fun o ho => (Option.some.inj ho).symm)
          · rw [if_neg (show ¬ tp_reg (tp_ch T L (i + 1 + 1 + 1 + 1)) from e4), if_neg e4]
            exact q_b51 hm hq hb (i + 1 + 3, none) rfl (by rw [if_pos rfl]) (fun o ho => absurd ho (by simp))
        · rw [if_neg (show ¬ tp_ch T L (i + 1 + 1 + 1) = 61 from e3), if_neg e3, q_gI hm, Option.bind_some, tp_rho_10, if_neg (show ¬ nI 1 = nI 0 by decide)]
          exact q_b51 hm hq hb (i + 1 + 2, none) rfl (by rw [if_pos rfl]) (fun o ho => absurd ho (by simp))
      · rw [if_neg e2, if_neg e2, q_betweenW hm, Option.bind_some, q_gI hm, Option.bind_some, tp_rho_10, if_neg (show ¬ nI 1 = nI 0 by decide)]
        exact q_b51 hm hq hb (i + 1 + 1, none) rfl (by rw [if_pos rfl]) (fun o ho => absurd ho (by simp))
    · rw [if_neg e1, if_neg e1, q_betweenW hm, Option.bind_some, q_betweenW hm, Option.bind_some, q_gI hm, Option.bind_some, tp_rho_10, if_neg (show ¬ nI 1 = nI 0 by decide)]
      exact q_b51 hm hq hb (i + 1, none) rfl (by rw [if_pos rfl]) (fun o ho => absurd ho (by simp))
  · rw [if_neg (fun z => e0 ((nI_eq (by omega) (by decide)).mp z)), if_neg e0, q_register hm hx hT (by omega), Option.bind_some]
    dsimp only
    by_cases e1 : tp_reg (tp_ch T L i)
    · have hl1 := tp_ch_lt hx (i + 1)
      rw [if_pos e1, if_pos e1, q_gI hm, Option.bind_some, tp_rho_10, if_pos rfl, q_sign hm hx hT (by omega), Option.bind_some, pk_sub (show 97 ≤ tp_ch T L i by omega)]
      by_cases e2 : tp_ch T L (i + 1) = 63
      · rw [if_pos (by rw [e2]), if_pos e2, q_gI hm, Option.bind_some, tp_rho_9, nI_add, q_pI hm, Option.bind_some, tp_rho_9up]
        obtain ⟨x, e3, h3⟩ := q_number (n := n) hm hx hT (show i + 1 + 1 < 180 by omega) 6 (tp_ch T L i - 97)
        obtain ⟨J', e4, h4⟩ := q_layRO (n := n) (J := J) (x1 := nI 6) (x2 := nI (tp_ch T L i - 97)) (x3 := -nI 6) (x4 := -nI 6) (x5 := x) hm hq hb (tp_num (tp_ch T L) 6 (tp_ch T L i - 97) (i + 1 + 1)) rfl rfl h3
        rw [e3, Option.bind_some]
        dsimp only
        rw [show (6 : Int32) = nI 6 from rfl, e4, Option.bind_some]
        exact ⟨J', rfl, h4⟩
      · rw [if_neg (fun z => e2 ((nI_eq (by omega) (by decide)).mp z)), if_neg e2, q_between hm hx hT (by omega) (by decide), Option.bind_some]
        by_cases e3 : tp_ch T L (i + 1) = 61
        · obtain ⟨J', e4, h4⟩ := q_readValue (n := n) (i := i + 1 + 1) (r := tp_ch T L i - 97) hm hx hT (by omega) hq hb
          rw [if_pos e3, if_pos e3, q_gI hm, Option.bind_some, tp_rho_10, if_pos rfl, e4, Option.bind_some]
          exact ⟨J', rfl, h4⟩
        · rw [if_neg e3, if_neg e3, q_gI hm, Option.bind_some, tp_rho_10, if_neg (show ¬ nI 1 = nI 0 by decide)]
          exact ⟨_, rfl, pMO.none'⟩
    · rw [if_neg e1, if_neg e1, q_gI hm, Option.bind_some, tp_rho_10, if_neg (show ¬ nI 1 = nI 0 by decide)]
      exact ⟨_, rfl, pMO.none'⟩
/-- what the reference's rows hold of q orders o -/
def pMRows (J : Nat → Nat → Int32) (m q : Nat) (o : Nat → Nat → Int32) : Prop := J m 8 = nI q ∧ ∀ k, k < q → ∀ c, c < 5 → J (m + 6) (5 * k + c) = o k c
theorem pMO.rows {J J' : Nat → Nat → Int32} {r : tp_RO} {o : Nat → Nat → Int32} {w : Nat → Int32} (h : pMO m J J' r q) (hr : pMRows J m q o) (hw : r.2 = some w) : pMRows J' m (q + 1) (fun k => if k = q then w else o k) := by
  obtain ⟨h1, h2, h3, h4, h5, h6⟩ := h
  obtain ⟨y1, y2⟩ := h6 w hw
  refine ⟨y1, fun k hk c hc => ?_⟩
  show _ = (if k = q then w else o k) c
  by_cases e : k = q
  · rw [if_pos e, e]; exact y2 c hc
  · rw [if_neg e, h5 _ (by omega)]; exact hr.2 k (by omega) c hc
theorem tp_rho_self {J : Nat → Nat → Int32} (h9 : J m 9 = nI i) (h10 : J m 10 = nI w) : tp_rho J m i w = J := by
  unfold tp_rho
  rw [← h10, tw_up_self, ← h9, tw_up_self]
theorem q_faultLoop (hm : pMo sh P m) (hx : pTx T L) : ∀ (f k i q : Nat) (o : Nat → Nat → Int32) (J J1 : Nat → Nat → Int32), 4 * q ≤ i → i ≤ L → 2 * (80 - i) + 2 < k → 81 ≤ f + q → pMT J m T L → pMRows J m q o → pMO m J J1 (tp_ordr (tp_ch T L) i) q →
    ∃ J', fX8_faultOf_l19 k (n, sh, P, J1) m = some ((tp_rd (tp_ch T L) L f i q o).1, (n, sh, P, J')) ∧ ((tp_rd (tp_ch T L) L f i q o).1 = -nI 6 → pMRows J' m (tp_rd (tp_ch T L) L f i q o).2.1 (tp_rd (tp_ch T L) L f i q o).2.2) ∧ (∀ c, c ≠ m → c ≠ m + 6 → J' c = J c) ∧ ∀ k, k ≠ 8 → k ≠ 9 → k ≠ 10 → J' m k = J m k
  | f, k, i, q, o, J, J1, h4, hi, hk, hf, hT, hR, hO => by
    have hL := hx.1
    obtain ⟨k, rfl⟩ : ∃ e, k = e + 1 := ⟨k - 1, by omega⟩
    obtain ⟨f, rfl⟩ : ∃ e, f = e + 1 := ⟨f - 1, by omega⟩
    have hb := tp_ordr_b (i := i) (tp_ch_0 T L) hi
    show ∃ J', fX8_faultOf_h19 (fX8_faultOf_l19 k) (n, sh, P, J1) m = _ ∧ _
    unfold fX8_faultOf_h19 fX8_faultOf_b57 tp_rd
    have hO' := hO
    obtain ⟨h1, h2, h3, h5, h6, h7⟩ := hO
    have hT1 : pMT J1 m T L := ⟨fun j hj => by rw [h5 _ (by omega) (by omega)]; exact hT.1 j hj, by rw [h3 6 (by decide) (by decide) (by decide)]; exact hT.2⟩
    generalize hrq : tp_ordr (tp_ch T L) i = rq at *
    obtain ⟨i', res⟩ := rq
    dsimp only at h1 h2 h7 hb ⊢
    rw [tp_0, q_gI hm, Option.bind_some, h2]
    cases res with
    | none =>
      rw [if_pos rfl, if_neg (show ¬ nI 1 = nI 0 by decide), Option.bind_some, if_neg (show ¬ nI 1 = nI 0 by decide), q_gI hm, Option.bind_some, h1]
      dsimp only
      exact ⟨J1, rfl, fun z => absurd z (by intro z; have := tp_m6 (show i' < 2 ^ 31 by omega); rw [this] at z; exact z), h5, h3⟩
    | some w =>
      rw [if_neg (show ¬ (some w = none) from fun z => by cases z), if_pos rfl, q_gI hm, Option.bind_some, q_gI hm, Option.bind_some, h1, hT1.2]
      dsimp only
      have hR1 := hO'.rows hR rfl
      have h8 := (h7 w rfl).1
      by_cases e2 : i' = L
      · rw [if_pos (show nI L ≤ nI i' from nI_le (by omega) (by omega)), Option.bind_some, if_pos rfl, if_pos e2]
        exact ⟨J1, rfl, fun _ => hR1, h5, h3⟩
      · have hlt : i' < L := by omega
        have hself : tp_rho J1 m i' 0 = J1 := tp_rho_self h1 (by rw [h2, if_neg (show ¬ (some w = none) from fun z => by cases z)])
        have hbt := q_between (n := n) (i := i') (c := 59) hm hx hT1 (by omega) (by decide)
        rw [hself] at hbt
        rw [if_neg (show ¬ nI L ≤ nI i' from nI_ge hlt (by omega)), if_neg e2, show (59 : Int32) = nI 59 from rfl, hbt, Option.bind_some]
        by_cases e3 : tp_ch T L i' = 59
        · have hi3 : i + 3 ≤ i' := hb.2.2.resolve_left (fun z => by cases z)
          obtain ⟨J2, e4, hO2⟩ := q_readOne (n := n) (i := i' + 1) hm hx hT1 (by omega) h8 (by omega)
          rw [if_pos e3, if_pos e3, q_gI hm, Option.bind_some, tp_rho_10, if_pos rfl, e4, Option.bind_some]
          obtain ⟨J', g1, g2, g3, g4⟩ := q_faultLoop hm hx f k (i' + 1) (q + 1) (fun k => if k = q then w else o k) J1 J2 (by omega) (by omega) (by omega) (by omega) hT1 hR1 hO2
          exact ⟨J', g1, g2, fun c c1 c2 => by rw [g3 c c1 c2, h5 c c1 c2], fun k k8 k9 k10 => by rw [g4 k k8 k9 k10, h3 k k8 k9 k10]⟩
        · rw [if_neg e3, if_neg e3, q_gI hm, Option.bind_some, tp_rho_10, if_neg (show ¬ nI 1 = nI 0 by decide)]
          obtain ⟨k, rfl⟩ : ∃ e, k = e + 1 := ⟨k - 1, by omega⟩
          show ∃ J', fX8_faultOf_h19 (fX8_faultOf_l19 k) (n, sh, P, tp_rho J1 m i' 1) m = _ ∧ _
          unfold fX8_faultOf_h19 fX8_faultOf_b57
          rw [tp_0, q_gI hm, Option.bind_some, tp_rho_10, if_neg (show ¬ nI 1 = nI 0 by decide), Option.bind_some, if_neg (show ¬ nI 1 = nI 0 by decide), q_gI hm, Option.bind_some, tp_rho_9]
          exact ⟨_, rfl, fun z => absurd z (by intro z; have := tp_m6 (show i' < 2 ^ 31 by omega); rw [this] at z; exact z), fun c c1 c2 => by rw [tp_rho_a c1]; exact h5 c c1 c2, fun k k8 k9 k10 => by rw [tp_rho_k k9 k10]; exact h3 k k8 k9 k10⟩
theorem q_faultOf (hm : pMo sh P m) (hx : pTx T L) (hT : pMT I m T L) : ∃ J', fX8_faultOf (n, sh, P, I) m = some ((tp_text T L).1, (n, sh, P, J')) ∧ ((tp_text T L).1 = -nI 6 → pMRows J' m (tp_text T L).2.1 (tp_text T L).2.2) ∧ (∀ c, c ≠ m → c ≠ m + 6 → J' c = I c) ∧ ∀ k, k ≠ 8 → k ≠ 9 → k ≠ 10 → J' m k = I m k := by
  have hT8 : pMT (tw_up I m 8 (nI 0)) m T L := ⟨fun j hj => by rw [tw_up_a (by omega)]; exact hT.1 j hj, by rw [tw_up_k (by decide)]; exact hT.2⟩
  obtain ⟨J1, e1, hO⟩ := q_readOne (n := n) (i := 0) (q := 0) (J := tw_up I m 8 (nI 0)) hm hx hT8 (by omega) tw_up_at (by decide)
  obtain ⟨J', g1, g2, g3, g4⟩ := q_faultLoop (n := n) hm hx 81 tw_F 0 0 (fun _ _ => 0) (tw_up I m 8 (nI 0)) J1 (by omega) (Nat.zero_le _) (show 2 * (80 - 0) + 2 < 100000 by decide) (by omega) hT8 ⟨tw_up_at, fun k hk => absurd hk (Nat.not_lt_zero k)⟩ hO
  have hst : tw_up (tw_up (tw_up I m 9 (nI 0)) m 8 (nI 0)) m 10 (nI 0) = tp_rho (tw_up I m 8 (nI 0)) m 0 0 := by
    funext c k
    unfold tp_rho tw_up
    by_cases h10 : c = m ∧ k = 10
    · have h9 : ¬ (c = m ∧ k = 9) := fun z => by omega
      simp only [if_pos h10, if_neg h9]
    · by_cases h8 : c = m ∧ k = 8
      · have h9 : ¬ (c = m ∧ k = 9) := fun z => by omega
        simp only [if_neg h10, if_neg h9, if_pos h8]
      · by_cases h9 : c = m ∧ k = 9
        · simp only [if_neg h10, if_neg h8, if_pos h9]
        · simp only [if_neg h10, if_neg h8, if_neg h9]
  unfold fX8_faultOf
  rw [tp_0, q_is hm, Option.bind_some, q_pI hm, Option.bind_some, q_pI hm, Option.bind_some, q_pI hm, Option.bind_some, hst, e1, Option.bind_some]
  exact ⟨J', g1, g2, fun c c1 c2 => by rw [g3 c c1 c2, tw_up_a c1], fun k k8 k9 k10 => by rw [g4 k k8 k9 k10, tw_up_k k8]⟩
end TPE4
