section TPE2
variable {n : Nat} {sh : tw_Sh} {P : Nat → Nat → Option Nat} {I J : Nat → Nat → Int32} {m i w c q L r : Nat} {T : Nat → Nat}
theorem tp_rho_9up {w' : Nat} : tw_up (tp_rho J m i w) m 9 (nI w') = tp_rho J m w' w := by unfold tp_rho; rw [tw_up_up]
theorem q_num55 (hm : pMo sh P m) (hx : pTx T L) (hT : pMT J m T L) (hi : i < 190) {x : Nat} (hx1 : x < 100) (k : Nat) : fX8_number_l55 (k + 1) (n, sh, P, tp_rho J m i 0) m (nI x) = if x ≠ 0 ∧ tp_dig (tp_ch T L i) ∧ 10 * x + (tp_ch T L i - 48) ≤ 99 then fX8_number_l55 k (n, sh, P, tp_rho J m (i + 1) 0) m (nI (10 * x + (tp_ch T L i - 48))) else some (nI x, (n, sh, P, tp_rho J m i 0)) := by
  have hs := q_sign (n := n) (w := 0) hm hx hT (show i < 200 by omega)
  have hl := tp_ch_lt hx i
  show fX8_number_h55 (fX8_number_l55 k) (n, sh, P, tp_rho J m i 0) m (nI x) = _
  unfold fX8_number_h55
  rw [tp_0, tp_1, show (48 : Int32) = nI 48 from rfl, show (57 : Int32) = nI 57 from rfl, show (10 : Int32) = nI 10 from rfl, show (99 : Int32) = nI 99 from rfl, q_gI hm, Option.bind_some, tp_rho_10, if_pos rfl]
  by_cases e : x = 0
  · rw [if_pos ((nI_leI (by omega) (by decide)).mpr (by omega)), if_neg (show ¬ (x ≠ 0 ∧ tp_dig (tp_ch T L i) ∧ 10 * x + (tp_ch T L i - 48) ≤ 99) from fun z => z.1 e)]
  · rw [if_neg (fun z => by have := (nI_leI (by omega) (by decide)).mp z; omega), hs, Option.bind_some, q_in _ (by omega) (by decide) (by decide), Option.bind_some]
    by_cases e1 : tp_dig (tp_ch T L i)
    · rw [if_pos (show 48 ≤ tp_ch T L i ∧ tp_ch T L i ≤ 57 by omega), if_neg (show ¬ nI 1 = nI 0 by decide), Option.bind_some, pk_mul, nI_add, pk_sub (by omega), show 10 * x + tp_ch T L i - 48 = 10 * x + (tp_ch T L i - 48) by omega]
      by_cases e2 : 10 * x + (tp_ch T L i - 48) ≤ 99
      · rw [if_neg (fun z => by have := (nI_ltI (by omega) (by omega)).mp z; omega), if_pos (show x ≠ 0 ∧ tp_dig (tp_ch T L i) ∧ 10 * x + (tp_ch T L i - 48) ≤ 99 from ⟨e, e1, e2⟩), Option.bind_some, q_gI hm, Option.bind_some, tp_rho_9, nI_add, q_pI hm, Option.bind_some, tp_rho_9up, nI_add, pk_sub (by omega), show 10 * x + tp_ch T L i - 48 = 10 * x + (tp_ch T L i - 48) by omega]
      · rw [if_pos ((nI_ltI (by omega) (by omega)).mpr (by omega)), if_neg (show ¬ (x ≠ 0 ∧ tp_dig (tp_ch T L i) ∧ 10 * x + (tp_ch T L i - 48) ≤ 99) from fun z => e2 z.2.2)]
    · rw [if_neg (show ¬ (48 ≤ tp_ch T L i ∧ tp_ch T L i ≤ 57) by omega), if_pos rfl, if_neg (show ¬ (x ≠ 0 ∧ tp_dig (tp_ch T L i) ∧ 10 * x + (tp_ch T L i - 48) ≤ 99) from fun z => e1 z.2.1)]
/-- the reference's number: its value where there is one, and where it stands then -/
theorem q_number (hm : pMo sh P m) (hx : pTx T L) (hT : pMT J m T L) (hi : i < 180) (k r : Nat) : ∃ x, fX8_number (n, sh, P, tp_rho J m i 0) m = some (x, (n, sh, P, tp_rho J m (tp_num (tp_ch T L) k r i).1 (if (tp_num (tp_ch T L) k r i).2 = none then 1 else 0))) ∧ ∀ o, (tp_num (tp_ch T L) k r i).2 = some o → o = tp_o5 (nI k) (nI r) (-nI 6) (-nI 6) x := by
  have hs := q_sign (n := n) (w := 0) hm hx hT (show i < 200 by omega)
  have hl := tp_ch_lt hx i
  have hl1 := tp_ch_lt hx (i + 1)
  have hl2 := tp_ch_lt hx (i + 2)
  unfold fX8_number fX8_number_b26 tp_num
  rw [tp_0, tp_1, show (48 : Int32) = nI 48 from rfl, show (9 : Int32) = nI 9 from rfl, q_is hm, Option.bind_some, hs, Option.bind_some, q_gI hm, Option.bind_some, tp_rho_10, if_pos rfl, q_inr _ (by omega) (by decide) (by decide), Option.bind_some]
  by_cases e : tp_dig (tp_ch T L i)
  · rw [if_pos (show 48 ≤ tp_ch T L i ∧ tp_ch T L i < 48 + 9 + 1 from e), if_neg (show ¬ nI 1 = nI 0 by decide), if_pos e]
    unfold fX8_number_b31 fX8_number_b51
    rw [tp_0, tp_1, show tw_bz (nI 0) = some (nI 0) from rfl, Option.bind_some, q_pI hm, Option.bind_some, q_gI hm, Option.bind_some, q_gI hm, Option.bind_some, tw_up_at, if_pos rfl, q_pI hm, Option.bind_some, tw_up_k (by decide), tp_rho_9, nI_add, tp_rho_up, pk_sub (by omega), show tw_F = 99997 + 1 + 1 + 1 from rfl, q_num55 hm hx hT (by omega) (by omega)]
    by_cases e1 : tp_ch T L i ≠ 48 ∧ tp_dig (tp_ch T L (i + 1))
    · rw [if_pos (show tp_ch T L i - 48 ≠ 0 ∧ tp_dig (tp_ch T L (i + 1)) ∧ 10 * (tp_ch T L i - 48) + (tp_ch T L (i + 1) - 48) ≤ 99 by omega), if_pos e1, q_num55 hm hx hT (by omega) (by omega), if_neg (by omega)]
      refine ⟨_, by rw [if_neg (show ¬ (some _ = none) from fun z => by cases z)], fun o ho => ?_⟩
      rw [← Option.some.inj ho, Nat.mul_comm]
    · rw [if_neg (show ¬ (tp_ch T L i - 48 ≠ 0 ∧ tp_dig (tp_ch T L (i + 1)) ∧ 10 * (tp_ch T L i - 48) + (tp_ch T L (i + 1) - 48) ≤ 99) from fun z => e1 ⟨by omega, z.2.1⟩), if_neg e1]
      exact ⟨_, by rw [if_neg (show ¬ (some _ = none) from fun z => by cases z)], fun o ho => (Option.some.inj ho).symm⟩
  · rw [if_neg (show ¬ (48 ≤ tp_ch T L i ∧ tp_ch T L i < 48 + 9 + 1) from e), if_pos rfl, if_neg e]
    unfold fX8_number_b31 fX8_number_b51
    rw [tp_0, tp_1, show tw_bz (nI 1) = some (nI 1) from rfl, Option.bind_some, q_pI hm, Option.bind_some, q_gI hm, Option.bind_some, q_gI hm, Option.bind_some, tw_up_at, if_neg (show ¬ nI 1 = nI 0 by decide), q_pI hm, Option.bind_some, tw_up_k (by decide), tp_rho_9, nI_add, tp_rho_up, show tw_F = 99999 + 1 from rfl]
    refine ⟨nI (tp_ch T L i) - nI 48, ?_, fun o ho => absurd ho (by simp)⟩
    show fX8_number_h55 (fX8_number_l55 99999) (n, sh, P, tp_rho J m (i + 0) 1) m (nI (tp_ch T L i) - nI 48) = _
    unfold fX8_number_h55
    rw [q_gI hm, Option.bind_some, tp_rho_10, if_neg (show ¬ nI 1 = 0 by decide)]
    rfl
end TPE2
