/-! The reference reads its text. -/
def pMT (I : Nat → Nat → Int32) (m : Nat) (T : Nat → Nat) (L : Nat) : Prop := (∀ j, j < L → I (m + 5) j = nI (T j)) ∧ I m 6 = nI L
def tp_rho (J : Nat → Nat → Int32) (m i w : Nat) : Nat → Nat → Int32 := tw_up (tw_up J m 10 (nI w)) m 9 (nI i)
theorem tp_rho_9 {J : Nat → Nat → Int32} {m i w : Nat} : tp_rho J m i w m 9 = nI i := tw_up_at
theorem tp_rho_10 {J : Nat → Nat → Int32} {m i w : Nat} : tp_rho J m i w m 10 = nI w := by unfold tp_rho; rw [tw_up_k (by decide), tw_up_at]
theorem tp_rho_k {J : Nat → Nat → Int32} {m i w k : Nat} (h9 : k ≠ 9) (h10 : k ≠ 10) : tp_rho J m i w m k = J m k := by unfold tp_rho; rw [tw_up_k h9, tw_up_k h10]
theorem tp_rho_a {J : Nat → Nat → Int32} {m i w c : Nat} (h : c ≠ m) : tp_rho J m i w c = J c := by unfold tp_rho; rw [tw_up_a h, tw_up_a h]
theorem tp_rho_up {J : Nat → Nat → Int32} {m i w i' w' : Nat} : tw_up (tw_up (tp_rho J m i w) m 10 (nI w')) m 9 (nI i') = tp_rho J m i' w' := by
  funext c k
  unfold tp_rho tw_up
  by_cases h : c = m ∧ k = 9
  · simp only [if_pos h]
  · by_cases h2 : c = m ∧ k = 10
    · simp only [if_neg h, if_pos h2]
    · simp only [if_neg h, if_neg h2]
theorem pMT.rho {J : Nat → Nat → Int32} {m L i w : Nat} {T : Nat → Nat} (h : pMT J m T L) : pMT (tp_rho J m i w) m T L := ⟨fun j hj => by rw [tp_rho_a (by omega)]; exact h.1 j hj, by rw [tp_rho_k (by decide) (by decide)]; exact h.2⟩
section TPE1
variable {n : Nat} {sh : tw_Sh} {P : Nat → Nat → Option Nat} {I J : Nat → Nat → Int32} {m i w c q L : Nat} {T : Nat → Nat}
theorem q_sign (hm : pMo sh P m) (hx : pTx T L) (hT : pMT J m T L) (hi : i < 200) : fX8_sign (n, sh, P, tp_rho J m i w) m = some (nI (tp_ch T L i)) := by
  have hL := hx.1
  unfold fX8_sign tp_ch
  rw [tp_0, q_is hm, Option.bind_some, q_gI hm, Option.bind_some, q_gI hm, Option.bind_some, tp_rho_9, (hT.rho).2]
  by_cases e : i < L
  · rw [if_neg (show ¬ nI L ≤ nI i from nI_ge e (by omega)), if_pos e, q_P5 hm, Option.bind_some, Option.bind_some, q_a5 hm (by omega), Option.bind_some, (hT.rho).1 i e]
  · rw [if_pos (show nI L ≤ nI i from nI_le (by omega) (by omega)), if_neg e]
theorem q_between (hm : pMo sh P m) (hx : pTx T L) (hT : pMT J m T L) (hi : i < 200) (hc : c < 200) : fX8_between (n, sh, P, tp_rho J m i 0) m (nI c) = some (n, sh, P, if tp_ch T L i = c then tp_rho J m (i + 1) 0 else tp_rho J m i 1) := by
  have hs := q_sign (n := n) (w := 0) hm hx hT hi
  have hl := tp_ch_lt hx i
  unfold fX8_between fX8_between_b16
  rw [tp_0, tp_1, q_is hm, Option.bind_some, q_gI hm, Option.bind_some, tp_rho_10, if_pos rfl, hs, Option.bind_some]
  by_cases e : tp_ch T L i = c
  · rw [if_pos (by rw [e]), if_pos e]
    unfold fX8_between_b21 fX8_between_b41
    rw [tp_0, tp_1, show tw_bz (nI 0) = some (nI 0) from rfl, Option.bind_some, q_pI hm, Option.bind_some, q_gI hm, Option.bind_some, q_gI hm, Option.bind_some, tw_up_at, if_pos rfl, q_pI hm, Option.bind_some, tw_up_k (by decide), tp_rho_9, nI_add, tp_rho_up]
  · rw [if_neg (fun z => e ((nI_eq (by omega) (by omega)).mp z)), if_neg e]
    unfold fX8_between_b21 fX8_between_b41
    rw [tp_0, tp_1, show tw_bz (nI 1) = some (nI 1) from rfl, Option.bind_some, q_pI hm, Option.bind_some, q_gI hm, Option.bind_some, q_gI hm, Option.bind_some, tw_up_at, if_neg (show ¬ nI 1 = nI 0 by decide), q_pI hm, Option.bind_some, tw_up_k (by decide), tp_rho_9, nI_add, tp_rho_up]
    rfl
theorem q_betweenW (hm : pMo sh P m) (x : Int32) : fX8_between (n, sh, P, tp_rho J m i 1) m x = some (n, sh, P, tp_rho J m i 1) := by
  unfold fX8_between fX8_between_b16 fX8_between_b21 fX8_between_b41
  rw [tp_0, tp_1, q_is hm, Option.bind_some, q_gI hm, Option.bind_some, tp_rho_10, if_neg (show ¬ nI 1 = nI 0 by decide), show tw_bz (nI 1) = some (nI 1) from rfl, Option.bind_some, q_pI hm, Option.bind_some, q_gI hm, Option.bind_some, q_gI hm, Option.bind_some, tw_up_at, if_neg (show ¬ nI 1 = nI 0 by decide), q_pI hm, Option.bind_some, tw_up_k (by decide), tp_rho_9, nI_add, tp_rho_up]
  rfl
theorem q_inr (σ : tw_St) {a lo hi : Nat} (ha : a < 1000) (hlo : lo < 1000) (hhi : hi < 1000) : fX8_in σ (nI a - nI lo) (nI 0) (nI hi) = some (nI (if lo ≤ a ∧ a < lo + hi + 1 then 1 else 0)) := by
  by_cases e : lo ≤ a
  · rw [pk_sub e, q_in σ (by omega) (by omega) (by omega)]
    congr 2
    by_cases e2 : a < lo + hi + 1
    · rw [if_pos (by omega), if_pos ⟨e, e2⟩]
    · rw [if_neg (by omega), if_neg (fun z => e2 z.2)]
  · rw [tp_subneg (by omega), if_neg (fun z => e z.1)]
    have hneg : ∀ q, q < 1000 → -nI (q + 1) < 0 := by decide +kernel
    refine q_in_neg σ ?_ (by decide)
    rw [show lo - a = (lo - a - 1) + 1 by omega]
    exact hneg _ (by omega)
theorem q_register (hm : pMo sh P m) (hx : pTx T L) (hT : pMT J m T L) (hi : i < 200) : fX8_register (n, sh, P, tp_rho J m i 0) m = some (nI (tp_ch T L i) - nI 97, (n, sh, P, if tp_reg (tp_ch T L i) then tp_rho J m (i + 1) 0 else tp_rho J m i 1)) := by
  have hs := q_sign (n := n) (w := 0) hm hx hT hi
  have hl := tp_ch_lt hx i
  unfold fX8_register fX8_register_b25
  rw [tp_0, tp_1, show (97 : Int32) = nI 97 from rfl, show (3 : Int32) = nI 3 from rfl, q_is hm, Option.bind_some, hs, Option.bind_some, q_gI hm, Option.bind_some, tp_rho_10, if_pos rfl, q_inr _ (by omega) (by decide) (by decide), Option.bind_some]
  by_cases e : tp_reg (tp_ch T L i)
  · rw [if_pos (show 97 ≤ tp_ch T L i ∧ tp_ch T L i < 97 + 3 + 1 from e), if_neg (show ¬ nI 1 = nI 0 by decide), if_pos e]
    unfold fX8_register_b30 fX8_register_b50
    rw [tp_0, tp_1, show tw_bz (nI 0) = some (nI 0) from rfl, Option.bind_some, q_pI hm, Option.bind_some, q_gI hm, Option.bind_some, q_gI hm, Option.bind_some, tw_up_at, if_pos rfl, q_pI hm, Option.bind_some, tw_up_k (by decide), tp_rho_9, nI_add, tp_rho_up]
  · rw [if_neg (show ¬ (97 ≤ tp_ch T L i ∧ tp_ch T L i < 97 + 3 + 1) from e), if_pos rfl, if_neg e]
    unfold fX8_register_b30 fX8_register_b50
    rw [tp_0, tp_1, show tw_bz (nI 1) = some (nI 1) from rfl, Option.bind_some, q_pI hm, Option.bind_some, q_gI hm, Option.bind_some, q_gI hm, Option.bind_some, tw_up_at, if_neg (show ¬ nI 1 = nI 0 by decide), q_pI hm, Option.bind_some, tw_up_k (by decide), tp_rho_9, nI_add, tp_rho_up]
    rfl
theorem q_registerW (hm : pMo sh P m) (hx : pTx T L) (hT : pMT J m T L) (hi : i < 200) : ∃ x, fX8_register (n, sh, P, tp_rho J m i 1) m = some (x, (n, sh, P, tp_rho J m i 1)) := by
  have hs := q_sign (n := n) (w := 1) hm hx hT hi
  refine ⟨nI (tp_ch T L i) - 97, ?_⟩
  unfold fX8_register fX8_register_b25 fX8_register_b30 fX8_register_b50
  rw [tp_0, tp_1, q_is hm, Option.bind_some, hs, Option.bind_some, q_gI hm, Option.bind_some, tp_rho_10, if_neg (show ¬ nI 1 = nI 0 by decide), show tw_bz (nI 1) = some (nI 1) from rfl, Option.bind_some, q_pI hm, Option.bind_some, q_gI hm, Option.bind_some, q_gI hm, Option.bind_some, tw_up_at, if_neg (show ¬ nI 1 = nI 0 by decide), q_pI hm, Option.bind_some, tw_up_k (by decide), tp_rho_9, nI_add, tp_rho_up]
  rfl
theorem q_lay (hm : pMo sh P m) {x1 x2 x3 x4 x5 : Int32} (hq : I m 8 = nI q) (hb : q < 30) : ∃ I', fX8_lay (n, sh, P, I) m x1 x2 x3 x4 x5 = some (n, sh, P, I') ∧ I' m 8 = nI (q + 1) ∧ (∀ k, k ≠ 8 → I' m k = I m k) ∧ (∀ c, c < 5 → I' (m + 6) (5 * q + c) = tp_o5 x1 x2 x3 x4 x5 c) ∧ (∀ k, k < 5 * q → I' (m + 6) k = I (m + 6) k) ∧ ∀ c, c ≠ m → c ≠ m + 6 → I' c = I c := by
  have h8 : ∀ (k : Nat) (x : Int32) (K : Nat → Nat → Int32), K m 8 = nI q → tw_up K (m + 6) k x m 8 = nI q := fun k x K h => by rw [tw_up_a (by omega)]; exact h
  unfold fX8_lay
  rw [tp_1, show (5 : Int32) = nI 5 from rfl, show (2 : Int32) = nI 2 from rfl, show (3 : Int32) = nI 3 from rfl, show (4 : Int32) = nI 4 from rfl, q_is hm, Option.bind_some, q_gI hm, Option.bind_some, q_P7 hm, Option.bind_some, hq, pk_mul, q_w6 hm (by omega), Option.bind_some, q_P7 hm, Option.bind_some, nI_add, q_w6 hm (by omega), Option.bind_some, q_P7 hm, Option.bind_some, nI_add, q_w6 hm (by omega), Option.bind_some, q_P7 hm, Option.bind_some, nI_add, q_w6 hm (by omega), Option.bind_some, q_P7 hm, Option.bind_some, nI_add, q_w6 hm (by omega), Option.bind_some, q_gI hm, Option.bind_some, h8 _ _ _ (h8 _ _ _ (h8 _ _ _ (h8 _ _ _ (h8 _ _ _ hq)))), nI_add, q_pI hm, Option.bind_some]
  refine ⟨_, rfl, tw_up_at, fun k hk => by rw [tw_up_k hk]; simp (disch := omega) only [tw_up_a], fun c hc => ?_, fun k hk => ?_, fun c c1 c2 => by simp (disch := omega) only [tw_up_a]⟩
  · rw [tw_up_a (by omega)]
    rcases (show c = 0 ∨ c = 1 ∨ c = 2 ∨ c = 3 ∨ c = 4 by omega) with rfl | rfl | rfl | rfl | rfl
    · simp (disch := omega) only [tw_up_k, tw_up_at, Nat.add_zero]; rfl
    · simp (disch := omega) only [tw_up_k, tw_up_at]; rfl
    · simp (disch := omega) only [tw_up_k, tw_up_at]; rfl
    · simp (disch := omega) only [tw_up_k, tw_up_at]; rfl
    · simp (disch := omega) only [tw_up_k, tw_up_at]; rfl
  · rw [tw_up_a (by omega)]
    simp (disch := omega) only [tw_up_k]
end TPE1
