section TPI
variable {n : Nat} {sh : tw_Sh} {P : Nat → Nat → Option Nat} {I : Nat → Nat → Int32} {m t k ab tk : Nat} {S : tp_S} {K : Nat → Nat} {R : tp_R} {tau : Nat → Nat}
theorem q_stepsOf (hm : pMo sh P m) (hok : pSok S) (hS : pMS I (m + 1) 0 S) (hK : pMK S K ab) (hB : pRB K R tk) (hG : pMG I m S K R ab tau) (ht : t < 2) {r : Nat} (hr : r < 2) : fX8_stepsOf (n, sh, P, I) m (nI t) (nI r) = some (nI (tp_cnt S t r (R.1 t))) := by
  obtain ⟨g1, -, g3, -⟩ := hG t ht
  have hb := (hB t ht).1
  have hk := (hK t ht).1
  have hz : ∀ t, t < 2 → S.2.1 t ≤ 12 := fun t ht => (hok.2.2.2 t ht).1
  have hri : nI r = tp_rI r := by unfold tp_rI; rw [if_neg (by omega)]
  unfold fX8_stepsOf
  rw [q_is hm, Option.bind_some, tp_0]
  exact tp_it (S := Nat) (fun _ _ _ _ _ _ => none) fX8_stepsOf_h5 (fun f j => f (n, sh, P, I) m (nI t) (nI r) (nI (tp_cnt S t r j)) (nI j)) (fun j => j ≤ R.1 t) (fun j => R.1 t - j) (fun _ x => x = some (nI (tp_cnt S t r (R.1 t))))
    (by
      intro q j hj ih
      unfold fX8_stepsOf_h5 fX8_stepsOf_b47
      rw [tp_0, tp_1, show (100 : Int32) = nI 100 from rfl, q_P17 hm, Option.bind_some, q_a13 hm ht, Option.bind_some, g1]
      by_cases e : R.1 t ≤ j
      · rw [if_pos ((nI_leI (by omega) (by omega)).mpr e), show j = R.1 t by omega]
      · have hin := (hK.in ht (show j < K t by omega)).2
        have hof := q_of (n := n) (k := tp_od S t j) hm hS hz ht hin (show 0 < 5 by decide)
        have hof' : fX8_of (n, sh, P, I) m (nI t) (nI (tp_od S t j)) (nI 0) = some (tp_of S t j 0) := hof
        have hnx := ih (j + 1) (by omega) (by omega)
        rw [show tp_cnt S t r (j + 1) = tp_cnt S t r j + (if tp_room (tp_of S t j 0) = r then 1 else 0) from rfl] at hnx
        have hlt := tp_room_lt (tp_of S t j 0)
        rw [if_neg (fun z => e ((nI_leI (by omega) (by omega)).mp z)), q_P14 hm, Option.bind_some, pk_mul, nI_add, q_a10 hm (by omega), Option.bind_some, (g3 j (by omega)).2.1, hof', Option.bind_some, q_roomOf, Option.bind_some]
        by_cases e2 : tp_room (tp_of S t j 0) = r
        · rw [if_pos e2] at hnx
          rw [if_pos (by rw [e2, hri]), nI_add, nI_add]
          exact hnx
        · rw [if_neg e2] at hnx
          rw [if_neg (fun z => e2 ((tp_rI_eq hlt (show r < 3 by omega)).mp (z.trans hri))), nI_add, nI_add]
          exact hnx) tw_F 0 (Nat.zero_le _) (tw_F_big (by omega))
theorem q_isFixed (hm : pMo sh P m) (hok : pSok S) (hS : pMS I (m + 1) 0 S) (ht : t < 2) (hk : k < S.2.1 t) : fX8_isFixed (n, sh, P, I) m (nI t) (nI k) = some (nI (if tp_fx (S.2.2.1 t) k (S.2.1 t) = true then 1 else 0)) := by
  have hz : ∀ t, t < 2 → S.2.1 t ≤ 12 := fun t ht => (hok.2.2.2 t ht).1
  have h12 := hz t ht
  have hof := fun j (hj : j < S.2.1 t) c (hc : c < 5) => q_of (n := n) (k := j) hm hS hz ht hj hc
  have hb : fX8_isFixed_b17 (n, sh, P, I) m (nI t) (nI k) (nI (if tp_fx (S.2.2.1 t) k 0 = true then 1 else 0)) = some (nI (if tp_fx (S.2.2.1 t) k (S.2.1 t) = true then 1 else 0)) := by
    unfold fX8_isFixed_b17
    rw [tp_0]
    exact tp_it (S := Nat) (fun _ _ _ _ _ _ => none) fX8_isFixed_h21 (fun f j => f (n, sh, P, I) m (nI t) (nI k) (nI (if tp_fx (S.2.2.1 t) k j = true then 1 else 0)) (nI j)) (fun j => j ≤ S.2.1 t) (fun j => S.2.1 t - j) (fun _ x => x = some (nI (if tp_fx (S.2.2.1 t) k (S.2.1 t) = true then 1 else 0)))
      (by
        intro q j hj ih
        unfold fX8_isFixed_h21 fX8_isFixed_b60 fX8_isFixed_b64 fX8_isFixed_b65
        rw [tp_0, tp_1, show (4 : Int32) = nI 4 from rfl, show (6 : Int32) = nI 6 from rfl, q_many hm hS ht, Option.bind_some]
        by_cases e : S.2.1 t ≤ j
        · have : j = S.2.1 t := by omega
          subst this
          rw [if_pos ((nI_leI (by omega) (by omega)).mpr e)]
          split <;> rfl
        · have hnx := ih (j + 1) (by omega) (by omega)
          rw [show tp_fx (S.2.2.1 t) k (j + 1) = (tp_fx (S.2.2.1 t) k j || (decide (S.2.2.1 t j 0 = nI 6) && decide (S.2.2.1 t j 4 = nI k))) from rfl] at hnx
          rw [if_neg (fun z => e ((nI_leI (by omega) (by omega)).mp z)), nI_add]
          cases hf : tp_fx (S.2.2.1 t) k j
          · rw [hf] at hnx
            rw [if_neg (show ¬ (false = true) by decide), if_pos rfl, hof j (by omega) 0 (by decide), Option.bind_some]
            by_cases e2 : S.2.2.1 t j 0 = nI 6
            · rw [if_pos e2, hof j (by omega) 4 (by decide), Option.bind_some]
              by_cases e3 : S.2.2.1 t j 4 = nI k
              · rw [if_pos e3]
                simpa [e2, e3] using hnx
              · rw [if_neg e3]
                simpa [e2, e3] using hnx
            · rw [if_neg e2]
              simpa [e2] using hnx
          · rw [hf] at hnx
            rw [if_pos rfl, if_neg (show ¬ nI 1 = nI 0 by decide)]
            simpa using hnx) tw_F 0 (Nat.zero_le _) (tw_F_big (by omega))
  unfold fX8_isFixed
  rw [tp_0, tp_1, show (6 : Int32) = nI 6 from rfl, q_is hm, Option.bind_some, hof k hk 0 (by decide), Option.bind_some]
  have h0 : tp_fx (S.2.2.1 t) k 0 = decide (S.2.2.1 t k 0 = nI 6) := rfl
  rw [h0] at hb
  by_cases e : S.2.2.1 t k 0 = nI 6
  · rw [decide_eq_true e, if_pos rfl] at hb
    rw [if_pos e]; exact hb
  · rw [decide_eq_false e, if_neg (by decide)] at hb
    rw [if_neg e]; exact hb
end TPI
