/-! bestExchange: the reference's side, and the call. -/
section TPBY
variable {n : Nat} {sh : tw_Sh} {P : Nat → Nat → Option Nat} {I J : Nat → Nat → Int32} {b m sw t k q : Nat} {C : tp_C} {S : tp_S} {x1 x2 : Int32}
theorem q_swap (hm : pMo sh P m) (ht : t < 2) (hk : k < 11) : ∃ J, fX8_swap (n, sh, P, I) m (nI t) (nI k) = some (n, sh, P, J) ∧ (∀ j, j < 5 → J (m + 1) (10 + 100 * t + 1 + 5 * k + j) = I (m + 1) (10 + 100 * t + 1 + 5 * k + j + 5) ∧ J (m + 1) (10 + 100 * t + 1 + 5 * k + j + 5) = I (m + 1) (10 + 100 * t + 1 + 5 * k + j)) ∧ (∀ j, (j < 10 + 100 * t + 1 + 5 * k ∨ 10 + 100 * t + 1 + 5 * k + 10 ≤ j) → J (m + 1) j = I (m + 1) j) ∧ ∀ c, c ≠ m + 1 → J c = I c := by
  unfold fX8_swap
  rw [q_is hm, Option.bind_some, show (10 : Int32) = nI 10 from rfl, show (100 : Int32) = nI 100 from rfl, show (5 : Int32) = nI 5 from rfl, tp_1, pk_mul, pk_mul, nI_add, nI_add, nI_add]
  have hA : 10 + 100 * t + 1 + 5 * k + 10 ≤ 210 := by omega
  generalize 10 + 100 * t + 1 + 5 * k = A at hA
  exact tp_it (S := (Nat → Nat → Int32) × Nat) (fun _ _ _ _ => none) fX8_swap_h17 (fun f s => f (n, sh, P, s.1) m (nI A) (nI (A + s.2)))
    (fun s => s.2 ≤ 5 ∧ (∀ j, j < s.2 → s.1 (m + 1) (A + j) = I (m + 1) (A + j + 5) ∧ s.1 (m + 1) (A + j + 5) = I (m + 1) (A + j)) ∧ (∀ j, s.2 ≤ j → j < 5 → s.1 (m + 1) (A + j) = I (m + 1) (A + j) ∧ s.1 (m + 1) (A + j + 5) = I (m + 1) (A + j + 5)) ∧ (∀ j, (j < A ∨ A + 10 ≤ j) → s.1 (m + 1) j = I (m + 1) j) ∧ ∀ c, c ≠ m + 1 → s.1 c = I c) (fun s => 5 - s.2)
    (fun _ r => ∃ J, r = some (n, sh, P, J) ∧ (∀ j, j < 5 → J (m + 1) (A + j) = I (m + 1) (A + j + 5) ∧ J (m + 1) (A + j + 5) = I (m + 1) (A + j)) ∧ (∀ j, (j < A ∨ A + 10 ≤ j) → J (m + 1) j = I (m + 1) j) ∧ ∀ c, c ≠ m + 1 → J c = I c)
    (by
      rintro f ⟨J, i⟩ ⟨i1, i2, i3, i4, i5⟩ ih
      dsimp only at i1 i2 i3 i4 i5 ih ⊢
      unfold fX8_swap_h17
      rw [show (5 : Int32) = nI 5 from rfl, nI_add, nI_add]
      by_cases e : 5 ≤ i
      · rw [if_pos (show nI (A + 5) ≤ nI (A + i) from nI_le (by omega) (by omega))]
        exact ⟨J, rfl, fun j hj => i2 j (by omega), i4, i5⟩
      · rw [if_neg (show ¬ nI (A + 5) ≤ nI (A + i) from nI_ge (by omega) (by omega)), q_P0 hm, Option.bind_some, q_a1 hm (by omega), Option.bind_some, Option.bind_some, Option.bind_some, q_a1 hm (by omega), Option.bind_some, q_w1 hm (by omega), Option.bind_some, q_P0 hm, Option.bind_some, q_w1 hm (by omega), Option.bind_some, tp_1, nI_add]
        refine ih (tw_up (tw_up J (m + 1) (A + i) (J (m + 1) (A + i + 5))) (m + 1) (A + i + 5) (J (m + 1) (A + i)), i + 1) ⟨by dsimp only; omega, fun j hj => ?_, fun j h1 h2 => ?_, fun j hj => ?_, fun c hc => ?_⟩ (by dsimp only; omega)
        · dsimp only at hj ⊢
          by_cases e2 : j = i
          · obtain ⟨g1, g2⟩ := i3 i (Nat.le_refl _) (by omega)
            rw [e2]
            refine ⟨?_, ?_⟩
            · rw [tw_up_k (by omega), tw_up_at]; exact g2
            · rw [tw_up_at]; exact g1
          · obtain ⟨g1, g2⟩ := i2 j (by omega)
            rw [tw_up_k (show A + j ≠ A + i + 5 by omega), tw_up_k (show A + j ≠ A + i by omega), tw_up_k (show A + j + 5 ≠ A + i + 5 by omega), tw_up_k (show A + j + 5 ≠ A + i by omega)]
            exact ⟨g1, g2⟩
        · dsimp only at h1 ⊢
          obtain ⟨g1, g2⟩ := i3 j (by omega) h2
          rw [tw_up_k (show A + j ≠ A + i + 5 by omega), tw_up_k (show A + j ≠ A + i by omega), tw_up_k (show A + j + 5 ≠ A + i + 5 by omega), tw_up_k (show A + j + 5 ≠ A + i by omega)]
          exact ⟨g1, g2⟩
        · dsimp only
          rw [tw_up_k (by omega), tw_up_k (by omega)]; exact i4 j hj
        · dsimp only
          rw [tw_up_a hc, tw_up_a hc]; exact i5 c hc) tw_F (I, 0) ⟨Nat.zero_le _, fun j hj => absurd hj (Nat.not_lt_zero j), fun _ _ _ => ⟨rfl, rfl⟩, fun _ _ => rfl, fun _ _ => rfl⟩ (tw_F_big (by dsimp only; omega))
theorem pMS.swp (h : pMS I (m + 1) 0 S) (hok : pSok S) (ht : t < 2) (hk : k + 1 < S.2.1 t) (hx : ∀ j, j < 5 → J (m + 1) (10 + 100 * t + 1 + 5 * k + j) = I (m + 1) (10 + 100 * t + 1 + 5 * k + j + 5) ∧ J (m + 1) (10 + 100 * t + 1 + 5 * k + j + 5) = I (m + 1) (10 + 100 * t + 1 + 5 * k + j)) (hy : ∀ j, (j < 10 + 100 * t + 1 + 5 * k ∨ 10 + 100 * t + 1 + 5 * k + 10 ≤ j) → J (m + 1) j = I (m + 1) j) : pMS J (m + 1) 0 (tp_sw S t k) := by
  have hz : ∀ t, t < 2 → S.2.1 t ≤ 12 := fun t ht => (hok.2.2.2 t ht).1
  have hzt := hz t ht
  obtain ⟨h1, h2, h3⟩ := h.2 t ht
  refine h.pg hz ht hzt ?_ (fun j hj c hc => ?_) (fun q hq => hy q (by omega))
  · rw [hy _ (by omega)]
    rw [Nat.zero_add] at h1
    exact h1
  · unfold tp_xo
    by_cases e1 : j = k
    · rw [if_pos e1, e1, (hx c hc).1]
      have := h2 (k + 1) hk c hc
      rw [← this]
      congr 1
      omega
    · rw [if_neg e1]
      by_cases e2 : j = k + 1
      · rw [if_pos e2, e2, show 10 + 100 * t + 1 + 5 * (k + 1) + c = 10 + 100 * t + 1 + 5 * k + c + 5 by omega, (hx c hc).2]
        have := h2 k (by omega) c hc
        rw [← this]
        congr 1
        omega
      · rw [if_neg e2, hy _ (by omega)]
        have := h2 j hj c hc
        rw [← this]
        congr 1
        omega
theorem q_same (hm : pMo sh P m) {u v : Nat → Nat} (hu : ∀ j, j < 24 → I (m + 7) j = nI (u j) ∧ u j < 1000) (hv : ∀ j, j < 24 → I (m + 19) j = nI (v j) ∧ v j < 1000) : fX8_areValuesSame (n, sh, P, I) m = some (nI (if (List.range 24).all (fun j => decide (u j = v j)) = true then 1 else 0)) := by
  unfold fX8_areValuesSame
  rw [q_is hm, Option.bind_some]
  exact tp_it (S := Nat) (fun _ _ _ _ => none) fX8_areValuesSame_h4 (fun f s => f (n, sh, P, I) m (nI (if (List.range s).all (fun j => decide (u j = v j)) = true then 1 else 0)) (nI s))
    (fun s => s ≤ 24) (fun s => 24 - s)
    (fun _ r => r = some (nI (if (List.range 24).all (fun j => decide (u j = v j)) = true then 1 else 0)))
    (by
      intro f j hj ih
      unfold fX8_areValuesSame_h4 fX8_areValuesSame_b33 fX8_areValuesSame_b34
      by_cases e : 24 ≤ j
      · have ej : j = 24 := by omega
        rw [if_pos (show (24 : Int32) ≤ nI j from nI_le e (by omega)), ej]
        split <;> rfl
      · have hstep : (List.range (j + 1)).all (fun j => decide (u j = v j)) = ((List.range j).all (fun j => decide (u j = v j)) && decide (u j = v j)) := by
          rw [List.range_succ, List.all_append]
          simp
        have hih := ih (j + 1) (by omega) (by omega)
        rw [hstep] at hih
        obtain ⟨u1, u2⟩ := hu j (by omega)
        obtain ⟨v1, v2⟩ := hv j (by omega)
        rw [if_neg (show ¬ (24 : Int32) ≤ nI j from nI_ge (show j < 24 by omega) (by decide)), tp_1, nI_add]
        by_cases e1 : (List.range j).all (fun j => decide (u j = v j)) = true
        · rw [if_pos e1, if_neg (show ¬ nI 1 = 0 by decide), q_P11 hm, Option.bind_some, q_a7 hm (by omega), Option.bind_some, u1, q_P23 hm, Option.bind_some, q_a19 hm (by omega), Option.bind_some, v1]
          by_cases e2 : u j = v j
          · rw [if_pos (show nI (u j) = nI (v j) by rw [e2])]
            rw [e1, decide_eq_true e2] at hih
            exact hih
          · rw [if_neg (show ¬ nI (u j) = nI (v j) from fun z => e2 ((nI_eq (by omega) (by omega)).mp z)), tp_0]
            rw [e1, decide_eq_false e2] at hih
            exact hih
        · rw [if_neg e1, if_pos (show nI 0 = 0 from rfl), tp_0]
          rw [Bool.not_eq_true _ |>.mp e1] at hih
          exact hih) tw_F 0 (Nat.zero_le _) (tw_F_big (by omega))
theorem tp_vs_sw (hok : pSok S) {s : Nat} (hs : s < 2) (e : s ≠ t) : tp_vs (tp_sw S t k) s = tp_vs S s := by
  have h1 : (tp_sw S t k).2.1 s = S.2.1 s := if_neg e
  have h2 : (tp_sw S t k).2.2.1 s = S.2.2.1 s := if_neg e
  have h3 : (tp_sw S t k).2.2.2 = S.2.2.2 := rfl
  have a := tp_Kf_K (S := tp_sw S t k) (ab := 2) hs
  have c := tp_Kf_K (S := S) (ab := 2) hs
  rw [h1, h2, h3] at a
  unfold tp_vs
  rw [h2, h3, a.one c]
theorem tp_same24 (hok : pSok S) (ht : t < 2) : (List.range 24).all (fun j => decide (tp_vs (tp_sw S t k) (j / 12) (j % 12) = tp_vs S (j / 12) (j % 12))) = tp_same (tp_vs (tp_sw S t k) t) (tp_vs S t) := by
  rw [Bool.eq_iff_iff, tp_same_iff]
  rw [List.all_eq_true]
  constructor
  · intro h j hj
    have := h (12 * t + j) (List.mem_range.mpr (by omega))
    rw [decide_eq_true_eq, show (12 * t + j) / 12 = t by omega, show (12 * t + j) % 12 = j by omega] at this
    exact this
  · intro h j hj
    have hj' := List.mem_range.mp hj
    rw [decide_eq_true_eq]
    by_cases e : j / 12 = t
    · rw [e]; exact h _ (Nat.mod_lt _ (by decide))
    · rw [tp_vs_sw hok (by omega) e]
theorem q_vals {R : tp_R} (hD : pMD I m S (tp_Kf S 2) R 2) : ∀ j, j < 24 → I (m + 7) j = nI (tp_vs S (j / 12) (j % 12)) := by
  intro j hj
  have hall := hD.all (show j / 12 < 2 by omega)
  obtain ⟨tk, hG, -⟩ := hD
  have := (hG (j / 12) (by omega)).2.2.2.2.2.1 (j % 12) (Nat.mod_lt _ (by decide))
  rw [hall, show 12 * (j / 12) + j % 12 = j by omega] at this
  exact this
end TPBY
