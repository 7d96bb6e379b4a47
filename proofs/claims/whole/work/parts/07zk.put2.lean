section TPK2
variable {n : Nat} {sh : tw_Sh} {P : Nat → Nat → Option Nat} {I : Nat → Nat → Int32} {m L : Nat} {T : Nat → Nat}
theorem q_put5 (σ : tw_St) (y : Int64) : ∀ (f j k : Nat) (z : Int64), tp_lw z < 256 ^ f → j + f ≤ 100 → f < k → fX8_put_l5 k σ m y (nI j) z = if tp_cc f (tp_lw z) j = 0 then some (-2, σ) else (tw_gI σ 8 m 6).bind fun v => if v + nI (tp_cc f (tp_lw z) j) ≤ 80 then fX8_put_l85 tw_F σ m (nI (tp_cc f (tp_lw z) j)) y (nI (tp_cc f (tp_lw z) j) - 1) else some (-4, σ) := by
  have hend : ∀ (j : Nat) (z : Int64), j ≤ 100 → tp_lw z = 0 → fX8_put_b49 σ m y (nI j) z = if j = 0 then some (-2, σ) else (tw_gI σ 8 m 6).bind fun v => if v + nI j ≤ 80 then fX8_put_l85 tw_F σ m (nI j) y (nI j - 1) else some (-4, σ) := by
    intro j z hj hz
    unfold fX8_put_b49
    rw [if_pos ((tp_cmp0 z).mpr hz)]
    by_cases e : j = 0
    · rw [if_pos (by rw [e]; rfl), if_pos e]
    · rw [if_neg (show ¬ nI j = 0 from fun h => e ((nI_eq (by omega) (by decide)).mp (h.trans tp_0))), if_neg e]
  intro f
  induction f with
  | zero =>
    intro j k z hz hj hk
    obtain ⟨k, rfl⟩ : ∃ e, k = e + 1 := ⟨k - 1, by omega⟩
    have hz0 : tp_lw z = 0 := by rw [Nat.pow_zero] at hz; omega
    show fX8_put_h5 (fX8_put_l5 k) σ m y (nI j) z = _
    unfold fX8_put_h5 tp_cc
    obtain ⟨b1, -⟩ := tp_byte0 (tp_lw z % 256) (by omega)
    rw [tp_lw_and, if_pos (b1.mpr (by omega)), hend j z (by omega) hz0]
    simp only [hz0, if_true]
  | succ f ih =>
    intro j k z hz hj hk
    obtain ⟨k, rfl⟩ : ∃ e, k = e + 1 := ⟨k - 1, by omega⟩
    show fX8_put_h5 (fX8_put_l5 k) σ m y (nI j) z = _
    unfold fX8_put_h5 tp_cc
    obtain ⟨b1, b2, b3, b4, -, -⟩ := tp_byte0 (tp_lw z % 256) (by omega)
    rw [tp_lw_and]
    by_cases e : tp_lw z % 256 = 0
    · rw [if_pos (b1.mpr e)]
      simp only [if_pos e]
      by_cases e0 : tp_lw z = 0
      · rw [hend j z (by omega) e0]
        simp only [if_pos e0]
      · simp only [if_neg e0, if_true]
        unfold fX8_put_b49
        rw [if_neg (fun h => e0 ((tp_cmp0 z).mp h))]
    · rw [if_neg (fun h => e (b1.mp h)), b4, show (33 : Int32) = nI 33 from rfl, show (126 : Int32) = nI 126 from rfl, q_in σ (by omega) (by decide) (by decide), Option.bind_some]
      simp only [if_neg e]
      by_cases e1 : tp_lw z % 256 < 33
      · rw [if_neg (show ¬ (33 ≤ tp_lw z % 256 ∧ tp_lw z % 256 ≤ 126) by omega), if_pos (show nI 0 = 0 from rfl)]
        simp only [if_pos e1, if_true]
      · by_cases e2 : tp_lw z % 256 ≤ 126
        · rw [if_pos (show 33 ≤ tp_lw z % 256 ∧ tp_lw z % 256 ≤ 126 by omega), if_neg (show ¬ nI 1 = 0 by decide)]
          simp only [if_neg e1, if_pos e2]
          have := ih (j + 1) k ((z.toUInt64 >>> ((8 : Int32).toInt64.toUInt64 &&& Int64.toUInt64 63)).toInt64) (by rw [tp_lw_next]; rw [Nat.pow_succ] at hz; omega) (by omega) (by omega)
          rw [tp_lw_next] at this
          rw [show nI j + 1 = nI (j + 1) from nI_add j 1]
          exact this
        · rw [if_neg (show ¬ (33 ≤ tp_lw z % 256 ∧ tp_lw z % 256 ≤ 126) by omega), if_pos (show nI 0 = 0 from rfl)]
          simp only [if_neg e1, if_neg e2, if_true]
end TPK2
