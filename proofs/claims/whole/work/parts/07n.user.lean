section TPN
variable {n : Nat} {sh : tw_Sh} {P : Nat → Nat → Option Nat} {I : Nat → Nat → Int32} {a s sw t tk wo turns : Nat} {S : tp_S} {K : Nat → Nat} {R : tp_R}
def tp_in (S : tp_S) (R : tp_R) (x : Int32) (r : Nat) (t j : Nat) : Prop := nI (R.2.1 t j) ≤ x ∧ x < nI (R.2.2.1 t j) ∧ tp_room (tp_of S t j 0) = r
theorem p_userIn (hr : pRu sh P a s) (hs : pSt sh P s sw) (hok : pSok S) (hSI : pStI I s sw S) (hF : pFo I a S K) (hI : pRI I a R) (hB : pRB K R tk) (x : Int32) {r : Nat} (hrr : r < 2) : ∃ y, fX5_userIn (n, sh, P, I) a x (nI r) = some y ∧ tp_find R.1 (tp_in S R x r) y := by
  have hri : nI r = tp_rI r := by unfold tp_rI; rw [if_neg (by omega)]
  have hstep : ∀ (m t : Nat), t < 2 → (fX5_userIn_l2 (m + 1) (n, sh, P, I) a x (nI r) (nI t) = fX5_userIn_l2 m (n, sh, P, I) a x (nI r) (nI (t + 1)) ∧ ∀ j, j < R.1 t → ¬ tp_in S R x r t j) ∨ (∃ j, fX5_userIn_l2 (m + 1) (n, sh, P, I) a x (nI r) (nI t) = some (nI t) ∧ j < R.1 t ∧ tp_in S R x r t j ∧ ∀ i, i < j → ¬ tp_in S R x r t i) := by
    intro m t ht
    have j1 := (hI t ht).1
    have j3 := (hI t ht).2.2.1
    have b1 := (hB t ht).1
    have hk := (hF t ht).1.1
    have f4 := (hF t ht).2.2.2.1
    show (fX5_userIn_h2 (fX5_userIn_l2 m) (n, sh, P, I) a x (nI r) (nI t) = _ ∧ _) ∨ (∃ j, fX5_userIn_h2 (fX5_userIn_l2 m) (n, sh, P, I) a x (nI r) (nI t) = _ ∧ _)
    unfold fX5_userIn_h2
    rw [if_neg (show ¬ (2 : Int32) ≤ nI t from nI_ge (by omega) (by decide))]
    exact tp_it (S := Nat) (fun _ _ _ _ _ _ => none) (fX5_userIn_h10 (fX5_userIn_l2 m)) (fun f j => f (n, sh, P, I) a x (nI r) (nI t) (nI j)) (fun j => j ≤ R.1 t ∧ ∀ i, i < j → ¬ tp_in S R x r t i) (fun j => R.1 t - j) (fun _ q => (q = fX5_userIn_l2 m (n, sh, P, I) a x (nI r) (nI (t + 1)) ∧ ∀ j, j < R.1 t → ¬ tp_in S R x r t j) ∨ (∃ j, q = some (nI t) ∧ j < R.1 t ∧ tp_in S R x r t j ∧ ∀ i, i < j → ¬ tp_in S R x r t i))
      (by
        rintro q j ⟨hj, hn⟩ ih
        have hgo : ¬ R.1 t ≤ j → ¬ tp_in S R x r t j → (fun (_ : Nat) q => (q = fX5_userIn_l2 m (n, sh, P, I) a x (nI r) (nI (t + 1)) ∧ ∀ j, j < R.1 t → ¬ tp_in S R x r t j) ∨ (∃ j, q = some (nI t) ∧ j < R.1 t ∧ tp_in S R x r t j ∧ ∀ i, i < j → ¬ tp_in S R x r t i)) j (fX5_userIn_b89 (fX5_userIn_l2 m) q (n, sh, P, I) a x (nI r) (nI t) (nI j)) := by
          intro e e2
          unfold fX5_userIn_b89
          rw [show (1 : Int32) = nI 1 from rfl, nI_add]
          refine ih (j + 1) ⟨by omega, fun i hi => ?_⟩ (by omega)
          by_cases e3 : i = j
          · rw [e3]; exact e2
          · exact hn i (by omega)
        unfold fX5_userIn_h10 fX5_userIn_b95
        rw [show (1 : Int32) = nI 1 from rfl]
        simp (disch := omega) only [r_P1 hr, r_a8 hr, j1, nI_leI, nI_add, Option.bind_some]
        by_cases e : R.1 t ≤ j
        · rw [if_pos e]
          exact Or.inl ⟨rfl, fun i hi => hn i (by omega)⟩
        · rw [if_neg e]
          obtain ⟨h1, h2⟩ := j3 j (by omega)
          simp (disch := omega) only [r_P3 hr, r_p10 hr, r_r11 hr, h1, Option.bind_some]
          unfold fX5_userIn_b51
          by_cases e1 : x < nI (R.2.1 t j)
          · rw [if_pos e1]
            unfold fX5_userIn_b52
            rw [if_pos rfl]
            exact hgo e (fun z => Int32.lt_irrefl (Int32.lt_of_lt_of_le e1 z.1))
          · rw [if_neg e1]
            simp (disch := omega) only [r_P4 hr, r_p13 hr, r_r14 hr, h2, Option.bind_some]
            by_cases e2 : nI (R.2.2.1 t j) ≤ x
            · rw [if_pos e2]
              unfold fX5_userIn_b52
              rw [if_pos rfl]
              exact hgo e (fun z => Int32.lt_irrefl (Int32.lt_of_lt_of_le z.2.1 e2))
            · rw [if_neg e2]
              have hod := f4 j (by omega)
              have hrm := p_room_at (n := n) hs hok hSI hF ht (show j < K t by omega)
              have hlt := tp_room_lt (tp_of S t j 0)
              unfold fX5_userIn_b52
              rw [if_neg (by decide)]
              simp (disch := omega) only [r_P6 hr, r_sP1 hs, r_spg hs, r_P0 hr, r_p1 hr, r_od hr, r_odj hr, hod, hrm, Option.bind_some]
              by_cases e3 : tp_room (tp_of S t j 0) = r
              · rw [if_pos (by rw [e3, hri])]
                exact Or.inr ⟨j, rfl, by omega, ⟨Int32.not_lt.mp e1, Int32.not_le.mp e2, e3⟩, hn⟩
              · rw [if_neg (fun z => e3 ((tp_rI_eq hlt (show r < 3 by omega)).mp (z.trans hri)))]
                exact hgo e (fun z => e3 z.2.2)) tw_F 0 ⟨Nat.zero_le _, fun i hi => absurd hi (Nat.not_lt_zero i)⟩ (tw_F_big (by omega))
  unfold fX5_userIn
  rw [r_is hr, Option.bind_some, show tw_F = 99997 + 1 + 1 + 1 from rfl, tp_lit]
  rcases hstep (99997 + 1 + 1) 0 (by decide) with ⟨e0, n0⟩ | ⟨j, e0, h1, h2, h3⟩
  · rw [e0]
    rcases hstep (99997 + 1) 1 (by decide) with ⟨e1, n1⟩ | ⟨j, e1, h1, h2, h3⟩
    · rw [e1]
      refine ⟨-nI 6, ?_, Or.inr ⟨fun t j ht hj => ?_, rfl⟩⟩
      · show fX5_userIn_h2 (fX5_userIn_l2 99997) (n, sh, P, I) a x (nI r) (nI 2) = _
        unfold fX5_userIn_h2
        rw [if_pos (by decide)]; rfl
      · rcases (show t = 0 ∨ t = 1 by omega) with rfl | rfl
        · exact n0 j hj
        · exact n1 j hj
    · exact ⟨nI 1, e1, Or.inl ⟨1, j, by decide, h1, h2, h3, fun _ => n0, rfl⟩⟩
  · exact ⟨nI 0, e0, Or.inl ⟨0, j, by decide, h1, h2, h3, fun z => absurd z (by decide), rfl⟩⟩
end TPN
