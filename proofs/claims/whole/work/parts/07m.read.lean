/-! What is read off a run. -/
def tp_len (R : tp_R) : Nat := if R.2.2.2.2.2.2.2 0 < R.2.2.2.2.2.2.2 1 then R.2.2.2.2.2.2.2 1 else R.2.2.2.2.2.2.2 0
def tp_cnt (S : tp_S) (t r : Nat) : Nat → Nat
  | 0 => 0
  | j + 1 => tp_cnt S t r j + (if tp_room (tp_of S t j 0) = r then 1 else 0)
theorem tp_cnt_le (S : tp_S) (t r : Nat) : ∀ j, tp_cnt S t r j ≤ j
  | 0 => Nat.le_refl _
  | j + 1 => by
    have := tp_cnt_le S t r j
    unfold tp_cnt
    split <;> omega
def tp_find (k : Nat → Nat) (p : Nat → Nat → Prop) : Int32 → Prop := fun x => (∃ t j, t < 2 ∧ j < k t ∧ p t j ∧ (∀ i, i < j → ¬ p t i) ∧ (t = 1 → ∀ i, i < k 0 → ¬ p 0 i) ∧ x = nI t) ∨ ((∀ t j, t < 2 → j < k t → ¬ p t j) ∧ x = -nI 6)
theorem tp_find_one {k : Nat → Nat} {p : Nat → Nat → Prop} {x y : Int32} (h : tp_find k p x) (h' : tp_find k p y) : x = y := by
  rcases h with ⟨t, j, h1, h2, h3, h4, h5, rfl⟩ | ⟨h1, rfl⟩
  · rcases h' with ⟨t', j', g1, g2, g3, g4, g5, rfl⟩ | ⟨g1, rfl⟩
    · have : t = t' := by
        rcases (show t = 0 ∨ t = 1 by omega) with rfl | rfl
        · rcases (show t' = 0 ∨ t' = 1 by omega) with rfl | rfl
          · rfl
          · exact absurd h3 (g5 rfl _ h2)
        · rcases (show t' = 0 ∨ t' = 1 by omega) with rfl | rfl
          · exact absurd g3 (h5 rfl _ g2)
          · rfl
      rw [this]
    · exact absurd h3 (g1 t j h1 h2)
  · rcases h' with ⟨t', j', g1, g2, g3, g4, g5, rfl⟩ | ⟨g1, rfl⟩
    · exact absurd g3 (h1 t' j' g1 g2)
    · rfl
section TPM
variable {n : Nat} {sh : tw_Sh} {P : Nat → Nat → Option Nat} {I : Nat → Nat → Int32} {a s sw t tk wo turns : Nat} {S : tp_S} {K : Nat → Nat} {R : tp_R}
theorem p_len (hr : pRu sh P a s) (hI : pRI I a R) (hB : pRB K R tk) (hk : tk ≤ 4096) : fX5_length (n, sh, P, I) a = some (nI (tp_len R)) := by
  have l0 := (hI 0 (by decide)).2.1
  have l1 := (hI 1 (by decide)).2.1
  have b0 := (hB 0 (by decide)).2.1
  have b1 := (hB 1 (by decide)).2.1
  unfold fX5_length tp_len
  rw [show (0 : Int32) = nI 0 from rfl, show (1 : Int32) = nI 1 from rfl]
  simp (disch := omega) only [r_is hr, r_P2 hr, r_a9 hr, l0, l1, tp_max, Option.bind_some]
theorem p_room_at (hs : pSt sh P s sw) (hok : pSok S) (hSI : pStI I s sw S) (hF : pFo I a S K) (ht : t < 2) {j : Nat} (hj : j < K t) : fX3_roomOf (n, sh, P, I) (pPg s sw t) (nI (tp_od S t j)) = some (tp_rI (tp_room (tp_of S t j 0))) := by
  obtain ⟨g1, g2, g3⟩ := tp_step_in hok hF ht hj
  obtain ⟨c1, c2, c3⟩ := hSI.2 t ht
  have hpr := (hs.2.2.2.2.2.2.2.2 t ht).2.1
  have := p_roomOf (n := n) hpr c1 g2 g1
  rw [show tp_od S t j * 5 = tp_od S t j * 5 + 0 from rfl, c2 _ g1 0 (by decide)] at this
  exact this
theorem p_stepsIn (hr : pRu sh P a s) (hs : pSt sh P s sw) (hok : pSok S) (hSI : pStI I s sw S) (hF : pFo I a S K) (hI : pRI I a R) (hB : pRB K R tk) (ht : t < 2) {r : Nat} (hrr : r < 2) : fX5_stepsIn (n, sh, P, I) a (nI t) (nI r) = some (nI (tp_cnt S t r (R.1 t))) := by
  have j1 := (hI t ht).1
  have b1 := (hB t ht).1
  have f1 := (hF t ht).1.1
  have f4 := (hF t ht).2.2.2.1
  have hri : nI r = tp_rI r := by unfold tp_rI; rw [if_neg (by omega)]
  unfold fX5_stepsIn
  rw [r_is hr, Option.bind_some]
  exact tp_it (S := Nat) (fun _ _ _ _ _ _ => none) fX5_stepsIn_h5 (fun f j => f (n, sh, P, I) a (nI t) (nI r) (nI (tp_cnt S t r j)) (nI j)) (fun j => j ≤ R.1 t) (fun j => R.1 t - j) (fun j x => x = some (nI (tp_cnt S t r (R.1 t))))
    (by
      intro m j hj ih
      unfold fX5_stepsIn_h5 fX5_stepsIn_b47
      simp (disch := omega) only [r_P1 hr, r_a8 hr, j1, nI_leI, Option.bind_some]
      by_cases e : R.1 t ≤ j
      · rw [if_pos e, show j = R.1 t by omega]
      · rw [if_neg e]
        have hod := f4 j (by omega)
        have hrm := p_room_at (n := n) hs hok hSI hF ht (show j < K t by omega)
        simp (disch := omega) only [r_P6 hr, r_sP1 hs, r_spg hs, r_P0 hr, r_p1 hr, r_od hr, r_odj hr, hod, hrm, Option.bind_some]
        have hlt := tp_room_lt (tp_of S t j 0)
        have hnx := ih (j + 1) (by omega) (by omega)
        by_cases e2 : tp_room (tp_of S t j 0) = r
        · rw [if_pos (by rw [e2, hri]), show (1 : Int32) = nI 1 from rfl, nI_add, nI_add]
          rw [show tp_cnt S t r (j + 1) = tp_cnt S t r j + (if tp_room (tp_of S t j 0) = r then 1 else 0) from rfl, if_pos e2] at hnx
          exact hnx
        · rw [if_neg (fun z => e2 ((tp_rI_eq hlt (show r < 3 by omega)).mp (z.trans hri))), show (1 : Int32) = nI 1 from rfl, nI_add]
          rw [show tp_cnt S t r (j + 1) = tp_cnt S t r j + (if tp_room (tp_of S t j 0) = r then 1 else 0) from rfl, if_neg e2] at hnx
          exact hnx) tw_F 0 (Nat.zero_le _) (tw_F_big (by omega))
theorem p_ticksIn (hr : pRu sh P a s) (hs : pSt sh P s sw) (hok : pSok S) (hSI : pStI I s sw S) (hF : pFo I a S K) (hI : pRI I a R) (hB : pRB K R tk) {r : Nat} (hrr : r < 2) : fX5_ticksIn (n, sh, P, I) a (nI r) = some (nI ((tp_cnt S 0 r (R.1 0) + tp_cnt S 1 r (R.1 1)) * S.1 (r + 1))) := by
  have h0 := p_stepsIn (n := n) hr hs hok hSI hF hI hB (show 0 < 2 by decide) hrr
  have h1 := p_stepsIn (n := n) hr hs hok hSI hF hI hB (show 1 < 2 by decide) hrr
  have ht := p_ticksFor (n := n) hs hSI r (by omega)
  have hri : nI r = tp_rI r := by unfold tp_rI; rw [if_neg (by omega)]
  unfold fX5_ticksIn
  rw [show (0 : Int32) = nI 0 from rfl, show (1 : Int32) = nI 1 from rfl, r_is hr, Option.bind_some, h0, Option.bind_some, h1, Option.bind_some, r_P6 hr, Option.bind_some, hri, ht, Option.bind_some, nI_add, pk_mul]
  rcases (show r = 0 ∨ r = 1 by omega) with rfl | rfl <;> rfl
theorem p_waitAhead (hr : pRu sh P a s) (hI : pRI I a R) (hB : pRB K R tk) (hK : ∀ t, t < 2 → K t ≤ 100) (ht : t < 2) {j : Nat} (hj : j < R.1 t) : fX5_waitAhead (n, sh, P, I) a (nI t) (nI j) = some (nI (R.2.1 t j) - nI (if j = 0 then 0 else R.2.1 t (j - 1) + 1)) := by
  have j3 := (hI t ht).2.2.1
  have b1 := (hB t ht).1
  have hk := hK t ht
  have h1 := (j3 j hj).1
  unfold fX5_waitAhead fX5_waitAhead_b20
  rw [show (1 : Int32) = nI 1 from rfl, show (0 : Int32) = nI 0 from rfl]
  simp (disch := omega) only [r_is hr, r_P3 hr, r_p10 hr, r_r11 hr, nI_leI, h1, Option.bind_some]
  by_cases e : j = 0
  · rw [if_pos (by omega), if_pos e]
  · rw [if_neg (by omega), if_neg e]
    have h2 := (j3 (j - 1) (by omega)).1
    simp (disch := omega) only [pk_sub, r_r11 hr, h2, nI_add, Option.bind_some]
theorem p_starterIn (hr : pRu sh P a s) (hI : pRI I a R) (hB : pRB K R tk) (hK : ∀ t, t < 2 → K t ≤ 100) (x : Int32) : ∃ y, fX5_starterIn (n, sh, P, I) a x = some y ∧ tp_find R.1 (fun t j => nI (R.2.1 t j) = x) y := by
  have hstep : ∀ (m t : Nat), t < 2 → (fX5_starterIn_l2 (m + 1) (n, sh, P, I) a x (nI t) = fX5_starterIn_l2 m (n, sh, P, I) a x (nI (t + 1)) ∧ ∀ j, j < R.1 t → ¬ nI (R.2.1 t j) = x) ∨ (∃ j, fX5_starterIn_l2 (m + 1) (n, sh, P, I) a x (nI t) = some (nI t) ∧ j < R.1 t ∧ nI (R.2.1 t j) = x ∧ ∀ i, i < j → ¬ nI (R.2.1 t i) = x) := by
    intro m t ht
    have j1 := (hI t ht).1
    have j3 := (hI t ht).2.2.1
    have b1 := (hB t ht).1
    have hk := hK t ht
    show (fX5_starterIn_h2 (fX5_starterIn_l2 m) (n, sh, P, I) a x (nI t) = _ ∧ _) ∨ (∃ j, fX5_starterIn_h2 (fX5_starterIn_l2 m) (n, sh, P, I) a x (nI t) = _ ∧ _)
    unfold fX5_starterIn_h2
    rw [if_neg (show ¬ (2 : Int32) ≤ nI t from nI_ge (by omega) (by decide))]
    exact tp_it (S := Nat) (fun _ _ _ _ _ => none) (fX5_starterIn_h9 (fX5_starterIn_l2 m)) (fun f j => f (n, sh, P, I) a x (nI t) (nI j)) (fun j => j ≤ R.1 t ∧ ∀ i, i < j → ¬ nI (R.2.1 t i) = x) (fun j => R.1 t - j) (fun _ r => (r = fX5_starterIn_l2 m (n, sh, P, I) a x (nI (t + 1)) ∧ ∀ j, j < R.1 t → ¬ nI (R.2.1 t j) = x) ∨ (∃ j, r = some (nI t) ∧ j < R.1 t ∧ nI (R.2.1 t j) = x ∧ ∀ i, i < j → ¬ nI (R.2.1 t i) = x))
      (by
        rintro q j ⟨hj, hn⟩ ih
        unfold fX5_starterIn_h9 fX5_starterIn_b39
        rw [show (1 : Int32) = nI 1 from rfl]
        simp (disch := omega) only [r_P1 hr, r_a8 hr, j1, nI_leI, nI_add, Option.bind_some]
        by_cases e : R.1 t ≤ j
        · rw [if_pos e]
          exact Or.inl ⟨rfl, fun i hi => hn i (by omega)⟩
        · rw [if_neg e]
          have h1 := (j3 j (by omega)).1
          simp (disch := omega) only [r_P3 hr, r_p10 hr, r_r11 hr, h1, Option.bind_some]
          by_cases e2 : nI (R.2.1 t j) = x
          · rw [if_pos e2]
            exact Or.inr ⟨j, rfl, by omega, e2, hn⟩
          · rw [if_neg e2]
            refine ih (j + 1) ⟨by omega, fun i hi => ?_⟩ (by omega)
            by_cases e3 : i = j
            · rw [e3]; exact e2
            · exact hn i (by omega)) tw_F 0 ⟨Nat.zero_le _, fun i hi => absurd hi (Nat.not_lt_zero i)⟩ (tw_F_big (by omega))
  unfold fX5_starterIn
  rw [r_is hr, Option.bind_some, show tw_F = 99997 + 1 + 1 + 1 from rfl, tp_lit]
  rcases hstep (99997 + 1 + 1) 0 (by decide) with ⟨e0, n0⟩ | ⟨j, e0, h1, h2, h3⟩
  · rw [e0]
    rcases hstep (99997 + 1) 1 (by decide) with ⟨e1, n1⟩ | ⟨j, e1, h1, h2, h3⟩
    · rw [e1]
      refine ⟨-nI 6, ?_, Or.inr ⟨fun t j ht hj => ?_, rfl⟩⟩
      · show fX5_starterIn_h2 (fX5_starterIn_l2 99997) (n, sh, P, I) a x (nI 2) = _
        unfold fX5_starterIn_h2
        rw [if_pos (by decide)]; rfl
      · rcases (show t = 0 ∨ t = 1 by omega) with rfl | rfl
        · exact n0 j hj
        · exact n1 j hj
    · exact ⟨nI 1, e1, Or.inl ⟨1, j, by decide, h1, h2, h3, fun _ => n0, rfl⟩⟩
  · exact ⟨nI 0, e0, Or.inl ⟨0, j, by decide, h1, h2, h3, fun z => absurd z (by decide), rfl⟩⟩
end TPM
