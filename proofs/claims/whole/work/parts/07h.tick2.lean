theorem pRI.kept {I I' : Nat → Nat → Int32} {a : Nat} {R : tp_R} (h : pRI I a R) (hk : ∀ c, a + 8 ≤ c → c < a + 25 → c ≠ a + 19 → I' c = I c) : pRI I' a R := by
  intro t ht
  obtain ⟨h1, h2, h3, h4, h5, h6, h7⟩ := h t ht
  exact ⟨by rw [hk _ (by omega) (by omega) (by omega)]; exact h1, by rw [hk _ (by omega) (by omega) (by omega)]; exact h2, fun j hj => ⟨by rw [hk _ (by omega) (by omega) (by omega)]; exact (h3 j hj).1, by rw [hk _ (by omega) (by omega) (by omega)]; exact (h3 j hj).2⟩, fun k h1 h2 => by rw [hk _ (by omega) (by omega) (by omega)]; exact h4 k h1 h2, fun r hr => by rw [hk _ (by omega) (by omega) (by omega)]; exact h5 r hr, by rw [hk _ (by omega) (by omega) (by omega)]; exact h6, fun h => by rw [hk _ (by omega) (by omega) (by omega)]; exact h7 h⟩
theorem pFo.kept {I I' : Nat → Nat → Int32} {a : Nat} {S : tp_S} {K : Nat → Nat} (h : pFo I a S K) (hk : ∀ c, a + 2 ≤ c → c < a + 8 → I' c = I c) : pFo I' a S K := by
  intro t ht
  obtain ⟨h1, h2, h3, h4, h5⟩ := h t ht
  exact ⟨h1, by rw [hk _ (by omega) (by omega)]; exact h2, by rw [hk _ (by omega) (by omega)]; exact h3, fun j hj => by rw [hk _ (by omega) (by omega)]; exact h4 j hj, fun j hj => by rw [hk _ (by omega) (by omega)]; exact h5 j hj⟩
theorem tp_hind_lt (S : tp_S) (K : Nat → Nat) (R : tp_R) (wo t tick : Nat) : tp_hind S K R wo t tick < 6 := by
  unfold tp_hind
  repeat' split
  all_goals decide
theorem tp_hind_st {S : tp_S} {K : Nat → Nat} {R : tp_R} {wo t tick : Nat} (h : R.1 t < K t) : tp_hind S K R wo t tick < 4 := by
  unfold tp_hind
  rw [if_pos h]
  repeat' split
  all_goals decide
theorem tp_hind_0 {S : tp_S} {K : Nat → Nat} {R : tp_R} {wo t tick : Nat} (h : tp_hind S K R wo t tick = 0) : R.1 t < K t := by
  unfold tp_hind at h
  split at h
  · assumption
  · cases h
theorem tp_starter_lt (R : tp_R) (turns tick : Nat) (h : Nat → Nat) : tp_starter R turns tick h < 3 := by
  unfold tp_starter
  repeat' split
  all_goals omega
theorem tp_starter_can {R : tp_R} {turns tick : Nat} {h : Nat → Nat} (hs : tp_starter R turns tick h ≠ 2) : h (tp_starter R turns tick h) = 0 := by
  unfold tp_starter at hs ⊢
  split
  · split
    · rename_i h1 h2; exact h2.1
    · assumption
  · rename_i h1
    rw [if_neg h1] at hs
    split
    · rename_i h2; exact h2.1
    · rename_i h2; rw [if_neg h2] at hs; exact absurd rfl hs
section TPL
variable {n : Nat} {sh : tw_Sh} {P : Nat → Nat → Option Nat} {I : Nat → Nat → Int32} {a s sw t tick wo turns : Nat} {S : tp_S} {K : Nat → Nat} {R : tp_R}
def tp_lat (R : tp_R) (t : Nat) : Int32 := if R.1 t = 0 then -nI 6 else nI (R.2.1 t (R.1 t - 1))
theorem p_latest (hr : pRu sh P a s) (ht : t < 2) (hI : pRI I a R) (hB : pRB K R tick) (hK : ∀ t, t < 2 → K t ≤ 100) : fX5_latestStart (n, sh, P, I) a (nI t) = some (tp_lat R t) := by
  obtain ⟨j1, j2, j3, j4, j5, j6, j7⟩ := hI t ht
  have b1 := (hB t ht).1
  have hk := hK t ht
  unfold fX5_latestStart tp_lat
  simp (disch := omega) only [r_is hr, r_P1 hr, r_a8 hr, j1, tp_lit, nI_leI, Option.bind_some]
  by_cases e : R.1 t = 0
  · rw [if_pos (by omega), if_pos e]
  · rw [if_neg (by omega), if_neg e]
    have j8 := (j3 (R.1 t - 1) (by omega)).1
    simp (disch := omega) only [r_P3 hr, r_p10 hr, pk_sub, r_r11 hr, j8, Option.bind_some]
theorem tp_lat_le (hB : pRB K R tick) (hk : tick ≤ 4096) {x y : Nat} (hx : x < 2) (hy : y < 2) : (tp_lat R x ≤ tp_lat R y) ↔ ¬ tp_lt R y x = true := by
  have bx := hB x hx
  have by' := hB y hy
  have m6 : ∀ k, k < 5000 → (-nI 6 ≤ nI k) ∧ ¬ (nI k ≤ -nI 6) := by
    intro k hk
    rw [Int32.le_iff_toInt_le, Int32.le_iff_toInt_le, nI_toInt (by omega), show (-nI 6).toInt = -6 by decide]
    omega
  unfold tp_lat tp_lt
  by_cases ex : R.1 x = 0
  · rw [if_pos ex]
    have : ¬ (0 < R.1 x) := by omega
    simp only [decide_eq_false this, Bool.false_and, Bool.false_eq_true, not_false_eq_true, iff_true]
    by_cases ey : R.1 y = 0
    · rw [if_pos ey]; exact Int32.le_refl _
    · rw [if_neg ey]
      have := (by'.2.2.1 (R.1 y - 1) (by omega)).1
      exact (m6 _ (by omega)).1
  · have hx1 := (bx.2.2.1 (R.1 x - 1) (by omega)).1
    rw [if_neg ex]
    simp only [decide_eq_true (show 0 < R.1 x by omega), Bool.true_and, Bool.or_eq_true, decide_eq_true_eq]
    by_cases ey : R.1 y = 0
    · rw [if_pos ey]
      exact ⟨fun h => absurd h (m6 _ (by omega)).2, fun h => absurd (Or.inl ey) h⟩
    · have hy1 := (by'.2.2.1 (R.1 y - 1) (by omega)).1
      rw [if_neg ey, nI_leI (by omega) (by omega)]
      omega
theorem p_starter (hr : pRu sh P a s) (hs : pSt sh P s sw) (hSI : pStI I s sw S) (hok : pSok S) (hI : pRI I a R) (hB : pRB K R tick) (hK : ∀ t, t < 2 → K t ≤ 100) (hk : tick ≤ 4096) {h : Nat → Nat} (hh : ∀ t, t < 2 → I (a + 19) t = nI (h t) ∧ h t < 6) :
    fX5_starterNow (n, sh, P, I) a (nI tick) = some (tp_rI (tp_starter R (S.1 0) tick h)) := by
  have hm : tick % 2 < 2 := Nat.mod_lt _ (by decide)
  have h2 : 1 - tick % 2 < 2 := by omega
  have t0 := hSI.1 0 (by decide)
  have tb := hok.1
  obtain ⟨u1, u2⟩ := hh _ hm
  obtain ⟨w1, w2⟩ := hh _ h2
  unfold fX5_starterNow
  rw [show (2 : Int32) = nI 2 from rfl, tp_mod _ (by omega) (by decide) (by decide)]
  have b96 : ∀ c d : Nat, c < 2 → d < 2 → fX5_starterNow_b96 (n, sh, P, I) (nI (tick % 2)) (nI (1 - tick % 2)) (nI c) (nI d) = some (if c = 0 then (if d = 0 then -nI 6 else nI (1 - tick % 2)) else nI (tick % 2)) := by
    intro c d hc hd
    unfold fX5_starterNow_b96
    simp (disch := omega) only [tp_lit, nI_eq]
    by_cases e : c = 0
    · rw [if_pos e, if_pos e]
      by_cases e2 : d = 0
      · rw [if_pos e2, if_pos e2]
      · rw [if_neg e2, if_neg e2]
    · rw [if_neg e, if_neg e]
  have b52 : ∀ c d : Nat, c < 2 → d < 2 → fX5_starterNow_b52 (n, sh, P, I) a (nI (tick % 2)) (nI (1 - tick % 2)) (nI c) (nI d) = some (if c = 0 then (if d = 0 then -nI 6 else nI (1 - tick % 2)) else if d = 0 then nI (tick % 2) else if S.1 0 = 2 ∧ tp_lt R (1 - tick % 2) (tick % 2) = true then nI (1 - tick % 2) else nI (tick % 2)) := by
    intro c d hc hd
    unfold fX5_starterNow_b52
    have := b96 c d hc hd
    by_cases e : c = 0
    · rw [if_pos (by rw [e]; rfl), if_pos e, this, if_pos e]
    · rw [if_neg (by rw [tp_lit, nI_eq (by omega) (by decide)]; exact e), if_neg e]
      by_cases e2 : d = 0
      · rw [if_pos (by rw [e2]; rfl), if_pos e2, this, if_neg e]
      · rw [if_neg (by rw [tp_lit, nI_eq (by omega) (by decide)]; exact e2), if_neg e2]
        simp (disch := omega) only [r_P6 hr, r_sP0 hs, tp_lit, r_sse hs, t0, nI_eq, p_latest hr hm hI hB hK, p_latest hr h2 hI hB hK, tp_lat_le hB hk hm h2, Option.bind_some]
        by_cases e3 : S.1 0 = 2
        · rw [if_pos e3]
          by_cases e4 : tp_lt R (1 - tick % 2) (tick % 2) = true
          · rw [if_neg (by simp [e4]), if_pos ⟨e3, e4⟩]
          · rw [if_pos e4, if_neg (fun z => e4 z.2)]
        · rw [if_neg e3, if_neg (fun z => e3 z.1), this, if_neg e]
  have b24 : ∀ c : Nat, c < 2 → fX5_starterNow_b24 (n, sh, P, I) a (nI (tick % 2)) (nI (1 - tick % 2)) (nI c) = some (if c = 0 then (if h (1 - tick % 2) = 0 ∧ S.1 0 ≠ 0 then nI (1 - tick % 2) else -nI 6) else if h (1 - tick % 2) = 0 ∧ S.1 0 = 2 ∧ tp_lt R (1 - tick % 2) (tick % 2) = true then nI (1 - tick % 2) else nI (tick % 2)) := by
    intro c hc
    unfold fX5_starterNow_b24 fX5_starterNow_b51
    have q0 := b52 c 0 hc (by decide)
    have q1 := b52 c 1 hc (by decide)
    simp (disch := omega) only [r_P7 hr, r_a19 hr, w1, tp_lit, nI_eq, r_P6 hr, r_sP0 hs, r_sse hs, t0, q0, q1, Option.bind_some]
    by_cases e1 : h (1 - tick % 2) = 0 <;> by_cases e2 : S.1 0 = 0 <;> by_cases e3 : c = 0 <;> simp [e1, e2, e3]
  simp (disch := omega) only [r_is hr, r_P7 hr, r_a19 hr, u1, tp_lit, nI_eq, pk_sub, Option.bind_some]
  have q0 := b24 0 (by decide)
  have q1 := b24 1 (by decide)
  unfold tp_starter tp_rI
  by_cases e1 : h (tick % 2) = 0
  · rw [if_pos e1, if_pos e1, q1, if_neg (by decide)]
    by_cases e2 : h (1 - tick % 2) = 0 ∧ S.1 0 = 2 ∧ tp_lt R (1 - tick % 2) (tick % 2) = true
    · rw [if_pos e2, if_pos e2, if_neg (by omega)]
    · rw [if_neg e2, if_neg e2, if_neg (by omega)]
  · rw [if_neg e1, if_neg e1, q0, if_pos rfl]
    by_cases e2 : h (1 - tick % 2) = 0 ∧ S.1 0 ≠ 0
    · rw [if_pos e2, if_pos e2, if_neg (by omega)]
    · rw [if_neg e2, if_neg e2, if_pos rfl]
end TPL
