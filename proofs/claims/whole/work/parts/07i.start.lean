/-! A step's start, and the whole tick. -/
section TPM
variable {n : Nat} {sh : tw_Sh} {P : Nat → Nat → Option Nat} {I : Nat → Nat → Int32} {a s sw t tick wo turns : Nat} {S : tp_S} {K : Nat → Nat} {R : tp_R}
theorem tp_dur_lt (hok : pSok S) (r : Nat) : 1 ≤ tp_dur S r ∧ tp_dur S r ≤ 9 := by
  obtain ⟨h1, h2, h3, -⟩ := hok
  unfold tp_dur
  split
  · exact h2
  · split
    · exact h3
    · omega
/-- the bounds behind a start -/
theorem pRB.start (hok : pSok S) (hB : pRB K R tick) (ht : t < 2) (hst : R.1 t < K t) : pRB K (tp_start S R t tick) (tick + 1) := by
  intro t' ht'
  obtain ⟨b1, b2, b3, b4, b5, b6, b7⟩ := hB t' ht'
  have hd := tp_dur_lt hok (tp_room (tp_of S t (R.1 t) 0))
  refine ⟨?_, ?_, ?_, ?_, ?_, ?_, ?_⟩
  · show tp_u R.1 t (R.1 t + 1) t' ≤ K t'
    unfold tp_u; split
    · rename_i e; subst e; omega
    · exact b1
  · show tp_u _ t _ t' ≤ _
    unfold tp_u; split
    · rename_i e; subst e; split <;> omega
    · omega
  · intro j hj
    have hj' : j < tp_u R.1 t (R.1 t + 1) t' := hj
    show tw_up R.2.1 t (R.1 t) tick t' j < _ ∧ tw_up R.2.2.1 t (R.1 t) _ t' j ≤ _
    unfold tw_up
    by_cases e : t' = t ∧ j = R.1 t
    · rw [if_pos e, if_pos e]; omega
    · rw [if_neg e, if_neg e]
      have : j < R.1 t' := by
        unfold tp_u at hj'
        split at hj'
        · rename_i e2; subst e2; have : j ≠ R.1 t' := fun z => e ⟨rfl, z⟩; omega
        · exact hj'
      have := b3 j this
      omega
  · intro k
    have := b4 k
    show R.2.2.2.1 t' k ≤ _
    omega
  · intro r hr
    have := b5 r hr
    show (if tp_gives S t (R.1 t) = true then tw_up R.2.2.2.2.1 t _ _ else R.2.2.2.2.1) t' r ≤ _
    split
    · unfold tw_up; split <;> omega
    · omega
  · show (if _ then R.2.2.2.2.2.1 else tp_u R.2.2.2.2.2.1 _ _) t' ≤ _
    split
    · omega
    · unfold tp_u; split <;> omega
  · show (if _ then R.2.2.2.2.2.2.1 else tp_u R.2.2.2.2.2.2.1 _ _) t' < _
    split
    · omega
    · unfold tp_u; split <;> omega
theorem p_start (hr : pRu sh P a s) (hs : pSt sh P s sw) (hd : s + 10 ≤ a ∨ a + 25 ≤ s) (hok : pSok S) (hSI : pStI I s sw S) (hF : pFo I a S K) (hI : pRI I a R) {tb : Nat} (hB : pRB K R tb) (htb : tb ≤ 4097) (hk : tick ≤ 4096) (ht : t < 2) (hst : R.1 t < K t) :
    ∃ I', fX5_start (n, sh, P, I) a (nI t) (nI tick) = some (n, sh, P, I') ∧ pRI I' a (tp_start S R t tick) ∧ ∀ c, (c < a + 8 ∨ a + 25 ≤ c) → I' c = I c := by
  obtain ⟨g1, g2, g3⟩ := tp_step_in hok hF ht hst
  obtain ⟨j1, j2, j3, j4, j5, j6, j7⟩ := hI t ht
  obtain ⟨b1, b2, b3, b4, b5, b6, b7⟩ := hB t ht
  obtain ⟨f1, f2, f3, f4, f5⟩ := hF t ht
  obtain ⟨c1, c2, c3⟩ := hSI.2 t ht
  have hpr := (hs.2.2.2.2.2.2.2.2 t ht).2.1
  have hK := f1.1
  have hod := f4 _ hst
  have hof : ∀ c, c < 5 → I (pPg s sw t + 1) (tp_od S t (R.1 t) * 5 + c) = tp_of S t (R.1 t) c := fun c hc => c2 _ g1 c hc
  have hroom : fX3_roomOf (n, sh, P, I) (pPg s sw t) (nI (tp_od S t (R.1 t))) = some (tp_rI (tp_room (tp_of S t (R.1 t) 0))) := by
    have := p_roomOf (n := n) hpr c1 g2 g1
    rw [show tp_od S t (R.1 t) * 5 = tp_od S t (R.1 t) * 5 + 0 from rfl, hof 0 (by decide)] at this
    exact this
  have hrl := tp_room_lt (tp_of S t (R.1 t) 0)
  have hdur := tp_dur_lt hok (tp_room (tp_of S t (R.1 t) 0))
  have htf : fX6_ticksFor (n, sh, P, I) s (tp_rI (tp_room (tp_of S t (R.1 t) 0))) = some (nI (tp_dur S (tp_room (tp_of S t (R.1 t) 0)))) := p_ticksFor hs hSI _ hrl
  have hof0 : tp_of S t (R.1 t) 0 = S.2.2.1 t (tp_od S t (R.1 t)) 0 := rfl
  obtain ⟨r1, hr1, hq1⟩ := g3.reg.2
  have hq1' : tp_of S t (R.1 t) 1 = nI r1 := hq1
  unfold fX5_start
  generalize hrm : tp_room (tp_of S t (R.1 t) 0) = rm at hroom hrl hdur htf
  generalize hdv : tp_dur S rm = dv at hdur htf
  -- the memory behind the first writes
  let I1 := tw_up I (a + 11 + t) (R.1 t) (nI tick)
  let I2 := tw_up I1 (a + 14 + t) (R.1 t) (nI (tick + dv))
  let I3 := tw_up I2 (a + 8) t (nI (R.1 t + 1))
  let I4 := tw_up I3 (a + 9) t (nI (if R.2.2.2.2.2.2.2 t < tick + dv then tick + dv else R.2.2.2.2.2.2.2 t))
  have n1 : ∀ c, c ≠ a + 11 + t → I1 c = I c := fun c h => tw_up_a h
  have n2 : ∀ c, c ≠ a + 14 + t → I2 c = I1 c := fun c h => tw_up_a h
  have n3 : ∀ c, c ≠ a + 8 → I3 c = I2 c := fun c h => tw_up_a h
  have n4 : ∀ c, c ≠ a + 9 → I4 c = I3 c := fun c h => tw_up_a h
  have k4 : ∀ c, (c < a + 8 ∨ a + 25 ≤ c) → I4 c = I c := fun c hc => by
    rw [n4 _ (by omega), n3 _ (by omega), n2 _ (by omega), n1 _ (by omega)]
  have hgb : fX3_givenBy (n, sh, P, I4) (pPg s sw t) (nI (tp_od S t (R.1 t))) = some (if tp_gives S t (R.1 t) = true then nI r1 else -nI 6) := by
    have := p_givenBy (n := n) (I := I4) hpr (by rw [k4 _ (by unfold pPg; omega)]; exact c1) g2 g1
    rw [k4 _ (by unfold pPg; omega), show tp_od S t (R.1 t) * 5 = tp_od S t (R.1 t) * 5 + 0 from rfl, hof 0 (by decide), Nat.add_zero, hof 1 (by decide), hq1'] at this
    rw [this]
    unfold tp_gives
    by_cases e5 : tp_of S t (R.1 t) 0 = nI 5
    · simp [e5]
    · by_cases e6 : tp_of S t (R.1 t) 0 = nI 6
      · simp [e6]
      · simp [e5, e6]
  have fin : ∀ J : Nat → Nat → Int32, fX5_start_b132 (n, sh, P, J) a (nI t) (tp_rI rm) (nI (tick + dv)) = some (n, sh, P, if rm = 2 then J else tw_up (tw_up J (a + 23) rm (nI (tick + dv))) (a + 24) rm (nI t)) := by
    intro J
    unfold fX5_start_b132
    by_cases e : rm = 2
    · subst e; rw [if_pos (show tp_rI 2 = -6 from rfl), if_pos rfl]
    · have hri : tp_rI rm = nI rm := by unfold tp_rI; rw [if_neg e]
      rw [if_neg (show ¬ tp_rI rm = -6 from fun z => e ((tp_rI_eq hrl (by decide)).mp z)), if_neg e, hri]
      simp (disch := omega) only [r_P9 hr, r_w23 hr, r_P10 hr, r_w24 hr, Option.bind_some]
  have hmax : ∀ σ, fJ9_max σ (nI (R.2.2.2.2.2.2.2 t)) (nI (tick + dv)) = some (nI (if R.2.2.2.2.2.2.2 t < tick + dv then tick + dv else R.2.2.2.2.2.2.2 t)) := fun σ => tp_max σ (by omega) (by omega)
  have l9 : I3 (a + 9) t = nI (R.2.2.2.2.2.2.2 t) := by
    rw [n3 _ (by omega), n2 _ (by omega), n1 _ (by omega)]; exact j2
  have hgo : ∀ J : Nat → Nat → Int32, J = (if tp_gives S t (R.1 t) = true then tw_up I4 (a + 21 + t) r1 (nI (tick + dv)) else I4) → ∃ I', some (n, sh, P, if rm = 2 then J else tw_up (tw_up J (a + 23) rm (nI (tick + dv))) (a + 24) rm (nI t)) = some (n, sh, P, I') ∧ pRI I' a (tp_start S R t tick) ∧ ∀ c, (c < a + 8 ∨ a + 25 ≤ c) → I' c = I c := by
    intro J hJ
    refine ⟨_, rfl, ?_, ?_⟩
    · have hJ0 : ∀ c, (c < a + 21 ∨ a + 23 ≤ c) → J c = I4 c := fun c hc => by
        rw [hJ]; split
        · exact tw_up_a (by omega)
        · rfl
      generalize hJ2 : (if rm = 2 then J else tw_up (tw_up J (a + 23) rm (nI (tick + dv))) (a + 24) rm (nI t)) = J2
      have hJ3 : ∀ c, (c < a + 23 ∨ a + 25 ≤ c) → J2 c = J c := fun c hc => by
        rw [← hJ2]; split
        · rfl
        · rw [tw_up_a (by omega), tw_up_a (by omega)]
      intro t' ht'
      obtain ⟨m1, m2, m3, m4, m5, m6, m7⟩ := hI t' ht'
      refine ⟨?_, ?_, ?_, ?_, ?_, ?_, ?_⟩
      · rw [hJ3 _ (by omega), hJ0 _ (by omega)]
        rw [n4 _ (by omega)]
        show tw_up I2 (a + 8) t (nI (R.1 t + 1)) (a + 8) t' = nI (tp_u R.1 t (R.1 t + 1) t')
        unfold tp_u
        by_cases e : t' = t
        · rw [if_pos e, e, tw_up_at]
        · rw [if_neg e, tw_up_k e, n2 _ (by omega), n1 _ (by omega)]; exact m1
      · rw [hJ3 _ (by omega), hJ0 _ (by omega)]
        show tw_up I3 (a + 9) t _ (a + 9) t' = nI (tp_u R.2.2.2.2.2.2.2 t _ t')
        unfold tp_u
        by_cases e : t' = t
        · rw [if_pos e, e, tw_up_at, hrm, hdv]
        · rw [if_neg e, tw_up_k e]
          rw [n3 _ (by omega), n2 _ (by omega), n1 _ (by omega)]; exact m2
      · intro j hj
        have hj' : j < tp_u R.1 t (R.1 t + 1) t' := hj
        have e11 : J2 (a + 11 + t') j = nI (tw_up R.2.1 t (R.1 t) tick t' j) := by
          rw [hJ3 _ (by omega), hJ0 _ (by omega)]
          rw [n4 _ (by omega), n3 _ (by omega), n2 _ (by omega)]
          show tw_up I (a + 11 + t) (R.1 t) (nI tick) (a + 11 + t') j = _
          by_cases e : t' = t ∧ j = R.1 t
          · rw [e.1, e.2, tw_up_at, tw_up_at]
          · have hlt : j < R.1 t' := by
              unfold tp_u at hj'
              split at hj'
              · rename_i e2; subst e2; have : j ≠ R.1 t' := fun z => e ⟨rfl, z⟩; omega
              · exact hj'
            have e1 : tw_up R.2.1 t (R.1 t) tick t' j = R.2.1 t' j := by unfold tw_up; rw [if_neg e]
            have e2 : tw_up I (a + 11 + t) (R.1 t) (nI tick) (a + 11 + t') j = I (a + 11 + t') j := by
              unfold tw_up; rw [if_neg (fun z => e ⟨by omega, z.2⟩)]
            rw [e1, e2]; exact (m3 j hlt).1
        have e14 : J2 (a + 14 + t') j = nI (tw_up R.2.2.1 t (R.1 t) (tick + dv) t' j) := by
          rw [hJ3 _ (by omega), hJ0 _ (by omega)]
          rw [n4 _ (by omega), n3 _ (by omega)]
          show tw_up I1 (a + 14 + t) (R.1 t) (nI (tick + dv)) (a + 14 + t') j = _
          by_cases e : t' = t ∧ j = R.1 t
          · rw [e.1, e.2, tw_up_at, tw_up_at]
          · have hlt : j < R.1 t' := by
              unfold tp_u at hj'
              split at hj'
              · rename_i e2; subst e2; have : j ≠ R.1 t' := fun z => e ⟨rfl, z⟩; omega
              · exact hj'
            have e1 : tw_up R.2.2.1 t (R.1 t) (tick + dv) t' j = R.2.2.1 t' j := by unfold tw_up; rw [if_neg e]
            have e2 : tw_up I1 (a + 14 + t) (R.1 t) (nI (tick + dv)) (a + 14 + t') j = I1 (a + 14 + t') j := by
              unfold tw_up; rw [if_neg (fun z => e ⟨by omega, z.2⟩)]
            rw [e1, e2, n1 _ (by omega)]; exact (m3 j hlt).2
        refine ⟨e11, ?_⟩
        rw [e14]
        show _ = nI (tw_up R.2.2.1 t (R.1 t) (tick + tp_dur S (tp_room (tp_of S t (R.1 t) 0))) t' j)
        rw [hrm, hdv]
      · intro k hk1 hk2
        rw [hJ3 _ (by omega), hJ0 _ (by omega)]
        show I4 (a + 17 + t') k = nI (R.2.2.2.1 t' k)
        rw [n4 _ (by omega), n3 _ (by omega), n2 _ (by omega), n1 _ (by omega)]
        exact m4 k hk1 hk2
      · intro r hr4
        rw [hJ3 _ (by omega), hJ]
        show _ = nI ((if tp_gives S t (R.1 t) = true then tw_up R.2.2.2.2.1 t (tp_n (tp_of S t (R.1 t) 1)) (tick + tp_dur S (tp_room (tp_of S t (R.1 t) 0))) else R.2.2.2.2.1) t' r)
        rw [hrm, hdv, hq1', tp_n_nI (by omega)]
        have e21 : I4 (a + 21 + t') r = I (a + 21 + t') r := by
          rw [n4 _ (by omega), n3 _ (by omega), n2 _ (by omega), n1 _ (by omega)]
        by_cases hg : tp_gives S t (R.1 t) = true
        · rw [if_pos hg, if_pos hg]
          by_cases e : t' = t ∧ r = r1
          · rw [e.1, e.2, tw_up_at, tw_up_at]
          · have e1 : tw_up R.2.2.2.2.1 t r1 (tick + dv) t' r = R.2.2.2.2.1 t' r := by unfold tw_up; rw [if_neg e]
            have e2 : tw_up I4 (a + 21 + t) r1 (nI (tick + dv)) (a + 21 + t') r = I4 (a + 21 + t') r := by
              unfold tw_up; rw [if_neg (fun z => e ⟨by omega, z.2⟩)]
            rw [e1, e2, e21]; exact m5 r hr4
        · rw [if_neg hg, if_neg hg, e21]; exact m5 r hr4
      · show J2 (a + 23) t' = nI ((if tp_room (tp_of S t (R.1 t) 0) = 2 then R.2.2.2.2.2.1 else tp_u R.2.2.2.2.2.1 (tp_room (tp_of S t (R.1 t) 0)) (tick + tp_dur S (tp_room (tp_of S t (R.1 t) 0)))) t')
        rw [hrm, hdv]
        have e23 : J (a + 23) t' = I (a + 23) t' := by
          rw [hJ0 _ (by omega)]
          rw [n4 _ (by omega), n3 _ (by omega), n2 _ (by omega), n1 _ (by omega)]
        rw [← hJ2]
        by_cases e : rm = 2
        · rw [if_pos e, if_pos e, e23]; exact m6
        · rw [if_neg e, if_neg e, tw_up_a (by omega)]
          unfold tp_u
          by_cases e2 : t' = rm
          · rw [if_pos e2, e2, tw_up_at]
          · rw [if_neg e2, tw_up_k e2, e23]; exact m6
      · show (0 < (if tp_room (tp_of S t (R.1 t) 0) = 2 then R.2.2.2.2.2.1 else tp_u R.2.2.2.2.2.1 (tp_room (tp_of S t (R.1 t) 0)) (tick + tp_dur S (tp_room (tp_of S t (R.1 t) 0)))) t') → J2 (a + 24) t' = nI ((if tp_room (tp_of S t (R.1 t) 0) = 2 then R.2.2.2.2.2.2.1 else tp_u R.2.2.2.2.2.2.1 (tp_room (tp_of S t (R.1 t) 0)) t) t')
        rw [hrm, hdv]
        have e24 : J (a + 24) t' = I (a + 24) t' := by
          rw [hJ0 _ (by omega)]
          rw [n4 _ (by omega), n3 _ (by omega), n2 _ (by omega), n1 _ (by omega)]
        rw [← hJ2]
        by_cases e : rm = 2
        · rw [if_pos e, if_pos e, if_pos e, e24]; exact m7
        · rw [if_neg e, if_neg e, if_neg e]
          unfold tp_u
          by_cases e2 : t' = rm
          · rw [if_pos e2, if_pos e2, e2, tw_up_at]; exact fun _ => rfl
          · rw [if_neg e2, if_neg e2, tw_up_k e2, tw_up_a (by omega), e24]; exact m7
    · intro c hc
      have hJc : J c = I c := by
        rw [hJ]; split
        · rw [tw_up_a (by omega)]; exact k4 c hc
        · exact k4 c hc
      split
      · exact hJc
      · rw [tw_up_a (by omega), tw_up_a (by omega)]; exact hJc
  have g8 := fin
  simp (disch := omega) only [r_is hr, r_P1 hr, r_a8 hr, j1, r_P0 hr, r_p1 hr, r_od hr, r_odj hr, hod, r_P6 hr, r_sP1 hs, r_spg hs, hroom, htf, r_P3 hr, r_p10 hr, r_x11 hr, r_P4 hr, r_p13 hr, r_x14 hr, tp_lit, nI_add, r_w8 hr, r_P2 hr, r_a9 hr, Option.bind_some]
  rw [show (tw_up (tw_up (tw_up I (a + 11 + t) (R.1 t) (nI tick)) (a + 14 + t) (R.1 t) (nI (tick + dv))) (a + 8) t (nI (R.1 t + 1))) = I3 from rfl, l9]
  simp (disch := omega) only [hmax, r_w9 hr, Option.bind_some, r_P6 hr, r_sP1 hs, r_spg hs]
  rw [show (tw_up I3 (a + 9) t (nI (if R.2.2.2.2.2.2.2 t < tick + dv then tick + dv else R.2.2.2.2.2.2.2 t))) = I4 from rfl, hgb, Option.bind_some]
  cases hg : tp_gives S t (R.1 t)
  · simp only [Bool.false_eq_true, if_false]
    rw [if_pos (show -nI 6 < nI 0 by decide), fin]
    exact hgo I4 (by rw [hg]; rfl)
  · rw [if_pos rfl, if_neg (by rw [nI_ltI (by omega) (by decide)]; omega), if_neg (by rw [nI_leI (by decide) (by omega)]; omega)]
    simp (disch := omega) only [r_P8 hr, r_p20 hr, r_x21 hr, Option.bind_some]
    rw [fin]
    exact hgo _ (by rw [hg]; rfl)
end TPM
