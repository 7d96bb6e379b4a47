/-! The whole text is read. -/
def tp_rd (ch : Nat → Nat) (L : Nat) : Nat → Nat → Nat → (Nat → Nat → Int32) → Int32 × Nat × (Nat → Nat → Int32)
  | 0, i, q, o => (nI i, q, o)
  | m + 1, i, q, o =>
    match (tp_ordr ch i).2 with
    | none => (nI (tp_ordr ch i).1, q, o)
    | some w => if (tp_ordr ch i).1 = L then (-nI 6, q + 1, fun k => if k = q then w else o k)
      else if ch (tp_ordr ch i).1 = 59 then tp_rd ch L m ((tp_ordr ch i).1 + 1) (q + 1) (fun k => if k = q then w else o k)
      else (nI (tp_ordr ch i).1, q + 1, fun k => if k = q then w else o k)
/-- the fault of a text, its orders' number, its orders -/
def tp_text (T : Nat → Nat) (L : Nat) : Int32 × Nat × (Nat → Nat → Int32) := tp_rd (tp_ch T L) L 81 0 0 (fun _ _ => 0)
theorem tp_num_ok {ch : Nat → Nat} {k r i : Nat} {w : Nat → Int32} (hk : k = 0 ∨ k = 6) (hr : r < 4) (h : (tp_num ch k r i).2 = some w) : pOrd w := by
  have fin : ∀ v, v < 100 → w = tp_o5 (nI k) (nI r) (-nI 6) (-nI 6) (nI v) → pOrd w := by
    rintro v hv rfl
    rcases hk with rfl | rfl
    · exact Or.inl ⟨r, v, hr, hv, rfl, rfl, rfl, rfl, rfl⟩
    · exact Or.inr (Or.inr (Or.inr ⟨r, v, hr, hv, rfl, rfl, rfl, rfl, rfl⟩))
  unfold tp_num at h
  by_cases e0 : tp_dig (ch i)
  · rw [if_pos e0] at h
    by_cases e1 : ch i ≠ 48 ∧ tp_dig (ch (i + 1))
    · rw [if_pos e1] at h
      exact fin _ (by have := e1.2; omega) (Option.some.inj h).symm
    · rw [if_neg e1] at h
      exact fin _ (by omega) (Option.some.inj h).symm
  · rw [if_neg e0] at h
    exact absurd h (by simp)
theorem tp_ordr_ok {ch : Nat → Nat} {i : Nat} {w : Nat → Int32} (h : (tp_ordr ch i).2 = some w) : pOrd w := by
  unfold tp_ordr at h
  by_cases e0 : ch i = 91
  · rw [if_pos e0] at h
    unfold tp_store at h
    by_cases e1 : tp_reg (ch (i + 1))
    · rw [if_pos e1] at h
      by_cases e2 : ch (i + 1 + 1) = 93
      · rw [if_pos e2] at h
        by_cases e3 : ch (i + 1 + 2) = 61
        · rw [if_pos e3] at h
          by_cases e4 : tp_reg (ch (i + 1 + 3))
          · rw [if_pos e4] at h
            have := (Option.some.inj h).symm
            subst this
            exact Or.inr (Or.inr (Or.inl ⟨5, ch (i + 1) - 97, ch (i + 1 + 3) - 97, Or.inr rfl, by omega, by omega, rfl, rfl, rfl, rfl, rfl⟩))
          · rw [if_neg e4] at h; exact absurd h (by simp)
        · rw [if_neg e3] at h; exact absurd h (by simp)
      · rw [if_neg e2] at h; exact absurd h (by simp)
    · rw [if_neg e1] at h; exact absurd h (by simp)
  · rw [if_neg e0] at h
    by_cases e1 : tp_reg (ch i)
    · rw [if_pos e1] at h
      by_cases e2 : ch (i + 1) = 63
      · rw [if_pos e2] at h
        exact tp_num_ok (Or.inr rfl) (by omega) h
      · rw [if_neg e2] at h
        by_cases e3 : ch (i + 1) = 61
        · rw [if_pos e3] at h
          unfold tp_giv at h
          by_cases e4 : ch (i + 2) = 91
          · rw [if_pos e4] at h
            unfold tp_load at h
            by_cases e5 : tp_reg (ch (i + 2 + 1))
            · rw [if_pos e5] at h
              by_cases e6 : ch (i + 2 + 1 + 1) = 93
              · rw [if_pos e6] at h
                have := (Option.some.inj h).symm
                subst this
                exact Or.inr (Or.inr (Or.inl ⟨4, ch i - 97, ch (i + 2 + 1) - 97, Or.inl rfl, by omega, by omega, rfl, rfl, rfl, rfl, rfl⟩))
              · rw [if_neg e6] at h; exact absurd h (by simp)
            · rw [if_neg e5] at h; exact absurd h (by simp)
          · rw [if_neg e4] at h
            by_cases e5 : tp_reg (ch (i + 2))
            · rw [if_pos e5] at h
              by_cases e6 : tp_sg (ch (i + 2 + 1)) = 0
              · rw [if_pos e6] at h; exact absurd h (by simp)
              · rw [if_neg e6] at h
                by_cases e7 : tp_reg (ch (i + 2 + 2))
                · rw [if_pos e7] at h
                  have := (Option.some.inj h).symm
                  subst this
                  have hs : tp_sg (ch (i + 2 + 1)) < 4 := by unfold tp_sg; split <;> (try split) <;> (try split) <;> omega
                  exact Or.inr (Or.inl ⟨tp_sg (ch (i + 2 + 1)), ch i - 97, ch (i + 2) - 97, ch (i + 2 + 2) - 97, by omega, by omega, by omega, by omega, rfl, rfl, rfl, rfl, rfl⟩)
                · rw [if_neg e7] at h; exact absurd h (by simp)
            · rw [if_neg e5] at h
              exact tp_num_ok (Or.inl rfl) (by omega) h
        · rw [if_neg e3] at h; exact absurd h (by simp)
    · rw [if_neg e1] at h; exact absurd h (by simp)
theorem tp_num_b {ch : Nat → Nat} {L k r i : Nat} (hc : ∀ j, ch j = 0 ∨ j < L) (hi : i ≤ L) : (tp_num ch k r i).1 ≤ L ∧ i ≤ (tp_num ch k r i).1 ∧ ((tp_num ch k r i).2 = none ∨ i + 1 ≤ (tp_num ch k r i).1) := by
  have h0 := hc i
  have h1 := hc (i + 1)
  unfold tp_num
  split
  · split
    · exact ⟨by dsimp only; omega, by dsimp only; omega, Or.inr (by dsimp only; omega)⟩
    · exact ⟨by dsimp only; omega, by dsimp only; omega, Or.inr (by dsimp only; omega)⟩
  · exact ⟨hi, Nat.le_refl _, Or.inl rfl⟩
theorem tp_ordr_b {ch : Nat → Nat} {L i : Nat} (hc : ∀ j, ch j = 0 ∨ j < L) (hi : i ≤ L) : (tp_ordr ch i).1 ≤ L ∧ i ≤ (tp_ordr ch i).1 ∧ ((tp_ordr ch i).2 = none ∨ i + 3 ≤ (tp_ordr ch i).1) := by
  have h0 := hc i
  have h1 := hc (i + 1)
  have h2 := hc (i + 2)
  have h3 := hc (i + 3)
  have h4 := hc (i + 4)
  have h3' : tp_sg (ch (i + 3)) = 0 ∨ i + 3 < L := by
    rcases h3 with h | h
    · rw [h]; exact Or.inl rfl
    · exact Or.inr h
  unfold tp_ordr
  split
  · unfold tp_store
    simp only [Nat.add_assoc, Nat.reduceAdd]
    split
    · split
      · split
        · split
          · exact ⟨by dsimp only; omega, by dsimp only; omega, Or.inr (by dsimp only; omega)⟩
          · exact ⟨by dsimp only; omega, by dsimp only; omega, Or.inl rfl⟩
        · exact ⟨by dsimp only; omega, by dsimp only; omega, Or.inl rfl⟩
      · exact ⟨by dsimp only; omega, by dsimp only; omega, Or.inl rfl⟩
    · exact ⟨by dsimp only; omega, by dsimp only; omega, Or.inl rfl⟩
  · split
    · split
      · have := tp_num_b (ch := ch) (L := L) (k := 6) (r := ch i - 97) (i := i + 2) hc (by omega)
        exact ⟨this.1, by omega, this.2.2.imp id (fun h => h)⟩
      · split
        · unfold tp_giv
          split
          · unfold tp_load
            simp only [Nat.add_assoc, Nat.reduceAdd]
            split
            · split
              · exact ⟨by dsimp only; omega, by dsimp only; omega, Or.inr (by dsimp only; omega)⟩
              · exact ⟨by dsimp only; omega, by dsimp only; omega, Or.inl rfl⟩
            · exact ⟨by dsimp only; omega, by dsimp only; omega, Or.inl rfl⟩
          · split
            · simp only [Nat.add_assoc, Nat.reduceAdd]
              split
              · exact ⟨by dsimp only; omega, by dsimp only; omega, Or.inl rfl⟩
              · split
                · exact ⟨by dsimp only; omega, by dsimp only; omega, Or.inr (by dsimp only; omega)⟩
                · exact ⟨by dsimp only; omega, by dsimp only; omega, Or.inl rfl⟩
            · have := tp_num_b (ch := ch) (L := L) (k := 0) (r := ch i - 97) (i := i + 2) hc (by omega)
              exact ⟨this.1, by omega, this.2.2.imp id (fun h => h)⟩
        · exact ⟨by dsimp only; omega, by dsimp only; omega, Or.inl rfl⟩
    · exact ⟨hi, Nat.le_refl _, Or.inl rfl⟩
theorem tp_ch_0 (T : Nat → Nat) (L j : Nat) : tp_ch T L j = 0 ∨ j < L := by
  unfold tp_ch
  by_cases h : j < L
  · exact Or.inr h
  · exact Or.inl (if_neg h)
section TPR
variable {n : Nat} {sh : tw_Sh} {P : Nat → Nat → Option Nat} {I : Nat → Nat → Int32} {d pd L : Nat} {T : Nat → Nat}
/-- what the reader's program holds of q orders o -/
def pRows (J : Nat → Nat → Int32) (d q : Nat) (o : Nat → Nat → Int32) : Prop := J d 1 = nI q ∧ J (d + 1) 0 = nI (if q < 12 then q else 12) ∧ ∀ k, k < q → k < 12 → ∀ c, c < 5 → J (d + 2) (k * 5 + c) = o k c
theorem p_readLoop (hr : pRd sh P d pd) (hx : pTx T L) : ∀ (f q m i : Nat) (o : Nat → Nat → Int32) (J : Nat → Nat → Int32), q + f = 81 → f < m → i ≤ L → J d 3 = nI i → pTI J pd T L → pRows J d q o →
    ∃ I', fX4_read_l20 m (n, sh, P, J) d (nI q) = some ((tp_rd (tp_ch T L) L f i q o).1, (n, sh, P, I')) ∧ ((tp_rd (tp_ch T L) L f i q o).1 = -nI 6 → pRows I' d (tp_rd (tp_ch T L) L f i q o).2.1 (tp_rd (tp_ch T L) L f i q o).2.2) ∧ ∀ c, c ≠ d → c ≠ d + 1 → c ≠ d + 2 → I' c = J c
  | f, _, 0, _, _, _, _, hm, _, _, _, _ => absurd hm (Nat.not_lt_zero f)
  | 0, q, m + 1, i, o, J, hq, hm, hi, h3, hT, hR => by
    have hL := hx.1
    show ∃ I', fX4_read_h20 (fX4_read_l20 m) (n, sh, P, J) d (nI q) = _ ∧ _
    unfold fX4_read_h20 fX4_read_b85 tp_rd
    rw [if_pos (show (80 : Int32) < nI q from (nI_ltI (show 80 < 2 ^ 31 by decide) (by omega)).mpr (by omega)), e_gI hr.1, Option.bind_some, h3]
    refine ⟨J, rfl, fun h => ?_, fun _ _ _ _ => rfl⟩
    exact absurd h (tp_m6e (by omega))
  | f + 1, q, m + 1, i, o, J, hq, hm, hi, h3, hT, hR => by
    have hL := hx.1
    show ∃ I', fX4_read_h20 (fX4_read_l20 m) (n, sh, P, J) d (nI q) = _ ∧ _
    have hb := tp_ordr_b (i := i) (tp_ch_0 T L) hi
    have hord := p_order (n := n) (J := J) (i := i) (z := if q < 12 then q else 12) hr hx hT (by omega) hR.2.1 (by split <;> omega)
    have hJ : tw_up J d 3 (nI i) = J := by rw [← h3, tw_up_self]
    rw [hJ] at hord
    obtain ⟨J1, e1, a1, a2, a3, a4, a5⟩ := hord
    unfold fX4_read_h20 tp_rd
    rw [if_neg (show ¬ (80 : Int32) < nI q from fun z => by have := (nI_ltI (show 80 < 2 ^ 31 by decide) (show q < 2 ^ 31 by omega)).mp z; omega), e1, Option.bind_some]
    generalize hrq : tp_ordr (tp_ch T L) i = rq at *
    obtain ⟨i', res⟩ := rq
    dsimp only at a1 a4 a5 hb ⊢
    cases res with
    | none =>
      dsimp only
      rw [if_pos rfl, if_pos (show nI 0 = 0 from rfl)]
      unfold fX4_read_b33
      rw [e_gI hr.1, Option.bind_some, a1]
      exact ⟨J1, rfl, fun h => absurd h (tp_m6e (by omega)), a3⟩
    | some w =>
      dsimp only
      rw [if_neg (show ¬ (some w = none) from fun z => by cases z), if_neg (show ¬ nI 1 = 0 by decide)]
      have z1 : J1 d 1 = nI q := by rw [a2 1 (by decide)]; exact hR.1
      obtain ⟨s1, s2, s3⟩ := a5 w rfl _ hR.2.1 (by split <;> omega)
      have hT1 : pTI J1 pd T L := ⟨by rw [a3 pd (by have := hr.2.2.2.2.2.2.2; omega) (by have := hr.2.2.2.2.2.2.2; omega) (by have := hr.2.2.2.2.2.2.2; omega)]; exact hT.1, fun j hj => by rw [a3 (pd + 1) (by have := hr.2.2.2.2.2.2.2; omega) (by have := hr.2.2.2.2.2.2.2; omega) (by have := hr.2.2.2.2.2.2.2; omega)]; exact hT.2 j hj⟩
      have hR1 : pRows (tw_up J1 d 1 (nI (q + 1))) d (q + 1) (fun k => if k = q then w else o k) := by
        refine ⟨tw_up_at, ?_, fun k hk hk2 c hc => ?_⟩
        · rw [tw_up_a (by omega), s1]
          congr 1
          split <;> split <;> (try split) <;> omega
        · rw [tw_up_a (by omega)]
          show J1 (d + 2) (k * 5 + c) = (if k = q then w else o k) c
          by_cases e : k = q
          · rw [if_pos e, e]
            have := s2 (by rw [if_pos (by omega)]; omega) c hc
            rw [if_pos (show q < 12 by omega)] at this
            exact this
          · rw [if_neg e, s3 _ (by split <;> omega)]
            exact hR.2.2 k (by omega) hk2 c hc
      have hT2 : pTI (tw_up J1 d 1 (nI (q + 1))) pd T L := ⟨by rw [tw_up_a (by have := hr.2.2.2.2.2.2.2; omega)]; exact hT1.1, fun j hj => by rw [tw_up_a (by have := hr.2.2.2.2.2.2.2; omega)]; exact hT1.2 j hj⟩
      have z3 : tw_up J1 d 1 (nI (q + 1)) d 3 = nI i' := by rw [tw_up_k (by decide)]; exact a1
      have fr : ∀ c, c ≠ d → c ≠ d + 1 → c ≠ d + 2 → tw_up J1 d 1 (nI (q + 1)) c = J c := fun c x1 x2 x3 => by rw [tw_up_a x1]; exact a3 c x1 x2 x3
      rw [tp_1]
      simp (disch := omega) only [e_gI hr.1, e_pI hr.1, e_gP hr.1, hr.2.2.1, e_gI hr.2.2.2.2.1, z1, z3, nI_add, hT2.1, nI_eq, Option.bind_some]
      by_cases e2 : i' = L
      · rw [if_pos e2, if_pos e2]
        exact ⟨_, rfl, fun _ => hR1, fr⟩
      · rw [if_neg e2, if_neg e2]
        have ht := p_take (n := n) (J := tw_up J1 d 1 (nI (q + 1))) (i := i') (c := 59) hr hx hT2 (by omega) (by decide)
        have hJ2 : tw_up (tw_up J1 d 1 (nI (q + 1))) d 3 (nI i') = tw_up J1 d 1 (nI (q + 1)) := by rw [← z3, tw_up_self]
        rw [hJ2] at ht
        rw [show (59 : Int32) = nI 59 from rfl, ht, Option.bind_some]
        by_cases e3 : tp_ch T L i' = 59
        · rw [if_pos e3, if_pos e3]
          dsimp only
          rw [if_neg (show ¬ nI 1 = 0 by decide)]
          have hlt : i' < L := (tp_ch_0 T L i').resolve_left (by omega)
          obtain ⟨I', g1, g2, g3⟩ := p_readLoop hr hx f (q + 1) m (i' + 1) (fun k => if k = q then w else o k) (tw_up (tw_up J1 d 1 (nI (q + 1))) d 3 (nI (i' + 1))) (by omega) (by omega) (by omega) tw_up_at (hT2.at hr) ⟨by rw [tw_up_k (by decide)]; exact hR1.1, by rw [tw_up_a (by omega)]; exact hR1.2.1, fun k hk hk2 c hc => by rw [tw_up_a (by omega)]; exact hR1.2.2 k hk hk2 c hc⟩
          exact ⟨I', g1, g2, fun c x1 x2 x3 => by rw [g3 c x1 x2 x3, tw_up_a x1]; exact fr c x1 x2 x3⟩
        · rw [if_neg e3, if_neg e3]
          dsimp only
          rw [if_pos (show nI 0 = 0 from rfl)]
          unfold fX4_read_b74
          rw [e_gI hr.1, Option.bind_some, z3]
          exact ⟨_, rfl, fun h => absurd h (tp_m6e (by omega)), fr⟩
theorem p_read (hr : pRd sh P d pd) (hx : pTx T L) (hT : pTI I pd T L) : ∃ I', fX4_read (n, sh, P, I) d = some ((tp_text T L).1, (n, sh, P, I')) ∧ ((tp_text T L).1 = -nI 6 → pRows I' d (tp_text T L).2.1 (tp_text T L).2.2) ∧ ∀ c, c ≠ d → c ≠ d + 1 → c ≠ d + 2 → I' c = I c := by
  have r8 := hr.2.2.2.2.2.2.2
  unfold fX4_read
  rw [tp_0]
  simp (disch := omega) only [e_is hr.1, e_gP hr.1, hr.2.1, e_pI hr.1, e_pI hr.2.2.2.1.1, Option.bind_some]
  obtain ⟨I', g1, g2, g3⟩ := p_readLoop (n := n) hr hx 81 0 tw_F 0 (fun _ _ => 0) (tw_up (tw_up (tw_up I (d + 1) 0 (nI 0)) d 1 (nI 0)) d 3 (nI 0)) (by omega) (by decide) (Nat.zero_le _) tw_up_at
    ⟨by rw [tw_up_a (by omega), tw_up_a (by omega), tw_up_a (by omega)]; exact hT.1, fun j hj => by rw [tw_up_a (by omega), tw_up_a (by omega), tw_up_a (by omega)]; exact hT.2 j hj⟩
    ⟨by rw [tw_up_k (by decide), tw_up_at], by rw [tw_up_a (by omega), tw_up_a (by omega), tw_up_at]; rfl, fun k hk => absurd hk (Nat.not_lt_zero k)⟩
  exact ⟨I', g1, g2, fun c x1 x2 x3 => by rw [g3 c x1 x2 x3, tw_up_a x1, tw_up_a x1, tw_up_a x2]⟩
end TPR
