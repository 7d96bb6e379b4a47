/-! States, the history, paths. -/
abbrev tp_S : Type := (Nat → Nat) × (Nat → Nat) × (Nat → Nat → Nat → Int32) × (Nat → Nat → Nat)
def pSok (S : tp_S) : Prop := S.1 0 ≤ 2 ∧ (1 ≤ S.1 1 ∧ S.1 1 ≤ 9) ∧ (1 ≤ S.1 2 ∧ S.1 2 ≤ 9) ∧ ∀ t, t < 2 → S.2.1 t ≤ 12 ∧ (∀ k, k < S.2.1 t → pOrd (S.2.2.1 t k)) ∧ ∀ j, j < 12 → S.2.2.2 t j < 1000
def pPg (a sw t : Nat) : Nat := a + 3 + 2 * ((t + sw) % 2)
def pFv (a sw t : Nat) : Nat := a + 8 + (t + sw) % 2
/-- where a state's cells lie: ten of them; its threads may be exchanged (sw) -/
def pSt (sh : tw_Sh) (P : Nat → Nat → Option Nat) (a sw : Nat) : Prop := sw < 2 ∧ sh a = some (6, 3) ∧ P a 0 = some (a + 1) ∧ P a 1 = some (a + 2) ∧ P a 2 = some (a + 7) ∧ sh (a + 1) = some (20, 3) ∧ sh (a + 2) = some (25, 2) ∧ sh (a + 7) = some (23, 2) ∧ ∀ t, t < 2 → P (a + 2) t = some (pPg a sw t) ∧ pPr sh P (pPg a sw t) ∧ P (a + 7) t = some (pFv a sw t) ∧ sh (pFv a sw t) = some (20, 12)
def pStI (I : Nat → Nat → Int32) (a sw : Nat) (S : tp_S) : Prop := (∀ j, j < 3 → I (a + 1) j = nI (S.1 j)) ∧ ∀ t, t < 2 → I (pPg a sw t) 0 = nI (S.2.1 t) ∧ (∀ k, k < S.2.1 t → ∀ c, c < 5 → I (pPg a sw t + 1) (k * 5 + c) = S.2.2.1 t k c) ∧ ∀ j, j < 12 → I (pFv a sw t) j = nI (S.2.2.2 t j)
theorem pStI.kept {I I' : Nat → Nat → Int32} {a sw : Nat} {S : tp_S} (h : pStI I a sw S) (hk : ∀ c, a ≤ c → c < a + 10 → I' c = I c) : pStI I' a sw S := by
  refine ⟨fun j hj => by rw [hk _ (by omega) (by omega)]; exact h.1 j hj, fun t ht => ?_⟩
  obtain ⟨h1, h2, h3⟩ := h.2 t ht
  refine ⟨by rw [hk _ (by unfold pPg; omega) (by unfold pPg; omega)]; exact h1, fun k hk' c hc => by rw [hk _ (by unfold pPg; omega) (by unfold pPg; omega)]; exact h2 k hk' c hc, fun j hj => by rw [hk _ (by unfold pFv; omega) (by unfold pFv; omega)]; exact h3 j hj⟩
section TPS
variable {n : Nat} {sh : tw_Sh} {P : Nat → Nat → Option Nat} {I : Nat → Nat → Int32} {a b sw sw' : Nat} {S : tp_S}
theorem p_copy1 (m : Nat) (ha : pSt sh P a sw) (hb : pSt sh P b sw') (hd : a + 10 ≤ b ∨ b + 10 ≤ a) (t : Nat) (ht : t < 2) :
    fX6_copyFrom_l16 (m + 1) (n, sh, P, I) a b (nI t) = fX6_copyFrom_l16 m (n, sh, P, tp_cp (tp_cp (tw_up I (pPg a sw t) 0 (I (pPg b sw' t) 0)) (pPg b sw' t + 1) (pPg a sw t + 1) 60) (pFv b sw' t) (pFv a sw t) 12) a b (nI (t + 1)) := by
  obtain ⟨a0, a1, a2, a3, a4, a5, a6, a7, a8⟩ := ha
  obtain ⟨b0, b1, b2, b3, b4, b5, b6, b7, b8⟩ := hb
  obtain ⟨a9, a10, a11, a12⟩ := a8 t ht
  obtain ⟨b9, b10, b11, b12⟩ := b8 t ht
  show fX6_copyFrom_h16 (fX6_copyFrom_l16 m) (n, sh, P, I) a b (nI t) = _
  unfold fX6_copyFrom_h16
  simp (disch := omega) only [e_gP a1, e_gP b1, a3, a4, b3, b4, e_aP a6, e_aP a7, e_aP b6, e_aP b7, a9, a11, b9, b11, p_copyFrom a10 b10 (by unfold pPg; omega), e_cp b12 a12, tp_lit, nI_add, pk_mul, nI_ltI, nI_leI, nI_eq, nI_clamp, tp_nn, pk_sub, tp_m6, tp_m6n, if_pos, if_neg, Option.bind_some, Option.map_some]
theorem p_copyState (ha : pSt sh P a sw) (hb : pSt sh P b sw') (hd : a + 10 ≤ b ∨ b + 10 ≤ a) (hz : ∀ t, t < 2 → S.2.1 t ≤ 12) (hS : pStI I b sw' S) :
    ∃ I', fX6_copyFrom (n, sh, P, I) a b = some (n, sh, P, I') ∧ pStI I' a sw S ∧ ∀ c, (c < a ∨ a + 10 ≤ c) → I' c = I c := by
  have ha' := ha
  have hb' := hb
  obtain ⟨a0, a1, a2, a3, a4, a5, a6, a7, a8⟩ := ha
  obtain ⟨b0, b1, b2, b3, b4, b5, b6, b7, b8⟩ := hb
  unfold fX6_copyFrom
  simp (disch := omega) only [e_is a1, e_gP a1, e_gP b1, a2, b2, tp_lit, e_cp b5 a5, Option.bind_some]
  rw [show tw_F = 99997 + 1 + 1 + 1 from rfl, p_copy1 _ ha' hb' hd 0 (by decide), p_copy1 _ ha' hb' hd 1 (by decide)]
  refine ⟨_, rfl, ?_, ?_⟩
  · refine ⟨fun j hj => ?_, fun t ht => ?_⟩
    · have := hS.1 j hj
      simp (disch := (first | omega | (unfold pPg pFv; omega) | (unfold pPg; omega) | (unfold pFv; omega))) only [tp_cp_a, tw_up_a]
      rw [tp_cp_in hj, this]
    · obtain ⟨h1, h2, h3⟩ := hS.2 t ht
      have hz' := hz t ht
      rcases (show t = 0 ∨ t = 1 by omega) with rfl | rfl
      · refine ⟨?_, fun k hk c hc => ?_, fun j hj => ?_⟩
        · simp (disch := (first | omega | (unfold pPg pFv; omega) | (unfold pPg; omega) | (unfold pFv; omega))) only [tp_cp_a, tw_up_a, tw_up_at, h1]
        · simp (disch := (first | omega | (unfold pPg pFv; omega) | (unfold pPg; omega) | (unfold pFv; omega))) only [tp_cp_a, tw_up_a, tw_up_at]
          rw [tp_cp_in (by omega)]
          simp (disch := (first | omega | (unfold pPg pFv; omega) | (unfold pPg; omega) | (unfold pFv; omega))) only [tp_cp_a, tw_up_a]
          exact h2 k hk c hc
        · simp (disch := (first | omega | (unfold pPg pFv; omega) | (unfold pPg; omega) | (unfold pFv; omega))) only [tp_cp_a, tw_up_a, tw_up_at]
          rw [tp_cp_in hj]
          simp (disch := (first | omega | (unfold pPg pFv; omega) | (unfold pPg; omega) | (unfold pFv; omega))) only [tp_cp_a, tw_up_a]
          exact h3 j hj
      · refine ⟨?_, fun k hk c hc => ?_, fun j hj => ?_⟩
        · simp (disch := (first | omega | (unfold pPg pFv; omega) | (unfold pPg; omega) | (unfold pFv; omega))) only [tp_cp_a, tw_up_a, tw_up_at, h1]
        · simp (disch := (first | omega | (unfold pPg pFv; omega) | (unfold pPg; omega) | (unfold pFv; omega))) only [tp_cp_a, tw_up_a, tw_up_at]
          rw [tp_cp_in (by omega)]
          simp (disch := (first | omega | (unfold pPg pFv; omega) | (unfold pPg; omega) | (unfold pFv; omega))) only [tp_cp_a, tw_up_a]
          exact h2 k hk c hc
        · rw [tp_cp_in hj]
          simp (disch := (first | omega | (unfold pPg pFv; omega) | (unfold pPg; omega) | (unfold pFv; omega))) only [tp_cp_a, tw_up_a]
          exact h3 j hj
  · intro c hc
    simp (disch := (first | omega | (unfold pPg pFv; omega) | (unfold pPg; omega) | (unfold pFv; omega))) only [tp_cp_a, tw_up_a]
theorem p_ticksFor (ha : pSt sh P a sw) (hS : pStI I a sw S) (r : Nat) (hr : r < 3) : fX6_ticksFor (n, sh, P, I) a (tp_rI r) = some (nI (if r = 0 then S.1 1 else if r = 1 then S.1 2 else 1)) := by
  obtain ⟨a0, a1, a2, a3, a4, a5, a6, a7, a8⟩ := ha
  have h1 := hS.1 1 (by decide)
  have h2 := hS.1 2 (by decide)
  unfold fX6_ticksFor tp_rI
  rcases (show r = 0 ∨ r = 1 ∨ r = 2 by omega) with rfl | rfl | rfl
  · simp (disch := omega) only [e_is a1, e_gP a1, a2, e_aI a5, h1, tp_lit, nI_eq, if_true, if_false, if_neg, if_pos, Option.bind_some, reduceCtorEq]
  · simp (disch := omega) only [e_is a1, e_gP a1, a2, e_aI a5, h2, tp_lit, nI_eq, if_true, if_false, if_neg, if_pos, Option.bind_some]
  · simp (disch := omega) only [e_is a1, Option.bind_some]
    rfl
end TPS
