/-! Changes of the state: what a state is afterwards, in the class and in the reference. -/
theorem tp_ltn {x : Int32} {k : Nat} (h : x < 0) (hk : k < 2 ^ 31) : x < nI k := by
  rw [Int32.lt_iff_toInt_lt] at h ⊢
  rw [nI_toInt hk]
  have h0 : (0 : Int32).toInt = 0 := by decide
  omega
theorem tp_gtn {x : Int32} {k : Nat} (h : x < 0) (hk : k < 2 ^ 31) : ¬ nI k ≤ x := by
  intro z
  rw [Int32.lt_iff_toInt_lt] at h
  rw [Int32.le_iff_toInt_le, nI_toInt hk] at z
  have h0 : (0 : Int32).toInt = 0 := by decide
  omega
def tp_pg (S : tp_S) (t z : Nat) (o : Nat → Nat → Int32) : tp_S := (S.1, tp_u S.2.1 t z, (fun s => if s = t then o else S.2.2.1 s), S.2.2.2)
def tp_fv (S : tp_S) (t j x : Nat) : tp_S := (S.1, S.2.1, S.2.2.1, tw_up S.2.2.2 t j x)
def tp_st (S : tp_S) (j x : Nat) : tp_S := (tp_u S.1 j x, S.2)
theorem tp_pg_ok {S : tp_S} {t z : Nat} {o : Nat → Nat → Int32} (h : pSok S) (hz : z ≤ 12) (ho : ∀ k, k < z → pOrd (o k)) : pSok (tp_pg S t z o) := by
  refine ⟨h.1, h.2.1, h.2.2.1, fun s hs => ?_⟩
  obtain ⟨h1, h2, h3⟩ := h.2.2.2 s hs
  unfold tp_pg tp_u
  dsimp only
  by_cases e : s = t
  · rw [if_pos e, if_pos e]; exact ⟨hz, ho, h3⟩
  · rw [if_neg e, if_neg e]; exact ⟨h1, h2, h3⟩
theorem tp_fv_ok {S : tp_S} {t j x : Nat} (h : pSok S) (hx : x < 1000) : pSok (tp_fv S t j x) := by
  refine ⟨h.1, h.2.1, h.2.2.1, fun s hs => ?_⟩
  obtain ⟨h1, h2, h3⟩ := h.2.2.2 s hs
  refine ⟨h1, h2, fun i hi => ?_⟩
  unfold tp_fv tw_up
  dsimp only
  split
  · exact hx
  · exact h3 i hi
section TPCH
variable {n : Nat} {sh : tw_Sh} {P P' : Nat → Nat → Option Nat} {I J : Nat → Nat → Int32} {a b m sw sw' t z j x : Nat} {C : tp_C} {S : tp_S} {o : Nat → Nat → Int32}
theorem pStI.set (h : pStI I a sw S) : pStI (tw_up I (a + 1) j (nI x)) a sw (tp_st S j x) := by
  refine ⟨fun i hi => ?_, fun t ht => ?_⟩
  · unfold tp_st tp_u
    dsimp only
    by_cases e : i = j
    · rw [if_pos e, e, tw_up_at]
    · rw [if_neg e, tw_up_k e]; exact h.1 i hi
  · obtain ⟨h1, h2, h3⟩ := h.2 t ht
    exact ⟨by rw [tw_up_a (by unfold pPg; omega)]; exact h1, fun k hk c hc => by rw [tw_up_a (by unfold pPg; omega)]; exact h2 k hk c hc, fun i hi => by rw [tw_up_a (by unfold pFv; omega)]; exact h3 i hi⟩
theorem pMS.set (h : pMS I a 0 S) (hj : j < 3) : pMS (tw_up I a j (nI x)) a 0 (tp_st S j x) := by
  refine ⟨fun i hi => ?_, fun t ht => ?_⟩
  · unfold tp_st tp_u
    dsimp only
    by_cases e : i = j
    · rw [if_pos e, e, Nat.zero_add, tw_up_at]
    · rw [if_neg e, tw_up_k (by omega)]; exact h.1 i hi
  · obtain ⟨h1, h2, h3⟩ := h.2 t ht
    exact ⟨by rw [tw_up_k (by omega)]; exact h1, fun k hk c hc => by rw [tw_up_k (by omega)]; exact h2 k hk c hc, fun i hi => by rw [tw_up_k (by omega)]; exact h3 i hi⟩
theorem pStI.fv (h : pStI I a sw S) (ht : t < 2) : pStI (tw_up I (pFv a sw t) j (nI x)) a sw (tp_fv S t j x) := by
  refine ⟨fun i hi => by rw [tw_up_a (by unfold pFv; omega)]; exact h.1 i hi, fun s hs => ?_⟩
  obtain ⟨h1, h2, h3⟩ := h.2 s hs
  refine ⟨by rw [tw_up_a (by unfold pPg pFv; omega)]; exact h1, fun k hk c hc => by rw [tw_up_a (by unfold pPg pFv; omega)]; exact h2 k hk c hc, fun i hi => ?_⟩
  unfold tp_fv
  dsimp only
  by_cases e : s = t
  · by_cases e2 : i = j
    · rw [e, e2, tw_up_at, tw_up_at]
    · rw [tw_up_k e2, tw_up_k e2]; exact h3 i hi
  · rw [tw_up_a (by unfold pFv; omega), tw_up_a e]; exact h3 i hi
theorem pMS.fv (h : pMS I a 0 S) (hz : ∀ t, t < 2 → S.2.1 t ≤ 12) (ht : t < 2) (hj : j < 12) : pMS (tw_up I a (10 + 100 * t + 70 + j) (nI x)) a 0 (tp_fv S t j x) := by
  refine ⟨fun i hi => by rw [tw_up_k (by omega)]; exact h.1 i hi, fun s hs => ?_⟩
  obtain ⟨h1, h2, h3⟩ := h.2 s hs
  have hzs := hz s hs
  refine ⟨by rw [tw_up_k (by omega)]; exact h1, fun k hk c hc => ?_, fun i hi => ?_⟩
  · have hk' : k < S.2.1 s := hk
    rw [tw_up_k (by omega)]; exact h2 k hk c hc
  · unfold tp_fv
    dsimp only
    by_cases e : s = t
    · by_cases e2 : i = j
      · rw [e, e2, Nat.zero_add, tw_up_at, tw_up_at]
      · rw [tw_up_k (show 0 + (10 + 100 * s + 70 + i) ≠ 10 + 100 * t + 70 + j by omega), tw_up_k e2]; exact h3 i hi
    · rw [tw_up_k (show 0 + (10 + 100 * s + 70 + i) ≠ 10 + 100 * t + 70 + j by omega), tw_up_a e]; exact h3 i hi
theorem pStI.pg (h : pStI I a sw S) (ht : t < 2) (h0 : J (pPg a sw t) 0 = nI z) (h1 : ∀ k, k < z → ∀ c, c < 5 → J (pPg a sw t + 1) (k * 5 + c) = o k c) (f : ∀ c, a ≤ c → c < a + 10 → c ≠ pPg a sw t → c ≠ pPg a sw t + 1 → J c = I c) : pStI J a sw (tp_pg S t z o) := by
  refine ⟨fun i hi => by rw [f _ (by omega) (by omega) (by unfold pPg; omega) (by unfold pPg; omega)]; exact h.1 i hi, fun s hs => ?_⟩
  obtain ⟨g1, g2, g3⟩ := h.2 s hs
  refine ⟨?_, fun k hk c hc => ?_, fun i hi => by rw [f _ (by unfold pFv; omega) (by unfold pFv; omega) (by unfold pPg pFv; omega) (by unfold pPg pFv; omega)]; exact g3 i hi⟩
  · unfold tp_pg tp_u
    dsimp only
    by_cases e : s = t
    · rw [if_pos e, e]; exact h0
    · rw [if_neg e, f _ (by unfold pPg; omega) (by unfold pPg; omega) (by unfold pPg; omega) (by unfold pPg; omega)]; exact g1
  · unfold tp_pg tp_u at hk ⊢
    dsimp only at hk ⊢
    by_cases e : s = t
    · rw [if_pos e] at hk ⊢
      rw [e]; exact h1 k hk c hc
    · rw [if_neg e] at hk ⊢
      rw [f _ (by unfold pPg; omega) (by unfold pPg; omega) (by unfold pPg; omega) (by unfold pPg; omega)]; exact g2 k hk c hc
theorem pMS.pg (h : pMS I a 0 S) (hz : ∀ t, t < 2 → S.2.1 t ≤ 12) (ht : t < 2) (h12 : z ≤ 12) (h0 : J a (10 + 100 * t) = nI z) (h1 : ∀ k, k < z → ∀ c, c < 5 → J a (10 + 100 * t + 1 + 5 * k + c) = o k c) (f : ∀ q, (q < 10 + 100 * t ∨ 10 + 100 * t + 61 ≤ q) → J a q = I a q) : pMS J a 0 (tp_pg S t z o) := by
  refine ⟨fun i hi => by rw [f _ (by omega)]; exact h.1 i hi, fun s hs => ?_⟩
  obtain ⟨g1, g2, g3⟩ := h.2 s hs
  have hzs := hz s hs
  refine ⟨?_, fun k hk c hc => ?_, fun i hi => by rw [f _ (by omega)]; exact g3 i hi⟩
  · unfold tp_pg tp_u
    dsimp only
    by_cases e : s = t
    · rw [if_pos e, e, Nat.zero_add]; exact h0
    · rw [if_neg e, f _ (by omega)]; exact g1
  · unfold tp_pg tp_u at hk ⊢
    dsimp only at hk ⊢
    by_cases e : s = t
    · rw [if_pos e] at hk ⊢
      rw [e, Nat.zero_add]; exact h1 k hk c hc
    · rw [if_neg e] at hk ⊢
      rw [f _ (by omega)]; exact g2 k hk c hc
theorem q_recC (hm : pMo sh P m) (hok : pOk C) (hM : pMc I m C) : ∃ J, fX8_record (n, sh, P, I) m = some (n, sh, P, J) ∧ pMH J m (tp_rec C.2.1 C.1) ∧ (∀ c, c ≠ m → c ≠ m + 2 → J c = I c) ∧ ∀ k, k ≠ 2 → J m k = I m k :=
  q_record hm (fun t ht => (hok.1.2.2.2 t ht).1) (fun i hi t ht => ((hok.2.1.2 i hi).2.2.2 t ht).1) hM.1 hM.2.1
theorem pMc.chg {H : tp_H} (h : pMc I m C) (hH : pMH J m H) (hS : pMS J (m + 1) 0 S) (f : ∀ c, c ≠ m → c ≠ m + 1 → c ≠ m + 2 → m ≤ c → c < m + 7 → J c = I c) (g : J m 6 = I m 6) : pMc J m (S, H, C.2.2) := by
  obtain ⟨m1, m2, m3, m4, m5⟩ := h
  exact ⟨hS, hH, fun i hi => ⟨by rw [f _ (by omega) (by omega) (by omega) (by omega) (by omega)]; exact (m3 i hi).1, fun z => ((m3 i hi).2 z).keep (f _ (by omega) (by omega) (by omega) (by omega) (by omega))⟩, fun j hj => by rw [f _ (by omega) (by omega) (by omega) (by omega) (by omega)]; exact m4 j hj, g.trans m5⟩
theorem pV.chg (hok : pOk C) (hS : pSok S) (hl : pCl sh P b sw) (hm : pMo sh P (b + 160)) (hI3 : pCI I b sw (S, tp_rec C.2.1 C.1, C.2.2)) (hM4 : pMc J (b + 160) (S, tp_rec C.2.1 C.1, C.2.2)) (f : ∀ c, c < b + 160 → J c = I c) : pV b (n, sh, P, J) := ⟨tp_cS C S, sw, hok.rec hS, hl, hm, hI3.kept f, hM4⟩
end TPCH
