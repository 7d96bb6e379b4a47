/-! A thread's path: its steps in their order, alone. -/
def tp_pn (o : Nat → Nat → Int32) (v : Nat → Nat) : Nat → Nat × (Nat → Nat)
  | 0 => (0, v)
  | j + 1 => tp_step o (tp_pn o v j).2 (tp_pn o v j).1
def pK (z : Nat) (o : Nat → Nat → Int32) (v : Nat → Nat) (K : Nat) : Prop := K ≤ 100 ∧ (∀ j, j < K → (tp_pn o v j).1 < z) ∧ (K < 100 → z ≤ (tp_pn o v K).1)
theorem pK.one {z : Nat} {o : Nat → Nat → Int32} {v : Nat → Nat} {K K' : Nat} (h : pK z o v K) (h' : pK z o v K') : K = K' := by
  rcases Nat.lt_trichotomy K K' with e | e | e
  · have := h'.2.1 K e
    have h1 := h.2.2 (by have := h'.1; omega)
    omega
  · exact e
  · have := h.2.1 K' e
    have h1 := h'.2.2 (by have := h.1; omega)
    omega
theorem tp_pn_ok {z : Nat} {o : Nat → Nat → Int32} {v : Nat → Nat} (hz : z ≤ 12) (ho : ∀ k, k < z → pOrd (o k)) (hv : ∀ j, j < 12 → v j < 1000) : ∀ j, (∀ i, i < j → (tp_pn o v i).1 < z) → (tp_pn o v j).1 < 101 ∧ ∀ i, i < 12 → (tp_pn o v j).2 i < 1000
  | 0, _ => ⟨by show 0 < 101; omega, hv⟩
  | j + 1, h => by
    have h1 := tp_pn_ok hz ho hv j (fun i hi => h i (by omega))
    have h2 := h j (by omega)
    exact tp_step_ok (ho _ h2) (by omega) h1.2
def tp_same (v w : Nat → Nat) : Bool := (List.range 12).all (fun j => decide (v j = w j))
theorem tp_same_iff {v w : Nat → Nat} : tp_same v w = true ↔ ∀ j, j < 12 → v j = w j := by
  simp [tp_same]
section TPF
variable {n : Nat} {sh : tw_Sh} {P : Nat → Nat → Option Nat} {I : Nat → Nat → Int32} {a b p f z : Nat} {v w : Nat → Nat} {o : Nat → Nat → Int32}
theorem p_follow (h : pPa sh P a) (hp : pPr sh P p) (hf : sh f = some (20, 12)) (hpd : p + 2 ≤ a ∨ a + 3 ≤ p) (hfd : f < a ∨ a + 3 ≤ f) (hz : I p 0 = nI z) (h12 : z ≤ 12) (hc : ∀ k, k < z → ∀ c, c < 5 → I (p + 1) (k * 5 + c) = o k c) (ho : ∀ k, k < z → pOrd (o k)) (hv : ∀ j, j < 12 → I f j = nI (v j)) (hv2 : ∀ j, j < 12 → v j < 1000) :
    ∃ I' K, fX2_follow (n, sh, P, I) a p f = some (n, sh, P, I') ∧ pK z o v K ∧ I' a 0 = nI K ∧ I' a 1 = nI (if (tp_pn o v K).1 < z then 1 else 0) ∧ (∀ j, j < K → I' (a + 1) j = nI (tp_pn o v j).1) ∧ (∀ j, j < 12 → I' (a + 2) j = nI ((tp_pn o v K).2 j)) ∧ ∀ c, (c < a ∨ a + 3 ≤ c) → I' c = I c := by
  have hq := h
  have hp' := hp
  obtain ⟨g1, g2, g3, g4, g5⟩ := h
  obtain ⟨p1, p2, p3⟩ := hp
  have key := tp_it (S := (Nat → Nat → Int32) × Nat) (fun _ _ _ _ => none) fX2_follow_h19 (fun f s => f (n, sh, P, s.1) a p (nI (tp_pn o v s.2).1))
    (fun s => s.2 ≤ 100 ∧ s.1 a 0 = nI s.2 ∧ (∀ i, i < s.2 → (tp_pn o v i).1 < z ∧ s.1 (a + 1) i = nI (tp_pn o v i).1) ∧ (∀ j, j < 12 → s.1 (a + 2) j = nI ((tp_pn o v s.2).2 j)) ∧ ∀ c, (c < a ∨ a + 3 ≤ c) → s.1 c = I c)
    (fun s => 100 - s.2)
    (fun s r => ∃ I' K, r = some (n, sh, P, I') ∧ pK z o v K ∧ I' a 0 = nI K ∧ I' a 1 = nI (if (tp_pn o v K).1 < z then 1 else 0) ∧ (∀ j, j < K → I' (a + 1) j = nI (tp_pn o v j).1) ∧ (∀ j, j < 12 → I' (a + 2) j = nI ((tp_pn o v K).2 j)) ∧ ∀ c, (c < a ∨ a + 3 ≤ c) → I' c = I c)
    (by
      rintro k ⟨J, j⟩ ⟨i1, i2, i3, i4, i5⟩ ih
      dsimp only at i1 i2 i3 i4 i5 ih ⊢
      have hb := tp_pn_ok h12 ho hv2 j (fun i hi => (i3 i hi).1)
      have jz : J p 0 = nI z := by rw [i5 p (by omega)]; exact hz
      have jc : ∀ k, k < z → ∀ c, c < 5 → J (p + 1) (k * 5 + c) = o k c := fun k hk c hc' => by rw [i5 (p + 1) (by omega)]; exact hc k hk c hc'
      have fin : pK z o v j → ∃ I' K, fX2_follow_b66 (n, sh, P, J) a p (nI (tp_pn o v j).1) = some (n, sh, P, I') ∧ pK z o v K ∧ I' a 0 = nI K ∧ I' a 1 = nI (if (tp_pn o v K).1 < z then 1 else 0) ∧ (∀ j, j < K → I' (a + 1) j = nI (tp_pn o v j).1) ∧ (∀ j, j < 12 → I' (a + 2) j = nI ((tp_pn o v K).2 j)) ∧ ∀ c, (c < a ∨ a + 3 ≤ c) → I' c = I c := by
        intro hK
        refine ⟨tw_up J a 1 (nI (if (tp_pn o v j).1 < z then 1 else 0)), j, ?_, hK, ?_, tw_up_at, fun i hi => ?_, fun i hi => ?_, fun c hc' => ?_⟩
        · unfold fX2_follow_b66 fX2_follow_b80
          by_cases e : z ≤ (tp_pn o v j).1
          · simp (disch := omega) only [e_gI p1, jz, e_pI g1, tp_lit, nI_add, pk_mul, nI_ltI, nI_leI, nI_eq, nI_clamp, tp_nn, pk_sub, tp_m6, tp_m6n, if_pos, if_neg, Option.bind_some, Option.map_some, tw_bz]
            rfl
          · simp (disch := omega) only [e_gI p1, jz, e_pI g1, tp_lit, nI_add, pk_mul, nI_ltI, nI_leI, nI_eq, nI_clamp, tp_nn, pk_sub, tp_m6, tp_m6n, if_pos, if_neg, Option.bind_some, Option.map_some, tw_bz]
            rfl
        · rw [tw_up_k (by decide)]; exact i2
        · rw [tw_up_a (by omega)]; exact (i3 i hi).2
        · rw [tw_up_a (by omega)]; exact i4 i hi
        · rw [tw_up_a (by omega)]; exact i5 c hc'
      unfold fX2_follow_h19
      by_cases e1 : 100 ≤ j
      · simp (disch := omega) only [e_gI g1, i2, tp_lit, nI_add, pk_mul, nI_ltI, nI_leI, nI_eq, nI_clamp, tp_nn, pk_sub, tp_m6, tp_m6n, if_pos, if_neg, Option.bind_some, Option.map_some]
        exact fin ⟨i1, fun i hi => (i3 i hi).1, fun hlt => absurd hlt (by omega)⟩
      · by_cases e2 : z ≤ (tp_pn o v j).1
        · simp (disch := omega) only [e_gI g1, e_gI p1, jz, i2, tp_lit, nI_add, pk_mul, nI_ltI, nI_leI, nI_eq, nI_clamp, tp_nn, pk_sub, tp_m6, tp_m6n, if_pos, if_neg, Option.bind_some, Option.map_some]
          exact fin ⟨i1, fun i hi => (i3 i hi).1, fun _ => e2⟩
        · have s1 : (tw_up (tw_up J (a + 1) j (nI (tp_pn o v j).1)) a 0 (nI (j + 1))) p 0 = nI z := by rw [tw_up_a (by omega), tw_up_a (by omega)]; exact jz
          have s2 : ∀ c, c < 5 → (tw_up (tw_up J (a + 1) j (nI (tp_pn o v j).1)) a 0 (nI (j + 1))) (p + 1) ((tp_pn o v j).1 * 5 + c) = o (tp_pn o v j).1 c := fun c hc' => by rw [tw_up_a (by omega), tw_up_a (by omega)]; exact jc _ (by omega) c hc'
          have s3 : ∀ i, i < 12 → (tw_up (tw_up J (a + 1) j (nI (tp_pn o v j).1)) a 0 (nI (j + 1))) (a + 2) i = nI ((tp_pn o v j).2 i) := fun i hi => by rw [tw_up_a (by omega), tw_up_a (by omega)]; exact i4 i hi
          obtain ⟨J', t1, t2, t3⟩ := p_stepOver (n := n) hq hp' s1 h12 (by omega) s2 (ho _ (by omega)) s3 hb.2
          simp (disch := omega) only [e_gI g1, e_gI p1, e_gP g1, g2, jz, i2, e_wI g4, tw_up_a, e_pI g1, tp_lit, nI_add, pk_mul, nI_ltI, nI_leI, nI_eq, nI_clamp, tp_nn, pk_sub, tp_m6, tp_m6n, if_pos, if_neg, Option.bind_some, Option.map_some]
          rw [t1, Option.bind_some]
          refine ih (J', j + 1) ⟨by dsimp only; omega, ?_, fun i hi => ?_, t2, fun c hc' => ?_⟩ (by dsimp only; omega)
          · dsimp only; rw [t3 a (by omega), tw_up_at]
          · dsimp only at hi ⊢
            rw [t3 (a + 1) (by omega), tw_up_a (by omega)]
            by_cases e : i = j
            · subst e; rw [tw_up_at]; exact ⟨by omega, rfl⟩
            · rw [tw_up_k e]; exact i3 i (by omega)
          · dsimp only
            rw [t3 c (by omega), tw_up_a (by omega), tw_up_a (by omega)]; exact i5 c hc')
  unfold fX2_follow
  simp (disch := omega) only [e_is g1, e_gP g1, g3, tp_lit, e_cp hf g5, e_pI g1, Option.bind_some]
  exact key tw_F (tw_up (tp_cp I f (a + 2) 12) a 0 (nI 0), 0) ⟨Nat.zero_le _, tw_up_at, fun i hi => absurd hi (Nat.not_lt_zero i), fun j hj => by dsimp only; rw [tw_up_a (by omega), tp_cp_in hj]; exact hv j hj, fun c hc' => by dsimp only; rw [tw_up_a (by omega), tp_cp_a (by omega)]⟩ (tw_F_big (by dsimp only; omega))
theorem p_same (h : pPa sh P a) (h' : pPa sh P b) (hv : ∀ j, j < 12 → I (a + 2) j = nI (v j)) (hw : ∀ j, j < 12 → I (b + 2) j = nI (w j)) (hv2 : ∀ j, j < 12 → v j < 1000) (hw2 : ∀ j, j < 12 → w j < 1000) : fX2_sameValues (n, sh, P, I) a b = some (nI (if tp_same v w = true then 1 else 0)) := by
  obtain ⟨g1, g2, g3, g4, g5⟩ := h
  obtain ⟨k1, k2, k3, k4, k5⟩ := h'
  unfold fX2_sameValues
  rw [e_is g1, Option.bind_some]
  exact tp_it (S := Nat) (fun _ _ _ _ => none) fX2_sameValues_h2 (fun f s => f (n, sh, P, I) a b (nI s)) (fun s => s ≤ 12 ∧ ∀ j, j < s → v j = w j) (fun s => 12 - s) (fun s r => r = some (nI (if tp_same v w = true then 1 else 0)))
    (by
      rintro k s ⟨i1, i2⟩ ih
      unfold fX2_sameValues_h2
      by_cases e : 12 ≤ s
      · simp (disch := omega) only [tp_lit, nI_add, pk_mul, nI_ltI, nI_leI, nI_eq, nI_clamp, tp_nn, pk_sub, tp_m6, tp_m6n, if_pos]
        rw [if_pos (tp_same_iff.mpr (fun j hj => i2 j (by omega)))]
      · have q1 := hv s (by omega)
        have q2 := hw s (by omega)
        have q3 := hv2 s (by omega)
        have q4 := hw2 s (by omega)
        simp (disch := omega) only [e_gP g1, e_gP k1, g3, k3, e_aI g5, e_aI k5, q1, q2, tp_lit, nI_add, pk_mul, nI_ltI, nI_leI, nI_eq, nI_clamp, tp_nn, pk_sub, tp_m6, tp_m6n, if_pos, if_neg, Option.bind_some, Option.map_some]
        by_cases e2 : v s = w s
        · rw [if_pos e2]
          exact ih (s + 1) ⟨by omega, fun j hj => by
            by_cases e3 : j = s
            · rw [e3]; exact e2
            · exact i2 j (by omega)⟩ (by omega)
        · rw [if_neg e2, if_neg (fun hall => e2 (tp_same_iff.mp hall s (by omega)))]) tw_F 0 ⟨by decide, fun j hj => absurd hj (Nat.not_lt_zero j)⟩ (tw_F_big (by decide))
end TPF
