/-! The reference's rows copied: exchange, undo, save, restore. -/
section TPLO
variable {n : Nat} {sh : tw_Sh} {P P' : Nat → Nat → Option Nat} {I J : Nat → Nat → Int32} {a b m s sw t u i : Nat} {C : tp_C} {S : tp_S}
theorem tw_bz1 : tw_bz 1 = some 1 := by
  unfold tw_bz
  rw [if_pos (Or.inr rfl)]
theorem q_exchLoop (hm : pMo sh P m) : ∃ J, fX8_exchange_l7 tw_F (n, sh, P, I) m (nI 10) = fX8_exchange_b51 (n, sh, P, J) m ∧ (∀ j, j < 100 → J (m + 1) (10 + j) = I (m + 1) (110 + j) ∧ J (m + 1) (110 + j) = I (m + 1) (10 + j)) ∧ (∀ j, j < 10 → J (m + 1) j = I (m + 1) j) ∧ ∀ c, c ≠ m + 1 → J c = I c := by
  exact tp_it (S := (Nat → Nat → Int32) × Nat) (fun _ _ _ => none) fX8_exchange_h7 (fun f s => f (n, sh, P, s.1) m (nI (10 + s.2)))
    (fun s => s.2 ≤ 100 ∧ (∀ j, j < s.2 → s.1 (m + 1) (10 + j) = I (m + 1) (110 + j) ∧ s.1 (m + 1) (110 + j) = I (m + 1) (10 + j)) ∧ (∀ j, s.2 ≤ j → j < 100 → s.1 (m + 1) (10 + j) = I (m + 1) (10 + j) ∧ s.1 (m + 1) (110 + j) = I (m + 1) (110 + j)) ∧ (∀ j, j < 10 → s.1 (m + 1) j = I (m + 1) j) ∧ ∀ c, c ≠ m + 1 → s.1 c = I c) (fun s => 100 - s.2)
    (fun _ r => ∃ J, r = fX8_exchange_b51 (n, sh, P, J) m ∧ (∀ j, j < 100 → J (m + 1) (10 + j) = I (m + 1) (110 + j) ∧ J (m + 1) (110 + j) = I (m + 1) (10 + j)) ∧ (∀ j, j < 10 → J (m + 1) j = I (m + 1) j) ∧ ∀ c, c ≠ m + 1 → J c = I c)
    (by
      rintro f ⟨J, k⟩ ⟨i1, i2, i3, i4, i5⟩ ih
      dsimp only at i1 i2 i3 i4 i5 ih ⊢
      unfold fX8_exchange_h7
      by_cases e : 100 ≤ k
      · rw [if_pos (show (110 : Int32) ≤ nI (10 + k) from nI_le (show 110 ≤ 10 + k by omega) (by omega))]
        exact ⟨J, rfl, fun j hj => i2 j (by omega), i4, i5⟩
      · rw [if_neg (show ¬ (110 : Int32) ≤ nI (10 + k) from nI_ge (show 10 + k < 110 by omega) (by decide)), q_P0 hm, Option.bind_some, q_a1 hm (by omega), Option.bind_some, Option.bind_some, Option.bind_some, show (100 : Int32) = nI 100 from rfl, tp_1, nI_add, nI_add, q_a1 hm (by omega), Option.bind_some, q_w1 hm (by omega), Option.bind_some, q_P0 hm, Option.bind_some, q_w1 hm (by omega), Option.bind_some]
        refine ih (tw_up (tw_up J (m + 1) (10 + k) (J (m + 1) (10 + k + 100))) (m + 1) (10 + k + 100) (J (m + 1) (10 + k)), k + 1) ⟨by dsimp only; omega, fun j hj => ?_, fun j h1 h2 => ?_, fun j hj => ?_, fun c hc => ?_⟩ (by dsimp only; omega)
        · dsimp only at hj ⊢
          by_cases e2 : j = k
          · obtain ⟨g1, g2⟩ := i3 k (Nat.le_refl _) (by omega)
            rw [e2]
            refine ⟨?_, ?_⟩
            · rw [tw_up_k (by omega), tw_up_at, show 10 + k + 100 = 110 + k by omega]; exact g2
            · rw [show 10 + k + 100 = 110 + k by omega, tw_up_at]; exact g1
          · obtain ⟨g1, g2⟩ := i2 j (by omega)
            rw [tw_up_k (by omega), tw_up_k (by omega), tw_up_k (by omega), tw_up_k (by omega)]
            exact ⟨g1, g2⟩
        · dsimp only at h1 ⊢
          obtain ⟨g1, g2⟩ := i3 j (by omega) h2
          rw [tw_up_k (by omega), tw_up_k (by omega), tw_up_k (by omega), tw_up_k (by omega)]
          exact ⟨g1, g2⟩
        · dsimp only
          rw [tw_up_k (by omega), tw_up_k (by omega)]; exact i4 j hj
        · dsimp only
          rw [tw_up_a hc, tw_up_a hc]; exact i5 c hc) tw_F (I, 0) ⟨Nat.zero_le _, fun j hj => absurd hj (Nat.not_lt_zero j), fun _ _ _ => ⟨rfl, rfl⟩, fun _ _ => rfl, fun _ _ => rfl⟩ (tw_F_big (by dsimp only; omega))
theorem pMS.xS (h : pMS I a 0 S) (hz : ∀ t, t < 2 → S.2.1 t ≤ 12) (hx : ∀ j, j < 100 → J a (10 + j) = I a (110 + j) ∧ J a (110 + j) = I a (10 + j)) (hy : ∀ j, j < 10 → J a j = I a j) : pMS J a 0 (tp_xS S) := by
  refine ⟨fun j hj => by rw [hy _ (by omega)]; exact h.1 j hj, fun t ht => ?_⟩
  obtain ⟨h1, h2, h3⟩ := h.2 (1 - t) (by omega)
  have hz' := hz (1 - t) (by omega)
  have hc : ∀ q, q < 100 → J a (0 + (10 + 100 * t + q)) = I a (0 + (10 + 100 * (1 - t) + q)) := by
    intro q hq
    obtain ⟨x1, x2⟩ := hx q hq
    rcases (show t = 0 ∨ t = 1 by omega) with rfl | rfl
    · rw [show 0 + (10 + 100 * 0 + q) = 10 + q by omega, x1]; congr 1; omega
    · rw [show 0 + (10 + 100 * 1 + q) = 110 + q by omega, x2]; congr 1; omega
  refine ⟨?_, fun k hk c hc' => ?_, fun j hj => ?_⟩
  · have := hc 0 (by decide)
    rw [Nat.add_zero, Nat.add_zero] at this
    rw [this]; exact h1
  · have hk' : k < S.2.1 (1 - t) := hk
    have := hc (1 + 5 * k + c) (by omega)
    rw [show 10 + 100 * t + (1 + 5 * k + c) = 10 + 100 * t + 1 + 5 * k + c by omega, show 10 + 100 * (1 - t) + (1 + 5 * k + c) = 10 + 100 * (1 - t) + 1 + 5 * k + c by omega] at this
    rw [this]; exact h2 k hk' c hc'
  · have := hc (70 + j) (by omega)
    rw [show 10 + 100 * t + (70 + j) = 10 + 100 * t + 70 + j by omega, show 10 + 100 * (1 - t) + (70 + j) = 10 + 100 * (1 - t) + 70 + j by omega] at this
    rw [this]; exact h3 j hj
theorem q_undoLoop (hm : pMo sh P m) (hu : u < 6) (h2 : I m 2 = nI u) : ∃ J, fX8_undo_l22 tw_F (n, sh, P, I) m (nI 0) = some (nI u, (n, sh, P, J)) ∧ (∀ k, k < 210 → J (m + 1) k = I (m + 2) (210 * u + k)) ∧ ∀ c, c ≠ m + 1 → J c = I c := by
  exact tp_it (S := (Nat → Nat → Int32) × Nat) (fun _ _ _ => none) fX8_undo_h22 (fun f s => f (n, sh, P, s.1) m (nI s.2))
    (fun s => s.2 ≤ 210 ∧ (∀ k, k < s.2 → s.1 (m + 1) k = I (m + 2) (210 * u + k)) ∧ ∀ c, c ≠ m + 1 → s.1 c = I c) (fun s => 210 - s.2)
    (fun _ r => ∃ J, r = some (nI u, (n, sh, P, J)) ∧ (∀ k, k < 210 → J (m + 1) k = I (m + 2) (210 * u + k)) ∧ ∀ c, c ≠ m + 1 → J c = I c)
    (by
      rintro f ⟨J, k⟩ ⟨i1, i2, i3⟩ ih
      dsimp only at i1 i2 i3 ih ⊢
      have e2 : J m 2 = nI u := by rw [i3 _ (by omega)]; exact h2
      unfold fX8_undo_h22
      by_cases e : 210 ≤ k
      · rw [if_pos (show (210 : Int32) ≤ nI k from nI_le e (by omega))]
        unfold fX8_undo_b56
        rw [q_gI hm, Option.bind_some, e2]
        exact ⟨J, rfl, fun j hj => i2 j (by omega), i3⟩
      · rw [if_neg (show ¬ (210 : Int32) ≤ nI k from nI_ge (show k < 210 by omega) (by decide)), q_P0 hm, Option.bind_some, q_P1 hm, Option.bind_some, q_gI hm, Option.bind_some, e2, show (210 : Int32) = nI 210 from rfl, tp_1, pk_mul, nI_add, nI_add, q_a2 hm (by omega), Option.bind_some, q_w1 hm (by omega), Option.bind_some]
        refine ih (tw_up J (m + 1) k (J (m + 2) (u * 210 + k)), k + 1) ⟨by dsimp only; omega, fun j hj => ?_, fun c hc => ?_⟩ (by dsimp only; omega)
        · dsimp only at hj ⊢
          by_cases e3 : j = k
          · rw [e3, tw_up_at, i3 _ (by omega)]; congr 1; omega
          · rw [tw_up_k e3]; exact i2 j (by omega)
        · dsimp only
          rw [tw_up_a hc]; exact i3 c hc) tw_F (I, 0) ⟨Nat.zero_le _, fun j hj => absurd hj (Nat.not_lt_zero j), fun _ _ => rfl⟩ (tw_F_big (by dsimp only; omega))
theorem q_restLoop (hm : pMo sh P m) (hi : i < 2) : ∃ J, fX8_restore_l30 tw_F (n, sh, P, I) m (nI i) (nI 0) = fX8_restore_b61 (n, sh, P, J) m ∧ (∀ k, k < 210 → J (m + 1) k = I (m + 3) (210 * i + k)) ∧ ∀ c, c ≠ m + 1 → J c = I c := by
  exact tp_it (S := (Nat → Nat → Int32) × Nat) (fun _ _ _ _ => none) fX8_restore_h30 (fun f s => f (n, sh, P, s.1) m (nI i) (nI s.2))
    (fun s => s.2 ≤ 210 ∧ (∀ k, k < s.2 → s.1 (m + 1) k = I (m + 3) (210 * i + k)) ∧ ∀ c, c ≠ m + 1 → s.1 c = I c) (fun s => 210 - s.2)
    (fun _ r => ∃ J, r = fX8_restore_b61 (n, sh, P, J) m ∧ (∀ k, k < 210 → J (m + 1) k = I (m + 3) (210 * i + k)) ∧ ∀ c, c ≠ m + 1 → J c = I c)
    (by
      rintro f ⟨J, k⟩ ⟨i1, i2, i3⟩ ih
      dsimp only at i1 i2 i3 ih ⊢
      unfold fX8_restore_h30
      by_cases e : 210 ≤ k
      · rw [if_pos (show (210 : Int32) ≤ nI k from nI_le e (by omega))]
        exact ⟨J, rfl, fun j hj => i2 j (by omega), i3⟩
      · rw [if_neg (show ¬ (210 : Int32) ≤ nI k from nI_ge (show k < 210 by omega) (by decide)), q_P0 hm, Option.bind_some, q_P3 hm, Option.bind_some, show (210 : Int32) = nI 210 from rfl, tp_1, pk_mul, nI_add, nI_add, q_a3 hm (by omega), Option.bind_some, q_w1 hm (by omega), Option.bind_some]
        refine ih (tw_up J (m + 1) k (J (m + 3) (i * 210 + k)), k + 1) ⟨by dsimp only; omega, fun j hj => ?_, fun c hc => ?_⟩ (by dsimp only; omega)
        · dsimp only at hj ⊢
          by_cases e3 : j = k
          · rw [e3, tw_up_at, i3 _ (by omega)]; congr 1; omega
          · rw [tw_up_k e3]; exact i2 j (by omega)
        · dsimp only
          rw [tw_up_a hc]; exact i3 c hc) tw_F (I, 0) ⟨Nat.zero_le _, fun j hj => absurd hj (Nat.not_lt_zero j), fun _ _ => rfl⟩ (tw_F_big (by dsimp only; omega))
theorem q_saveLoop (hm : pMo sh P m) (hi : i < 2) : ∃ J, fX8_save_l14 tw_F (n, sh, P, I) m (nI i) (nI 0) = fX8_save_b45 (n, sh, P, J) m (nI i) ∧ (∀ k, k < 210 → J (m + 3) (210 * i + k) = I (m + 1) k) ∧ (∀ k, (k < 210 * i ∨ 210 * i + 210 ≤ k) → J (m + 3) k = I (m + 3) k) ∧ ∀ c, c ≠ m + 3 → J c = I c := by
  exact tp_it (S := (Nat → Nat → Int32) × Nat) (fun _ _ _ _ => none) fX8_save_h14 (fun f s => f (n, sh, P, s.1) m (nI i) (nI s.2))
    (fun s => s.2 ≤ 210 ∧ (∀ k, k < s.2 → s.1 (m + 3) (210 * i + k) = I (m + 1) k) ∧ (∀ k, (k < 210 * i ∨ 210 * i + 210 ≤ k) → s.1 (m + 3) k = I (m + 3) k) ∧ ∀ c, c ≠ m + 3 → s.1 c = I c) (fun s => 210 - s.2)
    (fun _ r => ∃ J, r = fX8_save_b45 (n, sh, P, J) m (nI i) ∧ (∀ k, k < 210 → J (m + 3) (210 * i + k) = I (m + 1) k) ∧ (∀ k, (k < 210 * i ∨ 210 * i + 210 ≤ k) → J (m + 3) k = I (m + 3) k) ∧ ∀ c, c ≠ m + 3 → J c = I c)
    (by
      rintro f ⟨J, k⟩ ⟨i1, i2, i4, i3⟩ ih
      dsimp only at i1 i2 i3 i4 ih ⊢
      unfold fX8_save_h14
      by_cases e : 210 ≤ k
      · rw [if_pos (show (210 : Int32) ≤ nI k from nI_le e (by omega))]
        exact ⟨J, rfl, fun j hj => i2 j (by omega), i4, i3⟩
      · rw [if_neg (show ¬ (210 : Int32) ≤ nI k from nI_ge (show k < 210 by omega) (by decide)), q_P3 hm, Option.bind_some, q_P0 hm, Option.bind_some, q_a1 hm (by omega), Option.bind_some, show (210 : Int32) = nI 210 from rfl, tp_1, pk_mul, nI_add, nI_add, q_w3 hm (by omega), Option.bind_some]
        refine ih (tw_up J (m + 3) (i * 210 + k) (J (m + 1) k), k + 1) ⟨by dsimp only; omega, fun j hj => ?_, fun j hj => ?_, fun c hc => ?_⟩ (by dsimp only; omega)
        · dsimp only at hj ⊢
          by_cases e3 : j = k
          · rw [e3, show 210 * i + k = i * 210 + k by omega, tw_up_at, i3 _ (by omega)]
          · rw [tw_up_k (by omega)]; exact i2 j (by omega)
        · dsimp only
          rw [tw_up_k (by omega)]; exact i4 j hj
        · dsimp only
          rw [tw_up_a hc]; exact i3 c hc) tw_F (I, 0) ⟨Nat.zero_le _, fun j hj => absurd hj (Nat.not_lt_zero j), fun _ _ => rfl, fun _ _ => rfl⟩ (tw_F_big (by dsimp only; omega))
/-- what is kept when cells that point are exchanged elsewhere -/
theorem pSt.keptP (h : pSt sh P a sw) (f : ∀ c, a ≤ c → c < a + 10 → P' c = P c) : pSt sh P' a sw := by
  obtain ⟨a0, a1, a2, a3, a4, a5, a6, a7, a8⟩ := h
  refine ⟨a0, a1, by rw [f _ (by omega) (by omega)]; exact a2, by rw [f _ (by omega) (by omega)]; exact a3, by rw [f _ (by omega) (by omega)]; exact a4, a5, a6, a7, fun t ht => ?_⟩
  obtain ⟨b1, ⟨p1, p2, p3⟩, b3, b4⟩ := a8 t ht
  exact ⟨by rw [f _ (by omega) (by omega)]; exact b1, ⟨p1, by rw [f _ (by unfold pPg; omega) (by unfold pPg; omega)]; exact p2, p3⟩, by rw [f _ (by omega) (by omega)]; exact b3, b4⟩
theorem pRu.keptP (h : pRu sh P a s) (f : ∀ c, a ≤ c → c < a + 25 → P' c = P c) : pRu sh P' a s := by
  unfold pRu at h ⊢
  rw [f a (by omega) (by omega), f (a + 1) (by omega) (by omega), f (a + 10) (by omega) (by omega), f (a + 13) (by omega) (by omega), f (a + 16) (by omega) (by omega), f (a + 20) (by omega) (by omega)]
  refine ⟨h.1, h.2.1, fun t ht => ?_⟩
  obtain ⟨h1, h2, h3⟩ := h.2.2 t ht
  refine ⟨h1, ?_, h3⟩
  unfold pPa at h2 ⊢
  rw [f (a + 2 + 3 * t) (by omega) (by omega)]
  exact h2
theorem pRd.keptP (h : pRd sh P a b) (f : ∀ c, (c = a ∨ c = a + 1 ∨ c = b) → P' c = P c) : pRd sh P' a b := by
  obtain ⟨h1, h2, h3, ⟨p1, p2, p3⟩, h4, h5, h6, h7⟩ := h
  exact ⟨h1, by rw [f _ (by omega)]; exact h2, by rw [f _ (by omega)]; exact h3, ⟨p1, by rw [f _ (by omega)]; exact p2, p3⟩, h4, by rw [f _ (by omega)]; exact h5, h6, h7⟩
theorem pHi.keptP (h : pHi sh P a) (f : ∀ c, a ≤ c → c < a + 62 → P' c = P c) : pHi sh P' a := by
  obtain ⟨h1, h2, h3, h4⟩ := h
  exact ⟨h1, by rw [f _ (by omega) (by omega)]; exact h2, h3, fun i hi => ⟨by rw [f _ (by omega) (by omega)]; exact (h4 i hi).1, (h4 i hi).2.keptP (fun c c1 c2 => f c (by omega) (by omega))⟩⟩
theorem pMo.keptP (h : pMo sh P m) (f : P' m = P m) : pMo sh P' m := by
  unfold pMo at h ⊢
  rw [f]
  exact h
theorem pCl.keptP {sw' : Nat} (h : pCl sh P b sw) (hs : pSt sh P' (b + 1) sw') (f : ∀ c, c ≠ b + 1 + 2 ∧ c ≠ b + 1 + 7 → P' c = P c) : pCl sh P' b sw' := by
  obtain ⟨l0, l1, l2, l3, l4, l5, l6, l7, l8⟩ := h
  refine ⟨by rw [f b (by omega)]; exact l0, hs, l2.keptP (fun c c1 c2 => f c (by omega)), l3.keptP (fun c c1 c2 => f c (by omega)), l4.keptP (fun c c1 c2 => f c (by omega)), l5.keptP (fun c hc => f c (by omega)), l6.keptP (fun c c1 c2 => f c (by omega)), ⟨l7.1, fun i hi => ⟨by rw [f _ (by omega)]; exact (l7.2 i hi).1, (l7.2 i hi).2.keptP (fun c c1 c2 => f c (by omega))⟩⟩, l8⟩
theorem c_len (hl : pCl sh P b sw) (hI : pCI I b sw C) : fX5_length (n, sh, P, I) (b + 11) = some (nI (tp_len (tp_res C.1 2))) := by
  obtain ⟨tk, hF, hR, hB, hk⟩ := hI.2.1
  exact p_len hl.2.2.1 hR hB hk
end TPLO
