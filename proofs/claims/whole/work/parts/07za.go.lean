section TPZ
variable {n : Nat} {sh : tw_Sh} {P : Nat → Nat → Option Nat} {I : Nat → Nat → Int32} {m t k ab tick wo turns : Nat} {S : tp_S} {K : Nat → Nat} {R : tp_R} {tau : Nat → Nat}
theorem q_loop (hm : pMo sh P m) (hok : pSok S) (hK : pMK S K ab) (hwo : wo < 3) (htu : turns ≤ 2) : ∀ (d q tick : Nat) (R : tp_R) (I : Nat → Nat → Int32), tick + d = 4096 → d < q → pMS I (m + 1) 0 S → pMG I m S K R ab (fun _ => tick) → pRB K R tick → pMI S R → tp_J K R tick →
    ∃ I' tk, fX8_goThrough_l183 q (n, sh, P, I) m (nI turns) (tp_rI wo) (nI tick) = fX8_goThrough_b295 (n, sh, P, I') m ∧ pMG I' m S K (tp_sched S K wo turns d tick R) ab (fun _ => tk) ∧ pRB K (tp_sched S K wo turns d tick R) tk ∧ tk ≤ 4096 ∧ pMI S (tp_sched S K wo turns d tick R) ∧ ¬ tp_left K (tp_sched S K wo turns d tick R) ∧ ∀ c, (c < m + 7 ∨ m + 19 ≤ c) → I' c = I c
  | d, 0, _, _, _, _, hq, _, _, _, _, _ => absurd hq (Nat.not_lt_zero d)
  | d, q + 1, tick, R, I, hd, hq, hS, hG, hB, hE, hJ => by
    show ∃ I' tk, fX8_goThrough_h183 (fX8_goThrough_l183 q) (n, sh, P, I) m (nI turns) (tp_rI wo) (nI tick) = _ ∧ _
    have o0 := q_isOpen (n := n) hm hok hS hK hB.w hG (show 0 < 2 by decide)
    have o1 := q_isOpen (n := n) hm hok hS hK hB.w hG (show 1 < 2 by decide)
    unfold fX8_goThrough_h183
    rw [tp_0, tp_1, o0, Option.bind_some]
    by_cases hl : tp_left K R
    · have hne : d ≠ 0 := by
        intro z
        subst z
        have : tick = 4096 := by omega
        subst this
        exact tp_J.end (fun t ht => (hK t ht).1) hB hJ hl
      obtain ⟨d, rfl⟩ : ∃ e, d = e + 1 := ⟨d - 1, by omega⟩
      obtain ⟨I1, e1, g1, f1⟩ := q_tick (n := n) (fX8_goThrough_l183 q) hm hok hS hK hB.w hG hE (by omega) hwo htu
      obtain ⟨I2, tk, e2, g2, b2, k2, m2, n2, f2⟩ := q_loop hm hok hK hwo htu d q (tick + 1) (tp_tick S K wo turns tick R) I1 (by omega) (by omega) (hS.keep (f1 _ (by omega))) g1 (hB.tick hok) (hE.tick wo turns tick) (hJ.step hok hl)
      have hsch : tp_sched S K wo turns (d + 1) tick R = tp_sched S K wo turns d (tick + 1) (tp_tick S K wo turns tick R) := by
        show (if tp_left K R then _ else R) = _
        rw [if_pos hl]
      rw [hsch]
      refine ⟨I2, tk, ?_, g2, b2, k2, m2, n2, fun c hc => by rw [f2 c hc, f1 c hc]⟩
      by_cases e0 : R.1 0 < K 0
      · rw [if_pos e0, if_neg (by decide), e1, e2]
      · rw [if_neg e0, if_pos rfl, o1, Option.bind_some, if_pos (hl.resolve_left e0), if_neg (by decide), e1, e2]
    · have h0 : ¬ R.1 0 < K 0 := fun z => hl (Or.inl z)
      have h1 : ¬ R.1 1 < K 1 := fun z => hl (Or.inr z)
      have hsch : tp_sched S K wo turns d tick R = R := by
        cases d with
        | zero => rfl
        | succ d =>
          show (if tp_left K R then _ else R) = _
          rw [if_neg hl]
      rw [hsch, if_neg h0, if_pos rfl, o1, Option.bind_some, if_neg h1, if_pos rfl]
      exact ⟨I, tick, rfl, hG, hB, by omega, hE, hl, fun _ _ => rfl⟩
theorem q_lengthOf (hm : pMo sh P m) {tk : Nat} (hK : pMK S K ab) (hB : pRB K R tk) (hk : tk ≤ 4096) (hG : pMG I m S K R ab tau) (hE : pMI S R) (ht : t < 2) : fX8_lengthOf (n, sh, P, I) m (nI t) = some (nI (R.2.2.2.2.2.2.2 t)) := by
  obtain ⟨g1, -, g3, -⟩ := hG t ht
  have hb := hB t ht
  have hb1 := hb.1
  have hk100 := (hK t ht).1
  rw [(hE t ht).2]
  have hmx : ∀ j, j ≤ R.1 t → tp_mx R t j ≤ 5000 := by
    intro j
    induction j with
    | zero => intro _; exact Nat.zero_le _
    | succ j ih =>
      intro hj
      have h1 := ih (by omega)
      have h2 := (hb.2.2.1 j (by omega)).2
      unfold tp_mx
      split <;> omega
  unfold fX8_lengthOf
  rw [q_is hm, Option.bind_some, tp_0]
  exact tp_it (S := Nat) (fun _ _ _ _ _ => none) fX8_lengthOf_h4 (fun f j => f (n, sh, P, I) m (nI t) (nI (tp_mx R t j)) (nI j)) (fun j => j ≤ R.1 t) (fun j => R.1 t - j) (fun _ r => r = some (nI (tp_mx R t (R.1 t))))
    (by
      intro q j hj ih
      have h1 := hmx j hj
      unfold fX8_lengthOf_h4 fX8_lengthOf_b44
      rw [tp_1, show (100 : Int32) = nI 100 from rfl, q_P17 hm, Option.bind_some, q_a13 hm ht, Option.bind_some, g1]
      by_cases e : R.1 t ≤ j
      · rw [if_pos ((nI_leI (by omega) (by omega)).mpr e), show j = R.1 t by omega]
      · rw [if_neg (fun z => e ((nI_leI (by omega) (by omega)).mp z)), q_P15 hm, Option.bind_some, pk_mul, nI_add, q_a11 hm (by omega), Option.bind_some, (g3 j (by omega)).2.2.1]
        have h2 := (hb.2.2.1 j (by omega)).2
        have hnx := ih (j + 1) (by omega) (by omega)
        rw [show tp_mx R t (j + 1) = if tp_mx R t j < R.2.2.1 t j then R.2.2.1 t j else tp_mx R t j from rfl] at hnx
        by_cases e2 : tp_mx R t j < R.2.2.1 t j
        · rw [if_pos e2] at hnx
          rw [if_neg (fun z => by have := (nI_leI (by omega) (by omega)).mp z; omega), Option.bind_some, q_a11 hm (by omega), Option.bind_some, (g3 j (by omega)).2.2.1, nI_add]
          exact hnx
        · rw [if_neg e2] at hnx
          rw [if_pos ((nI_leI (by omega) (by omega)).mpr (by omega)), nI_add]
          exact hnx) tw_F 0 (Nat.zero_le _) (tw_F_big (by omega))
theorem q_length (hm : pMo sh P m) {tk : Nat} (hK : pMK S K ab) (hB : pRB K R tk) (hk : tk ≤ 4096) (hG : pMG I m S K R ab tau) (hE : pMI S R) : fX8_goThrough_b295 (n, sh, P, I) m = some (nI (tp_len R), (n, sh, P, I)) := by
  have l0 := q_lengthOf (n := n) hm hK hB hk hG hE (show 0 < 2 by decide)
  have l1 := q_lengthOf (n := n) hm hK hB hk hG hE (show 1 < 2 by decide)
  have b0 := (hB 0 (by decide)).2.1
  have b1 := (hB 1 (by decide)).2.1
  unfold fX8_goThrough_b295 tp_len
  rw [tp_0, tp_1, l0, Option.bind_some, l1, Option.bind_some, Option.bind_some, Option.bind_some]
  by_cases e : R.2.2.2.2.2.2.2 0 ≤ R.2.2.2.2.2.2.2 1
  · rw [if_pos ((nI_leI (by omega) (by omega)).mpr e)]
    congr 2
    split <;> first | rfl | (congr 1; omega) | omega
  · rw [if_neg (fun z => e ((nI_leI (by omega) (by omega)).mp z)), if_neg (by omega)]
theorem q_init60 (k3 : (tw_St → Nat → Int32 → Int32 → Int32 → Int32 → Option (Int32 × tw_St))) (x1 x2 x3 : Int32) (hm : pMo sh P m) (hS : pMS I (m + 1) 0 S) (ht : t < 2) :
    ∃ I', fX8_goThrough_l60 k3 tw_F (n, sh, P, I) m x1 x2 x3 (nI t) 0 = fX8_goThrough_b105 k3 (n, sh, P, I') m x1 x2 x3 (nI t) ∧ (∀ j, j < 12 → I' (m + 7) (12 * t + j) = nI (S.2.2.2 t j)) ∧ (∀ j, (j < 12 * t ∨ 12 * t + 12 ≤ j) → I' (m + 7) j = I (m + 7) j) ∧ ∀ c, c ≠ m + 7 → I' c = I c := by
  have hv := (hS.2 t ht).2.2
  exact tp_it (S := (Nat → Nat → Int32) × Nat) (fun _ _ _ _ _ _ _ => none) (fX8_goThrough_h60 k3) (fun f s => f (n, sh, P, s.1) m x1 x2 x3 (nI t) (nI s.2))
    (fun s => s.2 ≤ 12 ∧ (∀ j, j < s.2 → s.1 (m + 7) (12 * t + j) = nI (S.2.2.2 t j)) ∧ (∀ j, (j < 12 * t ∨ 12 * t + 12 ≤ j) → s.1 (m + 7) j = I (m + 7) j) ∧ ∀ c, c ≠ m + 7 → s.1 c = I c) (fun s => 12 - s.2)
    (fun _ r => ∃ I', r = fX8_goThrough_b105 k3 (n, sh, P, I') m x1 x2 x3 (nI t) ∧ (∀ j, j < 12 → I' (m + 7) (12 * t + j) = nI (S.2.2.2 t j)) ∧ (∀ j, (j < 12 * t ∨ 12 * t + 12 ≤ j) → I' (m + 7) j = I (m + 7) j) ∧ ∀ c, c ≠ m + 7 → I' c = I c)
    (by
      rintro q ⟨J, j⟩ ⟨i1, i2, i3, i4⟩ ih
      dsimp only at i1 i2 i3 i4 ih ⊢
      unfold fX8_goThrough_h60
      by_cases e : 12 ≤ j
      · rw [if_pos (show (12 : Int32) ≤ nI j from nI_le e (by omega))]
        exact ⟨J, rfl, fun j hj => i2 j (by omega), i3, i4⟩
      · rw [if_neg (show ¬ (12 : Int32) ≤ nI j from nI_ge (show j < 12 by omega) (by decide)), tp_1, show (10 : Int32) = nI 10 from rfl, show (100 : Int32) = nI 100 from rfl, show (70 : Int32) = nI 70 from rfl, show (12 : Int32) = nI 12 from rfl]
        have h1 := hv j (by omega)
        rw [Nat.zero_add] at h1
        rw [q_P11 hm, Option.bind_some, q_P0 hm, Option.bind_some, pk_mul, nI_add, nI_add, nI_add, q_a1 hm (by omega), Option.bind_some, i4 _ (by omega), h1, pk_mul, nI_add, q_w7 hm (by omega), Option.bind_some, nI_add]
        refine ih (tw_up J (m + 7) (12 * t + j) (nI (S.2.2.2 t j)), j + 1) ⟨by dsimp only; omega, fun i hi => ?_, fun i hi => ?_, fun c hc => ?_⟩ (by dsimp only; omega)
        · dsimp only at hi ⊢
          by_cases e2 : i = j
          · rw [e2, tw_up_at]
          · rw [tw_up_k (by omega)]; exact i2 i (by omega)
        · dsimp only
          rw [tw_up_k (by omega)]; exact i3 i hi
        · dsimp only
          rw [tw_up_a hc]; exact i4 c hc) tw_F (I, 0) ⟨Nat.zero_le _, fun j hj => absurd hj (Nat.not_lt_zero j), fun _ _ => rfl, fun _ _ => rfl⟩ (tw_F_big (by dsimp only; omega))
theorem q_init108 (k3 : (tw_St → Nat → Int32 → Int32 → Int32 → Int32 → Option (Int32 × tw_St))) (x1 x2 x3 : Int32) (hm : pMo sh P m) (ht : t < 2) :
    ∃ I', fX8_goThrough_l108 k3 tw_F (n, sh, P, I) m x1 x2 x3 (nI t) 0 = fX8_goThrough_b133 k3 (n, sh, P, I') m x1 x2 x3 (nI t) ∧ (∀ j, j < 4 → I' (m + 8) (4 * t + j) = nI 0) ∧ (∀ j, (j < 4 * t ∨ 4 * t + 4 ≤ j) → I' (m + 8) j = I (m + 8) j) ∧ ∀ c, c ≠ m + 8 → I' c = I c := by
  exact tp_it (S := (Nat → Nat → Int32) × Nat) (fun _ _ _ _ _ _ _ => none) (fX8_goThrough_h108 k3) (fun f s => f (n, sh, P, s.1) m x1 x2 x3 (nI t) (nI s.2))
    (fun s => s.2 ≤ 4 ∧ (∀ j, j < s.2 → s.1 (m + 8) (4 * t + j) = nI 0) ∧ (∀ j, (j < 4 * t ∨ 4 * t + 4 ≤ j) → s.1 (m + 8) j = I (m + 8) j) ∧ ∀ c, c ≠ m + 8 → s.1 c = I c) (fun s => 4 - s.2)
    (fun _ r => ∃ I', r = fX8_goThrough_b133 k3 (n, sh, P, I') m x1 x2 x3 (nI t) ∧ (∀ j, j < 4 → I' (m + 8) (4 * t + j) = nI 0) ∧ (∀ j, (j < 4 * t ∨ 4 * t + 4 ≤ j) → I' (m + 8) j = I (m + 8) j) ∧ ∀ c, c ≠ m + 8 → I' c = I c)
    (by
      rintro q ⟨J, j⟩ ⟨i1, i2, i3, i4⟩ ih
      dsimp only at i1 i2 i3 i4 ih ⊢
      unfold fX8_goThrough_h108
      by_cases e : 4 ≤ j
      · rw [if_pos (show (4 : Int32) ≤ nI j from nI_le e (by omega))]
        exact ⟨J, rfl, fun j hj => i2 j (by omega), i3, i4⟩
      · rw [if_neg (show ¬ (4 : Int32) ≤ nI j from nI_ge (show j < 4 by omega) (by decide)), tp_1, tp_0, show (4 : Int32) = nI 4 from rfl]
        rw [q_P12 hm, Option.bind_some, pk_mul, nI_add, q_w8 hm (by omega), Option.bind_some, nI_add]
        refine ih (tw_up J (m + 8) (4 * t + j) (nI 0), j + 1) ⟨by dsimp only; omega, fun i hi => ?_, fun i hi => ?_, fun c hc => ?_⟩ (by dsimp only; omega)
        · dsimp only at hi ⊢
          by_cases e2 : i = j
          · rw [e2, tw_up_at]
          · rw [tw_up_k (by omega)]; exact i2 i (by omega)
        · dsimp only
          rw [tw_up_k (by omega)]; exact i3 i hi
        · dsimp only
          rw [tw_up_a hc]; exact i4 c hc) tw_F (I, 0) ⟨Nat.zero_le _, fun j hj => absurd hj (Nat.not_lt_zero j), fun _ _ => rfl, fun _ _ => rfl⟩ (tw_F_big (by dsimp only; omega))
theorem q_init136 (k3 : (tw_St → Nat → Int32 → Int32 → Int32 → Int32 → Option (Int32 × tw_St))) (x1 x2 x3 : Int32) (hm : pMo sh P m) (ht : t < 2) :
    ∃ I', fX8_goThrough_l136 k3 tw_F (n, sh, P, I) m x1 x2 x3 (nI t) 0 = fX8_goThrough_b174 k3 (n, sh, P, I') m x1 x2 x3 (nI t) ∧ (∀ j, j < 5 → I' (m + 15) (5 * t + j) = nI 0 ∧ I' (m + 16) (5 * t + j) = nI 0) ∧ (∀ j, (j < 5 * t ∨ 5 * t + 5 ≤ j) → I' (m + 15) j = I (m + 15) j ∧ I' (m + 16) j = I (m + 16) j) ∧ ∀ c, c ≠ m + 15 → c ≠ m + 16 → I' c = I c := by
  exact tp_it (S := (Nat → Nat → Int32) × Nat) (fun _ _ _ _ _ _ _ => none) (fX8_goThrough_h136 k3) (fun f s => f (n, sh, P, s.1) m x1 x2 x3 (nI t) (nI s.2))
    (fun s => s.2 ≤ 5 ∧ (∀ j, j < s.2 → s.1 (m + 15) (5 * t + j) = nI 0 ∧ s.1 (m + 16) (5 * t + j) = nI 0) ∧ (∀ j, (j < 5 * t ∨ 5 * t + 5 ≤ j) → s.1 (m + 15) j = I (m + 15) j ∧ s.1 (m + 16) j = I (m + 16) j) ∧ ∀ c, c ≠ m + 15 → c ≠ m + 16 → s.1 c = I c) (fun s => 5 - s.2)
    (fun _ r => ∃ I', r = fX8_goThrough_b174 k3 (n, sh, P, I') m x1 x2 x3 (nI t) ∧ (∀ j, j < 5 → I' (m + 15) (5 * t + j) = nI 0 ∧ I' (m + 16) (5 * t + j) = nI 0) ∧ (∀ j, (j < 5 * t ∨ 5 * t + 5 ≤ j) → I' (m + 15) j = I (m + 15) j ∧ I' (m + 16) j = I (m + 16) j) ∧ ∀ c, c ≠ m + 15 → c ≠ m + 16 → I' c = I c)
    (by
      rintro q ⟨J, j⟩ ⟨i1, i2, i3, i4⟩ ih
      dsimp only at i1 i2 i3 i4 ih ⊢
      unfold fX8_goThrough_h136
      by_cases e : 5 ≤ j
      · rw [if_pos (show (5 : Int32) ≤ nI j from nI_le e (by omega))]
        exact ⟨J, rfl, fun j hj => i2 j (by omega), i3, i4⟩
      · rw [if_neg (show ¬ (5 : Int32) ≤ nI j from nI_ge (show j < 5 by omega) (by decide)), tp_1, tp_0, show (5 : Int32) = nI 5 from rfl]
        rw [q_P19 hm, Option.bind_some, pk_mul, nI_add, q_w15 hm (by omega), Option.bind_some, q_P20 hm, Option.bind_some, q_w16 hm (by omega), Option.bind_some, nI_add]
        refine ih (tw_up (tw_up J (m + 15) (5 * t + j) (nI 0)) (m + 16) (5 * t + j) (nI 0), j + 1) ⟨by dsimp only; omega, fun i hi => ?_, fun i hi => ?_, fun c c1 c2 => ?_⟩ (by dsimp only; omega)
        · dsimp only at hi ⊢
          rw [tw_up_a (by omega)]
          by_cases e2 : i = j
          · rw [e2, tw_up_at, tw_up_at]; exact ⟨rfl, rfl⟩
          · rw [tw_up_k (by omega), tw_up_k (by omega), tw_up_a (by omega)]; exact i2 i (by omega)
        · dsimp only
          rw [tw_up_a (by omega), tw_up_k (by omega), tw_up_k (by omega), tw_up_a (by omega)]; exact i3 i hi
        · dsimp only
          rw [tw_up_a c2, tw_up_a c1]; exact i4 c c1 c2) tw_F (I, 0) ⟨Nat.zero_le _, fun j hj => absurd hj (Nat.not_lt_zero j), fun _ _ => ⟨rfl, rfl⟩, fun _ _ _ => rfl⟩ (tw_F_big (by dsimp only; omega))
end TPZ
