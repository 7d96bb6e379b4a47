/-! States exchanged, orders exchanged, the states ahead of the latest changes. -/
def tp_xS (S : tp_S) : tp_S := (S.1, fun t => S.2.1 (1 - t), fun t => S.2.2.1 (1 - t), fun t => S.2.2.2 (1 - t))
def tp_fx (o : Nat → Nat → Int32) (k : Nat) : Nat → Bool
  | 0 => decide (o k 0 = nI 6)
  | j + 1 => tp_fx o k j || (decide (o j 0 = nI 6) && decide (o j 4 = nI k))
theorem tp_fx_up {o : Nat → Nat → Int32} {k : Nat} : ∀ (d j : Nat), tp_fx o k j = true → tp_fx o k (j + d) = true
  | 0, _, h => h
  | d + 1, j, h => by
    show (tp_fx o k (j + d) || _) = true
    rw [tp_fx_up d j h, Bool.true_or]
def tp_xo (o : Nat → Nat → Int32) (k j c : Nat) : Int32 := if j = k then o (k + 1) c else if j = k + 1 then o k c else o j c
abbrev tp_H : Type := Nat × (Nat → tp_S)
def tp_rec (H : tp_H) (S : tp_S) : tp_H := if H.1 = 6 then (6, fun i => if i = 5 then S else H.2 (i + 1)) else (H.1 + 1, fun i => if i = H.1 then S else H.2 i)
def pHi (sh : tw_Sh) (P : Nat → Nat → Option Nat) (h : Nat) : Prop := sh h = some (0, 3) ∧ P h 2 = some (h + 1) ∧ sh (h + 1) = some (24, 6) ∧ ∀ i, i < 6 → P (h + 1) i = some (h + 2 + 10 * i) ∧ pSt sh P (h + 2 + 10 * i) 0
def pHiI (I : Nat → Nat → Int32) (h : Nat) (H : tp_H) : Prop := ∃ ol, ol < 6 ∧ H.1 ≤ 6 ∧ I h 0 = nI H.1 ∧ I h 1 = nI ol ∧ ∀ i, i < H.1 → pStI I (h + 2 + 10 * ((ol + i) % 6)) 0 (H.2 i)
theorem pHiI.kept {I I' : Nat → Nat → Int32} {h : Nat} {H : tp_H} (hh : pHiI I h H) (hk : ∀ c, h ≤ c → c < h + 62 → I' c = I c) : pHiI I' h H := by
  obtain ⟨ol, h1, h2, h3, h4, h5⟩ := hh
  exact ⟨ol, h1, h2, by rw [hk h (by omega) (by omega)]; exact h3, by rw [hk h (by omega) (by omega)]; exact h4, fun i hi => (h5 i hi).kept (fun c g1 g2 => hk c (by omega) (by omega))⟩
section TPO
variable {n : Nat} {sh : tw_Sh} {P : Nat → Nat → Option Nat} {I : Nat → Nat → Int32} {a p h s sw z k : Nat} {S : tp_S} {H : tp_H} {o : Nat → Nat → Int32}
theorem p_exchangeThreads (hs : pSt sh P a sw) (hSI : pStI I a sw S) : ∃ P', fX6_exchangeThreads (n, sh, P, I) a = some (n, sh, P', I) ∧ pSt sh P' a (1 - sw) ∧ pStI I a (1 - sw) (tp_xS S) ∧ ∀ c, (c ≠ a + 2 ∧ c ≠ a + 7) → P' c = P c := by
  obtain ⟨a0, a1, a2, a3, a4, a5, a6, a7, a8⟩ := hs
  obtain ⟨b1, b2, b3, b4⟩ := a8 0 (by decide)
  obtain ⟨c1, c2, c3, c4⟩ := a8 1 (by decide)
  unfold fX6_exchangeThreads
  rw [show (0 : Int32) = nI 0 from rfl, show (1 : Int32) = nI 1 from rfl]
  simp (disch := omega) only [e_is a1, e_gP a1, a3, e_aP a6, b1, c1, e_wP a6 b2.1, e_wP a6 c2.1, Option.bind_some, tw_up_a, a4, e_aP a7, b3, c3, e_wP a7 b4, e_wP a7 c4]
  refine ⟨_, rfl, ?_, ?_, fun c hc => by rw [tw_up_a hc.2, tw_up_a hc.2, tw_up_a hc.1, tw_up_a hc.1]⟩
  · refine ⟨by omega, a1, ?_, ?_, ?_, a5, a6, a7, fun t ht => ?_⟩
    · simp (disch := omega) only [tw_up_a, a2]
    · simp (disch := omega) only [tw_up_a, a3]
    · simp (disch := omega) only [tw_up_a, a4]
    · have hpp : ∀ q, pPr sh P (pPg a sw q) → pPr sh (tw_up (tw_up (tw_up (tw_up P (a + 2) 0 (some (pPg a sw 1))) (a + 2) 1 (some (pPg a sw 0))) (a + 7) 0 (some (pFv a sw 1))) (a + 7) 1 (some (pFv a sw 0))) (pPg a sw q) := by
        intro q hq
        refine ⟨hq.1, ?_, hq.2.2⟩
        rw [tw_up_a (by unfold pPg; omega), tw_up_a (by unfold pPg; omega), tw_up_a (by unfold pPg; omega), tw_up_a (by unfold pPg; omega)]
        exact hq.2.1
      rcases (show t = 0 ∨ t = 1 by omega) with rfl | rfl
      · rw [show pPg a (1 - sw) 0 = pPg a sw 1 by unfold pPg; omega, show pFv a (1 - sw) 0 = pFv a sw 1 by unfold pFv; omega]
        refine ⟨?_, hpp 1 c2, ?_, c4⟩
        · rw [tw_up_a (by omega), tw_up_a (by omega), tw_up_k (by decide), tw_up_at]
        · rw [tw_up_k (by decide), tw_up_at]
      · rw [show pPg a (1 - sw) 1 = pPg a sw 0 by unfold pPg; omega, show pFv a (1 - sw) 1 = pFv a sw 0 by unfold pFv; omega]
        refine ⟨?_, hpp 0 b2, ?_, b4⟩
        · rw [tw_up_a (by omega), tw_up_a (by omega), tw_up_at]
        · rw [tw_up_at]
  · refine ⟨hSI.1, fun t ht => ?_⟩
    rw [show pPg a (1 - sw) t = pPg a sw (1 - t) by unfold pPg; omega, show pFv a (1 - sw) t = pFv a sw (1 - t) by unfold pFv; omega]
    exact hSI.2 (1 - t) (by omega)
theorem tp_xS_ok (h : pSok S) : pSok (tp_xS S) := ⟨h.1, h.2.1, h.2.2.1, fun t ht => h.2.2.2 (1 - t) (by omega)⟩
theorem p_mayMove (hp : pPr sh P p) (hz : I p 0 = nI z) (h12 : z ≤ 12) (hc : ∀ k, k < z → ∀ c, c < 5 → I (p + 1) (k * 5 + c) = o k c) (hk : k < z) : fX3_mayMove (n, sh, P, I) p (nI k) = some (nI (if tp_fx o k z = true then 0 else 1)) := by
  have ht : ∀ j c, j < z → c < 5 → fX3_told (n, sh, P, I) p (nI j) (nI c) = some (o j c) := fun j c hj hc' => by rw [p_told hp hz h12 hj hc', hc j hj c hc']
  unfold fX3_mayMove
  rw [show (0 : Int32) = nI 0 from rfl, e_is hp.1, Option.bind_some, ht k 0 hk (by decide), Option.bind_some]
  by_cases e : o k 0 = nI 6
  · rw [if_pos (show o k 0 = 6 from e)]
    have : tp_fx o k (0 + z) = true := tp_fx_up z 0 (decide_eq_true e)
    rw [Nat.zero_add] at this
    rw [if_pos this]
  · rw [if_neg (show ¬ o k 0 = 6 from e)]
    exact tp_it (S := Nat) (fun _ _ _ _ => none) fX3_mayMove_h15 (fun f j => f (n, sh, P, I) p (nI k) (nI j)) (fun j => j ≤ z ∧ tp_fx o k j = false) (fun j => z - j) (fun _ r => r = some (nI (if tp_fx o k z = true then 0 else 1)))
      (by
        rintro m j ⟨hj, hf⟩ ih
        have hgo : j < z → tp_fx o k (j + 1) = false → fX3_mayMove_b46 m (n, sh, P, I) p (nI k) (nI j) = some (nI (if tp_fx o k z = true then 0 else 1)) := by
          intro h1 h2
          unfold fX3_mayMove_b46
          rw [show (1 : Int32) = nI 1 from rfl, nI_add]
          exact ih (j + 1) ⟨by omega, h2⟩ (by omega)
        unfold fX3_mayMove_h15
        rw [show (0 : Int32) = nI 0 from rfl, show (4 : Int32) = nI 4 from rfl]
        simp (disch := omega) only [e_gI hp.1, hz, nI_leI, Option.bind_some]
        by_cases e1 : z ≤ j
        · rw [if_pos e1, show z = j by omega, if_neg (by rw [hf]; decide)]; rfl
        · rw [if_neg e1, ht j 0 (by omega) (by decide), Option.bind_some]
          by_cases e2 : o j 0 = nI 6
          · rw [if_pos (show o j 0 = 6 from e2), ht j 4 (by omega) (by decide), Option.bind_some]
            by_cases e3 : o j 4 = nI k
            · rw [if_pos e3]
              have h1 : tp_fx o k (j + 1) = true := by
                show (tp_fx o k j || _) = true
                simp [e2, e3]
              have h2 := tp_fx_up (z - (j + 1)) (j + 1) h1
              rw [show j + 1 + (z - (j + 1)) = z by omega] at h2
              rw [if_pos h2]
            · rw [if_neg e3]
              exact hgo (by omega) (by show (tp_fx o k j || _) = false; simp [hf, e3])
          · rw [if_neg (show ¬ o j 0 = 6 from e2)]
            exact hgo (by omega) (by show (tp_fx o k j || _) = false; simp [hf, e2])) tw_F 0 ⟨Nat.zero_le _, decide_eq_false e⟩ (tw_F_big (by omega))
theorem p_exchangeWithNext (hp : pPr sh P p) (hz : I p 0 = nI z) (h12 : z ≤ 12) (hc : ∀ k, k < z → ∀ c, c < 5 → I (p + 1) (k * 5 + c) = o k c) (hk : k + 1 < z) : ∃ I', fX3_exchangeWithNext (n, sh, P, I) p (nI k) = some (n, sh, P, I') ∧ (∀ j, j < z → ∀ c, c < 5 → I' (p + 1) (j * 5 + c) = tp_xo o k j c) ∧ ∀ c, c ≠ p + 1 → I' c = I c := by
  unfold fX3_exchangeWithNext
  rw [show (0 : Int32) = nI 0 from rfl, show (1 : Int32) = nI 1 from rfl, show (5 : Int32) = nI 5 from rfl]
  simp (disch := omega) only [e_is hp.1, e_gI hp.1, hz, nI_add, nI_ltI, pk_mul, if_pos, Option.bind_some]
  rw [if_neg (by omega)]
  have key := tp_it (S := (Nat → Nat → Int32) × Nat) (fun _ _ _ _ => none) fX3_exchangeWithNext_h21 (fun f s => f (n, sh, P, s.1) p (nI (k * 5)) (nI s.2))
    (fun s => s.2 ≤ 5 ∧ (∀ j, j < z → ∀ c, c < 5 → s.1 (p + 1) (j * 5 + c) = if c < s.2 then tp_xo o k j c else o j c) ∧ ∀ c, c ≠ p + 1 → s.1 c = I c) (fun s => 5 - s.2)
    (fun _ r => ∃ I', r = some (n, sh, P, I') ∧ (∀ j, j < z → ∀ c, c < 5 → I' (p + 1) (j * 5 + c) = tp_xo o k j c) ∧ ∀ c, c ≠ p + 1 → I' c = I c)
    (by
      rintro m ⟨J, i⟩ ⟨i1, i2, i3⟩ ih
      dsimp only at i1 i2 i3 ih ⊢
      unfold fX3_exchangeWithNext_h21
      by_cases e : 5 ≤ i
      · rw [if_pos (show (5 : Int32) ≤ nI i from nI_le e (by omega))]
        exact ⟨J, rfl, fun j hj c hc' => by rw [i2 j hj c hc', if_pos (by omega)], i3⟩
      · rw [if_neg (show ¬ (5 : Int32) ≤ nI i from nI_ge (show i < 5 by omega) (by decide)), show (1 : Int32) = nI 1 from rfl, show (5 : Int32) = nI 5 from rfl]
        have h1 := i2 k (by omega) i (by omega)
        have h2 := i2 (k + 1) (by omega) i (by omega)
        rw [if_neg (Nat.lt_irrefl i)] at h1 h2
        rw [show (k + 1) * 5 + i = k * 5 + 5 + i by omega] at h2
        simp (disch := omega) only [e_gP hp.1, hp.2.1, nI_add, e_aI hp.2.2, e_wI hp.2.2, h1, h2, Option.bind_some]
        refine ih (tw_up (tw_up J (p + 1) (k * 5 + i) (o (k + 1) i)) (p + 1) (k * 5 + 5 + i) (o k i), i + 1) ⟨by dsimp only; omega, fun j hj c hc' => ?_, fun c hc' => ?_⟩ (by dsimp only; omega)
        · dsimp only
          have h3 := i2 j hj c hc'
          by_cases e1 : c = i
          · subst e1
            rw [if_pos (by omega)]
            unfold tp_xo
            by_cases e2 : j = k
            · rw [if_pos e2, e2, tw_up_k (by omega), tw_up_at]
            · rw [if_neg e2]
              by_cases e3 : j = k + 1
              · rw [if_pos e3, e3, show (k + 1) * 5 + c = k * 5 + 5 + c by omega, tw_up_at]
              · rw [if_neg e3, tw_up_k (by omega), tw_up_k (by omega), h3, if_neg (Nat.lt_irrefl c)]
          · rw [tw_up_k (by omega), tw_up_k (by omega), h3]
            by_cases e2 : c < i
            · rw [if_pos e2, if_pos (by omega)]
            · rw [if_neg e2, if_neg (by omega)]
        · dsimp only
          rw [tw_up_a hc', tw_up_a hc']; exact i3 c hc')
  exact key tw_F (I, 0) ⟨Nat.zero_le _, fun j hj c hc' => by rw [if_neg (Nat.not_lt_zero c)]; exact hc j hj c hc', fun _ _ => rfl⟩ (tw_F_big (by dsimp only; omega))
theorem p_record (hh : pHi sh P h) (hs : pSt sh P s sw) (hd : s + 10 ≤ h ∨ h + 62 ≤ s) (hz : ∀ t, t < 2 → S.2.1 t ≤ 12) (hSI : pStI I s sw S) (hH : pHiI I h H) : ∃ I', fX0_record (n, sh, P, I) h s = some (n, sh, P, I') ∧ pHiI I' h (tp_rec H S) ∧ ∀ c, (c < h ∨ h + 62 ≤ c) → I' c = I c := by
  obtain ⟨h1, h2, h3, h4⟩ := hh
  obtain ⟨ol, g1, g2, g3, g4, g5⟩ := hH
  have hq : (ol + H.1) % 6 < 6 := by omega
  obtain ⟨k1, k2⟩ := h4 _ hq
  obtain ⟨I1, e1, r1, f1⟩ := p_copyState (n := n) k2 hs (by omega) hz hSI
  have q0 : I1 h 0 = nI H.1 := by rw [f1 h (by omega)]; exact g3
  have q1 : I1 h 1 = nI ol := by rw [f1 h (by omega)]; exact g4
  unfold fX0_record tp_rec
  rw [show (1 : Int32) = nI 1 from rfl, show (6 : Int32) = nI 6 from rfl]
  simp (disch := omega) only [e_is h1, e_gP h1, e_gI h1, h2, g3, g4, nI_add, tp_rem, e_aP h3, k1, e1, q0, q1, nI_leI, e_pI h1, Option.bind_some]
  by_cases e : H.1 = 6
  · rw [if_pos (by omega), if_pos e]
    refine ⟨_, rfl, ⟨(ol + 1) % 6, by omega, by dsimp only; omega, ?_, tw_up_at, fun i hi => ?_⟩, fun c hc => by rw [tw_up_a (by omega), f1 c (by omega)]⟩
    · rw [tw_up_k (by decide), q0, e]
    · dsimp only at hi ⊢
      by_cases e2 : i = 5
      · rw [if_pos e2, show ((ol + 1) % 6 + i) % 6 = (ol + H.1) % 6 by omega]
        exact r1.kept (fun c z1 z2 => tw_up_a (by omega))
      · rw [if_neg e2, show ((ol + 1) % 6 + i) % 6 = (ol + (i + 1)) % 6 by omega]
        exact (g5 (i + 1) (by omega)).kept (fun c z1 z2 => by rw [tw_up_a (by omega), f1 c (by omega)])
  · rw [if_neg (by omega), if_neg e]
    refine ⟨_, rfl, ⟨ol, by omega, by dsimp only; omega, tw_up_at, ?_, fun i hi => ?_⟩, fun c hc => by rw [tw_up_a (by omega), f1 c (by omega)]⟩
    · rw [tw_up_k (by decide), q1]
    · dsimp only at hi ⊢
      by_cases e2 : i = H.1
      · rw [if_pos e2, e2]
        exact r1.kept (fun c z1 z2 => tw_up_a (by omega))
      · rw [if_neg e2]
        exact (g5 i (by omega)).kept (fun c z1 z2 => by rw [tw_up_a (by omega), f1 c (by omega)])
theorem p_takeBack (hh : pHi sh P h) (hs : pSt sh P s sw) (hd : s + 10 ≤ h ∨ h + 62 ≤ s) (hz : ∀ i, i < H.1 → ∀ t, t < 2 → (H.2 i).2.1 t ≤ 12) (hH : pHiI I h H) (hu : 0 < H.1) : ∃ I', fX0_takeBack (n, sh, P, I) h s = some (n, sh, P, I') ∧ pHiI I' h (H.1 - 1, H.2) ∧ pStI I' s sw (H.2 (H.1 - 1)) ∧ ∀ c, (c < s ∨ s + 10 ≤ c) → (c < h ∨ h + 62 ≤ c) → I' c = I c := by
  obtain ⟨h1, h2, h3, h4⟩ := hh
  obtain ⟨ol, g1, g2, g3, g4, g5⟩ := hH
  have hq : (ol + (H.1 - 1)) % 6 < 6 := by omega
  obtain ⟨k1, k2⟩ := h4 _ hq
  obtain ⟨I1, e1, r1, f1⟩ := p_copyState (n := n) (I := tw_up I h 0 (nI (H.1 - 1))) hs k2 (by omega) (hz (H.1 - 1) (by omega)) ((g5 (H.1 - 1) (by omega)).kept (fun c z1 z2 => tw_up_a (by omega)))
  unfold fX0_takeBack
  rw [show (1 : Int32) = nI 1 from rfl, show (6 : Int32) = nI 6 from rfl, show (0 : Int32) = nI 0 from rfl]
  have q1 : tw_up I h 0 (nI (H.1 - 1)) h 1 = nI ol := by rw [tw_up_k (by decide)]; exact g4
  simp (disch := omega) only [e_is h1, e_gP h1, e_gI h1, h2, g3, g4, nI_eq, pk_sub, e_pI h1, tw_up_at, q1, nI_add, tp_rem, e_aP h3, k1, e1, Option.bind_some]
  rw [if_neg (by omega)]
  refine ⟨_, rfl, ⟨ol, g1, by dsimp only; omega, ?_, ?_, fun i hi => ?_⟩, r1, fun c z1 z2 => by rw [f1 c z1, tw_up_a (by omega)]⟩
  · rw [f1 h (by omega), tw_up_at]
  · rw [f1 h (by omega), q1]
  · dsimp only at hi ⊢
    exact (g5 i (by omega)).kept (fun c z1 z2 => by rw [f1 c (by omega), tw_up_a (by omega)])
end TPO
