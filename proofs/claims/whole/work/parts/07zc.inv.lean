/-! What class and reference hold: the state, the states ahead of changes, the slots, the text. -/
abbrev tp_C : Type := tp_S × tp_H × (Nat → Nat) × (Nat → tp_S) × (Nat → Nat) × Nat
def pOk (C : tp_C) : Prop := pSok C.1 ∧ (C.2.1.1 ≤ 6 ∧ ∀ i, i < C.2.1.1 → pSok (C.2.1.2 i)) ∧ (∀ i, i < 2 → C.2.2.1 i < 2 ∧ (C.2.2.1 i = 1 → pSok (C.2.2.2.1 i))) ∧ pTx C.2.2.2.2.1 C.2.2.2.2.2
def pCl (sh : tw_Sh) (P : Nat → Nat → Option Nat) (b sw : Nat) : Prop := (sh b = some (7, 9) ∧ P b 0 = some (b + 1) ∧ P b 1 = some (b + 11) ∧ P b 2 = some (b + 36) ∧ P b 3 = some (b + 46) ∧ P b 4 = some (b + 71) ∧ P b 5 = some (b + 73) ∧ P b 6 = some (b + 76) ∧ P b 7 = some (b + 138) ∧ P b 8 = some (b + 159)) ∧
  pSt sh P (b + 1) sw ∧ pRu sh P (b + 11) (b + 1) ∧ pSt sh P (b + 36) 0 ∧ pRu sh P (b + 46) (b + 36) ∧ pRd sh P (b + 73) (b + 71) ∧ pHi sh P (b + 76) ∧ (sh (b + 138) = some (24, 2) ∧ ∀ i, i < 2 → P (b + 138) i = some (b + 139 + 10 * i) ∧ pSt sh P (b + 139 + 10 * i) 0) ∧ sh (b + 159) = some (22, 2)
def pCI (I : Nat → Nat → Int32) (b sw : Nat) (C : tp_C) : Prop := pStI I (b + 1) sw C.1 ∧ pDone I (b + 11) C.1 2 ∧ pTI I (b + 71) C.2.2.2.2.1 C.2.2.2.2.2 ∧ pHiI I (b + 76) C.2.1 ∧ ∀ i, i < 2 → I (b + 159) i = nI (C.2.2.1 i) ∧ (C.2.2.1 i = 1 → pStI I (b + 139 + 10 * i) 0 (C.2.2.2.1 i))
def pMc (I : Nat → Nat → Int32) (m : Nat) (C : tp_C) : Prop := pMS I (m + 1) 0 C.1 ∧ pMH I m C.2.1 ∧ (∀ i, i < 2 → I (m + 4) i = nI (C.2.2.1 i) ∧ (C.2.2.1 i = 1 → pMS I (m + 3) (210 * i) (C.2.2.2.1 i))) ∧ (∀ j, j < C.2.2.2.2.2 → I (m + 5) j = nI (C.2.2.2.2.1 j)) ∧ I m 6 = nI C.2.2.2.2.2
def tp_cS (C : tp_C) (S : tp_S) : tp_C := (S, tp_rec C.2.1 C.1, C.2.2)
def tp_cT (C : tp_C) (T : Nat → Nat) (L : Nat) : tp_C := (C.1, C.2.1, C.2.2.1, C.2.2.2.1, T, L)
theorem pDone.kept {I I' : Nat → Nat → Int32} {a : Nat} {S : tp_S} {wo : Nat} (h : pDone I a S wo) (hk : ∀ c, a ≤ c → c < a + 25 → c ≠ a + 19 → I' c = I c) : pDone I' a S wo := by
  obtain ⟨tk, h1, h2, h3, h4⟩ := h
  exact ⟨tk, h1.kept (fun c x y => hk c (by omega) (by omega) (by omega)), h2.kept (fun c x y z => hk c (by omega) (by omega) z), h3, h4⟩
theorem pTI.kept {I I' : Nat → Nat → Int32} {pd L : Nat} {T : Nat → Nat} (h : pTI I pd T L) (h1 : I' pd = I pd) (h2 : I' (pd + 1) = I (pd + 1)) : pTI I' pd T L := ⟨by rw [h1]; exact h.1, fun i hi => by rw [h2]; exact h.2 i hi⟩
theorem pMH.kept {I I' : Nat → Nat → Int32} {m : Nat} {H : tp_H} (h : pMH I m H) (h1 : I' m 2 = I m 2) (h2 : I' (m + 2) = I (m + 2)) : pMH I' m H := ⟨h.1, h1.trans h.2.1, fun i hi => (h.2.2 i hi).keep h2⟩
theorem tp_rec_ok {H : tp_H} {S : tp_S} (hS : pSok S) (h : H.1 ≤ 6 ∧ ∀ i, i < H.1 → pSok (H.2 i)) : (tp_rec H S).1 ≤ 6 ∧ ∀ i, i < (tp_rec H S).1 → pSok ((tp_rec H S).2 i) := by
  unfold tp_rec
  by_cases e : H.1 = 6
  · rw [if_pos e]
    refine ⟨Nat.le_refl _, fun i hi => ?_⟩
    show pSok (if i = 5 then S else H.2 (i + 1))
    split
    · exact hS
    · exact h.2 _ (by dsimp only at hi; omega)
  · rw [if_neg e]
    refine ⟨by dsimp only; omega, fun i hi => ?_⟩
    show pSok (if i = H.1 then S else H.2 i)
    split
    · exact hS
    · exact h.2 _ (by dsimp only at hi; omega)
theorem pOk.rec {C : tp_C} (h : pOk C) {S : tp_S} (hS : pSok S) : pOk (tp_cS C S) := ⟨hS, tp_rec_ok h.1 h.2.1, h.2.2⟩
section TPC
variable {n : Nat} {sh : tw_Sh} {P : Nat → Nat → Option Nat} {I : Nat → Nat → Int32} {b m sw sw' : Nat} {C : tp_C}
theorem c_is (h : pCl sh P b sw) : tw_is (n, sh, P, I) 7 b = some () := e_is h.1.1
theorem c_P0 (h : pCl sh P b sw) : tw_gP (n, sh, P, I) 7 b 0 = some (b + 1) := (e_gP h.1.1).trans h.1.2.1
theorem c_P1 (h : pCl sh P b sw) : tw_gP (n, sh, P, I) 7 b 1 = some (b + 11) := (e_gP h.1.1).trans h.1.2.2.1
theorem c_P2 (h : pCl sh P b sw) : tw_gP (n, sh, P, I) 7 b 2 = some (b + 36) := (e_gP h.1.1).trans h.1.2.2.2.1
theorem c_P3 (h : pCl sh P b sw) : tw_gP (n, sh, P, I) 7 b 3 = some (b + 46) := (e_gP h.1.1).trans h.1.2.2.2.2.1
theorem c_P4 (h : pCl sh P b sw) : tw_gP (n, sh, P, I) 7 b 4 = some (b + 71) := (e_gP h.1.1).trans h.1.2.2.2.2.2.1
theorem c_P5 (h : pCl sh P b sw) : tw_gP (n, sh, P, I) 7 b 5 = some (b + 73) := (e_gP h.1.1).trans h.1.2.2.2.2.2.2.1
theorem c_P6 (h : pCl sh P b sw) : tw_gP (n, sh, P, I) 7 b 6 = some (b + 76) := (e_gP h.1.1).trans h.1.2.2.2.2.2.2.2.1
theorem c_P7 (h : pCl sh P b sw) : tw_gP (n, sh, P, I) 7 b 7 = some (b + 138) := (e_gP h.1.1).trans h.1.2.2.2.2.2.2.2.2.1
theorem c_P8 (h : pCl sh P b sw) : tw_gP (n, sh, P, I) 7 b 8 = some (b + 159) := (e_gP h.1.1).trans h.1.2.2.2.2.2.2.2.2.2
theorem tp_m6' : (-6 : Int32) = tp_rI 2 := rfl
/-- a change of the state: recorded, done, played -/
theorem c_rec (hl : pCl sh P b sw) (hok : pOk C) (hI : pCI I b sw C) : ∃ J1, fX0_record (n, sh, P, I) (b + 76) (b + 1) = some (n, sh, P, J1) ∧ pHiI J1 (b + 76) (tp_rec C.2.1 C.1) ∧ ∀ c, (c < b + 76 ∨ b + 138 ≤ c) → J1 c = I c := by
  obtain ⟨l0, l1, l2, l3, l4, l5, l6, l7, l8⟩ := hl
  obtain ⟨i1, i2, i3, i4, i5⟩ := hI
  obtain ⟨J1, e1, h1, f1⟩ := p_record (n := n) l6 l1 (by omega) (fun t ht => (hok.1.2.2.2 t ht).1) i1 i4
  exact ⟨J1, e1, h1, fun c hc => f1 c (by omega)⟩
theorem c_play (hl : pCl sh P b sw) (hI : pCI I b sw' C) {S : tp_S} (hS : pSok S) {J2 : Nat → Nat → Int32} {H : tp_H} (h1 : pHiI J2 (b + 76) H) (h2 : pStI J2 (b + 1) sw S) (f : ∀ c, (c < b + 1 ∨ b + 11 ≤ c) → (c < b + 76 ∨ b + 138 ≤ c) → J2 c = I c) :
    ∃ J3, fX5_play (n, sh, P, J2) (b + 11) (-6) = some (n, sh, P, J3) ∧ pCI J3 b sw (S, H, C.2.2) ∧ (∀ c, b + 160 ≤ c → J3 c = I c) ∧ ∀ c, (c < b + 11 ∨ b + 36 ≤ c) → J3 c = J2 c := by
  obtain ⟨l0, l1, l2, l3, l4, l5, l6, l7, l8⟩ := hl
  obtain ⟨i1, i2, i3, i4, i5⟩ := hI
  obtain ⟨J3, e3, h3, f3⟩ := p_play (n := n) (wo := 2) l2 l1 (by omega) hS h2 (by decide)
  refine ⟨J3, e3, ⟨h2.kept (fun c x y => f3 c (by omega)), h3, i3.kept (by rw [f3 _ (by omega), f _ (by omega) (by omega)]) (by rw [f3 _ (by omega), f _ (by omega) (by omega)]), h1.kept (fun c x y => f3 c (by omega)), fun i hi => ⟨?_, fun z => ?_⟩⟩, fun c hc => by rw [f3 _ (by omega), f _ (by omega) (by omega)], fun c hc => f3 c (by omega)⟩
  · rw [f3 _ (by omega), f _ (by omega) (by omega)]; exact (i5 i hi).1
  · exact ((i5 i hi).2 z).kept (fun c x y => by rw [f3 _ (by omega), f _ (by omega) (by omega)])
/-- what stands between the calls -/
def pV (b : Nat) (σ : tw_St) : Prop := ∃ C sw, pOk C ∧ pCl σ.2.1 σ.2.2.1 b sw ∧ pMo σ.2.1 σ.2.2.1 (b + 160) ∧ pCI σ.2.2.2 b sw C ∧ pMc σ.2.2.2 (b + 160) C
theorem pCI.kept {I' : Nat → Nat → Int32} (h : pCI I b sw C) (hk : ∀ c, c < b + 160 → I' c = I c) : pCI I' b sw C := by
  obtain ⟨i1, i2, i3, i4, i5⟩ := h
  exact ⟨i1.kept (fun c x y => hk c (by omega)), i2.kept (fun c x y _ => hk c (by omega)), i3.kept (hk _ (by omega)) (hk _ (by omega)), i4.kept (fun c x y => hk c (by omega)), fun i hi => ⟨by rw [hk _ (by omega)]; exact (i5 i hi).1, fun z => ((i5 i hi).2 z).kept (fun c x y => hk c (by omega))⟩⟩
theorem pMc.kept {I' : Nat → Nat → Int32} (h : pMc I m C) (hk : ∀ c, m ≤ c → I' c = I c) : pMc I' m C := by
  obtain ⟨i1, i2, i3, i4, i5⟩ := h
  exact ⟨i1.keep (hk _ (by omega)), i2.kept (by rw [hk _ (by omega)]) (hk _ (by omega)), fun i hi => ⟨by rw [hk _ (by omega)]; exact (i3 i hi).1, fun z => ((i3 i hi).2 z).keep (hk _ (by omega))⟩, fun j hj => by rw [hk _ (by omega)]; exact i4 j hj, by rw [hk _ (by omega)]; exact i5⟩
theorem tp_x (x : Int32) (k : Nat) : x < 0 ∨ (∃ a, a < k ∧ a < 2 ^ 31 ∧ x = nI a) ∨ ∃ a, k ≤ a ∧ a < 2 ^ 31 ∧ x = nI a := by
  by_cases h : x < 0
  · exact Or.inl h
  · obtain ⟨j, hj, e⟩ := nI_of h
    by_cases e2 : j < k
    · exact Or.inr (Or.inl ⟨j, e2, hj, e⟩)
    · exact Or.inr (Or.inr ⟨j, by omega, hj, e⟩)
theorem q_in_neg (σ : tw_St) {x y : Int32} {c : Nat} (h : x < 0) (hc : c < 2 ^ 31) : fX8_in σ x (nI c) y = some (nI 0) := by
  unfold fX8_in
  rw [if_pos]
  · rfl
  · rw [Int32.lt_iff_toInt_lt] at h ⊢
    rw [nI_toInt hc]
    have h0 : (0 : Int32).toInt = 0 := by decide
    omega
theorem c_thread (σ : tw_St) {t : Nat} (ht : t < 2) : fX7_isThread σ (nI t) = some (nI 1) := by
  unfold fX7_isThread
  rw [if_neg (nI_neg (by omega)), if_neg (show ¬ (2 : Int32) ≤ nI t from nI_ge (by omega) (by decide))]
  rfl
theorem c_noThread (σ : tw_St) {x : Int32} (h : x < 0 ∨ ∃ a, 2 ≤ a ∧ a < 2 ^ 31 ∧ x = nI a) : fX7_isThread σ x = some (nI 0) := by
  unfold fX7_isThread
  rcases h with h | ⟨a, h1, h2, rfl⟩
  · rw [if_pos h]; rfl
  · rw [if_neg (nI_neg h2), if_pos (show (2 : Int32) ≤ nI a from nI_le h1 h2)]; rfl
theorem q_thread (σ : tw_St) {t : Nat} (ht : t < 2) : fX8_isThread σ (nI t) = some (nI 1) := by
  unfold fX8_isThread
  rw [tp_0, tp_1, q_in σ (by omega) (by decide) (by decide), if_pos (by omega)]
  rfl
theorem q_noThread (σ : tw_St) {x : Int32} (h : x < 0 ∨ ∃ a, 2 ≤ a ∧ a < 2 ^ 31 ∧ x = nI a) : fX8_isThread σ x = some (nI 0) := by
  unfold fX8_isThread
  rw [tp_0, tp_1]
  rcases h with h | ⟨a, h1, h2, rfl⟩
  · rw [q_in_neg σ h (by decide)]; rfl
  · rw [q_in σ h2 (by decide) (by decide), if_neg (by omega)]; rfl
theorem tp_th (x : Int32) : (∃ t, t < 2 ∧ x = nI t) ∨ (x < 0 ∨ ∃ a, 2 ≤ a ∧ a < 2 ^ 31 ∧ x = nI a) := by
  rcases tp_x x 2 with h | ⟨a, h1, -, h2⟩ | h
  · exact Or.inr (Or.inl h)
  · exact Or.inl ⟨a, h1, h2⟩
  · exact Or.inr (Or.inr h)
end TPC
