/-! The reference's cells. -/
def pMo (sh : tw_Sh) (P : Nat → Nat → Option Nat) (m : Nat) : Prop := sh m = some (8, 24) ∧ (P m 4 = some (m + 4) ∧ sh (m + 4) = some (22, 2)) ∧ (P m 0 = some (m + 1) ∧ sh (m + 1) = some (20, 210)) ∧ (P m 1 = some (m + 2) ∧ sh (m + 2) = some (20, 1260)) ∧ (P m 3 = some (m + 3) ∧ sh (m + 3) = some (20, 420)) ∧ (P m 5 = some (m + 5) ∧ sh (m + 5) = some (20, 80)) ∧ (P m 7 = some (m + 6) ∧ sh (m + 6) = some (20, 150)) ∧ (P m 11 = some (m + 7) ∧ sh (m + 7) = some (20, 24)) ∧ (P m 12 = some (m + 8) ∧ sh (m + 8) = some (20, 8)) ∧ (P m 13 = some (m + 9) ∧ sh (m + 9) = some (20, 200)) ∧ (P m 14 = some (m + 10) ∧ sh (m + 10) = some (20, 200)) ∧ (P m 15 = some (m + 11) ∧ sh (m + 11) = some (20, 200)) ∧ (P m 16 = some (m + 12) ∧ sh (m + 12) = some (20, 200)) ∧ (P m 17 = some (m + 13) ∧ sh (m + 13) = some (20, 2)) ∧ (P m 18 = some (m + 14) ∧ sh (m + 14) = some (20, 2)) ∧ (P m 19 = some (m + 15) ∧ sh (m + 15) = some (20, 10)) ∧ (P m 20 = some (m + 16) ∧ sh (m + 16) = some (20, 10)) ∧ (P m 21 = some (m + 17) ∧ sh (m + 17) = some (20, 2)) ∧ (P m 22 = some (m + 18) ∧ sh (m + 18) = some (20, 2)) ∧ (P m 23 = some (m + 19) ∧ sh (m + 19) = some (20, 24))
section TPM
variable {n : Nat} {sh : tw_Sh} {P : Nat → Nat → Option Nat} {I : Nat → Nat → Int32} {m j : Nat} {x : Int32}
theorem q_is (h : pMo sh P m) : tw_is (n, sh, P, I) 8 m = some () := e_is h.1
theorem q_gI (h : pMo sh P m) : tw_gI (n, sh, P, I) 8 m j = some (I m j) := e_gI h.1
theorem q_pI (h : pMo sh P m) : tw_pI (n, sh, P, I) 8 m j x = some (n, sh, P, tw_up I m j x) := e_pI h.1
theorem q_P4 (h : pMo sh P m) : tw_gP (n, sh, P, I) 8 m 4 = some (m + 4) := (e_gP h.1).trans h.2.1.1
theorem q_P0 (h : pMo sh P m) : tw_gP (n, sh, P, I) 8 m 0 = some (m + 1) := (e_gP h.1).trans h.2.2.1.1
theorem q_a1 (h : pMo sh P m) (hj : j < 210) : tw_aI (n, sh, P, I) 20 (m + 1) (nI j) = some (I (m + 1) j) := e_aI h.2.2.1.2 hj (by decide)
theorem q_w1 (h : pMo sh P m) (hj : j < 210) : tw_wI (n, sh, P, I) 20 (m + 1) (nI j) x = some (n, sh, P, tw_up I (m + 1) j x) := e_wI h.2.2.1.2 hj (by decide)
theorem q_P1 (h : pMo sh P m) : tw_gP (n, sh, P, I) 8 m 1 = some (m + 2) := (e_gP h.1).trans h.2.2.2.1.1
theorem q_a2 (h : pMo sh P m) (hj : j < 1260) : tw_aI (n, sh, P, I) 20 (m + 2) (nI j) = some (I (m + 2) j) := e_aI h.2.2.2.1.2 hj (by decide)
theorem q_w2 (h : pMo sh P m) (hj : j < 1260) : tw_wI (n, sh, P, I) 20 (m + 2) (nI j) x = some (n, sh, P, tw_up I (m + 2) j x) := e_wI h.2.2.2.1.2 hj (by decide)
theorem q_P3 (h : pMo sh P m) : tw_gP (n, sh, P, I) 8 m 3 = some (m + 3) := (e_gP h.1).trans h.2.2.2.2.1.1
theorem q_a3 (h : pMo sh P m) (hj : j < 420) : tw_aI (n, sh, P, I) 20 (m + 3) (nI j) = some (I (m + 3) j) := e_aI h.2.2.2.2.1.2 hj (by decide)
theorem q_w3 (h : pMo sh P m) (hj : j < 420) : tw_wI (n, sh, P, I) 20 (m + 3) (nI j) x = some (n, sh, P, tw_up I (m + 3) j x) := e_wI h.2.2.2.2.1.2 hj (by decide)
theorem q_P5 (h : pMo sh P m) : tw_gP (n, sh, P, I) 8 m 5 = some (m + 5) := (e_gP h.1).trans h.2.2.2.2.2.1.1
theorem q_a5 (h : pMo sh P m) (hj : j < 80) : tw_aI (n, sh, P, I) 20 (m + 5) (nI j) = some (I (m + 5) j) := e_aI h.2.2.2.2.2.1.2 hj (by decide)
theorem q_w5 (h : pMo sh P m) (hj : j < 80) : tw_wI (n, sh, P, I) 20 (m + 5) (nI j) x = some (n, sh, P, tw_up I (m + 5) j x) := e_wI h.2.2.2.2.2.1.2 hj (by decide)
theorem q_P7 (h : pMo sh P m) : tw_gP (n, sh, P, I) 8 m 7 = some (m + 6) := (e_gP h.1).trans h.2.2.2.2.2.2.1.1
theorem q_a6 (h : pMo sh P m) (hj : j < 150) : tw_aI (n, sh, P, I) 20 (m + 6) (nI j) = some (I (m + 6) j) := e_aI h.2.2.2.2.2.2.1.2 hj (by decide)
theorem q_w6 (h : pMo sh P m) (hj : j < 150) : tw_wI (n, sh, P, I) 20 (m + 6) (nI j) x = some (n, sh, P, tw_up I (m + 6) j x) := e_wI h.2.2.2.2.2.2.1.2 hj (by decide)
theorem q_P11 (h : pMo sh P m) : tw_gP (n, sh, P, I) 8 m 11 = some (m + 7) := (e_gP h.1).trans h.2.2.2.2.2.2.2.1.1
theorem q_a7 (h : pMo sh P m) (hj : j < 24) : tw_aI (n, sh, P, I) 20 (m + 7) (nI j) = some (I (m + 7) j) := e_aI h.2.2.2.2.2.2.2.1.2 hj (by decide)
theorem q_w7 (h : pMo sh P m) (hj : j < 24) : tw_wI (n, sh, P, I) 20 (m + 7) (nI j) x = some (n, sh, P, tw_up I (m + 7) j x) := e_wI h.2.2.2.2.2.2.2.1.2 hj (by decide)
theorem q_P12 (h : pMo sh P m) : tw_gP (n, sh, P, I) 8 m 12 = some (m + 8) := (e_gP h.1).trans h.2.2.2.2.2.2.2.2.1.1
theorem q_a8 (h : pMo sh P m) (hj : j < 8) : tw_aI (n, sh, P, I) 20 (m + 8) (nI j) = some (I (m + 8) j) := e_aI h.2.2.2.2.2.2.2.2.1.2 hj (by decide)
theorem q_w8 (h : pMo sh P m) (hj : j < 8) : tw_wI (n, sh, P, I) 20 (m + 8) (nI j) x = some (n, sh, P, tw_up I (m + 8) j x) := e_wI h.2.2.2.2.2.2.2.2.1.2 hj (by decide)
theorem q_P13 (h : pMo sh P m) : tw_gP (n, sh, P, I) 8 m 13 = some (m + 9) := (e_gP h.1).trans h.2.2.2.2.2.2.2.2.2.1.1
theorem q_a9 (h : pMo sh P m) (hj : j < 200) : tw_aI (n, sh, P, I) 20 (m + 9) (nI j) = some (I (m + 9) j) := e_aI h.2.2.2.2.2.2.2.2.2.1.2 hj (by decide)
theorem q_w9 (h : pMo sh P m) (hj : j < 200) : tw_wI (n, sh, P, I) 20 (m + 9) (nI j) x = some (n, sh, P, tw_up I (m + 9) j x) := e_wI h.2.2.2.2.2.2.2.2.2.1.2 hj (by decide)
theorem q_P14 (h : pMo sh P m) : tw_gP (n, sh, P, I) 8 m 14 = some (m + 10) := (e_gP h.1).trans h.2.2.2.2.2.2.2.2.2.2.1.1
theorem q_a10 (h : pMo sh P m) (hj : j < 200) : tw_aI (n, sh, P, I) 20 (m + 10) (nI j) = some (I (m + 10) j) := e_aI h.2.2.2.2.2.2.2.2.2.2.1.2 hj (by decide)
theorem q_w10 (h : pMo sh P m) (hj : j < 200) : tw_wI (n, sh, P, I) 20 (m + 10) (nI j) x = some (n, sh, P, tw_up I (m + 10) j x) := e_wI h.2.2.2.2.2.2.2.2.2.2.1.2 hj (by decide)
theorem q_P15 (h : pMo sh P m) : tw_gP (n, sh, P, I) 8 m 15 = some (m + 11) := (e_gP h.1).trans h.2.2.2.2.2.2.2.2.2.2.2.1.1
theorem q_a11 (h : pMo sh P m) (hj : j < 200) : tw_aI (n, sh, P, I) 20 (m + 11) (nI j) = some (I (m + 11) j) := e_aI h.2.2.2.2.2.2.2.2.2.2.2.1.2 hj (by decide)
theorem q_w11 (h : pMo sh P m) (hj : j < 200) : tw_wI (n, sh, P, I) 20 (m + 11) (nI j) x = some (n, sh, P, tw_up I (m + 11) j x) := e_wI h.2.2.2.2.2.2.2.2.2.2.2.1.2 hj (by decide)
theorem q_P16 (h : pMo sh P m) : tw_gP (n, sh, P, I) 8 m 16 = some (m + 12) := (e_gP h.1).trans h.2.2.2.2.2.2.2.2.2.2.2.2.1.1
theorem q_a12 (h : pMo sh P m) (hj : j < 200) : tw_aI (n, sh, P, I) 20 (m + 12) (nI j) = some (I (m + 12) j) := e_aI h.2.2.2.2.2.2.2.2.2.2.2.2.1.2 hj (by decide)
theorem q_w12 (h : pMo sh P m) (hj : j < 200) : tw_wI (n, sh, P, I) 20 (m + 12) (nI j) x = some (n, sh, P, tw_up I (m + 12) j x) := e_wI h.2.2.2.2.2.2.2.2.2.2.2.2.1.2 hj (by decide)
theorem q_P17 (h : pMo sh P m) : tw_gP (n, sh, P, I) 8 m 17 = some (m + 13) := (e_gP h.1).trans h.2.2.2.2.2.2.2.2.2.2.2.2.2.1.1
theorem q_a13 (h : pMo sh P m) (hj : j < 2) : tw_aI (n, sh, P, I) 20 (m + 13) (nI j) = some (I (m + 13) j) := e_aI h.2.2.2.2.2.2.2.2.2.2.2.2.2.1.2 hj (by decide)
theorem q_w13 (h : pMo sh P m) (hj : j < 2) : tw_wI (n, sh, P, I) 20 (m + 13) (nI j) x = some (n, sh, P, tw_up I (m + 13) j x) := e_wI h.2.2.2.2.2.2.2.2.2.2.2.2.2.1.2 hj (by decide)
theorem q_P18 (h : pMo sh P m) : tw_gP (n, sh, P, I) 8 m 18 = some (m + 14) := (e_gP h.1).trans h.2.2.2.2.2.2.2.2.2.2.2.2.2.2.1.1
theorem q_a14 (h : pMo sh P m) (hj : j < 2) : tw_aI (n, sh, P, I) 20 (m + 14) (nI j) = some (I (m + 14) j) := e_aI h.2.2.2.2.2.2.2.2.2.2.2.2.2.2.1.2 hj (by decide)
theorem q_w14 (h : pMo sh P m) (hj : j < 2) : tw_wI (n, sh, P, I) 20 (m + 14) (nI j) x = some (n, sh, P, tw_up I (m + 14) j x) := e_wI h.2.2.2.2.2.2.2.2.2.2.2.2.2.2.1.2 hj (by decide)
theorem q_P19 (h : pMo sh P m) : tw_gP (n, sh, P, I) 8 m 19 = some (m + 15) := (e_gP h.1).trans h.2.2.2.2.2.2.2.2.2.2.2.2.2.2.2.1.1
theorem q_a15 (h : pMo sh P m) (hj : j < 10) : tw_aI (n, sh, P, I) 20 (m + 15) (nI j) = some (I (m + 15) j) := e_aI h.2.2.2.2.2.2.2.2.2.2.2.2.2.2.2.1.2 hj (by decide)
theorem q_w15 (h : pMo sh P m) (hj : j < 10) : tw_wI (n, sh, P, I) 20 (m + 15) (nI j) x = some (n, sh, P, tw_up I (m + 15) j x) := e_wI h.2.2.2.2.2.2.2.2.2.2.2.2.2.2.2.1.2 hj (by decide)
theorem q_P20 (h : pMo sh P m) : tw_gP (n, sh, P, I) 8 m 20 = some (m + 16) := (e_gP h.1).trans h.2.2.2.2.2.2.2.2.2.2.2.2.2.2.2.2.1.1
theorem q_a16 (h : pMo sh P m) (hj : j < 10) : tw_aI (n, sh, P, I) 20 (m + 16) (nI j) = some (I (m + 16) j) := e_aI h.2.2.2.2.2.2.2.2.2.2.2.2.2.2.2.2.1.2 hj (by decide)
theorem q_w16 (h : pMo sh P m) (hj : j < 10) : tw_wI (n, sh, P, I) 20 (m + 16) (nI j) x = some (n, sh, P, tw_up I (m + 16) j x) := e_wI h.2.2.2.2.2.2.2.2.2.2.2.2.2.2.2.2.1.2 hj (by decide)
theorem q_P21 (h : pMo sh P m) : tw_gP (n, sh, P, I) 8 m 21 = some (m + 17) := (e_gP h.1).trans h.2.2.2.2.2.2.2.2.2.2.2.2.2.2.2.2.2.1.1
theorem q_a17 (h : pMo sh P m) (hj : j < 2) : tw_aI (n, sh, P, I) 20 (m + 17) (nI j) = some (I (m + 17) j) := e_aI h.2.2.2.2.2.2.2.2.2.2.2.2.2.2.2.2.2.1.2 hj (by decide)
theorem q_w17 (h : pMo sh P m) (hj : j < 2) : tw_wI (n, sh, P, I) 20 (m + 17) (nI j) x = some (n, sh, P, tw_up I (m + 17) j x) := e_wI h.2.2.2.2.2.2.2.2.2.2.2.2.2.2.2.2.2.1.2 hj (by decide)
theorem q_P22 (h : pMo sh P m) : tw_gP (n, sh, P, I) 8 m 22 = some (m + 18) := (e_gP h.1).trans h.2.2.2.2.2.2.2.2.2.2.2.2.2.2.2.2.2.2.1.1
theorem q_a18 (h : pMo sh P m) (hj : j < 2) : tw_aI (n, sh, P, I) 20 (m + 18) (nI j) = some (I (m + 18) j) := e_aI h.2.2.2.2.2.2.2.2.2.2.2.2.2.2.2.2.2.2.1.2 hj (by decide)
theorem q_w18 (h : pMo sh P m) (hj : j < 2) : tw_wI (n, sh, P, I) 20 (m + 18) (nI j) x = some (n, sh, P, tw_up I (m + 18) j x) := e_wI h.2.2.2.2.2.2.2.2.2.2.2.2.2.2.2.2.2.2.1.2 hj (by decide)
theorem q_P23 (h : pMo sh P m) : tw_gP (n, sh, P, I) 8 m 23 = some (m + 19) := (e_gP h.1).trans h.2.2.2.2.2.2.2.2.2.2.2.2.2.2.2.2.2.2.2.1
theorem q_a19 (h : pMo sh P m) (hj : j < 24) : tw_aI (n, sh, P, I) 20 (m + 19) (nI j) = some (I (m + 19) j) := e_aI h.2.2.2.2.2.2.2.2.2.2.2.2.2.2.2.2.2.2.2.2 hj (by decide)
theorem q_w19 (h : pMo sh P m) (hj : j < 24) : tw_wI (n, sh, P, I) 20 (m + 19) (nI j) x = some (n, sh, P, tw_up I (m + 19) j x) := e_wI h.2.2.2.2.2.2.2.2.2.2.2.2.2.2.2.2.2.2.2.2 hj (by decide)
end TPM
/-- a state as the reference's numbers hold it, from off on -/
def pMS (I : Nat → Nat → Int32) (A off : Nat) (S : tp_S) : Prop := (∀ j, j < 3 → I A (off + j) = nI (S.1 j)) ∧ ∀ t, t < 2 → I A (off + (10 + 100 * t)) = nI (S.2.1 t) ∧ (∀ k, k < S.2.1 t → ∀ c, c < 5 → I A (off + (10 + 100 * t + 1 + 5 * k + c)) = S.2.2.1 t k c) ∧ ∀ j, j < 12 → I A (off + (10 + 100 * t + 70 + j)) = nI (S.2.2.2 t j)
theorem pMS.copy {I I' : Nat → Nat → Int32} {A B off off' : Nat} {S : tp_S} (h : pMS I A off S) (hz : ∀ t, t < 2 → S.2.1 t ≤ 12) (hc : ∀ k, k < 210 → I' B (off' + k) = I A (off + k)) : pMS I' B off' S := by
  refine ⟨fun j hj => by rw [hc _ (by omega)]; exact h.1 j hj, fun t ht => ?_⟩
  obtain ⟨h1, h2, h3⟩ := h.2 t ht
  have := hz t ht
  exact ⟨by rw [hc _ (by omega)]; exact h1, fun k hk c hc' => by rw [hc _ (by omega)]; exact h2 k hk c hc', fun j hj => by rw [hc _ (by omega)]; exact h3 j hj⟩
def pMH (I : Nat → Nat → Int32) (m : Nat) (H : tp_H) : Prop := H.1 ≤ 6 ∧ I m 2 = nI H.1 ∧ ∀ i, i < H.1 → pMS I (m + 2) (210 * i) (H.2 i)
theorem nI_neg {a : Nat} (h : a < 2 ^ 31) : ¬ nI a < 0 := fun z => by have := (nI_ltI h (show 0 < 2 ^ 31 by decide)).mp z; omega
section TPT
variable {n : Nat} {sh : tw_Sh} {P : Nat → Nat → Option Nat} {I : Nat → Nat → Int32} {m t k c : Nat} {S : tp_S} {H : tp_H}
theorem q_record (hm : pMo sh P m) (hz : ∀ t, t < 2 → S.2.1 t ≤ 12) (hzH : ∀ i, i < H.1 → ∀ t, t < 2 → (H.2 i).2.1 t ≤ 12) (hS : pMS I (m + 1) 0 S) (hH : pMH I m H) : ∃ I', fX8_record (n, sh, P, I) m = some (n, sh, P, I') ∧ pMH I' m (tp_rec H S) ∧ (∀ c, c ≠ m → c ≠ m + 2 → I' c = I c) ∧ ∀ k, k ≠ 2 → I' m k = I m k := by
  have hb : ∀ (J : Nat → Nat → Int32) (G : tp_H), G.1 < 6 → pMH J m G → (∀ i, i < G.1 → ∀ t, t < 2 → (G.2 i).2.1 t ≤ 12) → pMS J (m + 1) 0 S → (∀ c, c ≠ m → c ≠ m + 2 → J c = I c) → (∀ k, k ≠ 2 → J m k = I m k) → ∃ I', fX8_record_b45 (n, sh, P, J) m = some (n, sh, P, I') ∧ pMH I' m (G.1 + 1, fun i => if i = G.1 then S else G.2 i) ∧ (∀ c, c ≠ m → c ≠ m + 2 → I' c = I c) ∧ ∀ k, k ≠ 2 → I' m k = I m k := by
    intro J G hG hJ hzG hJS hJ1 hJ2
    obtain ⟨g1, g2, g3⟩ := hJ
    unfold fX8_record_b45
    rw [tp_0]
    exact tp_it (S := (Nat → Nat → Int32) × Nat) (fun _ _ _ => none) fX8_record_h47 (fun f s => f (n, sh, P, s.1) m (nI s.2))
      (fun s => s.2 ≤ 210 ∧ (∀ k, k < s.2 → s.1 (m + 2) (210 * G.1 + k) = J (m + 1) k) ∧ (∀ k, k < 210 * G.1 → s.1 (m + 2) k = J (m + 2) k) ∧ ∀ c, c ≠ m + 2 → s.1 c = J c) (fun s => 210 - s.2)
      (fun _ r => ∃ I', r = some (n, sh, P, I') ∧ pMH I' m (G.1 + 1, fun i => if i = G.1 then S else G.2 i) ∧ (∀ c, c ≠ m → c ≠ m + 2 → I' c = I c) ∧ ∀ k, k ≠ 2 → I' m k = I m k)
      (by
        rintro q ⟨J', k⟩ ⟨i1, i2, i3, i4⟩ ih
        dsimp only at i1 i2 i3 i4 ih ⊢
        have e0 : J' m 2 = nI G.1 := by rw [i4 m (by omega)]; exact g2
        unfold fX8_record_h47 fX8_record_b81
        by_cases e : 210 ≤ k
        · rw [if_pos (show (210 : Int32) ≤ nI k from nI_le e (by omega)), tp_1]
          simp (disch := omega) only [q_gI hm, e0, q_pI hm, nI_add, Option.bind_some]
          refine ⟨_, rfl, ⟨by dsimp only; omega, tw_up_at, fun i hi => ?_⟩, fun c h1 h2 => by rw [tw_up_a h1, i4 c h2, hJ1 c h1 h2], fun k hk => by rw [tw_up_k hk, i4 m (by omega), hJ2 k hk]⟩
          dsimp only at hi ⊢
          by_cases e2 : i = G.1
          · rw [if_pos e2, e2]
            exact hJS.copy hz (fun k hk => by rw [tw_up_a (by omega), i2 k (by omega), Nat.zero_add])
          · rw [if_neg e2]
            exact (g3 i (by omega)).copy (hzG i (by omega)) (fun k hk => by rw [tw_up_a (by omega), i3 _ (by omega)])
        · rw [if_neg (show ¬ (210 : Int32) ≤ nI k from nI_ge (show k < 210 by omega) (by decide)), tp_1, show (210 : Int32) = nI 210 from rfl]
          simp (disch := omega) only [q_P1 hm, q_gI hm, e0, q_P0 hm, q_a1 hm, pk_mul, nI_add, q_w2 hm, Option.bind_some]
          refine ih (tw_up J' (m + 2) (G.1 * 210 + k) (J' (m + 1) k), k + 1) ⟨by dsimp only; omega, fun k' hk' => ?_, fun k' hk' => ?_, fun c hc => ?_⟩ (by dsimp only; omega)
          · dsimp only at hk' ⊢
            by_cases e2 : k' = k
            · rw [e2, show 210 * G.1 + k = G.1 * 210 + k by omega, tw_up_at, i4 _ (by omega)]
            · rw [tw_up_k (by omega)]; exact i2 k' (by omega)
          · dsimp only
            rw [tw_up_k (by omega)]; exact i3 k' hk'
          · dsimp only
            rw [tw_up_a hc]; exact i4 c hc) tw_F (J, 0) ⟨Nat.zero_le _, fun k hk => absurd hk (Nat.not_lt_zero k), fun _ _ => rfl, fun _ _ => rfl⟩ (tw_F_big (by dsimp only; omega))
  obtain ⟨g1, g2, g3⟩ := hH
  unfold fX8_record tp_rec
  rw [q_is hm, Option.bind_some, q_gI hm, Option.bind_some, g2]
  by_cases e : H.1 = 6
  · rw [if_pos (by rw [e]; rfl), if_pos e, tp_0]
    refine tp_it (S := (Nat → Nat → Int32) × Nat) (fun _ _ _ => none) fX8_record_h11 (fun f s => f (n, sh, P, s.1) m (nI s.2))
      (fun s => s.2 ≤ 1050 ∧ (∀ k, k < s.2 → s.1 (m + 2) k = I (m + 2) (k + 210)) ∧ (∀ k, s.2 ≤ k → s.1 (m + 2) k = I (m + 2) k) ∧ ∀ c, c ≠ m + 2 → s.1 c = I c) (fun s => 1050 - s.2)
      (fun _ r => ∃ I', r = some (n, sh, P, I') ∧ pMH I' m (6, fun i => if i = 5 then S else H.2 (i + 1)) ∧ (∀ c, c ≠ m → c ≠ m + 2 → I' c = I c) ∧ ∀ k, k ≠ 2 → I' m k = I m k)
      (by
        rintro q ⟨J', k⟩ ⟨i1, i2, i3, i4⟩ ih
        dsimp only at i1 i2 i3 i4 ih ⊢
        unfold fX8_record_h11 fX8_record_b40
        by_cases e1 : 1050 ≤ k
        · rw [if_pos (show (1050 : Int32) ≤ nI k from nI_le e1 (by omega)), q_pI hm, Option.bind_some, show (5 : Int32) = nI 5 from rfl]
          obtain ⟨I', r1, r2, r3, r4⟩ := hb (tw_up J' m 2 (nI 5)) (5, fun i => H.2 (i + 1)) (show 5 < 6 by decide) ⟨by dsimp only; omega, tw_up_at, fun i hi => by
            dsimp only at hi ⊢
            exact (g3 (i + 1) (by omega)).copy (hzH (i + 1) (by omega)) (fun k' hk' => by rw [tw_up_a (by omega), i2 _ (by omega)]; congr 1; omega)⟩ (fun i hi => hzH (i + 1) (by dsimp only at hi; omega)) (hS.copy hz (fun k' hk' => by rw [tw_up_a (by omega), i4 _ (by omega)])) (fun c h1 h2 => by rw [tw_up_a h1, i4 c h2]) (fun k' hk' => by rw [tw_up_k hk', i4 m (by omega)])
          exact ⟨I', r1, r2, r3, r4⟩
        · rw [if_neg (show ¬ (1050 : Int32) ≤ nI k from nI_ge (show k < 1050 by omega) (by decide)), tp_1, show (210 : Int32) = nI 210 from rfl]
          simp (disch := omega) only [q_P1 hm, q_a2 hm, nI_add, q_w2 hm, Option.bind_some]
          refine ih (tw_up J' (m + 2) k (J' (m + 2) (k + 210)), k + 1) ⟨by dsimp only; omega, fun k' hk' => ?_, fun k' hk' => ?_, fun c hc => ?_⟩ (by dsimp only; omega)
          · dsimp only at hk' ⊢
            by_cases e2 : k' = k
            · rw [e2, tw_up_at, i3 _ (by omega)]
            · rw [tw_up_k (by omega)]; exact i2 k' (by omega)
          · dsimp only at hk' ⊢
            rw [tw_up_k (by omega)]; exact i3 k' (by omega)
          · dsimp only
            rw [tw_up_a hc]; exact i4 c hc) tw_F (I, 0) ⟨Nat.zero_le _, fun k hk => absurd hk (Nat.not_lt_zero k), fun _ _ => rfl, fun _ _ => rfl⟩ (tw_F_big (by dsimp only; omega))
  · rw [if_neg (show ¬ nI H.1 = 6 from fun z => e ((nI_eq (by omega) (by decide)).mp (z.trans (show (6 : Int32) = nI 6 from rfl)))), if_neg e]
    exact hb I H (by omega) ⟨g1, g2, g3⟩ hzH hS (fun _ _ _ => rfl) (fun _ _ => rfl)
theorem q_many (hm : pMo sh P m) (hS : pMS I (m + 1) 0 S) (ht : t < 2) : fX8_many (n, sh, P, I) m (nI t) = some (nI (S.2.1 t)) := by
  have h1 := (hS.2 t ht).1
  rw [Nat.zero_add] at h1
  unfold fX8_many
  rw [show (10 : Int32) = nI 10 from rfl, show (100 : Int32) = nI 100 from rfl]
  simp (disch := omega) only [q_is hm, q_P0 hm, pk_mul, nI_add, q_a1 hm, h1, Option.bind_some]
theorem q_of (hm : pMo sh P m) (hS : pMS I (m + 1) 0 S) (hz : ∀ t, t < 2 → S.2.1 t ≤ 12) (ht : t < 2) (hk : k < S.2.1 t) (hc : c < 5) : fX8_of (n, sh, P, I) m (nI t) (nI k) (nI c) = some (S.2.2.1 t k c) := by
  have h1 := (hS.2 t ht).2.1 k hk c hc
  have := hz t ht
  rw [Nat.zero_add] at h1
  unfold fX8_of
  rw [show (10 : Int32) = nI 10 from rfl, show (100 : Int32) = nI 100 from rfl, tp_1, show (5 : Int32) = nI 5 from rfl]
  simp (disch := omega) only [q_is hm, q_P0 hm, pk_mul, nI_add, q_a1 hm, h1, Option.bind_some]
theorem q_in {a b c : Nat} (σ : tw_St) (ha : a < 2 ^ 31) (hb : b < 2 ^ 31) (hc : c < 2 ^ 31) : fX8_in σ (nI a) (nI b) (nI c) = some (nI (if b ≤ a ∧ a ≤ c then 1 else 0)) := by
  unfold fX8_in
  simp only [nI_ltI ha hb, nI_ltI hc ha]
  by_cases e : a < b
  · rw [if_pos e, if_neg (by omega)]; rfl
  · rw [if_neg e]
    by_cases e2 : c < a
    · rw [if_pos e2, if_neg (by omega)]; rfl
    · rw [if_neg e2, if_pos (by omega)]; rfl
theorem q_roomOf (σ : tw_St) (x : Int32) : fX8_roomOf σ x = some (tp_rI (tp_room x)) := by
  unfold fX8_roomOf fX8_roomOf_b19 tp_room
  by_cases h3 : x = nI 3
  · rw [if_pos (show x = 3 from h3), if_pos h3]; rfl
  · rw [if_neg (show ¬ x = 3 from h3), if_neg h3]
    by_cases h4 : x = nI 4
    · rw [if_pos (show x = 4 from h4), if_pos h4]; rfl
    · rw [if_neg (show ¬ x = 4 from h4), if_neg h4]
      by_cases h5 : x = nI 5
      · rw [if_pos (show x = 5 from h5), if_pos h5]; rfl
      · rw [if_neg (show ¬ x = 5 from h5), if_neg h5]; rfl
end TPT
