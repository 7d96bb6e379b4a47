/-! The start: what both constructors leave. -/
abbrev tz_s (k t n : Nat) : Prop := (tr_CS[k]?).map (fun c => (c.1, c.2.1)) = some (t, n)
abbrev tz_p (k j x : Nat) : Prop := (tr_CS[k]?).bind (fun c => c.2.2.1.lookup j) = some x
abbrev tz_z (k : Nat) : Prop := (tr_CS[k]?).map (fun c => c.2.2.2) = some []
abbrev tz_i (k j : Nat) (x : Int32) : Prop := ((tr_CS[k]?).bind (fun c => c.2.2.2.lookup j)).getD 0 = x
section TZS
variable {base k t n j x a s : Nat}
theorem tz_sh (h : tz_s k t n) : (tr_mk base tr_CS).2.1 (base + k) = some (t, n) := (tr_sh_mk base tr_CS k).trans h
theorem tz_P (h : tz_p k j x) : (tr_mk base tr_CS).2.2.1 (base + k) j = some (base + x) := by
  rw [tr_P_mk]
  obtain ⟨c, h1, h2⟩ := Option.bind_eq_some_iff.mp h
  rw [h1, Option.bind_some, h2, Option.map_some]
theorem tz_I {y : Int32} (h : tz_i k j y) : (tr_mk base tr_CS).2.2.2 (base + k) j = y := (tr_I_mk base tr_CS k j).trans h
theorem tz_I0 (h : tz_z k) (j : Nat) : (tr_mk base tr_CS).2.2.2 (base + k) j = nI 0 := by
  rw [tr_I_mk]
  obtain ⟨c, h1, h2⟩ := Option.map_eq_some_iff.mp h
  rw [h1, Option.bind_some, h2]
  rfl
abbrev tz_St (a : Nat) : Prop := tz_s a 6 3 ∧ tz_p a 0 (a + 1) ∧ tz_p a 1 (a + 2) ∧ tz_p a 2 (a + 7) ∧ tz_s (a + 1) 20 3 ∧ tz_s (a + 2) 25 2 ∧ tz_s (a + 7) 23 2 ∧ ∀ t, t < 2 → tz_p (a + 2) t (a + 3 + 2 * t) ∧ (tz_s (a + 3 + 2 * t) 3 2 ∧ tz_p (a + 3 + 2 * t) 1 (a + 3 + 2 * t + 1) ∧ tz_s (a + 3 + 2 * t + 1) 20 60) ∧ tz_p (a + 7) t (a + 8 + t) ∧ tz_s (a + 8 + t) 20 12
theorem tz_pg (base a : Nat) {t : Nat} (ht : t < 2) : pPg (base + a) 0 t = base + (a + 3 + 2 * t) := by unfold pPg; omega
theorem tz_fv (base a : Nat) {t : Nat} (ht : t < 2) : pFv (base + a) 0 t = base + (a + 8 + t) := by unfold pFv; omega
theorem tz_pSt (h : tz_St a) : pSt (tr_mk base tr_CS).2.1 (tr_mk base tr_CS).2.2.1 (base + a) 0 := by
  obtain ⟨h0, h1, h2, h3, h4, h5, h6, h7⟩ := h
  refine ⟨by decide, tz_sh h0, tz_P h1, tz_P h2, tz_P h3, tz_sh h4, tz_sh h5, tz_sh h6, fun t ht => ?_⟩
  obtain ⟨g1, ⟨g2, g3, g4⟩, g5, g6⟩ := h7 t ht
  rw [tz_pg base a ht, tz_fv base a ht]
  exact ⟨tz_P g1, ⟨tz_sh g2, tz_P g3, tz_sh g4⟩, tz_P g5, tz_sh g6⟩
abbrev tz_Ru (a s : Nat) : Prop := (tz_s a 5 12 ∧ tz_p a 0 (a + 1) ∧ tz_p a 1 (a + 8) ∧ tz_p a 2 (a + 9) ∧ tz_p a 3 (a + 10) ∧ tz_p a 4 (a + 13) ∧ tz_p a 5 (a + 16) ∧ tz_p a 6 s ∧ tz_p a 7 (a + 19) ∧ tz_p a 8 (a + 20) ∧ tz_p a 9 (a + 23) ∧ tz_p a 10 (a + 24)) ∧ (tz_s (a + 1) 26 2 ∧ tz_s (a + 8) 20 2 ∧ tz_s (a + 9) 20 2 ∧ tz_s (a + 10) 23 2 ∧ tz_s (a + 13) 23 2 ∧ tz_s (a + 16) 23 2 ∧ tz_s (a + 19) 20 2 ∧ tz_s (a + 20) 23 2 ∧ tz_s (a + 23) 20 2 ∧ tz_s (a + 24) 20 2)
abbrev tz_Rt (a t : Nat) : Prop := (tz_p (a + 1) t (a + 2 + 3 * t) ∧ tz_p (a + 10) t (a + 11 + t) ∧ tz_p (a + 13) t (a + 14 + t) ∧ tz_p (a + 16) t (a + 17 + t) ∧ tz_p (a + 20) t (a + 21 + t)) ∧ (tz_s (a + 2 + 3 * t) 2 4 ∧ tz_p (a + 2 + 3 * t) 2 (a + 2 + 3 * t + 1) ∧ tz_p (a + 2 + 3 * t) 3 (a + 2 + 3 * t + 2) ∧ tz_s (a + 2 + 3 * t + 1) 20 100 ∧ tz_s (a + 2 + 3 * t + 2) 20 12) ∧ tz_s (a + 11 + t) 20 100 ∧ tz_s (a + 14 + t) 20 100 ∧ tz_s (a + 17 + t) 20 5 ∧ tz_s (a + 21 + t) 20 4
theorem tz_pRu (h : tz_Ru a s) (h' : ∀ t, t < 2 → tz_Rt a t) : pRu (tr_mk base tr_CS).2.1 (tr_mk base tr_CS).2.2.1 (base + a) (base + s) := by
  obtain ⟨⟨a0, a1, a2, a3, a4, a5, a6, a7, a8, a9, a10, a11⟩, b1, b2, b3, b4, b5, b6, b7, b8, b9, b10⟩ := h
  refine ⟨⟨tz_sh a0, tz_P a1, tz_P a2, tz_P a3, tz_P a4, tz_P a5, tz_P a6, tz_P a7, tz_P a8, tz_P a9, tz_P a10, tz_P a11⟩, ⟨tz_sh b1, tz_sh b2, tz_sh b3, tz_sh b4, tz_sh b5, tz_sh b6, tz_sh b7, tz_sh b8, tz_sh b9, tz_sh b10⟩, fun t ht => ?_⟩
  obtain ⟨⟨c1, c2, c3, c4, c5⟩, ⟨d1, d2, d3, d4, d5⟩, e1, e2, e3, e4⟩ := h' t ht
  have n2 : base + a + 2 + 3 * t = base + (a + 2 + 3 * t) := by omega
  have n11 : base + a + 11 + t = base + (a + 11 + t) := by omega
  have n14 : base + a + 14 + t = base + (a + 14 + t) := by omega
  have n17 : base + a + 17 + t = base + (a + 17 + t) := by omega
  have n21 : base + a + 21 + t = base + (a + 21 + t) := by omega
  rw [n2, n11, n14, n17, n21]
  exact ⟨⟨tz_P c1, tz_P c2, tz_P c3, tz_P c4, tz_P c5⟩, ⟨tz_sh d1, tz_P d2, tz_P d3, tz_sh d4, tz_sh d5⟩, tz_sh e1, tz_sh e2, tz_sh e3, tz_sh e4⟩
end TZS
section TZC
variable {base : Nat}
theorem tz_pCl : pCl (tr_mk base tr_CS).2.1 (tr_mk base tr_CS).2.2.1 base 0 := by
  refine ⟨⟨tz_sh (k := 0) (by decide +kernel), tz_P (k := 0) (by decide +kernel), tz_P (k := 0) (by decide +kernel), tz_P (k := 0) (by decide +kernel), tz_P (k := 0) (by decide +kernel), tz_P (k := 0) (by decide +kernel), tz_P (k := 0) (by decide +kernel), tz_P (k := 0) (by decide +kernel), tz_P (k := 0) (by decide +kernel), tz_P (k := 0) (by decide +kernel)⟩, tz_pSt (by decide +kernel), tz_pRu (by decide +kernel) (by decide +kernel), tz_pSt (by decide +kernel), tz_pRu (by decide +kernel) (by decide +kernel), ?_, ?_, ⟨tz_sh (k := 138) (by decide +kernel), fun i hi => ?_⟩, tz_sh (k := 159) (by decide +kernel)⟩
  · exact ⟨tz_sh (k := 73) (by decide +kernel), tz_P (k := 73) (x := 74) (by decide +kernel), tz_P (k := 73) (x := 71) (by decide +kernel), ⟨tz_sh (k := 74) (by decide +kernel), tz_P (k := 74) (x := 75) (by decide +kernel), tz_sh (k := 75) (by decide +kernel)⟩, tz_sh (k := 71) (by decide +kernel), tz_P (k := 71) (x := 72) (by decide +kernel), tz_sh (k := 72) (by decide +kernel), by omega⟩
  · refine ⟨tz_sh (k := 76) (by decide +kernel), tz_P (k := 76) (x := 77) (by decide +kernel), tz_sh (k := 77) (by decide +kernel), fun i hi => ?_⟩
    have hp : ∀ i, i < 6 → tz_p 77 i (78 + 10 * i) ∧ tz_St (78 + 10 * i) := by
      intro i hi
      rcases (show i = 0 ∨ i = 1 ∨ i = 2 ∨ i = 3 ∨ i = 4 ∨ i = 5 by omega) with rfl | rfl | rfl | rfl | rfl | rfl <;> exact ⟨by decide +kernel, by decide +kernel⟩
    rw [show base + 76 + 2 + 10 * i = base + (78 + 10 * i) by omega]
    exact ⟨tz_P (hp i hi).1, tz_pSt (hp i hi).2⟩
  · have hp : ∀ i, i < 2 → tz_p 138 i (139 + 10 * i) ∧ tz_St (139 + 10 * i) := by
      intro i hi
      rcases (show i = 0 ∨ i = 1 by omega) with rfl | rfl <;> exact ⟨by decide +kernel, by decide +kernel⟩
    rw [show base + 139 + 10 * i = base + (139 + 10 * i) by omega]
    exact ⟨tz_P (hp i hi).1, tz_pSt (hp i hi).2⟩
theorem tz_pMo : pMo (tr_mk base tr_CS).2.1 (tr_mk base tr_CS).2.2.1 (base + 160) :=
  ⟨tz_sh (k := 160) (by decide +kernel), ⟨tz_P (k := 160) (x := 164) (by decide +kernel), tz_sh (k := 164) (by decide +kernel)⟩, ⟨tz_P (k := 160) (x := 161) (by decide +kernel), tz_sh (k := 161) (by decide +kernel)⟩, ⟨tz_P (k := 160) (x := 162) (by decide +kernel), tz_sh (k := 162) (by decide +kernel)⟩, ⟨tz_P (k := 160) (x := 163) (by decide +kernel), tz_sh (k := 163) (by decide +kernel)⟩, ⟨tz_P (k := 160) (x := 165) (by decide +kernel), tz_sh (k := 165) (by decide +kernel)⟩, ⟨tz_P (k := 160) (x := 166) (by decide +kernel), tz_sh (k := 166) (by decide +kernel)⟩, ⟨tz_P (k := 160) (x := 167) (by decide +kernel), tz_sh (k := 167) (by decide +kernel)⟩, ⟨tz_P (k := 160) (x := 168) (by decide +kernel), tz_sh (k := 168) (by decide +kernel)⟩, ⟨tz_P (k := 160) (x := 169) (by decide +kernel), tz_sh (k := 169) (by decide +kernel)⟩, ⟨tz_P (k := 160) (x := 170) (by decide +kernel), tz_sh (k := 170) (by decide +kernel)⟩, ⟨tz_P (k := 160) (x := 171) (by decide +kernel), tz_sh (k := 171) (by decide +kernel)⟩, ⟨tz_P (k := 160) (x := 172) (by decide +kernel), tz_sh (k := 172) (by decide +kernel)⟩, ⟨tz_P (k := 160) (x := 173) (by decide +kernel), tz_sh (k := 173) (by decide +kernel)⟩, ⟨tz_P (k := 160) (x := 174) (by decide +kernel), tz_sh (k := 174) (by decide +kernel)⟩, ⟨tz_P (k := 160) (x := 175) (by decide +kernel), tz_sh (k := 175) (by decide +kernel)⟩, ⟨tz_P (k := 160) (x := 176) (by decide +kernel), tz_sh (k := 176) (by decide +kernel)⟩, ⟨tz_P (k := 160) (x := 177) (by decide +kernel), tz_sh (k := 177) (by decide +kernel)⟩, ⟨tz_P (k := 160) (x := 178) (by decide +kernel), tz_sh (k := 178) (by decide +kernel)⟩, ⟨tz_P (k := 160) (x := 179) (by decide +kernel), tz_sh (k := 179) (by decide +kernel)⟩⟩
def tz_S : tp_S := (fun j => if j = 0 then 0 else if j = 1 then 3 else 4, fun _ => 0, fun _ _ _ => 0, fun _ _ => 0)
def tz_C : tp_C := (tz_S, (0, fun _ => tz_S), fun _ => 0, fun _ => tz_S, fun _ => 0, 0)
theorem tz_Sok : pSok tz_S := ⟨by decide, by decide, by decide, fun t _ => ⟨Nat.zero_le _, fun k hk => absurd hk (Nat.not_lt_zero k), fun _ _ => show (0 : Nat) < 1000 by decide⟩⟩
theorem tz_Cok : pOk tz_C := ⟨tz_Sok, ⟨Nat.zero_le _, fun i hi => absurd hi (Nat.not_lt_zero i)⟩, fun _ _ => ⟨show (0 : Nat) < 2 by decide, fun z => absurd z (show ¬ (0 : Nat) = 1 by decide)⟩, Nat.zero_le _, fun i hi => absurd hi (Nat.not_lt_zero i)⟩
theorem tz_K {t : Nat} (ht : t < 2) : tp_Kf tz_S 2 t = 0 := tp_Kf_one ht ⟨by decide, fun j hj => absurd hj (Nat.not_lt_zero j), fun _ => Nat.zero_le _⟩
theorem tz_run : tp_res tz_S 2 = tp_R0 := by
  unfold tp_res tp_run
  show tp_sched tz_S (tp_Kf tz_S 2) 2 (tz_S.1 0) (4095 + 1) 0 tp_R0 = tp_R0
  unfold tp_sched
  rw [if_neg]
  rintro (h | h)
  · rw [tz_K (by decide)] at h
    exact absurd h (Nat.not_lt_zero _)
  · rw [tz_K (by decide)] at h
    exact absurd h (Nat.not_lt_zero _)
theorem tz_z0 {k a : Nat} (h : tz_z k) (e : a = base + k) (j : Nat) : (tr_mk base tr_CS).2.2.2 a j = nI 0 := by
  rw [e]; exact tz_I0 h j
theorem tz_pCI : pCI (tr_mk base tr_CS).2.2.2 base 0 tz_C := by
  have hz : ∀ k, k < 37 → k ≠ 2 → tz_z k := by decide +kernel
  have hz1 : tz_z 71 ∧ tz_z 76 ∧ tz_z 159 := by decide +kernel
  have hz' : ∀ k a j, a = base + k → k < 160 → k ≠ 2 → (k < 37 ∨ k = 71 ∨ k = 76 ∨ k = 159) → (tr_mk base tr_CS).2.2.2 a j = nI 0 := by
    intro k a j e h1 h2 h3
    refine tz_z0 ?_ e j
    rcases h3 with h3 | rfl | rfl | rfl
    · exact hz k h3 h2
    · exact hz1.1
    · exact hz1.2.1
    · exact hz1.2.2
  refine ⟨⟨fun j hj => ?_, fun t ht => ⟨?_, fun k hk => absurd hk (Nat.not_lt_zero k), fun j hj => ?_⟩⟩, ⟨0, ?_, ?_, ?_, by decide⟩, ⟨?_, fun i hi => absurd hi (Nat.not_lt_zero i)⟩, ⟨0, by decide, Nat.zero_le _, ?_, ?_, fun i hi => absurd hi (Nat.not_lt_zero i)⟩, fun i hi => ⟨?_, fun z => absurd z (show ¬ (0 : Nat) = 1 by decide)⟩⟩
  · have h2 : ∀ j, j < 3 → tz_i 2 j (nI (tz_S.1 j)) := by decide +kernel
    exact tz_I (h2 j hj)
  · exact hz' (pPg 1 0 t) _ _ (by unfold pPg; omega) (by unfold pPg; omega) (by unfold pPg; omega) (by unfold pPg; omega)
  · exact hz' (pFv 1 0 t) _ _ (by unfold pFv; omega) (by unfold pFv; omega) (by unfold pFv; omega) (by unfold pFv; omega)
  · intro t ht
    have hK : tp_Kf tz_C.1 2 t = 0 := tz_K ht
    rw [hK]
    refine ⟨⟨by decide, fun j hj => absurd hj (Nat.not_lt_zero j), fun _ => Nat.zero_le _⟩, hz' (13 + 3 * t) _ _ (by omega) (by omega) (by omega) (by omega), ?_, fun j hj => absurd hj (Nat.not_lt_zero j), fun j hj => hz' (15 + 3 * t) _ _ (by omega) (by omega) (by omega) (by omega)⟩
    rw [if_neg (show ¬ tp_od tz_C.1 t 0 < tz_C.1.2.1 t from Nat.not_lt_zero _)]
    exact hz' (13 + 3 * t) _ _ (by omega) (by omega) (by omega) (by omega)
  · show pRI _ _ (tp_res tz_S 2)
    rw [tz_run]
    intro t ht
    exact ⟨hz' 19 _ _ (by omega) (by omega) (by omega) (by omega), hz' 20 _ _ (by omega) (by omega) (by omega) (by omega), fun j hj => absurd hj (Nat.not_lt_zero j), fun k _ _ => hz' (28 + t) _ _ (by omega) (by omega) (by omega) (by omega), fun r _ => hz' (32 + t) _ _ (by omega) (by omega) (by omega) (by omega), hz' 34 _ _ (by omega) (by omega) (by omega) (by omega), fun z => absurd z (Nat.not_lt_zero _)⟩
  · show pRB _ (tp_res tz_S 2) 0
    rw [tz_run]
    exact pRB_0
  · exact hz' 71 _ _ rfl (by omega) (by omega) (by omega)
  · exact hz' 76 _ _ rfl (by omega) (by omega) (by omega)
  · exact hz' 76 _ _ rfl (by omega) (by omega) (by omega)
  · exact hz' 159 _ _ rfl (by omega) (by omega) (by omega)
theorem tz_pMc : pMc (tr_mk base tr_CS).2.2.2 (base + 160) tz_C := by
  have h161 : ∀ q, 3 ≤ q → (tr_mk base tr_CS).2.2.2 (base + 160 + 1) q = nI 0 := by
    intro q hq
    have hc : (tr_CS[161]?).map (fun c => c.2.2.2) = some [(2, 4), (1, 3)] := by decide +kernel
    obtain ⟨c, hc1, hc2⟩ := Option.map_eq_some_iff.mp hc
    show (tr_mk base tr_CS).2.2.2 (base + 161) q = nI 0
    rw [tr_I_mk, hc1, Option.bind_some, hc2]
    have h2 : (q == 2) = false := by simp; omega
    have h1 : (q == 1) = false := by simp; omega
    simp only [List.lookup, h2, h1]
    rfl
  refine ⟨⟨fun j hj => ?_, fun t ht => ⟨h161 _ (by omega), fun k hk => absurd hk (Nat.not_lt_zero k), fun j hj => h161 _ (by omega)⟩⟩, ⟨Nat.zero_le _, tz_I0 (k := 160) (by decide +kernel) 2, fun i hi => absurd hi (Nat.not_lt_zero i)⟩, fun i hi => ⟨tz_I0 (k := 164) (by decide +kernel) i, fun z => absurd z (show ¬ (0 : Nat) = 1 by decide)⟩, fun j hj => absurd hj (Nat.not_lt_zero j), tz_I0 (k := 160) (by decide +kernel) 6⟩
  have h2 : ∀ j, j < 3 → tz_i 161 (0 + j) (nI (tz_S.1 j)) := by decide +kernel
  exact tz_I (h2 j hj)
theorem tz_pV (base : Nat) : pV base (tr_mk base tr_CS) := ⟨tz_C, 0, tz_Cok, tz_pCl, tz_pMo, tz_pCI, tz_pMc⟩
end TZC
