/-! The law's loop. -/
theorem tw_sc_at (xs : Nat → Int32) {L q : Nat} (h : q < L) (hL : L ≤ 2048) : tw_sc xs L (nI q) = some (xs q) := by
  unfold tw_sc
  rw [nI_clamp (show q < 2 ^ 31 by omega), if_pos ⟨nI_neg (by omega), h⟩]
theorem tw_more {L i : Nat} (hL : L ≤ 2048) (hi : 4 * i ≤ 2048) : (Int32.ofNat L - 4 < nI (4 * i)) ↔ L < 4 * i + 4 := by
  have e : Int32.ofNat L - 4 = nI L - nI 4 := rfl
  rw [e, Int32.lt_iff_toInt_lt, pk_sub_toInt (by omega) (by omega), nI_toInt (by omega)]
  omega
set_option maxHeartbeats 4000000 in
theorem tw_body (xs : Nat → Int32) {L i b : Nat} (hL : L ≤ 2048) (hi : 4 * i ≤ 2048) {σ : tw_St} (hv : pV b σ) (f : tw_St → Nat → Nat → Int32 → Option Int32) (ih : ∀ σ', pV b σ' → 4 * (i + 1) ≤ 2048 → f σ' b (b + 160) (nI (4 * (i + 1))) = some 1) : fL_law_h18 xs L f σ b (b + 160) (nI (4 * i)) = some 1 := by
  unfold fL_law_h18
  by_cases e : L < 4 * i + 4
  · rw [if_pos ((tw_more hL hi).mpr e)]
  · have s0 : tw_sc xs L (nI (4 * i)) = some (xs (4 * i)) := tw_sc_at xs (by omega) hL
    have s1 : tw_sc xs L (nI (4 * i) + 1) = some (xs (4 * i + 1)) := by
      rw [tp_1, nI_add]; exact tw_sc_at xs (by omega) hL
    have s2 : tw_sc xs L (nI (4 * i) + 2) = some (xs (4 * i + 2)) := by
      rw [show (2 : Int32) = nI 2 from rfl, nI_add]; exact tw_sc_at xs (by omega) hL
    have s3 : tw_sc xs L (nI (4 * i) + 3) = some (xs (4 * i + 3)) := by
      rw [show (3 : Int32) = nI 3 from rfl, nI_add]; exact tw_sc_at xs (by omega) hL
    have next : ∀ σ', pV b σ' → fL_law_b732 xs L f σ' b (b + 160) (nI (4 * i)) = some 1 := by
      intro σ' h'
      unfold fL_law_b732
      rw [show (4 : Int32) = nI 4 from rfl, nI_add]
      exact ih σ' h' (by omega)
    rw [if_neg (fun z => e ((tw_more hL hi).mp z)), s0, Option.bind_some]
    generalize xs (4 * i) &&& 31 = v
    by_cases h0 : v = 0
    · rw [if_pos h0]
      obtain ⟨y, σ1, σ2, e1, e2, h2⟩ := o_set hv (xs (4 * i + 1)) (xs (4 * i + 2))
      rw [s1, s2, Option.bind_some, Option.bind_some, e1, Option.bind_some, Option.bind_some, Option.bind_some]
      dsimp only
      rw [e2, Option.bind_some, if_pos rfl]
      exact next _ h2
    rw [if_neg h0]
    by_cases h1 : v = 1
    · rw [if_pos h1]
      obtain ⟨y, σ1, σ2, e1, e2, h2⟩ := o_put hv ((xs (4 * i + 1)).toInt64 <<< ((32 : Int32).toInt64 &&& 63) ||| ((xs (4 * i + 2)).toInt64 &&& 4294967295))
      rw [s1, s2, Option.bind_some, Option.bind_some, e1, Option.bind_some, Option.bind_some, Option.bind_some]
      dsimp only
      rw [e2, Option.bind_some, if_pos rfl]
      exact next _ h2
    rw [if_neg h1]
    by_cases h2 : v = 2
    · rw [if_pos h2]
      obtain ⟨y, σ1, σ2, e1, e2, h2⟩ := o_wipe hv 
      rw [e1, Option.bind_some]
      dsimp only
      rw [e2, Option.bind_some, if_pos rfl]
      exact next _ h2
    rw [if_neg h2]
    by_cases h3 : v = 3
    · rw [if_pos h3]
      obtain ⟨y, σ1, σ2, e1, e2, h2⟩ := o_fault hv 
      rw [e1, Option.bind_some]
      dsimp only
      rw [e2, Option.bind_some, if_pos rfl]
      exact next _ h2
    rw [if_neg h3]
    by_cases h4 : v = 4
    · rw [if_pos h4]
      obtain ⟨y, σ1, σ2, e1, e2, h2⟩ := o_program hv (xs (4 * i + 1))
      rw [s1, Option.bind_some, e1, Option.bind_some, Option.bind_some]
      dsimp only
      rw [e2, Option.bind_some, if_pos rfl]
      exact next _ h2
    rw [if_neg h4]
    by_cases h5 : v = 5
    · rw [if_pos h5]
      obtain ⟨y, σ1, σ2, e1, e2, h2⟩ := o_drop hv (xs (4 * i + 1))
      rw [s1, Option.bind_some, e1, Option.bind_some, Option.bind_some]
      dsimp only
      rw [e2, Option.bind_some, if_pos rfl]
      exact next _ h2
    rw [if_neg h5]
    by_cases h6 : v = 6
    · rw [if_pos h6]
      obtain ⟨y, σ1, σ2, e1, e2, h2⟩ := o_first hv (xs (4 * i + 1)) (xs (4 * i + 2)) (xs (4 * i + 3))
      rw [s1, s2, s3, Option.bind_some, Option.bind_some, Option.bind_some, e1, Option.bind_some, Option.bind_some, Option.bind_some, Option.bind_some]
      dsimp only
      rw [e2, Option.bind_some, if_pos rfl]
      exact next _ h2
    rw [if_neg h6]
    by_cases h7 : v = 7
    · rw [if_pos h7]
      obtain ⟨y, σ1, σ2, e1, e2, h2⟩ := o_exchange hv 
      rw [e1, Option.bind_some]
      dsimp only
      rw [e2, Option.bind_some, if_pos rfl]
      exact next _ h2
    rw [if_neg h7]
    by_cases h8 : v = 8
    · rw [if_pos h8]
      obtain ⟨y, e1, e2⟩ := o_ofOrder hv (xs (4 * i + 1)) (xs (4 * i + 2)) (xs (4 * i + 3))
      rw [s1, s2, s3, Option.bind_some, Option.bind_some, Option.bind_some, e1, Option.bind_some, Option.bind_some, Option.bind_some, Option.bind_some]
      rw [e2, Option.bind_some, if_pos rfl]
      exact next _ hv
    rw [if_neg h8]
    by_cases h9 : v = 9
    · rw [if_pos h9]
      obtain ⟨y, σ2, e1, e2, h2⟩ := o_ofThread hv (xs (4 * i + 1)) (xs (4 * i + 2))
      rw [s1, s2, Option.bind_some, Option.bind_some, e1, Option.bind_some, Option.bind_some, Option.bind_some]
      rw [e2, Option.bind_some, if_pos rfl]
      exact next _ h2
    rw [if_neg h9]
    by_cases h10 : v = 10
    · rw [if_pos h10]
      obtain ⟨y, σ2, e1, e2, h2⟩ := o_last hv (xs (4 * i + 1)) (xs (4 * i + 2))
      rw [s1, s2, Option.bind_some, Option.bind_some, e1, Option.bind_some, Option.bind_some, Option.bind_some]
      rw [e2, Option.bind_some, if_pos rfl]
      exact next _ h2
    rw [if_neg h10]
    by_cases h11 : v = 11
    · rw [if_pos h11]
      obtain ⟨y, σ2, e1, e2, h2⟩ := o_ofStep hv (xs (4 * i + 1)) (xs (4 * i + 2)) (xs (4 * i + 3))
      rw [s1, s2, s3, Option.bind_some, Option.bind_some, Option.bind_some, e1, Option.bind_some, Option.bind_some, Option.bind_some, Option.bind_some]
      rw [e2, Option.bind_some, if_pos rfl]
      exact next _ h2
    rw [if_neg h11]
    by_cases h12 : v = 12
    · rw [if_pos h12]
      obtain ⟨y, σ2, e1, e2, h2⟩ := o_at hv (xs (4 * i + 1)) (xs (4 * i + 2))
      rw [s1, s2, Option.bind_some, Option.bind_some, e1, Option.bind_some, Option.bind_some, Option.bind_some]
      rw [e2, Option.bind_some, if_pos rfl]
      exact next _ h2
    rw [if_neg h12]
    by_cases h13 : v = 13
    · rw [if_pos h13]
      obtain ⟨y, σ2, e1, e2, h2⟩ := o_count hv (xs (4 * i + 1))
      rw [s1, Option.bind_some, e1, Option.bind_some, Option.bind_some]
      rw [e2, Option.bind_some, if_pos rfl]
      exact next _ h2
    rw [if_neg h13]
    by_cases h14 : v = 14
    · rw [if_pos h14]
      obtain ⟨y, σ1, σ2, e1, e2, h2⟩ := o_alone hv (xs (4 * i + 1))
      rw [s1, Option.bind_some, e1, Option.bind_some, Option.bind_some]
      dsimp only
      rw [e2, Option.bind_some, if_pos rfl]
      exact next _ h2
    rw [if_neg h14]
    by_cases h15 : v = 15
    · rw [if_pos h15]
      obtain ⟨y, σ1, σ2, e1, e2, h2⟩ := o_lengthWith hv (xs (4 * i + 1))
      rw [s1, Option.bind_some, e1, Option.bind_some, Option.bind_some]
      dsimp only
      rw [e2, Option.bind_some, if_pos rfl]
      exact next _ h2
    rw [if_neg h15]
    by_cases h16 : v = 16
    · rw [if_pos h16]
      obtain ⟨y, σ1, σ2, e1, e2, h2⟩ := o_bestTurns hv 
      rw [e1, Option.bind_some]
      dsimp only
      rw [e2, Option.bind_some, if_pos rfl]
      exact next _ h2
    rw [if_neg h16]
    by_cases h17 : v = 17
    · rw [if_pos h17]
      obtain ⟨y, σ1, σ2, e1, e2, h2⟩ := o_lengthWithout hv (xs (4 * i + 1))
      rw [s1, Option.bind_some, e1, Option.bind_some, Option.bind_some]
      dsimp only
      rw [e2, Option.bind_some, if_pos rfl]
      exact next _ h2
    rw [if_neg h17]
    by_cases h18 : v = 18
    · rw [if_pos h18]
      obtain ⟨y, σ1, σ2, e1, e2, h2⟩ := o_bestExchange hv (xs (4 * i + 1)) (xs (4 * i + 2))
      rw [s1, s2, Option.bind_some, Option.bind_some, e1, Option.bind_some, Option.bind_some, Option.bind_some]
      dsimp only
      rw [e2, Option.bind_some, if_pos rfl]
      exact next _ h2
    rw [if_neg h18]
    by_cases h19 : v = 19
    · rw [if_pos h19]
      obtain ⟨y, σ1, σ2, e1, e2, h2⟩ := o_undo hv 
      rw [e1, Option.bind_some]
      dsimp only
      rw [e2, Option.bind_some, if_pos rfl]
      exact next _ h2
    rw [if_neg h19]
    by_cases h20 : v = 20
    · rw [if_pos h20]
      obtain ⟨y, σ1, σ2, e1, e2, h2⟩ := o_save hv (xs (4 * i + 1))
      rw [s1, Option.bind_some, e1, Option.bind_some, Option.bind_some]
      dsimp only
      rw [e2, Option.bind_some, if_pos rfl]
      exact next _ h2
    rw [if_neg h20]
    by_cases h21 : v = 21
    · rw [if_pos h21]
      obtain ⟨y, σ1, σ2, e1, e2, h2⟩ := o_restore hv (xs (4 * i + 1))
      rw [s1, Option.bind_some, e1, Option.bind_some, Option.bind_some]
      dsimp only
      rw [e2, Option.bind_some, if_pos rfl]
      exact next _ h2
    rw [if_neg h21]
    exact next _ hv
theorem tw_pure (base L : Nat) (xs : Nat → Int32) (hL : L ≤ 2048) : fL_law xs L (tw_0 base) = some 1 := by
  rw [tr_made, tp_0]
  exact tp_it (S := tw_St × Nat) (fun _ _ _ _ => none) (fL_law_h18 xs L) (fun f s => f s.1 base (base + 160) (nI (4 * s.2)))
    (fun s => pV base s.1 ∧ 4 * s.2 ≤ 2048) (fun s => 600 - s.2) (fun _ r => r = some 1)
    (by
      rintro f ⟨σ, i⟩ ⟨i1, i2⟩ ih
      dsimp only at i1 i2 ih ⊢
      exact tw_body xs hL i2 i1 f (fun σ' h' hi' => ih (σ', i + 1) ⟨h', hi'⟩ (by dsimp only; omega))) tw_F (tr_mk base tr_CS, 0) ⟨tz_pV base, (show 4 * 0 ≤ 2048 from by decide)⟩ (tw_F_big (by dsimp only; omega))
