/-! The calls, one by one: class and reference answer alike. -/
section TPD
variable {b : Nat} {σ : tw_St} {x1 x2 x3 : Int32}
theorem o_wipe (h : pV b σ) : ∃ y σ1 σ2, fX7_wipe σ b = some (y, σ1) ∧ fX8_wipe σ1 (b + 160) = some (y, σ2) ∧ pV b σ2 := by
  obtain ⟨n, sh, P, I⟩ := σ
  obtain ⟨C, sw, hok, hl, hm, hI, hM⟩ := h
  dsimp only at hl hm hI hM
  have hl' := hl
  obtain ⟨l0, l1, l2, l3, l4, l5, l6, l7, l8⟩ := hl'
  obtain ⟨i1, i2, i3, i4, i5⟩ := hI
  obtain ⟨m1, m2, m3, m4, m5⟩ := hM
  refine ⟨nI C.2.2.2.2.2, (n, sh, P, tw_up I (b + 71) 0 (nI 0)), (n, sh, P, tw_up (tw_up I (b + 71) 0 (nI 0)) (b + 160) 6 (nI 0)), ?_, ?_, tp_cT C C.2.2.2.2.1 0, sw, ⟨hok.1, hok.2.1, hok.2.2.1, Nat.zero_le _, fun i hi => absurd hi (Nat.not_lt_zero i)⟩, hl, hm, ?_, ?_⟩
  · unfold fX7_wipe
    rw [tp_0, c_is hl, Option.bind_some, c_P4 hl, Option.bind_some, e_gI l5.2.2.2.2.1, Option.bind_some, Option.bind_some, e_pI l5.2.2.2.2.1, Option.bind_some, i3.1]
  · unfold fX8_wipe
    rw [tp_0, q_is hm, Option.bind_some, q_gI hm, Option.bind_some, q_pI hm, Option.bind_some, tw_up_a (by omega), m5]
  · refine pCI.kept (I := tw_up I (b + 71) 0 (nI 0)) ⟨i1.kept (fun c x y => tw_up_a (by omega)), i2.kept (fun c x y _ => tw_up_a (by omega)), ⟨tw_up_at, fun i hi => absurd hi (Nat.not_lt_zero i)⟩, i4.kept (fun c x y => tw_up_a (by omega)), fun i hi => ⟨by rw [tw_up_a (by omega)]; exact (i5 i hi).1, fun z => ((i5 i hi).2 z).kept (fun c x y => tw_up_a (by omega))⟩⟩ (fun c hc => tw_up_a (by omega))
  · show pMc (tw_up (tw_up I (b + 71) 0 (nI 0)) (b + 160) 6 (nI 0)) (b + 160) (tp_cT C C.2.2.2.2.1 0)
    exact ⟨m1.keep (by rw [tw_up_a (by omega), tw_up_a (by omega)]), m2.kept (by rw [tw_up_k (by decide), tw_up_a (by omega)]) (by rw [tw_up_a (by omega), tw_up_a (by omega)]), fun i hi => ⟨by rw [tw_up_a (by omega), tw_up_a (by omega)]; exact (m3 i hi).1, fun z => ((m3 i hi).2 z).keep (by rw [tw_up_a (by omega), tw_up_a (by omega)])⟩, fun j hj => absurd hj (Nat.not_lt_zero j), tw_up_at⟩
end TPD
