section TPOP
variable {b : Nat} {σ : tw_St}
theorem pV.same {n : Nat} {sh : tw_Sh} {P : Nat → Nat → Option Nat} {I : Nat → Nat → Int32} {C : tp_C} {sw : Nat} (hok : pOk C) (hl : pCl sh P b sw) (hm : pMo sh P (b + 160)) (hI : pCI I b sw C) (hM : pMc I (b + 160) C) : pV b (n, sh, P, I) := ⟨C, sw, hok, hl, hm, hI, hM⟩
theorem o_put (h : pV b σ) (y : Int64) : ∃ r σ1 σ2, fX7_put σ b y = some (r, σ1) ∧ fX8_put σ1 (b + 160) y = some (r, σ2) ∧ pV b σ2 := by
  obtain ⟨n, sh, P, I⟩ := σ
  obtain ⟨C, sw, hok, hl, hm, hI, hM⟩ := h
  dsimp only at hl hm hI hM
  have hl' := hl
  obtain ⟨l0, l1, l2, l3, l4, l5, l6, l7, l8⟩ := hl'
  have hI' := hI
  have hM' := hM
  obtain ⟨i1, i2, i3, i4, i5⟩ := hI'
  obtain ⟨m1, m2, m3, m4, m5⟩ := hM'
  have hx := hok.2.2.2
  have hL := hx.1
  obtain ⟨n8, hn8⟩ : ∃ q, q = tp_cc 8 (tp_lw y) 0 := ⟨_, rfl⟩
  have hq : ∀ J : Nat → Nat → Int32, fX8_put (n, sh, P, J) (b + 160) y = if n8 = 0 then some (-2, (n, sh, P, J)) else (tw_gI (n, sh, P, J) 8 (b + 160) 6).bind fun v => if v + nI n8 ≤ 80 then fX8_put_l85 tw_F (n, sh, P, J) (b + 160) (nI n8) y (nI n8 - 1) else some (-4, (n, sh, P, J)) := by
    intro J
    unfold fX8_put
    rw [q_is hm, Option.bind_some, tp_0, q_put5 (n, sh, P, J) y 8 0 tw_F y (by have := tp_lw_lt y; omega) (by decide) (by decide), ← hn8]
  have hc : fX1_charactersIn (n, sh, P, I) y = some (nI n8) := by rw [p_charactersIn, ← hn8]
  by_cases e : n8 = 0
  · refine ⟨-2, (n, sh, P, I), (n, sh, P, I), ?_, by rw [hq, if_pos e], pV.same hok hl hm hI hM⟩
    unfold fX7_put
    rw [c_is hl, Option.bind_some, hc, Option.bind_some, if_pos (by rw [e]; rfl)]
  · obtain ⟨-, h8, hch⟩ := tp_cc_in 8 (tp_lw y) 0 (by rw [← hn8]; exact e)
    rw [← hn8] at h8
    have hne : ¬ nI n8 = 0 := fun z => e ((nI_eq (by omega) (by decide)).mp (z.trans tp_0))
    have hg : I (b + 71) 0 = nI C.2.2.2.2.2 := i3.1
    by_cases e2 : C.2.2.2.2.2 + n8 ≤ 80
    · have hle : nI (C.2.2.2.2.2 + n8) ≤ 80 := nI_le e2 (by decide)
      obtain ⟨I1, e1, t1, f1⟩ := p_append (n := n) (I := I) (pd := b + 71) (y := y) (q := n8) ⟨l5.2.2.2.2.1, l5.2.2.2.2.2.1, l5.2.2.2.2.2.2.1⟩ i3 (by omega) e2
      obtain ⟨I2, g1, t2, f2, k2⟩ := q_put85 (n := n) (I := I1) (m := b + 160) (L := C.2.2.2.2.2) (T := C.2.2.2.2.1) (y := y) (q := n8) hm ⟨fun j hj => by rw [f1 _ (by omega) (by omega)]; exact m4 j hj, by rw [f1 _ (by omega) (by omega)]; exact m5⟩ (by omega) e2 e
      refine ⟨nI (C.2.2.2.2.2 + n8), (n, sh, P, I1), (n, sh, P, I2), ?_, ?_, pV.same (C := tp_cT C (tp_app C.2.2.2.2.1 C.2.2.2.2.2 (tp_lw y) n8) (C.2.2.2.2.2 + n8)) (sw := sw) ⟨hok.1, hok.2.1, hok.2.2.1, tp_app_ok hx hn8.symm e e2⟩ hl hm ?_ ?_⟩
      · unfold fX7_put
        rw [c_is hl, Option.bind_some, hc, Option.bind_some, if_neg hne, c_P4 hl, Option.bind_some, e_gI l5.2.2.2.2.1, Option.bind_some, hg, nI_add, if_pos hle, Option.bind_some, e1, Option.bind_some, c_P4 hl, Option.bind_some, e_gI l5.2.2.2.2.1, Option.bind_some, t1.1]
      · rw [hq, if_neg e, q_gI hm, Option.bind_some, f1 _ (by omega) (by omega), m5, nI_add, if_pos hle]
        exact g1
      · refine pCI.kept (I := I1) ⟨i1.kept (fun c x y => f1 _ (by omega) (by omega)), i2.kept (fun c x y _ => f1 _ (by omega) (by omega)), t1, i4.kept (fun c x y => f1 _ (by omega) (by omega)), fun i hi => ⟨by rw [f1 _ (by omega) (by omega)]; exact (i5 i hi).1, fun z => ((i5 i hi).2 z).kept (fun c x y => f1 _ (by omega) (by omega))⟩⟩ (fun c hc => f2 c (by omega) (by omega))
      · exact ⟨m1.keep (by rw [f2 _ (by omega) (by omega), f1 _ (by omega) (by omega)]), m2.kept (by rw [k2 2 (by decide), f1 _ (by omega) (by omega)]) (by rw [f2 _ (by omega) (by omega), f1 _ (by omega) (by omega)]), fun i hi => ⟨by rw [f2 _ (by omega) (by omega), f1 _ (by omega) (by omega)]; exact (m3 i hi).1, fun z => ((m3 i hi).2 z).keep (by rw [f2 _ (by omega) (by omega), f1 _ (by omega) (by omega)])⟩, t2.1, t2.2⟩
    · have hle : ¬ nI (C.2.2.2.2.2 + n8) ≤ 80 := nI_ge (show 80 < C.2.2.2.2.2 + n8 by omega) (by omega)
      refine ⟨-4, (n, sh, P, I), (n, sh, P, I), ?_, ?_, pV.same hok hl hm hI hM⟩
      · unfold fX7_put
        rw [c_is hl, Option.bind_some, hc, Option.bind_some, if_neg hne, c_P4 hl, Option.bind_some, e_gI l5.2.2.2.2.1, Option.bind_some, hg, nI_add, if_neg hle]
      · rw [hq, if_neg e, q_gI hm, Option.bind_some, m5, nI_add, if_neg hle]
end TPOP
