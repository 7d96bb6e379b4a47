section TPOL
variable {b : Nat} {σ : tw_St}
theorem q_runC {n : Nat} {sh : tw_Sh} {P : Nat → Nat → Option Nat} {I : Nat → Nat → Int32} {m : Nat} {C : tp_C} (hm : pMo sh P m) (hok : pOk C) (hM : pMc I m C) : ∃ I', fX8_run (n, sh, P, I) m = some (nI (tp_len (tp_res C.1 2)), (n, sh, P, I')) ∧ pMD I' m C.1 (tp_Kf C.1 2) (tp_res C.1 2) 2 ∧ pMc I' m C ∧ ∀ c, (c < m + 7 ∨ m + 19 ≤ c) → I' c = I c := by
  obtain ⟨I', e, h1, f⟩ := q_run (n := n) hm hok.1 hM.1
  obtain ⟨m1, m2, m3, m4, m5⟩ := hM
  exact ⟨I', e, h1, ⟨m1.keep (f _ (by omega)), m2.kept (by rw [f _ (by omega)]) (f _ (by omega)), fun i hi => ⟨by rw [f _ (by omega)]; exact (m3 i hi).1, fun z => ((m3 i hi).2 z).keep (f _ (by omega))⟩, fun j hj => by rw [f _ (by omega)]; exact m4 j hj, by rw [f _ (by omega)]; exact m5⟩, f⟩
theorem pMD.all {I : Nat → Nat → Int32} {m ab t : Nat} {S : tp_S} {K : Nat → Nat} {R : tp_R} (h : pMD I m S K R ab) (ht : t < 2) : R.1 t = K t := by
  obtain ⟨tk, -, hB, -, -, hl⟩ := h
  have h1 := (hB t ht).1
  have h2 : ¬ R.1 t < K t := by
    intro z
    rcases (show t = 0 ∨ t = 1 by omega) with rfl | rfl
    · exact hl (Or.inl z)
    · exact hl (Or.inr z)
  omega
theorem o_last (h : pV b σ) (x1 x2 : Int32) : ∃ r σ2, fX7_last σ b x1 x2 = some r ∧ fX8_last σ (b + 160) x1 x2 = some (r, σ2) ∧ pV b σ2 := by
  obtain ⟨n, sh, P, I⟩ := σ
  obtain ⟨C, sw, hok, hl, hm, hI, hM⟩ := h
  dsimp only at hl hm hI hM
  have hv := pV.same (n := n) hok hl hm hI hM
  have hru := hl.2.2.1
  unfold fX7_last fX8_last
  rw [c_is hl, Option.bind_some, q_is hm, Option.bind_some, tp_0, show (11 : Int32) = nI 11 from rfl, show (12 : Int32) = nI 12 from rfl]
  rcases tp_th x1 with ⟨t, ht, rfl⟩ | hno
  · rw [c_thread _ ht, q_thread _ ht, Option.bind_some, Option.bind_some, if_neg (show ¬ nI 1 = nI 0 by decide), if_neg (show ¬ nI 1 = nI 0 by decide)]
    rcases tp_x x2 12 with hneg | ⟨a, ha, ha2, rfl⟩ | ⟨a, ha, ha2, rfl⟩
    · rw [if_pos (show x2 < nI 0 from hneg), q_in_neg _ hneg (by decide), Option.bind_some, if_pos rfl]
      exact ⟨_, _, rfl, rfl, hv⟩
    · obtain ⟨I', e, hD, hM', f⟩ := q_runC (n := n) hm hok hM
      have hall := hD.all ht
      obtain ⟨tk, hG, -⟩ := hD
      obtain ⟨tk', hF, -⟩ := hI.2.1
      have h1 := (hF t ht).2.2.2.2 a ha
      have hpa := (hru.2.2 t ht).2.1
      have hval := q_value (n := n) (t := t) (j := a) hm (hG t ht).2.2.2.2.2.1 ht ha
      rw [hall] at hval
      rw [if_neg (show ¬ nI a < nI 0 from nI_neg ha2), if_pos ((nI_ltI ha2 (by decide)).mpr ha), q_in _ ha2 (by decide) (by decide), if_pos (by omega)]
      rw [Option.bind_some, if_neg (show ¬ nI 1 = nI 0 by decide), e, c_P1 hl]
      simp only [Option.bind_some]
      rw [hval, r_P0 hru]
      simp only [Option.bind_some]
      rw [r_p1 hru ht]
      simp only [Option.bind_some]
      rw [e_gP hpa.1, hpa.2.2.1]
      simp only [Option.bind_some]
      rw [e_aI hpa.2.2.2.2 ha (by decide)]
      simp only [Option.bind_some, h1]
      exact ⟨_, _, rfl, rfl, pV.same hok hl hm (hI.kept (fun c hc => f c (by omega))) hM'⟩
    · rw [if_neg (show ¬ nI a < nI 0 from nI_neg ha2), if_neg (fun z => by have := (nI_ltI ha2 (by decide)).mp z; omega), q_in _ ha2 (by decide) (by decide), if_neg (by omega), Option.bind_some, if_pos rfl]
      exact ⟨_, _, rfl, rfl, hv⟩
  · rw [c_noThread _ hno, q_noThread _ hno, Option.bind_some, Option.bind_some, if_pos rfl, if_pos rfl]
    exact ⟨_, _, rfl, rfl, hv⟩
end TPOL
