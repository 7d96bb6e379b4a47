section TPOF
variable {b : Nat} {σ : tw_St}
theorem pCI.reader {I I' : Nat → Nat → Int32} {sw : Nat} {C : tp_C} (h : pCI I b sw C) (f : ∀ c, c ≠ b + 73 → c ≠ b + 73 + 1 → c ≠ b + 73 + 2 → c < b + 160 → I' c = I c) : pCI I' b sw C := by
  obtain ⟨i1, i2, i3, i4, i5⟩ := h
  exact ⟨i1.kept (fun c x y => f c (by omega) (by omega) (by omega) (by omega)), i2.kept (fun c x y _ => f c (by omega) (by omega) (by omega) (by omega)), i3.kept (f _ (by omega) (by omega) (by omega) (by omega)) (f _ (by omega) (by omega) (by omega) (by omega)), i4.kept (fun c x y => f c (by omega) (by omega) (by omega) (by omega)), fun i hi => ⟨by rw [f _ (by omega) (by omega) (by omega) (by omega)]; exact (i5 i hi).1, fun z => ((i5 i hi).2 z).kept (fun c x y => f c (by omega) (by omega) (by omega) (by omega))⟩⟩
theorem pMc.reader {I I' : Nat → Nat → Int32} {m : Nat} {C : tp_C} (h : pMc I m C) (f : ∀ c, c ≠ m → c ≠ m + 6 → m ≤ c → I' c = I c) (g : ∀ k, k ≠ 8 → k ≠ 9 → k ≠ 10 → I' m k = I m k) : pMc I' m C := by
  obtain ⟨m1, m2, m3, m4, m5⟩ := h
  exact ⟨m1.keep (f _ (by omega) (by omega) (by omega)), m2.kept (g 2 (by decide) (by decide) (by decide)) (f _ (by omega) (by omega) (by omega)), fun i hi => ⟨by rw [f _ (by omega) (by omega) (by omega)]; exact (m3 i hi).1, fun z => ((m3 i hi).2 z).keep (f _ (by omega) (by omega) (by omega))⟩, fun j hj => by rw [f _ (by omega) (by omega) (by omega)]; exact m4 j hj, by rw [g 6 (by decide) (by decide) (by decide)]; exact m5⟩
theorem o_fault (h : pV b σ) : ∃ r σ1 σ2, fX7_fault σ b = some (r, σ1) ∧ fX8_fault σ1 (b + 160) = some (r, σ2) ∧ pV b σ2 := by
  obtain ⟨n, sh, P, I⟩ := σ
  obtain ⟨C, sw, hok, hl, hm, hI, hM⟩ := h
  dsimp only at hl hm hI hM
  obtain ⟨I1, e1, r1, f1⟩ := p_read (n := n) hl.2.2.2.2.2.1 hok.2.2.2 hI.2.2.1
  obtain ⟨I2, e2, r2, f2, k2⟩ := q_faultOf (n := n) (I := I1) (T := C.2.2.2.2.1) (L := C.2.2.2.2.2) hm hok.2.2.2 ⟨fun j hj => by rw [f1 _ (by omega) (by omega) (by omega)]; exact hM.2.2.2.1 j hj, by rw [f1 _ (by omega) (by omega) (by omega)]; exact hM.2.2.2.2⟩
  refine ⟨(tp_text C.2.2.2.2.1 C.2.2.2.2.2).1, (n, sh, P, I1), (n, sh, P, I2), ?_, ?_, pV.same hok hl hm ((hI.reader (fun c c1 c2 c3 _ => f1 c c1 c2 c3)).kept (fun c hc => f2 c (by omega) (by omega))) ((hM.kept (fun c hc => f1 c (by omega) (by omega) (by omega))).reader (fun c c1 c2 _ => f2 c c1 c2) k2)⟩
  · unfold fX7_fault
    rw [c_is hl, Option.bind_some, c_P5 hl, Option.bind_some, e1, Option.bind_some]
  · unfold fX8_fault
    rw [q_is hm, Option.bind_some, e2, Option.bind_some]
end TPOF
