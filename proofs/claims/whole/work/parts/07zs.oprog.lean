section TPOX
theorem tp_rd_ok (ch : Nat → Nat) (L : Nat) : ∀ (m i q : Nat) (o : Nat → Nat → Int32), (∀ k, k < q → pOrd (o k)) → (tp_rd ch L m i q o).2.1 ≤ q + m ∧ ∀ k, k < (tp_rd ch L m i q o).2.1 → pOrd ((tp_rd ch L m i q o).2.2 k)
  | 0, i, q, o, h => ⟨Nat.le_refl _, h⟩
  | m + 1, i, q, o, h => by
    unfold tp_rd
    split
    · exact ⟨by dsimp only; omega, h⟩
    · rename_i w e
      have hw : ∀ k, k < q + 1 → pOrd ((fun k => if k = q then w else o k) k) := by
        intro k hk
        dsimp only
        split
        · exact tp_ordr_ok e
        · exact h k (by omega)
      split
      · exact ⟨by dsimp only; omega, hw⟩
      · split
        · obtain ⟨g1, g2⟩ := tp_rd_ok ch L m ((tp_ordr ch i).1 + 1) (q + 1) _ hw
          exact ⟨by omega, g2⟩
        · exact ⟨by dsimp only; omega, hw⟩
theorem tp_text_ok (T : Nat → Nat) (L : Nat) : (tp_text T L).2.1 ≤ 81 ∧ ∀ k, k < (tp_text T L).2.1 → pOrd ((tp_text T L).2.2 k) := by
  have h := tp_rd_ok (tp_ch T L) L 81 0 0 (fun _ _ => 0) (fun k hk => absurd hk (Nat.not_lt_zero k))
  exact ⟨by have := h.1; unfold tp_text; omega, h.2⟩
variable {n : Nat} {sh : tw_Sh} {P : Nat → Nat → Option Nat} {I J : Nat → Nat → Int32} {b m sw t q : Nat} {C : tp_C} {S : tp_S} {o : Nat → Nat → Int32}
/-- the orders read are laid into the reference's state -/
theorem q_progLoop (hm : pMo sh P m) (ht : t < 2) (hq : q ≤ 12) (hR : pMRows I m q o) : ∃ J, fX8_program_l55 tw_F (n, sh, P, I) m (nI t) (nI 0) = some (nI q, (n, sh, P, J)) ∧ (∀ k, k < q → ∀ c, c < 5 → J (m + 1) (10 + 100 * t + 1 + 5 * k + c) = o k c) ∧ (∀ j, (j < 10 + 100 * t + 1 ∨ 10 + 100 * t + 61 ≤ j) → J (m + 1) j = I (m + 1) j) ∧ (∀ c, c ≠ m + 1 → c ≠ m → J c = I c) ∧ (∀ k, k ≠ 6 → J m k = I m k) ∧ J m 6 = nI 0 := by
  obtain ⟨hR8, hRo⟩ := hR
  exact tp_it (S := (Nat → Nat → Int32) × Nat) (fun _ _ _ _ => none) fX8_program_h55 (fun f s => f (n, sh, P, s.1) m (nI t) (nI s.2))
    (fun s => s.2 ≤ 5 * q ∧ (∀ j, j < s.2 → s.1 (m + 1) (10 + 100 * t + 1 + j) = I (m + 6) j) ∧ (∀ j, (j < 10 + 100 * t + 1 ∨ 10 + 100 * t + 61 ≤ j) → s.1 (m + 1) j = I (m + 1) j) ∧ ∀ c, c ≠ m + 1 → s.1 c = I c) (fun s => 5 * q - s.2)
    (fun _ r => ∃ J, r = some (nI q, (n, sh, P, J)) ∧ (∀ k, k < q → ∀ c, c < 5 → J (m + 1) (10 + 100 * t + 1 + 5 * k + c) = o k c) ∧ (∀ j, (j < 10 + 100 * t + 1 ∨ 10 + 100 * t + 61 ≤ j) → J (m + 1) j = I (m + 1) j) ∧ (∀ c, c ≠ m + 1 → c ≠ m → J c = I c) ∧ (∀ k, k ≠ 6 → J m k = I m k) ∧ J m 6 = nI 0)
    (by
      rintro f ⟨J, j⟩ ⟨i1, i2, i3, i4⟩ ih
      dsimp only at i1 i2 i3 i4 ih ⊢
      have e8 : J m 8 = nI q := by rw [i4 _ (by omega)]; exact hR8
      unfold fX8_program_h55
      rw [q_gI hm, Option.bind_some, e8, show (5 : Int32) = nI 5 from rfl, pk_mul]
      by_cases e : 5 * q ≤ j
      · rw [if_pos (show nI (5 * q) ≤ nI j from nI_le e (by omega))]
        unfold fX8_program_b93
        rw [tp_0, q_pI hm, Option.bind_some, q_gI hm, Option.bind_some, tw_up_k (by decide), e8]
        refine ⟨_, rfl, fun k hk c hc => ?_, fun j hj => by rw [tw_up_a (by omega)]; exact i3 j hj, fun c c1 c2 => by rw [tw_up_a c2]; exact i4 c c1, fun k hk => by rw [tw_up_k hk, i4 _ (by omega)], tw_up_at⟩
        rw [tw_up_a (by omega), show 10 + 100 * t + 1 + 5 * k + c = 10 + 100 * t + 1 + (5 * k + c) by omega, i2 _ (by omega)]
        exact hRo k hk c hc
      · rw [if_neg (show ¬ nI (5 * q) ≤ nI j from nI_ge (by omega) (by omega)), q_P0 hm, Option.bind_some, q_P7 hm, Option.bind_some, q_a6 hm (by omega), Option.bind_some, show (10 : Int32) = nI 10 from rfl, show (100 : Int32) = nI 100 from rfl, tp_1, pk_mul, nI_add, nI_add, nI_add, nI_add, q_w1 hm (by omega), Option.bind_some]
        refine ih (tw_up J (m + 1) (10 + 100 * t + 1 + j) (J (m + 6) j), j + 1) ⟨by dsimp only; omega, fun j' hj' => ?_, fun j' hj' => ?_, fun c hc => ?_⟩ (by dsimp only; omega)
        · dsimp only at hj' ⊢
          by_cases e2 : j' = j
          · rw [e2, tw_up_at, i4 _ (by omega)]
          · rw [tw_up_k (by omega)]; exact i2 j' (by omega)
        · dsimp only
          rw [tw_up_k (by omega)]; exact i3 j' hj'
        · dsimp only
          rw [tw_up_a hc]; exact i4 c hc) tw_F (I, 0) ⟨Nat.zero_le _, fun j hj => absurd hj (Nat.not_lt_zero j), fun _ _ => rfl, fun _ _ => rfl⟩ (tw_F_big (by dsimp only; omega))
end TPOX
section TPOY
variable {b : Nat} {σ : tw_St}
theorem o_program (h : pV b σ) (x1 : Int32) : ∃ y σ1 σ2, fX7_program σ b x1 = some (y, σ1) ∧ fX8_program σ1 (b + 160) x1 = some (y, σ2) ∧ pV b σ2 := by
  obtain ⟨n, sh, P, I⟩ := σ
  obtain ⟨C, sw, hok, hl, hm, hI, hM⟩ := h
  dsimp only at hl hm hI hM
  have hv := pV.same (n := n) hok hl hm hI hM
  have hst := hl.2.1
  have hz : ∀ t, t < 2 → C.1.2.1 t ≤ 12 := fun t ht => (hok.1.2.2.2 t ht).1
  rcases tp_th x1 with ⟨t, ht, rfl⟩ | hno
  · have hpr := (hst.2.2.2.2.2.2.2.2 t ht).2.1
    have hrd := hl.2.2.2.2.2.1
    have hpg : b + 4 ≤ pPg (b + 1) sw t ∧ pPg (b + 1) sw t < b + 8 := by unfold pPg; omega
    obtain ⟨tq, to⟩ := tp_text_ok C.2.2.2.2.1 C.2.2.2.2.2
    obtain ⟨I1, e1, r1, f1⟩ := p_read (n := n) hrd hok.2.2.2 hI.2.2.1
    have hI1 : pCI I1 b sw C := hI.reader (fun c c1 c2 c3 _ => f1 c c1 c2 c3)
    have hM1 : pMc I1 (b + 160) C := hM.kept (fun c hc => f1 c (by omega) (by omega) (by omega))
    have hfault : ∀ J, pMc J (b + 160) C → ∃ J', fX8_faultOf (n, sh, P, J) (b + 160) = some ((tp_text C.2.2.2.2.1 C.2.2.2.2.2).1, (n, sh, P, J')) ∧ ((tp_text C.2.2.2.2.1 C.2.2.2.2.2).1 = -nI 6 → pMRows J' (b + 160) (tp_text C.2.2.2.2.1 C.2.2.2.2.2).2.1 (tp_text C.2.2.2.2.1 C.2.2.2.2.2).2.2) ∧ pMc J' (b + 160) C ∧ ∀ c, c < b + 160 → J' c = J c := by
      intro J hJ
      obtain ⟨J', e2, r2, f2, k2⟩ := q_faultOf (n := n) (I := J) (T := C.2.2.2.2.1) (L := C.2.2.2.2.2) hm hok.2.2.2 ⟨fun j hj => hJ.2.2.2.1 j hj, hJ.2.2.2.2⟩
      exact ⟨J', e2, r2, hJ.reader (fun c c1 c2 _ => f2 c c1 c2) k2, fun c hc => f2 c (by omega) (by omega)⟩
    generalize tp_text C.2.2.2.2.1 C.2.2.2.2.2 = X at tq to e1 r1 hfault
    obtain ⟨w, q, o⟩ := X
    dsimp only at tq to e1 r1 hfault
    by_cases ew : w = -nI 6
    · have r1' := r1 ew
      by_cases e12 : q ≤ 12
      · have hS2 : pSok (tp_pg C.1 t q o) := tp_pg_ok hok.1 e12 to
        obtain ⟨J1, g1, h1, f2⟩ := c_rec (n := n) hl hok hI1
        have hz0 : J1 (b + 73 + 1) 0 = nI q := by
          rw [f2 _ (by omega), r1'.2.1]
          congr 1
          split <;> omega
        have s1 : pStI J1 (b + 1) sw C.1 := hI1.1.kept (fun c x y => f2 c (by omega))
        have hW : pCI (tw_up I1 (b + 71) 0 (nI 0)) b sw (tp_cT C C.2.2.2.2.1 0) := by
          obtain ⟨i1, i2, i3, i4, i5⟩ := hI1
          exact ⟨i1.kept (fun c x y => tw_up_a (by omega)), i2.kept (fun c x y _ => tw_up_a (by omega)), ⟨tw_up_at, fun i hi => absurd hi (Nat.not_lt_zero i)⟩, i4.kept (fun c x y => tw_up_a (by omega)), fun i hi => ⟨by rw [tw_up_a (by omega)]; exact (i5 i hi).1, fun z => ((i5 i hi).2 z).kept (fun c x y => tw_up_a (by omega))⟩⟩
        obtain ⟨J2, hJ2⟩ : ∃ J2, J2 = tp_cp (tw_up J1 (pPg (b + 1) sw t) 0 (J1 (b + 73 + 1) 0)) (b + 73 + 1 + 1) (pPg (b + 1) sw t + 1) 60 := ⟨_, rfl⟩
        have fJ2 : ∀ c, c ≠ pPg (b + 1) sw t → c ≠ pPg (b + 1) sw t + 1 → J2 c = J1 c := fun c c1 c2 => by rw [hJ2, tp_cp_a c2, tw_up_a c1]
        have s2 : pStI (tw_up J2 (b + 71) 0 (nI 0)) (b + 1) sw (tp_pg C.1 t q o) := by
          refine s1.pg ht ?_ (fun k hk c hc => ?_) (fun c c1 c2 c3 c4 => by rw [tw_up_a (by omega)]; exact fJ2 c c3 c4)
          · rw [tw_up_a (by omega), hJ2, tp_cp_a (by omega), tw_up_at]; exact hz0
          · rw [tw_up_a (by omega), hJ2, tp_cp_in (by omega), tw_up_a (by omega), f2 _ (by omega)]
            exact r1'.2.2 k hk (by omega) c hc
        obtain ⟨J3, e3, i3, f3, g3⟩ := c_play (n := n) (J2 := tw_up J2 (b + 71) 0 (nI 0)) hl hW hS2 (h1.kept (fun c x y => by rw [tw_up_a (by omega)]; exact fJ2 c (by omega) (by omega))) s2 (fun c c1 c2 => by
          by_cases ec : c = b + 71
          · rw [ec]
            funext k
            by_cases ek : k = 0
            · rw [ek, tw_up_at, tw_up_at]
            · rw [tw_up_k ek, tw_up_k ek, fJ2 _ (by omega) (by omega), f2 _ (by omega)]
          · rw [tw_up_a ec, tw_up_a ec, fJ2 _ (by omega) (by omega), f2 _ (by omega)])
        have hM3 : pMc J3 (b + 160) C := hM1.kept (fun c hc => by rw [f3 c hc, tw_up_a (by omega)])
        obtain ⟨J4, e4, r4, hM4, f4⟩ := hfault J3 hM3
        have r4' := r4 ew
        obtain ⟨J5, e5, r5, f5, k5⟩ := q_recC (n := n) hm hok hM4
        have hM5 := hM4.1.keep (f5 _ (by omega) (by omega))
        have hR : pMRows (tw_up J5 (b + 160 + 1) (10 + 100 * t) (nI q)) (b + 160) q o := ⟨by rw [tw_up_a (by omega), k5 8 (by decide)]; exact r4'.1, fun k hk c hc => by rw [tw_up_a (by omega), f5 _ (by omega) (by omega)]; exact r4'.2 k hk c hc⟩
        obtain ⟨J6, e6, r6, u6, f6, k6, z6⟩ := q_progLoop (n := n) hm ht e12 hR
        have hM6 : pMc J6 (b + 160) (tp_pg C.1 t q o, tp_rec C.2.1 C.1, C.2.2.1, C.2.2.2.1, C.2.2.2.2.1, 0) := by
          obtain ⟨m1, m2, m3, m4, m5⟩ := hM4
          have f7 : ∀ c, c ≠ b + 160 → c ≠ b + 160 + 1 → c ≠ b + 160 + 2 → J6 c = J4 c := fun c c1 c2 c3 => by rw [f6 c c2 c1, tw_up_a c2, f5 c c1 c3]
          refine ⟨hM5.pg hz ht e12 ?_ r6 (fun j hj => ?_), r5.kept ?_ ?_, fun i hi => ⟨by rw [f7 _ (by omega) (by omega) (by omega)]; exact (m3 i hi).1, fun z => ((m3 i hi).2 z).keep (f7 _ (by omega) (by omega) (by omega))⟩, fun j hj => absurd hj (Nat.not_lt_zero j), z6⟩
          · rw [u6 _ (by omega), tw_up_at]
          · rw [u6 _ (by omega), tw_up_k (by omega)]
          · rw [k6 2 (by decide), tw_up_a (by omega)]
          · rw [f6 _ (by omega) (by omega), tw_up_a (by omega)]
        have hi3 : pCI J3 b sw (tp_pg C.1 t q o, tp_rec C.2.1 C.1, C.2.2.1, C.2.2.2.1, C.2.2.2.2.1, 0) := i3
        have h3s : J3 (pPg (b + 1) sw t) 0 = nI q := by
          have := (i3.1.2 t ht).1
          rw [this]
          unfold tp_pg tp_u
          dsimp only
          rw [if_pos rfl]
        refine ⟨nI q, (n, sh, P, J3), (n, sh, P, J6), ?_, ?_, pV.same (C := (tp_pg C.1 t q o, tp_rec C.2.1 C.1, C.2.2.1, C.2.2.2.1, C.2.2.2.2.1, 0)) (sw := sw) ⟨hS2, (tp_rec_ok hok.1 hok.2.1), hok.2.2.1, Nat.zero_le _, fun i hi => absurd hi (Nat.not_lt_zero i)⟩ hl hm (hi3.kept (fun c hc => by rw [f6 _ (by omega) (by omega), tw_up_a (by omega), f5 _ (by omega) (by omega), f4 c hc])) hM6⟩
        · unfold fX7_program
          rw [c_is hl, Option.bind_some, c_thread _ ht, Option.bind_some, if_neg (show ¬ nI 1 = 0 by decide), c_P5 hl, Option.bind_some, e1, Option.bind_some, if_pos (show (w, (n, sh, P, I1)).1 = -6 from ew)]
          dsimp only
          rw [c_P5 hl, Option.bind_some, e_gI hrd.1, Option.bind_some, r1'.1, if_pos (show nI q ≤ 12 from nI_le e12 (by decide)), c_P6 hl, Option.bind_some, c_P0 hl, Option.bind_some, g1, Option.bind_some, c_P0 hl, Option.bind_some, r_sP1 hst, Option.bind_some, r_spg hst ht, Option.bind_some, c_P5 hl, Option.bind_some, e_gP hrd.1, hrd.2.1, Option.bind_some, p_copyFrom hpr hrd.2.2.2.1 (by omega), Option.bind_some, c_P4 hl, Option.bind_some, tp_0, e_pI hrd.2.2.2.2.1, Option.bind_some, c_P1 hl, Option.bind_some, ← hJ2, e3, Option.bind_some, c_P0 hl, Option.bind_some, r_sP1 hst, Option.bind_some, r_spg hst ht, Option.bind_some, e_gI hpr.1, Option.bind_some, h3s]
        · unfold fX8_program
          rw [q_is hm, Option.bind_some, q_thread _ ht, Option.bind_some, if_neg (show ¬ nI 1 = 0 by decide), e4, Option.bind_some, if_pos (show (w, (n, sh, P, J4)).1 = -6 from ew)]
          dsimp only
          rw [q_gI hm, Option.bind_some, r4'.1, if_pos (show nI q ≤ 12 from nI_le e12 (by decide)), e5, Option.bind_some, q_P0 hm, Option.bind_some, q_gI hm, Option.bind_some, k5 8 (by decide), r4'.1, show (10 : Int32) = nI 10 from rfl, show (100 : Int32) = nI 100 from rfl, pk_mul, nI_add, q_w1 hm (by omega), Option.bind_some]
          exact e6
      · obtain ⟨J4, e4, r4, hM4, f4⟩ := hfault I1 hM1
        have r4' := r4 ew
        refine ⟨-4, (n, sh, P, I1), (n, sh, P, J4), ?_, ?_, pV.same hok hl hm (hI1.kept f4) hM4⟩
        · unfold fX7_program
          rw [c_is hl, Option.bind_some, c_thread _ ht, Option.bind_some, if_neg (show ¬ nI 1 = 0 by decide), c_P5 hl, Option.bind_some, e1, Option.bind_some, if_pos (show (w, (n, sh, P, I1)).1 = -6 from ew)]
          dsimp only
          rw [c_P5 hl, Option.bind_some, e_gI hrd.1, Option.bind_some, r1'.1, if_neg (show ¬ nI q ≤ 12 from nI_ge (show 12 < q by omega) (by omega))]
        · unfold fX8_program
          rw [q_is hm, Option.bind_some, q_thread _ ht, Option.bind_some, if_neg (show ¬ nI 1 = 0 by decide), e4, Option.bind_some, if_pos (show (w, (n, sh, P, J4)).1 = -6 from ew)]
          dsimp only
          rw [q_gI hm, Option.bind_some, r4'.1, if_neg (show ¬ nI q ≤ 12 from nI_ge (show 12 < q by omega) (by omega))]
    · obtain ⟨J4, e4, r4, hM4, f4⟩ := hfault I1 hM1
      refine ⟨-3, (n, sh, P, I1), (n, sh, P, J4), ?_, ?_, pV.same hok hl hm (hI1.kept f4) hM4⟩
      · unfold fX7_program
        rw [c_is hl, Option.bind_some, c_thread _ ht, Option.bind_some, if_neg (show ¬ nI 1 = 0 by decide), c_P5 hl, Option.bind_some, e1, Option.bind_some, if_neg (show ¬ (w, (n, sh, P, I1)).1 = -6 from ew)]
      · unfold fX8_program
        rw [q_is hm, Option.bind_some, q_thread _ ht, Option.bind_some, if_neg (show ¬ nI 1 = 0 by decide), e4, Option.bind_some, if_neg (show ¬ (w, (n, sh, P, J4)).1 = -6 from ew)]
  · refine ⟨-1, (n, sh, P, I), (n, sh, P, I), ?_, ?_, hv⟩
    · unfold fX7_program
      rw [c_is hl, Option.bind_some, c_noThread _ hno, Option.bind_some, if_pos (show nI 0 = 0 from rfl)]
    · unfold fX8_program
      rw [q_is hm, Option.bind_some, q_noThread _ hno, Option.bind_some, if_pos (show nI 0 = 0 from rfl)]
end TPOY
